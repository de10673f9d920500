theorem dX12_code_39 : decode cX12_code 39 = .ok (.ireturn, 1) := by decide +kernel
theorem dX12_code_40 : decode cX12_code 40 = .ok (.iload_n 2, 1) := by decide +kernel
theorem dX12_code_41 : decode cX12_code 41 = .ok (.ifCond .ne 12, 3) := by decide +kernel
theorem dX12_code_44 : decode cX12_code 44 = .ok (.aload_n 0, 1) := by decide +kernel
theorem dX12_code_45 : decode cX12_code 45 = .ok (.getfield 29, 3) := by decide +kernel
theorem dX12_code_48 : decode cX12_code 48 = .ok (.iload_n 1, 1) := by decide +kernel
theorem dX12_code_49 : decode cX12_code 49 = .ok (.iaload, 1) := by decide +kernel
theorem dX12_code_50 : decode cX12_code 50 = .ok (.goto 23, 3) := by decide +kernel
theorem dX12_code_53 : decode cX12_code 53 = .ok (.iload_n 2, 1) := by decide +kernel
theorem dX12_code_54 : decode cX12_code 54 = .ok (.iconst 1, 1) := by decide +kernel
theorem dX12_code_55 : decode cX12_code 55 = .ok (.if_icmp .ne 12, 3) := by decide +kernel
theorem dX12_code_58 : decode cX12_code 58 = .ok (.aload_n 0, 1) := by decide +kernel
theorem dX12_code_59 : decode cX12_code 59 = .ok (.getfield 32, 3) := by decide +kernel
theorem dX12_code_62 : decode cX12_code 62 = .ok (.iload_n 1, 1) := by decide +kernel
theorem dX12_code_63 : decode cX12_code 63 = .ok (.iaload, 1) := by decide +kernel
theorem dX12_code_64 : decode cX12_code 64 = .ok (.goto 9, 3) := by decide +kernel
theorem dX12_code_67 : decode cX12_code 67 = .ok (.aload_n 0, 1) := by decide +kernel
theorem dX12_code_68 : decode cX12_code 68 = .ok (.getfield 35, 3) := by decide +kernel
theorem dX12_code_71 : decode cX12_code 71 = .ok (.iload_n 1, 1) := by decide +kernel
theorem dX12_code_72 : decode cX12_code 72 = .ok (.iaload, 1) := by decide +kernel
theorem dX12_code_73 : decode cX12_code 73 = .ok (.ireturn, 1) := by decide +kernel
theorem dX12_areMixed_0 : decode cX12_areMixed 0 = .ok (.aload_n 0, 1) := by decide +kernel
theorem dX12_areMixed_1 : decode cX12_areMixed 1 = .ok (.getfield 23, 3) := by decide +kernel
theorem dX12_areMixed_4 : decode cX12_areMixed 4 = .ok (.iload_n 1, 1) := by decide +kernel
theorem dX12_areMixed_5 : decode cX12_areMixed 5 = .ok (.iaload, 1) := by decide +kernel
theorem dX12_areMixed_6 : decode cX12_areMixed 6 = .ok (.aload_n 0, 1) := by decide +kernel
theorem dX12_areMixed_7 : decode cX12_areMixed 7 = .ok (.getfield 23, 3) := by decide +kernel
theorem dX12_areMixed_10 : decode cX12_areMixed 10 = .ok (.iload_n 2, 1) := by decide +kernel
theorem dX12_areMixed_11 : decode cX12_areMixed 11 = .ok (.iaload, 1) := by decide +kernel
theorem dX12_areMixed_12 : decode cX12_areMixed 12 = .ok (.aload_n 0, 1) := by decide +kernel
theorem dX12_areMixed_13 : decode cX12_areMixed 13 = .ok (.getfield 26, 3) := by decide +kernel
theorem dX12_areMixed_16 : decode cX12_areMixed 16 = .ok (.iload_n 2, 1) := by decide +kernel
theorem dX12_areMixed_17 : decode cX12_areMixed 17 = .ok (.iaload, 1) := by decide +kernel
theorem dX12_areMixed_18 : decode cX12_areMixed 18 = .ok (.iadd, 1) := by decide +kernel
theorem dX12_areMixed_19 : decode cX12_areMixed 19 = .ok (.if_icmp .ge 29, 3) := by decide +kernel
theorem dX12_areMixed_22 : decode cX12_areMixed 22 = .ok (.aload_n 0, 1) := by decide +kernel
theorem dX12_areMixed_23 : decode cX12_areMixed 23 = .ok (.getfield 23, 3) := by decide +kernel
theorem dX12_areMixed_26 : decode cX12_areMixed 26 = .ok (.iload_n 2, 1) := by decide +kernel
theorem dX12_areMixed_27 : decode cX12_areMixed 27 = .ok (.iaload, 1) := by decide +kernel
theorem dX12_areMixed_28 : decode cX12_areMixed 28 = .ok (.aload_n 0, 1) := by decide +kernel
theorem dX12_areMixed_29 : decode cX12_areMixed 29 = .ok (.getfield 23, 3) := by decide +kernel
theorem dX12_areMixed_32 : decode cX12_areMixed 32 = .ok (.iload_n 1, 1) := by decide +kernel
theorem dX12_areMixed_33 : decode cX12_areMixed 33 = .ok (.iaload, 1) := by decide +kernel
theorem dX12_areMixed_34 : decode cX12_areMixed 34 = .ok (.aload_n 0, 1) := by decide +kernel
theorem dX12_areMixed_35 : decode cX12_areMixed 35 = .ok (.getfield 26, 3) := by decide +kernel
theorem dX12_areMixed_38 : decode cX12_areMixed 38 = .ok (.iload_n 1, 1) := by decide +kernel
theorem dX12_areMixed_39 : decode cX12_areMixed 39 = .ok (.iaload, 1) := by decide +kernel
theorem dX12_areMixed_40 : decode cX12_areMixed 40 = .ok (.iadd, 1) := by decide +kernel
theorem dX12_areMixed_41 : decode cX12_areMixed 41 = .ok (.if_icmp .ge 7, 3) := by decide +kernel
theorem dX12_areMixed_44 : decode cX12_areMixed 44 = .ok (.iconst 1, 1) := by decide +kernel
theorem dX12_areMixed_45 : decode cX12_areMixed 45 = .ok (.goto 4, 3) := by decide +kernel
theorem dX12_areMixed_48 : decode cX12_areMixed 48 = .ok (.iconst 0, 1) := by decide +kernel
theorem dX12_areMixed_49 : decode cX12_areMixed 49 = .ok (.ireturn, 1) := by decide +kernel
theorem dX12_row_0 : decode cX12_row 0 = .ok (.aload_n 0, 1) := by decide +kernel
theorem dX12_row_1 : decode cX12_row 1 = .ok (.iconst 0, 1) := by decide +kernel
theorem dX12_row_2 : decode cX12_row 2 = .ok (.putfield 142, 3) := by decide +kernel
theorem dX12_row_5 : decode cX12_row 5 = .ok (.iload_n 1, 1) := by decide +kernel
theorem dX12_row_6 : decode cX12_row 6 = .ok (.ifCond .lt 20, 3) := by decide +kernel
theorem dX12_row_9 : decode cX12_row 9 = .ok (.iload_n 1, 1) := by decide +kernel
theorem dX12_row_10 : decode cX12_row 10 = .ok (.aload_n 0, 1) := by decide +kernel
theorem dX12_row_11 : decode cX12_row 11 = .ok (.getfield 320, 3) := by decide +kernel
theorem dX12_row_14 : decode cX12_row 14 = .ok (.if_icmp .ge 12, 3) := by decide +kernel
theorem dX12_row_17 : decode cX12_row 17 = .ok (.iload_n 2, 1) := by decide +kernel
theorem dX12_row_18 : decode cX12_row 18 = .ok (.ifCond .lt 8, 3) := by decide +kernel
theorem dX12_row_21 : decode cX12_row 21 = .ok (.iload_n 2, 1) := by decide +kernel
theorem dX12_row_22 : decode cX12_row 22 = .ok (.iconst 2, 1) := by decide +kernel
theorem dX12_row_23 : decode cX12_row 23 = .ok (.if_icmp .le 5, 3) := by decide +kernel
theorem dX12_row_26 : decode cX12_row 26 = .ok (.iconst (-1), 1) := by decide +kernel
theorem dX12_row_27 : decode cX12_row 27 = .ok (.ireturn, 1) := by decide +kernel
theorem dX12_row_28 : decode cX12_row 28 = .ok (.iload_n 2, 1) := by decide +kernel
theorem dX12_row_29 : decode cX12_row 29 = .ok (.iconst 2, 1) := by decide +kernel
theorem dX12_row_30 : decode cX12_row 30 = .ok (.if_icmp .ge 23, 3) := by decide +kernel
theorem dX12_row_33 : decode cX12_row 33 = .ok (.iload_n 2, 1) := by decide +kernel
theorem dX12_row_34 : decode cX12_row 34 = .ok (.ifCond .ne 12, 3) := by decide +kernel
theorem dX12_row_37 : decode cX12_row 37 = .ok (.aload_n 0, 1) := by decide +kernel
theorem dX12_row_38 : decode cX12_row 38 = .ok (.getfield 26, 3) := by decide +kernel
theorem dX12_row_41 : decode cX12_row 41 = .ok (.iload_n 1, 1) := by decide +kernel
theorem dX12_row_42 : decode cX12_row 42 = .ok (.iaload, 1) := by decide +kernel
theorem dX12_row_43 : decode cX12_row 43 = .ok (.goto 9, 3) := by decide +kernel
theorem dX12_row_46 : decode cX12_row 46 = .ok (.aload_n 0, 1) := by decide +kernel
theorem dX12_row_47 : decode cX12_row 47 = .ok (.getfield 23, 3) := by decide +kernel
theorem dX12_row_50 : decode cX12_row 50 = .ok (.iload_n 1, 1) := by decide +kernel
theorem dX12_row_51 : decode cX12_row 51 = .ok (.iaload, 1) := by decide +kernel
theorem dX12_row_52 : decode cX12_row 52 = .ok (.ireturn, 1) := by decide +kernel
theorem dX12_row_53 : decode cX12_row 53 = .ok (.iconst 0, 1) := by decide +kernel
theorem dX12_row_54 : decode cX12_row 54 = .ok (.istore_n 3, 1) := by decide +kernel
theorem dX12_row_55 : decode cX12_row 55 = .ok (.iconst 0, 1) := by decide +kernel
theorem dX12_row_56 : decode cX12_row 56 = .ok (.istore 4, 2) := by decide +kernel
theorem dX12_row_58 : decode cX12_row 58 = .ok (.iload 4, 2) := by decide +kernel
theorem dX12_row_60 : decode cX12_row 60 = .ok (.aload_n 0, 1) := by decide +kernel
theorem dX12_row_61 : decode cX12_row 61 = .ok (.getfield 320, 3) := by decide +kernel
theorem dX12_row_64 : decode cX12_row 64 = .ok (.if_icmp .ge 27, 3) := by decide +kernel
theorem dX12_row_67 : decode cX12_row 67 = .ok (.iload_n 3, 1) := by decide +kernel
theorem dX12_row_68 : decode cX12_row 68 = .ok (.aload_n 0, 1) := by decide +kernel
theorem dX12_row_69 : decode cX12_row 69 = .ok (.iload_n 1, 1) := by decide +kernel
theorem dX12_row_70 : decode cX12_row 70 = .ok (.iload 4, 2) := by decide +kernel
theorem dX12_row_72 : decode cX12_row 72 = .ok (.invokevirtual 416, 3) := by decide +kernel
theorem dX12_row_75 : decode cX12_row 75 = .ok (.ifCond .eq 7, 3) := by decide +kernel
theorem dX12_row_78 : decode cX12_row 78 = .ok (.iconst 1, 1) := by decide +kernel
theorem dX12_row_79 : decode cX12_row 79 = .ok (.goto 4, 3) := by decide +kernel
theorem dX12_row_82 : decode cX12_row 82 = .ok (.iconst 0, 1) := by decide +kernel
theorem dX12_row_83 : decode cX12_row 83 = .ok (.iadd, 1) := by decide +kernel
theorem dX12_row_84 : decode cX12_row 84 = .ok (.istore_n 3, 1) := by decide +kernel
theorem dX12_row_85 : decode cX12_row 85 = .ok (.iinc 4 1, 3) := by decide +kernel
theorem dX12_row_88 : decode cX12_row 88 = .ok (.goto (-30), 3) := by decide +kernel
theorem dX12_row_91 : decode cX12_row 91 = .ok (.iload_n 3, 1) := by decide +kernel
theorem dX12_row_92 : decode cX12_row 92 = .ok (.ireturn, 1) := by decide +kernel
theorem dX12_variable_0 : decode cX12_variable 0 = .ok (.aload_n 0, 1) := by decide +kernel
theorem dX12_variable_1 : decode cX12_variable 1 = .ok (.iconst 0, 1) := by decide +kernel
theorem dX12_variable_2 : decode cX12_variable 2 = .ok (.putfield 142, 3) := by decide +kernel
theorem dX12_variable_5 : decode cX12_variable 5 = .ok (.iload_n 1, 1) := by decide +kernel
theorem dX12_variable_6 : decode cX12_variable 6 = .ok (.ifCond .lt 20, 3) := by decide +kernel
theorem dX12_variable_9 : decode cX12_variable 9 = .ok (.iload_n 1, 1) := by decide +kernel
theorem dX12_variable_10 : decode cX12_variable 10 = .ok (.aload_n 0, 1) := by decide +kernel
theorem dX12_variable_11 : decode cX12_variable 11 = .ok (.getfield 317, 3) := by decide +kernel
theorem dX12_variable_14 : decode cX12_variable 14 = .ok (.if_icmp .ge 12, 3) := by decide +kernel
theorem dX12_variable_17 : decode cX12_variable 17 = .ok (.iload_n 2, 1) := by decide +kernel
theorem dX12_variable_18 : decode cX12_variable 18 = .ok (.ifCond .lt 8, 3) := by decide +kernel
theorem dX12_variable_21 : decode cX12_variable 21 = .ok (.iload_n 2, 1) := by decide +kernel
theorem dX12_variable_22 : decode cX12_variable 22 = .ok (.iconst 1, 1) := by decide +kernel
theorem dX12_variable_23 : decode cX12_variable 23 = .ok (.if_icmp .le 6, 3) := by decide +kernel
theorem dX12_variable_26 : decode cX12_variable 26 = .ok (.bipush (-10), 2) := by decide +kernel
theorem dX12_variable_28 : decode cX12_variable 28 = .ok (.ireturn, 1) := by decide +kernel
theorem dX12_variable_29 : decode cX12_variable 29 = .ok (.iload_n 2, 1) := by decide +kernel
theorem dX12_variable_30 : decode cX12_variable 30 = .ok (.ifCond .ne 13, 3) := by decide +kernel
theorem dX12_variable_33 : decode cX12_variable 33 = .ok (.aload_n 0, 1) := by decide +kernel
theorem dX12_variable_34 : decode cX12_variable 34 = .ok (.getfield 75, 3) := by decide +kernel
theorem dX12_variable_37 : decode cX12_variable 37 = .ok (.iload_n 1, 1) := by decide +kernel
theorem dX12_variable_38 : decode cX12_variable 38 = .ok (.laload, 1) := by decide +kernel
theorem dX12_variable_39 : decode cX12_variable 39 = .ok (.l2i, 1) := by decide +kernel
theorem dX12_variable_40 : decode cX12_variable 40 = .ok (.goto 9, 3) := by decide +kernel
theorem dX12_variable_43 : decode cX12_variable 43 = .ok (.aload_n 0, 1) := by decide +kernel
theorem dX12_variable_44 : decode cX12_variable 44 = .ok (.getfield 78, 3) := by decide +kernel
theorem dX12_variable_47 : decode cX12_variable 47 = .ok (.iload_n 1, 1) := by decide +kernel
theorem dX12_variable_48 : decode cX12_variable 48 = .ok (.iaload, 1) := by decide +kernel
theorem dX12_variable_49 : decode cX12_variable 49 = .ok (.ireturn, 1) := by decide +kernel
theorem dX12_cell_0 : decode cX12_cell 0 = .ok (.aload_n 0, 1) := by decide +kernel
theorem dX12_cell_1 : decode cX12_cell 1 = .ok (.iconst 0, 1) := by decide +kernel
theorem dX12_cell_2 : decode cX12_cell 2 = .ok (.putfield 142, 3) := by decide +kernel
theorem dX12_cell_5 : decode cX12_cell 5 = .ok (.iload_n 1, 1) := by decide +kernel
theorem dX12_cell_6 : decode cX12_cell 6 = .ok (.ifCond .lt 20, 3) := by decide +kernel
theorem dX12_cell_9 : decode cX12_cell 9 = .ok (.iload_n 1, 1) := by decide +kernel
theorem dX12_cell_10 : decode cX12_cell 10 = .ok (.aload_n 0, 1) := by decide +kernel
theorem dX12_cell_11 : decode cX12_cell 11 = .ok (.getfield 323, 3) := by decide +kernel
theorem dX12_cell_14 : decode cX12_cell 14 = .ok (.if_icmp .ge 12, 3) := by decide +kernel
theorem dX12_cell_17 : decode cX12_cell 17 = .ok (.iload_n 2, 1) := by decide +kernel
theorem dX12_cell_18 : decode cX12_cell 18 = .ok (.ifCond .lt 8, 3) := by decide +kernel
theorem dX12_cell_21 : decode cX12_cell 21 = .ok (.iload_n 2, 1) := by decide +kernel
theorem dX12_cell_22 : decode cX12_cell 22 = .ok (.iconst 1, 1) := by decide +kernel
theorem dX12_cell_23 : decode cX12_cell 23 = .ok (.if_icmp .le 6, 3) := by decide +kernel
theorem dX12_cell_26 : decode cX12_cell 26 = .ok (.bipush (-10), 2) := by decide +kernel
theorem dX12_cell_28 : decode cX12_cell 28 = .ok (.ireturn, 1) := by decide +kernel
theorem dX12_cell_29 : decode cX12_cell 29 = .ok (.iload_n 2, 1) := by decide +kernel
theorem dX12_cell_30 : decode cX12_cell 30 = .ok (.ifCond .ne 13, 3) := by decide +kernel
theorem dX12_cell_33 : decode cX12_cell 33 = .ok (.aload_n 0, 1) := by decide +kernel
theorem dX12_cell_34 : decode cX12_cell 34 = .ok (.getfield 81, 3) := by decide +kernel
theorem dX12_cell_37 : decode cX12_cell 37 = .ok (.iload_n 1, 1) := by decide +kernel
theorem dX12_cell_38 : decode cX12_cell 38 = .ok (.laload, 1) := by decide +kernel
theorem dX12_cell_39 : decode cX12_cell 39 = .ok (.l2i, 1) := by decide +kernel
theorem dX12_cell_40 : decode cX12_cell 40 = .ok (.goto 9, 3) := by decide +kernel
theorem dX12_cell_43 : decode cX12_cell 43 = .ok (.aload_n 0, 1) := by decide +kernel
theorem dX12_cell_44 : decode cX12_cell 44 = .ok (.getfield 84, 3) := by decide +kernel
theorem dX12_cell_47 : decode cX12_cell 47 = .ok (.iload_n 1, 1) := by decide +kernel
theorem dX12_cell_48 : decode cX12_cell 48 = .ok (.iaload, 1) := by decide +kernel
theorem dX12_cell_49 : decode cX12_cell 49 = .ok (.ireturn, 1) := by decide +kernel
theorem dX12_isOut_0 : decode cX12_isOut 0 = .ok (.iload_n 1, 1) := by decide +kernel
theorem dX12_isOut_1 : decode cX12_isOut 1 = .ok (.ifCond .lt 15, 3) := by decide +kernel
theorem dX12_isOut_4 : decode cX12_isOut 4 = .ok (.iload_n 1, 1) := by decide +kernel
theorem dX12_isOut_5 : decode cX12_isOut 5 = .ok (.aload_n 0, 1) := by decide +kernel
theorem dX12_isOut_6 : decode cX12_isOut 6 = .ok (.getfield 356, 3) := by decide +kernel
theorem dX12_isOut_9 : decode cX12_isOut 9 = .ok (.if_icmp .ge 7, 3) := by decide +kernel
theorem dX12_isOut_12 : decode cX12_isOut 12 = .ok (.iconst 1, 1) := by decide +kernel
theorem dX12_isOut_13 : decode cX12_isOut 13 = .ok (.goto 4, 3) := by decide +kernel
theorem dX12_isOut_16 : decode cX12_isOut 16 = .ok (.iconst 0, 1) := by decide +kernel
theorem dX12_isOut_17 : decode cX12_isOut 17 = .ok (.ireturn, 1) := by decide +kernel
theorem dX12_isInput_0 : decode cX12_isInput 0 = .ok (.iload_n 1, 1) := by decide +kernel
theorem dX12_isInput_1 : decode cX12_isInput 1 = .ok (.ifCond .lt 15, 3) := by decide +kernel
theorem dX12_isInput_4 : decode cX12_isInput 4 = .ok (.iload_n 1, 1) := by decide +kernel
theorem dX12_isInput_5 : decode cX12_isInput 5 = .ok (.aload_n 0, 1) := by decide +kernel
theorem dX12_isInput_6 : decode cX12_isInput 6 = .ok (.getfield 314, 3) := by decide +kernel
theorem dX12_isInput_9 : decode cX12_isInput 9 = .ok (.if_icmp .ge 7, 3) := by decide +kernel
theorem dX12_isInput_12 : decode cX12_isInput 12 = .ok (.iconst 1, 1) := by decide +kernel
theorem dX12_isInput_13 : decode cX12_isInput 13 = .ok (.goto 4, 3) := by decide +kernel
theorem dX12_isInput_16 : decode cX12_isInput 16 = .ok (.iconst 0, 1) := by decide +kernel
theorem dX12_isInput_17 : decode cX12_isInput 17 = .ok (.ireturn, 1) := by decide +kernel
theorem dX12_isEntry_0 : decode cX12_isEntry 0 = .ok (.iload_n 1, 1) := by decide +kernel
theorem dX12_isEntry_1 : decode cX12_isEntry 1 = .ok (.ifCond .lt 15, 3) := by decide +kernel
theorem dX12_isEntry_4 : decode cX12_isEntry 4 = .ok (.iload_n 1, 1) := by decide +kernel
theorem dX12_isEntry_5 : decode cX12_isEntry 5 = .ok (.aload_n 0, 1) := by decide +kernel
theorem dX12_isEntry_6 : decode cX12_isEntry 6 = .ok (.getfield 353, 3) := by decide +kernel
theorem dX12_isEntry_9 : decode cX12_isEntry 9 = .ok (.if_icmp .ge 7, 3) := by decide +kernel
theorem dX12_isEntry_12 : decode cX12_isEntry 12 = .ok (.iconst 1, 1) := by decide +kernel
theorem dX12_isEntry_13 : decode cX12_isEntry 13 = .ok (.goto 4, 3) := by decide +kernel
theorem dX12_isEntry_16 : decode cX12_isEntry 16 = .ok (.iconst 0, 1) := by decide +kernel
theorem dX12_isEntry_17 : decode cX12_isEntry 17 = .ok (.ireturn, 1) := by decide +kernel
theorem dX12_out_0 : decode cX12_out 0 = .ok (.aload_n 0, 1) := by decide +kernel
theorem dX12_out_1 : decode cX12_out 1 = .ok (.iconst 0, 1) := by decide +kernel
theorem dX12_out_2 : decode cX12_out 2 = .ok (.putfield 142, 3) := by decide +kernel
theorem dX12_out_5 : decode cX12_out 5 = .ok (.aload_n 0, 1) := by decide +kernel
theorem dX12_out_6 : decode cX12_out 6 = .ok (.iload_n 1, 1) := by decide +kernel
theorem dX12_out_7 : decode cX12_out 7 = .ok (.invokevirtual 420, 3) := by decide +kernel
theorem dX12_out_10 : decode cX12_out 10 = .ok (.ifCond .eq 12, 3) := by decide +kernel
theorem dX12_out_13 : decode cX12_out 13 = .ok (.iload_n 2, 1) := by decide +kernel
theorem dX12_out_14 : decode cX12_out 14 = .ok (.ifCond .lt 8, 3) := by decide +kernel
theorem dX12_out_17 : decode cX12_out 17 = .ok (.iload_n 2, 1) := by decide +kernel
theorem dX12_out_18 : decode cX12_out 18 = .ok (.iconst 1, 1) := by decide +kernel
theorem dX12_out_19 : decode cX12_out 19 = .ok (.if_icmp .le 6, 3) := by decide +kernel
theorem dX12_out_22 : decode cX12_out 22 = .ok (.bipush (-10), 2) := by decide +kernel
theorem dX12_out_24 : decode cX12_out 24 = .ok (.ireturn, 1) := by decide +kernel
theorem dX12_out_25 : decode cX12_out 25 = .ok (.iload_n 2, 1) := by decide +kernel
theorem dX12_out_26 : decode cX12_out 26 = .ok (.ifCond .ne 13, 3) := by decide +kernel
theorem dX12_out_29 : decode cX12_out 29 = .ok (.aload_n 0, 1) := by decide +kernel
theorem dX12_out_30 : decode cX12_out 30 = .ok (.getfield 87, 3) := by decide +kernel
theorem dX12_out_33 : decode cX12_out 33 = .ok (.iload_n 1, 1) := by decide +kernel
theorem dX12_out_34 : decode cX12_out 34 = .ok (.laload, 1) := by decide +kernel
theorem dX12_out_35 : decode cX12_out 35 = .ok (.l2i, 1) := by decide +kernel
theorem dX12_out_36 : decode cX12_out 36 = .ok (.goto 9, 3) := by decide +kernel
theorem dX12_out_39 : decode cX12_out 39 = .ok (.aload_n 0, 1) := by decide +kernel
theorem dX12_out_40 : decode cX12_out 40 = .ok (.getfield 90, 3) := by decide +kernel
theorem dX12_out_43 : decode cX12_out 43 = .ok (.iload_n 1, 1) := by decide +kernel
theorem dX12_out_44 : decode cX12_out 44 = .ok (.iaload, 1) := by decide +kernel
theorem dX12_out_45 : decode cX12_out 45 = .ok (.ireturn, 1) := by decide +kernel
theorem dX12_run_0 : decode cX12_run 0 = .ok (.aload_n 0, 1) := by decide +kernel
theorem dX12_run_1 : decode cX12_run 1 = .ok (.iconst 0, 1) := by decide +kernel
theorem dX12_run_2 : decode cX12_run 2 = .ok (.putfield 142, 3) := by decide +kernel
theorem dX12_run_5 : decode cX12_run 5 = .ok (.iload_n 1, 1) := by decide +kernel
theorem dX12_run_6 : decode cX12_run 6 = .ok (.tableswitch 77 0 6 #[42, 47, 52, 57, 62, 67, 72], 42) := by decide +kernel
theorem dX12_run_48 : decode cX12_run 48 = .ok (.aload_n 0, 1) := by decide +kernel
theorem dX12_run_49 : decode cX12_run 49 = .ok (.getfield 365, 3) := by decide +kernel
theorem dX12_run_52 : decode cX12_run 52 = .ok (.ireturn, 1) := by decide +kernel
theorem dX12_run_53 : decode cX12_run 53 = .ok (.aload_n 0, 1) := by decide +kernel
theorem dX12_run_54 : decode cX12_run 54 = .ok (.getfield 368, 3) := by decide +kernel
theorem dX12_run_57 : decode cX12_run 57 = .ok (.ireturn, 1) := by decide +kernel
theorem dX12_run_58 : decode cX12_run 58 = .ok (.aload_n 0, 1) := by decide +kernel
theorem dX12_run_59 : decode cX12_run 59 = .ok (.getfield 371, 3) := by decide +kernel
theorem dX12_run_62 : decode cX12_run 62 = .ok (.ireturn, 1) := by decide +kernel
theorem dX12_run_63 : decode cX12_run 63 = .ok (.aload_n 0, 1) := by decide +kernel
theorem dX12_run_64 : decode cX12_run 64 = .ok (.getfield 356, 3) := by decide +kernel
theorem dX12_run_67 : decode cX12_run 67 = .ok (.ireturn, 1) := by decide +kernel
theorem dX12_run_68 : decode cX12_run 68 = .ok (.aload_n 0, 1) := by decide +kernel
theorem dX12_run_69 : decode cX12_run 69 = .ok (.getfield 353, 3) := by decide +kernel
theorem dX12_run_72 : decode cX12_run 72 = .ok (.ireturn, 1) := by decide +kernel
theorem dX12_run_73 : decode cX12_run 73 = .ok (.aload_n 0, 1) := by decide +kernel
theorem dX12_run_74 : decode cX12_run 74 = .ok (.getfield 359, 3) := by decide +kernel
theorem dX12_run_77 : decode cX12_run 77 = .ok (.ireturn, 1) := by decide +kernel
theorem dX12_run_78 : decode cX12_run 78 = .ok (.aload_n 0, 1) := by decide +kernel
theorem dX12_run_79 : decode cX12_run 79 = .ok (.getfield 362, 3) := by decide +kernel
theorem dX12_run_82 : decode cX12_run 82 = .ok (.ireturn, 1) := by decide +kernel
theorem dX12_run_83 : decode cX12_run 83 = .ok (.iconst (-1), 1) := by decide +kernel
theorem dX12_run_84 : decode cX12_run 84 = .ok (.ireturn, 1) := by decide +kernel
theorem dX12_path_0 : decode cX12_path 0 = .ok (.aload_n 0, 1) := by decide +kernel
theorem dX12_path_1 : decode cX12_path 1 = .ok (.iconst 0, 1) := by decide +kernel
theorem dX12_path_2 : decode cX12_path 2 = .ok (.putfield 142, 3) := by decide +kernel
theorem dX12_path_5 : decode cX12_path 5 = .ok (.iload_n 1, 1) := by decide +kernel
theorem dX12_path_6 : decode cX12_path 6 = .ok (.ifCond .ge 7, 3) := by decide +kernel
theorem dX12_path_9 : decode cX12_path 9 = .ok (.iconst (-1), 1) := by decide +kernel
theorem dX12_path_10 : decode cX12_path 10 = .ok (.goto 22, 3) := by decide +kernel
theorem dX12_path_13 : decode cX12_path 13 = .ok (.iload_n 1, 1) := by decide +kernel
theorem dX12_path_14 : decode cX12_path 14 = .ok (.aload_n 0, 1) := by decide +kernel
theorem dX12_path_15 : decode cX12_path 15 = .ok (.getfield 359, 3) := by decide +kernel
theorem dX12_path_18 : decode cX12_path 18 = .ok (.if_icmp .ge 12, 3) := by decide +kernel
theorem dX12_path_21 : decode cX12_path 21 = .ok (.aload_n 0, 1) := by decide +kernel
theorem dX12_path_22 : decode cX12_path 22 = .ok (.getfield 93, 3) := by decide +kernel
theorem dX12_path_25 : decode cX12_path 25 = .ok (.iload_n 1, 1) := by decide +kernel
theorem dX12_path_26 : decode cX12_path 26 = .ok (.iaload, 1) := by decide +kernel
theorem dX12_path_27 : decode cX12_path 27 = .ok (.goto 5, 3) := by decide +kernel
theorem dX12_path_30 : decode cX12_path 30 = .ok (.bipush (-2), 2) := by decide +kernel
theorem dX12_path_32 : decode cX12_path 32 = .ok (.ireturn, 1) := by decide +kernel
theorem dX12_laysOn_0 : decode cX12_laysOn 0 = .ok (.iconst 0, 1) := by decide +kernel
theorem dX12_laysOn_1 : decode cX12_laysOn 1 = .ok (.istore_n 2, 1) := by decide +kernel
theorem dX12_laysOn_2 : decode cX12_laysOn 2 = .ok (.iload_n 2, 1) := by decide +kernel
theorem dX12_laysOn_3 : decode cX12_laysOn 3 = .ok (.aload_n 0, 1) := by decide +kernel
theorem dX12_laysOn_4 : decode cX12_laysOn 4 = .ok (.getfield 353, 3) := by decide +kernel
theorem dX12_laysOn_7 : decode cX12_laysOn 7 = .ok (.if_icmp .ge 53, 3) := by decide +kernel
theorem dX12_laysOn_10 : decode cX12_laysOn 10 = .ok (.aload_n 0, 1) := by decide +kernel
theorem dX12_laysOn_11 : decode cX12_laysOn 11 = .ok (.getfield 99, 3) := by decide +kernel
theorem dX12_laysOn_14 : decode cX12_laysOn 14 = .ok (.iload_n 2, 1) := by decide +kernel
theorem dX12_laysOn_15 : decode cX12_laysOn 15 = .ok (.iload_n 2, 1) := by decide +kernel
theorem dX12_laysOn_16 : decode cX12_laysOn 16 = .ok (.iload_n 1, 1) := by decide +kernel
theorem dX12_laysOn_17 : decode cX12_laysOn 17 = .ok (.if_icmp .eq 31, 3) := by decide +kernel
theorem dX12_laysOn_20 : decode cX12_laysOn 20 = .ok (.aload_n 0, 1) := by decide +kernel
theorem dX12_laysOn_21 : decode cX12_laysOn 21 = .ok (.aload_n 0, 1) := by decide +kernel
theorem dX12_laysOn_22 : decode cX12_laysOn 22 = .ok (.getfield 60, 3) := by decide +kernel
theorem dX12_laysOn_25 : decode cX12_laysOn 25 = .ok (.iload_n 2, 1) := by decide +kernel
theorem dX12_laysOn_26 : decode cX12_laysOn 26 = .ok (.iaload, 1) := by decide +kernel
theorem dX12_laysOn_27 : decode cX12_laysOn 27 = .ok (.iload_n 1, 1) := by decide +kernel
theorem dX12_laysOn_28 : decode cX12_laysOn 28 = .ok (.invokevirtual 423, 3) := by decide +kernel
theorem dX12_laysOn_31 : decode cX12_laysOn 31 = .ok (.ifCond .ne 17, 3) := by decide +kernel
theorem dX12_laysOn_34 : decode cX12_laysOn 34 = .ok (.aload_n 0, 1) := by decide +kernel
theorem dX12_laysOn_35 : decode cX12_laysOn 35 = .ok (.aload_n 0, 1) := by decide +kernel
theorem dX12_laysOn_36 : decode cX12_laysOn 36 = .ok (.getfield 63, 3) := by decide +kernel
theorem dX12_laysOn_39 : decode cX12_laysOn 39 = .ok (.iload_n 2, 1) := by decide +kernel
theorem dX12_laysOn_40 : decode cX12_laysOn 40 = .ok (.iaload, 1) := by decide +kernel
theorem dX12_laysOn_41 : decode cX12_laysOn 41 = .ok (.iload_n 1, 1) := by decide +kernel
theorem dX12_laysOn_42 : decode cX12_laysOn 42 = .ok (.invokevirtual 423, 3) := by decide +kernel
theorem dX12_laysOn_45 : decode cX12_laysOn 45 = .ok (.ifCond .eq 7, 3) := by decide +kernel
theorem dX12_laysOn_48 : decode cX12_laysOn 48 = .ok (.iconst 1, 1) := by decide +kernel
theorem dX12_laysOn_49 : decode cX12_laysOn 49 = .ok (.goto 4, 3) := by decide +kernel
theorem dX12_laysOn_52 : decode cX12_laysOn 52 = .ok (.iconst 0, 1) := by decide +kernel
theorem dX12_laysOn_53 : decode cX12_laysOn 53 = .ok (.bastore, 1) := by decide +kernel
theorem dX12_laysOn_54 : decode cX12_laysOn 54 = .ok (.iinc 2 1, 3) := by decide +kernel
theorem dX12_laysOn_57 : decode cX12_laysOn 57 = .ok (.goto (-55), 3) := by decide +kernel
theorem dX12_laysOn_60 : decode cX12_laysOn 60 = .ok (.return_, 1) := by decide +kernel
theorem dX12_isOn_0 : decode cX12_isOn 0 = .ok (.iload_n 1, 1) := by decide +kernel
theorem dX12_isOn_1 : decode cX12_isOn 1 = .ok (.iload_n 2, 1) := by decide +kernel
theorem dX12_isOn_2 : decode cX12_isOn 2 = .ok (.if_icmp .eq 23, 3) := by decide +kernel
theorem dX12_isOn_5 : decode cX12_isOn 5 = .ok (.iload_n 1, 1) := by decide +kernel
theorem dX12_isOn_6 : decode cX12_isOn 6 = .ok (.ifCond .lt 23, 3) := by decide +kernel
theorem dX12_isOn_9 : decode cX12_isOn 9 = .ok (.iload_n 1, 1) := by decide +kernel
theorem dX12_isOn_10 : decode cX12_isOn 10 = .ok (.sipush 1000, 3) := by decide +kernel
theorem dX12_isOn_13 : decode cX12_isOn 13 = .ok (.if_icmp .ge 16, 3) := by decide +kernel
theorem dX12_isOn_16 : decode cX12_isOn 16 = .ok (.aload_n 0, 1) := by decide +kernel
theorem dX12_isOn_17 : decode cX12_isOn 17 = .ok (.getfield 99, 3) := by decide +kernel
theorem dX12_isOn_20 : decode cX12_isOn 20 = .ok (.iload_n 1, 1) := by decide +kernel
theorem dX12_isOn_21 : decode cX12_isOn 21 = .ok (.baload, 1) := by decide +kernel
theorem dX12_isOn_22 : decode cX12_isOn 22 = .ok (.ifCond .eq 7, 3) := by decide +kernel
theorem dX12_isOn_25 : decode cX12_isOn 25 = .ok (.iconst 1, 1) := by decide +kernel
theorem dX12_isOn_26 : decode cX12_isOn 26 = .ok (.goto 4, 3) := by decide +kernel
theorem dX12_isOn_29 : decode cX12_isOn 29 = .ok (.iconst 0, 1) := by decide +kernel
theorem dX12_isOn_30 : decode cX12_isOn 30 = .ok (.ireturn, 1) := by decide +kernel
theorem dX12_laysBack_0 : decode cX12_laysBack 0 = .ok (.iconst 0, 1) := by decide +kernel
theorem dX12_laysBack_1 : decode cX12_laysBack 1 = .ok (.istore_n 2, 1) := by decide +kernel
theorem dX12_laysBack_2 : decode cX12_laysBack 2 = .ok (.iload_n 2, 1) := by decide +kernel
theorem dX12_laysBack_3 : decode cX12_laysBack 3 = .ok (.aload_n 0, 1) := by decide +kernel
theorem dX12_laysBack_4 : decode cX12_laysBack 4 = .ok (.getfield 353, 3) := by decide +kernel
theorem dX12_laysBack_7 : decode cX12_laysBack 7 = .ok (.if_icmp .ge 30, 3) := by decide +kernel
theorem dX12_laysBack_10 : decode cX12_laysBack 10 = .ok (.aload_n 0, 1) := by decide +kernel
theorem dX12_laysBack_11 : decode cX12_laysBack 11 = .ok (.getfield 99, 3) := by decide +kernel
theorem dX12_laysBack_14 : decode cX12_laysBack 14 = .ok (.iload_n 2, 1) := by decide +kernel
theorem dX12_laysBack_15 : decode cX12_laysBack 15 = .ok (.iload_n 2, 1) := by decide +kernel
theorem dX12_laysBack_16 : decode cX12_laysBack 16 = .ok (.aload_n 0, 1) := by decide +kernel
theorem dX12_laysBack_17 : decode cX12_laysBack 17 = .ok (.getfield 90, 3) := by decide +kernel
theorem dX12_laysBack_20 : decode cX12_laysBack 20 = .ok (.iload_n 1, 1) := by decide +kernel
theorem dX12_laysBack_21 : decode cX12_laysBack 21 = .ok (.iaload, 1) := by decide +kernel
theorem dX12_laysBack_22 : decode cX12_laysBack 22 = .ok (.if_icmp .ne 7, 3) := by decide +kernel
theorem dX12_laysBack_25 : decode cX12_laysBack 25 = .ok (.iconst 1, 1) := by decide +kernel
theorem dX12_laysBack_26 : decode cX12_laysBack 26 = .ok (.goto 4, 3) := by decide +kernel
theorem dX12_laysBack_29 : decode cX12_laysBack 29 = .ok (.iconst 0, 1) := by decide +kernel
theorem dX12_laysBack_30 : decode cX12_laysBack 30 = .ok (.bastore, 1) := by decide +kernel
theorem dX12_laysBack_31 : decode cX12_laysBack 31 = .ok (.iinc 2 1, 3) := by decide +kernel
theorem dX12_laysBack_34 : decode cX12_laysBack 34 = .ok (.goto (-32), 3) := by decide +kernel
theorem dX12_laysBack_37 : decode cX12_laysBack 37 = .ok (.aload_n 0, 1) := by decide +kernel
theorem dX12_laysBack_38 : decode cX12_laysBack 38 = .ok (.getfield 353, 3) := by decide +kernel
theorem dX12_laysBack_41 : decode cX12_laysBack 41 = .ok (.iconst 1, 1) := by decide +kernel
theorem dX12_laysBack_42 : decode cX12_laysBack 42 = .ok (.isub, 1) := by decide +kernel
theorem dX12_laysBack_43 : decode cX12_laysBack 43 = .ok (.istore_n 2, 1) := by decide +kernel
theorem dX12_laysBack_44 : decode cX12_laysBack 44 = .ok (.iload_n 2, 1) := by decide +kernel
theorem dX12_laysBack_45 : decode cX12_laysBack 45 = .ok (.ifCond .lt 87, 3) := by decide +kernel
theorem dX12_laysBack_48 : decode cX12_laysBack 48 = .ok (.aload_n 0, 1) := by decide +kernel
theorem dX12_laysBack_49 : decode cX12_laysBack 49 = .ok (.getfield 99, 3) := by decide +kernel
theorem dX12_laysBack_52 : decode cX12_laysBack 52 = .ok (.iload_n 2, 1) := by decide +kernel
theorem dX12_laysBack_53 : decode cX12_laysBack 53 = .ok (.baload, 1) := by decide +kernel
theorem dX12_laysBack_54 : decode cX12_laysBack 54 = .ok (.ifCond .ne 6, 3) := by decide +kernel
theorem dX12_laysBack_57 : decode cX12_laysBack 57 = .ok (.goto 69, 3) := by decide +kernel
theorem dX12_laysBack_60 : decode cX12_laysBack 60 = .ok (.aload_n 0, 1) := by decide +kernel
theorem dX12_laysBack_61 : decode cX12_laysBack 61 = .ok (.getfield 60, 3) := by decide +kernel
theorem dX12_laysBack_64 : decode cX12_laysBack 64 = .ok (.iload_n 2, 1) := by decide +kernel
theorem dX12_laysBack_65 : decode cX12_laysBack 65 = .ok (.iaload, 1) := by decide +kernel
theorem dX12_laysBack_66 : decode cX12_laysBack 66 = .ok (.ifCond .lt 27, 3) := by decide +kernel
theorem dX12_laysBack_69 : decode cX12_laysBack 69 = .ok (.aload_n 0, 1) := by decide +kernel
theorem dX12_laysBack_70 : decode cX12_laysBack 70 = .ok (.getfield 60, 3) := by decide +kernel
theorem dX12_laysBack_73 : decode cX12_laysBack 73 = .ok (.iload_n 2, 1) := by decide +kernel
theorem dX12_laysBack_74 : decode cX12_laysBack 74 = .ok (.iaload, 1) := by decide +kernel
theorem dX12_laysBack_75 : decode cX12_laysBack 75 = .ok (.sipush 1000, 3) := by decide +kernel
theorem dX12_laysBack_78 : decode cX12_laysBack 78 = .ok (.if_icmp .ge 15, 3) := by decide +kernel
theorem dX12_laysBack_81 : decode cX12_laysBack 81 = .ok (.aload_n 0, 1) := by decide +kernel
theorem dX12_laysBack_82 : decode cX12_laysBack 82 = .ok (.getfield 99, 3) := by decide +kernel
theorem dX12_laysBack_85 : decode cX12_laysBack 85 = .ok (.aload_n 0, 1) := by decide +kernel
theorem dX12_laysBack_86 : decode cX12_laysBack 86 = .ok (.getfield 60, 3) := by decide +kernel
theorem dX12_laysBack_89 : decode cX12_laysBack 89 = .ok (.iload_n 2, 1) := by decide +kernel
theorem dX12_laysBack_90 : decode cX12_laysBack 90 = .ok (.iaload, 1) := by decide +kernel
theorem dX12_laysBack_91 : decode cX12_laysBack 91 = .ok (.iconst 1, 1) := by decide +kernel
theorem dX12_laysBack_92 : decode cX12_laysBack 92 = .ok (.bastore, 1) := by decide +kernel
theorem dX12_laysBack_93 : decode cX12_laysBack 93 = .ok (.aload_n 0, 1) := by decide +kernel
theorem dX12_laysBack_94 : decode cX12_laysBack 94 = .ok (.getfield 63, 3) := by decide +kernel
theorem dX12_laysBack_97 : decode cX12_laysBack 97 = .ok (.iload_n 2, 1) := by decide +kernel
theorem dX12_laysBack_98 : decode cX12_laysBack 98 = .ok (.iaload, 1) := by decide +kernel
theorem dX12_laysBack_99 : decode cX12_laysBack 99 = .ok (.ifCond .lt 27, 3) := by decide +kernel
theorem dX12_laysBack_102 : decode cX12_laysBack 102 = .ok (.aload_n 0, 1) := by decide +kernel
theorem dX12_laysBack_103 : decode cX12_laysBack 103 = .ok (.getfield 63, 3) := by decide +kernel
theorem dX12_laysBack_106 : decode cX12_laysBack 106 = .ok (.iload_n 2, 1) := by decide +kernel
theorem dX12_laysBack_107 : decode cX12_laysBack 107 = .ok (.iaload, 1) := by decide +kernel
theorem dX12_laysBack_108 : decode cX12_laysBack 108 = .ok (.sipush 1000, 3) := by decide +kernel
theorem dX12_laysBack_111 : decode cX12_laysBack 111 = .ok (.if_icmp .ge 15, 3) := by decide +kernel
theorem dX12_laysBack_114 : decode cX12_laysBack 114 = .ok (.aload_n 0, 1) := by decide +kernel
theorem dX12_laysBack_115 : decode cX12_laysBack 115 = .ok (.getfield 99, 3) := by decide +kernel
theorem dX12_laysBack_118 : decode cX12_laysBack 118 = .ok (.aload_n 0, 1) := by decide +kernel
theorem dX12_laysBack_119 : decode cX12_laysBack 119 = .ok (.getfield 63, 3) := by decide +kernel
theorem dX12_laysBack_122 : decode cX12_laysBack 122 = .ok (.iload_n 2, 1) := by decide +kernel
theorem dX12_laysBack_123 : decode cX12_laysBack 123 = .ok (.iaload, 1) := by decide +kernel
theorem dX12_laysBack_124 : decode cX12_laysBack 124 = .ok (.iconst 1, 1) := by decide +kernel
theorem dX12_laysBack_125 : decode cX12_laysBack 125 = .ok (.bastore, 1) := by decide +kernel
theorem dX12_laysBack_126 : decode cX12_laysBack 126 = .ok (.iinc 2 (-1), 3) := by decide +kernel
theorem dX12_laysBack_129 : decode cX12_laysBack 129 = .ok (.goto (-85), 3) := by decide +kernel
theorem dX12_laysBack_132 : decode cX12_laysBack 132 = .ok (.return_, 1) := by decide +kernel
theorem dX12_outsOn_0 : decode cX12_outsOn 0 = .ok (.aload_n 0, 1) := by decide +kernel
theorem dX12_outsOn_1 : decode cX12_outsOn 1 = .ok (.iload_n 1, 1) := by decide +kernel
theorem dX12_outsOn_2 : decode cX12_outsOn 2 = .ok (.invokevirtual 426, 3) := by decide +kernel
theorem dX12_outsOn_5 : decode cX12_outsOn 5 = .ok (.iconst 0, 1) := by decide +kernel
theorem dX12_outsOn_6 : decode cX12_outsOn 6 = .ok (.istore_n 2, 1) := by decide +kernel
theorem dX12_outsOn_7 : decode cX12_outsOn 7 = .ok (.iconst 0, 1) := by decide +kernel
theorem dX12_outsOn_8 : decode cX12_outsOn 8 = .ok (.istore_n 3, 1) := by decide +kernel
theorem dX12_outsOn_9 : decode cX12_outsOn 9 = .ok (.iload_n 3, 1) := by decide +kernel
theorem dX12_outsOn_10 : decode cX12_outsOn 10 = .ok (.aload_n 0, 1) := by decide +kernel
theorem dX12_outsOn_11 : decode cX12_outsOn 11 = .ok (.getfield 356, 3) := by decide +kernel
theorem dX12_outsOn_14 : decode cX12_outsOn 14 = .ok (.if_icmp .ge 31, 3) := by decide +kernel
theorem dX12_outsOn_17 : decode cX12_outsOn 17 = .ok (.iload_n 2, 1) := by decide +kernel
theorem dX12_outsOn_18 : decode cX12_outsOn 18 = .ok (.aload_n 0, 1) := by decide +kernel
theorem dX12_outsOn_19 : decode cX12_outsOn 19 = .ok (.aload_n 0, 1) := by decide +kernel
theorem dX12_outsOn_20 : decode cX12_outsOn 20 = .ok (.getfield 90, 3) := by decide +kernel
theorem dX12_outsOn_23 : decode cX12_outsOn 23 = .ok (.iload_n 3, 1) := by decide +kernel
theorem dX12_outsOn_24 : decode cX12_outsOn 24 = .ok (.iaload, 1) := by decide +kernel
theorem dX12_outsOn_25 : decode cX12_outsOn 25 = .ok (.iload_n 1, 1) := by decide +kernel
theorem dX12_outsOn_26 : decode cX12_outsOn 26 = .ok (.invokevirtual 423, 3) := by decide +kernel
theorem dX12_outsOn_29 : decode cX12_outsOn 29 = .ok (.ifCond .eq 7, 3) := by decide +kernel
theorem dX12_outsOn_32 : decode cX12_outsOn 32 = .ok (.iconst 1, 1) := by decide +kernel
theorem dX12_outsOn_33 : decode cX12_outsOn 33 = .ok (.goto 4, 3) := by decide +kernel
theorem dX12_outsOn_36 : decode cX12_outsOn 36 = .ok (.iconst 0, 1) := by decide +kernel
theorem dX12_outsOn_37 : decode cX12_outsOn 37 = .ok (.iadd, 1) := by decide +kernel
theorem dX12_outsOn_38 : decode cX12_outsOn 38 = .ok (.istore_n 2, 1) := by decide +kernel
theorem dX12_outsOn_39 : decode cX12_outsOn 39 = .ok (.iinc 3 1, 3) := by decide +kernel
theorem dX12_outsOn_42 : decode cX12_outsOn 42 = .ok (.goto (-33), 3) := by decide +kernel
theorem dX12_outsOn_45 : decode cX12_outsOn 45 = .ok (.iload_n 2, 1) := by decide +kernel
theorem dX12_outsOn_46 : decode cX12_outsOn 46 = .ok (.ireturn, 1) := by decide +kernel
theorem dX12_inputsOf_0 : decode cX12_inputsOf 0 = .ok (.iconst 0, 1) := by decide +kernel
theorem dX12_inputsOf_1 : decode cX12_inputsOf 1 = .ok (.istore_n 2, 1) := by decide +kernel
theorem dX12_inputsOf_2 : decode cX12_inputsOf 2 = .ok (.iconst 0, 1) := by decide +kernel
theorem dX12_inputsOf_3 : decode cX12_inputsOf 3 = .ok (.istore_n 3, 1) := by decide +kernel
theorem dX12_inputsOf_4 : decode cX12_inputsOf 4 = .ok (.iload_n 3, 1) := by decide +kernel
theorem dX12_inputsOf_5 : decode cX12_inputsOf 5 = .ok (.aload_n 0, 1) := by decide +kernel
theorem dX12_inputsOf_6 : decode cX12_inputsOf 6 = .ok (.getfield 314, 3) := by decide +kernel
theorem dX12_inputsOf_9 : decode cX12_inputsOf 9 = .ok (.if_icmp .ge 33, 3) := by decide +kernel
theorem dX12_inputsOf_12 : decode cX12_inputsOf 12 = .ok (.aload_n 0, 1) := by decide +kernel
theorem dX12_inputsOf_13 : decode cX12_inputsOf 13 = .ok (.sipush 1000, 3) := by decide +kernel
theorem dX12_inputsOf_16 : decode cX12_inputsOf 16 = .ok (.iload_n 3, 1) := by decide +kernel
theorem dX12_inputsOf_17 : decode cX12_inputsOf 17 = .ok (.iadd, 1) := by decide +kernel
theorem dX12_inputsOf_18 : decode cX12_inputsOf 18 = .ok (.invokevirtual 426, 3) := by decide +kernel
theorem dX12_inputsOf_21 : decode cX12_inputsOf 21 = .ok (.aload_n 0, 1) := by decide +kernel
theorem dX12_inputsOf_22 : decode cX12_inputsOf 22 = .ok (.getfield 99, 3) := by decide +kernel
theorem dX12_inputsOf_25 : decode cX12_inputsOf 25 = .ok (.iload_n 1, 1) := by decide +kernel
theorem dX12_inputsOf_26 : decode cX12_inputsOf 26 = .ok (.baload, 1) := by decide +kernel
theorem dX12_inputsOf_27 : decode cX12_inputsOf 27 = .ok (.ifCond .eq 9, 3) := by decide +kernel
theorem dX12_inputsOf_30 : decode cX12_inputsOf 30 = .ok (.iload_n 2, 1) := by decide +kernel
theorem dX12_inputsOf_31 : decode cX12_inputsOf 31 = .ok (.iconst 1, 1) := by decide +kernel
theorem dX12_inputsOf_32 : decode cX12_inputsOf 32 = .ok (.iload_n 3, 1) := by decide +kernel
theorem dX12_inputsOf_33 : decode cX12_inputsOf 33 = .ok (.ishl, 1) := by decide +kernel
theorem dX12_inputsOf_34 : decode cX12_inputsOf 34 = .ok (.ior, 1) := by decide +kernel
theorem dX12_inputsOf_35 : decode cX12_inputsOf 35 = .ok (.istore_n 2, 1) := by decide +kernel
theorem dX12_inputsOf_36 : decode cX12_inputsOf 36 = .ok (.iinc 3 1, 3) := by decide +kernel
theorem dX12_inputsOf_39 : decode cX12_inputsOf 39 = .ok (.goto (-35), 3) := by decide +kernel
theorem dX12_inputsOf_42 : decode cX12_inputsOf 42 = .ok (.iload_n 2, 1) := by decide +kernel
theorem dX12_inputsOf_43 : decode cX12_inputsOf 43 = .ok (.ireturn, 1) := by decide +kernel
theorem dX12_entry_0 : decode cX12_entry 0 = .ok (.aload_n 0, 1) := by decide +kernel
theorem dX12_entry_1 : decode cX12_entry 1 = .ok (.iconst 0, 1) := by decide +kernel
theorem dX12_entry_2 : decode cX12_entry 2 = .ok (.putfield 142, 3) := by decide +kernel
theorem dX12_entry_5 : decode cX12_entry 5 = .ok (.aload_n 0, 1) := by decide +kernel
theorem dX12_entry_6 : decode cX12_entry 6 = .ok (.iload_n 1, 1) := by decide +kernel
theorem dX12_entry_7 : decode cX12_entry 7 = .ok (.invokevirtual 429, 3) := by decide +kernel
theorem dX12_entry_10 : decode cX12_entry 10 = .ok (.ifCond .ne 6, 3) := by decide +kernel
theorem dX12_entry_13 : decode cX12_entry 13 = .ok (.bipush (-10), 2) := by decide +kernel
theorem dX12_entry_15 : decode cX12_entry 15 = .ok (.ireturn, 1) := by decide +kernel
theorem dX12_entry_16 : decode cX12_entry 16 = .ok (.iload_n 2, 1) := by decide +kernel
theorem dX12_entry_17 : decode cX12_entry 17 = .ok (.tableswitch 115 0 8 #[51, 58, 66, 74, 82, 89, 96, 103, 109], 51) := by decide +kernel
theorem dX12_entry_68 : decode cX12_entry 68 = .ok (.aload_n 0, 1) := by decide +kernel
theorem dX12_entry_69 : decode cX12_entry 69 = .ok (.getfield 48, 3) := by decide +kernel
theorem dX12_entry_72 : decode cX12_entry 72 = .ok (.iload_n 1, 1) := by decide +kernel
theorem dX12_entry_73 : decode cX12_entry 73 = .ok (.iaload, 1) := by decide +kernel
theorem dX12_entry_74 : decode cX12_entry 74 = .ok (.ireturn, 1) := by decide +kernel
theorem dX12_entry_75 : decode cX12_entry 75 = .ok (.aload_n 0, 1) := by decide +kernel
theorem dX12_entry_76 : decode cX12_entry 76 = .ok (.getfield 51, 3) := by decide +kernel
theorem dX12_entry_79 : decode cX12_entry 79 = .ok (.iload_n 1, 1) := by decide +kernel
theorem dX12_entry_80 : decode cX12_entry 80 = .ok (.laload, 1) := by decide +kernel
theorem dX12_entry_81 : decode cX12_entry 81 = .ok (.l2i, 1) := by decide +kernel
theorem dX12_entry_82 : decode cX12_entry 82 = .ok (.ireturn, 1) := by decide +kernel
theorem dX12_entry_83 : decode cX12_entry 83 = .ok (.aload_n 0, 1) := by decide +kernel
theorem dX12_entry_84 : decode cX12_entry 84 = .ok (.getfield 54, 3) := by decide +kernel
theorem dX12_entry_87 : decode cX12_entry 87 = .ok (.iload_n 1, 1) := by decide +kernel
theorem dX12_entry_88 : decode cX12_entry 88 = .ok (.laload, 1) := by decide +kernel
theorem dX12_entry_89 : decode cX12_entry 89 = .ok (.l2i, 1) := by decide +kernel
theorem dX12_entry_90 : decode cX12_entry 90 = .ok (.ireturn, 1) := by decide +kernel
theorem dX12_entry_91 : decode cX12_entry 91 = .ok (.aload_n 0, 1) := by decide +kernel
theorem dX12_entry_92 : decode cX12_entry 92 = .ok (.getfield 57, 3) := by decide +kernel
theorem dX12_entry_95 : decode cX12_entry 95 = .ok (.iload_n 1, 1) := by decide +kernel
theorem dX12_entry_96 : decode cX12_entry 96 = .ok (.laload, 1) := by decide +kernel
theorem dX12_entry_97 : decode cX12_entry 97 = .ok (.l2i, 1) := by decide +kernel
theorem dX12_entry_98 : decode cX12_entry 98 = .ok (.ireturn, 1) := by decide +kernel
theorem dX12_entry_99 : decode cX12_entry 99 = .ok (.aload_n 0, 1) := by decide +kernel
theorem dX12_entry_100 : decode cX12_entry 100 = .ok (.getfield 60, 3) := by decide +kernel
theorem dX12_entry_103 : decode cX12_entry 103 = .ok (.iload_n 1, 1) := by decide +kernel
theorem dX12_entry_104 : decode cX12_entry 104 = .ok (.iaload, 1) := by decide +kernel
theorem dX12_entry_105 : decode cX12_entry 105 = .ok (.ireturn, 1) := by decide +kernel
theorem dX12_entry_106 : decode cX12_entry 106 = .ok (.aload_n 0, 1) := by decide +kernel
theorem dX12_entry_107 : decode cX12_entry 107 = .ok (.getfield 63, 3) := by decide +kernel
theorem dX12_entry_110 : decode cX12_entry 110 = .ok (.iload_n 1, 1) := by decide +kernel
theorem dX12_entry_111 : decode cX12_entry 111 = .ok (.iaload, 1) := by decide +kernel
theorem dX12_entry_112 : decode cX12_entry 112 = .ok (.ireturn, 1) := by decide +kernel
theorem dX12_entry_113 : decode cX12_entry 113 = .ok (.aload_n 0, 1) := by decide +kernel
theorem dX12_entry_114 : decode cX12_entry 114 = .ok (.getfield 66, 3) := by decide +kernel
theorem dX12_entry_117 : decode cX12_entry 117 = .ok (.iload_n 1, 1) := by decide +kernel
theorem dX12_entry_118 : decode cX12_entry 118 = .ok (.iaload, 1) := by decide +kernel
theorem dX12_entry_119 : decode cX12_entry 119 = .ok (.ireturn, 1) := by decide +kernel
theorem dX12_entry_120 : decode cX12_entry 120 = .ok (.aload_n 0, 1) := by decide +kernel
theorem dX12_entry_121 : decode cX12_entry 121 = .ok (.iload_n 1, 1) := by decide +kernel
theorem dX12_entry_122 : decode cX12_entry 122 = .ok (.invokevirtual 432, 3) := by decide +kernel
theorem dX12_entry_125 : decode cX12_entry 125 = .ok (.ireturn, 1) := by decide +kernel
theorem dX12_entry_126 : decode cX12_entry 126 = .ok (.aload_n 0, 1) := by decide +kernel
theorem dX12_entry_127 : decode cX12_entry 127 = .ok (.iload_n 1, 1) := by decide +kernel
theorem dX12_entry_128 : decode cX12_entry 128 = .ok (.invokevirtual 435, 3) := by decide +kernel
theorem dX12_entry_131 : decode cX12_entry 131 = .ok (.ireturn, 1) := by decide +kernel
theorem dX12_entry_132 : decode cX12_entry 132 = .ok (.bipush (-10), 2) := by decide +kernel
theorem dX12_entry_134 : decode cX12_entry 134 = .ok (.ireturn, 1) := by decide +kernel
theorem dX12_hangs_0 : decode cX12_hangs 0 = .ok (.aload_n 0, 1) := by decide +kernel
theorem dX12_hangs_1 : decode cX12_hangs 1 = .ok (.iconst 0, 1) := by decide +kernel
theorem dX12_hangs_2 : decode cX12_hangs 2 = .ok (.putfield 142, 3) := by decide +kernel
theorem dX12_hangs_5 : decode cX12_hangs 5 = .ok (.aload_n 0, 1) := by decide +kernel
theorem dX12_hangs_6 : decode cX12_hangs 6 = .ok (.iload_n 1, 1) := by decide +kernel
theorem dX12_hangs_7 : decode cX12_hangs 7 = .ok (.invokevirtual 420, 3) := by decide +kernel
theorem dX12_hangs_10 : decode cX12_hangs 10 = .ok (.ifCond .eq 25, 3) := by decide +kernel
theorem dX12_hangs_13 : decode cX12_hangs 13 = .ok (.iload_n 3, 1) := by decide +kernel
theorem dX12_hangs_14 : decode cX12_hangs 14 = .ok (.ifCond .lt 21, 3) := by decide +kernel
theorem dX12_hangs_17 : decode cX12_hangs 17 = .ok (.iload_n 3, 1) := by decide +kernel
theorem dX12_hangs_18 : decode cX12_hangs 18 = .ok (.iconst 1, 1) := by decide +kernel
theorem dX12_hangs_19 : decode cX12_hangs 19 = .ok (.if_icmp .gt 16, 3) := by decide +kernel
theorem dX12_hangs_22 : decode cX12_hangs 22 = .ok (.iload_n 3, 1) := by decide +kernel
theorem dX12_hangs_23 : decode cX12_hangs 23 = .ok (.iconst 1, 1) := by decide +kernel
theorem dX12_hangs_24 : decode cX12_hangs 24 = .ok (.if_icmp .ne 13, 3) := by decide +kernel
theorem dX12_hangs_27 : decode cX12_hangs 27 = .ok (.aload_n 0, 1) := by decide +kernel
theorem dX12_hangs_28 : decode cX12_hangs 28 = .ok (.iload_n 2, 1) := by decide +kernel
theorem dX12_hangs_29 : decode cX12_hangs 29 = .ok (.invokevirtual 438, 3) := by decide +kernel
theorem dX12_hangs_32 : decode cX12_hangs 32 = .ok (.ifCond .ne 5, 3) := by decide +kernel
theorem dX12_hangs_35 : decode cX12_hangs 35 = .ok (.iconst (-1), 1) := by decide +kernel
theorem dX12_hangs_36 : decode cX12_hangs 36 = .ok (.ireturn, 1) := by decide +kernel
theorem dX12_hangs_37 : decode cX12_hangs 37 = .ok (.iconst 0, 1) := by decide +kernel
theorem dX12_hangs_38 : decode cX12_hangs 38 = .ok (.istore 4, 2) := by decide +kernel
theorem dX12_hangs_40 : decode cX12_hangs 40 = .ok (.iload_n 3, 1) := by decide +kernel
theorem dX12_hangs_41 : decode cX12_hangs 41 = .ok (.ifCond .ne 49, 3) := by decide +kernel
theorem dX12_hangs_44 : decode cX12_hangs 44 = .ok (.aload_n 0, 1) := by decide +kernel
theorem dX12_hangs_45 : decode cX12_hangs 45 = .ok (.iload_n 1, 1) := by decide +kernel
theorem dX12_hangs_46 : decode cX12_hangs 46 = .ok (.invokevirtual 441, 3) := by decide +kernel
theorem dX12_hangs_49 : decode cX12_hangs 49 = .ok (.iconst 0, 1) := by decide +kernel
theorem dX12_hangs_50 : decode cX12_hangs 50 = .ok (.istore 5, 2) := by decide +kernel
theorem dX12_hangs_52 : decode cX12_hangs 52 = .ok (.iload 5, 2) := by decide +kernel
theorem dX12_hangs_54 : decode cX12_hangs 54 = .ok (.aload_n 0, 1) := by decide +kernel
theorem dX12_hangs_55 : decode cX12_hangs 55 = .ok (.getfield 353, 3) := by decide +kernel
theorem dX12_hangs_58 : decode cX12_hangs 58 = .ok (.if_icmp .ge 29, 3) := by decide +kernel
theorem dX12_hangs_61 : decode cX12_hangs 61 = .ok (.iload 4, 2) := by decide +kernel
theorem dX12_hangs_63 : decode cX12_hangs 63 = .ok (.aload_n 0, 1) := by decide +kernel
theorem dX12_hangs_64 : decode cX12_hangs 64 = .ok (.getfield 99, 3) := by decide +kernel
theorem dX12_hangs_67 : decode cX12_hangs 67 = .ok (.iload 5, 2) := by decide +kernel
theorem dX12_hangs_69 : decode cX12_hangs 69 = .ok (.baload, 1) := by decide +kernel
theorem dX12_hangs_70 : decode cX12_hangs 70 = .ok (.ifCond .eq 7, 3) := by decide +kernel
theorem dX12_hangs_73 : decode cX12_hangs 73 = .ok (.iconst 1, 1) := by decide +kernel
theorem dX12_hangs_74 : decode cX12_hangs 74 = .ok (.goto 4, 3) := by decide +kernel
theorem dX12_hangs_77 : decode cX12_hangs 77 = .ok (.iconst 0, 1) := by decide +kernel
theorem dX12_hangs_78 : decode cX12_hangs 78 = .ok (.iadd, 1) := by decide +kernel
theorem dX12_hangs_79 : decode cX12_hangs 79 = .ok (.istore 4, 2) := by decide +kernel
theorem dX12_hangs_81 : decode cX12_hangs 81 = .ok (.iinc 5 1, 3) := by decide +kernel
theorem dX12_hangs_84 : decode cX12_hangs 84 = .ok (.goto (-32), 3) := by decide +kernel
theorem dX12_hangs_87 : decode cX12_hangs 87 = .ok (.iload 4, 2) := by decide +kernel
theorem dX12_hangs_89 : decode cX12_hangs 89 = .ok (.ireturn, 1) := by decide +kernel
theorem dX12_hangs_90 : decode cX12_hangs 90 = .ok (.aload_n 0, 1) := by decide +kernel
theorem dX12_hangs_91 : decode cX12_hangs 91 = .ok (.iload_n 1, 1) := by decide +kernel
theorem dX12_hangs_92 : decode cX12_hangs 92 = .ok (.invokevirtual 441, 3) := by decide +kernel
theorem dX12_hangs_95 : decode cX12_hangs 95 = .ok (.iconst 0, 1) := by decide +kernel
theorem dX12_hangs_96 : decode cX12_hangs 96 = .ok (.istore 5, 2) := by decide +kernel
theorem dX12_hangs_98 : decode cX12_hangs 98 = .ok (.iload 5, 2) := by decide +kernel
theorem dX12_hangs_100 : decode cX12_hangs 100 = .ok (.aload_n 0, 1) := by decide +kernel
theorem dX12_hangs_101 : decode cX12_hangs 101 = .ok (.getfield 353, 3) := by decide +kernel
theorem dX12_hangs_104 : decode cX12_hangs 104 = .ok (.if_icmp .ge 23, 3) := by decide +kernel
theorem dX12_hangs_107 : decode cX12_hangs 107 = .ok (.aload_n 0, 1) := by decide +kernel
theorem dX12_hangs_108 : decode cX12_hangs 108 = .ok (.getfield 103, 3) := by decide +kernel
theorem dX12_hangs_111 : decode cX12_hangs 111 = .ok (.iload 5, 2) := by decide +kernel
theorem dX12_hangs_113 : decode cX12_hangs 113 = .ok (.aload_n 0, 1) := by decide +kernel
theorem dX12_hangs_114 : decode cX12_hangs 114 = .ok (.getfield 99, 3) := by decide +kernel
theorem dX12_hangs_117 : decode cX12_hangs 117 = .ok (.iload 5, 2) := by decide +kernel
theorem dX12_hangs_119 : decode cX12_hangs 119 = .ok (.baload, 1) := by decide +kernel
theorem dX12_hangs_120 : decode cX12_hangs 120 = .ok (.bastore, 1) := by decide +kernel
theorem dX12_hangs_121 : decode cX12_hangs 121 = .ok (.iinc 5 1, 3) := by decide +kernel
theorem dX12_hangs_124 : decode cX12_hangs 124 = .ok (.goto (-26), 3) := by decide +kernel
theorem dX12_hangs_127 : decode cX12_hangs 127 = .ok (.aload_n 0, 1) := by decide +kernel
theorem dX12_hangs_128 : decode cX12_hangs 128 = .ok (.sipush 1000, 3) := by decide +kernel
theorem dX12_hangs_131 : decode cX12_hangs 131 = .ok (.iload_n 2, 1) := by decide +kernel
theorem dX12_hangs_132 : decode cX12_hangs 132 = .ok (.iadd, 1) := by decide +kernel
theorem dX12_hangs_133 : decode cX12_hangs 133 = .ok (.invokevirtual 426, 3) := by decide +kernel
theorem dX12_hangs_136 : decode cX12_hangs 136 = .ok (.iconst 0, 1) := by decide +kernel
theorem dX12_hangs_137 : decode cX12_hangs 137 = .ok (.istore 5, 2) := by decide +kernel
theorem dX12_hangs_139 : decode cX12_hangs 139 = .ok (.iload 5, 2) := by decide +kernel
theorem dX12_hangs_141 : decode cX12_hangs 141 = .ok (.aload_n 0, 1) := by decide +kernel
theorem dX12_hangs_142 : decode cX12_hangs 142 = .ok (.getfield 353, 3) := by decide +kernel
theorem dX12_hangs_145 : decode cX12_hangs 145 = .ok (.if_icmp .ge 39, 3) := by decide +kernel
theorem dX12_hangs_148 : decode cX12_hangs 148 = .ok (.iload 4, 2) := by decide +kernel
theorem dX12_hangs_150 : decode cX12_hangs 150 = .ok (.aload_n 0, 1) := by decide +kernel
theorem dX12_hangs_151 : decode cX12_hangs 151 = .ok (.getfield 103, 3) := by decide +kernel
theorem dX12_hangs_154 : decode cX12_hangs 154 = .ok (.iload 5, 2) := by decide +kernel
theorem dX12_hangs_156 : decode cX12_hangs 156 = .ok (.baload, 1) := by decide +kernel
theorem dX12_hangs_157 : decode cX12_hangs 157 = .ok (.ifCond .eq 17, 3) := by decide +kernel
theorem dX12_hangs_160 : decode cX12_hangs 160 = .ok (.aload_n 0, 1) := by decide +kernel
theorem dX12_hangs_161 : decode cX12_hangs 161 = .ok (.getfield 99, 3) := by decide +kernel
theorem dX12_hangs_164 : decode cX12_hangs 164 = .ok (.iload 5, 2) := by decide +kernel
theorem dX12_hangs_166 : decode cX12_hangs 166 = .ok (.baload, 1) := by decide +kernel
theorem dX12_hangs_167 : decode cX12_hangs 167 = .ok (.ifCond .eq 7, 3) := by decide +kernel
theorem dX12_hangs_170 : decode cX12_hangs 170 = .ok (.iconst 1, 1) := by decide +kernel
theorem dX12_hangs_171 : decode cX12_hangs 171 = .ok (.goto 4, 3) := by decide +kernel
theorem dX12_hangs_174 : decode cX12_hangs 174 = .ok (.iconst 0, 1) := by decide +kernel
theorem dX12_hangs_175 : decode cX12_hangs 175 = .ok (.iadd, 1) := by decide +kernel
theorem dX12_hangs_176 : decode cX12_hangs 176 = .ok (.istore 4, 2) := by decide +kernel
theorem dX12_hangs_178 : decode cX12_hangs 178 = .ok (.iinc 5 1, 3) := by decide +kernel
theorem dX12_hangs_181 : decode cX12_hangs 181 = .ok (.goto (-42), 3) := by decide +kernel
theorem dX12_hangs_184 : decode cX12_hangs 184 = .ok (.iload 4, 2) := by decide +kernel
theorem dX12_hangs_186 : decode cX12_hangs 186 = .ok (.ireturn, 1) := by decide +kernel
theorem dX12_back_0 : decode cX12_back 0 = .ok (.aload_n 0, 1) := by decide +kernel
theorem dX12_back_1 : decode cX12_back 1 = .ok (.iconst 0, 1) := by decide +kernel
theorem dX12_back_2 : decode cX12_back 2 = .ok (.putfield 142, 3) := by decide +kernel
theorem dX12_back_5 : decode cX12_back 5 = .ok (.aload_n 0, 1) := by decide +kernel
theorem dX12_back_6 : decode cX12_back 6 = .ok (.iload_n 1, 1) := by decide +kernel
theorem dX12_back_7 : decode cX12_back 7 = .ok (.invokevirtual 420, 3) := by decide +kernel
theorem dX12_back_10 : decode cX12_back 10 = .ok (.ifCond .eq 7, 3) := by decide +kernel
theorem dX12_back_13 : decode cX12_back 13 = .ok (.iload_n 2, 1) := by decide +kernel
theorem dX12_back_14 : decode cX12_back 14 = .ok (.ifCond .ge 5, 3) := by decide +kernel
theorem dX12_back_17 : decode cX12_back 17 = .ok (.iconst (-1), 1) := by decide +kernel
theorem dX12_back_18 : decode cX12_back 18 = .ok (.ireturn, 1) := by decide +kernel
theorem dX12_back_19 : decode cX12_back 19 = .ok (.aload_n 0, 1) := by decide +kernel
theorem dX12_back_20 : decode cX12_back 20 = .ok (.iload_n 1, 1) := by decide +kernel
theorem dX12_back_21 : decode cX12_back 21 = .ok (.invokevirtual 441, 3) := by decide +kernel
theorem dX12_back_24 : decode cX12_back 24 = .ok (.iload_n 2, 1) := by decide +kernel
theorem dX12_back_25 : decode cX12_back 25 = .ok (.istore_n 3, 1) := by decide +kernel
theorem dX12_back_26 : decode cX12_back 26 = .ok (.aload_n 0, 1) := by decide +kernel
theorem dX12_back_27 : decode cX12_back 27 = .ok (.getfield 353, 3) := by decide +kernel
theorem dX12_back_30 : decode cX12_back 30 = .ok (.iconst 1, 1) := by decide +kernel
theorem dX12_back_31 : decode cX12_back 31 = .ok (.isub, 1) := by decide +kernel
theorem dX12_back_32 : decode cX12_back 32 = .ok (.istore 4, 2) := by decide +kernel
theorem dX12_back_34 : decode cX12_back 34 = .ok (.iload 4, 2) := by decide +kernel
theorem dX12_back_36 : decode cX12_back 36 = .ok (.ifCond .lt 32, 3) := by decide +kernel
theorem dX12_back_39 : decode cX12_back 39 = .ok (.aload_n 0, 1) := by decide +kernel
theorem dX12_back_40 : decode cX12_back 40 = .ok (.getfield 99, 3) := by decide +kernel
theorem dX12_back_43 : decode cX12_back 43 = .ok (.iload 4, 2) := by decide +kernel
theorem dX12_back_45 : decode cX12_back 45 = .ok (.baload, 1) := by decide +kernel
theorem dX12_back_46 : decode cX12_back 46 = .ok (.ifCond .ne 6, 3) := by decide +kernel
theorem dX12_back_49 : decode cX12_back 49 = .ok (.goto 13, 3) := by decide +kernel
theorem dX12_back_52 : decode cX12_back 52 = .ok (.iload_n 3, 1) := by decide +kernel
theorem dX12_back_53 : decode cX12_back 53 = .ok (.ifCond .ne 6, 3) := by decide +kernel
theorem dX12_back_56 : decode cX12_back 56 = .ok (.iload 4, 2) := by decide +kernel
theorem dX12_back_58 : decode cX12_back 58 = .ok (.ireturn, 1) := by decide +kernel
theorem dX12_back_59 : decode cX12_back 59 = .ok (.iinc 3 (-1), 3) := by decide +kernel
theorem dX12_back_62 : decode cX12_back 62 = .ok (.iinc 4 (-1), 3) := by decide +kernel
theorem dX12_back_65 : decode cX12_back 65 = .ok (.goto (-31), 3) := by decide +kernel
theorem dX12_back_68 : decode cX12_back 68 = .ok (.bipush (-2), 2) := by decide +kernel
theorem dX12_back_70 : decode cX12_back 70 = .ok (.ireturn, 1) := by decide +kernel
theorem dX12_forward_0 : decode cX12_forward 0 = .ok (.aload_n 0, 1) := by decide +kernel
theorem dX12_forward_1 : decode cX12_forward 1 = .ok (.sipush 1000, 3) := by decide +kernel
theorem dX12_forward_4 : decode cX12_forward 4 = .ok (.iload_n 1, 1) := by decide +kernel
theorem dX12_forward_5 : decode cX12_forward 5 = .ok (.iadd, 1) := by decide +kernel
theorem dX12_forward_6 : decode cX12_forward 6 = .ok (.invokevirtual 426, 3) := by decide +kernel
theorem dX12_forward_9 : decode cX12_forward 9 = .ok (.iconst 0, 1) := by decide +kernel
theorem dX12_forward_10 : decode cX12_forward 10 = .ok (.istore_n 2, 1) := by decide +kernel
theorem dX12_forward_11 : decode cX12_forward 11 = .ok (.iconst 0, 1) := by decide +kernel
theorem dX12_forward_12 : decode cX12_forward 12 = .ok (.istore_n 3, 1) := by decide +kernel
theorem dX12_forward_13 : decode cX12_forward 13 = .ok (.iload_n 3, 1) := by decide +kernel
theorem dX12_forward_14 : decode cX12_forward 14 = .ok (.aload_n 0, 1) := by decide +kernel
theorem dX12_forward_15 : decode cX12_forward 15 = .ok (.getfield 353, 3) := by decide +kernel
theorem dX12_forward_18 : decode cX12_forward 18 = .ok (.if_icmp .ge 117, 3) := by decide +kernel
theorem dX12_forward_21 : decode cX12_forward 21 = .ok (.aload_n 0, 1) := by decide +kernel
theorem dX12_forward_22 : decode cX12_forward 22 = .ok (.aload_n 0, 1) := by decide +kernel
theorem dX12_forward_23 : decode cX12_forward 23 = .ok (.getfield 60, 3) := by decide +kernel
theorem dX12_forward_26 : decode cX12_forward 26 = .ok (.iload_n 3, 1) := by decide +kernel
theorem dX12_forward_27 : decode cX12_forward 27 = .ok (.iaload, 1) := by decide +kernel
theorem dX12_forward_28 : decode cX12_forward 28 = .ok (.sipush 1000, 3) := by decide +kernel
theorem dX12_forward_31 : decode cX12_forward 31 = .ok (.iload_n 1, 1) := by decide +kernel
theorem dX12_forward_32 : decode cX12_forward 32 = .ok (.iadd, 1) := by decide +kernel
theorem dX12_forward_33 : decode cX12_forward 33 = .ok (.invokevirtual 423, 3) := by decide +kernel
theorem dX12_forward_36 : decode cX12_forward 36 = .ok (.istore 4, 2) := by decide +kernel
theorem dX12_forward_38 : decode cX12_forward 38 = .ok (.aload_n 0, 1) := by decide +kernel
theorem dX12_forward_39 : decode cX12_forward 39 = .ok (.aload_n 0, 1) := by decide +kernel
theorem dX12_forward_40 : decode cX12_forward 40 = .ok (.getfield 63, 3) := by decide +kernel
theorem dX12_forward_43 : decode cX12_forward 43 = .ok (.iload_n 3, 1) := by decide +kernel
theorem dX12_forward_44 : decode cX12_forward 44 = .ok (.iaload, 1) := by decide +kernel
theorem dX12_forward_45 : decode cX12_forward 45 = .ok (.sipush 1000, 3) := by decide +kernel
theorem dX12_forward_48 : decode cX12_forward 48 = .ok (.iload_n 1, 1) := by decide +kernel
theorem dX12_forward_49 : decode cX12_forward 49 = .ok (.iadd, 1) := by decide +kernel
theorem dX12_forward_50 : decode cX12_forward 50 = .ok (.invokevirtual 423, 3) := by decide +kernel
theorem dX12_forward_53 : decode cX12_forward 53 = .ok (.istore 5, 2) := by decide +kernel
theorem dX12_forward_55 : decode cX12_forward 55 = .ok (.aload_n 0, 1) := by decide +kernel
theorem dX12_forward_56 : decode cX12_forward 56 = .ok (.getfield 48, 3) := by decide +kernel
theorem dX12_forward_59 : decode cX12_forward 59 = .ok (.iload_n 3, 1) := by decide +kernel
theorem dX12_forward_60 : decode cX12_forward 60 = .ok (.iaload, 1) := by decide +kernel
theorem dX12_forward_61 : decode cX12_forward 61 = .ok (.iconst 5, 1) := by decide +kernel
theorem dX12_forward_62 : decode cX12_forward 62 = .ok (.if_icmp .ne 27, 3) := by decide +kernel
theorem dX12_forward_65 : decode cX12_forward 65 = .ok (.iload_n 2, 1) := by decide +kernel
theorem dX12_forward_66 : decode cX12_forward 66 = .ok (.iload 4, 2) := by decide +kernel
theorem dX12_forward_68 : decode cX12_forward 68 = .ok (.ifCond .eq 7, 3) := by decide +kernel
theorem dX12_forward_71 : decode cX12_forward 71 = .ok (.iconst 1, 1) := by decide +kernel
theorem dX12_forward_72 : decode cX12_forward 72 = .ok (.goto 4, 3) := by decide +kernel
theorem dX12_forward_75 : decode cX12_forward 75 = .ok (.iconst 0, 1) := by decide +kernel
theorem dX12_forward_76 : decode cX12_forward 76 = .ok (.iload 5, 2) := by decide +kernel
theorem dX12_forward_78 : decode cX12_forward 78 = .ok (.ifCond .eq 7, 3) := by decide +kernel
theorem dX12_forward_81 : decode cX12_forward 81 = .ok (.iconst 1, 1) := by decide +kernel
theorem dX12_forward_82 : decode cX12_forward 82 = .ok (.goto 4, 3) := by decide +kernel
theorem dX12_forward_85 : decode cX12_forward 85 = .ok (.iconst 0, 1) := by decide +kernel
theorem dX12_forward_86 : decode cX12_forward 86 = .ok (.iadd, 1) := by decide +kernel
theorem dX12_forward_87 : decode cX12_forward 87 = .ok (.iadd, 1) := by decide +kernel
theorem dX12_forward_88 : decode cX12_forward 88 = .ok (.istore_n 2, 1) := by decide +kernel
theorem dX12_forward_89 : decode cX12_forward 89 = .ok (.aload_n 0, 1) := by decide +kernel
theorem dX12_forward_90 : decode cX12_forward 90 = .ok (.getfield 48, 3) := by decide +kernel
theorem dX12_forward_93 : decode cX12_forward 93 = .ok (.iload_n 3, 1) := by decide +kernel
theorem dX12_forward_94 : decode cX12_forward 94 = .ok (.iaload, 1) := by decide +kernel
theorem dX12_forward_95 : decode cX12_forward 95 = .ok (.bipush 6, 2) := by decide +kernel
theorem dX12_forward_97 : decode cX12_forward 97 = .ok (.if_icmp .ne 32, 3) := by decide +kernel
theorem dX12_forward_100 : decode cX12_forward 100 = .ok (.iload_n 2, 1) := by decide +kernel
theorem dX12_forward_101 : decode cX12_forward 101 = .ok (.iload 4, 2) := by decide +kernel
theorem dX12_forward_103 : decode cX12_forward 103 = .ok (.ifCond .ne 8, 3) := by decide +kernel
theorem dX12_forward_106 : decode cX12_forward 106 = .ok (.iload 5, 2) := by decide +kernel
theorem dX12_forward_108 : decode cX12_forward 108 = .ok (.ifCond .eq 7, 3) := by decide +kernel
theorem dX12_forward_111 : decode cX12_forward 111 = .ok (.iconst 1, 1) := by decide +kernel
theorem dX12_forward_112 : decode cX12_forward 112 = .ok (.goto 4, 3) := by decide +kernel
theorem dX12_forward_115 : decode cX12_forward 115 = .ok (.iconst 0, 1) := by decide +kernel
theorem dX12_forward_116 : decode cX12_forward 116 = .ok (.iload 5, 2) := by decide +kernel
theorem dX12_forward_118 : decode cX12_forward 118 = .ok (.ifCond .eq 7, 3) := by decide +kernel
theorem dX12_forward_121 : decode cX12_forward 121 = .ok (.iconst 1, 1) := by decide +kernel
theorem dX12_forward_122 : decode cX12_forward 122 = .ok (.goto 4, 3) := by decide +kernel
theorem dX12_forward_125 : decode cX12_forward 125 = .ok (.iconst 0, 1) := by decide +kernel
theorem dX12_forward_126 : decode cX12_forward 126 = .ok (.iadd, 1) := by decide +kernel
theorem dX12_forward_127 : decode cX12_forward 127 = .ok (.iadd, 1) := by decide +kernel
theorem dX12_forward_128 : decode cX12_forward 128 = .ok (.istore_n 2, 1) := by decide +kernel
theorem dX12_forward_129 : decode cX12_forward 129 = .ok (.iinc 3 1, 3) := by decide +kernel
theorem dX12_forward_132 : decode cX12_forward 132 = .ok (.goto (-119), 3) := by decide +kernel
theorem dX12_forward_135 : decode cX12_forward 135 = .ok (.iload_n 2, 1) := by decide +kernel
theorem dX12_forward_136 : decode cX12_forward 136 = .ok (.ireturn, 1) := by decide +kernel
theorem dX12_isAlive_0 : decode cX12_isAlive 0 = .ok (.iload_n 1, 1) := by decide +kernel
theorem dX12_isAlive_1 : decode cX12_isAlive 1 = .ok (.sipush 1000, 3) := by decide +kernel
theorem dX12_isAlive_4 : decode cX12_isAlive 4 = .ok (.if_icmp .ge 16, 3) := by decide +kernel
theorem dX12_isAlive_7 : decode cX12_isAlive 7 = .ok (.iload_n 1, 1) := by decide +kernel
theorem dX12_isAlive_8 : decode cX12_isAlive 8 = .ok (.ifCond .lt 16, 3) := by decide +kernel
theorem dX12_isAlive_11 : decode cX12_isAlive 11 = .ok (.aload_n 0, 1) := by decide +kernel
theorem dX12_isAlive_12 : decode cX12_isAlive 12 = .ok (.getfield 106, 3) := by decide +kernel
theorem dX12_isAlive_15 : decode cX12_isAlive 15 = .ok (.iload_n 1, 1) := by decide +kernel
theorem dX12_isAlive_16 : decode cX12_isAlive 16 = .ok (.baload, 1) := by decide +kernel
theorem dX12_isAlive_17 : decode cX12_isAlive 17 = .ok (.ifCond .eq 7, 3) := by decide +kernel
theorem dX12_isAlive_20 : decode cX12_isAlive 20 = .ok (.iconst 1, 1) := by decide +kernel
theorem dX12_isAlive_21 : decode cX12_isAlive 21 = .ok (.goto 4, 3) := by decide +kernel
theorem dX12_isAlive_24 : decode cX12_isAlive 24 = .ok (.iconst 0, 1) := by decide +kernel
theorem dX12_isAlive_25 : decode cX12_isAlive 25 = .ok (.ireturn, 1) := by decide +kernel
theorem dX12_backward_0 : decode cX12_backward 0 = .ok (.iconst 0, 1) := by decide +kernel
theorem dX12_backward_1 : decode cX12_backward 1 = .ok (.istore_n 2, 1) := by decide +kernel
theorem dX12_backward_2 : decode cX12_backward 2 = .ok (.iload_n 2, 1) := by decide +kernel
theorem dX12_backward_3 : decode cX12_backward 3 = .ok (.aload_n 0, 1) := by decide +kernel
theorem dX12_backward_4 : decode cX12_backward 4 = .ok (.getfield 353, 3) := by decide +kernel
theorem dX12_backward_7 : decode cX12_backward 7 = .ok (.if_icmp .ge 46, 3) := by decide +kernel
theorem dX12_backward_10 : decode cX12_backward 10 = .ok (.aload_n 0, 1) := by decide +kernel
theorem dX12_backward_11 : decode cX12_backward 11 = .ok (.getfield 106, 3) := by decide +kernel
theorem dX12_backward_14 : decode cX12_backward 14 = .ok (.iload_n 2, 1) := by decide +kernel
theorem dX12_backward_15 : decode cX12_backward 15 = .ok (.aload_n 0, 1) := by decide +kernel
theorem dX12_backward_16 : decode cX12_backward 16 = .ok (.aload_n 0, 1) := by decide +kernel
theorem dX12_backward_17 : decode cX12_backward 17 = .ok (.getfield 60, 3) := by decide +kernel
theorem dX12_backward_20 : decode cX12_backward 20 = .ok (.iload_n 2, 1) := by decide +kernel
theorem dX12_backward_21 : decode cX12_backward 21 = .ok (.iaload, 1) := by decide +kernel
theorem dX12_backward_22 : decode cX12_backward 22 = .ok (.invokevirtual 444, 3) := by decide +kernel
theorem dX12_backward_25 : decode cX12_backward 25 = .ok (.ifCond .ne 16, 3) := by decide +kernel
theorem dX12_backward_28 : decode cX12_backward 28 = .ok (.aload_n 0, 1) := by decide +kernel
theorem dX12_backward_29 : decode cX12_backward 29 = .ok (.aload_n 0, 1) := by decide +kernel
theorem dX12_backward_30 : decode cX12_backward 30 = .ok (.getfield 63, 3) := by decide +kernel
theorem dX12_backward_33 : decode cX12_backward 33 = .ok (.iload_n 2, 1) := by decide +kernel
theorem dX12_backward_34 : decode cX12_backward 34 = .ok (.iaload, 1) := by decide +kernel
theorem dX12_backward_35 : decode cX12_backward 35 = .ok (.invokevirtual 444, 3) := by decide +kernel
theorem dX12_backward_38 : decode cX12_backward 38 = .ok (.ifCond .eq 7, 3) := by decide +kernel
theorem dX12_backward_41 : decode cX12_backward 41 = .ok (.iconst 1, 1) := by decide +kernel
theorem dX12_backward_42 : decode cX12_backward 42 = .ok (.goto 4, 3) := by decide +kernel
theorem dX12_backward_45 : decode cX12_backward 45 = .ok (.iconst 0, 1) := by decide +kernel
theorem dX12_backward_46 : decode cX12_backward 46 = .ok (.bastore, 1) := by decide +kernel
theorem dX12_backward_47 : decode cX12_backward 47 = .ok (.iinc 2 1, 3) := by decide +kernel
theorem dX12_backward_50 : decode cX12_backward 50 = .ok (.goto (-48), 3) := by decide +kernel
theorem dX12_backward_53 : decode cX12_backward 53 = .ok (.aload_n 0, 1) := by decide +kernel
theorem dX12_backward_54 : decode cX12_backward 54 = .ok (.iload_n 1, 1) := by decide +kernel
theorem dX12_backward_55 : decode cX12_backward 55 = .ok (.invokevirtual 441, 3) := by decide +kernel
theorem dX12_backward_58 : decode cX12_backward 58 = .ok (.iconst 0, 1) := by decide +kernel
theorem dX12_backward_59 : decode cX12_backward 59 = .ok (.istore_n 2, 1) := by decide +kernel
theorem dX12_backward_60 : decode cX12_backward 60 = .ok (.iconst 0, 1) := by decide +kernel
theorem dX12_backward_61 : decode cX12_backward 61 = .ok (.istore_n 3, 1) := by decide +kernel
theorem dX12_backward_62 : decode cX12_backward 62 = .ok (.iload_n 3, 1) := by decide +kernel
theorem dX12_backward_63 : decode cX12_backward 63 = .ok (.aload_n 0, 1) := by decide +kernel
theorem dX12_backward_64 : decode cX12_backward 64 = .ok (.getfield 353, 3) := by decide +kernel
theorem dX12_backward_67 : decode cX12_backward 67 = .ok (.if_icmp .ge 114, 3) := by decide +kernel
theorem dX12_backward_70 : decode cX12_backward 70 = .ok (.aload_n 0, 1) := by decide +kernel
theorem dX12_backward_71 : decode cX12_backward 71 = .ok (.getfield 99, 3) := by decide +kernel
theorem dX12_backward_74 : decode cX12_backward 74 = .ok (.iload_n 3, 1) := by decide +kernel
theorem dX12_backward_75 : decode cX12_backward 75 = .ok (.baload, 1) := by decide +kernel
theorem dX12_backward_76 : decode cX12_backward 76 = .ok (.ifCond .eq 99, 3) := by decide +kernel
theorem dX12_backward_79 : decode cX12_backward 79 = .ok (.aload_n 0, 1) := by decide +kernel
theorem dX12_backward_80 : decode cX12_backward 80 = .ok (.getfield 106, 3) := by decide +kernel
theorem dX12_backward_83 : decode cX12_backward 83 = .ok (.iload_n 3, 1) := by decide +kernel
theorem dX12_backward_84 : decode cX12_backward 84 = .ok (.baload, 1) := by decide +kernel
theorem dX12_backward_85 : decode cX12_backward 85 = .ok (.ifCond .ne 6, 3) := by decide +kernel
theorem dX12_backward_88 : decode cX12_backward 88 = .ok (.goto 87, 3) := by decide +kernel
theorem dX12_backward_91 : decode cX12_backward 91 = .ok (.aload_n 0, 1) := by decide +kernel
theorem dX12_backward_92 : decode cX12_backward 92 = .ok (.aload_n 0, 1) := by decide +kernel
theorem dX12_backward_93 : decode cX12_backward 93 = .ok (.getfield 60, 3) := by decide +kernel
theorem dX12_backward_96 : decode cX12_backward 96 = .ok (.iload_n 3, 1) := by decide +kernel
theorem dX12_backward_97 : decode cX12_backward 97 = .ok (.iaload, 1) := by decide +kernel
theorem dX12_backward_98 : decode cX12_backward 98 = .ok (.invokevirtual 444, 3) := by decide +kernel
theorem dX12_backward_101 : decode cX12_backward 101 = .ok (.istore 4, 2) := by decide +kernel
theorem dX12_backward_103 : decode cX12_backward 103 = .ok (.aload_n 0, 1) := by decide +kernel
theorem dX12_backward_104 : decode cX12_backward 104 = .ok (.aload_n 0, 1) := by decide +kernel
theorem dX12_backward_105 : decode cX12_backward 105 = .ok (.getfield 63, 3) := by decide +kernel
theorem dX12_backward_108 : decode cX12_backward 108 = .ok (.iload_n 3, 1) := by decide +kernel
theorem dX12_backward_109 : decode cX12_backward 109 = .ok (.iaload, 1) := by decide +kernel
theorem dX12_backward_110 : decode cX12_backward 110 = .ok (.invokevirtual 444, 3) := by decide +kernel
theorem dX12_backward_113 : decode cX12_backward 113 = .ok (.istore 5, 2) := by decide +kernel
theorem dX12_backward_115 : decode cX12_backward 115 = .ok (.aload_n 0, 1) := by decide +kernel
theorem dX12_backward_116 : decode cX12_backward 116 = .ok (.getfield 48, 3) := by decide +kernel
theorem dX12_backward_119 : decode cX12_backward 119 = .ok (.iload_n 3, 1) := by decide +kernel
theorem dX12_backward_120 : decode cX12_backward 120 = .ok (.iaload, 1) := by decide +kernel
theorem dX12_backward_121 : decode cX12_backward 121 = .ok (.iconst 5, 1) := by decide +kernel
theorem dX12_backward_122 : decode cX12_backward 122 = .ok (.if_icmp .ne 27, 3) := by decide +kernel
theorem dX12_backward_125 : decode cX12_backward 125 = .ok (.iload_n 2, 1) := by decide +kernel
theorem dX12_backward_126 : decode cX12_backward 126 = .ok (.iload 4, 2) := by decide +kernel
theorem dX12_backward_128 : decode cX12_backward 128 = .ok (.ifCond .eq 7, 3) := by decide +kernel
theorem dX12_backward_131 : decode cX12_backward 131 = .ok (.iconst 1, 1) := by decide +kernel
theorem dX12_backward_132 : decode cX12_backward 132 = .ok (.goto 4, 3) := by decide +kernel
theorem dX12_backward_135 : decode cX12_backward 135 = .ok (.iconst 0, 1) := by decide +kernel
theorem dX12_backward_136 : decode cX12_backward 136 = .ok (.iload 5, 2) := by decide +kernel
theorem dX12_backward_138 : decode cX12_backward 138 = .ok (.ifCond .eq 7, 3) := by decide +kernel
theorem dX12_backward_141 : decode cX12_backward 141 = .ok (.iconst 1, 1) := by decide +kernel
theorem dX12_backward_142 : decode cX12_backward 142 = .ok (.goto 4, 3) := by decide +kernel
theorem dX12_backward_145 : decode cX12_backward 145 = .ok (.iconst 0, 1) := by decide +kernel
theorem dX12_backward_146 : decode cX12_backward 146 = .ok (.iadd, 1) := by decide +kernel
theorem dX12_backward_147 : decode cX12_backward 147 = .ok (.iadd, 1) := by decide +kernel
theorem dX12_backward_148 : decode cX12_backward 148 = .ok (.istore_n 2, 1) := by decide +kernel
theorem dX12_backward_149 : decode cX12_backward 149 = .ok (.aload_n 0, 1) := by decide +kernel
theorem dX12_backward_150 : decode cX12_backward 150 = .ok (.getfield 48, 3) := by decide +kernel
theorem dX12_backward_153 : decode cX12_backward 153 = .ok (.iload_n 3, 1) := by decide +kernel
theorem dX12_backward_154 : decode cX12_backward 154 = .ok (.iaload, 1) := by decide +kernel
theorem dX12_backward_155 : decode cX12_backward 155 = .ok (.bipush 6, 2) := by decide +kernel
theorem dX12_backward_157 : decode cX12_backward 157 = .ok (.if_icmp .ne 18, 3) := by decide +kernel
theorem dX12_backward_160 : decode cX12_backward 160 = .ok (.iload_n 2, 1) := by decide +kernel
theorem dX12_backward_161 : decode cX12_backward 161 = .ok (.iconst 1, 1) := by decide +kernel
theorem dX12_backward_162 : decode cX12_backward 162 = .ok (.iload 5, 2) := by decide +kernel
theorem dX12_backward_164 : decode cX12_backward 164 = .ok (.ifCond .eq 7, 3) := by decide +kernel
theorem dX12_backward_167 : decode cX12_backward 167 = .ok (.iconst 1, 1) := by decide +kernel
theorem dX12_backward_168 : decode cX12_backward 168 = .ok (.goto 4, 3) := by decide +kernel
theorem dX12_backward_171 : decode cX12_backward 171 = .ok (.iconst 0, 1) := by decide +kernel
theorem dX12_backward_172 : decode cX12_backward 172 = .ok (.iadd, 1) := by decide +kernel
theorem dX12_backward_173 : decode cX12_backward 173 = .ok (.iadd, 1) := by decide +kernel
theorem dX12_backward_174 : decode cX12_backward 174 = .ok (.istore_n 2, 1) := by decide +kernel
theorem dX12_backward_175 : decode cX12_backward 175 = .ok (.iinc 3 1, 3) := by decide +kernel
theorem dX12_backward_178 : decode cX12_backward 178 = .ok (.goto (-116), 3) := by decide +kernel
theorem dX12_backward_181 : decode cX12_backward 181 = .ok (.iload_n 2, 1) := by decide +kernel
theorem dX12_backward_182 : decode cX12_backward 182 = .ok (.ireturn, 1) := by decide +kernel
theorem dX12_cost_0 : decode cX12_cost 0 = .ok (.aload_n 0, 1) := by decide +kernel
theorem dX12_cost_1 : decode cX12_cost 1 = .ok (.iconst 0, 1) := by decide +kernel
theorem dX12_cost_2 : decode cX12_cost 2 = .ok (.putfield 142, 3) := by decide +kernel
theorem dX12_cost_5 : decode cX12_cost 5 = .ok (.iload_n 1, 1) := by decide +kernel
theorem dX12_cost_6 : decode cX12_cost 6 = .ok (.ifCond .ne 21, 3) := by decide +kernel
theorem dX12_cost_9 : decode cX12_cost 9 = .ok (.aload_n 0, 1) := by decide +kernel
theorem dX12_cost_10 : decode cX12_cost 10 = .ok (.iload_n 2, 1) := by decide +kernel
theorem dX12_cost_11 : decode cX12_cost 11 = .ok (.invokevirtual 438, 3) := by decide +kernel
theorem dX12_cost_14 : decode cX12_cost 14 = .ok (.ifCond .eq 11, 3) := by decide +kernel
theorem dX12_cost_17 : decode cX12_cost 17 = .ok (.aload_n 0, 1) := by decide +kernel
theorem dX12_cost_18 : decode cX12_cost 18 = .ok (.iload_n 2, 1) := by decide +kernel
theorem dX12_cost_19 : decode cX12_cost 19 = .ok (.invokevirtual 447, 3) := by decide +kernel
theorem dX12_cost_22 : decode cX12_cost 22 = .ok (.goto 4, 3) := by decide +kernel
theorem dX12_cost_25 : decode cX12_cost 25 = .ok (.iconst (-1), 1) := by decide +kernel
theorem dX12_cost_26 : decode cX12_cost 26 = .ok (.ireturn, 1) := by decide +kernel
theorem dX12_cost_27 : decode cX12_cost 27 = .ok (.iload_n 1, 1) := by decide +kernel
theorem dX12_cost_28 : decode cX12_cost 28 = .ok (.iconst 1, 1) := by decide +kernel
theorem dX12_cost_29 : decode cX12_cost 29 = .ok (.if_icmp .ne 19, 3) := by decide +kernel
theorem dX12_cost_32 : decode cX12_cost 32 = .ok (.aload_n 0, 1) := by decide +kernel
theorem dX12_cost_33 : decode cX12_cost 33 = .ok (.iload_n 2, 1) := by decide +kernel
theorem dX12_cost_34 : decode cX12_cost 34 = .ok (.invokevirtual 420, 3) := by decide +kernel
theorem dX12_cost_37 : decode cX12_cost 37 = .ok (.ifCond .eq 11, 3) := by decide +kernel
theorem dX12_cost_40 : decode cX12_cost 40 = .ok (.aload_n 0, 1) := by decide +kernel
theorem dX12_cost_41 : decode cX12_cost 41 = .ok (.iload_n 2, 1) := by decide +kernel
theorem dX12_cost_42 : decode cX12_cost 42 = .ok (.invokevirtual 450, 3) := by decide +kernel
theorem dX12_cost_45 : decode cX12_cost 45 = .ok (.goto 4, 3) := by decide +kernel
theorem dX12_cost_48 : decode cX12_cost 48 = .ok (.iconst (-1), 1) := by decide +kernel
theorem dX12_cost_49 : decode cX12_cost 49 = .ok (.ireturn, 1) := by decide +kernel
theorem dX12_slopeOf_0 : decode cX12_slopeOf 0 = .ok (.iload_n 0, 1) := by decide +kernel
theorem dX12_slopeOf_1 : decode cX12_slopeOf 1 = .ok (.iload_n 1, 1) := by decide +kernel
theorem dX12_slopeOf_2 : decode cX12_slopeOf 2 = .ok (.if_icmp .ne 7, 3) := by decide +kernel
theorem dX12_slopeOf_5 : decode cX12_slopeOf 5 = .ok (.lconst 1, 1) := by decide +kernel
theorem dX12_slopeOf_6 : decode cX12_slopeOf 6 = .ok (.goto 21, 3) := by decide +kernel
theorem dX12_slopeOf_9 : decode cX12_slopeOf 9 = .ok (.iload_n 0, 1) := by decide +kernel
theorem dX12_slopeOf_10 : decode cX12_slopeOf 10 = .ok (.ifCond .lt 16, 3) := by decide +kernel
theorem dX12_slopeOf_13 : decode cX12_slopeOf 13 = .ok (.iload_n 0, 1) := by decide +kernel
theorem dX12_slopeOf_14 : decode cX12_slopeOf 14 = .ok (.sipush 1000, 3) := by decide +kernel
theorem dX12_slopeOf_17 : decode cX12_slopeOf 17 = .ok (.if_icmp .ge 9, 3) := by decide +kernel
theorem dX12_slopeOf_20 : decode cX12_slopeOf 20 = .ok (.aload_n 2, 1) := by decide +kernel
theorem dX12_slopeOf_21 : decode cX12_slopeOf 21 = .ok (.iload_n 0, 1) := by decide +kernel
theorem dX12_slopeOf_22 : decode cX12_slopeOf 22 = .ok (.laload, 1) := by decide +kernel
theorem dX12_slopeOf_23 : decode cX12_slopeOf 23 = .ok (.goto 4, 3) := by decide +kernel
theorem dX12_slopeOf_26 : decode cX12_slopeOf 26 = .ok (.lconst 0, 1) := by decide +kernel
theorem dX12_slopeOf_27 : decode cX12_slopeOf 27 = .ok (.lreturn, 1) := by decide +kernel
theorem dX12_lays_0 : decode cX12_lays 0 = .ok (.iconst 0, 1) := by decide +kernel
theorem dX12_lays_1 : decode cX12_lays 1 = .ok (.istore_n 3, 1) := by decide +kernel
theorem dX12_lays_2 : decode cX12_lays 2 = .ok (.iload_n 3, 1) := by decide +kernel
theorem dX12_lays_3 : decode cX12_lays 3 = .ok (.aload_n 0, 1) := by decide +kernel
theorem dX12_lays_4 : decode cX12_lays 4 = .ok (.getfield 353, 3) := by decide +kernel
theorem dX12_lays_7 : decode cX12_lays 7 = .ok (.if_icmp .ge 164, 3) := by decide +kernel
theorem dX12_lays_10 : decode cX12_lays 10 = .ok (.aload_n 0, 1) := by decide +kernel
theorem dX12_lays_11 : decode cX12_lays 11 = .ok (.getfield 60, 3) := by decide +kernel
theorem dX12_lays_14 : decode cX12_lays 14 = .ok (.iload_n 3, 1) := by decide +kernel
theorem dX12_lays_15 : decode cX12_lays 15 = .ok (.iaload, 1) := by decide +kernel
theorem dX12_lays_16 : decode cX12_lays 16 = .ok (.iload_n 1, 1) := by decide +kernel
theorem dX12_lays_17 : decode cX12_lays 17 = .ok (.aload_n 2, 1) := by decide +kernel
theorem dX12_lays_18 : decode cX12_lays 18 = .ok (.invokestatic 453, 3) := by decide +kernel
theorem dX12_lays_21 : decode cX12_lays 21 = .ok (.lstore 4, 2) := by decide +kernel
theorem dX12_lays_23 : decode cX12_lays 23 = .ok (.aload_n 0, 1) := by decide +kernel
theorem dX12_lays_24 : decode cX12_lays 24 = .ok (.getfield 63, 3) := by decide +kernel
theorem dX12_lays_27 : decode cX12_lays 27 = .ok (.iload_n 3, 1) := by decide +kernel
theorem dX12_lays_28 : decode cX12_lays 28 = .ok (.iaload, 1) := by decide +kernel
theorem dX12_lays_29 : decode cX12_lays 29 = .ok (.iload_n 1, 1) := by decide +kernel
theorem dX12_lays_30 : decode cX12_lays 30 = .ok (.aload_n 2, 1) := by decide +kernel
theorem dX12_lays_31 : decode cX12_lays 31 = .ok (.invokestatic 453, 3) := by decide +kernel
theorem dX12_lays_34 : decode cX12_lays 34 = .ok (.lstore 6, 2) := by decide +kernel
theorem dX12_lays_36 : decode cX12_lays 36 = .ok (.aload_n 0, 1) := by decide +kernel
theorem dX12_lays_37 : decode cX12_lays 37 = .ok (.getfield 48, 3) := by decide +kernel
theorem dX12_lays_40 : decode cX12_lays 40 = .ok (.iload_n 3, 1) := by decide +kernel
theorem dX12_lays_41 : decode cX12_lays 41 = .ok (.iaload, 1) := by decide +kernel
theorem dX12_lays_42 : decode cX12_lays 42 = .ok (.iconst 3, 1) := by decide +kernel
theorem dX12_lays_43 : decode cX12_lays 43 = .ok (.if_icmp .ne 13, 3) := by decide +kernel
theorem dX12_lays_46 : decode cX12_lays 46 = .ok (.lload 4, 2) := by decide +kernel
theorem dX12_lays_48 : decode cX12_lays 48 = .ok (.lload 6, 2) := by decide +kernel
theorem dX12_lays_50 : decode cX12_lays 50 = .ok (.ladd, 1) := by decide +kernel
theorem dX12_lays_51 : decode cX12_lays 51 = .ok (.lstore 8, 2) := by decide +kernel
theorem dX12_lays_53 : decode cX12_lays 53 = .ok (.goto 95, 3) := by decide +kernel
theorem dX12_lays_56 : decode cX12_lays 56 = .ok (.aload_n 0, 1) := by decide +kernel
theorem dX12_lays_57 : decode cX12_lays 57 = .ok (.getfield 48, 3) := by decide +kernel
theorem dX12_lays_60 : decode cX12_lays 60 = .ok (.iload_n 3, 1) := by decide +kernel
theorem dX12_lays_61 : decode cX12_lays 61 = .ok (.iaload, 1) := by decide +kernel
theorem dX12_lays_62 : decode cX12_lays 62 = .ok (.iconst 4, 1) := by decide +kernel
theorem dX12_lays_63 : decode cX12_lays 63 = .ok (.if_icmp .ne 13, 3) := by decide +kernel
theorem dX12_lays_66 : decode cX12_lays 66 = .ok (.lload 4, 2) := by decide +kernel
theorem dX12_lays_68 : decode cX12_lays 68 = .ok (.lload 6, 2) := by decide +kernel
theorem dX12_lays_70 : decode cX12_lays 70 = .ok (.lsub, 1) := by decide +kernel
theorem dX12_lays_71 : decode cX12_lays 71 = .ok (.lstore 8, 2) := by decide +kernel
theorem dX12_lays_73 : decode cX12_lays 73 = .ok (.goto 75, 3) := by decide +kernel
theorem dX12_lays_76 : decode cX12_lays 76 = .ok (.aload_n 0, 1) := by decide +kernel
theorem dX12_lays_77 : decode cX12_lays 77 = .ok (.getfield 48, 3) := by decide +kernel
theorem dX12_lays_80 : decode cX12_lays 80 = .ok (.iload_n 3, 1) := by decide +kernel
theorem dX12_lays_81 : decode cX12_lays 81 = .ok (.iaload, 1) := by decide +kernel
theorem dX12_lays_82 : decode cX12_lays 82 = .ok (.iconst 5, 1) := by decide +kernel
theorem dX12_lays_83 : decode cX12_lays 83 = .ok (.if_icmp .ne 35, 3) := by decide +kernel
theorem dX12_lays_86 : decode cX12_lays 86 = .ok (.lload 4, 2) := by decide +kernel
theorem dX12_lays_88 : decode cX12_lays 88 = .ok (.aload_n 0, 1) := by decide +kernel
theorem dX12_lays_89 : decode cX12_lays 89 = .ok (.getfield 57, 3) := by decide +kernel
theorem dX12_lays_92 : decode cX12_lays 92 = .ok (.iload_n 3, 1) := by decide +kernel
theorem dX12_lays_93 : decode cX12_lays 93 = .ok (.laload, 1) := by decide +kernel
theorem dX12_lays_94 : decode cX12_lays 94 = .ok (.lmul, 1) := by decide +kernel
theorem dX12_lays_95 : decode cX12_lays 95 = .ok (.ldc2_w 338, 3) := by decide +kernel
theorem dX12_lays_98 : decode cX12_lays 98 = .ok (.lrem, 1) := by decide +kernel
theorem dX12_lays_99 : decode cX12_lays 99 = .ok (.lload 6, 2) := by decide +kernel
theorem dX12_lays_101 : decode cX12_lays 101 = .ok (.aload_n 0, 1) := by decide +kernel
theorem dX12_lays_102 : decode cX12_lays 102 = .ok (.getfield 54, 3) := by decide +kernel
theorem dX12_lays_105 : decode cX12_lays 105 = .ok (.iload_n 3, 1) := by decide +kernel
theorem dX12_lays_106 : decode cX12_lays 106 = .ok (.laload, 1) := by decide +kernel
theorem dX12_lays_107 : decode cX12_lays 107 = .ok (.lmul, 1) := by decide +kernel
theorem dX12_lays_108 : decode cX12_lays 108 = .ok (.ldc2_w 338, 3) := by decide +kernel
theorem dX12_lays_111 : decode cX12_lays 111 = .ok (.lrem, 1) := by decide +kernel
theorem dX12_lays_112 : decode cX12_lays 112 = .ok (.ladd, 1) := by decide +kernel
theorem dX12_lays_113 : decode cX12_lays 113 = .ok (.lstore 8, 2) := by decide +kernel
theorem dX12_lays_115 : decode cX12_lays 115 = .ok (.goto 33, 3) := by decide +kernel
theorem dX12_lays_118 : decode cX12_lays 118 = .ok (.lload 4, 2) := by decide +kernel
theorem dX12_lays_120 : decode cX12_lays 120 = .ok (.aload_n 0, 1) := by decide +kernel
theorem dX12_lays_121 : decode cX12_lays 121 = .ok (.getfield 51, 3) := by decide +kernel
theorem dX12_lays_124 : decode cX12_lays 124 = .ok (.iload_n 3, 1) := by decide +kernel
theorem dX12_lays_125 : decode cX12_lays 125 = .ok (.laload, 1) := by decide +kernel
theorem dX12_lays_126 : decode cX12_lays 126 = .ok (.lload 6, 2) := by decide +kernel
theorem dX12_lays_128 : decode cX12_lays 128 = .ok (.lmul, 1) := by decide +kernel
theorem dX12_lays_129 : decode cX12_lays 129 = .ok (.ldc2_w 338, 3) := by decide +kernel
theorem dX12_lays_132 : decode cX12_lays 132 = .ok (.lrem, 1) := by decide +kernel
theorem dX12_lays_133 : decode cX12_lays 133 = .ok (.lsub, 1) := by decide +kernel
theorem dX12_lays_134 : decode cX12_lays 134 = .ok (.invokestatic 408, 3) := by decide +kernel
theorem dX12_lays_137 : decode cX12_lays 137 = .ok (.aload_n 0, 1) := by decide +kernel
theorem dX12_lays_138 : decode cX12_lays 138 = .ok (.getfield 57, 3) := by decide +kernel
theorem dX12_lays_141 : decode cX12_lays 141 = .ok (.iload_n 3, 1) := by decide +kernel
theorem dX12_lays_142 : decode cX12_lays 142 = .ok (.laload, 1) := by decide +kernel
theorem dX12_lays_143 : decode cX12_lays 143 = .ok (.invokestatic 411, 3) := by decide +kernel
theorem dX12_lays_146 : decode cX12_lays 146 = .ok (.lstore 8, 2) := by decide +kernel
theorem dX12_lays_148 : decode cX12_lays 148 = .ok (.aload_n 2, 1) := by decide +kernel
theorem dX12_lays_149 : decode cX12_lays 149 = .ok (.iload_n 3, 1) := by decide +kernel
theorem dX12_lays_150 : decode cX12_lays 150 = .ok (.iload_n 3, 1) := by decide +kernel
theorem dX12_lays_151 : decode cX12_lays 151 = .ok (.iload_n 1, 1) := by decide +kernel
theorem dX12_lays_152 : decode cX12_lays 152 = .ok (.if_icmp .ne 7, 3) := by decide +kernel
theorem dX12_lays_155 : decode cX12_lays 155 = .ok (.lconst 1, 1) := by decide +kernel
theorem dX12_lays_156 : decode cX12_lays 156 = .ok (.goto 8, 3) := by decide +kernel
theorem dX12_lays_159 : decode cX12_lays 159 = .ok (.lload 8, 2) := by decide +kernel
theorem dX12_lays_161 : decode cX12_lays 161 = .ok (.invokestatic 408, 3) := by decide +kernel
theorem dX12_lays_164 : decode cX12_lays 164 = .ok (.lastore, 1) := by decide +kernel
theorem dX12_lays_165 : decode cX12_lays 165 = .ok (.iinc 3 1, 3) := by decide +kernel
theorem dX12_lays_168 : decode cX12_lays 168 = .ok (.goto (-166), 3) := by decide +kernel
theorem dX12_lays_171 : decode cX12_lays 171 = .ok (.return_, 1) := by decide +kernel
theorem dX12_slope_0 : decode cX12_slope 0 = .ok (.aload_n 0, 1) := by decide +kernel
theorem dX12_slope_1 : decode cX12_slope 1 = .ok (.iconst 0, 1) := by decide +kernel
theorem dX12_slope_2 : decode cX12_slope 2 = .ok (.putfield 142, 3) := by decide +kernel
theorem dX12_slope_5 : decode cX12_slope 5 = .ok (.aload_n 0, 1) := by decide +kernel
theorem dX12_slope_6 : decode cX12_slope 6 = .ok (.iload_n 1, 1) := by decide +kernel
theorem dX12_slope_7 : decode cX12_slope 7 = .ok (.invokevirtual 420, 3) := by decide +kernel
theorem dX12_slope_10 : decode cX12_slope 10 = .ok (.ifCond .eq 21, 3) := by decide +kernel
theorem dX12_slope_13 : decode cX12_slope 13 = .ok (.aload_n 0, 1) := by decide +kernel
theorem dX12_slope_14 : decode cX12_slope 14 = .ok (.iload_n 2, 1) := by decide +kernel
theorem dX12_slope_15 : decode cX12_slope 15 = .ok (.invokevirtual 438, 3) := by decide +kernel
theorem dX12_slope_18 : decode cX12_slope 18 = .ok (.ifCond .eq 13, 3) := by decide +kernel
theorem dX12_slope_21 : decode cX12_slope 21 = .ok (.aload_n 0, 1) := by decide +kernel
theorem dX12_slope_22 : decode cX12_slope 22 = .ok (.iload_n 1, 1) := by decide +kernel
theorem dX12_slope_23 : decode cX12_slope 23 = .ok (.iload_n 2, 1) := by decide +kernel
theorem dX12_slope_24 : decode cX12_slope 24 = .ok (.invokevirtual 457, 3) := by decide +kernel
theorem dX12_slope_27 : decode cX12_slope 27 = .ok (.l2i, 1) := by decide +kernel
theorem dX12_slope_28 : decode cX12_slope 28 = .ok (.goto 4, 3) := by decide +kernel
theorem dX12_slope_31 : decode cX12_slope 31 = .ok (.iconst (-1), 1) := by decide +kernel
theorem dX12_slope_32 : decode cX12_slope 32 = .ok (.ireturn, 1) := by decide +kernel
theorem dX12_riseOf_0 : decode cX12_riseOf 0 = .ok (.aload_n 0, 1) := by decide +kernel
theorem dX12_riseOf_1 : decode cX12_riseOf 1 = .ok (.sipush 1000, 3) := by decide +kernel
theorem dX12_riseOf_4 : decode cX12_riseOf 4 = .ok (.iload_n 2, 1) := by decide +kernel
theorem dX12_riseOf_5 : decode cX12_riseOf 5 = .ok (.iadd, 1) := by decide +kernel
theorem dX12_riseOf_6 : decode cX12_riseOf 6 = .ok (.aload_n 0, 1) := by decide +kernel
theorem dX12_riseOf_7 : decode cX12_riseOf 7 = .ok (.getfield 109, 3) := by decide +kernel
theorem dX12_riseOf_10 : decode cX12_riseOf 10 = .ok (.invokevirtual 461, 3) := by decide +kernel
theorem dX12_riseOf_13 : decode cX12_riseOf 13 = .ok (.aload_n 0, 1) := by decide +kernel
theorem dX12_riseOf_14 : decode cX12_riseOf 14 = .ok (.getfield 90, 3) := by decide +kernel
theorem dX12_riseOf_17 : decode cX12_riseOf 17 = .ok (.iload_n 1, 1) := by decide +kernel
theorem dX12_riseOf_18 : decode cX12_riseOf 18 = .ok (.iaload, 1) := by decide +kernel
theorem dX12_riseOf_19 : decode cX12_riseOf 19 = .ok (.sipush 1000, 3) := by decide +kernel
theorem dX12_riseOf_22 : decode cX12_riseOf 22 = .ok (.iload_n 2, 1) := by decide +kernel
theorem dX12_riseOf_23 : decode cX12_riseOf 23 = .ok (.iadd, 1) := by decide +kernel
theorem dX12_riseOf_24 : decode cX12_riseOf 24 = .ok (.aload_n 0, 1) := by decide +kernel
theorem dX12_riseOf_25 : decode cX12_riseOf 25 = .ok (.getfield 109, 3) := by decide +kernel
theorem dX12_riseOf_28 : decode cX12_riseOf 28 = .ok (.invokestatic 453, 3) := by decide +kernel
theorem dX12_riseOf_31 : decode cX12_riseOf 31 = .ok (.lreturn, 1) := by decide +kernel
theorem dX12_bar_0 : decode cX12_bar 0 = .ok (.aload_n 0, 1) := by decide +kernel
theorem dX12_bar_1 : decode cX12_bar 1 = .ok (.iconst 0, 1) := by decide +kernel
theorem dX12_bar_2 : decode cX12_bar 2 = .ok (.putfield 142, 3) := by decide +kernel
theorem dX12_bar_5 : decode cX12_bar 5 = .ok (.aload_n 0, 1) := by decide +kernel
theorem dX12_bar_6 : decode cX12_bar 6 = .ok (.iload_n 1, 1) := by decide +kernel
theorem dX12_bar_7 : decode cX12_bar 7 = .ok (.invokevirtual 420, 3) := by decide +kernel
theorem dX12_bar_10 : decode cX12_bar 10 = .ok (.ifCond .eq 11, 3) := by decide +kernel
theorem dX12_bar_13 : decode cX12_bar 13 = .ok (.aload_n 0, 1) := by decide +kernel
theorem dX12_bar_14 : decode cX12_bar 14 = .ok (.iload_n 2, 1) := by decide +kernel
theorem dX12_bar_15 : decode cX12_bar 15 = .ok (.invokevirtual 429, 3) := by decide +kernel
theorem dX12_bar_18 : decode cX12_bar 18 = .ok (.ifCond .ne 5, 3) := by decide +kernel
theorem dX12_bar_21 : decode cX12_bar 21 = .ok (.iconst (-1), 1) := by decide +kernel
theorem dX12_bar_22 : decode cX12_bar 22 = .ok (.ireturn, 1) := by decide +kernel
theorem dX12_bar_23 : decode cX12_bar 23 = .ok (.aload_n 0, 1) := by decide +kernel
theorem dX12_bar_24 : decode cX12_bar 24 = .ok (.iload_n 2, 1) := by decide +kernel
theorem dX12_bar_25 : decode cX12_bar 25 = .ok (.aload_n 0, 1) := by decide +kernel
theorem dX12_bar_26 : decode cX12_bar 26 = .ok (.getfield 109, 3) := by decide +kernel
theorem dX12_bar_29 : decode cX12_bar 29 = .ok (.invokevirtual 461, 3) := by decide +kernel
theorem dX12_bar_32 : decode cX12_bar 32 = .ok (.aload_n 0, 1) := by decide +kernel
theorem dX12_bar_33 : decode cX12_bar 33 = .ok (.getfield 90, 3) := by decide +kernel
theorem dX12_bar_36 : decode cX12_bar 36 = .ok (.iload_n 1, 1) := by decide +kernel
theorem dX12_bar_37 : decode cX12_bar 37 = .ok (.iaload, 1) := by decide +kernel
theorem dX12_bar_38 : decode cX12_bar 38 = .ok (.iload_n 2, 1) := by decide +kernel
theorem dX12_bar_39 : decode cX12_bar 39 = .ok (.aload_n 0, 1) := by decide +kernel
theorem dX12_bar_40 : decode cX12_bar 40 = .ok (.getfield 109, 3) := by decide +kernel
theorem dX12_bar_43 : decode cX12_bar 43 = .ok (.invokestatic 453, 3) := by decide +kernel
theorem dX12_bar_46 : decode cX12_bar 46 = .ok (.l2i, 1) := by decide +kernel
theorem dX12_bar_47 : decode cX12_bar 47 = .ok (.ireturn, 1) := by decide +kernel
theorem dX12_secondOf_0 : decode cX12_secondOf 0 = .ok (.iload_n 0, 1) := by decide +kernel
theorem dX12_secondOf_1 : decode cX12_secondOf 1 = .ok (.ifCond .lt 16, 3) := by decide +kernel
theorem dX12_secondOf_4 : decode cX12_secondOf 4 = .ok (.iload_n 0, 1) := by decide +kernel
theorem dX12_secondOf_5 : decode cX12_secondOf 5 = .ok (.sipush 1000, 3) := by decide +kernel
theorem dX12_secondOf_8 : decode cX12_secondOf 8 = .ok (.if_icmp .ge 9, 3) := by decide +kernel
theorem dX12_secondOf_11 : decode cX12_secondOf 11 = .ok (.aload_n 1, 1) := by decide +kernel
theorem dX12_secondOf_12 : decode cX12_secondOf 12 = .ok (.iload_n 0, 1) := by decide +kernel
theorem dX12_secondOf_13 : decode cX12_secondOf 13 = .ok (.laload, 1) := by decide +kernel
theorem dX12_secondOf_14 : decode cX12_secondOf 14 = .ok (.goto 4, 3) := by decide +kernel
theorem dX12_secondOf_17 : decode cX12_secondOf 17 = .ok (.lconst 0, 1) := by decide +kernel
theorem dX12_secondOf_18 : decode cX12_secondOf 18 = .ok (.lreturn, 1) := by decide +kernel
theorem dX12_secondBy_0 : decode cX12_secondBy 0 = .ok (.aload_n 0, 1) := by decide +kernel
theorem dX12_secondBy_1 : decode cX12_secondBy 1 = .ok (.sipush 1000, 3) := by decide +kernel
theorem dX12_secondBy_4 : decode cX12_secondBy 4 = .ok (.iload_n 2, 1) := by decide +kernel
theorem dX12_secondBy_5 : decode cX12_secondBy 5 = .ok (.iadd, 1) := by decide +kernel
theorem dX12_secondBy_6 : decode cX12_secondBy 6 = .ok (.aload_n 0, 1) := by decide +kernel
theorem dX12_secondBy_7 : decode cX12_secondBy 7 = .ok (.getfield 109, 3) := by decide +kernel
theorem dX12_secondBy_10 : decode cX12_secondBy 10 = .ok (.invokevirtual 461, 3) := by decide +kernel
theorem dX12_secondBy_13 : decode cX12_secondBy 13 = .ok (.aload_n 0, 1) := by decide +kernel
theorem dX12_secondBy_14 : decode cX12_secondBy 14 = .ok (.sipush 1000, 3) := by decide +kernel
theorem dX12_secondBy_17 : decode cX12_secondBy 17 = .ok (.iload_n 3, 1) := by decide +kernel
theorem dX12_secondBy_18 : decode cX12_secondBy 18 = .ok (.iadd, 1) := by decide +kernel
theorem dX12_secondBy_19 : decode cX12_secondBy 19 = .ok (.aload_n 0, 1) := by decide +kernel
theorem dX12_secondBy_20 : decode cX12_secondBy 20 = .ok (.getfield 112, 3) := by decide +kernel
theorem dX12_secondBy_23 : decode cX12_secondBy 23 = .ok (.invokevirtual 461, 3) := by decide +kernel
theorem dX12_secondBy_26 : decode cX12_secondBy 26 = .ok (.iconst 0, 1) := by decide +kernel
theorem dX12_secondBy_27 : decode cX12_secondBy 27 = .ok (.istore 4, 2) := by decide +kernel
theorem dX12_secondBy_29 : decode cX12_secondBy 29 = .ok (.iload 4, 2) := by decide +kernel
theorem dX12_secondBy_31 : decode cX12_secondBy 31 = .ok (.aload_n 0, 1) := by decide +kernel
theorem dX12_secondBy_32 : decode cX12_secondBy 32 = .ok (.getfield 353, 3) := by decide +kernel
theorem dX12_secondBy_35 : decode cX12_secondBy 35 = .ok (.if_icmp .ge 306, 3) := by decide +kernel
theorem dX12_secondBy_38 : decode cX12_secondBy 38 = .ok (.aload_n 0, 1) := by decide +kernel
theorem dX12_secondBy_39 : decode cX12_secondBy 39 = .ok (.getfield 60, 3) := by decide +kernel
theorem dX12_secondBy_42 : decode cX12_secondBy 42 = .ok (.iload 4, 2) := by decide +kernel
theorem dX12_secondBy_44 : decode cX12_secondBy 44 = .ok (.iaload, 1) := by decide +kernel
theorem dX12_secondBy_45 : decode cX12_secondBy 45 = .ok (.aload_n 0, 1) := by decide +kernel
theorem dX12_secondBy_46 : decode cX12_secondBy 46 = .ok (.getfield 115, 3) := by decide +kernel
theorem dX12_secondBy_49 : decode cX12_secondBy 49 = .ok (.invokestatic 465, 3) := by decide +kernel
theorem dX12_secondBy_52 : decode cX12_secondBy 52 = .ok (.lstore 5, 2) := by decide +kernel
theorem dX12_secondBy_54 : decode cX12_secondBy 54 = .ok (.aload_n 0, 1) := by decide +kernel
theorem dX12_secondBy_55 : decode cX12_secondBy 55 = .ok (.getfield 63, 3) := by decide +kernel
theorem dX12_secondBy_58 : decode cX12_secondBy 58 = .ok (.iload 4, 2) := by decide +kernel
theorem dX12_secondBy_60 : decode cX12_secondBy 60 = .ok (.iaload, 1) := by decide +kernel
theorem dX12_secondBy_61 : decode cX12_secondBy 61 = .ok (.aload_n 0, 1) := by decide +kernel
theorem dX12_secondBy_62 : decode cX12_secondBy 62 = .ok (.getfield 115, 3) := by decide +kernel
theorem dX12_secondBy_65 : decode cX12_secondBy 65 = .ok (.invokestatic 465, 3) := by decide +kernel
theorem dX12_secondBy_68 : decode cX12_secondBy 68 = .ok (.lstore 7, 2) := by decide +kernel
theorem dX12_secondBy_70 : decode cX12_secondBy 70 = .ok (.aload_n 0, 1) := by decide +kernel
theorem dX12_secondBy_71 : decode cX12_secondBy 71 = .ok (.getfield 60, 3) := by decide +kernel
theorem dX12_secondBy_74 : decode cX12_secondBy 74 = .ok (.iload 4, 2) := by decide +kernel
theorem dX12_secondBy_76 : decode cX12_secondBy 76 = .ok (.iaload, 1) := by decide +kernel
theorem dX12_secondBy_77 : decode cX12_secondBy 77 = .ok (.sipush 1000, 3) := by decide +kernel
theorem dX12_secondBy_80 : decode cX12_secondBy 80 = .ok (.iload_n 2, 1) := by decide +kernel
theorem dX12_secondBy_81 : decode cX12_secondBy 81 = .ok (.iadd, 1) := by decide +kernel
theorem dX12_secondBy_82 : decode cX12_secondBy 82 = .ok (.aload_n 0, 1) := by decide +kernel
theorem dX12_secondBy_83 : decode cX12_secondBy 83 = .ok (.getfield 109, 3) := by decide +kernel
theorem dX12_secondBy_86 : decode cX12_secondBy 86 = .ok (.invokestatic 453, 3) := by decide +kernel
theorem dX12_secondBy_89 : decode cX12_secondBy 89 = .ok (.lstore 9, 2) := by decide +kernel
theorem dX12_secondBy_91 : decode cX12_secondBy 91 = .ok (.aload_n 0, 1) := by decide +kernel
theorem dX12_secondBy_92 : decode cX12_secondBy 92 = .ok (.getfield 63, 3) := by decide +kernel
theorem dX12_secondBy_95 : decode cX12_secondBy 95 = .ok (.iload 4, 2) := by decide +kernel
theorem dX12_secondBy_97 : decode cX12_secondBy 97 = .ok (.iaload, 1) := by decide +kernel
theorem dX12_secondBy_98 : decode cX12_secondBy 98 = .ok (.sipush 1000, 3) := by decide +kernel
theorem dX12_secondBy_101 : decode cX12_secondBy 101 = .ok (.iload_n 2, 1) := by decide +kernel
theorem dX12_secondBy_102 : decode cX12_secondBy 102 = .ok (.iadd, 1) := by decide +kernel
theorem dX12_secondBy_103 : decode cX12_secondBy 103 = .ok (.aload_n 0, 1) := by decide +kernel
theorem dX12_secondBy_104 : decode cX12_secondBy 104 = .ok (.getfield 109, 3) := by decide +kernel
theorem dX12_secondBy_107 : decode cX12_secondBy 107 = .ok (.invokestatic 453, 3) := by decide +kernel
theorem dX12_secondBy_110 : decode cX12_secondBy 110 = .ok (.lstore 11, 2) := by decide +kernel
theorem dX12_secondBy_112 : decode cX12_secondBy 112 = .ok (.aload_n 0, 1) := by decide +kernel
theorem dX12_secondBy_113 : decode cX12_secondBy 113 = .ok (.getfield 60, 3) := by decide +kernel
theorem dX12_secondBy_116 : decode cX12_secondBy 116 = .ok (.iload 4, 2) := by decide +kernel
theorem dX12_secondBy_118 : decode cX12_secondBy 118 = .ok (.iaload, 1) := by decide +kernel
theorem dX12_secondBy_119 : decode cX12_secondBy 119 = .ok (.sipush 1000, 3) := by decide +kernel
theorem dX12_secondBy_122 : decode cX12_secondBy 122 = .ok (.iload_n 3, 1) := by decide +kernel
theorem dX12_secondBy_123 : decode cX12_secondBy 123 = .ok (.iadd, 1) := by decide +kernel
theorem dX12_secondBy_124 : decode cX12_secondBy 124 = .ok (.aload_n 0, 1) := by decide +kernel
theorem dX12_secondBy_125 : decode cX12_secondBy 125 = .ok (.getfield 112, 3) := by decide +kernel
theorem dX12_secondBy_128 : decode cX12_secondBy 128 = .ok (.invokestatic 453, 3) := by decide +kernel
theorem dX12_secondBy_131 : decode cX12_secondBy 131 = .ok (.lstore 13, 2) := by decide +kernel
theorem dX12_secondBy_133 : decode cX12_secondBy 133 = .ok (.aload_n 0, 1) := by decide +kernel
theorem dX12_secondBy_134 : decode cX12_secondBy 134 = .ok (.getfield 63, 3) := by decide +kernel
theorem dX12_secondBy_137 : decode cX12_secondBy 137 = .ok (.iload 4, 2) := by decide +kernel
theorem dX12_secondBy_139 : decode cX12_secondBy 139 = .ok (.iaload, 1) := by decide +kernel
theorem dX12_secondBy_140 : decode cX12_secondBy 140 = .ok (.sipush 1000, 3) := by decide +kernel
theorem dX12_secondBy_143 : decode cX12_secondBy 143 = .ok (.iload_n 3, 1) := by decide +kernel
theorem dX12_secondBy_144 : decode cX12_secondBy 144 = .ok (.iadd, 1) := by decide +kernel
theorem dX12_secondBy_145 : decode cX12_secondBy 145 = .ok (.aload_n 0, 1) := by decide +kernel
theorem dX12_secondBy_146 : decode cX12_secondBy 146 = .ok (.getfield 112, 3) := by decide +kernel
theorem dX12_secondBy_149 : decode cX12_secondBy 149 = .ok (.invokestatic 453, 3) := by decide +kernel
theorem dX12_secondBy_152 : decode cX12_secondBy 152 = .ok (.lstore 15, 2) := by decide +kernel
theorem dX12_secondBy_154 : decode cX12_secondBy 154 = .ok (.aload_n 0, 1) := by decide +kernel
theorem dX12_secondBy_155 : decode cX12_secondBy 155 = .ok (.getfield 48, 3) := by decide +kernel
theorem dX12_secondBy_158 : decode cX12_secondBy 158 = .ok (.iload 4, 2) := by decide +kernel
theorem dX12_secondBy_160 : decode cX12_secondBy 160 = .ok (.iaload, 1) := by decide +kernel
theorem dX12_secondBy_161 : decode cX12_secondBy 161 = .ok (.iconst 3, 1) := by decide +kernel
theorem dX12_secondBy_162 : decode cX12_secondBy 162 = .ok (.if_icmp .ne 13, 3) := by decide +kernel
theorem dX12_secondBy_165 : decode cX12_secondBy 165 = .ok (.lload 5, 2) := by decide +kernel
theorem dX12_secondBy_167 : decode cX12_secondBy 167 = .ok (.lload 7, 2) := by decide +kernel
theorem dX12_secondBy_169 : decode cX12_secondBy 169 = .ok (.ladd, 1) := by decide +kernel
theorem dX12_secondBy_170 : decode cX12_secondBy 170 = .ok (.lstore 17, 2) := by decide +kernel
theorem dX12_secondBy_172 : decode cX12_secondBy 172 = .ok (.goto 151, 3) := by decide +kernel
theorem dX12_secondBy_175 : decode cX12_secondBy 175 = .ok (.aload_n 0, 1) := by decide +kernel
theorem dX12_secondBy_176 : decode cX12_secondBy 176 = .ok (.getfield 48, 3) := by decide +kernel
theorem dX12_secondBy_179 : decode cX12_secondBy 179 = .ok (.iload 4, 2) := by decide +kernel
theorem dX12_secondBy_181 : decode cX12_secondBy 181 = .ok (.iaload, 1) := by decide +kernel
theorem dX12_secondBy_182 : decode cX12_secondBy 182 = .ok (.iconst 4, 1) := by decide +kernel
theorem dX12_secondBy_183 : decode cX12_secondBy 183 = .ok (.if_icmp .ne 13, 3) := by decide +kernel
theorem dX12_secondBy_186 : decode cX12_secondBy 186 = .ok (.lload 5, 2) := by decide +kernel
theorem dX12_secondBy_188 : decode cX12_secondBy 188 = .ok (.lload 7, 2) := by decide +kernel
theorem dX12_secondBy_190 : decode cX12_secondBy 190 = .ok (.lsub, 1) := by decide +kernel
theorem dX12_secondBy_191 : decode cX12_secondBy 191 = .ok (.lstore 17, 2) := by decide +kernel
theorem dX12_secondBy_193 : decode cX12_secondBy 193 = .ok (.goto 130, 3) := by decide +kernel
theorem dX12_secondBy_196 : decode cX12_secondBy 196 = .ok (.aload_n 0, 1) := by decide +kernel
theorem dX12_secondBy_197 : decode cX12_secondBy 197 = .ok (.getfield 48, 3) := by decide +kernel
theorem dX12_secondBy_200 : decode cX12_secondBy 200 = .ok (.iload 4, 2) := by decide +kernel
theorem dX12_secondBy_202 : decode cX12_secondBy 202 = .ok (.iaload, 1) := by decide +kernel
theorem dX12_secondBy_203 : decode cX12_secondBy 203 = .ok (.iconst 5, 1) := by decide +kernel
theorem dX12_secondBy_204 : decode cX12_secondBy 204 = .ok (.if_icmp .ne 57, 3) := by decide +kernel
theorem dX12_secondBy_207 : decode cX12_secondBy 207 = .ok (.lload 5, 2) := by decide +kernel
theorem dX12_secondBy_209 : decode cX12_secondBy 209 = .ok (.aload_n 0, 1) := by decide +kernel
theorem dX12_secondBy_210 : decode cX12_secondBy 210 = .ok (.getfield 57, 3) := by decide +kernel
theorem dX12_secondBy_213 : decode cX12_secondBy 213 = .ok (.iload 4, 2) := by decide +kernel
theorem dX12_secondBy_215 : decode cX12_secondBy 215 = .ok (.laload, 1) := by decide +kernel
theorem dX12_secondBy_216 : decode cX12_secondBy 216 = .ok (.lmul, 1) := by decide +kernel
theorem dX12_secondBy_217 : decode cX12_secondBy 217 = .ok (.ldc2_w 338, 3) := by decide +kernel
theorem dX12_secondBy_220 : decode cX12_secondBy 220 = .ok (.lrem, 1) := by decide +kernel
theorem dX12_secondBy_221 : decode cX12_secondBy 221 = .ok (.lload 9, 2) := by decide +kernel
theorem dX12_secondBy_223 : decode cX12_secondBy 223 = .ok (.lload 15, 2) := by decide +kernel
theorem dX12_secondBy_225 : decode cX12_secondBy 225 = .ok (.lmul, 1) := by decide +kernel
theorem dX12_secondBy_226 : decode cX12_secondBy 226 = .ok (.ldc2_w 338, 3) := by decide +kernel
theorem dX12_secondBy_229 : decode cX12_secondBy 229 = .ok (.lrem, 1) := by decide +kernel
theorem dX12_secondBy_230 : decode cX12_secondBy 230 = .ok (.ladd, 1) := by decide +kernel
theorem dX12_secondBy_231 : decode cX12_secondBy 231 = .ok (.lload 13, 2) := by decide +kernel
theorem dX12_secondBy_233 : decode cX12_secondBy 233 = .ok (.lload 11, 2) := by decide +kernel
theorem dX12_secondBy_235 : decode cX12_secondBy 235 = .ok (.lmul, 1) := by decide +kernel
theorem dX12_secondBy_236 : decode cX12_secondBy 236 = .ok (.ldc2_w 338, 3) := by decide +kernel
theorem dX12_secondBy_239 : decode cX12_secondBy 239 = .ok (.lrem, 1) := by decide +kernel
theorem dX12_secondBy_240 : decode cX12_secondBy 240 = .ok (.ladd, 1) := by decide +kernel
theorem dX12_secondBy_241 : decode cX12_secondBy 241 = .ok (.lload 7, 2) := by decide +kernel
theorem dX12_secondBy_243 : decode cX12_secondBy 243 = .ok (.aload_n 0, 1) := by decide +kernel
theorem dX12_secondBy_244 : decode cX12_secondBy 244 = .ok (.getfield 54, 3) := by decide +kernel
theorem dX12_secondBy_247 : decode cX12_secondBy 247 = .ok (.iload 4, 2) := by decide +kernel
theorem dX12_secondBy_249 : decode cX12_secondBy 249 = .ok (.laload, 1) := by decide +kernel
theorem dX12_secondBy_250 : decode cX12_secondBy 250 = .ok (.lmul, 1) := by decide +kernel
theorem dX12_secondBy_251 : decode cX12_secondBy 251 = .ok (.ldc2_w 338, 3) := by decide +kernel
theorem dX12_secondBy_254 : decode cX12_secondBy 254 = .ok (.lrem, 1) := by decide +kernel
theorem dX12_secondBy_255 : decode cX12_secondBy 255 = .ok (.ladd, 1) := by decide +kernel
theorem dX12_secondBy_256 : decode cX12_secondBy 256 = .ok (.lstore 17, 2) := by decide +kernel
theorem dX12_secondBy_258 : decode cX12_secondBy 258 = .ok (.goto 65, 3) := by decide +kernel
theorem dX12_secondBy_261 : decode cX12_secondBy 261 = .ok (.lload 5, 2) := by decide +kernel
theorem dX12_secondBy_263 : decode cX12_secondBy 263 = .ok (.aload_n 0, 1) := by decide +kernel
theorem dX12_secondBy_264 : decode cX12_secondBy 264 = .ok (.getfield 109, 3) := by decide +kernel
theorem dX12_secondBy_267 : decode cX12_secondBy 267 = .ok (.iload 4, 2) := by decide +kernel
theorem dX12_secondBy_269 : decode cX12_secondBy 269 = .ok (.laload, 1) := by decide +kernel
theorem dX12_secondBy_270 : decode cX12_secondBy 270 = .ok (.lload 15, 2) := by decide +kernel
theorem dX12_secondBy_272 : decode cX12_secondBy 272 = .ok (.lmul, 1) := by decide +kernel
theorem dX12_secondBy_273 : decode cX12_secondBy 273 = .ok (.ldc2_w 338, 3) := by decide +kernel
theorem dX12_secondBy_276 : decode cX12_secondBy 276 = .ok (.lrem, 1) := by decide +kernel
theorem dX12_secondBy_277 : decode cX12_secondBy 277 = .ok (.lsub, 1) := by decide +kernel
theorem dX12_secondBy_278 : decode cX12_secondBy 278 = .ok (.aload_n 0, 1) := by decide +kernel
theorem dX12_secondBy_279 : decode cX12_secondBy 279 = .ok (.getfield 112, 3) := by decide +kernel
theorem dX12_secondBy_282 : decode cX12_secondBy 282 = .ok (.iload 4, 2) := by decide +kernel
theorem dX12_secondBy_284 : decode cX12_secondBy 284 = .ok (.laload, 1) := by decide +kernel
theorem dX12_secondBy_285 : decode cX12_secondBy 285 = .ok (.lload 11, 2) := by decide +kernel
theorem dX12_secondBy_287 : decode cX12_secondBy 287 = .ok (.lmul, 1) := by decide +kernel
theorem dX12_secondBy_288 : decode cX12_secondBy 288 = .ok (.ldc2_w 338, 3) := by decide +kernel
theorem dX12_secondBy_291 : decode cX12_secondBy 291 = .ok (.lrem, 1) := by decide +kernel
theorem dX12_secondBy_292 : decode cX12_secondBy 292 = .ok (.lsub, 1) := by decide +kernel
theorem dX12_secondBy_293 : decode cX12_secondBy 293 = .ok (.aload_n 0, 1) := by decide +kernel
theorem dX12_secondBy_294 : decode cX12_secondBy 294 = .ok (.getfield 51, 3) := by decide +kernel
theorem dX12_secondBy_297 : decode cX12_secondBy 297 = .ok (.iload 4, 2) := by decide +kernel
theorem dX12_secondBy_299 : decode cX12_secondBy 299 = .ok (.laload, 1) := by decide +kernel
theorem dX12_secondBy_300 : decode cX12_secondBy 300 = .ok (.lload 7, 2) := by decide +kernel
theorem dX12_secondBy_302 : decode cX12_secondBy 302 = .ok (.lmul, 1) := by decide +kernel
theorem dX12_secondBy_303 : decode cX12_secondBy 303 = .ok (.ldc2_w 338, 3) := by decide +kernel
theorem dX12_secondBy_306 : decode cX12_secondBy 306 = .ok (.lrem, 1) := by decide +kernel
theorem dX12_secondBy_307 : decode cX12_secondBy 307 = .ok (.lsub, 1) := by decide +kernel
theorem dX12_secondBy_308 : decode cX12_secondBy 308 = .ok (.invokestatic 408, 3) := by decide +kernel
theorem dX12_secondBy_311 : decode cX12_secondBy 311 = .ok (.aload_n 0, 1) := by decide +kernel
theorem dX12_secondBy_312 : decode cX12_secondBy 312 = .ok (.getfield 57, 3) := by decide +kernel
theorem dX12_secondBy_315 : decode cX12_secondBy 315 = .ok (.iload 4, 2) := by decide +kernel
theorem dX12_secondBy_317 : decode cX12_secondBy 317 = .ok (.laload, 1) := by decide +kernel
theorem dX12_secondBy_318 : decode cX12_secondBy 318 = .ok (.invokestatic 411, 3) := by decide +kernel
theorem dX12_secondBy_321 : decode cX12_secondBy 321 = .ok (.lstore 17, 2) := by decide +kernel
theorem dX12_secondBy_323 : decode cX12_secondBy 323 = .ok (.aload_n 0, 1) := by decide +kernel
theorem dX12_secondBy_324 : decode cX12_secondBy 324 = .ok (.getfield 115, 3) := by decide +kernel
theorem dX12_secondBy_327 : decode cX12_secondBy 327 = .ok (.iload 4, 2) := by decide +kernel
theorem dX12_secondBy_329 : decode cX12_secondBy 329 = .ok (.lload 17, 2) := by decide +kernel
theorem dX12_secondBy_331 : decode cX12_secondBy 331 = .ok (.invokestatic 408, 3) := by decide +kernel
theorem dX12_secondBy_334 : decode cX12_secondBy 334 = .ok (.lastore, 1) := by decide +kernel
theorem dX12_secondBy_335 : decode cX12_secondBy 335 = .ok (.iinc 4 1, 3) := by decide +kernel
theorem dX12_secondBy_338 : decode cX12_secondBy 338 = .ok (.goto (-309), 3) := by decide +kernel
theorem dX12_secondBy_341 : decode cX12_secondBy 341 = .ok (.aload_n 0, 1) := by decide +kernel
theorem dX12_secondBy_342 : decode cX12_secondBy 342 = .ok (.getfield 90, 3) := by decide +kernel
theorem dX12_secondBy_345 : decode cX12_secondBy 345 = .ok (.iload_n 1, 1) := by decide +kernel
theorem dX12_secondBy_346 : decode cX12_secondBy 346 = .ok (.iaload, 1) := by decide +kernel
theorem dX12_secondBy_347 : decode cX12_secondBy 347 = .ok (.aload_n 0, 1) := by decide +kernel
theorem dX12_secondBy_348 : decode cX12_secondBy 348 = .ok (.getfield 115, 3) := by decide +kernel
theorem dX12_secondBy_351 : decode cX12_secondBy 351 = .ok (.invokestatic 465, 3) := by decide +kernel
theorem dX12_secondBy_354 : decode cX12_secondBy 354 = .ok (.lreturn, 1) := by decide +kernel
theorem dX12_second_0 : decode cX12_second 0 = .ok (.aload_n 0, 1) := by decide +kernel
theorem dX12_second_1 : decode cX12_second 1 = .ok (.iconst 0, 1) := by decide +kernel
theorem dX12_second_2 : decode cX12_second 2 = .ok (.putfield 142, 3) := by decide +kernel
theorem dX12_second_5 : decode cX12_second 5 = .ok (.aload_n 0, 1) := by decide +kernel
theorem dX12_second_6 : decode cX12_second 6 = .ok (.iload_n 1, 1) := by decide +kernel
theorem dX12_second_7 : decode cX12_second 7 = .ok (.invokevirtual 420, 3) := by decide +kernel
theorem dX12_second_10 : decode cX12_second 10 = .ok (.ifCond .eq 30, 3) := by decide +kernel
theorem dX12_second_13 : decode cX12_second 13 = .ok (.aload_n 0, 1) := by decide +kernel
theorem dX12_second_14 : decode cX12_second 14 = .ok (.iload_n 2, 1) := by decide +kernel
theorem dX12_second_15 : decode cX12_second 15 = .ok (.invokevirtual 438, 3) := by decide +kernel
theorem dX12_second_18 : decode cX12_second 18 = .ok (.ifCond .eq 22, 3) := by decide +kernel
theorem dX12_second_21 : decode cX12_second 21 = .ok (.aload_n 0, 1) := by decide +kernel
theorem dX12_second_22 : decode cX12_second 22 = .ok (.iload_n 3, 1) := by decide +kernel
theorem dX12_second_23 : decode cX12_second 23 = .ok (.invokevirtual 438, 3) := by decide +kernel
theorem dX12_second_26 : decode cX12_second 26 = .ok (.ifCond .eq 14, 3) := by decide +kernel
theorem dX12_second_29 : decode cX12_second 29 = .ok (.aload_n 0, 1) := by decide +kernel
theorem dX12_second_30 : decode cX12_second 30 = .ok (.iload_n 1, 1) := by decide +kernel
theorem dX12_second_31 : decode cX12_second 31 = .ok (.iload_n 2, 1) := by decide +kernel
theorem dX12_second_32 : decode cX12_second 32 = .ok (.iload_n 3, 1) := by decide +kernel
theorem dX12_second_33 : decode cX12_second 33 = .ok (.invokevirtual 469, 3) := by decide +kernel
theorem dX12_second_36 : decode cX12_second 36 = .ok (.l2i, 1) := by decide +kernel
theorem dX12_second_37 : decode cX12_second 37 = .ok (.goto 4, 3) := by decide +kernel
theorem dX12_second_40 : decode cX12_second 40 = .ok (.iconst (-1), 1) := by decide +kernel
theorem dX12_second_41 : decode cX12_second 41 = .ok (.ireturn, 1) := by decide +kernel
theorem dX12_turned_0 : decode cX12_turned 0 = .ok (.aload_n 0, 1) := by decide +kernel
theorem dX12_turned_1 : decode cX12_turned 1 = .ok (.iconst 0, 1) := by decide +kernel
theorem dX12_turned_2 : decode cX12_turned 2 = .ok (.putfield 142, 3) := by decide +kernel
theorem dX12_turned_5 : decode cX12_turned 5 = .ok (.aload_n 0, 1) := by decide +kernel
theorem dX12_turned_6 : decode cX12_turned 6 = .ok (.iload_n 1, 1) := by decide +kernel
theorem dX12_turned_7 : decode cX12_turned 7 = .ok (.invokevirtual 420, 3) := by decide +kernel
theorem dX12_turned_10 : decode cX12_turned 10 = .ok (.ifCond .eq 11, 3) := by decide +kernel
theorem dX12_turned_13 : decode cX12_turned 13 = .ok (.aload_n 0, 1) := by decide +kernel
theorem dX12_turned_14 : decode cX12_turned 14 = .ok (.iload_n 2, 1) := by decide +kernel
theorem dX12_turned_15 : decode cX12_turned 15 = .ok (.invokevirtual 438, 3) := by decide +kernel
theorem dX12_turned_18 : decode cX12_turned 18 = .ok (.ifCond .ne 5, 3) := by decide +kernel
theorem dX12_turned_21 : decode cX12_turned 21 = .ok (.iconst (-1), 1) := by decide +kernel
theorem dX12_turned_22 : decode cX12_turned 22 = .ok (.ireturn, 1) := by decide +kernel
theorem dX12_turned_23 : decode cX12_turned 23 = .ok (.lconst 0, 1) := by decide +kernel
theorem dX12_turned_24 : decode cX12_turned 24 = .ok (.lstore 7, 2) := by decide +kernel
theorem dX12_turned_26 : decode cX12_turned 26 = .ok (.iconst 0, 1) := by decide +kernel
theorem dX12_turned_27 : decode cX12_turned 27 = .ok (.istore 9, 2) := by decide +kernel
theorem dX12_turned_29 : decode cX12_turned 29 = .ok (.iload 9, 2) := by decide +kernel
theorem dX12_turned_31 : decode cX12_turned 31 = .ok (.aload_n 0, 1) := by decide +kernel
theorem dX12_turned_32 : decode cX12_turned 32 = .ok (.getfield 314, 3) := by decide +kernel
theorem dX12_turned_35 : decode cX12_turned 35 = .ok (.if_icmp .ge 68, 3) := by decide +kernel
theorem dX12_turned_38 : decode cX12_turned 38 = .ok (.iload 9, 2) := by decide +kernel
theorem dX12_turned_40 : decode cX12_turned 40 = .ok (.ifCond .ne 7, 3) := by decide +kernel
theorem dX12_turned_43 : decode cX12_turned 43 = .ok (.iload_n 3, 1) := by decide +kernel
theorem dX12_turned_44 : decode cX12_turned 44 = .ok (.goto 27, 3) := by decide +kernel
theorem dX12_turned_47 : decode cX12_turned 47 = .ok (.iload 9, 2) := by decide +kernel
theorem dX12_turned_49 : decode cX12_turned 49 = .ok (.iconst 1, 1) := by decide +kernel
theorem dX12_turned_50 : decode cX12_turned 50 = .ok (.if_icmp .ne 8, 3) := by decide +kernel
theorem dX12_turned_53 : decode cX12_turned 53 = .ok (.iload 4, 2) := by decide +kernel
theorem dX12_turned_55 : decode cX12_turned 55 = .ok (.goto 16, 3) := by decide +kernel
theorem dX12_turned_58 : decode cX12_turned 58 = .ok (.iload 9, 2) := by decide +kernel
theorem dX12_turned_60 : decode cX12_turned 60 = .ok (.iconst 2, 1) := by decide +kernel
theorem dX12_turned_61 : decode cX12_turned 61 = .ok (.if_icmp .ne 8, 3) := by decide +kernel
theorem dX12_turned_64 : decode cX12_turned 64 = .ok (.iload 5, 2) := by decide +kernel
theorem dX12_turned_66 : decode cX12_turned 66 = .ok (.goto 5, 3) := by decide +kernel
theorem dX12_turned_69 : decode cX12_turned 69 = .ok (.iload 6, 2) := by decide +kernel
theorem dX12_turned_71 : decode cX12_turned 71 = .ok (.istore 10, 2) := by decide +kernel
theorem dX12_turned_73 : decode cX12_turned 73 = .ok (.lload 7, 2) := by decide +kernel
theorem dX12_turned_75 : decode cX12_turned 75 = .ok (.aload_n 0, 1) := by decide +kernel
theorem dX12_turned_76 : decode cX12_turned 76 = .ok (.iload_n 1, 1) := by decide +kernel
theorem dX12_turned_77 : decode cX12_turned 77 = .ok (.iload_n 2, 1) := by decide +kernel
theorem dX12_turned_78 : decode cX12_turned 78 = .ok (.iload 9, 2) := by decide +kernel
theorem dX12_turned_80 : decode cX12_turned 80 = .ok (.invokevirtual 469, 3) := by decide +kernel
theorem dX12_turned_83 : decode cX12_turned 83 = .ok (.iload 10, 2) := by decide +kernel
theorem dX12_turned_85 : decode cX12_turned 85 = .ok (.i2l, 1) := by decide +kernel
theorem dX12_turned_86 : decode cX12_turned 86 = .ok (.invokestatic 408, 3) := by decide +kernel
theorem dX12_turned_89 : decode cX12_turned 89 = .ok (.lmul, 1) := by decide +kernel
theorem dX12_turned_90 : decode cX12_turned 90 = .ok (.ldc2_w 338, 3) := by decide +kernel
theorem dX12_turned_93 : decode cX12_turned 93 = .ok (.lrem, 1) := by decide +kernel
theorem dX12_turned_94 : decode cX12_turned 94 = .ok (.ladd, 1) := by decide +kernel
theorem dX12_turned_95 : decode cX12_turned 95 = .ok (.lstore 7, 2) := by decide +kernel
theorem dX12_turned_97 : decode cX12_turned 97 = .ok (.iinc 9 1, 3) := by decide +kernel
theorem dX12_turned_100 : decode cX12_turned 100 = .ok (.goto (-71), 3) := by decide +kernel
theorem dX12_turned_103 : decode cX12_turned 103 = .ok (.lload 7, 2) := by decide +kernel
theorem dX12_turned_105 : decode cX12_turned 105 = .ok (.ldc2_w 338, 3) := by decide +kernel
theorem dX12_turned_108 : decode cX12_turned 108 = .ok (.lrem, 1) := by decide +kernel
theorem dX12_turned_109 : decode cX12_turned 109 = .ok (.l2i, 1) := by decide +kernel
theorem dX12_turned_110 : decode cX12_turned 110 = .ok (.ireturn, 1) := by decide +kernel
theorem dX12_laysSquare_0 : decode cX12_laysSquare 0 = .ok (.iconst 0, 1) := by decide +kernel
theorem dX12_laysSquare_1 : decode cX12_laysSquare 1 = .ok (.istore_n 3, 1) := by decide +kernel
theorem dX12_laysSquare_2 : decode cX12_laysSquare 2 = .ok (.iload_n 3, 1) := by decide +kernel
theorem dX12_laysSquare_3 : decode cX12_laysSquare 3 = .ok (.iload_n 2, 1) := by decide +kernel
theorem dX12_laysSquare_4 : decode cX12_laysSquare 4 = .ok (.if_icmp .ge 67, 3) := by decide +kernel
theorem dX12_laysSquare_7 : decode cX12_laysSquare 7 = .ok (.aload_n 0, 1) := by decide +kernel
theorem dX12_laysSquare_8 : decode cX12_laysSquare 8 = .ok (.sipush 1000, 3) := by decide +kernel
theorem dX12_laysSquare_11 : decode cX12_laysSquare 11 = .ok (.iload_n 3, 1) := by decide +kernel
theorem dX12_laysSquare_12 : decode cX12_laysSquare 12 = .ok (.iadd, 1) := by decide +kernel
theorem dX12_laysSquare_13 : decode cX12_laysSquare 13 = .ok (.aload_n 0, 1) := by decide +kernel
theorem dX12_laysSquare_14 : decode cX12_laysSquare 14 = .ok (.getfield 109, 3) := by decide +kernel
theorem dX12_laysSquare_17 : decode cX12_laysSquare 17 = .ok (.invokevirtual 461, 3) := by decide +kernel
theorem dX12_laysSquare_20 : decode cX12_laysSquare 20 = .ok (.iconst 0, 1) := by decide +kernel
theorem dX12_laysSquare_21 : decode cX12_laysSquare 21 = .ok (.istore 4, 2) := by decide +kernel
theorem dX12_laysSquare_23 : decode cX12_laysSquare 23 = .ok (.iload 4, 2) := by decide +kernel
theorem dX12_laysSquare_25 : decode cX12_laysSquare 25 = .ok (.iload_n 1, 1) := by decide +kernel
theorem dX12_laysSquare_26 : decode cX12_laysSquare 26 = .ok (.if_icmp .ge 39, 3) := by decide +kernel
theorem dX12_laysSquare_29 : decode cX12_laysSquare 29 = .ok (.aload_n 0, 1) := by decide +kernel
theorem dX12_laysSquare_30 : decode cX12_laysSquare 30 = .ok (.getfield 118, 3) := by decide +kernel
theorem dX12_laysSquare_33 : decode cX12_laysSquare 33 = .ok (.iconst 4, 1) := by decide +kernel
theorem dX12_laysSquare_34 : decode cX12_laysSquare 34 = .ok (.iload 4, 2) := by decide +kernel
theorem dX12_laysSquare_36 : decode cX12_laysSquare 36 = .ok (.imul, 1) := by decide +kernel
theorem dX12_laysSquare_37 : decode cX12_laysSquare 37 = .ok (.iload_n 3, 1) := by decide +kernel
theorem dX12_laysSquare_38 : decode cX12_laysSquare 38 = .ok (.iadd, 1) := by decide +kernel
theorem dX12_laysSquare_39 : decode cX12_laysSquare 39 = .ok (.aload_n 0, 1) := by decide +kernel
theorem dX12_laysSquare_40 : decode cX12_laysSquare 40 = .ok (.getfield 90, 3) := by decide +kernel
theorem dX12_laysSquare_43 : decode cX12_laysSquare 43 = .ok (.iload 4, 2) := by decide +kernel
theorem dX12_laysSquare_45 : decode cX12_laysSquare 45 = .ok (.iaload, 1) := by decide +kernel
theorem dX12_laysSquare_46 : decode cX12_laysSquare 46 = .ok (.sipush 1000, 3) := by decide +kernel
theorem dX12_laysSquare_49 : decode cX12_laysSquare 49 = .ok (.iload_n 3, 1) := by decide +kernel
theorem dX12_laysSquare_50 : decode cX12_laysSquare 50 = .ok (.iadd, 1) := by decide +kernel
theorem dX12_laysSquare_51 : decode cX12_laysSquare 51 = .ok (.aload_n 0, 1) := by decide +kernel
theorem dX12_laysSquare_52 : decode cX12_laysSquare 52 = .ok (.getfield 109, 3) := by decide +kernel
theorem dX12_laysSquare_55 : decode cX12_laysSquare 55 = .ok (.invokestatic 453, 3) := by decide +kernel
theorem dX12_laysSquare_58 : decode cX12_laysSquare 58 = .ok (.lastore, 1) := by decide +kernel
theorem dX12_laysSquare_59 : decode cX12_laysSquare 59 = .ok (.iinc 4 1, 3) := by decide +kernel
theorem dX12_laysSquare_62 : decode cX12_laysSquare 62 = .ok (.goto (-39), 3) := by decide +kernel
theorem dX12_laysSquare_65 : decode cX12_laysSquare 65 = .ok (.iinc 3 1, 3) := by decide +kernel
theorem dX12_laysSquare_68 : decode cX12_laysSquare 68 = .ok (.goto (-66), 3) := by decide +kernel
theorem dX12_laysSquare_71 : decode cX12_laysSquare 71 = .ok (.return_, 1) := by decide +kernel
theorem dX12_rowWith_0 : decode cX12_rowWith 0 = .ok (.iload_n 1, 1) := by decide +kernel
theorem dX12_rowWith_1 : decode cX12_rowWith 1 = .ok (.istore 4, 2) := by decide +kernel
theorem dX12_rowWith_3 : decode cX12_rowWith 3 = .ok (.iload 4, 2) := by decide +kernel
theorem dX12_rowWith_5 : decode cX12_rowWith 5 = .ok (.iload_n 2, 1) := by decide +kernel
theorem dX12_rowWith_6 : decode cX12_rowWith 6 = .ok (.if_icmp .ge 28, 3) := by decide +kernel
theorem dX12_rowWith_9 : decode cX12_rowWith 9 = .ok (.aload_n 0, 1) := by decide +kernel
theorem dX12_rowWith_10 : decode cX12_rowWith 10 = .ok (.getfield 118, 3) := by decide +kernel
theorem dX12_rowWith_13 : decode cX12_rowWith 13 = .ok (.iconst 4, 1) := by decide +kernel
theorem dX12_rowWith_14 : decode cX12_rowWith 14 = .ok (.iload 4, 2) := by decide +kernel
theorem dX12_rowWith_16 : decode cX12_rowWith 16 = .ok (.imul, 1) := by decide +kernel
theorem dX12_rowWith_17 : decode cX12_rowWith 17 = .ok (.iload_n 3, 1) := by decide +kernel
theorem dX12_rowWith_18 : decode cX12_rowWith 18 = .ok (.iadd, 1) := by decide +kernel
theorem dX12_rowWith_19 : decode cX12_rowWith 19 = .ok (.laload, 1) := by decide +kernel
theorem dX12_rowWith_20 : decode cX12_rowWith 20 = .ok (.lconst 0, 1) := by decide +kernel
theorem dX12_rowWith_21 : decode cX12_rowWith 21 = .ok (.lcmp, 1) := by decide +kernel
theorem dX12_rowWith_22 : decode cX12_rowWith 22 = .ok (.ifCond .eq 6, 3) := by decide +kernel
theorem dX12_rowWith_25 : decode cX12_rowWith 25 = .ok (.iload 4, 2) := by decide +kernel
theorem dX12_rowWith_27 : decode cX12_rowWith 27 = .ok (.ireturn, 1) := by decide +kernel
theorem dX12_rowWith_28 : decode cX12_rowWith 28 = .ok (.iinc 4 1, 3) := by decide +kernel
theorem dX12_rowWith_31 : decode cX12_rowWith 31 = .ok (.goto (-28), 3) := by decide +kernel
theorem dX12_rowWith_34 : decode cX12_rowWith 34 = .ok (.iconst (-1), 1) := by decide +kernel
theorem dX12_rowWith_35 : decode cX12_rowWith 35 = .ok (.ireturn, 1) := by decide +kernel
theorem dX12_swaps_0 : decode cX12_swaps 0 = .ok (.iconst 0, 1) := by decide +kernel
theorem dX12_swaps_1 : decode cX12_swaps 1 = .ok (.istore_n 3, 1) := by decide +kernel
theorem dX12_swaps_2 : decode cX12_swaps 2 = .ok (.iload_n 3, 1) := by decide +kernel
theorem dX12_swaps_3 : decode cX12_swaps 3 = .ok (.iconst 4, 1) := by decide +kernel
theorem dX12_swaps_4 : decode cX12_swaps 4 = .ok (.if_icmp .ge 53, 3) := by decide +kernel
theorem dX12_swaps_7 : decode cX12_swaps 7 = .ok (.aload_n 0, 1) := by decide +kernel
theorem dX12_swaps_8 : decode cX12_swaps 8 = .ok (.getfield 118, 3) := by decide +kernel
theorem dX12_swaps_11 : decode cX12_swaps 11 = .ok (.iconst 4, 1) := by decide +kernel
theorem dX12_swaps_12 : decode cX12_swaps 12 = .ok (.iload_n 1, 1) := by decide +kernel
theorem dX12_swaps_13 : decode cX12_swaps 13 = .ok (.imul, 1) := by decide +kernel
theorem dX12_swaps_14 : decode cX12_swaps 14 = .ok (.iload_n 3, 1) := by decide +kernel
theorem dX12_swaps_15 : decode cX12_swaps 15 = .ok (.iadd, 1) := by decide +kernel
theorem dX12_swaps_16 : decode cX12_swaps 16 = .ok (.laload, 1) := by decide +kernel
theorem dX12_swaps_17 : decode cX12_swaps 17 = .ok (.lstore 4, 2) := by decide +kernel
theorem dX12_swaps_19 : decode cX12_swaps 19 = .ok (.aload_n 0, 1) := by decide +kernel
theorem dX12_swaps_20 : decode cX12_swaps 20 = .ok (.getfield 118, 3) := by decide +kernel
theorem dX12_swaps_23 : decode cX12_swaps 23 = .ok (.iconst 4, 1) := by decide +kernel
theorem dX12_swaps_24 : decode cX12_swaps 24 = .ok (.iload_n 1, 1) := by decide +kernel
theorem dX12_swaps_25 : decode cX12_swaps 25 = .ok (.imul, 1) := by decide +kernel
theorem dX12_swaps_26 : decode cX12_swaps 26 = .ok (.iload_n 3, 1) := by decide +kernel
theorem dX12_swaps_27 : decode cX12_swaps 27 = .ok (.iadd, 1) := by decide +kernel
theorem dX12_swaps_28 : decode cX12_swaps 28 = .ok (.aload_n 0, 1) := by decide +kernel
theorem dX12_swaps_29 : decode cX12_swaps 29 = .ok (.getfield 118, 3) := by decide +kernel
theorem dX12_swaps_32 : decode cX12_swaps 32 = .ok (.iconst 4, 1) := by decide +kernel
theorem dX12_swaps_33 : decode cX12_swaps 33 = .ok (.iload_n 2, 1) := by decide +kernel
theorem dX12_swaps_34 : decode cX12_swaps 34 = .ok (.imul, 1) := by decide +kernel
theorem dX12_swaps_35 : decode cX12_swaps 35 = .ok (.iload_n 3, 1) := by decide +kernel
theorem dX12_swaps_36 : decode cX12_swaps 36 = .ok (.iadd, 1) := by decide +kernel
theorem dX12_swaps_37 : decode cX12_swaps 37 = .ok (.laload, 1) := by decide +kernel
theorem dX12_swaps_38 : decode cX12_swaps 38 = .ok (.lastore, 1) := by decide +kernel
theorem dX12_swaps_39 : decode cX12_swaps 39 = .ok (.aload_n 0, 1) := by decide +kernel
theorem dX12_swaps_40 : decode cX12_swaps 40 = .ok (.getfield 118, 3) := by decide +kernel
theorem dX12_swaps_43 : decode cX12_swaps 43 = .ok (.iconst 4, 1) := by decide +kernel
theorem dX12_swaps_44 : decode cX12_swaps 44 = .ok (.iload_n 2, 1) := by decide +kernel
theorem dX12_swaps_45 : decode cX12_swaps 45 = .ok (.imul, 1) := by decide +kernel
theorem dX12_swaps_46 : decode cX12_swaps 46 = .ok (.iload_n 3, 1) := by decide +kernel
theorem dX12_swaps_47 : decode cX12_swaps 47 = .ok (.iadd, 1) := by decide +kernel
theorem dX12_swaps_48 : decode cX12_swaps 48 = .ok (.lload 4, 2) := by decide +kernel
theorem dX12_swaps_50 : decode cX12_swaps 50 = .ok (.lastore, 1) := by decide +kernel
theorem dX12_swaps_51 : decode cX12_swaps 51 = .ok (.iinc 3 1, 3) := by decide +kernel
theorem dX12_swaps_54 : decode cX12_swaps 54 = .ok (.goto (-52), 3) := by decide +kernel
theorem dX12_swaps_57 : decode cX12_swaps 57 = .ok (.return_, 1) := by decide +kernel
theorem dX12_takesOff_0 : decode cX12_takesOff 0 = .ok (.iload_n 1, 1) := by decide +kernel
theorem dX12_takesOff_1 : decode cX12_takesOff 1 = .ok (.iconst 1, 1) := by decide +kernel
theorem dX12_takesOff_2 : decode cX12_takesOff 2 = .ok (.iadd, 1) := by decide +kernel
theorem dX12_takesOff_3 : decode cX12_takesOff 3 = .ok (.istore 5, 2) := by decide +kernel
theorem dX12_takesOff_5 : decode cX12_takesOff 5 = .ok (.iload 5, 2) := by decide +kernel
theorem dX12_takesOff_7 : decode cX12_takesOff 7 = .ok (.iload_n 2, 1) := by decide +kernel
theorem dX12_takesOff_8 : decode cX12_takesOff 8 = .ok (.if_icmp .ge 97, 3) := by decide +kernel
theorem dX12_takesOff_11 : decode cX12_takesOff 11 = .ok (.aload_n 0, 1) := by decide +kernel
theorem dX12_takesOff_12 : decode cX12_takesOff 12 = .ok (.getfield 118, 3) := by decide +kernel
theorem dX12_takesOff_15 : decode cX12_takesOff 15 = .ok (.iconst 4, 1) := by decide +kernel
theorem dX12_takesOff_16 : decode cX12_takesOff 16 = .ok (.iload 5, 2) := by decide +kernel
theorem dX12_takesOff_18 : decode cX12_takesOff 18 = .ok (.imul, 1) := by decide +kernel
theorem dX12_takesOff_19 : decode cX12_takesOff 19 = .ok (.iload_n 3, 1) := by decide +kernel
theorem dX12_takesOff_20 : decode cX12_takesOff 20 = .ok (.iadd, 1) := by decide +kernel
theorem dX12_takesOff_21 : decode cX12_takesOff 21 = .ok (.laload, 1) := by decide +kernel
theorem dX12_takesOff_22 : decode cX12_takesOff 22 = .ok (.aload_n 0, 1) := by decide +kernel
theorem dX12_takesOff_23 : decode cX12_takesOff 23 = .ok (.getfield 118, 3) := by decide +kernel
theorem dX12_takesOff_26 : decode cX12_takesOff 26 = .ok (.iconst 4, 1) := by decide +kernel
theorem dX12_takesOff_27 : decode cX12_takesOff 27 = .ok (.iload_n 1, 1) := by decide +kernel
theorem dX12_takesOff_28 : decode cX12_takesOff 28 = .ok (.imul, 1) := by decide +kernel
theorem dX12_takesOff_29 : decode cX12_takesOff 29 = .ok (.iload_n 3, 1) := by decide +kernel
theorem dX12_takesOff_30 : decode cX12_takesOff 30 = .ok (.iadd, 1) := by decide +kernel
theorem dX12_takesOff_31 : decode cX12_takesOff 31 = .ok (.laload, 1) := by decide +kernel
theorem dX12_takesOff_32 : decode cX12_takesOff 32 = .ok (.invokestatic 411, 3) := by decide +kernel
theorem dX12_takesOff_35 : decode cX12_takesOff 35 = .ok (.lstore 6, 2) := by decide +kernel
theorem dX12_takesOff_37 : decode cX12_takesOff 37 = .ok (.iload_n 3, 1) := by decide +kernel
theorem dX12_takesOff_38 : decode cX12_takesOff 38 = .ok (.istore 8, 2) := by decide +kernel
theorem dX12_takesOff_40 : decode cX12_takesOff 40 = .ok (.iload 8, 2) := by decide +kernel
theorem dX12_takesOff_42 : decode cX12_takesOff 42 = .ok (.iload 4, 2) := by decide +kernel
theorem dX12_takesOff_44 : decode cX12_takesOff 44 = .ok (.if_icmp .ge 55, 3) := by decide +kernel
theorem dX12_takesOff_47 : decode cX12_takesOff 47 = .ok (.aload_n 0, 1) := by decide +kernel
theorem dX12_takesOff_48 : decode cX12_takesOff 48 = .ok (.getfield 118, 3) := by decide +kernel
theorem dX12_takesOff_51 : decode cX12_takesOff 51 = .ok (.iconst 4, 1) := by decide +kernel
theorem dX12_takesOff_52 : decode cX12_takesOff 52 = .ok (.iload 5, 2) := by decide +kernel
theorem dX12_takesOff_54 : decode cX12_takesOff 54 = .ok (.imul, 1) := by decide +kernel
theorem dX12_takesOff_55 : decode cX12_takesOff 55 = .ok (.iload 8, 2) := by decide +kernel
theorem dX12_takesOff_57 : decode cX12_takesOff 57 = .ok (.iadd, 1) := by decide +kernel
theorem dX12_takesOff_58 : decode cX12_takesOff 58 = .ok (.aload_n 0, 1) := by decide +kernel
theorem dX12_takesOff_59 : decode cX12_takesOff 59 = .ok (.getfield 118, 3) := by decide +kernel
theorem dX12_takesOff_62 : decode cX12_takesOff 62 = .ok (.iconst 4, 1) := by decide +kernel
theorem dX12_takesOff_63 : decode cX12_takesOff 63 = .ok (.iload 5, 2) := by decide +kernel
theorem dX12_takesOff_65 : decode cX12_takesOff 65 = .ok (.imul, 1) := by decide +kernel
theorem dX12_takesOff_66 : decode cX12_takesOff 66 = .ok (.iload 8, 2) := by decide +kernel
theorem dX12_takesOff_68 : decode cX12_takesOff 68 = .ok (.iadd, 1) := by decide +kernel
theorem dX12_takesOff_69 : decode cX12_takesOff 69 = .ok (.laload, 1) := by decide +kernel
theorem dX12_takesOff_70 : decode cX12_takesOff 70 = .ok (.lload 6, 2) := by decide +kernel
theorem dX12_takesOff_72 : decode cX12_takesOff 72 = .ok (.aload_n 0, 1) := by decide +kernel
theorem dX12_takesOff_73 : decode cX12_takesOff 73 = .ok (.getfield 118, 3) := by decide +kernel
theorem dX12_takesOff_76 : decode cX12_takesOff 76 = .ok (.iconst 4, 1) := by decide +kernel
theorem dX12_takesOff_77 : decode cX12_takesOff 77 = .ok (.iload_n 1, 1) := by decide +kernel
theorem dX12_takesOff_78 : decode cX12_takesOff 78 = .ok (.imul, 1) := by decide +kernel
theorem dX12_takesOff_79 : decode cX12_takesOff 79 = .ok (.iload 8, 2) := by decide +kernel
theorem dX12_takesOff_81 : decode cX12_takesOff 81 = .ok (.iadd, 1) := by decide +kernel
theorem dX12_takesOff_82 : decode cX12_takesOff 82 = .ok (.laload, 1) := by decide +kernel
theorem dX12_takesOff_83 : decode cX12_takesOff 83 = .ok (.lmul, 1) := by decide +kernel
theorem dX12_takesOff_84 : decode cX12_takesOff 84 = .ok (.ldc2_w 338, 3) := by decide +kernel
theorem dX12_takesOff_87 : decode cX12_takesOff 87 = .ok (.lrem, 1) := by decide +kernel
theorem dX12_takesOff_88 : decode cX12_takesOff 88 = .ok (.lsub, 1) := by decide +kernel
theorem dX12_takesOff_89 : decode cX12_takesOff 89 = .ok (.invokestatic 408, 3) := by decide +kernel
theorem dX12_takesOff_92 : decode cX12_takesOff 92 = .ok (.lastore, 1) := by decide +kernel
theorem dX12_takesOff_93 : decode cX12_takesOff 93 = .ok (.iinc 8 1, 3) := by decide +kernel
theorem dX12_takesOff_96 : decode cX12_takesOff 96 = .ok (.goto (-56), 3) := by decide +kernel
theorem dX12_takesOff_99 : decode cX12_takesOff 99 = .ok (.iinc 5 1, 3) := by decide +kernel
theorem dX12_takesOff_102 : decode cX12_takesOff 102 = .ok (.goto (-97), 3) := by decide +kernel
theorem dX12_takesOff_105 : decode cX12_takesOff 105 = .ok (.return_, 1) := by decide +kernel
theorem dX12_determinant_0 : decode cX12_determinant 0 = .ok (.aload_n 0, 1) := by decide +kernel
theorem dX12_determinant_1 : decode cX12_determinant 1 = .ok (.iconst 0, 1) := by decide +kernel
theorem dX12_determinant_2 : decode cX12_determinant 2 = .ok (.putfield 142, 3) := by decide +kernel
theorem dX12_determinant_5 : decode cX12_determinant 5 = .ok (.iload_n 1, 1) := by decide +kernel
theorem dX12_determinant_6 : decode cX12_determinant 6 = .ok (.iconst 1, 1) := by decide +kernel
theorem dX12_determinant_7 : decode cX12_determinant 7 = .ok (.if_icmp .lt 24, 3) := by decide +kernel
theorem dX12_determinant_10 : decode cX12_determinant 10 = .ok (.iload_n 1, 1) := by decide +kernel
theorem dX12_determinant_11 : decode cX12_determinant 11 = .ok (.iconst 4, 1) := by decide +kernel
theorem dX12_determinant_12 : decode cX12_determinant 12 = .ok (.if_icmp .gt 19, 3) := by decide +kernel
theorem dX12_determinant_15 : decode cX12_determinant 15 = .ok (.iload_n 1, 1) := by decide +kernel
theorem dX12_determinant_16 : decode cX12_determinant 16 = .ok (.aload_n 0, 1) := by decide +kernel
theorem dX12_determinant_17 : decode cX12_determinant 17 = .ok (.getfield 314, 3) := by decide +kernel
theorem dX12_determinant_20 : decode cX12_determinant 20 = .ok (.if_icmp .gt 11, 3) := by decide +kernel
theorem dX12_determinant_23 : decode cX12_determinant 23 = .ok (.iload_n 1, 1) := by decide +kernel
theorem dX12_determinant_24 : decode cX12_determinant 24 = .ok (.aload_n 0, 1) := by decide +kernel
theorem dX12_determinant_25 : decode cX12_determinant 25 = .ok (.getfield 356, 3) := by decide +kernel
theorem dX12_determinant_28 : decode cX12_determinant 28 = .ok (.if_icmp .le 5, 3) := by decide +kernel
theorem dX12_determinant_31 : decode cX12_determinant 31 = .ok (.iconst (-1), 1) := by decide +kernel
theorem dX12_determinant_32 : decode cX12_determinant 32 = .ok (.ireturn, 1) := by decide +kernel
theorem dX12_determinant_33 : decode cX12_determinant 33 = .ok (.aload_n 0, 1) := by decide +kernel
theorem dX12_determinant_34 : decode cX12_determinant 34 = .ok (.iload_n 1, 1) := by decide +kernel
theorem dX12_determinant_35 : decode cX12_determinant 35 = .ok (.iload_n 1, 1) := by decide +kernel
theorem dX12_determinant_36 : decode cX12_determinant 36 = .ok (.invokevirtual 473, 3) := by decide +kernel
theorem dX12_determinant_39 : decode cX12_determinant 39 = .ok (.lconst 1, 1) := by decide +kernel
theorem dX12_determinant_40 : decode cX12_determinant 40 = .ok (.lstore_n 2, 1) := by decide +kernel
theorem dX12_determinant_41 : decode cX12_determinant 41 = .ok (.iconst 0, 1) := by decide +kernel
theorem dX12_determinant_42 : decode cX12_determinant 42 = .ok (.istore 4, 2) := by decide +kernel
theorem dX12_determinant_44 : decode cX12_determinant 44 = .ok (.iload 4, 2) := by decide +kernel
theorem dX12_determinant_46 : decode cX12_determinant 46 = .ok (.iload_n 1, 1) := by decide +kernel
theorem dX12_determinant_47 : decode cX12_determinant 47 = .ok (.if_icmp .ge 78, 3) := by decide +kernel
theorem dX12_determinant_50 : decode cX12_determinant 50 = .ok (.aload_n 0, 1) := by decide +kernel
theorem dX12_determinant_51 : decode cX12_determinant 51 = .ok (.iload 4, 2) := by decide +kernel
theorem dX12_determinant_53 : decode cX12_determinant 53 = .ok (.iload_n 1, 1) := by decide +kernel
theorem dX12_determinant_54 : decode cX12_determinant 54 = .ok (.iload 4, 2) := by decide +kernel
theorem dX12_determinant_56 : decode cX12_determinant 56 = .ok (.invokevirtual 476, 3) := by decide +kernel
theorem dX12_determinant_59 : decode cX12_determinant 59 = .ok (.istore 5, 2) := by decide +kernel
theorem dX12_determinant_61 : decode cX12_determinant 61 = .ok (.iload 5, 2) := by decide +kernel
theorem dX12_determinant_63 : decode cX12_determinant 63 = .ok (.iconst (-1), 1) := by decide +kernel
theorem dX12_determinant_64 : decode cX12_determinant 64 = .ok (.if_icmp .ne 5, 3) := by decide +kernel
theorem dX12_determinant_67 : decode cX12_determinant 67 = .ok (.iconst 0, 1) := by decide +kernel
theorem dX12_determinant_68 : decode cX12_determinant 68 = .ok (.ireturn, 1) := by decide +kernel
theorem dX12_determinant_69 : decode cX12_determinant 69 = .ok (.iload 5, 2) := by decide +kernel
theorem dX12_determinant_71 : decode cX12_determinant 71 = .ok (.iload 4, 2) := by decide +kernel
theorem dX12_determinant_73 : decode cX12_determinant 73 = .ok (.if_icmp .eq 17, 3) := by decide +kernel
theorem dX12_determinant_76 : decode cX12_determinant 76 = .ok (.aload_n 0, 1) := by decide +kernel
theorem dX12_determinant_77 : decode cX12_determinant 77 = .ok (.iload 5, 2) := by decide +kernel
theorem dX12_determinant_79 : decode cX12_determinant 79 = .ok (.iload 4, 2) := by decide +kernel
theorem dX12_determinant_81 : decode cX12_determinant 81 = .ok (.invokevirtual 480, 3) := by decide +kernel
theorem dX12_determinant_84 : decode cX12_determinant 84 = .ok (.lload_n 2, 1) := by decide +kernel
theorem dX12_determinant_85 : decode cX12_determinant 85 = .ok (.lneg, 1) := by decide +kernel
theorem dX12_determinant_86 : decode cX12_determinant 86 = .ok (.invokestatic 408, 3) := by decide +kernel
theorem dX12_determinant_89 : decode cX12_determinant 89 = .ok (.lstore_n 2, 1) := by decide +kernel
theorem dX12_determinant_90 : decode cX12_determinant 90 = .ok (.aload_n 0, 1) := by decide +kernel
theorem dX12_determinant_91 : decode cX12_determinant 91 = .ok (.iload 4, 2) := by decide +kernel
theorem dX12_determinant_93 : decode cX12_determinant 93 = .ok (.iload_n 1, 1) := by decide +kernel
theorem dX12_determinant_94 : decode cX12_determinant 94 = .ok (.iload 4, 2) := by decide +kernel
theorem dX12_determinant_96 : decode cX12_determinant 96 = .ok (.iload_n 1, 1) := by decide +kernel
theorem dX12_determinant_97 : decode cX12_determinant 97 = .ok (.invokevirtual 483, 3) := by decide +kernel
theorem dX12_determinant_100 : decode cX12_determinant 100 = .ok (.lload_n 2, 1) := by decide +kernel
theorem dX12_determinant_101 : decode cX12_determinant 101 = .ok (.aload_n 0, 1) := by decide +kernel
theorem dX12_determinant_102 : decode cX12_determinant 102 = .ok (.getfield 118, 3) := by decide +kernel
theorem dX12_determinant_105 : decode cX12_determinant 105 = .ok (.iconst 4, 1) := by decide +kernel
theorem dX12_determinant_106 : decode cX12_determinant 106 = .ok (.iload 4, 2) := by decide +kernel
theorem dX12_determinant_108 : decode cX12_determinant 108 = .ok (.imul, 1) := by decide +kernel
theorem dX12_determinant_109 : decode cX12_determinant 109 = .ok (.iload 4, 2) := by decide +kernel
theorem dX12_determinant_111 : decode cX12_determinant 111 = .ok (.iadd, 1) := by decide +kernel
theorem dX12_determinant_112 : decode cX12_determinant 112 = .ok (.laload, 1) := by decide +kernel
theorem dX12_determinant_113 : decode cX12_determinant 113 = .ok (.lmul, 1) := by decide +kernel
theorem dX12_determinant_114 : decode cX12_determinant 114 = .ok (.ldc2_w 338, 3) := by decide +kernel
theorem dX12_determinant_117 : decode cX12_determinant 117 = .ok (.lrem, 1) := by decide +kernel
theorem dX12_determinant_118 : decode cX12_determinant 118 = .ok (.lstore_n 2, 1) := by decide +kernel
theorem dX12_determinant_119 : decode cX12_determinant 119 = .ok (.iinc 4 1, 3) := by decide +kernel
theorem dX12_determinant_122 : decode cX12_determinant 122 = .ok (.goto (-78), 3) := by decide +kernel
theorem dX12_determinant_125 : decode cX12_determinant 125 = .ok (.lload_n 2, 1) := by decide +kernel
theorem dX12_determinant_126 : decode cX12_determinant 126 = .ok (.l2i, 1) := by decide +kernel
theorem dX12_determinant_127 : decode cX12_determinant 127 = .ok (.ireturn, 1) := by decide +kernel
theorem dX12_rank_0 : decode cX12_rank 0 = .ok (.aload_n 0, 1) := by decide +kernel
theorem dX12_rank_1 : decode cX12_rank 1 = .ok (.iconst 0, 1) := by decide +kernel
theorem dX12_rank_2 : decode cX12_rank 2 = .ok (.putfield 142, 3) := by decide +kernel
theorem dX12_rank_5 : decode cX12_rank 5 = .ok (.aload_n 0, 1) := by decide +kernel
theorem dX12_rank_6 : decode cX12_rank 6 = .ok (.aload_n 0, 1) := by decide +kernel
theorem dX12_rank_7 : decode cX12_rank 7 = .ok (.getfield 356, 3) := by decide +kernel
theorem dX12_rank_10 : decode cX12_rank 10 = .ok (.aload_n 0, 1) := by decide +kernel
theorem dX12_rank_11 : decode cX12_rank 11 = .ok (.getfield 314, 3) := by decide +kernel
theorem dX12_rank_14 : decode cX12_rank 14 = .ok (.invokevirtual 473, 3) := by decide +kernel
theorem dX12_rank_17 : decode cX12_rank 17 = .ok (.iconst 0, 1) := by decide +kernel
theorem dX12_rank_18 : decode cX12_rank 18 = .ok (.istore_n 1, 1) := by decide +kernel
theorem dX12_rank_19 : decode cX12_rank 19 = .ok (.iconst 0, 1) := by decide +kernel
theorem dX12_rank_20 : decode cX12_rank 20 = .ok (.istore_n 2, 1) := by decide +kernel
theorem dX12_rank_21 : decode cX12_rank 21 = .ok (.iload_n 2, 1) := by decide +kernel
theorem dX12_rank_22 : decode cX12_rank 22 = .ok (.aload_n 0, 1) := by decide +kernel
theorem dX12_rank_23 : decode cX12_rank 23 = .ok (.getfield 314, 3) := by decide +kernel
theorem dX12_rank_26 : decode cX12_rank 26 = .ok (.if_icmp .ge 56, 3) := by decide +kernel
theorem dX12_rank_29 : decode cX12_rank 29 = .ok (.aload_n 0, 1) := by decide +kernel
theorem dX12_rank_30 : decode cX12_rank 30 = .ok (.iload_n 1, 1) := by decide +kernel
theorem dX12_rank_31 : decode cX12_rank 31 = .ok (.aload_n 0, 1) := by decide +kernel
theorem dX12_rank_32 : decode cX12_rank 32 = .ok (.getfield 356, 3) := by decide +kernel
theorem dX12_rank_35 : decode cX12_rank 35 = .ok (.iload_n 2, 1) := by decide +kernel
theorem dX12_rank_36 : decode cX12_rank 36 = .ok (.invokevirtual 476, 3) := by decide +kernel
theorem dX12_rank_39 : decode cX12_rank 39 = .ok (.istore_n 3, 1) := by decide +kernel
theorem dX12_rank_40 : decode cX12_rank 40 = .ok (.iload_n 3, 1) := by decide +kernel
theorem dX12_rank_41 : decode cX12_rank 41 = .ok (.iconst (-1), 1) := by decide +kernel
theorem dX12_rank_42 : decode cX12_rank 42 = .ok (.if_icmp .ne 6, 3) := by decide +kernel
theorem dX12_rank_45 : decode cX12_rank 45 = .ok (.goto 31, 3) := by decide +kernel
theorem dX12_rank_48 : decode cX12_rank 48 = .ok (.iload_n 3, 1) := by decide +kernel
theorem dX12_rank_49 : decode cX12_rank 49 = .ok (.iload_n 1, 1) := by decide +kernel
theorem dX12_rank_50 : decode cX12_rank 50 = .ok (.if_icmp .eq 9, 3) := by decide +kernel
theorem dX12_rank_53 : decode cX12_rank 53 = .ok (.aload_n 0, 1) := by decide +kernel
theorem dX12_rank_54 : decode cX12_rank 54 = .ok (.iload_n 3, 1) := by decide +kernel
theorem dX12_rank_55 : decode cX12_rank 55 = .ok (.iload_n 1, 1) := by decide +kernel
theorem dX12_rank_56 : decode cX12_rank 56 = .ok (.invokevirtual 480, 3) := by decide +kernel
theorem dX12_rank_59 : decode cX12_rank 59 = .ok (.aload_n 0, 1) := by decide +kernel
theorem dX12_rank_60 : decode cX12_rank 60 = .ok (.iload_n 1, 1) := by decide +kernel
theorem dX12_rank_61 : decode cX12_rank 61 = .ok (.aload_n 0, 1) := by decide +kernel
theorem dX12_rank_62 : decode cX12_rank 62 = .ok (.getfield 356, 3) := by decide +kernel
theorem dX12_rank_65 : decode cX12_rank 65 = .ok (.iload_n 2, 1) := by decide +kernel
theorem dX12_rank_66 : decode cX12_rank 66 = .ok (.aload_n 0, 1) := by decide +kernel
theorem dX12_rank_67 : decode cX12_rank 67 = .ok (.getfield 314, 3) := by decide +kernel
theorem dX12_rank_70 : decode cX12_rank 70 = .ok (.invokevirtual 483, 3) := by decide +kernel
theorem dX12_rank_73 : decode cX12_rank 73 = .ok (.iinc 1 1, 3) := by decide +kernel
theorem dX12_rank_76 : decode cX12_rank 76 = .ok (.iinc 2 1, 3) := by decide +kernel
theorem dX12_rank_79 : decode cX12_rank 79 = .ok (.goto (-58), 3) := by decide +kernel
theorem dX12_rank_82 : decode cX12_rank 82 = .ok (.iload_n 1, 1) := by decide +kernel
theorem dX12_rank_83 : decode cX12_rank 83 = .ok (.ireturn, 1) := by decide +kernel
theorem dX12_newton_0 : decode cX12_newton 0 = .ok (.aload_n 0, 1) := by decide +kernel
theorem dX12_newton_1 : decode cX12_newton 1 = .ok (.iconst 0, 1) := by decide +kernel
theorem dX12_newton_2 : decode cX12_newton 2 = .ok (.putfield 142, 3) := by decide +kernel
theorem dX12_newton_5 : decode cX12_newton 5 = .ok (.aload_n 0, 1) := by decide +kernel
theorem dX12_newton_6 : decode cX12_newton 6 = .ok (.iload_n 1, 1) := by decide +kernel
theorem dX12_newton_7 : decode cX12_newton 7 = .ok (.invokevirtual 420, 3) := by decide +kernel
theorem dX12_newton_10 : decode cX12_newton 10 = .ok (.ifCond .eq 22, 3) := by decide +kernel
theorem dX12_newton_13 : decode cX12_newton 13 = .ok (.aload_n 0, 1) := by decide +kernel
theorem dX12_newton_14 : decode cX12_newton 14 = .ok (.iload_n 2, 1) := by decide +kernel
theorem dX12_newton_15 : decode cX12_newton 15 = .ok (.invokevirtual 438, 3) := by decide +kernel
theorem dX12_newton_18 : decode cX12_newton 18 = .ok (.ifCond .eq 14, 3) := by decide +kernel
theorem dX12_newton_21 : decode cX12_newton 21 = .ok (.iload_n 3, 1) := by decide +kernel
theorem dX12_newton_22 : decode cX12_newton 22 = .ok (.iconst 1, 1) := by decide +kernel
theorem dX12_newton_23 : decode cX12_newton 23 = .ok (.if_icmp .lt 9, 3) := by decide +kernel
theorem dX12_newton_26 : decode cX12_newton 26 = .ok (.iload_n 3, 1) := by decide +kernel
theorem dX12_newton_27 : decode cX12_newton 27 = .ok (.bipush 20, 2) := by decide +kernel
theorem dX12_newton_29 : decode cX12_newton 29 = .ok (.if_icmp .le 5, 3) := by decide +kernel
theorem dX12_newton_32 : decode cX12_newton 32 = .ok (.iconst (-1), 1) := by decide +kernel
theorem dX12_newton_33 : decode cX12_newton 33 = .ok (.ireturn, 1) := by decide +kernel
theorem dX12_newton_34 : decode cX12_newton 34 = .ok (.aload_n 0, 1) := by decide +kernel
theorem dX12_newton_35 : decode cX12_newton 35 = .ok (.getfield 44, 3) := by decide +kernel
theorem dX12_newton_38 : decode cX12_newton 38 = .ok (.iload_n 2, 1) := by decide +kernel
theorem dX12_newton_39 : decode cX12_newton 39 = .ok (.laload, 1) := by decide +kernel
theorem dX12_newton_40 : decode cX12_newton 40 = .ok (.lstore 4, 2) := by decide +kernel
theorem dX12_newton_42 : decode cX12_newton 42 = .ok (.iconst 0, 1) := by decide +kernel
theorem dX12_newton_43 : decode cX12_newton 43 = .ok (.istore 6, 2) := by decide +kernel
theorem dX12_newton_45 : decode cX12_newton 45 = .ok (.iconst 0, 1) := by decide +kernel
theorem dX12_newton_46 : decode cX12_newton 46 = .ok (.istore 7, 2) := by decide +kernel
theorem dX12_newton_48 : decode cX12_newton 48 = .ok (.iload 7, 2) := by decide +kernel
theorem dX12_newton_50 : decode cX12_newton 50 = .ok (.iload_n 3, 1) := by decide +kernel
theorem dX12_newton_51 : decode cX12_newton 51 = .ok (.if_icmp .ge 90, 3) := by decide +kernel
theorem dX12_newton_54 : decode cX12_newton 54 = .ok (.iload 6, 2) := by decide +kernel
theorem dX12_newton_56 : decode cX12_newton 56 = .ok (.bipush (-2), 2) := by decide +kernel
theorem dX12_newton_58 : decode cX12_newton 58 = .ok (.if_icmp .eq 83, 3) := by decide +kernel
theorem dX12_newton_61 : decode cX12_newton 61 = .ok (.aload_n 0, 1) := by decide +kernel
theorem dX12_newton_62 : decode cX12_newton 62 = .ok (.iload_n 1, 1) := by decide +kernel
theorem dX12_newton_63 : decode cX12_newton 63 = .ok (.invokevirtual 420, 3) := by decide +kernel
theorem dX12_newton_66 : decode cX12_newton 66 = .ok (.ifCond .eq 12, 3) := by decide +kernel
theorem dX12_newton_69 : decode cX12_newton 69 = .ok (.aload_n 0, 1) := by decide +kernel
theorem dX12_newton_70 : decode cX12_newton 70 = .ok (.iload_n 1, 1) := by decide +kernel
theorem dX12_newton_71 : decode cX12_newton 71 = .ok (.iload_n 2, 1) := by decide +kernel
theorem dX12_newton_72 : decode cX12_newton 72 = .ok (.invokevirtual 457, 3) := by decide +kernel
theorem dX12_newton_75 : decode cX12_newton 75 = .ok (.goto 4, 3) := by decide +kernel
theorem dX12_newton_78 : decode cX12_newton 78 = .ok (.lconst 0, 1) := by decide +kernel
theorem dX12_newton_79 : decode cX12_newton 79 = .ok (.lstore 8, 2) := by decide +kernel
theorem dX12_newton_81 : decode cX12_newton 81 = .ok (.lload 8, 2) := by decide +kernel
theorem dX12_newton_83 : decode cX12_newton 83 = .ok (.lconst 0, 1) := by decide +kernel
theorem dX12_newton_84 : decode cX12_newton 84 = .ok (.lcmp, 1) := by decide +kernel
theorem dX12_newton_85 : decode cX12_newton 85 = .ok (.ifCond .ne 10, 3) := by decide +kernel
theorem dX12_newton_88 : decode cX12_newton 88 = .ok (.bipush (-2), 2) := by decide +kernel
theorem dX12_newton_90 : decode cX12_newton 90 = .ok (.istore 6, 2) := by decide +kernel
theorem dX12_newton_92 : decode cX12_newton 92 = .ok (.goto 43, 3) := by decide +kernel
theorem dX12_newton_95 : decode cX12_newton 95 = .ok (.aload_n 0, 1) := by decide +kernel
theorem dX12_newton_96 : decode cX12_newton 96 = .ok (.getfield 44, 3) := by decide +kernel
theorem dX12_newton_99 : decode cX12_newton 99 = .ok (.iload_n 2, 1) := by decide +kernel
theorem dX12_newton_100 : decode cX12_newton 100 = .ok (.aload_n 0, 1) := by decide +kernel
theorem dX12_newton_101 : decode cX12_newton 101 = .ok (.getfield 44, 3) := by decide +kernel
theorem dX12_newton_104 : decode cX12_newton 104 = .ok (.iload_n 2, 1) := by decide +kernel
theorem dX12_newton_105 : decode cX12_newton 105 = .ok (.laload, 1) := by decide +kernel
theorem dX12_newton_106 : decode cX12_newton 106 = .ok (.aload_n 0, 1) := by decide +kernel
theorem dX12_newton_107 : decode cX12_newton 107 = .ok (.getfield 87, 3) := by decide +kernel
theorem dX12_newton_110 : decode cX12_newton 110 = .ok (.iload_n 1, 1) := by decide +kernel
theorem dX12_newton_111 : decode cX12_newton 111 = .ok (.laload, 1) := by decide +kernel
theorem dX12_newton_112 : decode cX12_newton 112 = .ok (.lload 8, 2) := by decide +kernel
theorem dX12_newton_114 : decode cX12_newton 114 = .ok (.invokestatic 411, 3) := by decide +kernel
theorem dX12_newton_117 : decode cX12_newton 117 = .ok (.lsub, 1) := by decide +kernel
theorem dX12_newton_118 : decode cX12_newton 118 = .ok (.invokestatic 408, 3) := by decide +kernel
theorem dX12_newton_121 : decode cX12_newton 121 = .ok (.lastore, 1) := by decide +kernel
theorem dX12_newton_122 : decode cX12_newton 122 = .ok (.aload_n 0, 1) := by decide +kernel
theorem dX12_newton_123 : decode cX12_newton 123 = .ok (.getfield 44, 3) := by decide +kernel
theorem dX12_newton_126 : decode cX12_newton 126 = .ok (.iload_n 2, 1) := by decide +kernel
theorem dX12_newton_127 : decode cX12_newton 127 = .ok (.laload, 1) := by decide +kernel
theorem dX12_newton_128 : decode cX12_newton 128 = .ok (.l2i, 1) := by decide +kernel
theorem dX12_newton_129 : decode cX12_newton 129 = .ok (.istore 6, 2) := by decide +kernel
theorem dX12_newton_131 : decode cX12_newton 131 = .ok (.aload_n 0, 1) := by decide +kernel
theorem dX12_newton_132 : decode cX12_newton 132 = .ok (.invokevirtual 329, 3) := by decide +kernel
theorem dX12_newton_135 : decode cX12_newton 135 = .ok (.iinc 7 1, 3) := by decide +kernel
theorem dX12_newton_138 : decode cX12_newton 138 = .ok (.goto (-90), 3) := by decide +kernel
theorem dX12_newton_141 : decode cX12_newton 141 = .ok (.aload_n 0, 1) := by decide +kernel
theorem dX12_newton_142 : decode cX12_newton 142 = .ok (.getfield 44, 3) := by decide +kernel
theorem dX12_newton_145 : decode cX12_newton 145 = .ok (.iload_n 2, 1) := by decide +kernel
theorem dX12_newton_146 : decode cX12_newton 146 = .ok (.lload 4, 2) := by decide +kernel
theorem dX12_newton_148 : decode cX12_newton 148 = .ok (.lastore, 1) := by decide +kernel
theorem dX12_newton_149 : decode cX12_newton 149 = .ok (.aload_n 0, 1) := by decide +kernel
theorem dX12_newton_150 : decode cX12_newton 150 = .ok (.invokevirtual 329, 3) := by decide +kernel
theorem dX12_newton_153 : decode cX12_newton 153 = .ok (.iload 6, 2) := by decide +kernel
theorem dX12_newton_155 : decode cX12_newton 155 = .ok (.ireturn, 1) := by decide +kernel
theorem dX12_change_0 : decode cX12_change 0 = .ok (.aload_n 0, 1) := by decide +kernel
theorem dX12_change_1 : decode cX12_change 1 = .ok (.iconst 0, 1) := by decide +kernel
theorem dX12_change_2 : decode cX12_change 2 = .ok (.putfield 142, 3) := by decide +kernel
theorem dX12_change_5 : decode cX12_change 5 = .ok (.aload_n 0, 1) := by decide +kernel
theorem dX12_change_6 : decode cX12_change 6 = .ok (.iload_n 1, 1) := by decide +kernel
theorem dX12_change_7 : decode cX12_change 7 = .ok (.invokevirtual 420, 3) := by decide +kernel
theorem dX12_change_10 : decode cX12_change 10 = .ok (.ifCond .eq 25, 3) := by decide +kernel
theorem dX12_change_13 : decode cX12_change 13 = .ok (.aload_n 0, 1) := by decide +kernel
theorem dX12_change_14 : decode cX12_change 14 = .ok (.iload_n 2, 1) := by decide +kernel
theorem dX12_change_15 : decode cX12_change 15 = .ok (.invokevirtual 438, 3) := by decide +kernel
theorem dX12_change_18 : decode cX12_change 18 = .ok (.ifCond .eq 17, 3) := by decide +kernel
theorem dX12_change_21 : decode cX12_change 21 = .ok (.iload_n 3, 1) := by decide +kernel
theorem dX12_change_22 : decode cX12_change 22 = .ok (.ldc_w 414, 3) := by decide +kernel
theorem dX12_change_25 : decode cX12_change 25 = .ok (.if_icmp .lt 10, 3) := by decide +kernel
theorem dX12_change_28 : decode cX12_change 28 = .ok (.iload_n 3, 1) := by decide +kernel
theorem dX12_change_29 : decode cX12_change 29 = .ok (.ldc_w 415, 3) := by decide +kernel
theorem dX12_change_32 : decode cX12_change 32 = .ok (.if_icmp .le 5, 3) := by decide +kernel
theorem dX12_change_35 : decode cX12_change 35 = .ok (.iconst (-1), 1) := by decide +kernel
theorem dX12_change_36 : decode cX12_change 36 = .ok (.ireturn, 1) := by decide +kernel
theorem dX12_change_37 : decode cX12_change 37 = .ok (.aload_n 0, 1) := by decide +kernel
theorem dX12_change_38 : decode cX12_change 38 = .ok (.getfield 44, 3) := by decide +kernel
theorem dX12_change_41 : decode cX12_change 41 = .ok (.iload_n 2, 1) := by decide +kernel
theorem dX12_change_42 : decode cX12_change 42 = .ok (.laload, 1) := by decide +kernel
theorem dX12_change_43 : decode cX12_change 43 = .ok (.lstore 4, 2) := by decide +kernel
theorem dX12_change_45 : decode cX12_change 45 = .ok (.aload_n 0, 1) := by decide +kernel
theorem dX12_change_46 : decode cX12_change 46 = .ok (.getfield 87, 3) := by decide +kernel
theorem dX12_change_49 : decode cX12_change 49 = .ok (.iload_n 1, 1) := by decide +kernel
theorem dX12_change_50 : decode cX12_change 50 = .ok (.laload, 1) := by decide +kernel
theorem dX12_change_51 : decode cX12_change 51 = .ok (.lstore 6, 2) := by decide +kernel
theorem dX12_change_53 : decode cX12_change 53 = .ok (.aload_n 0, 1) := by decide +kernel
theorem dX12_change_54 : decode cX12_change 54 = .ok (.getfield 44, 3) := by decide +kernel
theorem dX12_change_57 : decode cX12_change 57 = .ok (.iload_n 2, 1) := by decide +kernel
theorem dX12_change_58 : decode cX12_change 58 = .ok (.lload 4, 2) := by decide +kernel
theorem dX12_change_60 : decode cX12_change 60 = .ok (.iload_n 3, 1) := by decide +kernel
theorem dX12_change_61 : decode cX12_change 61 = .ok (.i2l, 1) := by decide +kernel
theorem dX12_change_62 : decode cX12_change 62 = .ok (.ladd, 1) := by decide +kernel
theorem dX12_change_63 : decode cX12_change 63 = .ok (.invokestatic 408, 3) := by decide +kernel
theorem dX12_change_66 : decode cX12_change 66 = .ok (.lastore, 1) := by decide +kernel
theorem dX12_change_67 : decode cX12_change 67 = .ok (.aload_n 0, 1) := by decide +kernel
theorem dX12_change_68 : decode cX12_change 68 = .ok (.invokevirtual 329, 3) := by decide +kernel
theorem dX12_change_71 : decode cX12_change 71 = .ok (.aload_n 0, 1) := by decide +kernel
theorem dX12_change_72 : decode cX12_change 72 = .ok (.iload_n 1, 1) := by decide +kernel
theorem dX12_change_73 : decode cX12_change 73 = .ok (.invokevirtual 420, 3) := by decide +kernel
theorem dX12_change_76 : decode cX12_change 76 = .ok (.ifCond .eq 19, 3) := by decide +kernel
theorem dX12_change_79 : decode cX12_change 79 = .ok (.aload_n 0, 1) := by decide +kernel
theorem dX12_change_80 : decode cX12_change 80 = .ok (.getfield 87, 3) := by decide +kernel
theorem dX12_change_83 : decode cX12_change 83 = .ok (.iload_n 1, 1) := by decide +kernel
theorem dX12_change_84 : decode cX12_change 84 = .ok (.laload, 1) := by decide +kernel
theorem dX12_change_85 : decode cX12_change 85 = .ok (.lload 6, 2) := by decide +kernel
theorem dX12_change_87 : decode cX12_change 87 = .ok (.lsub, 1) := by decide +kernel
theorem dX12_change_88 : decode cX12_change 88 = .ok (.invokestatic 408, 3) := by decide +kernel
theorem dX12_change_91 : decode cX12_change 91 = .ok (.l2i, 1) := by decide +kernel
theorem dX12_change_92 : decode cX12_change 92 = .ok (.goto 5, 3) := by decide +kernel
theorem dX12_change_95 : decode cX12_change 95 = .ok (.bipush (-2), 2) := by decide +kernel
theorem dX12_change_97 : decode cX12_change 97 = .ok (.istore 8, 2) := by decide +kernel
theorem dX12_change_99 : decode cX12_change 99 = .ok (.aload_n 0, 1) := by decide +kernel
theorem dX12_change_100 : decode cX12_change 100 = .ok (.getfield 44, 3) := by decide +kernel
theorem dX12_change_103 : decode cX12_change 103 = .ok (.iload_n 2, 1) := by decide +kernel
theorem dX12_change_104 : decode cX12_change 104 = .ok (.lload 4, 2) := by decide +kernel
theorem dX12_change_106 : decode cX12_change 106 = .ok (.lastore, 1) := by decide +kernel
theorem dX12_change_107 : decode cX12_change 107 = .ok (.aload_n 0, 1) := by decide +kernel
theorem dX12_change_108 : decode cX12_change 108 = .ok (.invokevirtual 329, 3) := by decide +kernel
theorem dX12_change_111 : decode cX12_change 111 = .ok (.iload 8, 2) := by decide +kernel
theorem dX12_change_113 : decode cX12_change 113 = .ok (.ireturn, 1) := by decide +kernel
theorem dX12_degree_0 : decode cX12_degree 0 = .ok (.aload_n 0, 1) := by decide +kernel
theorem dX12_degree_1 : decode cX12_degree 1 = .ok (.iconst 0, 1) := by decide +kernel
theorem dX12_degree_2 : decode cX12_degree 2 = .ok (.putfield 142, 3) := by decide +kernel
theorem dX12_degree_5 : decode cX12_degree 5 = .ok (.aload_n 0, 1) := by decide +kernel
theorem dX12_degree_6 : decode cX12_degree 6 = .ok (.iload_n 1, 1) := by decide +kernel
theorem dX12_degree_7 : decode cX12_degree 7 = .ok (.invokevirtual 420, 3) := by decide +kernel
theorem dX12_degree_10 : decode cX12_degree 10 = .ok (.ifCond .eq 11, 3) := by decide +kernel
theorem dX12_degree_13 : decode cX12_degree 13 = .ok (.aload_n 0, 1) := by decide +kernel
theorem dX12_degree_14 : decode cX12_degree 14 = .ok (.iload_n 2, 1) := by decide +kernel
theorem dX12_degree_15 : decode cX12_degree 15 = .ok (.invokevirtual 438, 3) := by decide +kernel
theorem dX12_degree_18 : decode cX12_degree 18 = .ok (.ifCond .ne 5, 3) := by decide +kernel
theorem dX12_degree_21 : decode cX12_degree 21 = .ok (.iconst (-1), 1) := by decide +kernel
theorem dX12_degree_22 : decode cX12_degree 22 = .ok (.ireturn, 1) := by decide +kernel
theorem dX12_degree_23 : decode cX12_degree 23 = .ok (.aload_n 0, 1) := by decide +kernel
theorem dX12_degree_24 : decode cX12_degree 24 = .ok (.getfield 44, 3) := by decide +kernel
theorem dX12_degree_27 : decode cX12_degree 27 = .ok (.iload_n 2, 1) := by decide +kernel
theorem dX12_degree_28 : decode cX12_degree 28 = .ok (.laload, 1) := by decide +kernel
theorem dX12_degree_29 : decode cX12_degree 29 = .ok (.lstore_n 3, 1) := by decide +kernel
theorem dX12_degree_30 : decode cX12_degree 30 = .ok (.iconst 1, 1) := by decide +kernel
theorem dX12_degree_31 : decode cX12_degree 31 = .ok (.istore 5, 2) := by decide +kernel
theorem dX12_degree_33 : decode cX12_degree 33 = .ok (.iconst 0, 1) := by decide +kernel
theorem dX12_degree_34 : decode cX12_degree 34 = .ok (.istore 6, 2) := by decide +kernel
theorem dX12_degree_36 : decode cX12_degree 36 = .ok (.iload 6, 2) := by decide +kernel
theorem dX12_degree_38 : decode cX12_degree 38 = .ok (.bipush 10, 2) := by decide +kernel
theorem dX12_degree_40 : decode cX12_degree 40 = .ok (.if_icmp .gt 72, 3) := by decide +kernel
theorem dX12_degree_43 : decode cX12_degree 43 = .ok (.aload_n 0, 1) := by decide +kernel
theorem dX12_degree_44 : decode cX12_degree 44 = .ok (.getfield 44, 3) := by decide +kernel
theorem dX12_degree_47 : decode cX12_degree 47 = .ok (.iload_n 2, 1) := by decide +kernel
theorem dX12_degree_48 : decode cX12_degree 48 = .ok (.lload_n 3, 1) := by decide +kernel
theorem dX12_degree_49 : decode cX12_degree 49 = .ok (.iload 6, 2) := by decide +kernel
theorem dX12_degree_51 : decode cX12_degree 51 = .ok (.i2l, 1) := by decide +kernel
theorem dX12_degree_52 : decode cX12_degree 52 = .ok (.ladd, 1) := by decide +kernel
theorem dX12_degree_53 : decode cX12_degree 53 = .ok (.invokestatic 408, 3) := by decide +kernel
theorem dX12_degree_56 : decode cX12_degree 56 = .ok (.lastore, 1) := by decide +kernel
theorem dX12_degree_57 : decode cX12_degree 57 = .ok (.aload_n 0, 1) := by decide +kernel
theorem dX12_degree_58 : decode cX12_degree 58 = .ok (.invokevirtual 329, 3) := by decide +kernel
theorem dX12_degree_61 : decode cX12_degree 61 = .ok (.iload 5, 2) := by decide +kernel
theorem dX12_degree_63 : decode cX12_degree 63 = .ok (.ifCond .eq 15, 3) := by decide +kernel
theorem dX12_degree_66 : decode cX12_degree 66 = .ok (.aload_n 0, 1) := by decide +kernel
theorem dX12_degree_67 : decode cX12_degree 67 = .ok (.iload_n 1, 1) := by decide +kernel
theorem dX12_degree_68 : decode cX12_degree 68 = .ok (.invokevirtual 420, 3) := by decide +kernel
theorem dX12_degree_71 : decode cX12_degree 71 = .ok (.ifCond .eq 7, 3) := by decide +kernel
theorem dX12_degree_74 : decode cX12_degree 74 = .ok (.iconst 1, 1) := by decide +kernel
theorem dX12_degree_75 : decode cX12_degree 75 = .ok (.goto 4, 3) := by decide +kernel
theorem dX12_degree_78 : decode cX12_degree 78 = .ok (.iconst 0, 1) := by decide +kernel
theorem dX12_degree_79 : decode cX12_degree 79 = .ok (.istore 5, 2) := by decide +kernel
theorem dX12_degree_81 : decode cX12_degree 81 = .ok (.aload_n 0, 1) := by decide +kernel
theorem dX12_degree_82 : decode cX12_degree 82 = .ok (.getfield 121, 3) := by decide +kernel
theorem dX12_degree_85 : decode cX12_degree 85 = .ok (.iload 6, 2) := by decide +kernel
theorem dX12_degree_87 : decode cX12_degree 87 = .ok (.aload_n 0, 1) := by decide +kernel
theorem dX12_degree_88 : decode cX12_degree 88 = .ok (.iload_n 1, 1) := by decide +kernel
theorem dX12_degree_89 : decode cX12_degree 89 = .ok (.invokevirtual 420, 3) := by decide +kernel
theorem dX12_degree_92 : decode cX12_degree 92 = .ok (.ifCond .eq 12, 3) := by decide +kernel
theorem dX12_degree_95 : decode cX12_degree 95 = .ok (.aload_n 0, 1) := by decide +kernel
theorem dX12_degree_96 : decode cX12_degree 96 = .ok (.getfield 87, 3) := by decide +kernel
theorem dX12_degree_99 : decode cX12_degree 99 = .ok (.iload_n 1, 1) := by decide +kernel
theorem dX12_degree_100 : decode cX12_degree 100 = .ok (.laload, 1) := by decide +kernel
theorem dX12_degree_101 : decode cX12_degree 101 = .ok (.goto 4, 3) := by decide +kernel
theorem dX12_degree_104 : decode cX12_degree 104 = .ok (.lconst 0, 1) := by decide +kernel
theorem dX12_degree_105 : decode cX12_degree 105 = .ok (.lastore, 1) := by decide +kernel
theorem dX12_degree_106 : decode cX12_degree 106 = .ok (.iinc 6 1, 3) := by decide +kernel
theorem dX12_degree_109 : decode cX12_degree 109 = .ok (.goto (-73), 3) := by decide +kernel
theorem dX12_degree_112 : decode cX12_degree 112 = .ok (.aload_n 0, 1) := by decide +kernel
theorem dX12_degree_113 : decode cX12_degree 113 = .ok (.getfield 44, 3) := by decide +kernel
theorem dX12_degree_116 : decode cX12_degree 116 = .ok (.iload_n 2, 1) := by decide +kernel
theorem dX12_degree_117 : decode cX12_degree 117 = .ok (.lload_n 3, 1) := by decide +kernel
theorem dX12_degree_118 : decode cX12_degree 118 = .ok (.lastore, 1) := by decide +kernel
theorem dX12_degree_119 : decode cX12_degree 119 = .ok (.aload_n 0, 1) := by decide +kernel
theorem dX12_degree_120 : decode cX12_degree 120 = .ok (.invokevirtual 329, 3) := by decide +kernel
theorem dX12_degree_123 : decode cX12_degree 123 = .ok (.iload 5, 2) := by decide +kernel
theorem dX12_degree_125 : decode cX12_degree 125 = .ok (.ifCond .eq 10, 3) := by decide +kernel
theorem dX12_degree_128 : decode cX12_degree 128 = .ok (.aload_n 0, 1) := by decide +kernel
theorem dX12_degree_129 : decode cX12_degree 129 = .ok (.invokevirtual 487, 3) := by decide +kernel
theorem dX12_degree_132 : decode cX12_degree 132 = .ok (.goto 5, 3) := by decide +kernel
theorem dX12_degree_135 : decode cX12_degree 135 = .ok (.bipush (-2), 2) := by decide +kernel
theorem dX12_degree_137 : decode cX12_degree 137 = .ok (.ireturn, 1) := by decide +kernel
theorem dX12_degreeOf_0 : decode cX12_degreeOf 0 = .ok (.iconst 0, 1) := by decide +kernel
theorem dX12_degreeOf_1 : decode cX12_degreeOf 1 = .ok (.istore_n 1, 1) := by decide +kernel
theorem dX12_degreeOf_2 : decode cX12_degreeOf 2 = .ok (.iload_n 1, 1) := by decide +kernel
theorem dX12_degreeOf_3 : decode cX12_degreeOf 3 = .ok (.bipush 8, 2) := by decide +kernel
theorem dX12_degreeOf_5 : decode cX12_degreeOf 5 = .ok (.if_icmp .gt 78, 3) := by decide +kernel
theorem dX12_degreeOf_8 : decode cX12_degreeOf 8 = .ok (.iconst 1, 1) := by decide +kernel
theorem dX12_degreeOf_9 : decode cX12_degreeOf 9 = .ok (.istore_n 2, 1) := by decide +kernel
theorem dX12_degreeOf_10 : decode cX12_degreeOf 10 = .ok (.iconst 0, 1) := by decide +kernel
theorem dX12_degreeOf_11 : decode cX12_degreeOf 11 = .ok (.istore_n 3, 1) := by decide +kernel
theorem dX12_degreeOf_12 : decode cX12_degreeOf 12 = .ok (.iload_n 3, 1) := by decide +kernel
theorem dX12_degreeOf_13 : decode cX12_degreeOf 13 = .ok (.bipush 10, 2) := by decide +kernel
theorem dX12_degreeOf_15 : decode cX12_degreeOf 15 = .ok (.iload_n 1, 1) := by decide +kernel
theorem dX12_degreeOf_16 : decode cX12_degreeOf 16 = .ok (.isub, 1) := by decide +kernel
theorem dX12_degreeOf_17 : decode cX12_degreeOf 17 = .ok (.if_icmp .ge 54, 3) := by decide +kernel
theorem dX12_degreeOf_20 : decode cX12_degreeOf 20 = .ok (.aload_n 0, 1) := by decide +kernel
theorem dX12_degreeOf_21 : decode cX12_degreeOf 21 = .ok (.getfield 121, 3) := by decide +kernel
theorem dX12_degreeOf_24 : decode cX12_degreeOf 24 = .ok (.iload_n 3, 1) := by decide +kernel
theorem dX12_degreeOf_25 : decode cX12_degreeOf 25 = .ok (.aload_n 0, 1) := by decide +kernel
theorem dX12_degreeOf_26 : decode cX12_degreeOf 26 = .ok (.getfield 121, 3) := by decide +kernel
theorem dX12_degreeOf_29 : decode cX12_degreeOf 29 = .ok (.iload_n 3, 1) := by decide +kernel
theorem dX12_degreeOf_30 : decode cX12_degreeOf 30 = .ok (.iconst 1, 1) := by decide +kernel
theorem dX12_degreeOf_31 : decode cX12_degreeOf 31 = .ok (.iadd, 1) := by decide +kernel
theorem dX12_degreeOf_32 : decode cX12_degreeOf 32 = .ok (.laload, 1) := by decide +kernel
theorem dX12_degreeOf_33 : decode cX12_degreeOf 33 = .ok (.aload_n 0, 1) := by decide +kernel
theorem dX12_degreeOf_34 : decode cX12_degreeOf 34 = .ok (.getfield 121, 3) := by decide +kernel
theorem dX12_degreeOf_37 : decode cX12_degreeOf 37 = .ok (.iload_n 3, 1) := by decide +kernel
theorem dX12_degreeOf_38 : decode cX12_degreeOf 38 = .ok (.laload, 1) := by decide +kernel
theorem dX12_degreeOf_39 : decode cX12_degreeOf 39 = .ok (.lsub, 1) := by decide +kernel
theorem dX12_degreeOf_40 : decode cX12_degreeOf 40 = .ok (.invokestatic 408, 3) := by decide +kernel
theorem dX12_degreeOf_43 : decode cX12_degreeOf 43 = .ok (.lastore, 1) := by decide +kernel
theorem dX12_degreeOf_44 : decode cX12_degreeOf 44 = .ok (.iload_n 2, 1) := by decide +kernel
theorem dX12_degreeOf_45 : decode cX12_degreeOf 45 = .ok (.ifCond .eq 18, 3) := by decide +kernel
theorem dX12_degreeOf_48 : decode cX12_degreeOf 48 = .ok (.aload_n 0, 1) := by decide +kernel
theorem dX12_degreeOf_49 : decode cX12_degreeOf 49 = .ok (.getfield 121, 3) := by decide +kernel
theorem dX12_degreeOf_52 : decode cX12_degreeOf 52 = .ok (.iload_n 3, 1) := by decide +kernel
theorem dX12_degreeOf_53 : decode cX12_degreeOf 53 = .ok (.laload, 1) := by decide +kernel
theorem dX12_degreeOf_54 : decode cX12_degreeOf 54 = .ok (.lconst 0, 1) := by decide +kernel
theorem dX12_degreeOf_55 : decode cX12_degreeOf 55 = .ok (.lcmp, 1) := by decide +kernel
theorem dX12_degreeOf_56 : decode cX12_degreeOf 56 = .ok (.ifCond .ne 7, 3) := by decide +kernel
theorem dX12_degreeOf_59 : decode cX12_degreeOf 59 = .ok (.iconst 1, 1) := by decide +kernel
theorem dX12_degreeOf_60 : decode cX12_degreeOf 60 = .ok (.goto 4, 3) := by decide +kernel
theorem dX12_degreeOf_63 : decode cX12_degreeOf 63 = .ok (.iconst 0, 1) := by decide +kernel
theorem dX12_degreeOf_64 : decode cX12_degreeOf 64 = .ok (.istore_n 2, 1) := by decide +kernel
theorem dX12_degreeOf_65 : decode cX12_degreeOf 65 = .ok (.iinc 3 1, 3) := by decide +kernel
theorem dX12_degreeOf_68 : decode cX12_degreeOf 68 = .ok (.goto (-56), 3) := by decide +kernel
theorem dX12_degreeOf_71 : decode cX12_degreeOf 71 = .ok (.iload_n 2, 1) := by decide +kernel
theorem dX12_degreeOf_72 : decode cX12_degreeOf 72 = .ok (.ifCond .eq 5, 3) := by decide +kernel
theorem dX12_degreeOf_75 : decode cX12_degreeOf 75 = .ok (.iload_n 1, 1) := by decide +kernel
theorem dX12_degreeOf_76 : decode cX12_degreeOf 76 = .ok (.ireturn, 1) := by decide +kernel
theorem dX12_degreeOf_77 : decode cX12_degreeOf 77 = .ok (.iinc 1 1, 3) := by decide +kernel
theorem dX12_degreeOf_80 : decode cX12_degreeOf 80 = .ok (.goto (-78), 3) := by decide +kernel
theorem dX12_degreeOf_83 : decode cX12_degreeOf 83 = .ok (.bipush (-2), 2) := by decide +kernel
theorem dX12_degreeOf_85 : decode cX12_degreeOf 85 = .ok (.ireturn, 1) := by decide +kernel
theorem dX12_isOther_0 : decode cX12_isOther 0 = .ok (.iload_n 1, 1) := by decide +kernel
theorem dX12_isOther_1 : decode cX12_isOther 1 = .ok (.aload_n 0, 1) := by decide +kernel
theorem dX12_isOther_2 : decode cX12_isOther 2 = .ok (.getfield 359, 3) := by decide +kernel
theorem dX12_isOther_5 : decode cX12_isOther 5 = .ok (.if_icmp .eq 5, 3) := by decide +kernel
theorem dX12_isOther_8 : decode cX12_isOther 8 = .ok (.iconst 1, 1) := by decide +kernel
theorem dX12_isOther_9 : decode cX12_isOther 9 = .ok (.ireturn, 1) := by decide +kernel
theorem dX12_isOther_10 : decode cX12_isOther 10 = .ok (.iconst 0, 1) := by decide +kernel
theorem dX12_isOther_11 : decode cX12_isOther 11 = .ok (.istore_n 2, 1) := by decide +kernel
theorem dX12_isOther_12 : decode cX12_isOther 12 = .ok (.iload_n 2, 1) := by decide +kernel
theorem dX12_isOther_13 : decode cX12_isOther 13 = .ok (.iload_n 1, 1) := by decide +kernel
theorem dX12_isOther_14 : decode cX12_isOther 14 = .ok (.if_icmp .ge 26, 3) := by decide +kernel
theorem dX12_isOther_17 : decode cX12_isOther 17 = .ok (.aload_n 0, 1) := by decide +kernel
theorem dX12_isOther_18 : decode cX12_isOther 18 = .ok (.getfield 124, 3) := by decide +kernel
theorem dX12_isOther_21 : decode cX12_isOther 21 = .ok (.iload_n 2, 1) := by decide +kernel
theorem dX12_isOther_22 : decode cX12_isOther 22 = .ok (.iaload, 1) := by decide +kernel
theorem dX12_isOther_23 : decode cX12_isOther 23 = .ok (.aload_n 0, 1) := by decide +kernel
theorem dX12_isOther_24 : decode cX12_isOther 24 = .ok (.getfield 93, 3) := by decide +kernel
theorem dX12_isOther_27 : decode cX12_isOther 27 = .ok (.iload_n 2, 1) := by decide +kernel
theorem dX12_isOther_28 : decode cX12_isOther 28 = .ok (.iaload, 1) := by decide +kernel
theorem dX12_isOther_29 : decode cX12_isOther 29 = .ok (.if_icmp .eq 5, 3) := by decide +kernel
theorem dX12_isOther_32 : decode cX12_isOther 32 = .ok (.iconst 1, 1) := by decide +kernel
theorem dX12_isOther_33 : decode cX12_isOther 33 = .ok (.ireturn, 1) := by decide +kernel
theorem dX12_isOther_34 : decode cX12_isOther 34 = .ok (.iinc 2 1, 3) := by decide +kernel
theorem dX12_isOther_37 : decode cX12_isOther 37 = .ok (.goto (-25), 3) := by decide +kernel
theorem dX12_isOther_40 : decode cX12_isOther 40 = .ok (.iconst 0, 1) := by decide +kernel
theorem dX12_isOther_41 : decode cX12_isOther 41 = .ok (.ireturn, 1) := by decide +kernel
theorem dX12_bends_0 : decode cX12_bends 0 = .ok (.aload_n 0, 1) := by decide +kernel
theorem dX12_bends_1 : decode cX12_bends 1 = .ok (.iconst 0, 1) := by decide +kernel
theorem dX12_bends_2 : decode cX12_bends 2 = .ok (.putfield 142, 3) := by decide +kernel
theorem dX12_bends_5 : decode cX12_bends 5 = .ok (.aload_n 0, 1) := by decide +kernel
theorem dX12_bends_6 : decode cX12_bends 6 = .ok (.iload_n 1, 1) := by decide +kernel
theorem dX12_bends_7 : decode cX12_bends 7 = .ok (.invokevirtual 438, 3) := by decide +kernel
theorem dX12_bends_10 : decode cX12_bends 10 = .ok (.ifCond .ne 5, 3) := by decide +kernel
theorem dX12_bends_13 : decode cX12_bends 13 = .ok (.iconst (-1), 1) := by decide +kernel
theorem dX12_bends_14 : decode cX12_bends 14 = .ok (.ireturn, 1) := by decide +kernel
theorem dX12_bends_15 : decode cX12_bends 15 = .ok (.aload_n 0, 1) := by decide +kernel
theorem dX12_bends_16 : decode cX12_bends 16 = .ok (.getfield 359, 3) := by decide +kernel
theorem dX12_bends_19 : decode cX12_bends 19 = .ok (.istore_n 2, 1) := by decide +kernel
theorem dX12_bends_20 : decode cX12_bends 20 = .ok (.iconst 0, 1) := by decide +kernel
theorem dX12_bends_21 : decode cX12_bends 21 = .ok (.istore_n 3, 1) := by decide +kernel
theorem dX12_bends_22 : decode cX12_bends 22 = .ok (.iload_n 3, 1) := by decide +kernel
theorem dX12_bends_23 : decode cX12_bends 23 = .ok (.iload_n 2, 1) := by decide +kernel
theorem dX12_bends_24 : decode cX12_bends 24 = .ok (.if_icmp .ge 21, 3) := by decide +kernel
theorem dX12_bends_27 : decode cX12_bends 27 = .ok (.aload_n 0, 1) := by decide +kernel
theorem dX12_bends_28 : decode cX12_bends 28 = .ok (.getfield 124, 3) := by decide +kernel
theorem dX12_bends_31 : decode cX12_bends 31 = .ok (.iload_n 3, 1) := by decide +kernel
theorem dX12_bends_32 : decode cX12_bends 32 = .ok (.aload_n 0, 1) := by decide +kernel
theorem dX12_bends_33 : decode cX12_bends 33 = .ok (.getfield 93, 3) := by decide +kernel
theorem dX12_bends_36 : decode cX12_bends 36 = .ok (.iload_n 3, 1) := by decide +kernel
theorem dX12_bends_37 : decode cX12_bends 37 = .ok (.iaload, 1) := by decide +kernel
theorem dX12_bends_38 : decode cX12_bends 38 = .ok (.iastore, 1) := by decide +kernel
theorem dX12_bends_39 : decode cX12_bends 39 = .ok (.iinc 3 1, 3) := by decide +kernel
theorem dX12_bends_42 : decode cX12_bends 42 = .ok (.goto (-20), 3) := by decide +kernel
theorem dX12_bends_45 : decode cX12_bends 45 = .ok (.aload_n 0, 1) := by decide +kernel
theorem dX12_bends_46 : decode cX12_bends 46 = .ok (.getfield 44, 3) := by decide +kernel
theorem dX12_bends_49 : decode cX12_bends 49 = .ok (.iload_n 1, 1) := by decide +kernel
theorem dX12_bends_50 : decode cX12_bends 50 = .ok (.laload, 1) := by decide +kernel
theorem dX12_bends_51 : decode cX12_bends 51 = .ok (.lstore_n 3, 1) := by decide +kernel
theorem dX12_bends_52 : decode cX12_bends 52 = .ok (.bipush (-2), 2) := by decide +kernel
theorem dX12_bends_54 : decode cX12_bends 54 = .ok (.istore 5, 2) := by decide +kernel
theorem dX12_bends_56 : decode cX12_bends 56 = .ok (.iconst 1, 1) := by decide +kernel
theorem dX12_bends_57 : decode cX12_bends 57 = .ok (.istore 6, 2) := by decide +kernel
theorem dX12_bends_59 : decode cX12_bends 59 = .ok (.iload 6, 2) := by decide +kernel
theorem dX12_bends_61 : decode cX12_bends 61 = .ok (.bipush 100, 2) := by decide +kernel
theorem dX12_bends_63 : decode cX12_bends 63 = .ok (.if_icmp .gt 51, 3) := by decide +kernel
theorem dX12_bends_66 : decode cX12_bends 66 = .ok (.iload 5, 2) := by decide +kernel
theorem dX12_bends_68 : decode cX12_bends 68 = .ok (.bipush (-2), 2) := by decide +kernel
theorem dX12_bends_70 : decode cX12_bends 70 = .ok (.if_icmp .ne 44, 3) := by decide +kernel
theorem dX12_bends_73 : decode cX12_bends 73 = .ok (.aload_n 0, 1) := by decide +kernel
theorem dX12_bends_74 : decode cX12_bends 74 = .ok (.getfield 44, 3) := by decide +kernel
theorem dX12_bends_77 : decode cX12_bends 77 = .ok (.iload_n 1, 1) := by decide +kernel
theorem dX12_bends_78 : decode cX12_bends 78 = .ok (.lload_n 3, 1) := by decide +kernel
theorem dX12_bends_79 : decode cX12_bends 79 = .ok (.iload 6, 2) := by decide +kernel
theorem dX12_bends_81 : decode cX12_bends 81 = .ok (.i2l, 1) := by decide +kernel
theorem dX12_bends_82 : decode cX12_bends 82 = .ok (.ladd, 1) := by decide +kernel
theorem dX12_bends_83 : decode cX12_bends 83 = .ok (.invokestatic 408, 3) := by decide +kernel
theorem dX12_bends_86 : decode cX12_bends 86 = .ok (.lastore, 1) := by decide +kernel
theorem dX12_bends_87 : decode cX12_bends 87 = .ok (.aload_n 0, 1) := by decide +kernel
theorem dX12_bends_88 : decode cX12_bends 88 = .ok (.invokevirtual 329, 3) := by decide +kernel
theorem dX12_bends_91 : decode cX12_bends 91 = .ok (.aload_n 0, 1) := by decide +kernel
theorem dX12_bends_92 : decode cX12_bends 92 = .ok (.iload_n 2, 1) := by decide +kernel
theorem dX12_bends_93 : decode cX12_bends 93 = .ok (.invokevirtual 490, 3) := by decide +kernel
theorem dX12_bends_96 : decode cX12_bends 96 = .ok (.ifCond .eq 8, 3) := by decide +kernel
theorem dX12_bends_99 : decode cX12_bends 99 = .ok (.iload 6, 2) := by decide +kernel
theorem dX12_bends_101 : decode cX12_bends 101 = .ok (.goto 5, 3) := by decide +kernel
theorem dX12_bends_104 : decode cX12_bends 104 = .ok (.bipush (-2), 2) := by decide +kernel
theorem dX12_bends_106 : decode cX12_bends 106 = .ok (.istore 5, 2) := by decide +kernel
theorem dX12_bends_108 : decode cX12_bends 108 = .ok (.iinc 6 1, 3) := by decide +kernel
theorem dX12_bends_111 : decode cX12_bends 111 = .ok (.goto (-52), 3) := by decide +kernel
theorem dX12_bends_114 : decode cX12_bends 114 = .ok (.aload_n 0, 1) := by decide +kernel
theorem dX12_bends_115 : decode cX12_bends 115 = .ok (.getfield 44, 3) := by decide +kernel
theorem dX12_bends_118 : decode cX12_bends 118 = .ok (.iload_n 1, 1) := by decide +kernel
theorem dX12_bends_119 : decode cX12_bends 119 = .ok (.lload_n 3, 1) := by decide +kernel
theorem dX12_bends_120 : decode cX12_bends 120 = .ok (.lastore, 1) := by decide +kernel
theorem dX12_bends_121 : decode cX12_bends 121 = .ok (.aload_n 0, 1) := by decide +kernel
theorem dX12_bends_122 : decode cX12_bends 122 = .ok (.invokevirtual 329, 3) := by decide +kernel
theorem dX12_bends_125 : decode cX12_bends 125 = .ok (.iload 5, 2) := by decide +kernel
theorem dX12_bends_127 : decode cX12_bends 127 = .ok (.ireturn, 1) := by decide +kernel
theorem dX12_at_0 : decode cX12_at 0 = .ok (.bipush 21, 2) := by decide +kernel
theorem dX12_at_2 : decode cX12_at 2 = .ok (.iload_n 0, 1) := by decide +kernel
theorem dX12_at_3 : decode cX12_at 3 = .ok (.imul, 1) := by decide +kernel
theorem dX12_at_4 : decode cX12_at 4 = .ok (.iload_n 1, 1) := by decide +kernel
theorem dX12_at_5 : decode cX12_at 5 = .ok (.iadd, 1) := by decide +kernel
theorem dX12_at_6 : decode cX12_at 6 = .ok (.ireturn, 1) := by decide +kernel
theorem dX12_laysFew_0 : decode cX12_laysFew 0 = .ok (.aload_n 0, 1) := by decide +kernel
theorem dX12_laysFew_1 : decode cX12_laysFew 1 = .ok (.getfield 493, 3) := by decide +kernel
theorem dX12_laysFew_4 : decode cX12_laysFew 4 = .ok (.ifCond .eq 4, 3) := by decide +kernel
theorem dX12_laysFew_7 : decode cX12_laysFew 7 = .ok (.return_, 1) := by decide +kernel
theorem dX12_laysFew_8 : decode cX12_laysFew 8 = .ok (.aload_n 0, 1) := by decide +kernel
theorem dX12_laysFew_9 : decode cX12_laysFew 9 = .ok (.iconst 1, 1) := by decide +kernel
theorem dX12_laysFew_10 : decode cX12_laysFew 10 = .ok (.putfield 493, 3) := by decide +kernel
theorem dX12_laysFew_13 : decode cX12_laysFew 13 = .ok (.iconst 1, 1) := by decide +kernel
theorem dX12_laysFew_14 : decode cX12_laysFew 14 = .ok (.istore_n 1, 1) := by decide +kernel
theorem dX12_laysFew_15 : decode cX12_laysFew 15 = .ok (.iload_n 1, 1) := by decide +kernel
theorem dX12_laysFew_16 : decode cX12_laysFew 16 = .ok (.sipush 400, 3) := by decide +kernel
theorem dX12_laysFew_19 : decode cX12_laysFew 19 = .ok (.if_icmp .gt 131, 3) := by decide +kernel
theorem dX12_laysFew_22 : decode cX12_laysFew 22 = .ok (.aload_n 0, 1) := by decide +kernel
theorem dX12_laysFew_23 : decode cX12_laysFew 23 = .ok (.getfield 127, 3) := by decide +kernel
theorem dX12_laysFew_26 : decode cX12_laysFew 26 = .ok (.iload_n 1, 1) := by decide +kernel
theorem dX12_laysFew_27 : decode cX12_laysFew 27 = .ok (.iconst 0, 1) := by decide +kernel
theorem dX12_laysFew_28 : decode cX12_laysFew 28 = .ok (.invokestatic 496, 3) := by decide +kernel
theorem dX12_laysFew_31 : decode cX12_laysFew 31 = .ok (.iload_n 1, 1) := by decide +kernel
theorem dX12_laysFew_32 : decode cX12_laysFew 32 = .ok (.iload_n 1, 1) := by decide +kernel
theorem dX12_laysFew_33 : decode cX12_laysFew 33 = .ok (.iconst 1, 1) := by decide +kernel
theorem dX12_laysFew_34 : decode cX12_laysFew 34 = .ok (.isub, 1) := by decide +kernel
theorem dX12_laysFew_35 : decode cX12_laysFew 35 = .ok (.imul, 1) := by decide +kernel
theorem dX12_laysFew_36 : decode cX12_laysFew 36 = .ok (.iconst 2, 1) := by decide +kernel
theorem dX12_laysFew_37 : decode cX12_laysFew 37 = .ok (.idiv, 1) := by decide +kernel
theorem dX12_laysFew_38 : decode cX12_laysFew 38 = .ok (.iastore, 1) := by decide +kernel
theorem dX12_laysFew_39 : decode cX12_laysFew 39 = .ok (.iconst 1, 1) := by decide +kernel
theorem dX12_laysFew_40 : decode cX12_laysFew 40 = .ok (.istore_n 2, 1) := by decide +kernel
theorem dX12_laysFew_41 : decode cX12_laysFew 41 = .ok (.iload_n 2, 1) := by decide +kernel
theorem dX12_laysFew_42 : decode cX12_laysFew 42 = .ok (.bipush 20, 2) := by decide +kernel
theorem dX12_laysFew_44 : decode cX12_laysFew 44 = .ok (.if_icmp .gt 100, 3) := by decide +kernel
theorem dX12_laysFew_47 : decode cX12_laysFew 47 = .ok (.iload_n 1, 1) := by decide +kernel
theorem dX12_laysFew_48 : decode cX12_laysFew 48 = .ok (.iconst 1, 1) := by decide +kernel
theorem dX12_laysFew_49 : decode cX12_laysFew 49 = .ok (.if_icmp .le 95, 3) := by decide +kernel
theorem dX12_laysFew_52 : decode cX12_laysFew 52 = .ok (.ldc_w 498, 3) := by decide +kernel
theorem dX12_laysFew_55 : decode cX12_laysFew 55 = .ok (.istore_n 3, 1) := by decide +kernel
theorem dX12_laysFew_56 : decode cX12_laysFew 56 = .ok (.iconst 1, 1) := by decide +kernel
theorem dX12_laysFew_57 : decode cX12_laysFew 57 = .ok (.istore 4, 2) := by decide +kernel
theorem dX12_laysFew_59 : decode cX12_laysFew 59 = .ok (.iload 4, 2) := by decide +kernel
theorem dX12_laysFew_61 : decode cX12_laysFew 61 = .ok (.iload_n 1, 1) := by decide +kernel
theorem dX12_laysFew_62 : decode cX12_laysFew 62 = .ok (.if_icmp .ge 65, 3) := by decide +kernel
theorem dX12_laysFew_65 : decode cX12_laysFew 65 = .ok (.iload 4, 2) := by decide +kernel
theorem dX12_laysFew_67 : decode cX12_laysFew 67 = .ok (.aload_n 0, 1) := by decide +kernel
theorem dX12_laysFew_68 : decode cX12_laysFew 68 = .ok (.getfield 127, 3) := by decide +kernel
theorem dX12_laysFew_71 : decode cX12_laysFew 71 = .ok (.iload_n 1, 1) := by decide +kernel
theorem dX12_laysFew_72 : decode cX12_laysFew 72 = .ok (.iload 4, 2) := by decide +kernel
theorem dX12_laysFew_74 : decode cX12_laysFew 74 = .ok (.isub, 1) := by decide +kernel
theorem dX12_laysFew_75 : decode cX12_laysFew 75 = .ok (.iload_n 2, 1) := by decide +kernel
theorem dX12_laysFew_76 : decode cX12_laysFew 76 = .ok (.iconst 1, 1) := by decide +kernel
theorem dX12_laysFew_77 : decode cX12_laysFew 77 = .ok (.isub, 1) := by decide +kernel
theorem dX12_laysFew_78 : decode cX12_laysFew 78 = .ok (.invokestatic 496, 3) := by decide +kernel
theorem dX12_laysFew_81 : decode cX12_laysFew 81 = .ok (.iaload, 1) := by decide +kernel
theorem dX12_laysFew_82 : decode cX12_laysFew 82 = .ok (.iadd, 1) := by decide +kernel
theorem dX12_laysFew_83 : decode cX12_laysFew 83 = .ok (.aload_n 0, 1) := by decide +kernel
theorem dX12_laysFew_84 : decode cX12_laysFew 84 = .ok (.getfield 127, 3) := by decide +kernel
theorem dX12_laysFew_87 : decode cX12_laysFew 87 = .ok (.iload 4, 2) := by decide +kernel
theorem dX12_laysFew_89 : decode cX12_laysFew 89 = .ok (.iload_n 2, 1) := by decide +kernel
theorem dX12_laysFew_90 : decode cX12_laysFew 90 = .ok (.invokestatic 496, 3) := by decide +kernel
theorem dX12_laysFew_93 : decode cX12_laysFew 93 = .ok (.iaload, 1) := by decide +kernel
theorem dX12_laysFew_94 : decode cX12_laysFew 94 = .ok (.iadd, 1) := by decide +kernel
theorem dX12_laysFew_95 : decode cX12_laysFew 95 = .ok (.istore 5, 2) := by decide +kernel
theorem dX12_laysFew_97 : decode cX12_laysFew 97 = .ok (.iload 5, 2) := by decide +kernel
theorem dX12_laysFew_99 : decode cX12_laysFew 99 = .ok (.iload_n 3, 1) := by decide +kernel
theorem dX12_laysFew_100 : decode cX12_laysFew 100 = .ok (.if_icmp .lt 6, 3) := by decide +kernel
theorem dX12_laysFew_103 : decode cX12_laysFew 103 = .ok (.goto 18, 3) := by decide +kernel
theorem dX12_laysFew_106 : decode cX12_laysFew 106 = .ok (.iload 5, 2) := by decide +kernel
theorem dX12_laysFew_108 : decode cX12_laysFew 108 = .ok (.istore_n 3, 1) := by decide +kernel
theorem dX12_laysFew_109 : decode cX12_laysFew 109 = .ok (.aload_n 0, 1) := by decide +kernel
theorem dX12_laysFew_110 : decode cX12_laysFew 110 = .ok (.getfield 130, 3) := by decide +kernel
theorem dX12_laysFew_113 : decode cX12_laysFew 113 = .ok (.iload_n 1, 1) := by decide +kernel
theorem dX12_laysFew_114 : decode cX12_laysFew 114 = .ok (.iload_n 2, 1) := by decide +kernel
theorem dX12_laysFew_115 : decode cX12_laysFew 115 = .ok (.invokestatic 496, 3) := by decide +kernel
theorem dX12_laysFew_118 : decode cX12_laysFew 118 = .ok (.iload 4, 2) := by decide +kernel
theorem dX12_laysFew_120 : decode cX12_laysFew 120 = .ok (.iastore, 1) := by decide +kernel
theorem dX12_laysFew_121 : decode cX12_laysFew 121 = .ok (.iinc 4 1, 3) := by decide +kernel
theorem dX12_laysFew_124 : decode cX12_laysFew 124 = .ok (.goto (-65), 3) := by decide +kernel
theorem dX12_laysFew_127 : decode cX12_laysFew 127 = .ok (.aload_n 0, 1) := by decide +kernel
theorem dX12_laysFew_128 : decode cX12_laysFew 128 = .ok (.getfield 127, 3) := by decide +kernel
theorem dX12_laysFew_131 : decode cX12_laysFew 131 = .ok (.iload_n 1, 1) := by decide +kernel
theorem dX12_laysFew_132 : decode cX12_laysFew 132 = .ok (.iload_n 2, 1) := by decide +kernel
theorem dX12_laysFew_133 : decode cX12_laysFew 133 = .ok (.invokestatic 496, 3) := by decide +kernel
theorem dX12_laysFew_136 : decode cX12_laysFew 136 = .ok (.iload_n 3, 1) := by decide +kernel
theorem dX12_laysFew_137 : decode cX12_laysFew 137 = .ok (.iastore, 1) := by decide +kernel
theorem dX12_laysFew_138 : decode cX12_laysFew 138 = .ok (.iinc 2 1, 3) := by decide +kernel
theorem dX12_laysFew_141 : decode cX12_laysFew 141 = .ok (.goto (-100), 3) := by decide +kernel
theorem dX12_laysFew_144 : decode cX12_laysFew 144 = .ok (.iinc 1 1, 3) := by decide +kernel
theorem dX12_laysFew_147 : decode cX12_laysFew 147 = .ok (.goto (-132), 3) := by decide +kernel
theorem dX12_laysFew_150 : decode cX12_laysFew 150 = .ok (.return_, 1) := by decide +kernel
theorem dX12_isState_0 : decode cX12_isState 0 = .ok (.iload_n 0, 1) := by decide +kernel
theorem dX12_isState_1 : decode cX12_isState 1 = .ok (.ifCond .lt 13, 3) := by decide +kernel
theorem dX12_isState_4 : decode cX12_isState 4 = .ok (.iload_n 0, 1) := by decide +kernel
theorem dX12_isState_5 : decode cX12_isState 5 = .ok (.bipush 20, 2) := by decide +kernel
theorem dX12_isState_7 : decode cX12_isState 7 = .ok (.if_icmp .gt 7, 3) := by decide +kernel
theorem dX12_isState_10 : decode cX12_isState 10 = .ok (.iconst 1, 1) := by decide +kernel
theorem dX12_isState_11 : decode cX12_isState 11 = .ok (.goto 4, 3) := by decide +kernel
theorem dX12_isState_14 : decode cX12_isState 14 = .ok (.iconst 0, 1) := by decide +kernel
theorem dX12_isState_15 : decode cX12_isState 15 = .ok (.ireturn, 1) := by decide +kernel
theorem dX12_few_0 : decode cX12_few 0 = .ok (.aload_n 0, 1) := by decide +kernel
theorem dX12_few_1 : decode cX12_few 1 = .ok (.iconst 0, 1) := by decide +kernel
theorem dX12_few_2 : decode cX12_few 2 = .ok (.putfield 142, 3) := by decide +kernel
theorem dX12_few_5 : decode cX12_few 5 = .ok (.iload_n 1, 1) := by decide +kernel
theorem dX12_few_6 : decode cX12_few 6 = .ok (.iconst 1, 1) := by decide +kernel
theorem dX12_few_7 : decode cX12_few 7 = .ok (.if_icmp .lt 17, 3) := by decide +kernel
theorem dX12_few_10 : decode cX12_few 10 = .ok (.iload_n 1, 1) := by decide +kernel
theorem dX12_few_11 : decode cX12_few 11 = .ok (.sipush 400, 3) := by decide +kernel
theorem dX12_few_14 : decode cX12_few 14 = .ok (.if_icmp .gt 10, 3) := by decide +kernel
theorem dX12_few_17 : decode cX12_few 17 = .ok (.iload_n 2, 1) := by decide +kernel
theorem dX12_few_18 : decode cX12_few 18 = .ok (.invokestatic 499, 3) := by decide +kernel
theorem dX12_few_21 : decode cX12_few 21 = .ok (.ifCond .ne 5, 3) := by decide +kernel
theorem dX12_few_24 : decode cX12_few 24 = .ok (.iconst (-1), 1) := by decide +kernel
theorem dX12_few_25 : decode cX12_few 25 = .ok (.ireturn, 1) := by decide +kernel
theorem dX12_few_26 : decode cX12_few 26 = .ok (.aload_n 0, 1) := by decide +kernel
theorem dX12_few_27 : decode cX12_few 27 = .ok (.invokevirtual 502, 3) := by decide +kernel
theorem dX12_few_30 : decode cX12_few 30 = .ok (.aload_n 0, 1) := by decide +kernel
theorem dX12_few_31 : decode cX12_few 31 = .ok (.getfield 127, 3) := by decide +kernel
theorem dX12_few_34 : decode cX12_few 34 = .ok (.iload_n 1, 1) := by decide +kernel
theorem dX12_few_35 : decode cX12_few 35 = .ok (.iload_n 2, 1) := by decide +kernel
theorem dX12_few_36 : decode cX12_few 36 = .ok (.invokestatic 496, 3) := by decide +kernel
theorem dX12_few_39 : decode cX12_few 39 = .ok (.iaload, 1) := by decide +kernel
theorem dX12_few_40 : decode cX12_few 40 = .ok (.ireturn, 1) := by decide +kernel
theorem dX12_split_0 : decode cX12_split 0 = .ok (.aload_n 0, 1) := by decide +kernel
theorem dX12_split_1 : decode cX12_split 1 = .ok (.iconst 0, 1) := by decide +kernel
theorem dX12_split_2 : decode cX12_split 2 = .ok (.putfield 142, 3) := by decide +kernel
theorem dX12_split_5 : decode cX12_split 5 = .ok (.iload_n 1, 1) := by decide +kernel
theorem dX12_split_6 : decode cX12_split 6 = .ok (.iconst 2, 1) := by decide +kernel
theorem dX12_split_7 : decode cX12_split 7 = .ok (.if_icmp .lt 22, 3) := by decide +kernel
theorem dX12_split_10 : decode cX12_split 10 = .ok (.iload_n 1, 1) := by decide +kernel
theorem dX12_split_11 : decode cX12_split 11 = .ok (.sipush 400, 3) := by decide +kernel
theorem dX12_split_14 : decode cX12_split 14 = .ok (.if_icmp .gt 15, 3) := by decide +kernel
theorem dX12_split_17 : decode cX12_split 17 = .ok (.iload_n 2, 1) := by decide +kernel
theorem dX12_split_18 : decode cX12_split 18 = .ok (.iconst 1, 1) := by decide +kernel
theorem dX12_split_19 : decode cX12_split 19 = .ok (.if_icmp .lt 10, 3) := by decide +kernel
theorem dX12_split_22 : decode cX12_split 22 = .ok (.iload_n 2, 1) := by decide +kernel
theorem dX12_split_23 : decode cX12_split 23 = .ok (.invokestatic 499, 3) := by decide +kernel
theorem dX12_split_26 : decode cX12_split 26 = .ok (.ifCond .ne 5, 3) := by decide +kernel
theorem dX12_split_29 : decode cX12_split 29 = .ok (.iconst (-1), 1) := by decide +kernel
theorem dX12_split_30 : decode cX12_split 30 = .ok (.ireturn, 1) := by decide +kernel
theorem dX12_split_31 : decode cX12_split 31 = .ok (.aload_n 0, 1) := by decide +kernel
theorem dX12_split_32 : decode cX12_split 32 = .ok (.invokevirtual 502, 3) := by decide +kernel
theorem dX12_split_35 : decode cX12_split 35 = .ok (.aload_n 0, 1) := by decide +kernel
theorem dX12_split_36 : decode cX12_split 36 = .ok (.getfield 130, 3) := by decide +kernel
theorem dX12_split_39 : decode cX12_split 39 = .ok (.iload_n 1, 1) := by decide +kernel
theorem dX12_split_40 : decode cX12_split 40 = .ok (.iload_n 2, 1) := by decide +kernel
theorem dX12_split_41 : decode cX12_split 41 = .ok (.invokestatic 496, 3) := by decide +kernel
theorem dX12_split_44 : decode cX12_split 44 = .ok (.iaload, 1) := by decide +kernel
theorem dX12_split_45 : decode cX12_split 45 = .ok (.ireturn, 1) := by decide +kernel
theorem dX12_states_0 : decode cX12_states 0 = .ok (.aload_n 0, 1) := by decide +kernel
theorem dX12_states_1 : decode cX12_states 1 = .ok (.iconst 0, 1) := by decide +kernel
theorem dX12_states_2 : decode cX12_states 2 = .ok (.putfield 142, 3) := by decide +kernel
theorem dX12_states_5 : decode cX12_states 5 = .ok (.iload_n 1, 1) := by decide +kernel
theorem dX12_states_6 : decode cX12_states 6 = .ok (.iconst 1, 1) := by decide +kernel
theorem dX12_states_7 : decode cX12_states 7 = .ok (.if_icmp .lt 14, 3) := by decide +kernel
theorem dX12_states_10 : decode cX12_states 10 = .ok (.iload_n 1, 1) := by decide +kernel
theorem dX12_states_11 : decode cX12_states 11 = .ok (.sipush 400, 3) := by decide +kernel
theorem dX12_states_14 : decode cX12_states 14 = .ok (.if_icmp .gt 7, 3) := by decide +kernel
theorem dX12_states_17 : decode cX12_states 17 = .ok (.iload_n 2, 1) := by decide +kernel
theorem dX12_states_18 : decode cX12_states 18 = .ok (.ifCond .ge 5, 3) := by decide +kernel
theorem dX12_states_21 : decode cX12_states 21 = .ok (.iconst (-1), 1) := by decide +kernel
theorem dX12_states_22 : decode cX12_states 22 = .ok (.ireturn, 1) := by decide +kernel
theorem dX12_states_23 : decode cX12_states 23 = .ok (.aload_n 0, 1) := by decide +kernel
theorem dX12_states_24 : decode cX12_states 24 = .ok (.invokevirtual 502, 3) := by decide +kernel
theorem dX12_states_27 : decode cX12_states 27 = .ok (.iconst 0, 1) := by decide +kernel
theorem dX12_states_28 : decode cX12_states 28 = .ok (.istore_n 3, 1) := by decide +kernel
theorem dX12_states_29 : decode cX12_states 29 = .ok (.iload_n 3, 1) := by decide +kernel
theorem dX12_states_30 : decode cX12_states 30 = .ok (.bipush 20, 2) := by decide +kernel
theorem dX12_states_32 : decode cX12_states 32 = .ok (.if_icmp .gt 25, 3) := by decide +kernel
theorem dX12_states_35 : decode cX12_states 35 = .ok (.aload_n 0, 1) := by decide +kernel
theorem dX12_states_36 : decode cX12_states 36 = .ok (.getfield 127, 3) := by decide +kernel
theorem dX12_states_39 : decode cX12_states 39 = .ok (.iload_n 1, 1) := by decide +kernel
theorem dX12_states_40 : decode cX12_states 40 = .ok (.iload_n 3, 1) := by decide +kernel
theorem dX12_states_41 : decode cX12_states 41 = .ok (.invokestatic 496, 3) := by decide +kernel
theorem dX12_states_44 : decode cX12_states 44 = .ok (.iaload, 1) := by decide +kernel
theorem dX12_states_45 : decode cX12_states 45 = .ok (.iload_n 2, 1) := by decide +kernel
theorem dX12_states_46 : decode cX12_states 46 = .ok (.if_icmp .gt 5, 3) := by decide +kernel
theorem dX12_states_49 : decode cX12_states 49 = .ok (.iload_n 3, 1) := by decide +kernel
theorem dX12_states_50 : decode cX12_states 50 = .ok (.ireturn, 1) := by decide +kernel
theorem dX12_states_51 : decode cX12_states 51 = .ok (.iinc 3 1, 3) := by decide +kernel
theorem dX12_states_54 : decode cX12_states 54 = .ok (.goto (-25), 3) := by decide +kernel
theorem dX12_states_57 : decode cX12_states 57 = .ok (.bipush (-2), 2) := by decide +kernel
theorem dX12_states_59 : decode cX12_states 59 = .ok (.ireturn, 1) := by decide +kernel
theorem dX12_acts_0 : decode cX12_acts 0 = .ok (.aload_n 0, 1) := by decide +kernel
theorem dX12_acts_1 : decode cX12_acts 1 = .ok (.getfield 505, 3) := by decide +kernel
theorem dX12_acts_4 : decode cX12_acts 4 = .ok (.aload_n 0, 1) := by decide +kernel
theorem dX12_acts_5 : decode cX12_acts 5 = .ok (.getfield 508, 3) := by decide +kernel
theorem dX12_acts_8 : decode cX12_acts 8 = .ok (.if_icmp .ne 24, 3) := by decide +kernel
theorem dX12_acts_11 : decode cX12_acts 11 = .ok (.aload_n 0, 1) := by decide +kernel
theorem dX12_acts_12 : decode cX12_acts 12 = .ok (.getfield 133, 3) := by decide +kernel
theorem dX12_acts_15 : decode cX12_acts 15 = .ok (.iconst 0, 1) := by decide +kernel
theorem dX12_acts_16 : decode cX12_acts 16 = .ok (.iload_n 1, 1) := by decide +kernel
theorem dX12_acts_17 : decode cX12_acts 17 = .ok (.iastore, 1) := by decide +kernel
theorem dX12_acts_18 : decode cX12_acts 18 = .ok (.aload_n 0, 1) := by decide +kernel
theorem dX12_acts_19 : decode cX12_acts 19 = .ok (.getfield 133, 3) := by decide +kernel
theorem dX12_acts_22 : decode cX12_acts 22 = .ok (.iconst 1, 1) := by decide +kernel
theorem dX12_acts_23 : decode cX12_acts 23 = .ok (.iload_n 2, 1) := by decide +kernel
theorem dX12_acts_24 : decode cX12_acts 24 = .ok (.iastore, 1) := by decide +kernel
theorem dX12_acts_25 : decode cX12_acts 25 = .ok (.aload_n 0, 1) := by decide +kernel
theorem dX12_acts_26 : decode cX12_acts 26 = .ok (.getfield 133, 3) := by decide +kernel
theorem dX12_acts_29 : decode cX12_acts 29 = .ok (.iconst 2, 1) := by decide +kernel
theorem dX12_acts_30 : decode cX12_acts 30 = .ok (.iload_n 3, 1) := by decide +kernel
theorem dX12_acts_31 : decode cX12_acts 31 = .ok (.iastore, 1) := by decide +kernel
theorem dX12_acts_32 : decode cX12_acts 32 = .ok (.aload_n 0, 1) := by decide +kernel
theorem dX12_acts_33 : decode cX12_acts 33 = .ok (.dup, 1) := by decide +kernel
theorem dX12_acts_34 : decode cX12_acts 34 = .ok (.getfield 505, 3) := by decide +kernel
theorem dX12_acts_37 : decode cX12_acts 37 = .ok (.iconst 1, 1) := by decide +kernel
theorem dX12_acts_38 : decode cX12_acts 38 = .ok (.iadd, 1) := by decide +kernel
theorem dX12_acts_39 : decode cX12_acts 39 = .ok (.putfield 505, 3) := by decide +kernel
theorem dX12_acts_42 : decode cX12_acts 42 = .ok (.aload_n 0, 1) := by decide +kernel
theorem dX12_acts_43 : decode cX12_acts 43 = .ok (.dup, 1) := by decide +kernel
theorem dX12_acts_44 : decode cX12_acts 44 = .ok (.getfield 511, 3) := by decide +kernel
theorem dX12_acts_47 : decode cX12_acts 47 = .ok (.iload_n 3, 1) := by decide +kernel
theorem dX12_acts_48 : decode cX12_acts 48 = .ok (.iload_n 2, 1) := by decide +kernel
theorem dX12_acts_49 : decode cX12_acts 49 = .ok (.isub, 1) := by decide +kernel
theorem dX12_acts_50 : decode cX12_acts 50 = .ok (.iadd, 1) := by decide +kernel
theorem dX12_acts_51 : decode cX12_acts 51 = .ok (.putfield 511, 3) := by decide +kernel
theorem dX12_acts_54 : decode cX12_acts 54 = .ok (.aload_n 0, 1) := by decide +kernel
theorem dX12_acts_55 : decode cX12_acts 55 = .ok (.dup, 1) := by decide +kernel
theorem dX12_acts_56 : decode cX12_acts 56 = .ok (.getfield 514, 3) := by decide +kernel
theorem dX12_acts_59 : decode cX12_acts 59 = .ok (.iload_n 1, 1) := by decide +kernel
theorem dX12_acts_60 : decode cX12_acts 60 = .ok (.iconst 1, 1) := by decide +kernel
theorem dX12_acts_61 : decode cX12_acts 61 = .ok (.if_icmp .ne 7, 3) := by decide +kernel
theorem dX12_acts_64 : decode cX12_acts 64 = .ok (.iconst 1, 1) := by decide +kernel
theorem dX12_acts_65 : decode cX12_acts 65 = .ok (.goto 13, 3) := by decide +kernel
theorem dX12_acts_68 : decode cX12_acts 68 = .ok (.iload_n 1, 1) := by decide +kernel
theorem dX12_acts_69 : decode cX12_acts 69 = .ok (.iconst 3, 1) := by decide +kernel
theorem dX12_acts_70 : decode cX12_acts 70 = .ok (.if_icmp .ne 7, 3) := by decide +kernel
theorem dX12_acts_73 : decode cX12_acts 73 = .ok (.iconst (-1), 1) := by decide +kernel
theorem dX12_acts_74 : decode cX12_acts 74 = .ok (.goto 4, 3) := by decide +kernel
theorem dX12_acts_77 : decode cX12_acts 77 = .ok (.iconst 0, 1) := by decide +kernel
theorem dX12_acts_78 : decode cX12_acts 78 = .ok (.iadd, 1) := by decide +kernel
theorem dX12_acts_79 : decode cX12_acts 79 = .ok (.putfield 514, 3) := by decide +kernel
theorem dX12_acts_82 : decode cX12_acts 82 = .ok (.aload_n 0, 1) := by decide +kernel
theorem dX12_acts_83 : decode cX12_acts 83 = .ok (.aload_n 0, 1) := by decide +kernel
theorem dX12_acts_84 : decode cX12_acts 84 = .ok (.getfield 514, 3) := by decide +kernel
theorem dX12_acts_87 : decode cX12_acts 87 = .ok (.aload_n 0, 1) := by decide +kernel
theorem dX12_acts_88 : decode cX12_acts 88 = .ok (.getfield 517, 3) := by decide +kernel
theorem dX12_acts_91 : decode cX12_acts 91 = .ok (.if_icmp .le 10, 3) := by decide +kernel
theorem dX12_acts_94 : decode cX12_acts 94 = .ok (.aload_n 0, 1) := by decide +kernel
theorem dX12_acts_95 : decode cX12_acts 95 = .ok (.getfield 514, 3) := by decide +kernel
theorem dX12_acts_98 : decode cX12_acts 98 = .ok (.goto 7, 3) := by decide +kernel
theorem dX12_acts_101 : decode cX12_acts 101 = .ok (.aload_n 0, 1) := by decide +kernel
theorem dX12_acts_102 : decode cX12_acts 102 = .ok (.getfield 517, 3) := by decide +kernel
theorem dX12_acts_105 : decode cX12_acts 105 = .ok (.putfield 517, 3) := by decide +kernel
theorem dX12_acts_108 : decode cX12_acts 108 = .ok (.return_, 1) := by decide +kernel
theorem dX12_backward__0 : decode cX12_backward_ 0 = .ok (.iload_n 2, 1) := by decide +kernel
theorem dX12_backward__1 : decode cX12_backward_ 1 = .ok (.iload_n 1, 1) := by decide +kernel
theorem dX12_backward__2 : decode cX12_backward_ 2 = .ok (.isub, 1) := by decide +kernel
theorem dX12_backward__3 : decode cX12_backward_ 3 = .ok (.istore 4, 2) := by decide +kernel
theorem dX12_backward__5 : decode cX12_backward_ 5 = .ok (.iload 4, 2) := by decide +kernel
theorem dX12_backward__7 : decode cX12_backward_ 7 = .ok (.iconst 1, 1) := by decide +kernel
theorem dX12_backward__8 : decode cX12_backward_ 8 = .ok (.if_icmp .ne 11, 3) := by decide +kernel
theorem dX12_backward__11 : decode cX12_backward_ 11 = .ok (.aload_n 0, 1) := by decide +kernel
theorem dX12_backward__12 : decode cX12_backward_ 12 = .ok (.iconst 2, 1) := by decide +kernel
theorem dX12_backward__13 : decode cX12_backward_ 13 = .ok (.iload_n 1, 1) := by decide +kernel
theorem dX12_backward__14 : decode cX12_backward_ 14 = .ok (.iload_n 1, 1) := by decide +kernel
theorem dX12_backward__15 : decode cX12_backward_ 15 = .ok (.invokevirtual 520, 3) := by decide +kernel
theorem dX12_backward__18 : decode cX12_backward_ 18 = .ok (.return_, 1) := by decide +kernel
theorem dX12_backward__19 : decode cX12_backward_ 19 = .ok (.iload_n 3, 1) := by decide +kernel
theorem dX12_backward__20 : decode cX12_backward_ 20 = .ok (.ifCond .ne 44, 3) := by decide +kernel
theorem dX12_backward__23 : decode cX12_backward_ 23 = .ok (.iload_n 2, 1) := by decide +kernel
theorem dX12_backward__24 : decode cX12_backward_ 24 = .ok (.iconst 1, 1) := by decide +kernel
theorem dX12_backward__25 : decode cX12_backward_ 25 = .ok (.isub, 1) := by decide +kernel
theorem dX12_backward__26 : decode cX12_backward_ 26 = .ok (.istore 5, 2) := by decide +kernel
theorem dX12_backward__28 : decode cX12_backward_ 28 = .ok (.iload 5, 2) := by decide +kernel
theorem dX12_backward__30 : decode cX12_backward_ 30 = .ok (.iload_n 1, 1) := by decide +kernel
theorem dX12_backward__31 : decode cX12_backward_ 31 = .ok (.if_icmp .lt 32, 3) := by decide +kernel
theorem dX12_backward__34 : decode cX12_backward_ 34 = .ok (.iload 5, 2) := by decide +kernel
theorem dX12_backward__36 : decode cX12_backward_ 36 = .ok (.iload_n 1, 1) := by decide +kernel
theorem dX12_backward__37 : decode cX12_backward_ 37 = .ok (.if_icmp .eq 11, 3) := by decide +kernel
theorem dX12_backward__40 : decode cX12_backward_ 40 = .ok (.aload_n 0, 1) := by decide +kernel
theorem dX12_backward__41 : decode cX12_backward_ 41 = .ok (.iconst 0, 1) := by decide +kernel
theorem dX12_backward__42 : decode cX12_backward_ 42 = .ok (.iload_n 1, 1) := by decide +kernel
theorem dX12_backward__43 : decode cX12_backward_ 43 = .ok (.iload 5, 2) := by decide +kernel
theorem dX12_backward__45 : decode cX12_backward_ 45 = .ok (.invokevirtual 520, 3) := by decide +kernel
theorem dX12_backward__48 : decode cX12_backward_ 48 = .ok (.aload_n 0, 1) := by decide +kernel
theorem dX12_backward__49 : decode cX12_backward_ 49 = .ok (.iconst 2, 1) := by decide +kernel
theorem dX12_backward__50 : decode cX12_backward_ 50 = .ok (.iload 5, 2) := by decide +kernel
theorem dX12_backward__52 : decode cX12_backward_ 52 = .ok (.iload 5, 2) := by decide +kernel
theorem dX12_backward__54 : decode cX12_backward_ 54 = .ok (.invokevirtual 520, 3) := by decide +kernel
theorem dX12_backward__57 : decode cX12_backward_ 57 = .ok (.iinc 5 (-1), 3) := by decide +kernel
theorem dX12_backward__60 : decode cX12_backward_ 60 = .ok (.goto (-32), 3) := by decide +kernel
theorem dX12_backward__63 : decode cX12_backward_ 63 = .ok (.return_, 1) := by decide +kernel
theorem dX12_backward__64 : decode cX12_backward_ 64 = .ok (.iload_n 1, 1) := by decide +kernel
theorem dX12_backward__65 : decode cX12_backward_ 65 = .ok (.aload_n 0, 1) := by decide +kernel
theorem dX12_backward__66 : decode cX12_backward_ 66 = .ok (.getfield 130, 3) := by decide +kernel
theorem dX12_backward__69 : decode cX12_backward_ 69 = .ok (.iload 4, 2) := by decide +kernel
theorem dX12_backward__71 : decode cX12_backward_ 71 = .ok (.iload_n 3, 1) := by decide +kernel
theorem dX12_backward__72 : decode cX12_backward_ 72 = .ok (.invokestatic 496, 3) := by decide +kernel
theorem dX12_backward__75 : decode cX12_backward_ 75 = .ok (.iaload, 1) := by decide +kernel
theorem dX12_backward__76 : decode cX12_backward_ 76 = .ok (.iadd, 1) := by decide +kernel
theorem dX12_backward__77 : decode cX12_backward_ 77 = .ok (.istore 5, 2) := by decide +kernel
theorem dX12_backward__79 : decode cX12_backward_ 79 = .ok (.aload_n 0, 1) := by decide +kernel
theorem dX12_backward__80 : decode cX12_backward_ 80 = .ok (.iconst 0, 1) := by decide +kernel
theorem dX12_backward__81 : decode cX12_backward_ 81 = .ok (.iload_n 1, 1) := by decide +kernel
theorem dX12_backward__82 : decode cX12_backward_ 82 = .ok (.iload 5, 2) := by decide +kernel
theorem dX12_backward__84 : decode cX12_backward_ 84 = .ok (.invokevirtual 520, 3) := by decide +kernel
theorem dX12_backward__87 : decode cX12_backward_ 87 = .ok (.aload_n 0, 1) := by decide +kernel
theorem dX12_backward__88 : decode cX12_backward_ 88 = .ok (.iconst 1, 1) := by decide +kernel
theorem dX12_backward__89 : decode cX12_backward_ 89 = .ok (.iload 5, 2) := by decide +kernel
theorem dX12_backward__91 : decode cX12_backward_ 91 = .ok (.iload 5, 2) := by decide +kernel
theorem dX12_backward__93 : decode cX12_backward_ 93 = .ok (.invokevirtual 520, 3) := by decide +kernel
theorem dX12_backward__96 : decode cX12_backward_ 96 = .ok (.aload_n 0, 1) := by decide +kernel
theorem dX12_backward__97 : decode cX12_backward_ 97 = .ok (.iload 5, 2) := by decide +kernel
theorem dX12_backward__99 : decode cX12_backward_ 99 = .ok (.iload_n 2, 1) := by decide +kernel
theorem dX12_backward__100 : decode cX12_backward_ 100 = .ok (.iload_n 3, 1) := by decide +kernel
theorem dX12_backward__101 : decode cX12_backward_ 101 = .ok (.iconst 1, 1) := by decide +kernel
theorem dX12_backward__102 : decode cX12_backward_ 102 = .ok (.isub, 1) := by decide +kernel
theorem dX12_backward__103 : decode cX12_backward_ 103 = .ok (.invokevirtual 522, 3) := by decide +kernel
theorem dX12_backward__106 : decode cX12_backward_ 106 = .ok (.aload_n 0, 1) := by decide +kernel
theorem dX12_backward__107 : decode cX12_backward_ 107 = .ok (.iconst 3, 1) := by decide +kernel
theorem dX12_backward__108 : decode cX12_backward_ 108 = .ok (.iload 5, 2) := by decide +kernel
theorem dX12_backward__110 : decode cX12_backward_ 110 = .ok (.iload 5, 2) := by decide +kernel
theorem dX12_backward__112 : decode cX12_backward_ 112 = .ok (.invokevirtual 520, 3) := by decide +kernel
theorem dX12_backward__115 : decode cX12_backward_ 115 = .ok (.aload_n 0, 1) := by decide +kernel
theorem dX12_backward__116 : decode cX12_backward_ 116 = .ok (.iload_n 1, 1) := by decide +kernel
theorem dX12_backward__117 : decode cX12_backward_ 117 = .ok (.iload 5, 2) := by decide +kernel
theorem dX12_backward__119 : decode cX12_backward_ 119 = .ok (.iload_n 3, 1) := by decide +kernel
theorem dX12_backward__120 : decode cX12_backward_ 120 = .ok (.invokevirtual 522, 3) := by decide +kernel
theorem dX12_backward__123 : decode cX12_backward_ 123 = .ok (.return_, 1) := by decide +kernel
theorem dX12_allActs_0 : decode cX12_allActs 0 = .ok (.aload_n 0, 1) := by decide +kernel
theorem dX12_allActs_1 : decode cX12_allActs 1 = .ok (.invokevirtual 502, 3) := by decide +kernel
theorem dX12_allActs_4 : decode cX12_allActs 4 = .ok (.aload_n 0, 1) := by decide +kernel
theorem dX12_allActs_5 : decode cX12_allActs 5 = .ok (.iconst 0, 1) := by decide +kernel
theorem dX12_allActs_6 : decode cX12_allActs 6 = .ok (.putfield 505, 3) := by decide +kernel
theorem dX12_allActs_9 : decode cX12_allActs 9 = .ok (.aload_n 0, 1) := by decide +kernel
theorem dX12_allActs_10 : decode cX12_allActs 10 = .ok (.iload_n 3, 1) := by decide +kernel
theorem dX12_allActs_11 : decode cX12_allActs 11 = .ok (.putfield 508, 3) := by decide +kernel
theorem dX12_allActs_14 : decode cX12_allActs 14 = .ok (.aload_n 0, 1) := by decide +kernel
theorem dX12_allActs_15 : decode cX12_allActs 15 = .ok (.iconst 0, 1) := by decide +kernel
theorem dX12_allActs_16 : decode cX12_allActs 16 = .ok (.putfield 511, 3) := by decide +kernel
theorem dX12_allActs_19 : decode cX12_allActs 19 = .ok (.aload_n 0, 1) := by decide +kernel
theorem dX12_allActs_20 : decode cX12_allActs 20 = .ok (.iconst 0, 1) := by decide +kernel
theorem dX12_allActs_21 : decode cX12_allActs 21 = .ok (.putfield 514, 3) := by decide +kernel
theorem dX12_allActs_24 : decode cX12_allActs 24 = .ok (.aload_n 0, 1) := by decide +kernel
theorem dX12_allActs_25 : decode cX12_allActs 25 = .ok (.iconst 0, 1) := by decide +kernel
theorem dX12_allActs_26 : decode cX12_allActs 26 = .ok (.putfield 517, 3) := by decide +kernel
theorem dX12_allActs_29 : decode cX12_allActs 29 = .ok (.aload_n 0, 1) := by decide +kernel
theorem dX12_allActs_30 : decode cX12_allActs 30 = .ok (.iconst 0, 1) := by decide +kernel
theorem dX12_allActs_31 : decode cX12_allActs 31 = .ok (.iload_n 1, 1) := by decide +kernel
theorem dX12_allActs_32 : decode cX12_allActs 32 = .ok (.iload_n 2, 1) := by decide +kernel
theorem dX12_allActs_33 : decode cX12_allActs 33 = .ok (.invokevirtual 522, 3) := by decide +kernel
theorem dX12_allActs_36 : decode cX12_allActs 36 = .ok (.return_, 1) := by decide +kernel
theorem dX12_action_0 : decode cX12_action 0 = .ok (.aload_n 0, 1) := by decide +kernel
theorem dX12_action_1 : decode cX12_action 1 = .ok (.iconst 0, 1) := by decide +kernel
theorem dX12_action_2 : decode cX12_action 2 = .ok (.putfield 142, 3) := by decide +kernel
theorem dX12_action_5 : decode cX12_action 5 = .ok (.iload_n 1, 1) := by decide +kernel
theorem dX12_action_6 : decode cX12_action 6 = .ok (.iconst 1, 1) := by decide +kernel
theorem dX12_action_7 : decode cX12_action 7 = .ok (.if_icmp .lt 31, 3) := by decide +kernel
theorem dX12_action_10 : decode cX12_action 10 = .ok (.iload_n 1, 1) := by decide +kernel
theorem dX12_action_11 : decode cX12_action 11 = .ok (.bipush 60, 2) := by decide +kernel
theorem dX12_action_13 : decode cX12_action 13 = .ok (.if_icmp .gt 25, 3) := by decide +kernel
theorem dX12_action_16 : decode cX12_action 16 = .ok (.iload_n 2, 1) := by decide +kernel
theorem dX12_action_17 : decode cX12_action 17 = .ok (.invokestatic 499, 3) := by decide +kernel
theorem dX12_action_20 : decode cX12_action 20 = .ok (.ifCond .eq 18, 3) := by decide +kernel
theorem dX12_action_23 : decode cX12_action 23 = .ok (.iload_n 3, 1) := by decide +kernel
theorem dX12_action_24 : decode cX12_action 24 = .ok (.ifCond .lt 14, 3) := by decide +kernel
theorem dX12_action_27 : decode cX12_action 27 = .ok (.iload 4, 2) := by decide +kernel
theorem dX12_action_29 : decode cX12_action 29 = .ok (.ifCond .lt 9, 3) := by decide +kernel
theorem dX12_action_32 : decode cX12_action 32 = .ok (.iload 4, 2) := by decide +kernel
theorem dX12_action_34 : decode cX12_action 34 = .ok (.iconst 2, 1) := by decide +kernel
theorem dX12_action_35 : decode cX12_action 35 = .ok (.if_icmp .le 5, 3) := by decide +kernel
theorem dX12_action_38 : decode cX12_action 38 = .ok (.iconst (-1), 1) := by decide +kernel
theorem dX12_action_39 : decode cX12_action 39 = .ok (.ireturn, 1) := by decide +kernel
theorem dX12_action_40 : decode cX12_action 40 = .ok (.aload_n 0, 1) := by decide +kernel
theorem dX12_action_41 : decode cX12_action 41 = .ok (.iload_n 1, 1) := by decide +kernel
theorem dX12_action_42 : decode cX12_action 42 = .ok (.iload_n 2, 1) := by decide +kernel
theorem dX12_action_43 : decode cX12_action 43 = .ok (.iload_n 3, 1) := by decide +kernel
theorem dX12_action_44 : decode cX12_action 44 = .ok (.invokevirtual 524, 3) := by decide +kernel
theorem dX12_action_47 : decode cX12_action 47 = .ok (.iload_n 3, 1) := by decide +kernel
theorem dX12_action_48 : decode cX12_action 48 = .ok (.aload_n 0, 1) := by decide +kernel
theorem dX12_action_49 : decode cX12_action 49 = .ok (.getfield 505, 3) := by decide +kernel
theorem dX12_action_52 : decode cX12_action 52 = .ok (.if_icmp .ge 13, 3) := by decide +kernel
theorem dX12_action_55 : decode cX12_action 55 = .ok (.aload_n 0, 1) := by decide +kernel
theorem dX12_action_56 : decode cX12_action 56 = .ok (.getfield 133, 3) := by decide +kernel
theorem dX12_action_59 : decode cX12_action 59 = .ok (.iload 4, 2) := by decide +kernel
theorem dX12_action_61 : decode cX12_action 61 = .ok (.iaload, 1) := by decide +kernel
theorem dX12_action_62 : decode cX12_action 62 = .ok (.goto 5, 3) := by decide +kernel
theorem dX12_action_65 : decode cX12_action 65 = .ok (.bipush (-2), 2) := by decide +kernel
theorem dX12_action_67 : decode cX12_action 67 = .ok (.ireturn, 1) := by decide +kernel
theorem dX12_actions_0 : decode cX12_actions 0 = .ok (.aload_n 0, 1) := by decide +kernel
theorem dX12_actions_1 : decode cX12_actions 1 = .ok (.iconst 0, 1) := by decide +kernel
theorem dX12_actions_2 : decode cX12_actions 2 = .ok (.putfield 142, 3) := by decide +kernel
theorem dX12_actions_5 : decode cX12_actions 5 = .ok (.iload_n 1, 1) := by decide +kernel
theorem dX12_actions_6 : decode cX12_actions 6 = .ok (.iconst 1, 1) := by decide +kernel
theorem dX12_actions_7 : decode cX12_actions 7 = .ok (.if_icmp .lt 25, 3) := by decide +kernel
theorem dX12_actions_10 : decode cX12_actions 10 = .ok (.iload_n 1, 1) := by decide +kernel
theorem dX12_actions_11 : decode cX12_actions 11 = .ok (.bipush 60, 2) := by decide +kernel
theorem dX12_actions_13 : decode cX12_actions 13 = .ok (.if_icmp .gt 19, 3) := by decide +kernel
theorem dX12_actions_16 : decode cX12_actions 16 = .ok (.iload_n 2, 1) := by decide +kernel
theorem dX12_actions_17 : decode cX12_actions 17 = .ok (.invokestatic 499, 3) := by decide +kernel
theorem dX12_actions_20 : decode cX12_actions 20 = .ok (.ifCond .eq 12, 3) := by decide +kernel
theorem dX12_actions_23 : decode cX12_actions 23 = .ok (.iload_n 3, 1) := by decide +kernel
theorem dX12_actions_24 : decode cX12_actions 24 = .ok (.ifCond .lt 8, 3) := by decide +kernel
theorem dX12_actions_27 : decode cX12_actions 27 = .ok (.iload_n 3, 1) := by decide +kernel
theorem dX12_actions_28 : decode cX12_actions 28 = .ok (.iconst 2, 1) := by decide +kernel
theorem dX12_actions_29 : decode cX12_actions 29 = .ok (.if_icmp .le 5, 3) := by decide +kernel
theorem dX12_actions_32 : decode cX12_actions 32 = .ok (.iconst (-1), 1) := by decide +kernel
theorem dX12_actions_33 : decode cX12_actions 33 = .ok (.ireturn, 1) := by decide +kernel
theorem dX12_actions_34 : decode cX12_actions 34 = .ok (.aload_n 0, 1) := by decide +kernel
theorem dX12_actions_35 : decode cX12_actions 35 = .ok (.iload_n 1, 1) := by decide +kernel
theorem dX12_actions_36 : decode cX12_actions 36 = .ok (.iload_n 2, 1) := by decide +kernel
theorem dX12_actions_37 : decode cX12_actions 37 = .ok (.iconst (-1), 1) := by decide +kernel
theorem dX12_actions_38 : decode cX12_actions 38 = .ok (.invokevirtual 524, 3) := by decide +kernel
theorem dX12_actions_41 : decode cX12_actions 41 = .ok (.iload_n 3, 1) := by decide +kernel
theorem dX12_actions_42 : decode cX12_actions 42 = .ok (.ifCond .ne 10, 3) := by decide +kernel
theorem dX12_actions_45 : decode cX12_actions 45 = .ok (.aload_n 0, 1) := by decide +kernel
theorem dX12_actions_46 : decode cX12_actions 46 = .ok (.getfield 505, 3) := by decide +kernel
theorem dX12_actions_49 : decode cX12_actions 49 = .ok (.goto 19, 3) := by decide +kernel
theorem dX12_actions_52 : decode cX12_actions 52 = .ok (.iload_n 3, 1) := by decide +kernel
theorem dX12_actions_53 : decode cX12_actions 53 = .ok (.iconst 1, 1) := by decide +kernel
theorem dX12_actions_54 : decode cX12_actions 54 = .ok (.if_icmp .ne 10, 3) := by decide +kernel
theorem dX12_actions_57 : decode cX12_actions 57 = .ok (.aload_n 0, 1) := by decide +kernel
theorem dX12_actions_58 : decode cX12_actions 58 = .ok (.getfield 511, 3) := by decide +kernel
theorem dX12_actions_61 : decode cX12_actions 61 = .ok (.goto 7, 3) := by decide +kernel
theorem dX12_actions_64 : decode cX12_actions 64 = .ok (.aload_n 0, 1) := by decide +kernel
theorem dX12_actions_65 : decode cX12_actions 65 = .ok (.getfield 517, 3) := by decide +kernel
theorem dX12_actions_68 : decode cX12_actions 68 = .ok (.ireturn, 1) := by decide +kernel
theorem dX12_fraction_0 : decode cX12_fraction 0 = .ok (.aload_n 0, 1) := by decide +kernel
theorem dX12_fraction_1 : decode cX12_fraction 1 = .ok (.iconst 0, 1) := by decide +kernel
theorem dX12_fraction_2 : decode cX12_fraction 2 = .ok (.putfield 142, 3) := by decide +kernel
theorem dX12_fraction_5 : decode cX12_fraction 5 = .ok (.iload_n 1, 1) := by decide +kernel
theorem dX12_fraction_6 : decode cX12_fraction 6 = .ok (.ifCond .lt 21, 3) := by decide +kernel
theorem dX12_fraction_9 : decode cX12_fraction 9 = .ok (.iload_n 1, 1) := by decide +kernel
theorem dX12_fraction_10 : decode cX12_fraction 10 = .ok (.i2l, 1) := by decide +kernel
theorem dX12_fraction_11 : decode cX12_fraction 11 = .ok (.ldc2_w 338, 3) := by decide +kernel
theorem dX12_fraction_14 : decode cX12_fraction 14 = .ok (.lcmp, 1) := by decide +kernel
theorem dX12_fraction_15 : decode cX12_fraction 15 = .ok (.ifCond .ge 12, 3) := by decide +kernel
theorem dX12_fraction_18 : decode cX12_fraction 18 = .ok (.iload_n 2, 1) := by decide +kernel
theorem dX12_fraction_19 : decode cX12_fraction 19 = .ok (.ifCond .lt 8, 3) := by decide +kernel
theorem dX12_fraction_22 : decode cX12_fraction 22 = .ok (.iload_n 2, 1) := by decide +kernel
theorem dX12_fraction_23 : decode cX12_fraction 23 = .ok (.iconst 1, 1) := by decide +kernel
theorem dX12_fraction_24 : decode cX12_fraction 24 = .ok (.if_icmp .le 7, 3) := by decide +kernel
theorem dX12_fraction_27 : decode cX12_fraction 27 = .ok (.ldc_w 527, 3) := by decide +kernel
theorem dX12_fraction_30 : decode cX12_fraction 30 = .ok (.ireturn, 1) := by decide +kernel
theorem dX12_fraction_31 : decode cX12_fraction 31 = .ok (.iconst 1, 1) := by decide +kernel
theorem dX12_fraction_32 : decode cX12_fraction 32 = .ok (.istore_n 3, 1) := by decide +kernel
theorem dX12_fraction_33 : decode cX12_fraction 33 = .ok (.iload_n 3, 1) := by decide +kernel
theorem dX12_fraction_34 : decode cX12_fraction 34 = .ok (.sipush 22360, 3) := by decide +kernel
theorem dX12_fraction_37 : decode cX12_fraction 37 = .ok (.if_icmp .gt 53, 3) := by decide +kernel
theorem dX12_fraction_40 : decode cX12_fraction 40 = .ok (.iload_n 1, 1) := by decide +kernel
theorem dX12_fraction_41 : decode cX12_fraction 41 = .ok (.i2l, 1) := by decide +kernel
theorem dX12_fraction_42 : decode cX12_fraction 42 = .ok (.iload_n 3, 1) := by decide +kernel
theorem dX12_fraction_43 : decode cX12_fraction 43 = .ok (.i2l, 1) := by decide +kernel
theorem dX12_fraction_44 : decode cX12_fraction 44 = .ok (.lmul, 1) := by decide +kernel
theorem dX12_fraction_45 : decode cX12_fraction 45 = .ok (.ldc2_w 338, 3) := by decide +kernel
theorem dX12_fraction_48 : decode cX12_fraction 48 = .ok (.lrem, 1) := by decide +kernel
theorem dX12_fraction_49 : decode cX12_fraction 49 = .ok (.invokestatic 404, 3) := by decide +kernel
theorem dX12_fraction_52 : decode cX12_fraction 52 = .ok (.lstore 4, 2) := by decide +kernel
theorem dX12_fraction_54 : decode cX12_fraction 54 = .ok (.lload 4, 2) := by decide +kernel
theorem dX12_fraction_56 : decode cX12_fraction 56 = .ok (.ldc2_w 528, 3) := by decide +kernel
theorem dX12_fraction_59 : decode cX12_fraction 59 = .ok (.lcmp, 1) := by decide +kernel
theorem dX12_fraction_60 : decode cX12_fraction 60 = .ok (.ifCond .lt 24, 3) := by decide +kernel
theorem dX12_fraction_63 : decode cX12_fraction 63 = .ok (.lload 4, 2) := by decide +kernel
theorem dX12_fraction_65 : decode cX12_fraction 65 = .ok (.ldc2_w 530, 3) := by decide +kernel
theorem dX12_fraction_68 : decode cX12_fraction 68 = .ok (.lcmp, 1) := by decide +kernel
theorem dX12_fraction_69 : decode cX12_fraction 69 = .ok (.ifCond .gt 15, 3) := by decide +kernel
theorem dX12_fraction_72 : decode cX12_fraction 72 = .ok (.iload_n 2, 1) := by decide +kernel
theorem dX12_fraction_73 : decode cX12_fraction 73 = .ok (.ifCond .ne 9, 3) := by decide +kernel
theorem dX12_fraction_76 : decode cX12_fraction 76 = .ok (.lload 4, 2) := by decide +kernel
theorem dX12_fraction_78 : decode cX12_fraction 78 = .ok (.l2i, 1) := by decide +kernel
theorem dX12_fraction_79 : decode cX12_fraction 79 = .ok (.goto 4, 3) := by decide +kernel
theorem dX12_fraction_82 : decode cX12_fraction 82 = .ok (.iload_n 3, 1) := by decide +kernel
theorem dX12_fraction_83 : decode cX12_fraction 83 = .ok (.ireturn, 1) := by decide +kernel
theorem dX12_fraction_84 : decode cX12_fraction 84 = .ok (.iinc 3 1, 3) := by decide +kernel
theorem dX12_fraction_87 : decode cX12_fraction 87 = .ok (.goto (-54), 3) := by decide +kernel
theorem dX12_fraction_90 : decode cX12_fraction 90 = .ok (.sipush (-30000), 3) := by decide +kernel
theorem dX12_fraction_93 : decode cX12_fraction 93 = .ok (.ireturn, 1) := by decide +kernel
theorem dX12_count_0 : decode cX12_count 0 = .ok (.aload_n 0, 1) := by decide +kernel
theorem dX12_count_1 : decode cX12_count 1 = .ok (.iconst 0, 1) := by decide +kernel
theorem dX12_count_2 : decode cX12_count 2 = .ok (.putfield 142, 3) := by decide +kernel
theorem dX12_count_5 : decode cX12_count 5 = .ok (.iload_n 1, 1) := by decide +kernel
theorem dX12_count_6 : decode cX12_count 6 = .ok (.tableswitch 77 0 6 #[42, 47, 52, 57, 62, 67, 72], 42) := by decide +kernel
theorem dX12_count_48 : decode cX12_count 48 = .ok (.aload_n 0, 1) := by decide +kernel
theorem dX12_count_49 : decode cX12_count 49 = .ok (.getfield 311, 3) := by decide +kernel
theorem dX12_count_52 : decode cX12_count 52 = .ok (.ireturn, 1) := by decide +kernel
theorem dX12_count_53 : decode cX12_count 53 = .ok (.aload_n 0, 1) := by decide +kernel
theorem dX12_count_54 : decode cX12_count 54 = .ok (.getfield 314, 3) := by decide +kernel
theorem dX12_count_57 : decode cX12_count 57 = .ok (.ireturn, 1) := by decide +kernel
theorem dX12_count_58 : decode cX12_count 58 = .ok (.aload_n 0, 1) := by decide +kernel
theorem dX12_count_59 : decode cX12_count 59 = .ok (.getfield 317, 3) := by decide +kernel
theorem dX12_count_62 : decode cX12_count 62 = .ok (.ireturn, 1) := by decide +kernel
theorem dX12_count_63 : decode cX12_count 63 = .ok (.aload_n 0, 1) := by decide +kernel
theorem dX12_count_64 : decode cX12_count 64 = .ok (.getfield 320, 3) := by decide +kernel
theorem dX12_count_67 : decode cX12_count 67 = .ok (.ireturn, 1) := by decide +kernel
theorem dX12_count_68 : decode cX12_count 68 = .ok (.aload_n 0, 1) := by decide +kernel
theorem dX12_count_69 : decode cX12_count 69 = .ok (.getfield 323, 3) := by decide +kernel
theorem dX12_count_72 : decode cX12_count 72 = .ok (.ireturn, 1) := by decide +kernel
theorem dX12_count_73 : decode cX12_count 73 = .ok (.aload_n 0, 1) := by decide +kernel
theorem dX12_count_74 : decode cX12_count 74 = .ok (.getfield 326, 3) := by decide +kernel
theorem dX12_count_77 : decode cX12_count 77 = .ok (.ireturn, 1) := by decide +kernel
theorem dX12_count_78 : decode cX12_count 78 = .ok (.aload_n 0, 1) := by decide +kernel
theorem dX12_count_79 : decode cX12_count 79 = .ok (.getfield 145, 3) := by decide +kernel
theorem dX12_count_82 : decode cX12_count 82 = .ok (.ireturn, 1) := by decide +kernel
theorem dX12_count_83 : decode cX12_count 83 = .ok (.iconst (-1), 1) := by decide +kernel
theorem dX12_count_84 : decode cX12_count 84 = .ok (.ireturn, 1) := by decide +kernel
