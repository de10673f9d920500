theorem dX0_init_0 : decode cX0_init 0 = .ok (.aload_n 0, 1) := by decide +kernel
theorem dX0_init_1 : decode cX0_init 1 = .ok (.invokespecial 3, 3) := by decide +kernel
theorem dX0_init_4 : decode cX0_init 4 = .ok (.aload_n 0, 1) := by decide +kernel
theorem dX0_init_5 : decode cX0_init 5 = .ok (.bipush 32, 2) := by decide +kernel
theorem dX0_init_7 : decode cX0_init 7 = .ok (.newarray .int, 2) := by decide +kernel
theorem dX0_init_9 : decode cX0_init 9 = .ok (.putfield 11, 3) := by decide +kernel
theorem dX0_init_12 : decode cX0_init 12 = .ok (.return_, 1) := by decide +kernel
theorem dX0_clear_0 : decode cX0_clear 0 = .ok (.aload_n 0, 1) := by decide +kernel
theorem dX0_clear_1 : decode cX0_clear 1 = .ok (.getfield 11, 3) := by decide +kernel
theorem dX0_clear_4 : decode cX0_clear 4 = .ok (.iconst 0, 1) := by decide +kernel
theorem dX0_clear_5 : decode cX0_clear 5 = .ok (.invokestatic 15, 3) := by decide +kernel
theorem dX0_clear_8 : decode cX0_clear 8 = .ok (.aload_n 0, 1) := by decide +kernel
theorem dX0_clear_9 : decode cX0_clear 9 = .ok (.iconst 0, 1) := by decide +kernel
theorem dX0_clear_10 : decode cX0_clear 10 = .ok (.putfield 21, 3) := by decide +kernel
theorem dX0_clear_13 : decode cX0_clear 13 = .ok (.aload_n 0, 1) := by decide +kernel
theorem dX0_clear_14 : decode cX0_clear 14 = .ok (.iconst 0, 1) := by decide +kernel
theorem dX0_clear_15 : decode cX0_clear 15 = .ok (.putfield 25, 3) := by decide +kernel
theorem dX0_clear_18 : decode cX0_clear 18 = .ok (.return_, 1) := by decide +kernel
theorem dX0_add_0 : decode cX0_add 0 = .ok (.aload_n 0, 1) := by decide +kernel
theorem dX0_add_1 : decode cX0_add 1 = .ok (.getfield 21, 3) := by decide +kernel
theorem dX0_add_4 : decode cX0_add 4 = .ok (.iconst 5, 1) := by decide +kernel
theorem dX0_add_5 : decode cX0_add 5 = .ok (.ishr, 1) := by decide +kernel
theorem dX0_add_6 : decode cX0_add 6 = .ok (.istore_n 2, 1) := by decide +kernel
theorem dX0_add_7 : decode cX0_add 7 = .ok (.iload_n 1, 1) := by decide +kernel
theorem dX0_add_8 : decode cX0_add 8 = .ok (.ifCond .eq 41, 3) := by decide +kernel
theorem dX0_add_11 : decode cX0_add 11 = .ok (.iload_n 2, 1) := by decide +kernel
theorem dX0_add_12 : decode cX0_add 12 = .ok (.ifCond .lt 37, 3) := by decide +kernel
theorem dX0_add_15 : decode cX0_add 15 = .ok (.iload_n 2, 1) := by decide +kernel
theorem dX0_add_16 : decode cX0_add 16 = .ok (.bipush 32, 2) := by decide +kernel
theorem dX0_add_18 : decode cX0_add 18 = .ok (.if_icmp .ge 31, 3) := by decide +kernel
theorem dX0_add_21 : decode cX0_add 21 = .ok (.aload_n 0, 1) := by decide +kernel
theorem dX0_add_22 : decode cX0_add 22 = .ok (.getfield 11, 3) := by decide +kernel
theorem dX0_add_25 : decode cX0_add 25 = .ok (.iload_n 2, 1) := by decide +kernel
theorem dX0_add_26 : decode cX0_add 26 = .ok (.dup2, 1) := by decide +kernel
theorem dX0_add_27 : decode cX0_add 27 = .ok (.iaload, 1) := by decide +kernel
theorem dX0_add_28 : decode cX0_add 28 = .ok (.iconst 1, 1) := by decide +kernel
theorem dX0_add_29 : decode cX0_add 29 = .ok (.aload_n 0, 1) := by decide +kernel
theorem dX0_add_30 : decode cX0_add 30 = .ok (.getfield 21, 3) := by decide +kernel
theorem dX0_add_33 : decode cX0_add 33 = .ok (.bipush 31, 2) := by decide +kernel
theorem dX0_add_35 : decode cX0_add 35 = .ok (.iand, 1) := by decide +kernel
theorem dX0_add_36 : decode cX0_add 36 = .ok (.ishl, 1) := by decide +kernel
theorem dX0_add_37 : decode cX0_add 37 = .ok (.ior, 1) := by decide +kernel
theorem dX0_add_38 : decode cX0_add 38 = .ok (.iastore, 1) := by decide +kernel
theorem dX0_add_39 : decode cX0_add 39 = .ok (.aload_n 0, 1) := by decide +kernel
theorem dX0_add_40 : decode cX0_add 40 = .ok (.dup, 1) := by decide +kernel
theorem dX0_add_41 : decode cX0_add 41 = .ok (.getfield 25, 3) := by decide +kernel
theorem dX0_add_44 : decode cX0_add 44 = .ok (.iconst 1, 1) := by decide +kernel
theorem dX0_add_45 : decode cX0_add 45 = .ok (.iadd, 1) := by decide +kernel
theorem dX0_add_46 : decode cX0_add 46 = .ok (.putfield 25, 3) := by decide +kernel
theorem dX0_add_49 : decode cX0_add 49 = .ok (.aload_n 0, 1) := by decide +kernel
theorem dX0_add_50 : decode cX0_add 50 = .ok (.dup, 1) := by decide +kernel
theorem dX0_add_51 : decode cX0_add 51 = .ok (.getfield 21, 3) := by decide +kernel
theorem dX0_add_54 : decode cX0_add 54 = .ok (.iconst 1, 1) := by decide +kernel
theorem dX0_add_55 : decode cX0_add 55 = .ok (.iadd, 1) := by decide +kernel
theorem dX0_add_56 : decode cX0_add 56 = .ok (.putfield 21, 3) := by decide +kernel
theorem dX0_add_59 : decode cX0_add 59 = .ok (.return_, 1) := by decide +kernel
theorem dX0_answerAt_0 : decode cX0_answerAt 0 = .ok (.iload_n 1, 1) := by decide +kernel
theorem dX0_answerAt_1 : decode cX0_answerAt 1 = .ok (.iconst 5, 1) := by decide +kernel
theorem dX0_answerAt_2 : decode cX0_answerAt 2 = .ok (.ishr, 1) := by decide +kernel
theorem dX0_answerAt_3 : decode cX0_answerAt 3 = .ok (.istore_n 2, 1) := by decide +kernel
theorem dX0_answerAt_4 : decode cX0_answerAt 4 = .ok (.iload_n 2, 1) := by decide +kernel
theorem dX0_answerAt_5 : decode cX0_answerAt 5 = .ok (.ifCond .lt 25, 3) := by decide +kernel
theorem dX0_answerAt_8 : decode cX0_answerAt 8 = .ok (.iload_n 2, 1) := by decide +kernel
theorem dX0_answerAt_9 : decode cX0_answerAt 9 = .ok (.bipush 32, 2) := by decide +kernel
theorem dX0_answerAt_11 : decode cX0_answerAt 11 = .ok (.if_icmp .ge 19, 3) := by decide +kernel
theorem dX0_answerAt_14 : decode cX0_answerAt 14 = .ok (.aload_n 0, 1) := by decide +kernel
theorem dX0_answerAt_15 : decode cX0_answerAt 15 = .ok (.getfield 11, 3) := by decide +kernel
theorem dX0_answerAt_18 : decode cX0_answerAt 18 = .ok (.iload_n 2, 1) := by decide +kernel
theorem dX0_answerAt_19 : decode cX0_answerAt 19 = .ok (.iaload, 1) := by decide +kernel
theorem dX0_answerAt_20 : decode cX0_answerAt 20 = .ok (.iload_n 1, 1) := by decide +kernel
theorem dX0_answerAt_21 : decode cX0_answerAt 21 = .ok (.bipush 31, 2) := by decide +kernel
theorem dX0_answerAt_23 : decode cX0_answerAt 23 = .ok (.iand, 1) := by decide +kernel
theorem dX0_answerAt_24 : decode cX0_answerAt 24 = .ok (.iushr, 1) := by decide +kernel
theorem dX0_answerAt_25 : decode cX0_answerAt 25 = .ok (.iconst 1, 1) := by decide +kernel
theorem dX0_answerAt_26 : decode cX0_answerAt 26 = .ok (.iand, 1) := by decide +kernel
theorem dX0_answerAt_27 : decode cX0_answerAt 27 = .ok (.goto 4, 3) := by decide +kernel
theorem dX0_answerAt_30 : decode cX0_answerAt 30 = .ok (.iconst 0, 1) := by decide +kernel
theorem dX0_answerAt_31 : decode cX0_answerAt 31 = .ok (.ireturn, 1) := by decide +kernel
theorem dX0_isLike_0 : decode cX0_isLike 0 = .ok (.aload_n 0, 1) := by decide +kernel
theorem dX0_isLike_1 : decode cX0_isLike 1 = .ok (.getfield 21, 3) := by decide +kernel
theorem dX0_isLike_4 : decode cX0_isLike 4 = .ok (.aload_n 1, 1) := by decide +kernel
theorem dX0_isLike_5 : decode cX0_isLike 5 = .ok (.getfield 21, 3) := by decide +kernel
theorem dX0_isLike_8 : decode cX0_isLike 8 = .ok (.if_icmp .eq 5, 3) := by decide +kernel
theorem dX0_isLike_11 : decode cX0_isLike 11 = .ok (.iconst 0, 1) := by decide +kernel
theorem dX0_isLike_12 : decode cX0_isLike 12 = .ok (.ireturn, 1) := by decide +kernel
theorem dX0_isLike_13 : decode cX0_isLike 13 = .ok (.iconst 0, 1) := by decide +kernel
theorem dX0_isLike_14 : decode cX0_isLike 14 = .ok (.istore_n 2, 1) := by decide +kernel
theorem dX0_isLike_15 : decode cX0_isLike 15 = .ok (.iload_n 2, 1) := by decide +kernel
theorem dX0_isLike_16 : decode cX0_isLike 16 = .ok (.bipush 32, 2) := by decide +kernel
theorem dX0_isLike_18 : decode cX0_isLike 18 = .ok (.if_icmp .ge 26, 3) := by decide +kernel
theorem dX0_isLike_21 : decode cX0_isLike 21 = .ok (.aload_n 0, 1) := by decide +kernel
theorem dX0_isLike_22 : decode cX0_isLike 22 = .ok (.getfield 11, 3) := by decide +kernel
theorem dX0_isLike_25 : decode cX0_isLike 25 = .ok (.iload_n 2, 1) := by decide +kernel
theorem dX0_isLike_26 : decode cX0_isLike 26 = .ok (.iaload, 1) := by decide +kernel
theorem dX0_isLike_27 : decode cX0_isLike 27 = .ok (.aload_n 1, 1) := by decide +kernel
theorem dX0_isLike_28 : decode cX0_isLike 28 = .ok (.getfield 11, 3) := by decide +kernel
theorem dX0_isLike_31 : decode cX0_isLike 31 = .ok (.iload_n 2, 1) := by decide +kernel
theorem dX0_isLike_32 : decode cX0_isLike 32 = .ok (.iaload, 1) := by decide +kernel
theorem dX0_isLike_33 : decode cX0_isLike 33 = .ok (.if_icmp .eq 5, 3) := by decide +kernel
theorem dX0_isLike_36 : decode cX0_isLike 36 = .ok (.iconst 0, 1) := by decide +kernel
theorem dX0_isLike_37 : decode cX0_isLike 37 = .ok (.ireturn, 1) := by decide +kernel
theorem dX0_isLike_38 : decode cX0_isLike 38 = .ok (.iinc 2 1, 3) := by decide +kernel
theorem dX0_isLike_41 : decode cX0_isLike 41 = .ok (.goto (-26), 3) := by decide +kernel
theorem dX0_isLike_44 : decode cX0_isLike 44 = .ok (.iconst 1, 1) := by decide +kernel
theorem dX0_isLike_45 : decode cX0_isLike 45 = .ok (.ireturn, 1) := by decide +kernel
theorem dX1_init_0 : decode cX1_init 0 = .ok (.aload_n 0, 1) := by decide +kernel
theorem dX1_init_1 : decode cX1_init 1 = .ok (.invokespecial 3, 3) := by decide +kernel
theorem dX1_init_4 : decode cX1_init 4 = .ok (.aload_n 0, 1) := by decide +kernel
theorem dX1_init_5 : decode cX1_init 5 = .ok (.new 9, 3) := by decide +kernel
theorem dX1_init_8 : decode cX1_init 8 = .ok (.dup, 1) := by decide +kernel
theorem dX1_init_9 : decode cX1_init 9 = .ok (.invokespecial 11, 3) := by decide +kernel
theorem dX1_init_12 : decode cX1_init 12 = .ok (.putfield 12, 3) := by decide +kernel
theorem dX1_init_15 : decode cX1_init 15 = .ok (.aload_n 0, 1) := by decide +kernel
theorem dX1_init_16 : decode cX1_init 16 = .ok (.new 9, 3) := by decide +kernel
theorem dX1_init_19 : decode cX1_init 19 = .ok (.dup, 1) := by decide +kernel
theorem dX1_init_20 : decode cX1_init 20 = .ok (.invokespecial 11, 3) := by decide +kernel
theorem dX1_init_23 : decode cX1_init 23 = .ok (.putfield 18, 3) := by decide +kernel
theorem dX1_init_26 : decode cX1_init 26 = .ok (.aload_n 0, 1) := by decide +kernel
theorem dX1_init_27 : decode cX1_init 27 = .ok (.new 9, 3) := by decide +kernel
theorem dX1_init_30 : decode cX1_init 30 = .ok (.dup, 1) := by decide +kernel
theorem dX1_init_31 : decode cX1_init 31 = .ok (.invokespecial 11, 3) := by decide +kernel
theorem dX1_init_34 : decode cX1_init 34 = .ok (.putfield 21, 3) := by decide +kernel
theorem dX1_init_37 : decode cX1_init 37 = .ok (.aload_n 0, 1) := by decide +kernel
theorem dX1_init_38 : decode cX1_init 38 = .ok (.new 9, 3) := by decide +kernel
theorem dX1_init_41 : decode cX1_init 41 = .ok (.dup, 1) := by decide +kernel
theorem dX1_init_42 : decode cX1_init 42 = .ok (.invokespecial 11, 3) := by decide +kernel
theorem dX1_init_45 : decode cX1_init 45 = .ok (.putfield 24, 3) := by decide +kernel
theorem dX1_init_48 : decode cX1_init 48 = .ok (.aload_n 0, 1) := by decide +kernel
theorem dX1_init_49 : decode cX1_init 49 = .ok (.new 27, 3) := by decide +kernel
theorem dX1_init_52 : decode cX1_init 52 = .ok (.dup, 1) := by decide +kernel
theorem dX1_init_53 : decode cX1_init 53 = .ok (.invokespecial 29, 3) := by decide +kernel
theorem dX1_init_56 : decode cX1_init 56 = .ok (.putfield 30, 3) := by decide +kernel
theorem dX1_init_59 : decode cX1_init 59 = .ok (.aload_n 0, 1) := by decide +kernel
theorem dX1_init_60 : decode cX1_init 60 = .ok (.new 34, 3) := by decide +kernel
theorem dX1_init_63 : decode cX1_init 63 = .ok (.dup, 1) := by decide +kernel
theorem dX1_init_64 : decode cX1_init 64 = .ok (.invokespecial 36, 3) := by decide +kernel
theorem dX1_init_67 : decode cX1_init 67 = .ok (.putfield 37, 3) := by decide +kernel
theorem dX1_init_70 : decode cX1_init 70 = .ok (.aload_n 0, 1) := by decide +kernel
theorem dX1_init_71 : decode cX1_init 71 = .ok (.iconst 4, 1) := by decide +kernel
theorem dX1_init_72 : decode cX1_init 72 = .ok (.newarray .int, 2) := by decide +kernel
theorem dX1_init_74 : decode cX1_init 74 = .ok (.putfield 41, 3) := by decide +kernel
theorem dX1_init_77 : decode cX1_init 77 = .ok (.return_, 1) := by decide +kernel
theorem dX1_execute_0 : decode cX1_execute 0 = .ok (.aload_n 0, 1) := by decide +kernel
theorem dX1_execute_1 : decode cX1_execute 1 = .ok (.aload_n 1, 1) := by decide +kernel
theorem dX1_execute_2 : decode cX1_execute 2 = .ok (.putfield 45, 3) := by decide +kernel
theorem dX1_execute_5 : decode cX1_execute 5 = .ok (.aload_n 0, 1) := by decide +kernel
theorem dX1_execute_6 : decode cX1_execute 6 = .ok (.aload_n 2, 1) := by decide +kernel
theorem dX1_execute_7 : decode cX1_execute 7 = .ok (.invokevirtual 49, 3) := by decide +kernel
theorem dX1_execute_10 : decode cX1_execute 10 = .ok (.iconst 0, 1) := by decide +kernel
theorem dX1_execute_11 : decode cX1_execute 11 = .ok (.istore_n 3, 1) := by decide +kernel
theorem dX1_execute_12 : decode cX1_execute 12 = .ok (.iload_n 3, 1) := by decide +kernel
theorem dX1_execute_13 : decode cX1_execute 13 = .ok (.sipush 3000, 3) := by decide +kernel
theorem dX1_execute_16 : decode cX1_execute 16 = .ok (.if_icmp .gt 86, 3) := by decide +kernel
theorem dX1_execute_19 : decode cX1_execute 19 = .ok (.aload_n 0, 1) := by decide +kernel
theorem dX1_execute_20 : decode cX1_execute 20 = .ok (.getfield 53, 3) := by decide +kernel
theorem dX1_execute_23 : decode cX1_execute 23 = .ok (.aload_n 0, 1) := by decide +kernel
theorem dX1_execute_24 : decode cX1_execute 24 = .ok (.getfield 45, 3) := by decide +kernel
theorem dX1_execute_27 : decode cX1_execute 27 = .ok (.getfield 57, 3) := by decide +kernel
theorem dX1_execute_30 : decode cX1_execute 30 = .ok (.if_icmp .ge 72, 3) := by decide +kernel
theorem dX1_execute_33 : decode cX1_execute 33 = .ok (.aload_n 0, 1) := by decide +kernel
theorem dX1_execute_34 : decode cX1_execute 34 = .ok (.aload_n 0, 1) := by decide +kernel
theorem dX1_execute_35 : decode cX1_execute 35 = .ok (.aload_n 0, 1) := by decide +kernel
theorem dX1_execute_36 : decode cX1_execute 36 = .ok (.getfield 45, 3) := by decide +kernel
theorem dX1_execute_39 : decode cX1_execute 39 = .ok (.aload_n 0, 1) := by decide +kernel
theorem dX1_execute_40 : decode cX1_execute 40 = .ok (.getfield 53, 3) := by decide +kernel
theorem dX1_execute_43 : decode cX1_execute 43 = .ok (.invokevirtual 62, 3) := by decide +kernel
theorem dX1_execute_46 : decode cX1_execute 46 = .ok (.invokevirtual 66, 3) := by decide +kernel
theorem dX1_execute_49 : decode cX1_execute 49 = .ok (.putfield 69, 3) := by decide +kernel
theorem dX1_execute_52 : decode cX1_execute 52 = .ok (.aload_n 0, 1) := by decide +kernel
theorem dX1_execute_53 : decode cX1_execute 53 = .ok (.getfield 69, 3) := by decide +kernel
theorem dX1_execute_56 : decode cX1_execute 56 = .ok (.ifCond .eq 4, 3) := by decide +kernel
theorem dX1_execute_59 : decode cX1_execute 59 = .ok (.return_, 1) := by decide +kernel
theorem dX1_execute_60 : decode cX1_execute 60 = .ok (.aload_n 0, 1) := by decide +kernel
theorem dX1_execute_61 : decode cX1_execute 61 = .ok (.aload_n 0, 1) := by decide +kernel
theorem dX1_execute_62 : decode cX1_execute 62 = .ok (.getfield 45, 3) := by decide +kernel
theorem dX1_execute_65 : decode cX1_execute 65 = .ok (.aload_n 0, 1) := by decide +kernel
theorem dX1_execute_66 : decode cX1_execute 66 = .ok (.getfield 53, 3) := by decide +kernel
theorem dX1_execute_69 : decode cX1_execute 69 = .ok (.invokevirtual 62, 3) := by decide +kernel
theorem dX1_execute_72 : decode cX1_execute 72 = .ok (.aload_n 0, 1) := by decide +kernel
theorem dX1_execute_73 : decode cX1_execute 73 = .ok (.getfield 45, 3) := by decide +kernel
theorem dX1_execute_76 : decode cX1_execute 76 = .ok (.aload_n 0, 1) := by decide +kernel
theorem dX1_execute_77 : decode cX1_execute 77 = .ok (.getfield 53, 3) := by decide +kernel
theorem dX1_execute_80 : decode cX1_execute 80 = .ok (.invokevirtual 72, 3) := by decide +kernel
theorem dX1_execute_83 : decode cX1_execute 83 = .ok (.invokevirtual 75, 3) := by decide +kernel
theorem dX1_execute_86 : decode cX1_execute 86 = .ok (.aload_n 0, 1) := by decide +kernel
theorem dX1_execute_87 : decode cX1_execute 87 = .ok (.dup, 1) := by decide +kernel
theorem dX1_execute_88 : decode cX1_execute 88 = .ok (.getfield 79, 3) := by decide +kernel
theorem dX1_execute_91 : decode cX1_execute 91 = .ok (.iconst 1, 1) := by decide +kernel
theorem dX1_execute_92 : decode cX1_execute 92 = .ok (.iadd, 1) := by decide +kernel
theorem dX1_execute_93 : decode cX1_execute 93 = .ok (.putfield 79, 3) := by decide +kernel
theorem dX1_execute_96 : decode cX1_execute 96 = .ok (.iinc 3 1, 3) := by decide +kernel
theorem dX1_execute_99 : decode cX1_execute 99 = .ok (.goto (-87), 3) := by decide +kernel
theorem dX1_execute_102 : decode cX1_execute 102 = .ok (.return_, 1) := by decide +kernel
theorem dX1_clear_0 : decode cX1_clear 0 = .ok (.aload_n 0, 1) := by decide +kernel
theorem dX1_clear_1 : decode cX1_clear 1 = .ok (.getfield 12, 3) := by decide +kernel
theorem dX1_clear_4 : decode cX1_clear 4 = .ok (.aload_n 0, 1) := by decide +kernel
theorem dX1_clear_5 : decode cX1_clear 5 = .ok (.getfield 45, 3) := by decide +kernel
theorem dX1_clear_8 : decode cX1_clear 8 = .ok (.getfield 82, 3) := by decide +kernel
theorem dX1_clear_11 : decode cX1_clear 11 = .ok (.invokevirtual 84, 3) := by decide +kernel
theorem dX1_clear_14 : decode cX1_clear 14 = .ok (.iconst 0, 1) := by decide +kernel
theorem dX1_clear_15 : decode cX1_clear 15 = .ok (.istore_n 2, 1) := by decide +kernel
theorem dX1_clear_16 : decode cX1_clear 16 = .ok (.iload_n 2, 1) := by decide +kernel
theorem dX1_clear_17 : decode cX1_clear 17 = .ok (.aload_n 0, 1) := by decide +kernel
theorem dX1_clear_18 : decode cX1_clear 18 = .ok (.getfield 45, 3) := by decide +kernel
theorem dX1_clear_21 : decode cX1_clear 21 = .ok (.getfield 87, 3) := by decide +kernel
theorem dX1_clear_24 : decode cX1_clear 24 = .ok (.if_icmp .ge 31, 3) := by decide +kernel
theorem dX1_clear_27 : decode cX1_clear 27 = .ok (.iload_n 2, 1) := by decide +kernel
theorem dX1_clear_28 : decode cX1_clear 28 = .ok (.aload_n 1, 1) := by decide +kernel
theorem dX1_clear_29 : decode cX1_clear 29 = .ok (.arraylength, 1) := by decide +kernel
theorem dX1_clear_30 : decode cX1_clear 30 = .ok (.if_icmp .ge 25, 3) := by decide +kernel
theorem dX1_clear_33 : decode cX1_clear 33 = .ok (.aload_n 0, 1) := by decide +kernel
theorem dX1_clear_34 : decode cX1_clear 34 = .ok (.getfield 12, 3) := by decide +kernel
theorem dX1_clear_37 : decode cX1_clear 37 = .ok (.iload_n 2, 1) := by decide +kernel
theorem dX1_clear_38 : decode cX1_clear 38 = .ok (.aload_n 1, 1) := by decide +kernel
theorem dX1_clear_39 : decode cX1_clear 39 = .ok (.iload_n 2, 1) := by decide +kernel
theorem dX1_clear_40 : decode cX1_clear 40 = .ok (.iaload, 1) := by decide +kernel
theorem dX1_clear_41 : decode cX1_clear 41 = .ok (.sipush 1000, 3) := by decide +kernel
theorem dX1_clear_44 : decode cX1_clear 44 = .ok (.iload_n 2, 1) := by decide +kernel
theorem dX1_clear_45 : decode cX1_clear 45 = .ok (.iadd, 1) := by decide +kernel
theorem dX1_clear_46 : decode cX1_clear 46 = .ok (.invokevirtual 90, 3) := by decide +kernel
theorem dX1_clear_49 : decode cX1_clear 49 = .ok (.iinc 2 1, 3) := by decide +kernel
theorem dX1_clear_52 : decode cX1_clear 52 = .ok (.goto (-36), 3) := by decide +kernel
theorem dX1_clear_55 : decode cX1_clear 55 = .ok (.aload_n 0, 1) := by decide +kernel
theorem dX1_clear_56 : decode cX1_clear 56 = .ok (.getfield 18, 3) := by decide +kernel
theorem dX1_clear_59 : decode cX1_clear 59 = .ok (.aload_n 0, 1) := by decide +kernel
theorem dX1_clear_60 : decode cX1_clear 60 = .ok (.getfield 45, 3) := by decide +kernel
theorem dX1_clear_63 : decode cX1_clear 63 = .ok (.getfield 94, 3) := by decide +kernel
theorem dX1_clear_66 : decode cX1_clear 66 = .ok (.invokevirtual 84, 3) := by decide +kernel
theorem dX1_clear_69 : decode cX1_clear 69 = .ok (.aload_n 0, 1) := by decide +kernel
theorem dX1_clear_70 : decode cX1_clear 70 = .ok (.getfield 21, 3) := by decide +kernel
theorem dX1_clear_73 : decode cX1_clear 73 = .ok (.iconst 0, 1) := by decide +kernel
theorem dX1_clear_74 : decode cX1_clear 74 = .ok (.invokevirtual 84, 3) := by decide +kernel
theorem dX1_clear_77 : decode cX1_clear 77 = .ok (.aload_n 0, 1) := by decide +kernel
theorem dX1_clear_78 : decode cX1_clear 78 = .ok (.getfield 24, 3) := by decide +kernel
theorem dX1_clear_81 : decode cX1_clear 81 = .ok (.iconst 0, 1) := by decide +kernel
theorem dX1_clear_82 : decode cX1_clear 82 = .ok (.invokevirtual 84, 3) := by decide +kernel
theorem dX1_clear_85 : decode cX1_clear 85 = .ok (.aload_n 0, 1) := by decide +kernel
theorem dX1_clear_86 : decode cX1_clear 86 = .ok (.getfield 30, 3) := by decide +kernel
theorem dX1_clear_89 : decode cX1_clear 89 = .ok (.iconst 0, 1) := by decide +kernel
theorem dX1_clear_90 : decode cX1_clear 90 = .ok (.putfield 96, 3) := by decide +kernel
theorem dX1_clear_93 : decode cX1_clear 93 = .ok (.aload_n 0, 1) := by decide +kernel
theorem dX1_clear_94 : decode cX1_clear 94 = .ok (.getfield 37, 3) := by decide +kernel
theorem dX1_clear_97 : decode cX1_clear 97 = .ok (.invokevirtual 97, 3) := by decide +kernel
theorem dX1_clear_100 : decode cX1_clear 100 = .ok (.aload_n 0, 1) := by decide +kernel
theorem dX1_clear_101 : decode cX1_clear 101 = .ok (.iconst 0, 1) := by decide +kernel
theorem dX1_clear_102 : decode cX1_clear 102 = .ok (.putfield 99, 3) := by decide +kernel
theorem dX1_clear_105 : decode cX1_clear 105 = .ok (.aload_n 0, 1) := by decide +kernel
theorem dX1_clear_106 : decode cX1_clear 106 = .ok (.iconst 0, 1) := by decide +kernel
theorem dX1_clear_107 : decode cX1_clear 107 = .ok (.putfield 53, 3) := by decide +kernel
theorem dX1_clear_110 : decode cX1_clear 110 = .ok (.aload_n 0, 1) := by decide +kernel
theorem dX1_clear_111 : decode cX1_clear 111 = .ok (.iconst 0, 1) := by decide +kernel
theorem dX1_clear_112 : decode cX1_clear 112 = .ok (.putfield 79, 3) := by decide +kernel
theorem dX1_clear_115 : decode cX1_clear 115 = .ok (.aload_n 0, 1) := by decide +kernel
theorem dX1_clear_116 : decode cX1_clear 116 = .ok (.iconst 0, 1) := by decide +kernel
theorem dX1_clear_117 : decode cX1_clear 117 = .ok (.putfield 69, 3) := by decide +kernel
theorem dX1_clear_120 : decode cX1_clear 120 = .ok (.return_, 1) := by decide +kernel
theorem dX1_reasonToStop_0 : decode cX1_reasonToStop 0 = .ok (.aload_n 0, 1) := by decide +kernel
theorem dX1_reasonToStop_1 : decode cX1_reasonToStop 1 = .ok (.getfield 79, 3) := by decide +kernel
theorem dX1_reasonToStop_4 : decode cX1_reasonToStop 4 = .ok (.sipush 3000, 3) := by decide +kernel
theorem dX1_reasonToStop_7 : decode cX1_reasonToStop 7 = .ok (.if_icmp .lt 5, 3) := by decide +kernel
theorem dX1_reasonToStop_10 : decode cX1_reasonToStop 10 = .ok (.iconst 3, 1) := by decide +kernel
theorem dX1_reasonToStop_11 : decode cX1_reasonToStop 11 = .ok (.ireturn, 1) := by decide +kernel
theorem dX1_reasonToStop_12 : decode cX1_reasonToStop 12 = .ok (.iload_n 1, 1) := by decide +kernel
theorem dX1_reasonToStop_13 : decode cX1_reasonToStop 13 = .ok (.bipush 6, 2) := by decide +kernel
theorem dX1_reasonToStop_15 : decode cX1_reasonToStop 15 = .ok (.if_icmp .ne 24, 3) := by decide +kernel
theorem dX1_reasonToStop_18 : decode cX1_reasonToStop 18 = .ok (.aload_n 0, 1) := by decide +kernel
theorem dX1_reasonToStop_19 : decode cX1_reasonToStop 19 = .ok (.getfield 21, 3) := by decide +kernel
theorem dX1_reasonToStop_22 : decode cX1_reasonToStop 22 = .ok (.aload_n 0, 1) := by decide +kernel
theorem dX1_reasonToStop_23 : decode cX1_reasonToStop 23 = .ok (.getfield 21, 3) := by decide +kernel
theorem dX1_reasonToStop_26 : decode cX1_reasonToStop 26 = .ok (.getfield 102, 3) := by decide +kernel
theorem dX1_reasonToStop_29 : decode cX1_reasonToStop 29 = .ok (.iconst 1, 1) := by decide +kernel
theorem dX1_reasonToStop_30 : decode cX1_reasonToStop 30 = .ok (.isub, 1) := by decide +kernel
theorem dX1_reasonToStop_31 : decode cX1_reasonToStop 31 = .ok (.invokevirtual 105, 3) := by decide +kernel
theorem dX1_reasonToStop_34 : decode cX1_reasonToStop 34 = .ok (.ifCond .ne 5, 3) := by decide +kernel
theorem dX1_reasonToStop_37 : decode cX1_reasonToStop 37 = .ok (.iconst 1, 1) := by decide +kernel
theorem dX1_reasonToStop_38 : decode cX1_reasonToStop 38 = .ok (.ireturn, 1) := by decide +kernel
theorem dX1_reasonToStop_39 : decode cX1_reasonToStop 39 = .ok (.iload_n 1, 1) := by decide +kernel
theorem dX1_reasonToStop_40 : decode cX1_reasonToStop 40 = .ok (.iconst 2, 1) := by decide +kernel
theorem dX1_reasonToStop_41 : decode cX1_reasonToStop 41 = .ok (.if_icmp .ne 20, 3) := by decide +kernel
theorem dX1_reasonToStop_44 : decode cX1_reasonToStop 44 = .ok (.aload_n 0, 1) := by decide +kernel
theorem dX1_reasonToStop_45 : decode cX1_reasonToStop 45 = .ok (.aload_n 0, 1) := by decide +kernel
theorem dX1_reasonToStop_46 : decode cX1_reasonToStop 46 = .ok (.getfield 21, 3) := by decide +kernel
theorem dX1_reasonToStop_49 : decode cX1_reasonToStop 49 = .ok (.getfield 102, 3) := by decide +kernel
theorem dX1_reasonToStop_52 : decode cX1_reasonToStop 52 = .ok (.iconst 1, 1) := by decide +kernel
theorem dX1_reasonToStop_53 : decode cX1_reasonToStop 53 = .ok (.isub, 1) := by decide +kernel
theorem dX1_reasonToStop_54 : decode cX1_reasonToStop 54 = .ok (.invokevirtual 108, 3) := by decide +kernel
theorem dX1_reasonToStop_57 : decode cX1_reasonToStop 57 = .ok (.iconst (-1), 1) := by decide +kernel
theorem dX1_reasonToStop_58 : decode cX1_reasonToStop 58 = .ok (.if_icmp .eq 26, 3) := by decide +kernel
theorem dX1_reasonToStop_61 : decode cX1_reasonToStop 61 = .ok (.iload_n 1, 1) := by decide +kernel
theorem dX1_reasonToStop_62 : decode cX1_reasonToStop 62 = .ok (.bipush 8, 2) := by decide +kernel
theorem dX1_reasonToStop_64 : decode cX1_reasonToStop 64 = .ok (.if_icmp .ne 22, 3) := by decide +kernel
theorem dX1_reasonToStop_67 : decode cX1_reasonToStop 67 = .ok (.aload_n 0, 1) := by decide +kernel
theorem dX1_reasonToStop_68 : decode cX1_reasonToStop 68 = .ok (.aload_n 0, 1) := by decide +kernel
theorem dX1_reasonToStop_69 : decode cX1_reasonToStop 69 = .ok (.getfield 21, 3) := by decide +kernel
theorem dX1_reasonToStop_72 : decode cX1_reasonToStop 72 = .ok (.getfield 102, 3) := by decide +kernel
theorem dX1_reasonToStop_75 : decode cX1_reasonToStop 75 = .ok (.iconst 2, 1) := by decide +kernel
theorem dX1_reasonToStop_76 : decode cX1_reasonToStop 76 = .ok (.isub, 1) := by decide +kernel
theorem dX1_reasonToStop_77 : decode cX1_reasonToStop 77 = .ok (.invokevirtual 108, 3) := by decide +kernel
theorem dX1_reasonToStop_80 : decode cX1_reasonToStop 80 = .ok (.iconst (-1), 1) := by decide +kernel
theorem dX1_reasonToStop_81 : decode cX1_reasonToStop 81 = .ok (.if_icmp .ne 5, 3) := by decide +kernel
theorem dX1_reasonToStop_84 : decode cX1_reasonToStop 84 = .ok (.iconst 2, 1) := by decide +kernel
theorem dX1_reasonToStop_85 : decode cX1_reasonToStop 85 = .ok (.ireturn, 1) := by decide +kernel
theorem dX1_reasonToStop_86 : decode cX1_reasonToStop 86 = .ok (.iload_n 1, 1) := by decide +kernel
theorem dX1_reasonToStop_87 : decode cX1_reasonToStop 87 = .ok (.iconst 3, 1) := by decide +kernel
theorem dX1_reasonToStop_88 : decode cX1_reasonToStop 88 = .ok (.if_icmp .lt 24, 3) := by decide +kernel
theorem dX1_reasonToStop_91 : decode cX1_reasonToStop 91 = .ok (.iload_n 1, 1) := by decide +kernel
theorem dX1_reasonToStop_92 : decode cX1_reasonToStop 92 = .ok (.bipush 6, 2) := by decide +kernel
theorem dX1_reasonToStop_94 : decode cX1_reasonToStop 94 = .ok (.if_icmp .gt 18, 3) := by decide +kernel
theorem dX1_reasonToStop_97 : decode cX1_reasonToStop 97 = .ok (.aload_n 0, 1) := by decide +kernel
theorem dX1_reasonToStop_98 : decode cX1_reasonToStop 98 = .ok (.getfield 30, 3) := by decide +kernel
theorem dX1_reasonToStop_101 : decode cX1_reasonToStop 101 = .ok (.getfield 96, 3) := by decide +kernel
theorem dX1_reasonToStop_104 : decode cX1_reasonToStop 104 = .ok (.sipush 400, 3) := by decide +kernel
theorem dX1_reasonToStop_107 : decode cX1_reasonToStop 107 = .ok (.if_icmp .lt 5, 3) := by decide +kernel
theorem dX1_reasonToStop_110 : decode cX1_reasonToStop 110 = .ok (.iconst 4, 1) := by decide +kernel
theorem dX1_reasonToStop_111 : decode cX1_reasonToStop 111 = .ok (.ireturn, 1) := by decide +kernel
theorem dX1_reasonToStop_112 : decode cX1_reasonToStop 112 = .ok (.iload_n 1, 1) := by decide +kernel
theorem dX1_reasonToStop_113 : decode cX1_reasonToStop 113 = .ok (.bipush 9, 2) := by decide +kernel
theorem dX1_reasonToStop_115 : decode cX1_reasonToStop 115 = .ok (.if_icmp .ne 19, 3) := by decide +kernel
theorem dX1_reasonToStop_118 : decode cX1_reasonToStop 118 = .ok (.aload_n 0, 1) := by decide +kernel
theorem dX1_reasonToStop_119 : decode cX1_reasonToStop 119 = .ok (.getfield 24, 3) := by decide +kernel
theorem dX1_reasonToStop_122 : decode cX1_reasonToStop 122 = .ok (.getfield 102, 3) := by decide +kernel
theorem dX1_reasonToStop_125 : decode cX1_reasonToStop 125 = .ok (.bipush 20, 2) := by decide +kernel
theorem dX1_reasonToStop_127 : decode cX1_reasonToStop 127 = .ok (.if_icmp .lt 7, 3) := by decide +kernel
theorem dX1_reasonToStop_130 : decode cX1_reasonToStop 130 = .ok (.iconst 5, 1) := by decide +kernel
theorem dX1_reasonToStop_131 : decode cX1_reasonToStop 131 = .ok (.goto 4, 3) := by decide +kernel
theorem dX1_reasonToStop_134 : decode cX1_reasonToStop 134 = .ok (.iconst 0, 1) := by decide +kernel
theorem dX1_reasonToStop_135 : decode cX1_reasonToStop 135 = .ok (.ireturn, 1) := by decide +kernel
theorem dX1_cellAt_0 : decode cX1_cellAt 0 = .ok (.aload_n 0, 1) := by decide +kernel
theorem dX1_cellAt_1 : decode cX1_cellAt 1 = .ok (.getfield 45, 3) := by decide +kernel
theorem dX1_cellAt_4 : decode cX1_cellAt 4 = .ok (.aload_n 0, 1) := by decide +kernel
theorem dX1_cellAt_5 : decode cX1_cellAt 5 = .ok (.getfield 45, 3) := by decide +kernel
theorem dX1_cellAt_8 : decode cX1_cellAt 8 = .ok (.aload_n 0, 1) := by decide +kernel
theorem dX1_cellAt_9 : decode cX1_cellAt 9 = .ok (.getfield 53, 3) := by decide +kernel
theorem dX1_cellAt_12 : decode cX1_cellAt 12 = .ok (.invokevirtual 72, 3) := by decide +kernel
theorem dX1_cellAt_15 : decode cX1_cellAt 15 = .ok (.aload_n 0, 1) := by decide +kernel
theorem dX1_cellAt_16 : decode cX1_cellAt 16 = .ok (.getfield 21, 3) := by decide +kernel
theorem dX1_cellAt_19 : decode cX1_cellAt 19 = .ok (.iload_n 1, 1) := by decide +kernel
theorem dX1_cellAt_20 : decode cX1_cellAt 20 = .ok (.invokevirtual 105, 3) := by decide +kernel
theorem dX1_cellAt_23 : decode cX1_cellAt 23 = .ok (.invokevirtual 111, 3) := by decide +kernel
theorem dX1_cellAt_26 : decode cX1_cellAt 26 = .ok (.ireturn, 1) := by decide +kernel
theorem dX1_perform_0 : decode cX1_perform 0 = .ok (.aload_n 0, 1) := by decide +kernel
theorem dX1_perform_1 : decode cX1_perform 1 = .ok (.getfield 21, 3) := by decide +kernel
theorem dX1_perform_4 : decode cX1_perform 4 = .ok (.getfield 102, 3) := by decide +kernel
theorem dX1_perform_7 : decode cX1_perform 7 = .ok (.iconst 1, 1) := by decide +kernel
theorem dX1_perform_8 : decode cX1_perform 8 = .ok (.isub, 1) := by decide +kernel
theorem dX1_perform_9 : decode cX1_perform 9 = .ok (.istore_n 3, 1) := by decide +kernel
theorem dX1_perform_10 : decode cX1_perform 10 = .ok (.aload_n 0, 1) := by decide +kernel
theorem dX1_perform_11 : decode cX1_perform 11 = .ok (.getfield 53, 3) := by decide +kernel
theorem dX1_perform_14 : decode cX1_perform 14 = .ok (.iconst 1, 1) := by decide +kernel
theorem dX1_perform_15 : decode cX1_perform 15 = .ok (.iadd, 1) := by decide +kernel
theorem dX1_perform_16 : decode cX1_perform 16 = .ok (.istore 4, 2) := by decide +kernel
theorem dX1_perform_18 : decode cX1_perform 18 = .ok (.iload_n 1, 1) := by decide +kernel
theorem dX1_perform_19 : decode cX1_perform 19 = .ok (.tableswitch 288 0 14 #[73, 86, 112, 288, 288, 288, 288, 124, 159, 200, 234, 242, 263, 263, 282], 73) := by decide +kernel
theorem dX1_perform_92 : decode cX1_perform 92 = .ok (.aload_n 0, 1) := by decide +kernel
theorem dX1_perform_93 : decode cX1_perform 93 = .ok (.getfield 21, 3) := by decide +kernel
theorem dX1_perform_96 : decode cX1_perform 96 = .ok (.iload_n 2, 1) := by decide +kernel
theorem dX1_perform_97 : decode cX1_perform 97 = .ok (.bipush (-2), 2) := by decide +kernel
theorem dX1_perform_99 : decode cX1_perform 99 = .ok (.invokevirtual 115, 3) := by decide +kernel
theorem dX1_perform_102 : decode cX1_perform 102 = .ok (.goto 221, 3) := by decide +kernel
theorem dX1_perform_105 : decode cX1_perform 105 = .ok (.aload_n 0, 1) := by decide +kernel
theorem dX1_perform_106 : decode cX1_perform 106 = .ok (.getfield 21, 3) := by decide +kernel
theorem dX1_perform_109 : decode cX1_perform 109 = .ok (.aload_n 0, 1) := by decide +kernel
theorem dX1_perform_110 : decode cX1_perform 110 = .ok (.getfield 12, 3) := by decide +kernel
theorem dX1_perform_113 : decode cX1_perform 113 = .ok (.iload_n 2, 1) := by decide +kernel
theorem dX1_perform_114 : decode cX1_perform 114 = .ok (.invokevirtual 105, 3) := by decide +kernel
theorem dX1_perform_117 : decode cX1_perform 117 = .ok (.aload_n 0, 1) := by decide +kernel
theorem dX1_perform_118 : decode cX1_perform 118 = .ok (.getfield 12, 3) := by decide +kernel
theorem dX1_perform_121 : decode cX1_perform 121 = .ok (.iload_n 2, 1) := by decide +kernel
theorem dX1_perform_122 : decode cX1_perform 122 = .ok (.invokevirtual 118, 3) := by decide +kernel
theorem dX1_perform_125 : decode cX1_perform 125 = .ok (.invokevirtual 115, 3) := by decide +kernel
theorem dX1_perform_128 : decode cX1_perform 128 = .ok (.goto 195, 3) := by decide +kernel
theorem dX1_perform_131 : decode cX1_perform 131 = .ok (.aload_n 0, 1) := by decide +kernel
theorem dX1_perform_132 : decode cX1_perform 132 = .ok (.aload_n 0, 1) := by decide +kernel
theorem dX1_perform_133 : decode cX1_perform 133 = .ok (.iload_n 3, 1) := by decide +kernel
theorem dX1_perform_134 : decode cX1_perform 134 = .ok (.invokevirtual 108, 3) := by decide +kernel
theorem dX1_perform_137 : decode cX1_perform 137 = .ok (.invokevirtual 121, 3) := by decide +kernel
theorem dX1_perform_140 : decode cX1_perform 140 = .ok (.goto 183, 3) := by decide +kernel
theorem dX1_perform_143 : decode cX1_perform 143 = .ok (.aload_n 0, 1) := by decide +kernel
theorem dX1_perform_144 : decode cX1_perform 144 = .ok (.getfield 12, 3) := by decide +kernel
theorem dX1_perform_147 : decode cX1_perform 147 = .ok (.iload_n 2, 1) := by decide +kernel
theorem dX1_perform_148 : decode cX1_perform 148 = .ok (.aload_n 0, 1) := by decide +kernel
theorem dX1_perform_149 : decode cX1_perform 149 = .ok (.getfield 21, 3) := by decide +kernel
theorem dX1_perform_152 : decode cX1_perform 152 = .ok (.iload_n 3, 1) := by decide +kernel
theorem dX1_perform_153 : decode cX1_perform 153 = .ok (.invokevirtual 105, 3) := by decide +kernel
theorem dX1_perform_156 : decode cX1_perform 156 = .ok (.aload_n 0, 1) := by decide +kernel
theorem dX1_perform_157 : decode cX1_perform 157 = .ok (.getfield 21, 3) := by decide +kernel
theorem dX1_perform_160 : decode cX1_perform 160 = .ok (.iload_n 3, 1) := by decide +kernel
theorem dX1_perform_161 : decode cX1_perform 161 = .ok (.invokevirtual 118, 3) := by decide +kernel
theorem dX1_perform_164 : decode cX1_perform 164 = .ok (.invokevirtual 90, 3) := by decide +kernel
theorem dX1_perform_167 : decode cX1_perform 167 = .ok (.aload_n 0, 1) := by decide +kernel
theorem dX1_perform_168 : decode cX1_perform 168 = .ok (.getfield 21, 3) := by decide +kernel
theorem dX1_perform_171 : decode cX1_perform 171 = .ok (.iconst 1, 1) := by decide +kernel
theorem dX1_perform_172 : decode cX1_perform 172 = .ok (.invokevirtual 124, 3) := by decide +kernel
theorem dX1_perform_175 : decode cX1_perform 175 = .ok (.goto 148, 3) := by decide +kernel
theorem dX1_perform_178 : decode cX1_perform 178 = .ok (.aload_n 0, 1) := by decide +kernel
theorem dX1_perform_179 : decode cX1_perform 179 = .ok (.getfield 18, 3) := by decide +kernel
theorem dX1_perform_182 : decode cX1_perform 182 = .ok (.aload_n 0, 1) := by decide +kernel
theorem dX1_perform_183 : decode cX1_perform 183 = .ok (.iload_n 3, 1) := by decide +kernel
theorem dX1_perform_184 : decode cX1_perform 184 = .ok (.iconst 1, 1) := by decide +kernel
theorem dX1_perform_185 : decode cX1_perform 185 = .ok (.isub, 1) := by decide +kernel
theorem dX1_perform_186 : decode cX1_perform 186 = .ok (.invokevirtual 108, 3) := by decide +kernel
theorem dX1_perform_189 : decode cX1_perform 189 = .ok (.aload_n 0, 1) := by decide +kernel
theorem dX1_perform_190 : decode cX1_perform 190 = .ok (.getfield 21, 3) := by decide +kernel
theorem dX1_perform_193 : decode cX1_perform 193 = .ok (.iload_n 3, 1) := by decide +kernel
theorem dX1_perform_194 : decode cX1_perform 194 = .ok (.invokevirtual 105, 3) := by decide +kernel
theorem dX1_perform_197 : decode cX1_perform 197 = .ok (.aload_n 0, 1) := by decide +kernel
theorem dX1_perform_198 : decode cX1_perform 198 = .ok (.getfield 21, 3) := by decide +kernel
theorem dX1_perform_201 : decode cX1_perform 201 = .ok (.iload_n 3, 1) := by decide +kernel
theorem dX1_perform_202 : decode cX1_perform 202 = .ok (.invokevirtual 118, 3) := by decide +kernel
theorem dX1_perform_205 : decode cX1_perform 205 = .ok (.invokevirtual 90, 3) := by decide +kernel
theorem dX1_perform_208 : decode cX1_perform 208 = .ok (.aload_n 0, 1) := by decide +kernel
theorem dX1_perform_209 : decode cX1_perform 209 = .ok (.getfield 21, 3) := by decide +kernel
theorem dX1_perform_212 : decode cX1_perform 212 = .ok (.iconst 2, 1) := by decide +kernel
theorem dX1_perform_213 : decode cX1_perform 213 = .ok (.invokevirtual 124, 3) := by decide +kernel
theorem dX1_perform_216 : decode cX1_perform 216 = .ok (.goto 107, 3) := by decide +kernel
theorem dX1_perform_219 : decode cX1_perform 219 = .ok (.aload_n 0, 1) := by decide +kernel
theorem dX1_perform_220 : decode cX1_perform 220 = .ok (.getfield 24, 3) := by decide +kernel
theorem dX1_perform_223 : decode cX1_perform 223 = .ok (.aload_n 0, 1) := by decide +kernel
theorem dX1_perform_224 : decode cX1_perform 224 = .ok (.getfield 21, 3) := by decide +kernel
theorem dX1_perform_227 : decode cX1_perform 227 = .ok (.iload_n 3, 1) := by decide +kernel
theorem dX1_perform_228 : decode cX1_perform 228 = .ok (.invokevirtual 105, 3) := by decide +kernel
theorem dX1_perform_231 : decode cX1_perform 231 = .ok (.aload_n 0, 1) := by decide +kernel
theorem dX1_perform_232 : decode cX1_perform 232 = .ok (.getfield 21, 3) := by decide +kernel
theorem dX1_perform_235 : decode cX1_perform 235 = .ok (.iload_n 3, 1) := by decide +kernel
theorem dX1_perform_236 : decode cX1_perform 236 = .ok (.invokevirtual 118, 3) := by decide +kernel
theorem dX1_perform_239 : decode cX1_perform 239 = .ok (.invokevirtual 115, 3) := by decide +kernel
theorem dX1_perform_242 : decode cX1_perform 242 = .ok (.aload_n 0, 1) := by decide +kernel
theorem dX1_perform_243 : decode cX1_perform 243 = .ok (.getfield 21, 3) := by decide +kernel
theorem dX1_perform_246 : decode cX1_perform 246 = .ok (.iconst 1, 1) := by decide +kernel
theorem dX1_perform_247 : decode cX1_perform 247 = .ok (.invokevirtual 124, 3) := by decide +kernel
theorem dX1_perform_250 : decode cX1_perform 250 = .ok (.goto 73, 3) := by decide +kernel
theorem dX1_perform_253 : decode cX1_perform 253 = .ok (.aload_n 0, 1) := by decide +kernel
theorem dX1_perform_254 : decode cX1_perform 254 = .ok (.iload_n 2, 1) := by decide +kernel
theorem dX1_perform_255 : decode cX1_perform 255 = .ok (.invokevirtual 127, 3) := by decide +kernel
theorem dX1_perform_258 : decode cX1_perform 258 = .ok (.goto 65, 3) := by decide +kernel
theorem dX1_perform_261 : decode cX1_perform 261 = .ok (.aload_n 0, 1) := by decide +kernel
theorem dX1_perform_262 : decode cX1_perform 262 = .ok (.iload_n 2, 1) := by decide +kernel
theorem dX1_perform_263 : decode cX1_perform 263 = .ok (.iconst 1, 1) := by decide +kernel
theorem dX1_perform_264 : decode cX1_perform 264 = .ok (.isub, 1) := by decide +kernel
theorem dX1_perform_265 : decode cX1_perform 265 = .ok (.invokevirtual 130, 3) := by decide +kernel
theorem dX1_perform_268 : decode cX1_perform 268 = .ok (.ifCond .eq 7, 3) := by decide +kernel
theorem dX1_perform_271 : decode cX1_perform 271 = .ok (.iload_n 2, 1) := by decide +kernel
theorem dX1_perform_272 : decode cX1_perform 272 = .ok (.goto 5, 3) := by decide +kernel
theorem dX1_perform_275 : decode cX1_perform 275 = .ok (.iload 4, 2) := by decide +kernel
theorem dX1_perform_277 : decode cX1_perform 277 = .ok (.istore 4, 2) := by decide +kernel
theorem dX1_perform_279 : decode cX1_perform 279 = .ok (.goto 44, 3) := by decide +kernel
theorem dX1_perform_282 : decode cX1_perform 282 = .ok (.aload_n 0, 1) := by decide +kernel
theorem dX1_perform_283 : decode cX1_perform 283 = .ok (.iload_n 1, 1) := by decide +kernel
theorem dX1_perform_284 : decode cX1_perform 284 = .ok (.invokevirtual 134, 3) := by decide +kernel
theorem dX1_perform_287 : decode cX1_perform 287 = .ok (.ifCond .eq 8, 3) := by decide +kernel
theorem dX1_perform_290 : decode cX1_perform 290 = .ok (.iload 4, 2) := by decide +kernel
theorem dX1_perform_292 : decode cX1_perform 292 = .ok (.goto 4, 3) := by decide +kernel
theorem dX1_perform_295 : decode cX1_perform 295 = .ok (.iload_n 2, 1) := by decide +kernel
theorem dX1_perform_296 : decode cX1_perform 296 = .ok (.istore 4, 2) := by decide +kernel
theorem dX1_perform_298 : decode cX1_perform 298 = .ok (.goto 25, 3) := by decide +kernel
theorem dX1_perform_301 : decode cX1_perform 301 = .ok (.iload_n 2, 1) := by decide +kernel
theorem dX1_perform_302 : decode cX1_perform 302 = .ok (.istore 4, 2) := by decide +kernel
theorem dX1_perform_304 : decode cX1_perform 304 = .ok (.goto 19, 3) := by decide +kernel
theorem dX1_perform_307 : decode cX1_perform 307 = .ok (.aload_n 0, 1) := by decide +kernel
theorem dX1_perform_308 : decode cX1_perform 308 = .ok (.getfield 30, 3) := by decide +kernel
theorem dX1_perform_311 : decode cX1_perform 311 = .ok (.iload_n 1, 1) := by decide +kernel
theorem dX1_perform_312 : decode cX1_perform 312 = .ok (.aload_n 0, 1) := by decide +kernel
theorem dX1_perform_313 : decode cX1_perform 313 = .ok (.getfield 53, 3) := by decide +kernel
theorem dX1_perform_316 : decode cX1_perform 316 = .ok (.aload_n 0, 1) := by decide +kernel
theorem dX1_perform_317 : decode cX1_perform 317 = .ok (.getfield 21, 3) := by decide +kernel
theorem dX1_perform_320 : decode cX1_perform 320 = .ok (.invokevirtual 137, 3) := by decide +kernel
theorem dX1_perform_323 : decode cX1_perform 323 = .ok (.aload_n 0, 1) := by decide +kernel
theorem dX1_perform_324 : decode cX1_perform 324 = .ok (.iload 4, 2) := by decide +kernel
theorem dX1_perform_326 : decode cX1_perform 326 = .ok (.putfield 53, 3) := by decide +kernel
theorem dX1_perform_329 : decode cX1_perform 329 = .ok (.return_, 1) := by decide +kernel
theorem dX1_fetch_0 : decode cX1_fetch 0 = .ok (.aload_n 0, 1) := by decide +kernel
theorem dX1_fetch_1 : decode cX1_fetch 1 = .ok (.getfield 21, 3) := by decide +kernel
theorem dX1_fetch_4 : decode cX1_fetch 4 = .ok (.iconst 1, 1) := by decide +kernel
theorem dX1_fetch_5 : decode cX1_fetch 5 = .ok (.invokevirtual 124, 3) := by decide +kernel
theorem dX1_fetch_8 : decode cX1_fetch 8 = .ok (.aload_n 0, 1) := by decide +kernel
theorem dX1_fetch_9 : decode cX1_fetch 9 = .ok (.getfield 21, 3) := by decide +kernel
theorem dX1_fetch_12 : decode cX1_fetch 12 = .ok (.aload_n 0, 1) := by decide +kernel
theorem dX1_fetch_13 : decode cX1_fetch 13 = .ok (.getfield 18, 3) := by decide +kernel
theorem dX1_fetch_16 : decode cX1_fetch 16 = .ok (.iload_n 1, 1) := by decide +kernel
theorem dX1_fetch_17 : decode cX1_fetch 17 = .ok (.invokevirtual 105, 3) := by decide +kernel
theorem dX1_fetch_20 : decode cX1_fetch 20 = .ok (.aload_n 0, 1) := by decide +kernel
theorem dX1_fetch_21 : decode cX1_fetch 21 = .ok (.getfield 18, 3) := by decide +kernel
theorem dX1_fetch_24 : decode cX1_fetch 24 = .ok (.iload_n 1, 1) := by decide +kernel
theorem dX1_fetch_25 : decode cX1_fetch 25 = .ok (.invokevirtual 118, 3) := by decide +kernel
theorem dX1_fetch_28 : decode cX1_fetch 28 = .ok (.invokevirtual 115, 3) := by decide +kernel
theorem dX1_fetch_31 : decode cX1_fetch 31 = .ok (.return_, 1) := by decide +kernel
theorem dX1_beginLoop_0 : decode cX1_beginLoop 0 = .ok (.aload_n 0, 1) := by decide +kernel
theorem dX1_beginLoop_1 : decode cX1_beginLoop 1 = .ok (.getfield 12, 3) := by decide +kernel
theorem dX1_beginLoop_4 : decode cX1_beginLoop 4 = .ok (.iload_n 1, 1) := by decide +kernel
theorem dX1_beginLoop_5 : decode cX1_beginLoop 5 = .ok (.iconst 0, 1) := by decide +kernel
theorem dX1_beginLoop_6 : decode cX1_beginLoop 6 = .ok (.bipush (-2), 2) := by decide +kernel
theorem dX1_beginLoop_8 : decode cX1_beginLoop 8 = .ok (.invokevirtual 90, 3) := by decide +kernel
theorem dX1_beginLoop_11 : decode cX1_beginLoop 11 = .ok (.aload_n 0, 1) := by decide +kernel
theorem dX1_beginLoop_12 : decode cX1_beginLoop 12 = .ok (.getfield 99, 3) := by decide +kernel
theorem dX1_beginLoop_15 : decode cX1_beginLoop 15 = .ok (.ifCond .lt 31, 3) := by decide +kernel
theorem dX1_beginLoop_18 : decode cX1_beginLoop 18 = .ok (.aload_n 0, 1) := by decide +kernel
theorem dX1_beginLoop_19 : decode cX1_beginLoop 19 = .ok (.getfield 99, 3) := by decide +kernel
theorem dX1_beginLoop_22 : decode cX1_beginLoop 22 = .ok (.iconst 4, 1) := by decide +kernel
theorem dX1_beginLoop_23 : decode cX1_beginLoop 23 = .ok (.if_icmp .ge 23, 3) := by decide +kernel
theorem dX1_beginLoop_26 : decode cX1_beginLoop 26 = .ok (.aload_n 0, 1) := by decide +kernel
theorem dX1_beginLoop_27 : decode cX1_beginLoop 27 = .ok (.getfield 41, 3) := by decide +kernel
theorem dX1_beginLoop_30 : decode cX1_beginLoop 30 = .ok (.aload_n 0, 1) := by decide +kernel
theorem dX1_beginLoop_31 : decode cX1_beginLoop 31 = .ok (.getfield 99, 3) := by decide +kernel
theorem dX1_beginLoop_34 : decode cX1_beginLoop 34 = .ok (.iconst 0, 1) := by decide +kernel
theorem dX1_beginLoop_35 : decode cX1_beginLoop 35 = .ok (.iastore, 1) := by decide +kernel
theorem dX1_beginLoop_36 : decode cX1_beginLoop 36 = .ok (.aload_n 0, 1) := by decide +kernel
theorem dX1_beginLoop_37 : decode cX1_beginLoop 37 = .ok (.dup, 1) := by decide +kernel
theorem dX1_beginLoop_38 : decode cX1_beginLoop 38 = .ok (.getfield 99, 3) := by decide +kernel
theorem dX1_beginLoop_41 : decode cX1_beginLoop 41 = .ok (.iconst 1, 1) := by decide +kernel
theorem dX1_beginLoop_42 : decode cX1_beginLoop 42 = .ok (.iadd, 1) := by decide +kernel
theorem dX1_beginLoop_43 : decode cX1_beginLoop 43 = .ok (.putfield 99, 3) := by decide +kernel
theorem dX1_beginLoop_46 : decode cX1_beginLoop 46 = .ok (.return_, 1) := by decide +kernel
theorem dX1_goesRound_0 : decode cX1_goesRound 0 = .ok (.aload_n 0, 1) := by decide +kernel
theorem dX1_goesRound_1 : decode cX1_goesRound 1 = .ok (.getfield 99, 3) := by decide +kernel
theorem dX1_goesRound_4 : decode cX1_goesRound 4 = .ok (.iconst 1, 1) := by decide +kernel
theorem dX1_goesRound_5 : decode cX1_goesRound 5 = .ok (.isub, 1) := by decide +kernel
theorem dX1_goesRound_6 : decode cX1_goesRound 6 = .ok (.istore_n 2, 1) := by decide +kernel
theorem dX1_goesRound_7 : decode cX1_goesRound 7 = .ok (.iload_n 2, 1) := by decide +kernel
theorem dX1_goesRound_8 : decode cX1_goesRound 8 = .ok (.ifCond .lt 8, 3) := by decide +kernel
theorem dX1_goesRound_11 : decode cX1_goesRound 11 = .ok (.iload_n 2, 1) := by decide +kernel
theorem dX1_goesRound_12 : decode cX1_goesRound 12 = .ok (.iconst 4, 1) := by decide +kernel
theorem dX1_goesRound_13 : decode cX1_goesRound 13 = .ok (.if_icmp .lt 5, 3) := by decide +kernel
theorem dX1_goesRound_16 : decode cX1_goesRound 16 = .ok (.iconst 0, 1) := by decide +kernel
theorem dX1_goesRound_17 : decode cX1_goesRound 17 = .ok (.ireturn, 1) := by decide +kernel
theorem dX1_goesRound_18 : decode cX1_goesRound 18 = .ok (.aload_n 0, 1) := by decide +kernel
theorem dX1_goesRound_19 : decode cX1_goesRound 19 = .ok (.getfield 41, 3) := by decide +kernel
theorem dX1_goesRound_22 : decode cX1_goesRound 22 = .ok (.iload_n 2, 1) := by decide +kernel
theorem dX1_goesRound_23 : decode cX1_goesRound 23 = .ok (.dup2, 1) := by decide +kernel
theorem dX1_goesRound_24 : decode cX1_goesRound 24 = .ok (.iaload, 1) := by decide +kernel
theorem dX1_goesRound_25 : decode cX1_goesRound 25 = .ok (.iconst 1, 1) := by decide +kernel
theorem dX1_goesRound_26 : decode cX1_goesRound 26 = .ok (.iadd, 1) := by decide +kernel
theorem dX1_goesRound_27 : decode cX1_goesRound 27 = .ok (.iastore, 1) := by decide +kernel
theorem dX1_goesRound_28 : decode cX1_goesRound 28 = .ok (.aload_n 0, 1) := by decide +kernel
theorem dX1_goesRound_29 : decode cX1_goesRound 29 = .ok (.getfield 41, 3) := by decide +kernel
theorem dX1_goesRound_32 : decode cX1_goesRound 32 = .ok (.iload_n 2, 1) := by decide +kernel
theorem dX1_goesRound_33 : decode cX1_goesRound 33 = .ok (.iaload, 1) := by decide +kernel
theorem dX1_goesRound_34 : decode cX1_goesRound 34 = .ok (.aload_n 0, 1) := by decide +kernel
theorem dX1_goesRound_35 : decode cX1_goesRound 35 = .ok (.getfield 45, 3) := by decide +kernel
theorem dX1_goesRound_38 : decode cX1_goesRound 38 = .ok (.iload_n 1, 1) := by decide +kernel
theorem dX1_goesRound_39 : decode cX1_goesRound 39 = .ok (.invokevirtual 141, 3) := by decide +kernel
theorem dX1_goesRound_42 : decode cX1_goesRound 42 = .ok (.if_icmp .ne 10, 3) := by decide +kernel
theorem dX1_goesRound_45 : decode cX1_goesRound 45 = .ok (.aload_n 0, 1) := by decide +kernel
theorem dX1_goesRound_46 : decode cX1_goesRound 46 = .ok (.iload_n 2, 1) := by decide +kernel
theorem dX1_goesRound_47 : decode cX1_goesRound 47 = .ok (.putfield 99, 3) := by decide +kernel
theorem dX1_goesRound_50 : decode cX1_goesRound 50 = .ok (.iconst 0, 1) := by decide +kernel
theorem dX1_goesRound_51 : decode cX1_goesRound 51 = .ok (.ireturn, 1) := by decide +kernel
theorem dX1_goesRound_52 : decode cX1_goesRound 52 = .ok (.aload_n 0, 1) := by decide +kernel
theorem dX1_goesRound_53 : decode cX1_goesRound 53 = .ok (.getfield 12, 3) := by decide +kernel
theorem dX1_goesRound_56 : decode cX1_goesRound 56 = .ok (.aload_n 0, 1) := by decide +kernel
theorem dX1_goesRound_57 : decode cX1_goesRound 57 = .ok (.getfield 45, 3) := by decide +kernel
theorem dX1_goesRound_60 : decode cX1_goesRound 60 = .ok (.iload_n 1, 1) := by decide +kernel
theorem dX1_goesRound_61 : decode cX1_goesRound 61 = .ok (.invokevirtual 72, 3) := by decide +kernel
theorem dX1_goesRound_64 : decode cX1_goesRound 64 = .ok (.aload_n 0, 1) := by decide +kernel
theorem dX1_goesRound_65 : decode cX1_goesRound 65 = .ok (.getfield 41, 3) := by decide +kernel
theorem dX1_goesRound_68 : decode cX1_goesRound 68 = .ok (.iload_n 2, 1) := by decide +kernel
theorem dX1_goesRound_69 : decode cX1_goesRound 69 = .ok (.iaload, 1) := by decide +kernel
theorem dX1_goesRound_70 : decode cX1_goesRound 70 = .ok (.bipush (-2), 2) := by decide +kernel
theorem dX1_goesRound_72 : decode cX1_goesRound 72 = .ok (.invokevirtual 90, 3) := by decide +kernel
theorem dX1_goesRound_75 : decode cX1_goesRound 75 = .ok (.iconst 1, 1) := by decide +kernel
theorem dX1_goesRound_76 : decode cX1_goesRound 76 = .ok (.ireturn, 1) := by decide +kernel
theorem dX1_isSo_0 : decode cX1_isSo 0 = .ok (.aload_n 0, 1) := by decide +kernel
theorem dX1_isSo_1 : decode cX1_isSo 1 = .ok (.getfield 21, 3) := by decide +kernel
theorem dX1_isSo_4 : decode cX1_isSo 4 = .ok (.aload_n 0, 1) := by decide +kernel
theorem dX1_isSo_5 : decode cX1_isSo 5 = .ok (.getfield 21, 3) := by decide +kernel
theorem dX1_isSo_8 : decode cX1_isSo 8 = .ok (.getfield 102, 3) := by decide +kernel
theorem dX1_isSo_11 : decode cX1_isSo 11 = .ok (.iconst 2, 1) := by decide +kernel
theorem dX1_isSo_12 : decode cX1_isSo 12 = .ok (.isub, 1) := by decide +kernel
theorem dX1_isSo_13 : decode cX1_isSo 13 = .ok (.invokevirtual 105, 3) := by decide +kernel
theorem dX1_isSo_16 : decode cX1_isSo 16 = .ok (.istore_n 2, 1) := by decide +kernel
theorem dX1_isSo_17 : decode cX1_isSo 17 = .ok (.aload_n 0, 1) := by decide +kernel
theorem dX1_isSo_18 : decode cX1_isSo 18 = .ok (.getfield 21, 3) := by decide +kernel
theorem dX1_isSo_21 : decode cX1_isSo 21 = .ok (.aload_n 0, 1) := by decide +kernel
theorem dX1_isSo_22 : decode cX1_isSo 22 = .ok (.getfield 21, 3) := by decide +kernel
theorem dX1_isSo_25 : decode cX1_isSo 25 = .ok (.getfield 102, 3) := by decide +kernel
theorem dX1_isSo_28 : decode cX1_isSo 28 = .ok (.iconst 1, 1) := by decide +kernel
theorem dX1_isSo_29 : decode cX1_isSo 29 = .ok (.isub, 1) := by decide +kernel
theorem dX1_isSo_30 : decode cX1_isSo 30 = .ok (.invokevirtual 105, 3) := by decide +kernel
theorem dX1_isSo_33 : decode cX1_isSo 33 = .ok (.istore_n 3, 1) := by decide +kernel
theorem dX1_isSo_34 : decode cX1_isSo 34 = .ok (.aload_n 0, 1) := by decide +kernel
theorem dX1_isSo_35 : decode cX1_isSo 35 = .ok (.getfield 21, 3) := by decide +kernel
theorem dX1_isSo_38 : decode cX1_isSo 38 = .ok (.iconst 2, 1) := by decide +kernel
theorem dX1_isSo_39 : decode cX1_isSo 39 = .ok (.invokevirtual 124, 3) := by decide +kernel
theorem dX1_isSo_42 : decode cX1_isSo 42 = .ok (.iload_n 1, 1) := by decide +kernel
theorem dX1_isSo_43 : decode cX1_isSo 43 = .ok (.bipush 12, 2) := by decide +kernel
theorem dX1_isSo_45 : decode cX1_isSo 45 = .ok (.if_icmp .ne 22, 3) := by decide +kernel
theorem dX1_isSo_48 : decode cX1_isSo 48 = .ok (.iload_n 2, 1) := by decide +kernel
theorem dX1_isSo_49 : decode cX1_isSo 49 = .ok (.invokestatic 144, 3) := by decide +kernel
theorem dX1_isSo_52 : decode cX1_isSo 52 = .ok (.iload_n 3, 1) := by decide +kernel
theorem dX1_isSo_53 : decode cX1_isSo 53 = .ok (.invokestatic 144, 3) := by decide +kernel
theorem dX1_isSo_56 : decode cX1_isSo 56 = .ok (.if_icmp .ge 7, 3) := by decide +kernel
theorem dX1_isSo_59 : decode cX1_isSo 59 = .ok (.iconst 1, 1) := by decide +kernel
theorem dX1_isSo_60 : decode cX1_isSo 60 = .ok (.goto 17, 3) := by decide +kernel
theorem dX1_isSo_63 : decode cX1_isSo 63 = .ok (.iconst 0, 1) := by decide +kernel
theorem dX1_isSo_64 : decode cX1_isSo 64 = .ok (.goto 13, 3) := by decide +kernel
theorem dX1_isSo_67 : decode cX1_isSo 67 = .ok (.iload_n 2, 1) := by decide +kernel
theorem dX1_isSo_68 : decode cX1_isSo 68 = .ok (.iload_n 3, 1) := by decide +kernel
theorem dX1_isSo_69 : decode cX1_isSo 69 = .ok (.if_icmp .ne 7, 3) := by decide +kernel
theorem dX1_isSo_72 : decode cX1_isSo 72 = .ok (.iconst 1, 1) := by decide +kernel
theorem dX1_isSo_73 : decode cX1_isSo 73 = .ok (.goto 4, 3) := by decide +kernel
theorem dX1_isSo_76 : decode cX1_isSo 76 = .ok (.iconst 0, 1) := by decide +kernel
theorem dX1_isSo_77 : decode cX1_isSo 77 = .ok (.istore 4, 2) := by decide +kernel
theorem dX1_isSo_79 : decode cX1_isSo 79 = .ok (.aload_n 0, 1) := by decide +kernel
theorem dX1_isSo_80 : decode cX1_isSo 80 = .ok (.getfield 37, 3) := by decide +kernel
theorem dX1_isSo_83 : decode cX1_isSo 83 = .ok (.iload 4, 2) := by decide +kernel
theorem dX1_isSo_85 : decode cX1_isSo 85 = .ok (.invokevirtual 149, 3) := by decide +kernel
theorem dX1_isSo_88 : decode cX1_isSo 88 = .ok (.iload 4, 2) := by decide +kernel
theorem dX1_isSo_90 : decode cX1_isSo 90 = .ok (.ireturn, 1) := by decide +kernel
theorem dX2_init_0 : decode cX2_init 0 = .ok (.aload_n 0, 1) := by decide +kernel
theorem dX2_init_1 : decode cX2_init 1 = .ok (.invokespecial 3, 3) := by decide +kernel
theorem dX2_init_4 : decode cX2_init 4 = .ok (.aload_n 0, 1) := by decide +kernel
theorem dX2_init_5 : decode cX2_init 5 = .ok (.bipush 80, 2) := by decide +kernel
theorem dX2_init_7 : decode cX2_init 7 = .ok (.newarray .int, 2) := by decide +kernel
theorem dX2_init_9 : decode cX2_init 9 = .ok (.putfield 9, 3) := by decide +kernel
theorem dX2_init_12 : decode cX2_init 12 = .ok (.return_, 1) := by decide +kernel
theorem dX2_put_0 : decode cX2_put 0 = .ok (.iload_n 1, 1) := by decide +kernel
theorem dX2_put_1 : decode cX2_put 1 = .ok (.iconst 4, 1) := by decide +kernel
theorem dX2_put_2 : decode cX2_put 2 = .ok (.imul, 1) := by decide +kernel
theorem dX2_put_3 : decode cX2_put 3 = .ok (.iload_n 2, 1) := by decide +kernel
theorem dX2_put_4 : decode cX2_put 4 = .ok (.iadd, 1) := by decide +kernel
theorem dX2_put_5 : decode cX2_put 5 = .ok (.istore 4, 2) := by decide +kernel
theorem dX2_put_7 : decode cX2_put 7 = .ok (.iload 4, 2) := by decide +kernel
theorem dX2_put_9 : decode cX2_put 9 = .ok (.ifCond .lt 21, 3) := by decide +kernel
theorem dX2_put_12 : decode cX2_put 12 = .ok (.iload 4, 2) := by decide +kernel
theorem dX2_put_14 : decode cX2_put 14 = .ok (.aload_n 0, 1) := by decide +kernel
theorem dX2_put_15 : decode cX2_put 15 = .ok (.getfield 9, 3) := by decide +kernel
theorem dX2_put_18 : decode cX2_put 18 = .ok (.arraylength, 1) := by decide +kernel
theorem dX2_put_19 : decode cX2_put 19 = .ok (.if_icmp .ge 11, 3) := by decide +kernel
theorem dX2_put_22 : decode cX2_put 22 = .ok (.aload_n 0, 1) := by decide +kernel
theorem dX2_put_23 : decode cX2_put 23 = .ok (.getfield 9, 3) := by decide +kernel
theorem dX2_put_26 : decode cX2_put 26 = .ok (.iload 4, 2) := by decide +kernel
theorem dX2_put_28 : decode cX2_put 28 = .ok (.iload_n 3, 1) := by decide +kernel
theorem dX2_put_29 : decode cX2_put 29 = .ok (.iastore, 1) := by decide +kernel
theorem dX2_put_30 : decode cX2_put 30 = .ok (.return_, 1) := by decide +kernel
theorem dX2_get_0 : decode cX2_get 0 = .ok (.iload_n 1, 1) := by decide +kernel
theorem dX2_get_1 : decode cX2_get 1 = .ok (.iconst 4, 1) := by decide +kernel
theorem dX2_get_2 : decode cX2_get 2 = .ok (.imul, 1) := by decide +kernel
theorem dX2_get_3 : decode cX2_get 3 = .ok (.iload_n 2, 1) := by decide +kernel
theorem dX2_get_4 : decode cX2_get 4 = .ok (.iadd, 1) := by decide +kernel
theorem dX2_get_5 : decode cX2_get 5 = .ok (.istore_n 3, 1) := by decide +kernel
theorem dX2_get_6 : decode cX2_get 6 = .ok (.iload_n 3, 1) := by decide +kernel
theorem dX2_get_7 : decode cX2_get 7 = .ok (.ifCond .lt 21, 3) := by decide +kernel
theorem dX2_get_10 : decode cX2_get 10 = .ok (.iload_n 3, 1) := by decide +kernel
theorem dX2_get_11 : decode cX2_get 11 = .ok (.aload_n 0, 1) := by decide +kernel
theorem dX2_get_12 : decode cX2_get 12 = .ok (.getfield 9, 3) := by decide +kernel
theorem dX2_get_15 : decode cX2_get 15 = .ok (.arraylength, 1) := by decide +kernel
theorem dX2_get_16 : decode cX2_get 16 = .ok (.if_icmp .ge 12, 3) := by decide +kernel
theorem dX2_get_19 : decode cX2_get 19 = .ok (.aload_n 0, 1) := by decide +kernel
theorem dX2_get_20 : decode cX2_get 20 = .ok (.getfield 9, 3) := by decide +kernel
theorem dX2_get_23 : decode cX2_get 23 = .ok (.iload_n 3, 1) := by decide +kernel
theorem dX2_get_24 : decode cX2_get 24 = .ok (.iaload, 1) := by decide +kernel
theorem dX2_get_25 : decode cX2_get 25 = .ok (.goto 4, 3) := by decide +kernel
theorem dX2_get_28 : decode cX2_get 28 = .ok (.iconst 0, 1) := by decide +kernel
theorem dX2_get_29 : decode cX2_get 29 = .ok (.ireturn, 1) := by decide +kernel
theorem dX2_eliminate_0 : decode cX2_eliminate 0 = .ok (.aload_n 0, 1) := by decide +kernel
theorem dX2_eliminate_1 : decode cX2_eliminate 1 = .ok (.iconst 0, 1) := by decide +kernel
theorem dX2_eliminate_2 : decode cX2_eliminate 2 = .ok (.putfield 15, 3) := by decide +kernel
theorem dX2_eliminate_5 : decode cX2_eliminate 5 = .ok (.aload_n 0, 1) := by decide +kernel
theorem dX2_eliminate_6 : decode cX2_eliminate 6 = .ok (.iconst 1, 1) := by decide +kernel
theorem dX2_eliminate_7 : decode cX2_eliminate 7 = .ok (.putfield 19, 3) := by decide +kernel
theorem dX2_eliminate_10 : decode cX2_eliminate 10 = .ok (.iconst 0, 1) := by decide +kernel
theorem dX2_eliminate_11 : decode cX2_eliminate 11 = .ok (.istore_n 3, 1) := by decide +kernel
theorem dX2_eliminate_12 : decode cX2_eliminate 12 = .ok (.iload_n 3, 1) := by decide +kernel
theorem dX2_eliminate_13 : decode cX2_eliminate 13 = .ok (.iload_n 2, 1) := by decide +kernel
theorem dX2_eliminate_14 : decode cX2_eliminate 14 = .ok (.if_icmp .ge 103, 3) := by decide +kernel
theorem dX2_eliminate_17 : decode cX2_eliminate 17 = .ok (.aload_n 0, 1) := by decide +kernel
theorem dX2_eliminate_18 : decode cX2_eliminate 18 = .ok (.iload_n 3, 1) := by decide +kernel
theorem dX2_eliminate_19 : decode cX2_eliminate 19 = .ok (.aload_n 0, 1) := by decide +kernel
theorem dX2_eliminate_20 : decode cX2_eliminate 20 = .ok (.getfield 15, 3) := by decide +kernel
theorem dX2_eliminate_23 : decode cX2_eliminate 23 = .ok (.iload_n 1, 1) := by decide +kernel
theorem dX2_eliminate_24 : decode cX2_eliminate 24 = .ok (.invokevirtual 22, 3) := by decide +kernel
theorem dX2_eliminate_27 : decode cX2_eliminate 27 = .ok (.istore 4, 2) := by decide +kernel
theorem dX2_eliminate_29 : decode cX2_eliminate 29 = .ok (.iload 4, 2) := by decide +kernel
theorem dX2_eliminate_31 : decode cX2_eliminate 31 = .ok (.iconst (-1), 1) := by decide +kernel
theorem dX2_eliminate_32 : decode cX2_eliminate 32 = .ok (.if_icmp .ne 6, 3) := by decide +kernel
theorem dX2_eliminate_35 : decode cX2_eliminate 35 = .ok (.goto 76, 3) := by decide +kernel
theorem dX2_eliminate_38 : decode cX2_eliminate 38 = .ok (.iload 4, 2) := by decide +kernel
theorem dX2_eliminate_40 : decode cX2_eliminate 40 = .ok (.aload_n 0, 1) := by decide +kernel
theorem dX2_eliminate_41 : decode cX2_eliminate 41 = .ok (.getfield 15, 3) := by decide +kernel
theorem dX2_eliminate_44 : decode cX2_eliminate 44 = .ok (.if_icmp .eq 26, 3) := by decide +kernel
theorem dX2_eliminate_47 : decode cX2_eliminate 47 = .ok (.aload_n 0, 1) := by decide +kernel
theorem dX2_eliminate_48 : decode cX2_eliminate 48 = .ok (.iload 4, 2) := by decide +kernel
theorem dX2_eliminate_50 : decode cX2_eliminate 50 = .ok (.aload_n 0, 1) := by decide +kernel
theorem dX2_eliminate_51 : decode cX2_eliminate 51 = .ok (.getfield 15, 3) := by decide +kernel
theorem dX2_eliminate_54 : decode cX2_eliminate 54 = .ok (.iload_n 2, 1) := by decide +kernel
theorem dX2_eliminate_55 : decode cX2_eliminate 55 = .ok (.invokevirtual 26, 3) := by decide +kernel
theorem dX2_eliminate_58 : decode cX2_eliminate 58 = .ok (.aload_n 0, 1) := by decide +kernel
theorem dX2_eliminate_59 : decode cX2_eliminate 59 = .ok (.iconst 0, 1) := by decide +kernel
theorem dX2_eliminate_60 : decode cX2_eliminate 60 = .ok (.aload_n 0, 1) := by decide +kernel
theorem dX2_eliminate_61 : decode cX2_eliminate 61 = .ok (.getfield 19, 3) := by decide +kernel
theorem dX2_eliminate_64 : decode cX2_eliminate 64 = .ok (.invokestatic 30, 3) := by decide +kernel
theorem dX2_eliminate_67 : decode cX2_eliminate 67 = .ok (.putfield 19, 3) := by decide +kernel
theorem dX2_eliminate_70 : decode cX2_eliminate 70 = .ok (.aload_n 0, 1) := by decide +kernel
theorem dX2_eliminate_71 : decode cX2_eliminate 71 = .ok (.aload_n 0, 1) := by decide +kernel
theorem dX2_eliminate_72 : decode cX2_eliminate 72 = .ok (.getfield 19, 3) := by decide +kernel
theorem dX2_eliminate_75 : decode cX2_eliminate 75 = .ok (.aload_n 0, 1) := by decide +kernel
theorem dX2_eliminate_76 : decode cX2_eliminate 76 = .ok (.aload_n 0, 1) := by decide +kernel
theorem dX2_eliminate_77 : decode cX2_eliminate 77 = .ok (.getfield 15, 3) := by decide +kernel
theorem dX2_eliminate_80 : decode cX2_eliminate 80 = .ok (.iload_n 3, 1) := by decide +kernel
theorem dX2_eliminate_81 : decode cX2_eliminate 81 = .ok (.invokevirtual 36, 3) := by decide +kernel
theorem dX2_eliminate_84 : decode cX2_eliminate 84 = .ok (.invokestatic 39, 3) := by decide +kernel
theorem dX2_eliminate_87 : decode cX2_eliminate 87 = .ok (.putfield 19, 3) := by decide +kernel
theorem dX2_eliminate_90 : decode cX2_eliminate 90 = .ok (.aload_n 0, 1) := by decide +kernel
theorem dX2_eliminate_91 : decode cX2_eliminate 91 = .ok (.aload_n 0, 1) := by decide +kernel
theorem dX2_eliminate_92 : decode cX2_eliminate 92 = .ok (.getfield 15, 3) := by decide +kernel
theorem dX2_eliminate_95 : decode cX2_eliminate 95 = .ok (.iload_n 3, 1) := by decide +kernel
theorem dX2_eliminate_96 : decode cX2_eliminate 96 = .ok (.iload_n 1, 1) := by decide +kernel
theorem dX2_eliminate_97 : decode cX2_eliminate 97 = .ok (.iload_n 2, 1) := by decide +kernel
theorem dX2_eliminate_98 : decode cX2_eliminate 98 = .ok (.invokevirtual 42, 3) := by decide +kernel
theorem dX2_eliminate_101 : decode cX2_eliminate 101 = .ok (.aload_n 0, 1) := by decide +kernel
theorem dX2_eliminate_102 : decode cX2_eliminate 102 = .ok (.dup, 1) := by decide +kernel
theorem dX2_eliminate_103 : decode cX2_eliminate 103 = .ok (.getfield 15, 3) := by decide +kernel
theorem dX2_eliminate_106 : decode cX2_eliminate 106 = .ok (.iconst 1, 1) := by decide +kernel
theorem dX2_eliminate_107 : decode cX2_eliminate 107 = .ok (.iadd, 1) := by decide +kernel
theorem dX2_eliminate_108 : decode cX2_eliminate 108 = .ok (.putfield 15, 3) := by decide +kernel
theorem dX2_eliminate_111 : decode cX2_eliminate 111 = .ok (.iinc 3 1, 3) := by decide +kernel
theorem dX2_eliminate_114 : decode cX2_eliminate 114 = .ok (.goto (-102), 3) := by decide +kernel
theorem dX2_eliminate_117 : decode cX2_eliminate 117 = .ok (.return_, 1) := by decide +kernel
theorem dX2_firstWith_0 : decode cX2_firstWith 0 = .ok (.iload_n 2, 1) := by decide +kernel
theorem dX2_firstWith_1 : decode cX2_firstWith 1 = .ok (.istore 4, 2) := by decide +kernel
theorem dX2_firstWith_3 : decode cX2_firstWith 3 = .ok (.iload 4, 2) := by decide +kernel
theorem dX2_firstWith_5 : decode cX2_firstWith 5 = .ok (.iload_n 3, 1) := by decide +kernel
theorem dX2_firstWith_6 : decode cX2_firstWith 6 = .ok (.if_icmp .ge 22, 3) := by decide +kernel
theorem dX2_firstWith_9 : decode cX2_firstWith 9 = .ok (.aload_n 0, 1) := by decide +kernel
theorem dX2_firstWith_10 : decode cX2_firstWith 10 = .ok (.iload 4, 2) := by decide +kernel
theorem dX2_firstWith_12 : decode cX2_firstWith 12 = .ok (.iload_n 1, 1) := by decide +kernel
theorem dX2_firstWith_13 : decode cX2_firstWith 13 = .ok (.invokevirtual 36, 3) := by decide +kernel
theorem dX2_firstWith_16 : decode cX2_firstWith 16 = .ok (.ifCond .eq 6, 3) := by decide +kernel
theorem dX2_firstWith_19 : decode cX2_firstWith 19 = .ok (.iload 4, 2) := by decide +kernel
theorem dX2_firstWith_21 : decode cX2_firstWith 21 = .ok (.ireturn, 1) := by decide +kernel
theorem dX2_firstWith_22 : decode cX2_firstWith 22 = .ok (.iinc 4 1, 3) := by decide +kernel
theorem dX2_firstWith_25 : decode cX2_firstWith 25 = .ok (.goto (-22), 3) := by decide +kernel
theorem dX2_firstWith_28 : decode cX2_firstWith 28 = .ok (.iconst (-1), 1) := by decide +kernel
theorem dX2_firstWith_29 : decode cX2_firstWith 29 = .ok (.ireturn, 1) := by decide +kernel
theorem dX2_swapRows_0 : decode cX2_swapRows 0 = .ok (.iconst 0, 1) := by decide +kernel
theorem dX2_swapRows_1 : decode cX2_swapRows 1 = .ok (.istore 4, 2) := by decide +kernel
theorem dX2_swapRows_3 : decode cX2_swapRows 3 = .ok (.iload 4, 2) := by decide +kernel
theorem dX2_swapRows_5 : decode cX2_swapRows 5 = .ok (.iload_n 3, 1) := by decide +kernel
theorem dX2_swapRows_6 : decode cX2_swapRows 6 = .ok (.if_icmp .ge 41, 3) := by decide +kernel
theorem dX2_swapRows_9 : decode cX2_swapRows 9 = .ok (.aload_n 0, 1) := by decide +kernel
theorem dX2_swapRows_10 : decode cX2_swapRows 10 = .ok (.iload_n 1, 1) := by decide +kernel
theorem dX2_swapRows_11 : decode cX2_swapRows 11 = .ok (.iload 4, 2) := by decide +kernel
theorem dX2_swapRows_13 : decode cX2_swapRows 13 = .ok (.invokevirtual 36, 3) := by decide +kernel
theorem dX2_swapRows_16 : decode cX2_swapRows 16 = .ok (.istore 5, 2) := by decide +kernel
theorem dX2_swapRows_18 : decode cX2_swapRows 18 = .ok (.aload_n 0, 1) := by decide +kernel
theorem dX2_swapRows_19 : decode cX2_swapRows 19 = .ok (.iload_n 1, 1) := by decide +kernel
theorem dX2_swapRows_20 : decode cX2_swapRows 20 = .ok (.iload 4, 2) := by decide +kernel
theorem dX2_swapRows_22 : decode cX2_swapRows 22 = .ok (.aload_n 0, 1) := by decide +kernel
theorem dX2_swapRows_23 : decode cX2_swapRows 23 = .ok (.iload_n 2, 1) := by decide +kernel
theorem dX2_swapRows_24 : decode cX2_swapRows 24 = .ok (.iload 4, 2) := by decide +kernel
theorem dX2_swapRows_26 : decode cX2_swapRows 26 = .ok (.invokevirtual 36, 3) := by decide +kernel
theorem dX2_swapRows_29 : decode cX2_swapRows 29 = .ok (.invokevirtual 46, 3) := by decide +kernel
theorem dX2_swapRows_32 : decode cX2_swapRows 32 = .ok (.aload_n 0, 1) := by decide +kernel
theorem dX2_swapRows_33 : decode cX2_swapRows 33 = .ok (.iload_n 2, 1) := by decide +kernel
theorem dX2_swapRows_34 : decode cX2_swapRows 34 = .ok (.iload 4, 2) := by decide +kernel
theorem dX2_swapRows_36 : decode cX2_swapRows 36 = .ok (.iload 5, 2) := by decide +kernel
theorem dX2_swapRows_38 : decode cX2_swapRows 38 = .ok (.invokevirtual 46, 3) := by decide +kernel
theorem dX2_swapRows_41 : decode cX2_swapRows 41 = .ok (.iinc 4 1, 3) := by decide +kernel
theorem dX2_swapRows_44 : decode cX2_swapRows 44 = .ok (.goto (-41), 3) := by decide +kernel
theorem dX2_swapRows_47 : decode cX2_swapRows 47 = .ok (.return_, 1) := by decide +kernel
theorem dX2_clearBelow_0 : decode cX2_clearBelow 0 = .ok (.aload_n 0, 1) := by decide +kernel
theorem dX2_clearBelow_1 : decode cX2_clearBelow 1 = .ok (.iload_n 1, 1) := by decide +kernel
theorem dX2_clearBelow_2 : decode cX2_clearBelow 2 = .ok (.iload_n 2, 1) := by decide +kernel
theorem dX2_clearBelow_3 : decode cX2_clearBelow 3 = .ok (.invokevirtual 36, 3) := by decide +kernel
theorem dX2_clearBelow_6 : decode cX2_clearBelow 6 = .ok (.invokestatic 49, 3) := by decide +kernel
theorem dX2_clearBelow_9 : decode cX2_clearBelow 9 = .ok (.istore 5, 2) := by decide +kernel
theorem dX2_clearBelow_11 : decode cX2_clearBelow 11 = .ok (.iload_n 1, 1) := by decide +kernel
theorem dX2_clearBelow_12 : decode cX2_clearBelow 12 = .ok (.iconst 1, 1) := by decide +kernel
theorem dX2_clearBelow_13 : decode cX2_clearBelow 13 = .ok (.iadd, 1) := by decide +kernel
theorem dX2_clearBelow_14 : decode cX2_clearBelow 14 = .ok (.istore 6, 2) := by decide +kernel
theorem dX2_clearBelow_16 : decode cX2_clearBelow 16 = .ok (.iload 6, 2) := by decide +kernel
theorem dX2_clearBelow_18 : decode cX2_clearBelow 18 = .ok (.iload_n 3, 1) := by decide +kernel
theorem dX2_clearBelow_19 : decode cX2_clearBelow 19 = .ok (.if_icmp .ge 70, 3) := by decide +kernel
theorem dX2_clearBelow_22 : decode cX2_clearBelow 22 = .ok (.aload_n 0, 1) := by decide +kernel
theorem dX2_clearBelow_23 : decode cX2_clearBelow 23 = .ok (.iload 6, 2) := by decide +kernel
theorem dX2_clearBelow_25 : decode cX2_clearBelow 25 = .ok (.iload_n 2, 1) := by decide +kernel
theorem dX2_clearBelow_26 : decode cX2_clearBelow 26 = .ok (.invokevirtual 36, 3) := by decide +kernel
theorem dX2_clearBelow_29 : decode cX2_clearBelow 29 = .ok (.iload 5, 2) := by decide +kernel
theorem dX2_clearBelow_31 : decode cX2_clearBelow 31 = .ok (.invokestatic 39, 3) := by decide +kernel
theorem dX2_clearBelow_34 : decode cX2_clearBelow 34 = .ok (.istore 7, 2) := by decide +kernel
theorem dX2_clearBelow_36 : decode cX2_clearBelow 36 = .ok (.iload_n 2, 1) := by decide +kernel
theorem dX2_clearBelow_37 : decode cX2_clearBelow 37 = .ok (.istore 8, 2) := by decide +kernel
theorem dX2_clearBelow_39 : decode cX2_clearBelow 39 = .ok (.iload 8, 2) := by decide +kernel
theorem dX2_clearBelow_41 : decode cX2_clearBelow 41 = .ok (.iload 4, 2) := by decide +kernel
theorem dX2_clearBelow_43 : decode cX2_clearBelow 43 = .ok (.if_icmp .ge 40, 3) := by decide +kernel
theorem dX2_clearBelow_46 : decode cX2_clearBelow 46 = .ok (.aload_n 0, 1) := by decide +kernel
theorem dX2_clearBelow_47 : decode cX2_clearBelow 47 = .ok (.iload 6, 2) := by decide +kernel
theorem dX2_clearBelow_49 : decode cX2_clearBelow 49 = .ok (.iload 8, 2) := by decide +kernel
theorem dX2_clearBelow_51 : decode cX2_clearBelow 51 = .ok (.aload_n 0, 1) := by decide +kernel
theorem dX2_clearBelow_52 : decode cX2_clearBelow 52 = .ok (.iload 6, 2) := by decide +kernel
theorem dX2_clearBelow_54 : decode cX2_clearBelow 54 = .ok (.iload 8, 2) := by decide +kernel
theorem dX2_clearBelow_56 : decode cX2_clearBelow 56 = .ok (.invokevirtual 36, 3) := by decide +kernel
theorem dX2_clearBelow_59 : decode cX2_clearBelow 59 = .ok (.iload 7, 2) := by decide +kernel
theorem dX2_clearBelow_61 : decode cX2_clearBelow 61 = .ok (.aload_n 0, 1) := by decide +kernel
theorem dX2_clearBelow_62 : decode cX2_clearBelow 62 = .ok (.iload_n 1, 1) := by decide +kernel
theorem dX2_clearBelow_63 : decode cX2_clearBelow 63 = .ok (.iload 8, 2) := by decide +kernel
theorem dX2_clearBelow_65 : decode cX2_clearBelow 65 = .ok (.invokevirtual 36, 3) := by decide +kernel
theorem dX2_clearBelow_68 : decode cX2_clearBelow 68 = .ok (.invokestatic 39, 3) := by decide +kernel
theorem dX2_clearBelow_71 : decode cX2_clearBelow 71 = .ok (.invokestatic 30, 3) := by decide +kernel
theorem dX2_clearBelow_74 : decode cX2_clearBelow 74 = .ok (.invokevirtual 46, 3) := by decide +kernel
theorem dX2_clearBelow_77 : decode cX2_clearBelow 77 = .ok (.iinc 8 1, 3) := by decide +kernel
theorem dX2_clearBelow_80 : decode cX2_clearBelow 80 = .ok (.goto (-41), 3) := by decide +kernel
theorem dX2_clearBelow_83 : decode cX2_clearBelow 83 = .ok (.iinc 6 1, 3) := by decide +kernel
theorem dX2_clearBelow_86 : decode cX2_clearBelow 86 = .ok (.goto (-70), 3) := by decide +kernel
theorem dX2_clearBelow_89 : decode cX2_clearBelow 89 = .ok (.return_, 1) := by decide +kernel
theorem dX3_of_0 : decode cX3_of 0 = .ok (.iload_n 0, 1) := by decide +kernel
theorem dX3_of_1 : decode cX3_of 1 = .ok (.ldc 9, 2) := by decide +kernel
theorem dX3_of_3 : decode cX3_of 3 = .ok (.irem, 1) := by decide +kernel
theorem dX3_of_4 : decode cX3_of 4 = .ok (.istore_n 1, 1) := by decide +kernel
theorem dX3_of_5 : decode cX3_of 5 = .ok (.iload_n 1, 1) := by decide +kernel
theorem dX3_of_6 : decode cX3_of 6 = .ok (.ifCond .ge 10, 3) := by decide +kernel
theorem dX3_of_9 : decode cX3_of 9 = .ok (.iload_n 1, 1) := by decide +kernel
theorem dX3_of_10 : decode cX3_of 10 = .ok (.ldc 9, 2) := by decide +kernel
theorem dX3_of_12 : decode cX3_of 12 = .ok (.iadd, 1) := by decide +kernel
theorem dX3_of_13 : decode cX3_of 13 = .ok (.goto 4, 3) := by decide +kernel
theorem dX3_of_16 : decode cX3_of 16 = .ok (.iload_n 1, 1) := by decide +kernel
theorem dX3_of_17 : decode cX3_of 17 = .ok (.ireturn, 1) := by decide +kernel
theorem dX3_plus_0 : decode cX3_plus 0 = .ok (.iload_n 0, 1) := by decide +kernel
theorem dX3_plus_1 : decode cX3_plus 1 = .ok (.iload_n 1, 1) := by decide +kernel
theorem dX3_plus_2 : decode cX3_plus 2 = .ok (.iadd, 1) := by decide +kernel
theorem dX3_plus_3 : decode cX3_plus 3 = .ok (.istore_n 2, 1) := by decide +kernel
theorem dX3_plus_4 : decode cX3_plus 4 = .ok (.iload_n 2, 1) := by decide +kernel
theorem dX3_plus_5 : decode cX3_plus 5 = .ok (.ldc 9, 2) := by decide +kernel
theorem dX3_plus_7 : decode cX3_plus 7 = .ok (.if_icmp .lt 10, 3) := by decide +kernel
theorem dX3_plus_10 : decode cX3_plus 10 = .ok (.iload_n 2, 1) := by decide +kernel
theorem dX3_plus_11 : decode cX3_plus 11 = .ok (.ldc 9, 2) := by decide +kernel
theorem dX3_plus_13 : decode cX3_plus 13 = .ok (.isub, 1) := by decide +kernel
theorem dX3_plus_14 : decode cX3_plus 14 = .ok (.goto 4, 3) := by decide +kernel
theorem dX3_plus_17 : decode cX3_plus 17 = .ok (.iload_n 2, 1) := by decide +kernel
theorem dX3_plus_18 : decode cX3_plus 18 = .ok (.ireturn, 1) := by decide +kernel
theorem dX3_minus_0 : decode cX3_minus 0 = .ok (.iload_n 0, 1) := by decide +kernel
theorem dX3_minus_1 : decode cX3_minus 1 = .ok (.iload_n 1, 1) := by decide +kernel
theorem dX3_minus_2 : decode cX3_minus 2 = .ok (.isub, 1) := by decide +kernel
theorem dX3_minus_3 : decode cX3_minus 3 = .ok (.istore_n 2, 1) := by decide +kernel
theorem dX3_minus_4 : decode cX3_minus 4 = .ok (.iload_n 2, 1) := by decide +kernel
theorem dX3_minus_5 : decode cX3_minus 5 = .ok (.ifCond .ge 10, 3) := by decide +kernel
theorem dX3_minus_8 : decode cX3_minus 8 = .ok (.iload_n 2, 1) := by decide +kernel
theorem dX3_minus_9 : decode cX3_minus 9 = .ok (.ldc 9, 2) := by decide +kernel
theorem dX3_minus_11 : decode cX3_minus 11 = .ok (.iadd, 1) := by decide +kernel
theorem dX3_minus_12 : decode cX3_minus 12 = .ok (.goto 4, 3) := by decide +kernel
theorem dX3_minus_15 : decode cX3_minus 15 = .ok (.iload_n 2, 1) := by decide +kernel
theorem dX3_minus_16 : decode cX3_minus 16 = .ok (.ireturn, 1) := by decide +kernel
theorem dX3_times_0 : decode cX3_times 0 = .ok (.iload_n 0, 1) := by decide +kernel
theorem dX3_times_1 : decode cX3_times 1 = .ok (.i2l, 1) := by decide +kernel
theorem dX3_times_2 : decode cX3_times 2 = .ok (.iload_n 1, 1) := by decide +kernel
theorem dX3_times_3 : decode cX3_times 3 = .ok (.i2l, 1) := by decide +kernel
theorem dX3_times_4 : decode cX3_times 4 = .ok (.lmul, 1) := by decide +kernel
theorem dX3_times_5 : decode cX3_times 5 = .ok (.ldc2_w 10, 3) := by decide +kernel
theorem dX3_times_8 : decode cX3_times 8 = .ok (.lrem, 1) := by decide +kernel
theorem dX3_times_9 : decode cX3_times 9 = .ok (.l2i, 1) := by decide +kernel
theorem dX3_times_10 : decode cX3_times 10 = .ok (.ireturn, 1) := by decide +kernel
theorem dX3_inverse_0 : decode cX3_inverse 0 = .ok (.iload_n 0, 1) := by decide +kernel
theorem dX3_inverse_1 : decode cX3_inverse 1 = .ok (.i2l, 1) := by decide +kernel
theorem dX3_inverse_2 : decode cX3_inverse 2 = .ok (.lstore_n 1, 1) := by decide +kernel
theorem dX3_inverse_3 : decode cX3_inverse 3 = .ok (.lconst 1, 1) := by decide +kernel
theorem dX3_inverse_4 : decode cX3_inverse 4 = .ok (.lstore_n 3, 1) := by decide +kernel
theorem dX3_inverse_5 : decode cX3_inverse 5 = .ok (.ldc 12, 2) := by decide +kernel
theorem dX3_inverse_7 : decode cX3_inverse 7 = .ok (.istore 5, 2) := by decide +kernel
theorem dX3_inverse_9 : decode cX3_inverse 9 = .ok (.iload 5, 2) := by decide +kernel
theorem dX3_inverse_11 : decode cX3_inverse 11 = .ok (.ifCond .le 35, 3) := by decide +kernel
theorem dX3_inverse_14 : decode cX3_inverse 14 = .ok (.iload 5, 2) := by decide +kernel
theorem dX3_inverse_16 : decode cX3_inverse 16 = .ok (.iconst 1, 1) := by decide +kernel
theorem dX3_inverse_17 : decode cX3_inverse 17 = .ok (.iand, 1) := by decide +kernel
theorem dX3_inverse_18 : decode cX3_inverse 18 = .ok (.ifCond .eq 11, 3) := by decide +kernel
theorem dX3_inverse_21 : decode cX3_inverse 21 = .ok (.lload_n 3, 1) := by decide +kernel
theorem dX3_inverse_22 : decode cX3_inverse 22 = .ok (.lload_n 1, 1) := by decide +kernel
theorem dX3_inverse_23 : decode cX3_inverse 23 = .ok (.lmul, 1) := by decide +kernel
theorem dX3_inverse_24 : decode cX3_inverse 24 = .ok (.ldc2_w 10, 3) := by decide +kernel
theorem dX3_inverse_27 : decode cX3_inverse 27 = .ok (.lrem, 1) := by decide +kernel
theorem dX3_inverse_28 : decode cX3_inverse 28 = .ok (.lstore_n 3, 1) := by decide +kernel
theorem dX3_inverse_29 : decode cX3_inverse 29 = .ok (.lload_n 1, 1) := by decide +kernel
theorem dX3_inverse_30 : decode cX3_inverse 30 = .ok (.lload_n 1, 1) := by decide +kernel
theorem dX3_inverse_31 : decode cX3_inverse 31 = .ok (.lmul, 1) := by decide +kernel
theorem dX3_inverse_32 : decode cX3_inverse 32 = .ok (.ldc2_w 10, 3) := by decide +kernel
theorem dX3_inverse_35 : decode cX3_inverse 35 = .ok (.lrem, 1) := by decide +kernel
theorem dX3_inverse_36 : decode cX3_inverse 36 = .ok (.lstore_n 1, 1) := by decide +kernel
theorem dX3_inverse_37 : decode cX3_inverse 37 = .ok (.iload 5, 2) := by decide +kernel
theorem dX3_inverse_39 : decode cX3_inverse 39 = .ok (.iconst 1, 1) := by decide +kernel
theorem dX3_inverse_40 : decode cX3_inverse 40 = .ok (.ishr, 1) := by decide +kernel
theorem dX3_inverse_41 : decode cX3_inverse 41 = .ok (.istore 5, 2) := by decide +kernel
theorem dX3_inverse_43 : decode cX3_inverse 43 = .ok (.goto (-34), 3) := by decide +kernel
theorem dX3_inverse_46 : decode cX3_inverse 46 = .ok (.lload_n 3, 1) := by decide +kernel
theorem dX3_inverse_47 : decode cX3_inverse 47 = .ok (.l2i, 1) := by decide +kernel
theorem dX3_inverse_48 : decode cX3_inverse 48 = .ok (.ireturn, 1) := by decide +kernel
theorem dX3_signed_0 : decode cX3_signed 0 = .ok (.iload_n 0, 1) := by decide +kernel
theorem dX3_signed_1 : decode cX3_signed 1 = .ok (.ldc 13, 2) := by decide +kernel
theorem dX3_signed_3 : decode cX3_signed 3 = .ok (.if_icmp .le 10, 3) := by decide +kernel
theorem dX3_signed_6 : decode cX3_signed 6 = .ok (.iload_n 0, 1) := by decide +kernel
theorem dX3_signed_7 : decode cX3_signed 7 = .ok (.ldc 9, 2) := by decide +kernel
theorem dX3_signed_9 : decode cX3_signed 9 = .ok (.isub, 1) := by decide +kernel
theorem dX3_signed_10 : decode cX3_signed 10 = .ok (.goto 4, 3) := by decide +kernel
theorem dX3_signed_13 : decode cX3_signed 13 = .ok (.iload_n 0, 1) := by decide +kernel
theorem dX3_signed_14 : decode cX3_signed 14 = .ok (.ireturn, 1) := by decide +kernel
theorem dX4_init_0 : decode cX4_init 0 = .ok (.aload_n 0, 1) := by decide +kernel
theorem dX4_init_1 : decode cX4_init 1 = .ok (.invokespecial 3, 3) := by decide +kernel
theorem dX4_init_4 : decode cX4_init 4 = .ok (.aload_n 0, 1) := by decide +kernel
theorem dX4_init_5 : decode cX4_init 5 = .ok (.bipush 8, 2) := by decide +kernel
theorem dX4_init_7 : decode cX4_init 7 = .ok (.newarray .int, 2) := by decide +kernel
theorem dX4_init_9 : decode cX4_init 9 = .ok (.putfield 9, 3) := by decide +kernel
theorem dX4_init_12 : decode cX4_init 12 = .ok (.aload_n 0, 1) := by decide +kernel
theorem dX4_init_13 : decode cX4_init 13 = .ok (.bipush 6, 2) := by decide +kernel
theorem dX4_init_15 : decode cX4_init 15 = .ok (.newarray .int, 2) := by decide +kernel
theorem dX4_init_17 : decode cX4_init 17 = .ok (.putfield 15, 3) := by decide +kernel
theorem dX4_init_20 : decode cX4_init 20 = .ok (.aload_n 0, 1) := by decide +kernel
theorem dX4_init_21 : decode cX4_init 21 = .ok (.iconst 4, 1) := by decide +kernel
theorem dX4_init_22 : decode cX4_init 22 = .ok (.newarray .int, 2) := by decide +kernel
theorem dX4_init_24 : decode cX4_init 24 = .ok (.putfield 18, 3) := by decide +kernel
theorem dX4_init_27 : decode cX4_init 27 = .ok (.aload_n 0, 1) := by decide +kernel
theorem dX4_init_28 : decode cX4_init 28 = .ok (.iconst 4, 1) := by decide +kernel
theorem dX4_init_29 : decode cX4_init 29 = .ok (.newarray .int, 2) := by decide +kernel
theorem dX4_init_31 : decode cX4_init 31 = .ok (.putfield 21, 3) := by decide +kernel
theorem dX4_init_34 : decode cX4_init 34 = .ok (.aload_n 0, 1) := by decide +kernel
theorem dX4_init_35 : decode cX4_init 35 = .ok (.new 24, 3) := by decide +kernel
theorem dX4_init_38 : decode cX4_init 38 = .ok (.dup, 1) := by decide +kernel
theorem dX4_init_39 : decode cX4_init 39 = .ok (.aload_n 1, 1) := by decide +kernel
theorem dX4_init_40 : decode cX4_init 40 = .ok (.invokespecial 26, 3) := by decide +kernel
theorem dX4_init_43 : decode cX4_init 43 = .ok (.putfield 29, 3) := by decide +kernel
theorem dX4_init_46 : decode cX4_init 46 = .ok (.return_, 1) := by decide +kernel
theorem dX4_compile_0 : decode cX4_compile 0 = .ok (.aload_n 0, 1) := by decide +kernel
theorem dX4_compile_1 : decode cX4_compile 1 = .ok (.aload_n 2, 1) := by decide +kernel
theorem dX4_compile_2 : decode cX4_compile 2 = .ok (.putfield 33, 3) := by decide +kernel
theorem dX4_compile_5 : decode cX4_compile 5 = .ok (.aload_n 0, 1) := by decide +kernel
theorem dX4_compile_6 : decode cX4_compile 6 = .ok (.getfield 33, 3) := by decide +kernel
theorem dX4_compile_9 : decode cX4_compile 9 = .ok (.invokevirtual 37, 3) := by decide +kernel
theorem dX4_compile_12 : decode cX4_compile 12 = .ok (.aload_n 0, 1) := by decide +kernel
theorem dX4_compile_13 : decode cX4_compile 13 = .ok (.iconst 0, 1) := by decide +kernel
theorem dX4_compile_14 : decode cX4_compile 14 = .ok (.putfield 42, 3) := by decide +kernel
theorem dX4_compile_17 : decode cX4_compile 17 = .ok (.aload_n 0, 1) := by decide +kernel
theorem dX4_compile_18 : decode cX4_compile 18 = .ok (.iconst 0, 1) := by decide +kernel
theorem dX4_compile_19 : decode cX4_compile 19 = .ok (.putfield 46, 3) := by decide +kernel
theorem dX4_compile_22 : decode cX4_compile 22 = .ok (.aload_n 0, 1) := by decide +kernel
theorem dX4_compile_23 : decode cX4_compile 23 = .ok (.iconst 0, 1) := by decide +kernel
theorem dX4_compile_24 : decode cX4_compile 24 = .ok (.putfield 50, 3) := by decide +kernel
theorem dX4_compile_27 : decode cX4_compile 27 = .ok (.aload_n 0, 1) := by decide +kernel
theorem dX4_compile_28 : decode cX4_compile 28 = .ok (.iconst (-1), 1) := by decide +kernel
theorem dX4_compile_29 : decode cX4_compile 29 = .ok (.putfield 53, 3) := by decide +kernel
theorem dX4_compile_32 : decode cX4_compile 32 = .ok (.aload_n 0, 1) := by decide +kernel
theorem dX4_compile_33 : decode cX4_compile 33 = .ok (.getfield 29, 3) := by decide +kernel
theorem dX4_compile_36 : decode cX4_compile 36 = .ok (.iload_n 1, 1) := by decide +kernel
theorem dX4_compile_37 : decode cX4_compile 37 = .ok (.invokevirtual 56, 3) := by decide +kernel
theorem dX4_compile_40 : decode cX4_compile 40 = .ok (.iconst 0, 1) := by decide +kernel
theorem dX4_compile_41 : decode cX4_compile 41 = .ok (.istore_n 3, 1) := by decide +kernel
theorem dX4_compile_42 : decode cX4_compile 42 = .ok (.iload_n 3, 1) := by decide +kernel
theorem dX4_compile_43 : decode cX4_compile 43 = .ok (.sipush 900, 3) := by decide +kernel
theorem dX4_compile_46 : decode cX4_compile 46 = .ok (.if_icmp .ge 66, 3) := by decide +kernel
theorem dX4_compile_49 : decode cX4_compile 49 = .ok (.aload_n 0, 1) := by decide +kernel
theorem dX4_compile_50 : decode cX4_compile 50 = .ok (.getfield 29, 3) := by decide +kernel
theorem dX4_compile_53 : decode cX4_compile 53 = .ok (.getfield 60, 3) := by decide +kernel
theorem dX4_compile_56 : decode cX4_compile 56 = .ok (.ifCond .eq 56, 3) := by decide +kernel
theorem dX4_compile_59 : decode cX4_compile 59 = .ok (.aload_n 0, 1) := by decide +kernel
theorem dX4_compile_60 : decode cX4_compile 60 = .ok (.invokevirtual 63, 3) := by decide +kernel
theorem dX4_compile_63 : decode cX4_compile 63 = .ok (.ifCond .ne 5, 3) := by decide +kernel
theorem dX4_compile_66 : decode cX4_compile 66 = .ok (.iconst 0, 1) := by decide +kernel
theorem dX4_compile_67 : decode cX4_compile 67 = .ok (.ireturn, 1) := by decide +kernel
theorem dX4_compile_68 : decode cX4_compile 68 = .ok (.aload_n 0, 1) := by decide +kernel
theorem dX4_compile_69 : decode cX4_compile 69 = .ok (.getfield 29, 3) := by decide +kernel
theorem dX4_compile_72 : decode cX4_compile 72 = .ok (.bipush 59, 2) := by decide +kernel
theorem dX4_compile_74 : decode cX4_compile 74 = .ok (.invokevirtual 67, 3) := by decide +kernel
theorem dX4_compile_77 : decode cX4_compile 77 = .ok (.ifCond .ne 9, 3) := by decide +kernel
theorem dX4_compile_80 : decode cX4_compile 80 = .ok (.aload_n 0, 1) := by decide +kernel
theorem dX4_compile_81 : decode cX4_compile 81 = .ok (.iconst 1, 1) := by decide +kernel
theorem dX4_compile_82 : decode cX4_compile 82 = .ok (.invokevirtual 71, 3) := by decide +kernel
theorem dX4_compile_85 : decode cX4_compile 85 = .ok (.ireturn, 1) := by decide +kernel
theorem dX4_compile_86 : decode cX4_compile 86 = .ok (.aload_n 0, 1) := by decide +kernel
theorem dX4_compile_87 : decode cX4_compile 87 = .ok (.getfield 29, 3) := by decide +kernel
theorem dX4_compile_90 : decode cX4_compile 90 = .ok (.invokevirtual 75, 3) := by decide +kernel
theorem dX4_compile_93 : decode cX4_compile 93 = .ok (.aload_n 0, 1) := by decide +kernel
theorem dX4_compile_94 : decode cX4_compile 94 = .ok (.getfield 33, 3) := by decide +kernel
theorem dX4_compile_97 : decode cX4_compile 97 = .ok (.dup, 1) := by decide +kernel
theorem dX4_compile_98 : decode cX4_compile 98 = .ok (.getfield 78, 3) := by decide +kernel
theorem dX4_compile_101 : decode cX4_compile 101 = .ok (.iconst 1, 1) := by decide +kernel
theorem dX4_compile_102 : decode cX4_compile 102 = .ok (.iadd, 1) := by decide +kernel
theorem dX4_compile_103 : decode cX4_compile 103 = .ok (.putfield 78, 3) := by decide +kernel
theorem dX4_compile_106 : decode cX4_compile 106 = .ok (.iinc 3 1, 3) := by decide +kernel
theorem dX4_compile_109 : decode cX4_compile 109 = .ok (.goto (-67), 3) := by decide +kernel
theorem dX4_compile_112 : decode cX4_compile 112 = .ok (.aload_n 0, 1) := by decide +kernel
theorem dX4_compile_113 : decode cX4_compile 113 = .ok (.getfield 42, 3) := by decide +kernel
theorem dX4_compile_116 : decode cX4_compile 116 = .ok (.ifCond .eq 11, 3) := by decide +kernel
theorem dX4_compile_119 : decode cX4_compile 119 = .ok (.aload_n 0, 1) := by decide +kernel
theorem dX4_compile_120 : decode cX4_compile 120 = .ok (.iconst 1, 1) := by decide +kernel
theorem dX4_compile_121 : decode cX4_compile 121 = .ok (.invokevirtual 71, 3) := by decide +kernel
theorem dX4_compile_124 : decode cX4_compile 124 = .ok (.ifCond .eq 7, 3) := by decide +kernel
theorem dX4_compile_127 : decode cX4_compile 127 = .ok (.iconst 1, 1) := by decide +kernel
theorem dX4_compile_128 : decode cX4_compile 128 = .ok (.goto 4, 3) := by decide +kernel
theorem dX4_compile_131 : decode cX4_compile 131 = .ok (.iconst 0, 1) := by decide +kernel
theorem dX4_compile_132 : decode cX4_compile 132 = .ok (.ireturn, 1) := by decide +kernel
theorem dX4_fail_0 : decode cX4_fail 0 = .ok (.aload_n 0, 1) := by decide +kernel
theorem dX4_fail_1 : decode cX4_fail 1 = .ok (.iload_n 1, 1) := by decide +kernel
theorem dX4_fail_2 : decode cX4_fail 2 = .ok (.putfield 50, 3) := by decide +kernel
theorem dX4_fail_5 : decode cX4_fail 5 = .ok (.aload_n 0, 1) := by decide +kernel
theorem dX4_fail_6 : decode cX4_fail 6 = .ok (.aload_n 0, 1) := by decide +kernel
theorem dX4_fail_7 : decode cX4_fail 7 = .ok (.getfield 29, 3) := by decide +kernel
theorem dX4_fail_10 : decode cX4_fail 10 = .ok (.getfield 81, 3) := by decide +kernel
theorem dX4_fail_13 : decode cX4_fail 13 = .ok (.putfield 53, 3) := by decide +kernel
theorem dX4_fail_16 : decode cX4_fail 16 = .ok (.iconst 0, 1) := by decide +kernel
theorem dX4_fail_17 : decode cX4_fail 17 = .ok (.ireturn, 1) := by decide +kernel
theorem dX4_line_0 : decode cX4_line 0 = .ok (.aload_n 0, 1) := by decide +kernel
theorem dX4_line_1 : decode cX4_line 1 = .ok (.getfield 29, 3) := by decide +kernel
theorem dX4_line_4 : decode cX4_line 4 = .ok (.getfield 60, 3) := by decide +kernel
theorem dX4_line_7 : decode cX4_line 7 = .ok (.iconst 1, 1) := by decide +kernel
theorem dX4_line_8 : decode cX4_line 8 = .ok (.if_icmp .ne 13, 3) := by decide +kernel
theorem dX4_line_11 : decode cX4_line 11 = .ok (.aload_n 0, 1) := by decide +kernel
theorem dX4_line_12 : decode cX4_line 12 = .ok (.getfield 29, 3) := by decide +kernel
theorem dX4_line_15 : decode cX4_line 15 = .ok (.getfield 84, 3) := by decide +kernel
theorem dX4_line_18 : decode cX4_line 18 = .ok (.goto 4, 3) := by decide +kernel
theorem dX4_line_21 : decode cX4_line 21 = .ok (.iconst 0, 1) := by decide +kernel
theorem dX4_line_22 : decode cX4_line 22 = .ok (.istore_n 1, 1) := by decide +kernel
theorem dX4_line_23 : decode cX4_line 23 = .ok (.iload_n 1, 1) := by decide +kernel
theorem dX4_line_24 : decode cX4_line 24 = .ok (.sipush 302, 3) := by decide +kernel
theorem dX4_line_27 : decode cX4_line 27 = .ok (.if_icmp .eq 16, 3) := by decide +kernel
theorem dX4_line_30 : decode cX4_line 30 = .ok (.iload_n 1, 1) := by decide +kernel
theorem dX4_line_31 : decode cX4_line 31 = .ok (.sipush 18935, 3) := by decide +kernel
theorem dX4_line_34 : decode cX4_line 34 = .ok (.if_icmp .eq 9, 3) := by decide +kernel
theorem dX4_line_37 : decode cX4_line 37 = .ok (.iload_n 1, 1) := by decide +kernel
theorem dX4_line_38 : decode cX4_line 38 = .ok (.ldc 87, 2) := by decide +kernel
theorem dX4_line_40 : decode cX4_line 40 = .ok (.if_icmp .ne 7, 3) := by decide +kernel
theorem dX4_line_43 : decode cX4_line 43 = .ok (.iconst 1, 1) := by decide +kernel
theorem dX4_line_44 : decode cX4_line 44 = .ok (.goto 4, 3) := by decide +kernel
theorem dX4_line_47 : decode cX4_line 47 = .ok (.iconst 0, 1) := by decide +kernel
theorem dX4_line_48 : decode cX4_line 48 = .ok (.istore_n 2, 1) := by decide +kernel
theorem dX4_line_49 : decode cX4_line 49 = .ok (.iload_n 2, 1) := by decide +kernel
theorem dX4_line_50 : decode cX4_line 50 = .ok (.ifCond .eq 16, 3) := by decide +kernel
theorem dX4_line_53 : decode cX4_line 53 = .ok (.aload_n 0, 1) := by decide +kernel
theorem dX4_line_54 : decode cX4_line 54 = .ok (.getfield 46, 3) := by decide +kernel
theorem dX4_line_57 : decode cX4_line 57 = .ok (.ifCond .eq 9, 3) := by decide +kernel
theorem dX4_line_60 : decode cX4_line 60 = .ok (.aload_n 0, 1) := by decide +kernel
theorem dX4_line_61 : decode cX4_line 61 = .ok (.iconst 1, 1) := by decide +kernel
theorem dX4_line_62 : decode cX4_line 62 = .ok (.invokevirtual 71, 3) := by decide +kernel
theorem dX4_line_65 : decode cX4_line 65 = .ok (.ireturn, 1) := by decide +kernel
theorem dX4_line_66 : decode cX4_line 66 = .ok (.aload_n 0, 1) := by decide +kernel
theorem dX4_line_67 : decode cX4_line 67 = .ok (.iload_n 2, 1) := by decide +kernel
theorem dX4_line_68 : decode cX4_line 68 = .ok (.ifCond .ne 7, 3) := by decide +kernel
theorem dX4_line_71 : decode cX4_line 71 = .ok (.iconst 1, 1) := by decide +kernel
theorem dX4_line_72 : decode cX4_line 72 = .ok (.goto 4, 3) := by decide +kernel
theorem dX4_line_75 : decode cX4_line 75 = .ok (.iconst 0, 1) := by decide +kernel
theorem dX4_line_76 : decode cX4_line 76 = .ok (.putfield 46, 3) := by decide +kernel
theorem dX4_line_79 : decode cX4_line 79 = .ok (.iload_n 1, 1) := by decide +kernel
theorem dX4_line_80 : decode cX4_line 80 = .ok (.lookupswitch 116 #[(294, 96), (302, 76), (5572, 106), (16052, 111), (18935, 81), (176741, 101), (409072, 91), (1451059, 86)], 76) := by decide +kernel
theorem dX4_line_156 : decode cX4_line 156 = .ok (.aload_n 0, 1) := by decide +kernel
theorem dX4_line_157 : decode cX4_line 157 = .ok (.invokevirtual 88, 3) := by decide +kernel
theorem dX4_line_160 : decode cX4_line 160 = .ok (.ireturn, 1) := by decide +kernel
theorem dX4_line_161 : decode cX4_line 161 = .ok (.aload_n 0, 1) := by decide +kernel
theorem dX4_line_162 : decode cX4_line 162 = .ok (.invokevirtual 91, 3) := by decide +kernel
theorem dX4_line_165 : decode cX4_line 165 = .ok (.ireturn, 1) := by decide +kernel
theorem dX4_line_166 : decode cX4_line 166 = .ok (.aload_n 0, 1) := by decide +kernel
theorem dX4_line_167 : decode cX4_line 167 = .ok (.invokevirtual 94, 3) := by decide +kernel
theorem dX4_line_170 : decode cX4_line 170 = .ok (.ireturn, 1) := by decide +kernel
theorem dX4_line_171 : decode cX4_line 171 = .ok (.aload_n 0, 1) := by decide +kernel
theorem dX4_line_172 : decode cX4_line 172 = .ok (.invokevirtual 97, 3) := by decide +kernel
theorem dX4_line_175 : decode cX4_line 175 = .ok (.ireturn, 1) := by decide +kernel
theorem dX4_line_176 : decode cX4_line 176 = .ok (.aload_n 0, 1) := by decide +kernel
theorem dX4_line_177 : decode cX4_line 177 = .ok (.invokevirtual 100, 3) := by decide +kernel
theorem dX4_line_180 : decode cX4_line 180 = .ok (.ireturn, 1) := by decide +kernel
theorem dX4_line_181 : decode cX4_line 181 = .ok (.aload_n 0, 1) := by decide +kernel
theorem dX4_line_182 : decode cX4_line 182 = .ok (.invokevirtual 103, 3) := by decide +kernel
theorem dX4_line_185 : decode cX4_line 185 = .ok (.ireturn, 1) := by decide +kernel
theorem dX4_line_186 : decode cX4_line 186 = .ok (.aload_n 0, 1) := by decide +kernel
theorem dX4_line_187 : decode cX4_line 187 = .ok (.invokevirtual 106, 3) := by decide +kernel
theorem dX4_line_190 : decode cX4_line 190 = .ok (.ireturn, 1) := by decide +kernel
theorem dX4_line_191 : decode cX4_line 191 = .ok (.aload_n 0, 1) := by decide +kernel
theorem dX4_line_192 : decode cX4_line 192 = .ok (.invokevirtual 109, 3) := by decide +kernel
theorem dX4_line_195 : decode cX4_line 195 = .ok (.ireturn, 1) := by decide +kernel
theorem dX4_line_196 : decode cX4_line 196 = .ok (.aload_n 0, 1) := by decide +kernel
theorem dX4_line_197 : decode cX4_line 197 = .ok (.getfield 29, 3) := by decide +kernel
theorem dX4_line_200 : decode cX4_line 200 = .ok (.invokevirtual 112, 3) := by decide +kernel
theorem dX4_line_203 : decode cX4_line 203 = .ok (.ifCond .eq 10, 3) := by decide +kernel
theorem dX4_line_206 : decode cX4_line 206 = .ok (.aload_n 0, 1) := by decide +kernel
theorem dX4_line_207 : decode cX4_line 207 = .ok (.invokevirtual 115, 3) := by decide +kernel
theorem dX4_line_210 : decode cX4_line 210 = .ok (.goto 8, 3) := by decide +kernel
theorem dX4_line_213 : decode cX4_line 213 = .ok (.aload_n 0, 1) := by decide +kernel
theorem dX4_line_214 : decode cX4_line 214 = .ok (.iconst 1, 1) := by decide +kernel
theorem dX4_line_215 : decode cX4_line 215 = .ok (.invokevirtual 71, 3) := by decide +kernel
theorem dX4_line_218 : decode cX4_line 218 = .ok (.ireturn, 1) := by decide +kernel
theorem dX4_inputLine_0 : decode cX4_inputLine 0 = .ok (.aload_n 0, 1) := by decide +kernel
theorem dX4_inputLine_1 : decode cX4_inputLine 1 = .ok (.getfield 33, 3) := by decide +kernel
theorem dX4_inputLine_4 : decode cX4_inputLine 4 = .ok (.getfield 118, 3) := by decide +kernel
theorem dX4_inputLine_7 : decode cX4_inputLine 7 = .ok (.iconst 4, 1) := by decide +kernel
theorem dX4_inputLine_8 : decode cX4_inputLine 8 = .ok (.if_icmp .lt 9, 3) := by decide +kernel
theorem dX4_inputLine_11 : decode cX4_inputLine 11 = .ok (.aload_n 0, 1) := by decide +kernel
theorem dX4_inputLine_12 : decode cX4_inputLine 12 = .ok (.iconst 2, 1) := by decide +kernel
theorem dX4_inputLine_13 : decode cX4_inputLine 13 = .ok (.invokevirtual 71, 3) := by decide +kernel
theorem dX4_inputLine_16 : decode cX4_inputLine 16 = .ok (.ireturn, 1) := by decide +kernel
theorem dX4_inputLine_17 : decode cX4_inputLine 17 = .ok (.aload_n 0, 1) := by decide +kernel
theorem dX4_inputLine_18 : decode cX4_inputLine 18 = .ok (.getfield 29, 3) := by decide +kernel
theorem dX4_inputLine_21 : decode cX4_inputLine 21 = .ok (.invokevirtual 75, 3) := by decide +kernel
theorem dX4_inputLine_24 : decode cX4_inputLine 24 = .ok (.aload_n 0, 1) := by decide +kernel
theorem dX4_inputLine_25 : decode cX4_inputLine 25 = .ok (.invokevirtual 121, 3) := by decide +kernel
theorem dX4_inputLine_28 : decode cX4_inputLine 28 = .ok (.ifCond .ne 5, 3) := by decide +kernel
theorem dX4_inputLine_31 : decode cX4_inputLine 31 = .ok (.iconst 0, 1) := by decide +kernel
theorem dX4_inputLine_32 : decode cX4_inputLine 32 = .ok (.ireturn, 1) := by decide +kernel
theorem dX4_inputLine_33 : decode cX4_inputLine 33 = .ok (.aload_n 0, 1) := by decide +kernel
theorem dX4_inputLine_34 : decode cX4_inputLine 34 = .ok (.aload_n 0, 1) := by decide +kernel
theorem dX4_inputLine_35 : decode cX4_inputLine 35 = .ok (.getfield 29, 3) := by decide +kernel
theorem dX4_inputLine_38 : decode cX4_inputLine 38 = .ok (.getfield 84, 3) := by decide +kernel
theorem dX4_inputLine_41 : decode cX4_inputLine 41 = .ok (.iconst 1, 1) := by decide +kernel
theorem dX4_inputLine_42 : decode cX4_inputLine 42 = .ok (.invokevirtual 124, 3) := by decide +kernel
theorem dX4_inputLine_45 : decode cX4_inputLine 45 = .ok (.pop, 1) := by decide +kernel
theorem dX4_inputLine_46 : decode cX4_inputLine 46 = .ok (.aload_n 0, 1) := by decide +kernel
theorem dX4_inputLine_47 : decode cX4_inputLine 47 = .ok (.getfield 33, 3) := by decide +kernel
theorem dX4_inputLine_50 : decode cX4_inputLine 50 = .ok (.dup, 1) := by decide +kernel
theorem dX4_inputLine_51 : decode cX4_inputLine 51 = .ok (.getfield 118, 3) := by decide +kernel
theorem dX4_inputLine_54 : decode cX4_inputLine 54 = .ok (.iconst 1, 1) := by decide +kernel
theorem dX4_inputLine_55 : decode cX4_inputLine 55 = .ok (.iadd, 1) := by decide +kernel
theorem dX4_inputLine_56 : decode cX4_inputLine 56 = .ok (.putfield 118, 3) := by decide +kernel
theorem dX4_inputLine_59 : decode cX4_inputLine 59 = .ok (.aload_n 0, 1) := by decide +kernel
theorem dX4_inputLine_60 : decode cX4_inputLine 60 = .ok (.getfield 29, 3) := by decide +kernel
theorem dX4_inputLine_63 : decode cX4_inputLine 63 = .ok (.invokevirtual 75, 3) := by decide +kernel
theorem dX4_inputLine_66 : decode cX4_inputLine 66 = .ok (.iconst 1, 1) := by decide +kernel
theorem dX4_inputLine_67 : decode cX4_inputLine 67 = .ok (.ireturn, 1) := by decide +kernel
theorem dX4_newName_0 : decode cX4_newName 0 = .ok (.aload_n 0, 1) := by decide +kernel
theorem dX4_newName_1 : decode cX4_newName 1 = .ok (.getfield 29, 3) := by decide +kernel
theorem dX4_newName_4 : decode cX4_newName 4 = .ok (.invokevirtual 112, 3) := by decide +kernel
theorem dX4_newName_7 : decode cX4_newName 7 = .ok (.ifCond .ne 9, 3) := by decide +kernel
theorem dX4_newName_10 : decode cX4_newName 10 = .ok (.aload_n 0, 1) := by decide +kernel
theorem dX4_newName_11 : decode cX4_newName 11 = .ok (.iconst 1, 1) := by decide +kernel
theorem dX4_newName_12 : decode cX4_newName 12 = .ok (.invokevirtual 71, 3) := by decide +kernel
theorem dX4_newName_15 : decode cX4_newName 15 = .ok (.ireturn, 1) := by decide +kernel
theorem dX4_newName_16 : decode cX4_newName 16 = .ok (.aload_n 0, 1) := by decide +kernel
theorem dX4_newName_17 : decode cX4_newName 17 = .ok (.aload_n 0, 1) := by decide +kernel
theorem dX4_newName_18 : decode cX4_newName 18 = .ok (.getfield 29, 3) := by decide +kernel
theorem dX4_newName_21 : decode cX4_newName 21 = .ok (.getfield 84, 3) := by decide +kernel
theorem dX4_newName_24 : decode cX4_newName 24 = .ok (.iconst 0, 1) := by decide +kernel
theorem dX4_newName_25 : decode cX4_newName 25 = .ok (.invokevirtual 124, 3) := by decide +kernel
theorem dX4_newName_28 : decode cX4_newName 28 = .ok (.iconst (-1), 1) := by decide +kernel
theorem dX4_newName_29 : decode cX4_newName 29 = .ok (.if_icmp .ne 18, 3) := by decide +kernel
theorem dX4_newName_32 : decode cX4_newName 32 = .ok (.aload_n 0, 1) := by decide +kernel
theorem dX4_newName_33 : decode cX4_newName 33 = .ok (.aload_n 0, 1) := by decide +kernel
theorem dX4_newName_34 : decode cX4_newName 34 = .ok (.getfield 29, 3) := by decide +kernel
theorem dX4_newName_37 : decode cX4_newName 37 = .ok (.getfield 84, 3) := by decide +kernel
theorem dX4_newName_40 : decode cX4_newName 40 = .ok (.invokevirtual 128, 3) := by decide +kernel
theorem dX4_newName_43 : decode cX4_newName 43 = .ok (.iconst (-1), 1) := by decide +kernel
theorem dX4_newName_44 : decode cX4_newName 44 = .ok (.if_icmp .eq 9, 3) := by decide +kernel
theorem dX4_newName_47 : decode cX4_newName 47 = .ok (.aload_n 0, 1) := by decide +kernel
theorem dX4_newName_48 : decode cX4_newName 48 = .ok (.iconst 3, 1) := by decide +kernel
theorem dX4_newName_49 : decode cX4_newName 49 = .ok (.invokevirtual 71, 3) := by decide +kernel
theorem dX4_newName_52 : decode cX4_newName 52 = .ok (.ireturn, 1) := by decide +kernel
theorem dX4_newName_53 : decode cX4_newName 53 = .ok (.iconst 1, 1) := by decide +kernel
theorem dX4_newName_54 : decode cX4_newName 54 = .ok (.ireturn, 1) := by decide +kernel
theorem dX4_newRowName_0 : decode cX4_newRowName 0 = .ok (.aload_n 0, 1) := by decide +kernel
theorem dX4_newRowName_1 : decode cX4_newRowName 1 = .ok (.getfield 33, 3) := by decide +kernel
theorem dX4_newRowName_4 : decode cX4_newRowName 4 = .ok (.getfield 132, 3) := by decide +kernel
theorem dX4_newRowName_7 : decode cX4_newRowName 7 = .ok (.bipush 6, 2) := by decide +kernel
theorem dX4_newRowName_9 : decode cX4_newRowName 9 = .ok (.if_icmp .lt 9, 3) := by decide +kernel
theorem dX4_newRowName_12 : decode cX4_newRowName 12 = .ok (.aload_n 0, 1) := by decide +kernel
theorem dX4_newRowName_13 : decode cX4_newRowName 13 = .ok (.iconst 2, 1) := by decide +kernel
theorem dX4_newRowName_14 : decode cX4_newRowName 14 = .ok (.invokevirtual 71, 3) := by decide +kernel
theorem dX4_newRowName_17 : decode cX4_newRowName 17 = .ok (.ireturn, 1) := by decide +kernel
theorem dX4_newRowName_18 : decode cX4_newRowName 18 = .ok (.aload_n 0, 1) := by decide +kernel
theorem dX4_newRowName_19 : decode cX4_newRowName 19 = .ok (.getfield 29, 3) := by decide +kernel
theorem dX4_newRowName_22 : decode cX4_newRowName 22 = .ok (.invokevirtual 75, 3) := by decide +kernel
theorem dX4_newRowName_25 : decode cX4_newRowName 25 = .ok (.aload_n 0, 1) := by decide +kernel
theorem dX4_newRowName_26 : decode cX4_newRowName 26 = .ok (.invokevirtual 121, 3) := by decide +kernel
theorem dX4_newRowName_29 : decode cX4_newRowName 29 = .ok (.ireturn, 1) := by decide +kernel
theorem dX4_rowLine_0 : decode cX4_rowLine 0 = .ok (.aload_n 0, 1) := by decide +kernel
theorem dX4_rowLine_1 : decode cX4_rowLine 1 = .ok (.invokevirtual 135, 3) := by decide +kernel
theorem dX4_rowLine_4 : decode cX4_rowLine 4 = .ok (.ifCond .ne 5, 3) := by decide +kernel
theorem dX4_rowLine_7 : decode cX4_rowLine 7 = .ok (.iconst 0, 1) := by decide +kernel
theorem dX4_rowLine_8 : decode cX4_rowLine 8 = .ok (.ireturn, 1) := by decide +kernel
theorem dX4_rowLine_9 : decode cX4_rowLine 9 = .ok (.aload_n 0, 1) := by decide +kernel
theorem dX4_rowLine_10 : decode cX4_rowLine 10 = .ok (.getfield 29, 3) := by decide +kernel
theorem dX4_rowLine_13 : decode cX4_rowLine 13 = .ok (.getfield 84, 3) := by decide +kernel
theorem dX4_rowLine_16 : decode cX4_rowLine 16 = .ok (.istore_n 1, 1) := by decide +kernel
theorem dX4_rowLine_17 : decode cX4_rowLine 17 = .ok (.aload_n 0, 1) := by decide +kernel
theorem dX4_rowLine_18 : decode cX4_rowLine 18 = .ok (.getfield 29, 3) := by decide +kernel
theorem dX4_rowLine_21 : decode cX4_rowLine 21 = .ok (.invokevirtual 75, 3) := by decide +kernel
theorem dX4_rowLine_24 : decode cX4_rowLine 24 = .ok (.aload_n 0, 1) := by decide +kernel
theorem dX4_rowLine_25 : decode cX4_rowLine 25 = .ok (.iconst 1, 1) := by decide +kernel
theorem dX4_rowLine_26 : decode cX4_rowLine 26 = .ok (.bipush 8, 2) := by decide +kernel
theorem dX4_rowLine_28 : decode cX4_rowLine 28 = .ok (.invokevirtual 138, 3) := by decide +kernel
theorem dX4_rowLine_31 : decode cX4_rowLine 31 = .ok (.ifCond .ne 5, 3) := by decide +kernel
theorem dX4_rowLine_34 : decode cX4_rowLine 34 = .ok (.iconst 0, 1) := by decide +kernel
theorem dX4_rowLine_35 : decode cX4_rowLine 35 = .ok (.ireturn, 1) := by decide +kernel
theorem dX4_rowLine_36 : decode cX4_rowLine 36 = .ok (.aload_n 0, 1) := by decide +kernel
theorem dX4_rowLine_37 : decode cX4_rowLine 37 = .ok (.iload_n 1, 1) := by decide +kernel
theorem dX4_rowLine_38 : decode cX4_rowLine 38 = .ok (.aload_n 0, 1) := by decide +kernel
theorem dX4_rowLine_39 : decode cX4_rowLine 39 = .ok (.getfield 33, 3) := by decide +kernel
theorem dX4_rowLine_42 : decode cX4_rowLine 42 = .ok (.getfield 142, 3) := by decide +kernel
theorem dX4_rowLine_45 : decode cX4_rowLine 45 = .ok (.aload_n 0, 1) := by decide +kernel
theorem dX4_rowLine_46 : decode cX4_rowLine 46 = .ok (.getfield 29, 3) := by decide +kernel
theorem dX4_rowLine_49 : decode cX4_rowLine 49 = .ok (.getfield 84, 3) := by decide +kernel
theorem dX4_rowLine_52 : decode cX4_rowLine 52 = .ok (.invokevirtual 145, 3) := by decide +kernel
theorem dX4_rowLine_55 : decode cX4_rowLine 55 = .ok (.aload_n 0, 1) := by decide +kernel
theorem dX4_rowLine_56 : decode cX4_rowLine 56 = .ok (.getfield 33, 3) := by decide +kernel
theorem dX4_rowLine_59 : decode cX4_rowLine 59 = .ok (.dup, 1) := by decide +kernel
theorem dX4_rowLine_60 : decode cX4_rowLine 60 = .ok (.getfield 142, 3) := by decide +kernel
theorem dX4_rowLine_63 : decode cX4_rowLine 63 = .ok (.aload_n 0, 1) := by decide +kernel
theorem dX4_rowLine_64 : decode cX4_rowLine 64 = .ok (.getfield 29, 3) := by decide +kernel
theorem dX4_rowLine_67 : decode cX4_rowLine 67 = .ok (.getfield 84, 3) := by decide +kernel
theorem dX4_rowLine_70 : decode cX4_rowLine 70 = .ok (.iadd, 1) := by decide +kernel
theorem dX4_rowLine_71 : decode cX4_rowLine 71 = .ok (.putfield 142, 3) := by decide +kernel
theorem dX4_rowLine_74 : decode cX4_rowLine 74 = .ok (.aload_n 0, 1) := by decide +kernel
theorem dX4_rowLine_75 : decode cX4_rowLine 75 = .ok (.getfield 29, 3) := by decide +kernel
theorem dX4_rowLine_78 : decode cX4_rowLine 78 = .ok (.invokevirtual 75, 3) := by decide +kernel
theorem dX4_rowLine_81 : decode cX4_rowLine 81 = .ok (.iconst 1, 1) := by decide +kernel
theorem dX4_rowLine_82 : decode cX4_rowLine 82 = .ok (.ireturn, 1) := by decide +kernel
theorem dX4_aliasLine_0 : decode cX4_aliasLine 0 = .ok (.aload_n 0, 1) := by decide +kernel
theorem dX4_aliasLine_1 : decode cX4_aliasLine 1 = .ok (.invokevirtual 135, 3) := by decide +kernel
theorem dX4_aliasLine_4 : decode cX4_aliasLine 4 = .ok (.ifCond .ne 5, 3) := by decide +kernel
theorem dX4_aliasLine_7 : decode cX4_aliasLine 7 = .ok (.iconst 0, 1) := by decide +kernel
theorem dX4_aliasLine_8 : decode cX4_aliasLine 8 = .ok (.ireturn, 1) := by decide +kernel
theorem dX4_aliasLine_9 : decode cX4_aliasLine 9 = .ok (.aload_n 0, 1) := by decide +kernel
theorem dX4_aliasLine_10 : decode cX4_aliasLine 10 = .ok (.getfield 29, 3) := by decide +kernel
theorem dX4_aliasLine_13 : decode cX4_aliasLine 13 = .ok (.getfield 84, 3) := by decide +kernel
theorem dX4_aliasLine_16 : decode cX4_aliasLine 16 = .ok (.istore_n 1, 1) := by decide +kernel
theorem dX4_aliasLine_17 : decode cX4_aliasLine 17 = .ok (.aload_n 0, 1) := by decide +kernel
theorem dX4_aliasLine_18 : decode cX4_aliasLine 18 = .ok (.getfield 29, 3) := by decide +kernel
theorem dX4_aliasLine_21 : decode cX4_aliasLine 21 = .ok (.invokevirtual 75, 3) := by decide +kernel
theorem dX4_aliasLine_24 : decode cX4_aliasLine 24 = .ok (.aload_n 0, 1) := by decide +kernel
theorem dX4_aliasLine_25 : decode cX4_aliasLine 25 = .ok (.getfield 29, 3) := by decide +kernel
theorem dX4_aliasLine_28 : decode cX4_aliasLine 28 = .ok (.invokevirtual 112, 3) := by decide +kernel
theorem dX4_aliasLine_31 : decode cX4_aliasLine 31 = .ok (.ifCond .eq 17, 3) := by decide +kernel
theorem dX4_aliasLine_34 : decode cX4_aliasLine 34 = .ok (.aload_n 0, 1) := by decide +kernel
theorem dX4_aliasLine_35 : decode cX4_aliasLine 35 = .ok (.aload_n 0, 1) := by decide +kernel
theorem dX4_aliasLine_36 : decode cX4_aliasLine 36 = .ok (.getfield 29, 3) := by decide +kernel
theorem dX4_aliasLine_39 : decode cX4_aliasLine 39 = .ok (.getfield 84, 3) := by decide +kernel
theorem dX4_aliasLine_42 : decode cX4_aliasLine 42 = .ok (.invokevirtual 128, 3) := by decide +kernel
theorem dX4_aliasLine_45 : decode cX4_aliasLine 45 = .ok (.goto 4, 3) := by decide +kernel
theorem dX4_aliasLine_48 : decode cX4_aliasLine 48 = .ok (.iconst (-1), 1) := by decide +kernel
theorem dX4_aliasLine_49 : decode cX4_aliasLine 49 = .ok (.istore_n 2, 1) := by decide +kernel
theorem dX4_aliasLine_50 : decode cX4_aliasLine 50 = .ok (.iload_n 2, 1) := by decide +kernel
theorem dX4_aliasLine_51 : decode cX4_aliasLine 51 = .ok (.ifCond .lt 9, 3) := by decide +kernel
theorem dX4_aliasLine_54 : decode cX4_aliasLine 54 = .ok (.iload_n 2, 1) := by decide +kernel
theorem dX4_aliasLine_55 : decode cX4_aliasLine 55 = .ok (.bipush 6, 2) := by decide +kernel
theorem dX4_aliasLine_57 : decode cX4_aliasLine 57 = .ok (.if_icmp .lt 9, 3) := by decide +kernel
theorem dX4_aliasLine_60 : decode cX4_aliasLine 60 = .ok (.aload_n 0, 1) := by decide +kernel
theorem dX4_aliasLine_61 : decode cX4_aliasLine 61 = .ok (.iconst 1, 1) := by decide +kernel
theorem dX4_aliasLine_62 : decode cX4_aliasLine 62 = .ok (.invokevirtual 71, 3) := by decide +kernel
theorem dX4_aliasLine_65 : decode cX4_aliasLine 65 = .ok (.ireturn, 1) := by decide +kernel
theorem dX4_aliasLine_66 : decode cX4_aliasLine 66 = .ok (.aload_n 0, 1) := by decide +kernel
theorem dX4_aliasLine_67 : decode cX4_aliasLine 67 = .ok (.getfield 29, 3) := by decide +kernel
theorem dX4_aliasLine_70 : decode cX4_aliasLine 70 = .ok (.invokevirtual 75, 3) := by decide +kernel
theorem dX4_aliasLine_73 : decode cX4_aliasLine 73 = .ok (.aload_n 0, 1) := by decide +kernel
theorem dX4_aliasLine_74 : decode cX4_aliasLine 74 = .ok (.iconst 0, 1) := by decide +kernel
theorem dX4_aliasLine_75 : decode cX4_aliasLine 75 = .ok (.aload_n 0, 1) := by decide +kernel
theorem dX4_aliasLine_76 : decode cX4_aliasLine 76 = .ok (.getfield 33, 3) := by decide +kernel
theorem dX4_aliasLine_79 : decode cX4_aliasLine 79 = .ok (.getfield 149, 3) := by decide +kernel
theorem dX4_aliasLine_82 : decode cX4_aliasLine 82 = .ok (.iload_n 2, 1) := by decide +kernel
theorem dX4_aliasLine_83 : decode cX4_aliasLine 83 = .ok (.iaload, 1) := by decide +kernel
theorem dX4_aliasLine_84 : decode cX4_aliasLine 84 = .ok (.iconst 1, 1) := by decide +kernel
theorem dX4_aliasLine_85 : decode cX4_aliasLine 85 = .ok (.isub, 1) := by decide +kernel
theorem dX4_aliasLine_86 : decode cX4_aliasLine 86 = .ok (.invokevirtual 138, 3) := by decide +kernel
theorem dX4_aliasLine_89 : decode cX4_aliasLine 89 = .ok (.ifCond .ne 5, 3) := by decide +kernel
theorem dX4_aliasLine_92 : decode cX4_aliasLine 92 = .ok (.iconst 0, 1) := by decide +kernel
theorem dX4_aliasLine_93 : decode cX4_aliasLine 93 = .ok (.ireturn, 1) := by decide +kernel
theorem dX4_aliasLine_94 : decode cX4_aliasLine 94 = .ok (.aload_n 0, 1) := by decide +kernel
theorem dX4_aliasLine_95 : decode cX4_aliasLine 95 = .ok (.iload_n 1, 1) := by decide +kernel
theorem dX4_aliasLine_96 : decode cX4_aliasLine 96 = .ok (.aload_n 0, 1) := by decide +kernel
theorem dX4_aliasLine_97 : decode cX4_aliasLine 97 = .ok (.getfield 33, 3) := by decide +kernel
theorem dX4_aliasLine_100 : decode cX4_aliasLine 100 = .ok (.getfield 152, 3) := by decide +kernel
theorem dX4_aliasLine_103 : decode cX4_aliasLine 103 = .ok (.iload_n 2, 1) := by decide +kernel
theorem dX4_aliasLine_104 : decode cX4_aliasLine 104 = .ok (.iaload, 1) := by decide +kernel
theorem dX4_aliasLine_105 : decode cX4_aliasLine 105 = .ok (.aload_n 0, 1) := by decide +kernel
theorem dX4_aliasLine_106 : decode cX4_aliasLine 106 = .ok (.getfield 29, 3) := by decide +kernel
theorem dX4_aliasLine_109 : decode cX4_aliasLine 109 = .ok (.getfield 84, 3) := by decide +kernel
theorem dX4_aliasLine_112 : decode cX4_aliasLine 112 = .ok (.iadd, 1) := by decide +kernel
theorem dX4_aliasLine_113 : decode cX4_aliasLine 113 = .ok (.aload_n 0, 1) := by decide +kernel
theorem dX4_aliasLine_114 : decode cX4_aliasLine 114 = .ok (.getfield 33, 3) := by decide +kernel
theorem dX4_aliasLine_117 : decode cX4_aliasLine 117 = .ok (.getfield 149, 3) := by decide +kernel
theorem dX4_aliasLine_120 : decode cX4_aliasLine 120 = .ok (.iload_n 2, 1) := by decide +kernel
theorem dX4_aliasLine_121 : decode cX4_aliasLine 121 = .ok (.iaload, 1) := by decide +kernel
theorem dX4_aliasLine_122 : decode cX4_aliasLine 122 = .ok (.aload_n 0, 1) := by decide +kernel
theorem dX4_aliasLine_123 : decode cX4_aliasLine 123 = .ok (.getfield 29, 3) := by decide +kernel
theorem dX4_aliasLine_126 : decode cX4_aliasLine 126 = .ok (.getfield 84, 3) := by decide +kernel
theorem dX4_aliasLine_129 : decode cX4_aliasLine 129 = .ok (.isub, 1) := by decide +kernel
theorem dX4_aliasLine_130 : decode cX4_aliasLine 130 = .ok (.invokevirtual 145, 3) := by decide +kernel
theorem dX4_aliasLine_133 : decode cX4_aliasLine 133 = .ok (.aload_n 0, 1) := by decide +kernel
theorem dX4_aliasLine_134 : decode cX4_aliasLine 134 = .ok (.getfield 29, 3) := by decide +kernel
theorem dX4_aliasLine_137 : decode cX4_aliasLine 137 = .ok (.invokevirtual 75, 3) := by decide +kernel
theorem dX4_aliasLine_140 : decode cX4_aliasLine 140 = .ok (.iconst 1, 1) := by decide +kernel
theorem dX4_aliasLine_141 : decode cX4_aliasLine 141 = .ok (.ireturn, 1) := by decide +kernel
theorem dX4_addRow_0 : decode cX4_addRow 0 = .ok (.aload_n 0, 1) := by decide +kernel
theorem dX4_addRow_1 : decode cX4_addRow 1 = .ok (.getfield 33, 3) := by decide +kernel
theorem dX4_addRow_4 : decode cX4_addRow 4 = .ok (.getfield 132, 3) := by decide +kernel
theorem dX4_addRow_7 : decode cX4_addRow 7 = .ok (.bipush 6, 2) := by decide +kernel
theorem dX4_addRow_9 : decode cX4_addRow 9 = .ok (.if_icmp .ge 25, 3) := by decide +kernel
theorem dX4_addRow_12 : decode cX4_addRow 12 = .ok (.aload_n 0, 1) := by decide +kernel
theorem dX4_addRow_13 : decode cX4_addRow 13 = .ok (.getfield 15, 3) := by decide +kernel
theorem dX4_addRow_16 : decode cX4_addRow 16 = .ok (.aload_n 0, 1) := by decide +kernel
theorem dX4_addRow_17 : decode cX4_addRow 17 = .ok (.getfield 33, 3) := by decide +kernel
theorem dX4_addRow_20 : decode cX4_addRow 20 = .ok (.getfield 132, 3) := by decide +kernel
theorem dX4_addRow_23 : decode cX4_addRow 23 = .ok (.iload_n 1, 1) := by decide +kernel
theorem dX4_addRow_24 : decode cX4_addRow 24 = .ok (.iastore, 1) := by decide +kernel
theorem dX4_addRow_25 : decode cX4_addRow 25 = .ok (.aload_n 0, 1) := by decide +kernel
theorem dX4_addRow_26 : decode cX4_addRow 26 = .ok (.getfield 33, 3) := by decide +kernel
theorem dX4_addRow_29 : decode cX4_addRow 29 = .ok (.iload_n 2, 1) := by decide +kernel
theorem dX4_addRow_30 : decode cX4_addRow 30 = .ok (.iload_n 3, 1) := by decide +kernel
theorem dX4_addRow_31 : decode cX4_addRow 31 = .ok (.invokevirtual 155, 3) := by decide +kernel
theorem dX4_addRow_34 : decode cX4_addRow 34 = .ok (.return_, 1) := by decide +kernel
theorem dX4_numberWithin_0 : decode cX4_numberWithin 0 = .ok (.aload_n 0, 1) := by decide +kernel
theorem dX4_numberWithin_1 : decode cX4_numberWithin 1 = .ok (.getfield 29, 3) := by decide +kernel
theorem dX4_numberWithin_4 : decode cX4_numberWithin 4 = .ok (.getfield 60, 3) := by decide +kernel
theorem dX4_numberWithin_7 : decode cX4_numberWithin 7 = .ok (.iconst 2, 1) := by decide +kernel
theorem dX4_numberWithin_8 : decode cX4_numberWithin 8 = .ok (.if_icmp .eq 9, 3) := by decide +kernel
theorem dX4_numberWithin_11 : decode cX4_numberWithin 11 = .ok (.aload_n 0, 1) := by decide +kernel
theorem dX4_numberWithin_12 : decode cX4_numberWithin 12 = .ok (.iconst 1, 1) := by decide +kernel
theorem dX4_numberWithin_13 : decode cX4_numberWithin 13 = .ok (.invokevirtual 71, 3) := by decide +kernel
theorem dX4_numberWithin_16 : decode cX4_numberWithin 16 = .ok (.ireturn, 1) := by decide +kernel
theorem dX4_numberWithin_17 : decode cX4_numberWithin 17 = .ok (.aload_n 0, 1) := by decide +kernel
theorem dX4_numberWithin_18 : decode cX4_numberWithin 18 = .ok (.getfield 29, 3) := by decide +kernel
theorem dX4_numberWithin_21 : decode cX4_numberWithin 21 = .ok (.getfield 84, 3) := by decide +kernel
theorem dX4_numberWithin_24 : decode cX4_numberWithin 24 = .ok (.iload_n 1, 1) := by decide +kernel
theorem dX4_numberWithin_25 : decode cX4_numberWithin 25 = .ok (.if_icmp .lt 14, 3) := by decide +kernel
theorem dX4_numberWithin_28 : decode cX4_numberWithin 28 = .ok (.aload_n 0, 1) := by decide +kernel
theorem dX4_numberWithin_29 : decode cX4_numberWithin 29 = .ok (.getfield 29, 3) := by decide +kernel
theorem dX4_numberWithin_32 : decode cX4_numberWithin 32 = .ok (.getfield 84, 3) := by decide +kernel
theorem dX4_numberWithin_35 : decode cX4_numberWithin 35 = .ok (.iload_n 2, 1) := by decide +kernel
theorem dX4_numberWithin_36 : decode cX4_numberWithin 36 = .ok (.if_icmp .le 11, 3) := by decide +kernel
theorem dX4_numberWithin_39 : decode cX4_numberWithin 39 = .ok (.aload_n 0, 1) := by decide +kernel
theorem dX4_numberWithin_40 : decode cX4_numberWithin 40 = .ok (.iconst 2, 1) := by decide +kernel
theorem dX4_numberWithin_41 : decode cX4_numberWithin 41 = .ok (.invokevirtual 71, 3) := by decide +kernel
theorem dX4_numberWithin_44 : decode cX4_numberWithin 44 = .ok (.ifCond .eq 7, 3) := by decide +kernel
theorem dX4_numberWithin_47 : decode cX4_numberWithin 47 = .ok (.iconst 1, 1) := by decide +kernel
theorem dX4_numberWithin_48 : decode cX4_numberWithin 48 = .ok (.goto 4, 3) := by decide +kernel
theorem dX4_numberWithin_51 : decode cX4_numberWithin 51 = .ok (.iconst 0, 1) := by decide +kernel
theorem dX4_numberWithin_52 : decode cX4_numberWithin 52 = .ok (.ireturn, 1) := by decide +kernel
theorem dX4_assignment_0 : decode cX4_assignment 0 = .ok (.aload_n 0, 1) := by decide +kernel
theorem dX4_assignment_1 : decode cX4_assignment 1 = .ok (.aload_n 0, 1) := by decide +kernel
theorem dX4_assignment_2 : decode cX4_assignment 2 = .ok (.getfield 29, 3) := by decide +kernel
theorem dX4_assignment_5 : decode cX4_assignment 5 = .ok (.getfield 84, 3) := by decide +kernel
theorem dX4_assignment_8 : decode cX4_assignment 8 = .ok (.invokevirtual 128, 3) := by decide +kernel
theorem dX4_assignment_11 : decode cX4_assignment 11 = .ok (.istore_n 1, 1) := by decide +kernel
theorem dX4_assignment_12 : decode cX4_assignment 12 = .ok (.iload_n 1, 1) := by decide +kernel
theorem dX4_assignment_13 : decode cX4_assignment 13 = .ok (.iconst (-1), 1) := by decide +kernel
theorem dX4_assignment_14 : decode cX4_assignment 14 = .ok (.if_icmp .ne 18, 3) := by decide +kernel
theorem dX4_assignment_17 : decode cX4_assignment 17 = .ok (.aload_n 0, 1) := by decide +kernel
theorem dX4_assignment_18 : decode cX4_assignment 18 = .ok (.aload_n 0, 1) := by decide +kernel
theorem dX4_assignment_19 : decode cX4_assignment 19 = .ok (.getfield 29, 3) := by decide +kernel
theorem dX4_assignment_22 : decode cX4_assignment 22 = .ok (.getfield 84, 3) := by decide +kernel
theorem dX4_assignment_25 : decode cX4_assignment 25 = .ok (.iconst 1, 1) := by decide +kernel
theorem dX4_assignment_26 : decode cX4_assignment 26 = .ok (.invokevirtual 124, 3) := by decide +kernel
theorem dX4_assignment_29 : decode cX4_assignment 29 = .ok (.goto 4, 3) := by decide +kernel
theorem dX4_assignment_32 : decode cX4_assignment 32 = .ok (.iconst (-1), 1) := by decide +kernel
theorem dX4_assignment_33 : decode cX4_assignment 33 = .ok (.istore_n 2, 1) := by decide +kernel
theorem dX4_assignment_34 : decode cX4_assignment 34 = .ok (.iload_n 1, 1) := by decide +kernel
theorem dX4_assignment_35 : decode cX4_assignment 35 = .ok (.iconst (-1), 1) := by decide +kernel
theorem dX4_assignment_36 : decode cX4_assignment 36 = .ok (.if_icmp .ne 14, 3) := by decide +kernel
theorem dX4_assignment_39 : decode cX4_assignment 39 = .ok (.iload_n 2, 1) := by decide +kernel
theorem dX4_assignment_40 : decode cX4_assignment 40 = .ok (.iconst (-1), 1) := by decide +kernel
theorem dX4_assignment_41 : decode cX4_assignment 41 = .ok (.if_icmp .ne 9, 3) := by decide +kernel
theorem dX4_assignment_44 : decode cX4_assignment 44 = .ok (.aload_n 0, 1) := by decide +kernel
theorem dX4_assignment_45 : decode cX4_assignment 45 = .ok (.iconst 2, 1) := by decide +kernel
theorem dX4_assignment_46 : decode cX4_assignment 46 = .ok (.invokevirtual 71, 3) := by decide +kernel
theorem dX4_assignment_49 : decode cX4_assignment 49 = .ok (.ireturn, 1) := by decide +kernel
theorem dX4_assignment_50 : decode cX4_assignment 50 = .ok (.aload_n 0, 1) := by decide +kernel
theorem dX4_assignment_51 : decode cX4_assignment 51 = .ok (.getfield 29, 3) := by decide +kernel
theorem dX4_assignment_54 : decode cX4_assignment 54 = .ok (.invokevirtual 75, 3) := by decide +kernel
theorem dX4_assignment_57 : decode cX4_assignment 57 = .ok (.iload_n 1, 1) := by decide +kernel
theorem dX4_assignment_58 : decode cX4_assignment 58 = .ok (.iconst (-1), 1) := by decide +kernel
theorem dX4_assignment_59 : decode cX4_assignment 59 = .ok (.if_icmp .eq 17, 3) := by decide +kernel
theorem dX4_assignment_62 : decode cX4_assignment 62 = .ok (.aload_n 0, 1) := by decide +kernel
theorem dX4_assignment_63 : decode cX4_assignment 63 = .ok (.bipush 91, 2) := by decide +kernel
theorem dX4_assignment_65 : decode cX4_assignment 65 = .ok (.bipush 93, 2) := by decide +kernel
theorem dX4_assignment_67 : decode cX4_assignment 67 = .ok (.iconst 0, 1) := by decide +kernel
theorem dX4_assignment_68 : decode cX4_assignment 68 = .ok (.invokevirtual 158, 3) := by decide +kernel
theorem dX4_assignment_71 : decode cX4_assignment 71 = .ok (.ifCond .ne 5, 3) := by decide +kernel
theorem dX4_assignment_74 : decode cX4_assignment 74 = .ok (.iconst 0, 1) := by decide +kernel
theorem dX4_assignment_75 : decode cX4_assignment 75 = .ok (.ireturn, 1) := by decide +kernel
theorem dX4_assignment_76 : decode cX4_assignment 76 = .ok (.aload_n 0, 1) := by decide +kernel
theorem dX4_assignment_77 : decode cX4_assignment 77 = .ok (.getfield 29, 3) := by decide +kernel
theorem dX4_assignment_80 : decode cX4_assignment 80 = .ok (.bipush 61, 2) := by decide +kernel
theorem dX4_assignment_82 : decode cX4_assignment 82 = .ok (.invokevirtual 67, 3) := by decide +kernel
theorem dX4_assignment_85 : decode cX4_assignment 85 = .ok (.ifCond .ne 9, 3) := by decide +kernel
theorem dX4_assignment_88 : decode cX4_assignment 88 = .ok (.aload_n 0, 1) := by decide +kernel
theorem dX4_assignment_89 : decode cX4_assignment 89 = .ok (.iconst 1, 1) := by decide +kernel
theorem dX4_assignment_90 : decode cX4_assignment 90 = .ok (.invokevirtual 71, 3) := by decide +kernel
theorem dX4_assignment_93 : decode cX4_assignment 93 = .ok (.ireturn, 1) := by decide +kernel
theorem dX4_assignment_94 : decode cX4_assignment 94 = .ok (.aload_n 0, 1) := by decide +kernel
theorem dX4_assignment_95 : decode cX4_assignment 95 = .ok (.getfield 29, 3) := by decide +kernel
theorem dX4_assignment_98 : decode cX4_assignment 98 = .ok (.invokevirtual 75, 3) := by decide +kernel
theorem dX4_assignment_101 : decode cX4_assignment 101 = .ok (.aload_n 0, 1) := by decide +kernel
theorem dX4_assignment_102 : decode cX4_assignment 102 = .ok (.iconst 0, 1) := by decide +kernel
theorem dX4_assignment_103 : decode cX4_assignment 103 = .ok (.invokevirtual 162, 3) := by decide +kernel
theorem dX4_assignment_106 : decode cX4_assignment 106 = .ok (.ifCond .ne 5, 3) := by decide +kernel
theorem dX4_assignment_109 : decode cX4_assignment 109 = .ok (.iconst 0, 1) := by decide +kernel
theorem dX4_assignment_110 : decode cX4_assignment 110 = .ok (.ireturn, 1) := by decide +kernel
theorem dX4_assignment_111 : decode cX4_assignment 111 = .ok (.aload_n 0, 1) := by decide +kernel
theorem dX4_assignment_112 : decode cX4_assignment 112 = .ok (.getfield 33, 3) := by decide +kernel
theorem dX4_assignment_115 : decode cX4_assignment 115 = .ok (.iload_n 1, 1) := by decide +kernel
theorem dX4_assignment_116 : decode cX4_assignment 116 = .ok (.iconst (-1), 1) := by decide +kernel
theorem dX4_assignment_117 : decode cX4_assignment 117 = .ok (.if_icmp .ne 8, 3) := by decide +kernel
theorem dX4_assignment_120 : decode cX4_assignment 120 = .ok (.bipush 7, 2) := by decide +kernel
theorem dX4_assignment_122 : decode cX4_assignment 122 = .ok (.goto 5, 3) := by decide +kernel
theorem dX4_assignment_125 : decode cX4_assignment 125 = .ok (.bipush 8, 2) := by decide +kernel
theorem dX4_assignment_127 : decode cX4_assignment 127 = .ok (.iload_n 1, 1) := by decide +kernel
theorem dX4_assignment_128 : decode cX4_assignment 128 = .ok (.iconst (-1), 1) := by decide +kernel
theorem dX4_assignment_129 : decode cX4_assignment 129 = .ok (.if_icmp .ne 7, 3) := by decide +kernel
theorem dX4_assignment_132 : decode cX4_assignment 132 = .ok (.iload_n 2, 1) := by decide +kernel
theorem dX4_assignment_133 : decode cX4_assignment 133 = .ok (.goto 4, 3) := by decide +kernel
theorem dX4_assignment_136 : decode cX4_assignment 136 = .ok (.iload_n 1, 1) := by decide +kernel
theorem dX4_assignment_137 : decode cX4_assignment 137 = .ok (.iconst 0, 1) := by decide +kernel
theorem dX4_assignment_138 : decode cX4_assignment 138 = .ok (.invokevirtual 165, 3) := by decide +kernel
theorem dX4_assignment_141 : decode cX4_assignment 141 = .ok (.iconst 1, 1) := by decide +kernel
theorem dX4_assignment_142 : decode cX4_assignment 142 = .ok (.ireturn, 1) := by decide +kernel
theorem dX4_loopLine_0 : decode cX4_loopLine 0 = .ok (.aload_n 0, 1) := by decide +kernel
theorem dX4_loopLine_1 : decode cX4_loopLine 1 = .ok (.getfield 42, 3) := by decide +kernel
theorem dX4_loopLine_4 : decode cX4_loopLine 4 = .ok (.iconst 4, 1) := by decide +kernel
theorem dX4_loopLine_5 : decode cX4_loopLine 5 = .ok (.if_icmp .lt 9, 3) := by decide +kernel
theorem dX4_loopLine_8 : decode cX4_loopLine 8 = .ok (.aload_n 0, 1) := by decide +kernel
theorem dX4_loopLine_9 : decode cX4_loopLine 9 = .ok (.iconst 2, 1) := by decide +kernel
theorem dX4_loopLine_10 : decode cX4_loopLine 10 = .ok (.invokevirtual 71, 3) := by decide +kernel
theorem dX4_loopLine_13 : decode cX4_loopLine 13 = .ok (.ireturn, 1) := by decide +kernel
theorem dX4_loopLine_14 : decode cX4_loopLine 14 = .ok (.aload_n 0, 1) := by decide +kernel
theorem dX4_loopLine_15 : decode cX4_loopLine 15 = .ok (.getfield 29, 3) := by decide +kernel
theorem dX4_loopLine_18 : decode cX4_loopLine 18 = .ok (.invokevirtual 75, 3) := by decide +kernel
theorem dX4_loopLine_21 : decode cX4_loopLine 21 = .ok (.aload_n 0, 1) := by decide +kernel
theorem dX4_loopLine_22 : decode cX4_loopLine 22 = .ok (.getfield 29, 3) := by decide +kernel
theorem dX4_loopLine_25 : decode cX4_loopLine 25 = .ok (.invokevirtual 112, 3) := by decide +kernel
theorem dX4_loopLine_28 : decode cX4_loopLine 28 = .ok (.ifCond .eq 18, 3) := by decide +kernel
theorem dX4_loopLine_31 : decode cX4_loopLine 31 = .ok (.aload_n 0, 1) := by decide +kernel
theorem dX4_loopLine_32 : decode cX4_loopLine 32 = .ok (.aload_n 0, 1) := by decide +kernel
theorem dX4_loopLine_33 : decode cX4_loopLine 33 = .ok (.getfield 29, 3) := by decide +kernel
theorem dX4_loopLine_36 : decode cX4_loopLine 36 = .ok (.getfield 84, 3) := by decide +kernel
theorem dX4_loopLine_39 : decode cX4_loopLine 39 = .ok (.invokevirtual 128, 3) := by decide +kernel
theorem dX4_loopLine_42 : decode cX4_loopLine 42 = .ok (.iconst (-1), 1) := by decide +kernel
theorem dX4_loopLine_43 : decode cX4_loopLine 43 = .ok (.if_icmp .eq 9, 3) := by decide +kernel
theorem dX4_loopLine_46 : decode cX4_loopLine 46 = .ok (.aload_n 0, 1) := by decide +kernel
theorem dX4_loopLine_47 : decode cX4_loopLine 47 = .ok (.iconst 1, 1) := by decide +kernel
theorem dX4_loopLine_48 : decode cX4_loopLine 48 = .ok (.invokevirtual 71, 3) := by decide +kernel
theorem dX4_loopLine_51 : decode cX4_loopLine 51 = .ok (.ireturn, 1) := by decide +kernel
theorem dX4_loopLine_52 : decode cX4_loopLine 52 = .ok (.aload_n 0, 1) := by decide +kernel
theorem dX4_loopLine_53 : decode cX4_loopLine 53 = .ok (.aload_n 0, 1) := by decide +kernel
theorem dX4_loopLine_54 : decode cX4_loopLine 54 = .ok (.getfield 29, 3) := by decide +kernel
theorem dX4_loopLine_57 : decode cX4_loopLine 57 = .ok (.getfield 84, 3) := by decide +kernel
theorem dX4_loopLine_60 : decode cX4_loopLine 60 = .ok (.iconst 1, 1) := by decide +kernel
theorem dX4_loopLine_61 : decode cX4_loopLine 61 = .ok (.invokevirtual 124, 3) := by decide +kernel
theorem dX4_loopLine_64 : decode cX4_loopLine 64 = .ok (.istore_n 1, 1) := by decide +kernel
theorem dX4_loopLine_65 : decode cX4_loopLine 65 = .ok (.iload_n 1, 1) := by decide +kernel
theorem dX4_loopLine_66 : decode cX4_loopLine 66 = .ok (.iconst (-1), 1) := by decide +kernel
theorem dX4_loopLine_67 : decode cX4_loopLine 67 = .ok (.if_icmp .ne 9, 3) := by decide +kernel
theorem dX4_loopLine_70 : decode cX4_loopLine 70 = .ok (.aload_n 0, 1) := by decide +kernel
theorem dX4_loopLine_71 : decode cX4_loopLine 71 = .ok (.iconst 2, 1) := by decide +kernel
theorem dX4_loopLine_72 : decode cX4_loopLine 72 = .ok (.invokevirtual 71, 3) := by decide +kernel
theorem dX4_loopLine_75 : decode cX4_loopLine 75 = .ok (.ireturn, 1) := by decide +kernel
theorem dX4_loopLine_76 : decode cX4_loopLine 76 = .ok (.aload_n 0, 1) := by decide +kernel
theorem dX4_loopLine_77 : decode cX4_loopLine 77 = .ok (.getfield 29, 3) := by decide +kernel
theorem dX4_loopLine_80 : decode cX4_loopLine 80 = .ok (.invokevirtual 75, 3) := by decide +kernel
theorem dX4_loopLine_83 : decode cX4_loopLine 83 = .ok (.aload_n 0, 1) := by decide +kernel
theorem dX4_loopLine_84 : decode cX4_loopLine 84 = .ok (.iconst 1, 1) := by decide +kernel
theorem dX4_loopLine_85 : decode cX4_loopLine 85 = .ok (.bipush 20, 2) := by decide +kernel
theorem dX4_loopLine_87 : decode cX4_loopLine 87 = .ok (.invokevirtual 138, 3) := by decide +kernel
theorem dX4_loopLine_90 : decode cX4_loopLine 90 = .ok (.ifCond .ne 5, 3) := by decide +kernel
theorem dX4_loopLine_93 : decode cX4_loopLine 93 = .ok (.iconst 0, 1) := by decide +kernel
theorem dX4_loopLine_94 : decode cX4_loopLine 94 = .ok (.ireturn, 1) := by decide +kernel
theorem dX4_loopLine_95 : decode cX4_loopLine 95 = .ok (.aload_n 0, 1) := by decide +kernel
theorem dX4_loopLine_96 : decode cX4_loopLine 96 = .ok (.iconst 0, 1) := by decide +kernel
theorem dX4_loopLine_97 : decode cX4_loopLine 97 = .ok (.invokevirtual 168, 3) := by decide +kernel
theorem dX4_loopLine_100 : decode cX4_loopLine 100 = .ok (.aload_n 0, 1) := by decide +kernel
theorem dX4_loopLine_101 : decode cX4_loopLine 101 = .ok (.getfield 33, 3) := by decide +kernel
theorem dX4_loopLine_104 : decode cX4_loopLine 104 = .ok (.bipush 10, 2) := by decide +kernel
theorem dX4_loopLine_106 : decode cX4_loopLine 106 = .ok (.iload_n 1, 1) := by decide +kernel
theorem dX4_loopLine_107 : decode cX4_loopLine 107 = .ok (.aload_n 0, 1) := by decide +kernel
theorem dX4_loopLine_108 : decode cX4_loopLine 108 = .ok (.getfield 29, 3) := by decide +kernel
theorem dX4_loopLine_111 : decode cX4_loopLine 111 = .ok (.getfield 84, 3) := by decide +kernel
theorem dX4_loopLine_114 : decode cX4_loopLine 114 = .ok (.invokevirtual 165, 3) := by decide +kernel
theorem dX4_loopLine_117 : decode cX4_loopLine 117 = .ok (.aload_n 0, 1) := by decide +kernel
theorem dX4_loopLine_118 : decode cX4_loopLine 118 = .ok (.getfield 29, 3) := by decide +kernel
theorem dX4_loopLine_121 : decode cX4_loopLine 121 = .ok (.invokevirtual 75, 3) := by decide +kernel
theorem dX4_loopLine_124 : decode cX4_loopLine 124 = .ok (.iconst 1, 1) := by decide +kernel
theorem dX4_loopLine_125 : decode cX4_loopLine 125 = .ok (.ireturn, 1) := by decide +kernel
theorem dX4_openBlock_0 : decode cX4_openBlock 0 = .ok (.aload_n 0, 1) := by decide +kernel
theorem dX4_openBlock_1 : decode cX4_openBlock 1 = .ok (.getfield 42, 3) := by decide +kernel
theorem dX4_openBlock_4 : decode cX4_openBlock 4 = .ok (.ifCond .lt 47, 3) := by decide +kernel
theorem dX4_openBlock_7 : decode cX4_openBlock 7 = .ok (.aload_n 0, 1) := by decide +kernel
theorem dX4_openBlock_8 : decode cX4_openBlock 8 = .ok (.getfield 42, 3) := by decide +kernel
theorem dX4_openBlock_11 : decode cX4_openBlock 11 = .ok (.iconst 4, 1) := by decide +kernel
theorem dX4_openBlock_12 : decode cX4_openBlock 12 = .ok (.if_icmp .ge 39, 3) := by decide +kernel
theorem dX4_openBlock_15 : decode cX4_openBlock 15 = .ok (.aload_n 0, 1) := by decide +kernel
theorem dX4_openBlock_16 : decode cX4_openBlock 16 = .ok (.getfield 18, 3) := by decide +kernel
theorem dX4_openBlock_19 : decode cX4_openBlock 19 = .ok (.aload_n 0, 1) := by decide +kernel
theorem dX4_openBlock_20 : decode cX4_openBlock 20 = .ok (.getfield 42, 3) := by decide +kernel
theorem dX4_openBlock_23 : decode cX4_openBlock 23 = .ok (.iload_n 1, 1) := by decide +kernel
theorem dX4_openBlock_24 : decode cX4_openBlock 24 = .ok (.iastore, 1) := by decide +kernel
theorem dX4_openBlock_25 : decode cX4_openBlock 25 = .ok (.aload_n 0, 1) := by decide +kernel
theorem dX4_openBlock_26 : decode cX4_openBlock 26 = .ok (.getfield 21, 3) := by decide +kernel
theorem dX4_openBlock_29 : decode cX4_openBlock 29 = .ok (.aload_n 0, 1) := by decide +kernel
theorem dX4_openBlock_30 : decode cX4_openBlock 30 = .ok (.getfield 42, 3) := by decide +kernel
theorem dX4_openBlock_33 : decode cX4_openBlock 33 = .ok (.aload_n 0, 1) := by decide +kernel
theorem dX4_openBlock_34 : decode cX4_openBlock 34 = .ok (.getfield 33, 3) := by decide +kernel
theorem dX4_openBlock_37 : decode cX4_openBlock 37 = .ok (.getfield 171, 3) := by decide +kernel
theorem dX4_openBlock_40 : decode cX4_openBlock 40 = .ok (.iastore, 1) := by decide +kernel
theorem dX4_openBlock_41 : decode cX4_openBlock 41 = .ok (.aload_n 0, 1) := by decide +kernel
theorem dX4_openBlock_42 : decode cX4_openBlock 42 = .ok (.dup, 1) := by decide +kernel
theorem dX4_openBlock_43 : decode cX4_openBlock 43 = .ok (.getfield 42, 3) := by decide +kernel
theorem dX4_openBlock_46 : decode cX4_openBlock 46 = .ok (.iconst 1, 1) := by decide +kernel
theorem dX4_openBlock_47 : decode cX4_openBlock 47 = .ok (.iadd, 1) := by decide +kernel
theorem dX4_openBlock_48 : decode cX4_openBlock 48 = .ok (.putfield 42, 3) := by decide +kernel
theorem dX4_openBlock_51 : decode cX4_openBlock 51 = .ok (.return_, 1) := by decide +kernel
theorem dX4_ifLine_0 : decode cX4_ifLine 0 = .ok (.aload_n 0, 1) := by decide +kernel
theorem dX4_ifLine_1 : decode cX4_ifLine 1 = .ok (.getfield 42, 3) := by decide +kernel
theorem dX4_ifLine_4 : decode cX4_ifLine 4 = .ok (.iconst 4, 1) := by decide +kernel
theorem dX4_ifLine_5 : decode cX4_ifLine 5 = .ok (.if_icmp .lt 9, 3) := by decide +kernel
theorem dX4_ifLine_8 : decode cX4_ifLine 8 = .ok (.aload_n 0, 1) := by decide +kernel
theorem dX4_ifLine_9 : decode cX4_ifLine 9 = .ok (.iconst 2, 1) := by decide +kernel
theorem dX4_ifLine_10 : decode cX4_ifLine 10 = .ok (.invokevirtual 71, 3) := by decide +kernel
theorem dX4_ifLine_13 : decode cX4_ifLine 13 = .ok (.ireturn, 1) := by decide +kernel
theorem dX4_ifLine_14 : decode cX4_ifLine 14 = .ok (.aload_n 0, 1) := by decide +kernel
theorem dX4_ifLine_15 : decode cX4_ifLine 15 = .ok (.getfield 29, 3) := by decide +kernel
theorem dX4_ifLine_18 : decode cX4_ifLine 18 = .ok (.invokevirtual 75, 3) := by decide +kernel
theorem dX4_ifLine_21 : decode cX4_ifLine 21 = .ok (.aload_n 0, 1) := by decide +kernel
theorem dX4_ifLine_22 : decode cX4_ifLine 22 = .ok (.iconst 0, 1) := by decide +kernel
theorem dX4_ifLine_23 : decode cX4_ifLine 23 = .ok (.invokevirtual 162, 3) := by decide +kernel
theorem dX4_ifLine_26 : decode cX4_ifLine 26 = .ok (.ifCond .ne 5, 3) := by decide +kernel
theorem dX4_ifLine_29 : decode cX4_ifLine 29 = .ok (.iconst 0, 1) := by decide +kernel
theorem dX4_ifLine_30 : decode cX4_ifLine 30 = .ok (.ireturn, 1) := by decide +kernel
theorem dX4_ifLine_31 : decode cX4_ifLine 31 = .ok (.aload_n 0, 1) := by decide +kernel
theorem dX4_ifLine_32 : decode cX4_ifLine 32 = .ok (.getfield 29, 3) := by decide +kernel
theorem dX4_ifLine_35 : decode cX4_ifLine 35 = .ok (.bipush 60, 2) := by decide +kernel
theorem dX4_ifLine_37 : decode cX4_ifLine 37 = .ok (.invokevirtual 67, 3) := by decide +kernel
theorem dX4_ifLine_40 : decode cX4_ifLine 40 = .ok (.ifCond .eq 8, 3) := by decide +kernel
theorem dX4_ifLine_43 : decode cX4_ifLine 43 = .ok (.bipush 12, 2) := by decide +kernel
theorem dX4_ifLine_45 : decode cX4_ifLine 45 = .ok (.goto 5, 3) := by decide +kernel
theorem dX4_ifLine_48 : decode cX4_ifLine 48 = .ok (.bipush 13, 2) := by decide +kernel
theorem dX4_ifLine_50 : decode cX4_ifLine 50 = .ok (.istore_n 1, 1) := by decide +kernel
theorem dX4_ifLine_51 : decode cX4_ifLine 51 = .ok (.iload_n 1, 1) := by decide +kernel
theorem dX4_ifLine_52 : decode cX4_ifLine 52 = .ok (.bipush 13, 2) := by decide +kernel
theorem dX4_ifLine_54 : decode cX4_ifLine 54 = .ok (.if_icmp .ne 21, 3) := by decide +kernel
theorem dX4_ifLine_57 : decode cX4_ifLine 57 = .ok (.aload_n 0, 1) := by decide +kernel
theorem dX4_ifLine_58 : decode cX4_ifLine 58 = .ok (.getfield 29, 3) := by decide +kernel
theorem dX4_ifLine_61 : decode cX4_ifLine 61 = .ok (.bipush 61, 2) := by decide +kernel
theorem dX4_ifLine_63 : decode cX4_ifLine 63 = .ok (.invokevirtual 67, 3) := by decide +kernel
theorem dX4_ifLine_66 : decode cX4_ifLine 66 = .ok (.ifCond .ne 9, 3) := by decide +kernel
theorem dX4_ifLine_69 : decode cX4_ifLine 69 = .ok (.aload_n 0, 1) := by decide +kernel
theorem dX4_ifLine_70 : decode cX4_ifLine 70 = .ok (.iconst 1, 1) := by decide +kernel
theorem dX4_ifLine_71 : decode cX4_ifLine 71 = .ok (.invokevirtual 71, 3) := by decide +kernel
theorem dX4_ifLine_74 : decode cX4_ifLine 74 = .ok (.ireturn, 1) := by decide +kernel
theorem dX4_ifLine_75 : decode cX4_ifLine 75 = .ok (.aload_n 0, 1) := by decide +kernel
theorem dX4_ifLine_76 : decode cX4_ifLine 76 = .ok (.getfield 29, 3) := by decide +kernel
theorem dX4_ifLine_79 : decode cX4_ifLine 79 = .ok (.invokevirtual 75, 3) := by decide +kernel
theorem dX4_ifLine_82 : decode cX4_ifLine 82 = .ok (.aload_n 0, 1) := by decide +kernel
theorem dX4_ifLine_83 : decode cX4_ifLine 83 = .ok (.iconst 0, 1) := by decide +kernel
theorem dX4_ifLine_84 : decode cX4_ifLine 84 = .ok (.invokevirtual 162, 3) := by decide +kernel
theorem dX4_ifLine_87 : decode cX4_ifLine 87 = .ok (.ifCond .ne 5, 3) := by decide +kernel
theorem dX4_ifLine_90 : decode cX4_ifLine 90 = .ok (.iconst 0, 1) := by decide +kernel
theorem dX4_ifLine_91 : decode cX4_ifLine 91 = .ok (.ireturn, 1) := by decide +kernel
theorem dX4_ifLine_92 : decode cX4_ifLine 92 = .ok (.aload_n 0, 1) := by decide +kernel
theorem dX4_ifLine_93 : decode cX4_ifLine 93 = .ok (.iconst 1, 1) := by decide +kernel
theorem dX4_ifLine_94 : decode cX4_ifLine 94 = .ok (.invokevirtual 168, 3) := by decide +kernel
theorem dX4_ifLine_97 : decode cX4_ifLine 97 = .ok (.aload_n 0, 1) := by decide +kernel
theorem dX4_ifLine_98 : decode cX4_ifLine 98 = .ok (.getfield 33, 3) := by decide +kernel
theorem dX4_ifLine_101 : decode cX4_ifLine 101 = .ok (.iload_n 1, 1) := by decide +kernel
theorem dX4_ifLine_102 : decode cX4_ifLine 102 = .ok (.iconst 0, 1) := by decide +kernel
theorem dX4_ifLine_103 : decode cX4_ifLine 103 = .ok (.iconst 0, 1) := by decide +kernel
theorem dX4_ifLine_104 : decode cX4_ifLine 104 = .ok (.invokevirtual 165, 3) := by decide +kernel
theorem dX4_ifLine_107 : decode cX4_ifLine 107 = .ok (.iconst 1, 1) := by decide +kernel
theorem dX4_ifLine_108 : decode cX4_ifLine 108 = .ok (.ireturn, 1) := by decide +kernel
theorem dX4_elseLine_0 : decode cX4_elseLine 0 = .ok (.aload_n 0, 1) := by decide +kernel
theorem dX4_elseLine_1 : decode cX4_elseLine 1 = .ok (.getfield 42, 3) := by decide +kernel
theorem dX4_elseLine_4 : decode cX4_elseLine 4 = .ok (.iconst 1, 1) := by decide +kernel
theorem dX4_elseLine_5 : decode cX4_elseLine 5 = .ok (.isub, 1) := by decide +kernel
theorem dX4_elseLine_6 : decode cX4_elseLine 6 = .ok (.istore_n 1, 1) := by decide +kernel
theorem dX4_elseLine_7 : decode cX4_elseLine 7 = .ok (.iload_n 1, 1) := by decide +kernel
theorem dX4_elseLine_8 : decode cX4_elseLine 8 = .ok (.ifCond .lt 18, 3) := by decide +kernel
theorem dX4_elseLine_11 : decode cX4_elseLine 11 = .ok (.iload_n 1, 1) := by decide +kernel
theorem dX4_elseLine_12 : decode cX4_elseLine 12 = .ok (.iconst 4, 1) := by decide +kernel
theorem dX4_elseLine_13 : decode cX4_elseLine 13 = .ok (.if_icmp .ge 13, 3) := by decide +kernel
theorem dX4_elseLine_16 : decode cX4_elseLine 16 = .ok (.aload_n 0, 1) := by decide +kernel
theorem dX4_elseLine_17 : decode cX4_elseLine 17 = .ok (.getfield 18, 3) := by decide +kernel
theorem dX4_elseLine_20 : decode cX4_elseLine 20 = .ok (.iload_n 1, 1) := by decide +kernel
theorem dX4_elseLine_21 : decode cX4_elseLine 21 = .ok (.iaload, 1) := by decide +kernel
theorem dX4_elseLine_22 : decode cX4_elseLine 22 = .ok (.iconst 1, 1) := by decide +kernel
theorem dX4_elseLine_23 : decode cX4_elseLine 23 = .ok (.if_icmp .eq 9, 3) := by decide +kernel
theorem dX4_elseLine_26 : decode cX4_elseLine 26 = .ok (.aload_n 0, 1) := by decide +kernel
theorem dX4_elseLine_27 : decode cX4_elseLine 27 = .ok (.iconst 1, 1) := by decide +kernel
theorem dX4_elseLine_28 : decode cX4_elseLine 28 = .ok (.invokevirtual 71, 3) := by decide +kernel
theorem dX4_elseLine_31 : decode cX4_elseLine 31 = .ok (.ireturn, 1) := by decide +kernel
theorem dX4_elseLine_32 : decode cX4_elseLine 32 = .ok (.aload_n 0, 1) := by decide +kernel
theorem dX4_elseLine_33 : decode cX4_elseLine 33 = .ok (.getfield 21, 3) := by decide +kernel
theorem dX4_elseLine_36 : decode cX4_elseLine 36 = .ok (.iload_n 1, 1) := by decide +kernel
theorem dX4_elseLine_37 : decode cX4_elseLine 37 = .ok (.iaload, 1) := by decide +kernel
theorem dX4_elseLine_38 : decode cX4_elseLine 38 = .ok (.istore_n 2, 1) := by decide +kernel
theorem dX4_elseLine_39 : decode cX4_elseLine 39 = .ok (.aload_n 0, 1) := by decide +kernel
theorem dX4_elseLine_40 : decode cX4_elseLine 40 = .ok (.getfield 18, 3) := by decide +kernel
theorem dX4_elseLine_43 : decode cX4_elseLine 43 = .ok (.iload_n 1, 1) := by decide +kernel
theorem dX4_elseLine_44 : decode cX4_elseLine 44 = .ok (.iconst 2, 1) := by decide +kernel
theorem dX4_elseLine_45 : decode cX4_elseLine 45 = .ok (.iastore, 1) := by decide +kernel
theorem dX4_elseLine_46 : decode cX4_elseLine 46 = .ok (.aload_n 0, 1) := by decide +kernel
theorem dX4_elseLine_47 : decode cX4_elseLine 47 = .ok (.getfield 21, 3) := by decide +kernel
theorem dX4_elseLine_50 : decode cX4_elseLine 50 = .ok (.iload_n 1, 1) := by decide +kernel
theorem dX4_elseLine_51 : decode cX4_elseLine 51 = .ok (.aload_n 0, 1) := by decide +kernel
theorem dX4_elseLine_52 : decode cX4_elseLine 52 = .ok (.getfield 33, 3) := by decide +kernel
theorem dX4_elseLine_55 : decode cX4_elseLine 55 = .ok (.getfield 171, 3) := by decide +kernel
theorem dX4_elseLine_58 : decode cX4_elseLine 58 = .ok (.iastore, 1) := by decide +kernel
theorem dX4_elseLine_59 : decode cX4_elseLine 59 = .ok (.aload_n 0, 1) := by decide +kernel
theorem dX4_elseLine_60 : decode cX4_elseLine 60 = .ok (.getfield 33, 3) := by decide +kernel
theorem dX4_elseLine_63 : decode cX4_elseLine 63 = .ok (.bipush 14, 2) := by decide +kernel
theorem dX4_elseLine_65 : decode cX4_elseLine 65 = .ok (.iconst 0, 1) := by decide +kernel
theorem dX4_elseLine_66 : decode cX4_elseLine 66 = .ok (.iconst 0, 1) := by decide +kernel
theorem dX4_elseLine_67 : decode cX4_elseLine 67 = .ok (.invokevirtual 165, 3) := by decide +kernel
theorem dX4_elseLine_70 : decode cX4_elseLine 70 = .ok (.aload_n 0, 1) := by decide +kernel
theorem dX4_elseLine_71 : decode cX4_elseLine 71 = .ok (.getfield 33, 3) := by decide +kernel
theorem dX4_elseLine_74 : decode cX4_elseLine 74 = .ok (.iload_n 2, 1) := by decide +kernel
theorem dX4_elseLine_75 : decode cX4_elseLine 75 = .ok (.invokevirtual 174, 3) := by decide +kernel
theorem dX4_elseLine_78 : decode cX4_elseLine 78 = .ok (.aload_n 0, 1) := by decide +kernel
theorem dX4_elseLine_79 : decode cX4_elseLine 79 = .ok (.getfield 29, 3) := by decide +kernel
theorem dX4_elseLine_82 : decode cX4_elseLine 82 = .ok (.invokevirtual 75, 3) := by decide +kernel
theorem dX4_elseLine_85 : decode cX4_elseLine 85 = .ok (.iconst 1, 1) := by decide +kernel
theorem dX4_elseLine_86 : decode cX4_elseLine 86 = .ok (.ireturn, 1) := by decide +kernel
theorem dX4_endLine_0 : decode cX4_endLine 0 = .ok (.aload_n 0, 1) := by decide +kernel
theorem dX4_endLine_1 : decode cX4_endLine 1 = .ok (.getfield 42, 3) := by decide +kernel
theorem dX4_endLine_4 : decode cX4_endLine 4 = .ok (.iconst 1, 1) := by decide +kernel
theorem dX4_endLine_5 : decode cX4_endLine 5 = .ok (.isub, 1) := by decide +kernel
theorem dX4_endLine_6 : decode cX4_endLine 6 = .ok (.istore_n 1, 1) := by decide +kernel
theorem dX4_endLine_7 : decode cX4_endLine 7 = .ok (.iload_n 1, 1) := by decide +kernel
theorem dX4_endLine_8 : decode cX4_endLine 8 = .ok (.ifCond .lt 8, 3) := by decide +kernel
theorem dX4_endLine_11 : decode cX4_endLine 11 = .ok (.iload_n 1, 1) := by decide +kernel
theorem dX4_endLine_12 : decode cX4_endLine 12 = .ok (.iconst 4, 1) := by decide +kernel
theorem dX4_endLine_13 : decode cX4_endLine 13 = .ok (.if_icmp .lt 9, 3) := by decide +kernel
theorem dX4_endLine_16 : decode cX4_endLine 16 = .ok (.aload_n 0, 1) := by decide +kernel
theorem dX4_endLine_17 : decode cX4_endLine 17 = .ok (.iconst 1, 1) := by decide +kernel
theorem dX4_endLine_18 : decode cX4_endLine 18 = .ok (.invokevirtual 71, 3) := by decide +kernel
theorem dX4_endLine_21 : decode cX4_endLine 21 = .ok (.ireturn, 1) := by decide +kernel
theorem dX4_endLine_22 : decode cX4_endLine 22 = .ok (.aload_n 0, 1) := by decide +kernel
theorem dX4_endLine_23 : decode cX4_endLine 23 = .ok (.getfield 18, 3) := by decide +kernel
theorem dX4_endLine_26 : decode cX4_endLine 26 = .ok (.iload_n 1, 1) := by decide +kernel
theorem dX4_endLine_27 : decode cX4_endLine 27 = .ok (.iaload, 1) := by decide +kernel
theorem dX4_endLine_28 : decode cX4_endLine 28 = .ok (.ifCond .ne 24, 3) := by decide +kernel
theorem dX4_endLine_31 : decode cX4_endLine 31 = .ok (.aload_n 0, 1) := by decide +kernel
theorem dX4_endLine_32 : decode cX4_endLine 32 = .ok (.getfield 33, 3) := by decide +kernel
theorem dX4_endLine_35 : decode cX4_endLine 35 = .ok (.bipush 11, 2) := by decide +kernel
theorem dX4_endLine_37 : decode cX4_endLine 37 = .ok (.aload_n 0, 1) := by decide +kernel
theorem dX4_endLine_38 : decode cX4_endLine 38 = .ok (.getfield 21, 3) := by decide +kernel
theorem dX4_endLine_41 : decode cX4_endLine 41 = .ok (.iload_n 1, 1) := by decide +kernel
theorem dX4_endLine_42 : decode cX4_endLine 42 = .ok (.iaload, 1) := by decide +kernel
theorem dX4_endLine_43 : decode cX4_endLine 43 = .ok (.iconst 1, 1) := by decide +kernel
theorem dX4_endLine_44 : decode cX4_endLine 44 = .ok (.iadd, 1) := by decide +kernel
theorem dX4_endLine_45 : decode cX4_endLine 45 = .ok (.iconst 0, 1) := by decide +kernel
theorem dX4_endLine_46 : decode cX4_endLine 46 = .ok (.invokevirtual 165, 3) := by decide +kernel
theorem dX4_endLine_49 : decode cX4_endLine 49 = .ok (.goto 16, 3) := by decide +kernel
theorem dX4_endLine_52 : decode cX4_endLine 52 = .ok (.aload_n 0, 1) := by decide +kernel
theorem dX4_endLine_53 : decode cX4_endLine 53 = .ok (.getfield 33, 3) := by decide +kernel
theorem dX4_endLine_56 : decode cX4_endLine 56 = .ok (.aload_n 0, 1) := by decide +kernel
theorem dX4_endLine_57 : decode cX4_endLine 57 = .ok (.getfield 21, 3) := by decide +kernel
theorem dX4_endLine_60 : decode cX4_endLine 60 = .ok (.iload_n 1, 1) := by decide +kernel
theorem dX4_endLine_61 : decode cX4_endLine 61 = .ok (.iaload, 1) := by decide +kernel
theorem dX4_endLine_62 : decode cX4_endLine 62 = .ok (.invokevirtual 174, 3) := by decide +kernel
theorem dX4_endLine_65 : decode cX4_endLine 65 = .ok (.aload_n 0, 1) := by decide +kernel
theorem dX4_endLine_66 : decode cX4_endLine 66 = .ok (.iload_n 1, 1) := by decide +kernel
theorem dX4_endLine_67 : decode cX4_endLine 67 = .ok (.putfield 42, 3) := by decide +kernel
theorem dX4_endLine_70 : decode cX4_endLine 70 = .ok (.aload_n 0, 1) := by decide +kernel
theorem dX4_endLine_71 : decode cX4_endLine 71 = .ok (.getfield 29, 3) := by decide +kernel
theorem dX4_endLine_74 : decode cX4_endLine 74 = .ok (.invokevirtual 75, 3) := by decide +kernel
theorem dX4_endLine_77 : decode cX4_endLine 77 = .ok (.iconst 1, 1) := by decide +kernel
theorem dX4_endLine_78 : decode cX4_endLine 78 = .ok (.ireturn, 1) := by decide +kernel
theorem dX4_outLine_0 : decode cX4_outLine 0 = .ok (.aload_n 0, 1) := by decide +kernel
theorem dX4_outLine_1 : decode cX4_outLine 1 = .ok (.getfield 29, 3) := by decide +kernel
theorem dX4_outLine_4 : decode cX4_outLine 4 = .ok (.invokevirtual 75, 3) := by decide +kernel
theorem dX4_outLine_7 : decode cX4_outLine 7 = .ok (.aload_n 0, 1) := by decide +kernel
theorem dX4_outLine_8 : decode cX4_outLine 8 = .ok (.iconst 0, 1) := by decide +kernel
theorem dX4_outLine_9 : decode cX4_outLine 9 = .ok (.invokevirtual 162, 3) := by decide +kernel
theorem dX4_outLine_12 : decode cX4_outLine 12 = .ok (.ifCond .ne 5, 3) := by decide +kernel
theorem dX4_outLine_15 : decode cX4_outLine 15 = .ok (.iconst 0, 1) := by decide +kernel
theorem dX4_outLine_16 : decode cX4_outLine 16 = .ok (.ireturn, 1) := by decide +kernel
theorem dX4_outLine_17 : decode cX4_outLine 17 = .ok (.aload_n 0, 1) := by decide +kernel
theorem dX4_outLine_18 : decode cX4_outLine 18 = .ok (.getfield 33, 3) := by decide +kernel
theorem dX4_outLine_21 : decode cX4_outLine 21 = .ok (.bipush 9, 2) := by decide +kernel
theorem dX4_outLine_23 : decode cX4_outLine 23 = .ok (.iconst 0, 1) := by decide +kernel
theorem dX4_outLine_24 : decode cX4_outLine 24 = .ok (.iconst 0, 1) := by decide +kernel
theorem dX4_outLine_25 : decode cX4_outLine 25 = .ok (.invokevirtual 165, 3) := by decide +kernel
theorem dX4_outLine_28 : decode cX4_outLine 28 = .ok (.iconst 1, 1) := by decide +kernel
theorem dX4_outLine_29 : decode cX4_outLine 29 = .ok (.ireturn, 1) := by decide +kernel
theorem dX4_expression_0 : decode cX4_expression 0 = .ok (.iconst (-1), 1) := by decide +kernel
theorem dX4_expression_1 : decode cX4_expression 1 = .ok (.istore_n 2, 1) := by decide +kernel
theorem dX4_expression_2 : decode cX4_expression 2 = .ok (.iconst (-1), 1) := by decide +kernel
theorem dX4_expression_3 : decode cX4_expression 3 = .ok (.istore_n 3, 1) := by decide +kernel
theorem dX4_expression_4 : decode cX4_expression 4 = .ok (.iconst 0, 1) := by decide +kernel
theorem dX4_expression_5 : decode cX4_expression 5 = .ok (.istore 4, 2) := by decide +kernel
theorem dX4_expression_7 : decode cX4_expression 7 = .ok (.iload 4, 2) := by decide +kernel
theorem dX4_expression_9 : decode cX4_expression 9 = .ok (.sipush 900, 3) := by decide +kernel
theorem dX4_expression_12 : decode cX4_expression 12 = .ok (.if_icmp .ge 97, 3) := by decide +kernel
theorem dX4_expression_15 : decode cX4_expression 15 = .ok (.aload_n 0, 1) := by decide +kernel
theorem dX4_expression_16 : decode cX4_expression 16 = .ok (.iload_n 1, 1) := by decide +kernel
theorem dX4_expression_17 : decode cX4_expression 17 = .ok (.invokevirtual 177, 3) := by decide +kernel
theorem dX4_expression_20 : decode cX4_expression 20 = .ok (.ifCond .ne 5, 3) := by decide +kernel
theorem dX4_expression_23 : decode cX4_expression 23 = .ok (.iconst 0, 1) := by decide +kernel
theorem dX4_expression_24 : decode cX4_expression 24 = .ok (.ireturn, 1) := by decide +kernel
theorem dX4_expression_25 : decode cX4_expression 25 = .ok (.iload_n 3, 1) := by decide +kernel
theorem dX4_expression_26 : decode cX4_expression 26 = .ok (.iconst (-1), 1) := by decide +kernel
theorem dX4_expression_27 : decode cX4_expression 27 = .ok (.if_icmp .eq 15, 3) := by decide +kernel
theorem dX4_expression_30 : decode cX4_expression 30 = .ok (.aload_n 0, 1) := by decide +kernel
theorem dX4_expression_31 : decode cX4_expression 31 = .ok (.getfield 33, 3) := by decide +kernel
theorem dX4_expression_34 : decode cX4_expression 34 = .ok (.iload_n 3, 1) := by decide +kernel
theorem dX4_expression_35 : decode cX4_expression 35 = .ok (.iconst 0, 1) := by decide +kernel
theorem dX4_expression_36 : decode cX4_expression 36 = .ok (.iconst 0, 1) := by decide +kernel
theorem dX4_expression_37 : decode cX4_expression 37 = .ok (.invokevirtual 165, 3) := by decide +kernel
theorem dX4_expression_40 : decode cX4_expression 40 = .ok (.iconst (-1), 1) := by decide +kernel
theorem dX4_expression_41 : decode cX4_expression 41 = .ok (.istore_n 3, 1) := by decide +kernel
theorem dX4_expression_42 : decode cX4_expression 42 = .ok (.aload_n 0, 1) := by decide +kernel
theorem dX4_expression_43 : decode cX4_expression 43 = .ok (.getfield 29, 3) := by decide +kernel
theorem dX4_expression_46 : decode cX4_expression 46 = .ok (.invokevirtual 180, 3) := by decide +kernel
theorem dX4_expression_49 : decode cX4_expression 49 = .ok (.istore 5, 2) := by decide +kernel
theorem dX4_expression_51 : decode cX4_expression 51 = .ok (.iload 5, 2) := by decide +kernel
theorem dX4_expression_53 : decode cX4_expression 53 = .ok (.iconst 5, 1) := by decide +kernel
theorem dX4_expression_54 : decode cX4_expression 54 = .ok (.if_icmp .eq 10, 3) := by decide +kernel
theorem dX4_expression_57 : decode cX4_expression 57 = .ok (.iload 5, 2) := by decide +kernel
theorem dX4_expression_59 : decode cX4_expression 59 = .ok (.bipush 6, 2) := by decide +kernel
theorem dX4_expression_61 : decode cX4_expression 61 = .ok (.if_icmp .ne 9, 3) := by decide +kernel
theorem dX4_expression_64 : decode cX4_expression 64 = .ok (.iload 5, 2) := by decide +kernel
theorem dX4_expression_66 : decode cX4_expression 66 = .ok (.istore_n 3, 1) := by decide +kernel
theorem dX4_expression_67 : decode cX4_expression 67 = .ok (.goto 29, 3) := by decide +kernel
theorem dX4_expression_70 : decode cX4_expression 70 = .ok (.iload_n 2, 1) := by decide +kernel
theorem dX4_expression_71 : decode cX4_expression 71 = .ok (.iconst (-1), 1) := by decide +kernel
theorem dX4_expression_72 : decode cX4_expression 72 = .ok (.if_icmp .eq 13, 3) := by decide +kernel
theorem dX4_expression_75 : decode cX4_expression 75 = .ok (.aload_n 0, 1) := by decide +kernel
theorem dX4_expression_76 : decode cX4_expression 76 = .ok (.getfield 33, 3) := by decide +kernel
theorem dX4_expression_79 : decode cX4_expression 79 = .ok (.iload_n 2, 1) := by decide +kernel
theorem dX4_expression_80 : decode cX4_expression 80 = .ok (.iconst 0, 1) := by decide +kernel
theorem dX4_expression_81 : decode cX4_expression 81 = .ok (.iconst 0, 1) := by decide +kernel
theorem dX4_expression_82 : decode cX4_expression 82 = .ok (.invokevirtual 165, 3) := by decide +kernel
theorem dX4_expression_85 : decode cX4_expression 85 = .ok (.iload 5, 2) := by decide +kernel
theorem dX4_expression_87 : decode cX4_expression 87 = .ok (.iconst (-1), 1) := by decide +kernel
theorem dX4_expression_88 : decode cX4_expression 88 = .ok (.if_icmp .ne 5, 3) := by decide +kernel
theorem dX4_expression_91 : decode cX4_expression 91 = .ok (.iconst 1, 1) := by decide +kernel
theorem dX4_expression_92 : decode cX4_expression 92 = .ok (.ireturn, 1) := by decide +kernel
theorem dX4_expression_93 : decode cX4_expression 93 = .ok (.iload 5, 2) := by decide +kernel
theorem dX4_expression_95 : decode cX4_expression 95 = .ok (.istore_n 2, 1) := by decide +kernel
theorem dX4_expression_96 : decode cX4_expression 96 = .ok (.aload_n 0, 1) := by decide +kernel
theorem dX4_expression_97 : decode cX4_expression 97 = .ok (.getfield 29, 3) := by decide +kernel
theorem dX4_expression_100 : decode cX4_expression 100 = .ok (.invokevirtual 75, 3) := by decide +kernel
theorem dX4_expression_103 : decode cX4_expression 103 = .ok (.iinc 4 1, 3) := by decide +kernel
theorem dX4_expression_106 : decode cX4_expression 106 = .ok (.goto (-99), 3) := by decide +kernel
theorem dX4_expression_109 : decode cX4_expression 109 = .ok (.aload_n 0, 1) := by decide +kernel
theorem dX4_expression_110 : decode cX4_expression 110 = .ok (.iconst 1, 1) := by decide +kernel
theorem dX4_expression_111 : decode cX4_expression 111 = .ok (.invokevirtual 71, 3) := by decide +kernel
theorem dX4_expression_114 : decode cX4_expression 114 = .ok (.ireturn, 1) := by decide +kernel
theorem dX4_factor_0 : decode cX4_factor 0 = .ok (.aload_n 0, 1) := by decide +kernel
theorem dX4_factor_1 : decode cX4_factor 1 = .ok (.getfield 29, 3) := by decide +kernel
theorem dX4_factor_4 : decode cX4_factor 4 = .ok (.getfield 60, 3) := by decide +kernel
theorem dX4_factor_7 : decode cX4_factor 7 = .ok (.iconst 2, 1) := by decide +kernel
theorem dX4_factor_8 : decode cX4_factor 8 = .ok (.if_icmp .ne 47, 3) := by decide +kernel
theorem dX4_factor_11 : decode cX4_factor 11 = .ok (.aload_n 0, 1) := by decide +kernel
theorem dX4_factor_12 : decode cX4_factor 12 = .ok (.getfield 29, 3) := by decide +kernel
theorem dX4_factor_15 : decode cX4_factor 15 = .ok (.getfield 84, 3) := by decide +kernel
theorem dX4_factor_18 : decode cX4_factor 18 = .ok (.sipush 9999, 3) := by decide +kernel
theorem dX4_factor_21 : decode cX4_factor 21 = .ok (.if_icmp .le 9, 3) := by decide +kernel
theorem dX4_factor_24 : decode cX4_factor 24 = .ok (.aload_n 0, 1) := by decide +kernel
theorem dX4_factor_25 : decode cX4_factor 25 = .ok (.iconst 2, 1) := by decide +kernel
theorem dX4_factor_26 : decode cX4_factor 26 = .ok (.invokevirtual 71, 3) := by decide +kernel
theorem dX4_factor_29 : decode cX4_factor 29 = .ok (.ireturn, 1) := by decide +kernel
theorem dX4_factor_30 : decode cX4_factor 30 = .ok (.aload_n 0, 1) := by decide +kernel
theorem dX4_factor_31 : decode cX4_factor 31 = .ok (.getfield 33, 3) := by decide +kernel
theorem dX4_factor_34 : decode cX4_factor 34 = .ok (.iconst 0, 1) := by decide +kernel
theorem dX4_factor_35 : decode cX4_factor 35 = .ok (.aload_n 0, 1) := by decide +kernel
theorem dX4_factor_36 : decode cX4_factor 36 = .ok (.getfield 29, 3) := by decide +kernel
theorem dX4_factor_39 : decode cX4_factor 39 = .ok (.getfield 84, 3) := by decide +kernel
theorem dX4_factor_42 : decode cX4_factor 42 = .ok (.iconst 0, 1) := by decide +kernel
theorem dX4_factor_43 : decode cX4_factor 43 = .ok (.invokevirtual 165, 3) := by decide +kernel
theorem dX4_factor_46 : decode cX4_factor 46 = .ok (.aload_n 0, 1) := by decide +kernel
theorem dX4_factor_47 : decode cX4_factor 47 = .ok (.getfield 29, 3) := by decide +kernel
theorem dX4_factor_50 : decode cX4_factor 50 = .ok (.invokevirtual 75, 3) := by decide +kernel
theorem dX4_factor_53 : decode cX4_factor 53 = .ok (.iconst 1, 1) := by decide +kernel
theorem dX4_factor_54 : decode cX4_factor 54 = .ok (.ireturn, 1) := by decide +kernel
theorem dX4_factor_55 : decode cX4_factor 55 = .ok (.aload_n 0, 1) := by decide +kernel
theorem dX4_factor_56 : decode cX4_factor 56 = .ok (.getfield 29, 3) := by decide +kernel
theorem dX4_factor_59 : decode cX4_factor 59 = .ok (.invokevirtual 112, 3) := by decide +kernel
theorem dX4_factor_62 : decode cX4_factor 62 = .ok (.ifCond .ne 15, 3) := by decide +kernel
theorem dX4_factor_65 : decode cX4_factor 65 = .ok (.aload_n 0, 1) := by decide +kernel
theorem dX4_factor_66 : decode cX4_factor 66 = .ok (.bipush 40, 2) := by decide +kernel
theorem dX4_factor_68 : decode cX4_factor 68 = .ok (.bipush 41, 2) := by decide +kernel
theorem dX4_factor_70 : decode cX4_factor 70 = .ok (.iload_n 1, 1) := by decide +kernel
theorem dX4_factor_71 : decode cX4_factor 71 = .ok (.iconst 1, 1) := by decide +kernel
theorem dX4_factor_72 : decode cX4_factor 72 = .ok (.iadd, 1) := by decide +kernel
theorem dX4_factor_73 : decode cX4_factor 73 = .ok (.invokevirtual 158, 3) := by decide +kernel
theorem dX4_factor_76 : decode cX4_factor 76 = .ok (.ireturn, 1) := by decide +kernel
theorem dX4_factor_77 : decode cX4_factor 77 = .ok (.aload_n 0, 1) := by decide +kernel
theorem dX4_factor_78 : decode cX4_factor 78 = .ok (.aload_n 0, 1) := by decide +kernel
theorem dX4_factor_79 : decode cX4_factor 79 = .ok (.getfield 29, 3) := by decide +kernel
theorem dX4_factor_82 : decode cX4_factor 82 = .ok (.getfield 84, 3) := by decide +kernel
theorem dX4_factor_85 : decode cX4_factor 85 = .ok (.invokevirtual 128, 3) := by decide +kernel
theorem dX4_factor_88 : decode cX4_factor 88 = .ok (.istore_n 2, 1) := by decide +kernel
theorem dX4_factor_89 : decode cX4_factor 89 = .ok (.aload_n 0, 1) := by decide +kernel
theorem dX4_factor_90 : decode cX4_factor 90 = .ok (.aload_n 0, 1) := by decide +kernel
theorem dX4_factor_91 : decode cX4_factor 91 = .ok (.getfield 29, 3) := by decide +kernel
theorem dX4_factor_94 : decode cX4_factor 94 = .ok (.getfield 84, 3) := by decide +kernel
theorem dX4_factor_97 : decode cX4_factor 97 = .ok (.iconst 0, 1) := by decide +kernel
theorem dX4_factor_98 : decode cX4_factor 98 = .ok (.invokevirtual 124, 3) := by decide +kernel
theorem dX4_factor_101 : decode cX4_factor 101 = .ok (.istore_n 3, 1) := by decide +kernel
theorem dX4_factor_102 : decode cX4_factor 102 = .ok (.iload_n 2, 1) := by decide +kernel
theorem dX4_factor_103 : decode cX4_factor 103 = .ok (.iconst (-1), 1) := by decide +kernel
theorem dX4_factor_104 : decode cX4_factor 104 = .ok (.if_icmp .ne 14, 3) := by decide +kernel
theorem dX4_factor_107 : decode cX4_factor 107 = .ok (.iload_n 3, 1) := by decide +kernel
theorem dX4_factor_108 : decode cX4_factor 108 = .ok (.iconst (-1), 1) := by decide +kernel
theorem dX4_factor_109 : decode cX4_factor 109 = .ok (.if_icmp .ne 9, 3) := by decide +kernel
theorem dX4_factor_112 : decode cX4_factor 112 = .ok (.aload_n 0, 1) := by decide +kernel
theorem dX4_factor_113 : decode cX4_factor 113 = .ok (.iconst 1, 1) := by decide +kernel
theorem dX4_factor_114 : decode cX4_factor 114 = .ok (.invokevirtual 71, 3) := by decide +kernel
theorem dX4_factor_117 : decode cX4_factor 117 = .ok (.ireturn, 1) := by decide +kernel
theorem dX4_factor_118 : decode cX4_factor 118 = .ok (.aload_n 0, 1) := by decide +kernel
theorem dX4_factor_119 : decode cX4_factor 119 = .ok (.getfield 29, 3) := by decide +kernel
theorem dX4_factor_122 : decode cX4_factor 122 = .ok (.invokevirtual 75, 3) := by decide +kernel
theorem dX4_factor_125 : decode cX4_factor 125 = .ok (.iload_n 2, 1) := by decide +kernel
theorem dX4_factor_126 : decode cX4_factor 126 = .ok (.iconst (-1), 1) := by decide +kernel
theorem dX4_factor_127 : decode cX4_factor 127 = .ok (.if_icmp .eq 19, 3) := by decide +kernel
theorem dX4_factor_130 : decode cX4_factor 130 = .ok (.aload_n 0, 1) := by decide +kernel
theorem dX4_factor_131 : decode cX4_factor 131 = .ok (.bipush 91, 2) := by decide +kernel
theorem dX4_factor_133 : decode cX4_factor 133 = .ok (.bipush 93, 2) := by decide +kernel
theorem dX4_factor_135 : decode cX4_factor 135 = .ok (.iload_n 1, 1) := by decide +kernel
theorem dX4_factor_136 : decode cX4_factor 136 = .ok (.iconst 1, 1) := by decide +kernel
theorem dX4_factor_137 : decode cX4_factor 137 = .ok (.iadd, 1) := by decide +kernel
theorem dX4_factor_138 : decode cX4_factor 138 = .ok (.invokevirtual 158, 3) := by decide +kernel
theorem dX4_factor_141 : decode cX4_factor 141 = .ok (.ifCond .ne 5, 3) := by decide +kernel
theorem dX4_factor_144 : decode cX4_factor 144 = .ok (.iconst 0, 1) := by decide +kernel
theorem dX4_factor_145 : decode cX4_factor 145 = .ok (.ireturn, 1) := by decide +kernel
theorem dX4_factor_146 : decode cX4_factor 146 = .ok (.aload_n 0, 1) := by decide +kernel
theorem dX4_factor_147 : decode cX4_factor 147 = .ok (.getfield 33, 3) := by decide +kernel
theorem dX4_factor_150 : decode cX4_factor 150 = .ok (.iload_n 2, 1) := by decide +kernel
theorem dX4_factor_151 : decode cX4_factor 151 = .ok (.iconst (-1), 1) := by decide +kernel
theorem dX4_factor_152 : decode cX4_factor 152 = .ok (.if_icmp .ne 7, 3) := by decide +kernel
theorem dX4_factor_155 : decode cX4_factor 155 = .ok (.iconst 1, 1) := by decide +kernel
theorem dX4_factor_156 : decode cX4_factor 156 = .ok (.goto 4, 3) := by decide +kernel
theorem dX4_factor_159 : decode cX4_factor 159 = .ok (.iconst 2, 1) := by decide +kernel
theorem dX4_factor_160 : decode cX4_factor 160 = .ok (.iload_n 2, 1) := by decide +kernel
theorem dX4_factor_161 : decode cX4_factor 161 = .ok (.iconst (-1), 1) := by decide +kernel
theorem dX4_factor_162 : decode cX4_factor 162 = .ok (.if_icmp .ne 7, 3) := by decide +kernel
theorem dX4_factor_165 : decode cX4_factor 165 = .ok (.iload_n 3, 1) := by decide +kernel
theorem dX4_factor_166 : decode cX4_factor 166 = .ok (.goto 4, 3) := by decide +kernel
theorem dX4_factor_169 : decode cX4_factor 169 = .ok (.iload_n 2, 1) := by decide +kernel
theorem dX4_factor_170 : decode cX4_factor 170 = .ok (.iconst 0, 1) := by decide +kernel
theorem dX4_factor_171 : decode cX4_factor 171 = .ok (.invokevirtual 165, 3) := by decide +kernel
theorem dX4_factor_174 : decode cX4_factor 174 = .ok (.iconst 1, 1) := by decide +kernel
theorem dX4_factor_175 : decode cX4_factor 175 = .ok (.ireturn, 1) := by decide +kernel
theorem dX4_bracket_0 : decode cX4_bracket 0 = .ok (.aload_n 0, 1) := by decide +kernel
theorem dX4_bracket_1 : decode cX4_bracket 1 = .ok (.getfield 29, 3) := by decide +kernel
theorem dX4_bracket_4 : decode cX4_bracket 4 = .ok (.iload_n 1, 1) := by decide +kernel
theorem dX4_bracket_5 : decode cX4_bracket 5 = .ok (.invokevirtual 67, 3) := by decide +kernel
theorem dX4_bracket_8 : decode cX4_bracket 8 = .ok (.ifCond .ne 9, 3) := by decide +kernel
theorem dX4_bracket_11 : decode cX4_bracket 11 = .ok (.aload_n 0, 1) := by decide +kernel
theorem dX4_bracket_12 : decode cX4_bracket 12 = .ok (.iconst 1, 1) := by decide +kernel
theorem dX4_bracket_13 : decode cX4_bracket 13 = .ok (.invokevirtual 71, 3) := by decide +kernel
theorem dX4_bracket_16 : decode cX4_bracket 16 = .ok (.ireturn, 1) := by decide +kernel
theorem dX4_bracket_17 : decode cX4_bracket 17 = .ok (.iload_n 3, 1) := by decide +kernel
theorem dX4_bracket_18 : decode cX4_bracket 18 = .ok (.bipush 8, 2) := by decide +kernel
theorem dX4_bracket_20 : decode cX4_bracket 20 = .ok (.if_icmp .le 9, 3) := by decide +kernel
theorem dX4_bracket_23 : decode cX4_bracket 23 = .ok (.aload_n 0, 1) := by decide +kernel
theorem dX4_bracket_24 : decode cX4_bracket 24 = .ok (.iconst 2, 1) := by decide +kernel
theorem dX4_bracket_25 : decode cX4_bracket 25 = .ok (.invokevirtual 71, 3) := by decide +kernel
theorem dX4_bracket_28 : decode cX4_bracket 28 = .ok (.ireturn, 1) := by decide +kernel
theorem dX4_bracket_29 : decode cX4_bracket 29 = .ok (.aload_n 0, 1) := by decide +kernel
theorem dX4_bracket_30 : decode cX4_bracket 30 = .ok (.getfield 29, 3) := by decide +kernel
theorem dX4_bracket_33 : decode cX4_bracket 33 = .ok (.invokevirtual 75, 3) := by decide +kernel
theorem dX4_bracket_36 : decode cX4_bracket 36 = .ok (.aload_n 0, 1) := by decide +kernel
theorem dX4_bracket_37 : decode cX4_bracket 37 = .ok (.iload_n 3, 1) := by decide +kernel
theorem dX4_bracket_38 : decode cX4_bracket 38 = .ok (.invokevirtual 162, 3) := by decide +kernel
theorem dX4_bracket_41 : decode cX4_bracket 41 = .ok (.ifCond .ne 5, 3) := by decide +kernel
theorem dX4_bracket_44 : decode cX4_bracket 44 = .ok (.iconst 0, 1) := by decide +kernel
theorem dX4_bracket_45 : decode cX4_bracket 45 = .ok (.ireturn, 1) := by decide +kernel
theorem dX4_bracket_46 : decode cX4_bracket 46 = .ok (.aload_n 0, 1) := by decide +kernel
theorem dX4_bracket_47 : decode cX4_bracket 47 = .ok (.getfield 29, 3) := by decide +kernel
theorem dX4_bracket_50 : decode cX4_bracket 50 = .ok (.iload_n 2, 1) := by decide +kernel
theorem dX4_bracket_51 : decode cX4_bracket 51 = .ok (.invokevirtual 67, 3) := by decide +kernel
theorem dX4_bracket_54 : decode cX4_bracket 54 = .ok (.ifCond .ne 9, 3) := by decide +kernel
theorem dX4_bracket_57 : decode cX4_bracket 57 = .ok (.aload_n 0, 1) := by decide +kernel
theorem dX4_bracket_58 : decode cX4_bracket 58 = .ok (.iconst 1, 1) := by decide +kernel
theorem dX4_bracket_59 : decode cX4_bracket 59 = .ok (.invokevirtual 71, 3) := by decide +kernel
theorem dX4_bracket_62 : decode cX4_bracket 62 = .ok (.ireturn, 1) := by decide +kernel
theorem dX4_bracket_63 : decode cX4_bracket 63 = .ok (.aload_n 0, 1) := by decide +kernel
theorem dX4_bracket_64 : decode cX4_bracket 64 = .ok (.getfield 29, 3) := by decide +kernel
theorem dX4_bracket_67 : decode cX4_bracket 67 = .ok (.invokevirtual 75, 3) := by decide +kernel
theorem dX4_bracket_70 : decode cX4_bracket 70 = .ok (.iconst 1, 1) := by decide +kernel
theorem dX4_bracket_71 : decode cX4_bracket 71 = .ok (.ireturn, 1) := by decide +kernel
theorem dX4_rowOf_0 : decode cX4_rowOf 0 = .ok (.iconst 0, 1) := by decide +kernel
theorem dX4_rowOf_1 : decode cX4_rowOf 1 = .ok (.istore_n 2, 1) := by decide +kernel
theorem dX4_rowOf_2 : decode cX4_rowOf 2 = .ok (.iload_n 2, 1) := by decide +kernel
theorem dX4_rowOf_3 : decode cX4_rowOf 3 = .ok (.aload_n 0, 1) := by decide +kernel
theorem dX4_rowOf_4 : decode cX4_rowOf 4 = .ok (.getfield 33, 3) := by decide +kernel
theorem dX4_rowOf_7 : decode cX4_rowOf 7 = .ok (.getfield 132, 3) := by decide +kernel
theorem dX4_rowOf_10 : decode cX4_rowOf 10 = .ok (.if_icmp .ge 27, 3) := by decide +kernel
theorem dX4_rowOf_13 : decode cX4_rowOf 13 = .ok (.iload_n 2, 1) := by decide +kernel
theorem dX4_rowOf_14 : decode cX4_rowOf 14 = .ok (.bipush 6, 2) := by decide +kernel
theorem dX4_rowOf_16 : decode cX4_rowOf 16 = .ok (.if_icmp .ge 21, 3) := by decide +kernel
theorem dX4_rowOf_19 : decode cX4_rowOf 19 = .ok (.aload_n 0, 1) := by decide +kernel
theorem dX4_rowOf_20 : decode cX4_rowOf 20 = .ok (.getfield 15, 3) := by decide +kernel
theorem dX4_rowOf_23 : decode cX4_rowOf 23 = .ok (.iload_n 2, 1) := by decide +kernel
theorem dX4_rowOf_24 : decode cX4_rowOf 24 = .ok (.iaload, 1) := by decide +kernel
theorem dX4_rowOf_25 : decode cX4_rowOf 25 = .ok (.iload_n 1, 1) := by decide +kernel
theorem dX4_rowOf_26 : decode cX4_rowOf 26 = .ok (.if_icmp .ne 5, 3) := by decide +kernel
theorem dX4_rowOf_29 : decode cX4_rowOf 29 = .ok (.iload_n 2, 1) := by decide +kernel
theorem dX4_rowOf_30 : decode cX4_rowOf 30 = .ok (.ireturn, 1) := by decide +kernel
theorem dX4_rowOf_31 : decode cX4_rowOf 31 = .ok (.iinc 2 1, 3) := by decide +kernel
theorem dX4_rowOf_34 : decode cX4_rowOf 34 = .ok (.goto (-32), 3) := by decide +kernel
theorem dX4_rowOf_37 : decode cX4_rowOf 37 = .ok (.iconst (-1), 1) := by decide +kernel
theorem dX4_rowOf_38 : decode cX4_rowOf 38 = .ok (.ireturn, 1) := by decide +kernel
theorem dX4_variableOf_0 : decode cX4_variableOf 0 = .ok (.aload_n 0, 1) := by decide +kernel
theorem dX4_variableOf_1 : decode cX4_variableOf 1 = .ok (.getfield 33, 3) := by decide +kernel
theorem dX4_variableOf_4 : decode cX4_variableOf 4 = .ok (.getfield 184, 3) := by decide +kernel
theorem dX4_variableOf_7 : decode cX4_variableOf 7 = .ok (.istore_n 3, 1) := by decide +kernel
theorem dX4_variableOf_8 : decode cX4_variableOf 8 = .ok (.iconst 0, 1) := by decide +kernel
theorem dX4_variableOf_9 : decode cX4_variableOf 9 = .ok (.istore 4, 2) := by decide +kernel
theorem dX4_variableOf_11 : decode cX4_variableOf 11 = .ok (.iload 4, 2) := by decide +kernel
theorem dX4_variableOf_13 : decode cX4_variableOf 13 = .ok (.iload_n 3, 1) := by decide +kernel
theorem dX4_variableOf_14 : decode cX4_variableOf 14 = .ok (.if_icmp .ge 30, 3) := by decide +kernel
theorem dX4_variableOf_17 : decode cX4_variableOf 17 = .ok (.iload 4, 2) := by decide +kernel
theorem dX4_variableOf_19 : decode cX4_variableOf 19 = .ok (.bipush 8, 2) := by decide +kernel
theorem dX4_variableOf_21 : decode cX4_variableOf 21 = .ok (.if_icmp .ge 23, 3) := by decide +kernel
theorem dX4_variableOf_24 : decode cX4_variableOf 24 = .ok (.aload_n 0, 1) := by decide +kernel
theorem dX4_variableOf_25 : decode cX4_variableOf 25 = .ok (.getfield 9, 3) := by decide +kernel
theorem dX4_variableOf_28 : decode cX4_variableOf 28 = .ok (.iload 4, 2) := by decide +kernel
theorem dX4_variableOf_30 : decode cX4_variableOf 30 = .ok (.iaload, 1) := by decide +kernel
theorem dX4_variableOf_31 : decode cX4_variableOf 31 = .ok (.iload_n 1, 1) := by decide +kernel
theorem dX4_variableOf_32 : decode cX4_variableOf 32 = .ok (.if_icmp .ne 6, 3) := by decide +kernel
theorem dX4_variableOf_35 : decode cX4_variableOf 35 = .ok (.iload 4, 2) := by decide +kernel
theorem dX4_variableOf_37 : decode cX4_variableOf 37 = .ok (.ireturn, 1) := by decide +kernel
theorem dX4_variableOf_38 : decode cX4_variableOf 38 = .ok (.iinc 4 1, 3) := by decide +kernel
theorem dX4_variableOf_41 : decode cX4_variableOf 41 = .ok (.goto (-30), 3) := by decide +kernel
theorem dX4_variableOf_44 : decode cX4_variableOf 44 = .ok (.iload_n 2, 1) := by decide +kernel
theorem dX4_variableOf_45 : decode cX4_variableOf 45 = .ok (.ifCond .eq 13, 3) := by decide +kernel
theorem dX4_variableOf_48 : decode cX4_variableOf 48 = .ok (.iload_n 3, 1) := by decide +kernel
theorem dX4_variableOf_49 : decode cX4_variableOf 49 = .ok (.ifCond .lt 9, 3) := by decide +kernel
theorem dX4_variableOf_52 : decode cX4_variableOf 52 = .ok (.iload_n 3, 1) := by decide +kernel
theorem dX4_variableOf_53 : decode cX4_variableOf 53 = .ok (.bipush 8, 2) := by decide +kernel
theorem dX4_variableOf_55 : decode cX4_variableOf 55 = .ok (.if_icmp .lt 5, 3) := by decide +kernel
theorem dX4_variableOf_58 : decode cX4_variableOf 58 = .ok (.iconst (-1), 1) := by decide +kernel
theorem dX4_variableOf_59 : decode cX4_variableOf 59 = .ok (.ireturn, 1) := by decide +kernel
theorem dX4_variableOf_60 : decode cX4_variableOf 60 = .ok (.aload_n 0, 1) := by decide +kernel
theorem dX4_variableOf_61 : decode cX4_variableOf 61 = .ok (.getfield 9, 3) := by decide +kernel
theorem dX4_variableOf_64 : decode cX4_variableOf 64 = .ok (.iload_n 3, 1) := by decide +kernel
theorem dX4_variableOf_65 : decode cX4_variableOf 65 = .ok (.iload_n 1, 1) := by decide +kernel
theorem dX4_variableOf_66 : decode cX4_variableOf 66 = .ok (.iastore, 1) := by decide +kernel
theorem dX4_variableOf_67 : decode cX4_variableOf 67 = .ok (.aload_n 0, 1) := by decide +kernel
theorem dX4_variableOf_68 : decode cX4_variableOf 68 = .ok (.getfield 33, 3) := by decide +kernel
theorem dX4_variableOf_71 : decode cX4_variableOf 71 = .ok (.iload_n 3, 1) := by decide +kernel
theorem dX4_variableOf_72 : decode cX4_variableOf 72 = .ok (.iconst 1, 1) := by decide +kernel
theorem dX4_variableOf_73 : decode cX4_variableOf 73 = .ok (.iadd, 1) := by decide +kernel
theorem dX4_variableOf_74 : decode cX4_variableOf 74 = .ok (.putfield 184, 3) := by decide +kernel
theorem dX4_variableOf_77 : decode cX4_variableOf 77 = .ok (.iload_n 3, 1) := by decide +kernel
theorem dX4_variableOf_78 : decode cX4_variableOf 78 = .ok (.ireturn, 1) := by decide +kernel
theorem dX5_init_0 : decode cX5_init 0 = .ok (.aload_n 0, 1) := by decide +kernel
theorem dX5_init_1 : decode cX5_init 1 = .ok (.invokespecial 3, 3) := by decide +kernel
theorem dX5_init_4 : decode cX5_init 4 = .ok (.aload_n 0, 1) := by decide +kernel
theorem dX5_init_5 : decode cX5_init 5 = .ok (.sipush 900, 3) := by decide +kernel
theorem dX5_init_8 : decode cX5_init 8 = .ok (.newarray .int, 2) := by decide +kernel
theorem dX5_init_10 : decode cX5_init 10 = .ok (.putfield 9, 3) := by decide +kernel
theorem dX5_init_13 : decode cX5_init 13 = .ok (.aload_n 0, 1) := by decide +kernel
theorem dX5_init_14 : decode cX5_init 14 = .ok (.bipush 6, 2) := by decide +kernel
theorem dX5_init_16 : decode cX5_init 16 = .ok (.newarray .int, 2) := by decide +kernel
theorem dX5_init_18 : decode cX5_init 18 = .ok (.putfield 15, 3) := by decide +kernel
theorem dX5_init_21 : decode cX5_init 21 = .ok (.aload_n 0, 1) := by decide +kernel
theorem dX5_init_22 : decode cX5_init 22 = .ok (.bipush 6, 2) := by decide +kernel
theorem dX5_init_24 : decode cX5_init 24 = .ok (.newarray .int, 2) := by decide +kernel
theorem dX5_init_26 : decode cX5_init 26 = .ok (.putfield 18, 3) := by decide +kernel
theorem dX5_init_29 : decode cX5_init 29 = .ok (.return_, 1) := by decide +kernel
theorem dX5_clear_0 : decode cX5_clear 0 = .ok (.aload_n 0, 1) := by decide +kernel
theorem dX5_clear_1 : decode cX5_clear 1 = .ok (.iconst 0, 1) := by decide +kernel
theorem dX5_clear_2 : decode cX5_clear 2 = .ok (.putfield 21, 3) := by decide +kernel
theorem dX5_clear_5 : decode cX5_clear 5 = .ok (.aload_n 0, 1) := by decide +kernel
theorem dX5_clear_6 : decode cX5_clear 6 = .ok (.iconst 0, 1) := by decide +kernel
theorem dX5_clear_7 : decode cX5_clear 7 = .ok (.putfield 25, 3) := by decide +kernel
theorem dX5_clear_10 : decode cX5_clear 10 = .ok (.aload_n 0, 1) := by decide +kernel
theorem dX5_clear_11 : decode cX5_clear 11 = .ok (.iconst 0, 1) := by decide +kernel
theorem dX5_clear_12 : decode cX5_clear 12 = .ok (.putfield 28, 3) := by decide +kernel
theorem dX5_clear_15 : decode cX5_clear 15 = .ok (.aload_n 0, 1) := by decide +kernel
theorem dX5_clear_16 : decode cX5_clear 16 = .ok (.iconst 0, 1) := by decide +kernel
theorem dX5_clear_17 : decode cX5_clear 17 = .ok (.putfield 31, 3) := by decide +kernel
theorem dX5_clear_20 : decode cX5_clear 20 = .ok (.aload_n 0, 1) := by decide +kernel
theorem dX5_clear_21 : decode cX5_clear 21 = .ok (.iconst 0, 1) := by decide +kernel
theorem dX5_clear_22 : decode cX5_clear 22 = .ok (.putfield 34, 3) := by decide +kernel
theorem dX5_clear_25 : decode cX5_clear 25 = .ok (.aload_n 0, 1) := by decide +kernel
theorem dX5_clear_26 : decode cX5_clear 26 = .ok (.iconst 0, 1) := by decide +kernel
theorem dX5_clear_27 : decode cX5_clear 27 = .ok (.putfield 37, 3) := by decide +kernel
theorem dX5_clear_30 : decode cX5_clear 30 = .ok (.return_, 1) := by decide +kernel
theorem dX5_emit_0 : decode cX5_emit 0 = .ok (.aload_n 0, 1) := by decide +kernel
theorem dX5_emit_1 : decode cX5_emit 1 = .ok (.getfield 21, 3) := by decide +kernel
theorem dX5_emit_4 : decode cX5_emit 4 = .ok (.sipush 900, 3) := by decide +kernel
theorem dX5_emit_7 : decode cX5_emit 7 = .ok (.if_icmp .ge 32, 3) := by decide +kernel
theorem dX5_emit_10 : decode cX5_emit 10 = .ok (.aload_n 0, 1) := by decide +kernel
theorem dX5_emit_11 : decode cX5_emit 11 = .ok (.getfield 9, 3) := by decide +kernel
theorem dX5_emit_14 : decode cX5_emit 14 = .ok (.aload_n 0, 1) := by decide +kernel
theorem dX5_emit_15 : decode cX5_emit 15 = .ok (.getfield 21, 3) := by decide +kernel
theorem dX5_emit_18 : decode cX5_emit 18 = .ok (.iload_n 2, 1) := by decide +kernel
theorem dX5_emit_19 : decode cX5_emit 19 = .ok (.bipush 10, 2) := by decide +kernel
theorem dX5_emit_21 : decode cX5_emit 21 = .ok (.ishl, 1) := by decide +kernel
theorem dX5_emit_22 : decode cX5_emit 22 = .ok (.iload_n 3, 1) := by decide +kernel
theorem dX5_emit_23 : decode cX5_emit 23 = .ok (.iconst 4, 1) := by decide +kernel
theorem dX5_emit_24 : decode cX5_emit 24 = .ok (.ishl, 1) := by decide +kernel
theorem dX5_emit_25 : decode cX5_emit 25 = .ok (.ior, 1) := by decide +kernel
theorem dX5_emit_26 : decode cX5_emit 26 = .ok (.iload_n 1, 1) := by decide +kernel
theorem dX5_emit_27 : decode cX5_emit 27 = .ok (.ior, 1) := by decide +kernel
theorem dX5_emit_28 : decode cX5_emit 28 = .ok (.iastore, 1) := by decide +kernel
theorem dX5_emit_29 : decode cX5_emit 29 = .ok (.aload_n 0, 1) := by decide +kernel
theorem dX5_emit_30 : decode cX5_emit 30 = .ok (.dup, 1) := by decide +kernel
theorem dX5_emit_31 : decode cX5_emit 31 = .ok (.getfield 21, 3) := by decide +kernel
theorem dX5_emit_34 : decode cX5_emit 34 = .ok (.iconst 1, 1) := by decide +kernel
theorem dX5_emit_35 : decode cX5_emit 35 = .ok (.iadd, 1) := by decide +kernel
theorem dX5_emit_36 : decode cX5_emit 36 = .ok (.putfield 21, 3) := by decide +kernel
theorem dX5_emit_39 : decode cX5_emit 39 = .ok (.return_, 1) := by decide +kernel
theorem dX5_leadHere_0 : decode cX5_leadHere 0 = .ok (.iload_n 1, 1) := by decide +kernel
theorem dX5_leadHere_1 : decode cX5_leadHere 1 = .ok (.ifCond .lt 35, 3) := by decide +kernel
theorem dX5_leadHere_4 : decode cX5_leadHere 4 = .ok (.iload_n 1, 1) := by decide +kernel
theorem dX5_leadHere_5 : decode cX5_leadHere 5 = .ok (.aload_n 0, 1) := by decide +kernel
theorem dX5_leadHere_6 : decode cX5_leadHere 6 = .ok (.getfield 21, 3) := by decide +kernel
theorem dX5_leadHere_9 : decode cX5_leadHere 9 = .ok (.if_icmp .ge 27, 3) := by decide +kernel
theorem dX5_leadHere_12 : decode cX5_leadHere 12 = .ok (.aload_n 0, 1) := by decide +kernel
theorem dX5_leadHere_13 : decode cX5_leadHere 13 = .ok (.getfield 9, 3) := by decide +kernel
theorem dX5_leadHere_16 : decode cX5_leadHere 16 = .ok (.iload_n 1, 1) := by decide +kernel
theorem dX5_leadHere_17 : decode cX5_leadHere 17 = .ok (.aload_n 0, 1) := by decide +kernel
theorem dX5_leadHere_18 : decode cX5_leadHere 18 = .ok (.getfield 21, 3) := by decide +kernel
theorem dX5_leadHere_21 : decode cX5_leadHere 21 = .ok (.bipush 10, 2) := by decide +kernel
theorem dX5_leadHere_23 : decode cX5_leadHere 23 = .ok (.ishl, 1) := by decide +kernel
theorem dX5_leadHere_24 : decode cX5_leadHere 24 = .ok (.aload_n 0, 1) := by decide +kernel
theorem dX5_leadHere_25 : decode cX5_leadHere 25 = .ok (.getfield 9, 3) := by decide +kernel
theorem dX5_leadHere_28 : decode cX5_leadHere 28 = .ok (.iload_n 1, 1) := by decide +kernel
theorem dX5_leadHere_29 : decode cX5_leadHere 29 = .ok (.iaload, 1) := by decide +kernel
theorem dX5_leadHere_30 : decode cX5_leadHere 30 = .ok (.sipush 1023, 3) := by decide +kernel
theorem dX5_leadHere_33 : decode cX5_leadHere 33 = .ok (.iand, 1) := by decide +kernel
theorem dX5_leadHere_34 : decode cX5_leadHere 34 = .ok (.ior, 1) := by decide +kernel
theorem dX5_leadHere_35 : decode cX5_leadHere 35 = .ok (.iastore, 1) := by decide +kernel
theorem dX5_leadHere_36 : decode cX5_leadHere 36 = .ok (.return_, 1) := by decide +kernel
theorem dX5_kindAt_0 : decode cX5_kindAt 0 = .ok (.iload_n 1, 1) := by decide +kernel
theorem dX5_kindAt_1 : decode cX5_kindAt 1 = .ok (.ifCond .lt 23, 3) := by decide +kernel
theorem dX5_kindAt_4 : decode cX5_kindAt 4 = .ok (.iload_n 1, 1) := by decide +kernel
theorem dX5_kindAt_5 : decode cX5_kindAt 5 = .ok (.aload_n 0, 1) := by decide +kernel
theorem dX5_kindAt_6 : decode cX5_kindAt 6 = .ok (.getfield 21, 3) := by decide +kernel
theorem dX5_kindAt_9 : decode cX5_kindAt 9 = .ok (.if_icmp .ge 15, 3) := by decide +kernel
theorem dX5_kindAt_12 : decode cX5_kindAt 12 = .ok (.aload_n 0, 1) := by decide +kernel
theorem dX5_kindAt_13 : decode cX5_kindAt 13 = .ok (.getfield 9, 3) := by decide +kernel
theorem dX5_kindAt_16 : decode cX5_kindAt 16 = .ok (.iload_n 1, 1) := by decide +kernel
theorem dX5_kindAt_17 : decode cX5_kindAt 17 = .ok (.iaload, 1) := by decide +kernel
theorem dX5_kindAt_18 : decode cX5_kindAt 18 = .ok (.bipush 15, 2) := by decide +kernel
theorem dX5_kindAt_20 : decode cX5_kindAt 20 = .ok (.iand, 1) := by decide +kernel
theorem dX5_kindAt_21 : decode cX5_kindAt 21 = .ok (.goto 4, 3) := by decide +kernel
theorem dX5_kindAt_24 : decode cX5_kindAt 24 = .ok (.iconst (-1), 1) := by decide +kernel
theorem dX5_kindAt_25 : decode cX5_kindAt 25 = .ok (.ireturn, 1) := by decide +kernel
theorem dX5_operandAt_0 : decode cX5_operandAt 0 = .ok (.iload_n 1, 1) := by decide +kernel
theorem dX5_operandAt_1 : decode cX5_operandAt 1 = .ok (.ifCond .lt 23, 3) := by decide +kernel
theorem dX5_operandAt_4 : decode cX5_operandAt 4 = .ok (.iload_n 1, 1) := by decide +kernel
theorem dX5_operandAt_5 : decode cX5_operandAt 5 = .ok (.aload_n 0, 1) := by decide +kernel
theorem dX5_operandAt_6 : decode cX5_operandAt 6 = .ok (.getfield 21, 3) := by decide +kernel
theorem dX5_operandAt_9 : decode cX5_operandAt 9 = .ok (.if_icmp .ge 15, 3) := by decide +kernel
theorem dX5_operandAt_12 : decode cX5_operandAt 12 = .ok (.aload_n 0, 1) := by decide +kernel
theorem dX5_operandAt_13 : decode cX5_operandAt 13 = .ok (.getfield 9, 3) := by decide +kernel
theorem dX5_operandAt_16 : decode cX5_operandAt 16 = .ok (.iload_n 1, 1) := by decide +kernel
theorem dX5_operandAt_17 : decode cX5_operandAt 17 = .ok (.iaload, 1) := by decide +kernel
theorem dX5_operandAt_18 : decode cX5_operandAt 18 = .ok (.bipush 10, 2) := by decide +kernel
theorem dX5_operandAt_20 : decode cX5_operandAt 20 = .ok (.ishr, 1) := by decide +kernel
theorem dX5_operandAt_21 : decode cX5_operandAt 21 = .ok (.goto 4, 3) := by decide +kernel
theorem dX5_operandAt_24 : decode cX5_operandAt 24 = .ok (.iconst 0, 1) := by decide +kernel
theorem dX5_operandAt_25 : decode cX5_operandAt 25 = .ok (.ireturn, 1) := by decide +kernel
theorem dX5_roundsAt_0 : decode cX5_roundsAt 0 = .ok (.iload_n 1, 1) := by decide +kernel
theorem dX5_roundsAt_1 : decode cX5_roundsAt 1 = .ok (.ifCond .lt 25, 3) := by decide +kernel
theorem dX5_roundsAt_4 : decode cX5_roundsAt 4 = .ok (.iload_n 1, 1) := by decide +kernel
theorem dX5_roundsAt_5 : decode cX5_roundsAt 5 = .ok (.aload_n 0, 1) := by decide +kernel
theorem dX5_roundsAt_6 : decode cX5_roundsAt 6 = .ok (.getfield 21, 3) := by decide +kernel
theorem dX5_roundsAt_9 : decode cX5_roundsAt 9 = .ok (.if_icmp .ge 17, 3) := by decide +kernel
theorem dX5_roundsAt_12 : decode cX5_roundsAt 12 = .ok (.aload_n 0, 1) := by decide +kernel
theorem dX5_roundsAt_13 : decode cX5_roundsAt 13 = .ok (.getfield 9, 3) := by decide +kernel
theorem dX5_roundsAt_16 : decode cX5_roundsAt 16 = .ok (.iload_n 1, 1) := by decide +kernel
theorem dX5_roundsAt_17 : decode cX5_roundsAt 17 = .ok (.iaload, 1) := by decide +kernel
theorem dX5_roundsAt_18 : decode cX5_roundsAt 18 = .ok (.iconst 4, 1) := by decide +kernel
theorem dX5_roundsAt_19 : decode cX5_roundsAt 19 = .ok (.ishr, 1) := by decide +kernel
theorem dX5_roundsAt_20 : decode cX5_roundsAt 20 = .ok (.bipush 63, 2) := by decide +kernel
theorem dX5_roundsAt_22 : decode cX5_roundsAt 22 = .ok (.iand, 1) := by decide +kernel
theorem dX5_roundsAt_23 : decode cX5_roundsAt 23 = .ok (.goto 4, 3) := by decide +kernel
theorem dX5_roundsAt_26 : decode cX5_roundsAt 26 = .ok (.iconst 0, 1) := by decide +kernel
theorem dX5_roundsAt_27 : decode cX5_roundsAt 27 = .ok (.ireturn, 1) := by decide +kernel
theorem dX5_addRow_0 : decode cX5_addRow 0 = .ok (.aload_n 0, 1) := by decide +kernel
theorem dX5_addRow_1 : decode cX5_addRow 1 = .ok (.getfield 34, 3) := by decide +kernel
theorem dX5_addRow_4 : decode cX5_addRow 4 = .ok (.bipush 6, 2) := by decide +kernel
theorem dX5_addRow_6 : decode cX5_addRow 6 = .ok (.if_icmp .ge 33, 3) := by decide +kernel
theorem dX5_addRow_9 : decode cX5_addRow 9 = .ok (.aload_n 0, 1) := by decide +kernel
theorem dX5_addRow_10 : decode cX5_addRow 10 = .ok (.getfield 15, 3) := by decide +kernel
theorem dX5_addRow_13 : decode cX5_addRow 13 = .ok (.aload_n 0, 1) := by decide +kernel
theorem dX5_addRow_14 : decode cX5_addRow 14 = .ok (.getfield 34, 3) := by decide +kernel
theorem dX5_addRow_17 : decode cX5_addRow 17 = .ok (.iload_n 1, 1) := by decide +kernel
theorem dX5_addRow_18 : decode cX5_addRow 18 = .ok (.iastore, 1) := by decide +kernel
theorem dX5_addRow_19 : decode cX5_addRow 19 = .ok (.aload_n 0, 1) := by decide +kernel
theorem dX5_addRow_20 : decode cX5_addRow 20 = .ok (.getfield 18, 3) := by decide +kernel
theorem dX5_addRow_23 : decode cX5_addRow 23 = .ok (.aload_n 0, 1) := by decide +kernel
theorem dX5_addRow_24 : decode cX5_addRow 24 = .ok (.getfield 34, 3) := by decide +kernel
theorem dX5_addRow_27 : decode cX5_addRow 27 = .ok (.iload_n 2, 1) := by decide +kernel
theorem dX5_addRow_28 : decode cX5_addRow 28 = .ok (.iastore, 1) := by decide +kernel
theorem dX5_addRow_29 : decode cX5_addRow 29 = .ok (.aload_n 0, 1) := by decide +kernel
theorem dX5_addRow_30 : decode cX5_addRow 30 = .ok (.dup, 1) := by decide +kernel
theorem dX5_addRow_31 : decode cX5_addRow 31 = .ok (.getfield 34, 3) := by decide +kernel
theorem dX5_addRow_34 : decode cX5_addRow 34 = .ok (.iconst 1, 1) := by decide +kernel
theorem dX5_addRow_35 : decode cX5_addRow 35 = .ok (.iadd, 1) := by decide +kernel
theorem dX5_addRow_36 : decode cX5_addRow 36 = .ok (.putfield 34, 3) := by decide +kernel
theorem dX5_addRow_39 : decode cX5_addRow 39 = .ok (.return_, 1) := by decide +kernel
theorem dX5_rowsThatShare_0 : decode cX5_rowsThatShare 0 = .ok (.iconst 0, 1) := by decide +kernel
theorem dX5_rowsThatShare_1 : decode cX5_rowsThatShare 1 = .ok (.istore_n 2, 1) := by decide +kernel
theorem dX5_rowsThatShare_2 : decode cX5_rowsThatShare 2 = .ok (.iconst 0, 1) := by decide +kernel
theorem dX5_rowsThatShare_3 : decode cX5_rowsThatShare 3 = .ok (.istore_n 3, 1) := by decide +kernel
theorem dX5_rowsThatShare_4 : decode cX5_rowsThatShare 4 = .ok (.iload_n 3, 1) := by decide +kernel
theorem dX5_rowsThatShare_5 : decode cX5_rowsThatShare 5 = .ok (.aload_n 0, 1) := by decide +kernel
theorem dX5_rowsThatShare_6 : decode cX5_rowsThatShare 6 = .ok (.getfield 34, 3) := by decide +kernel
theorem dX5_rowsThatShare_9 : decode cX5_rowsThatShare 9 = .ok (.if_icmp .ge 68, 3) := by decide +kernel
theorem dX5_rowsThatShare_12 : decode cX5_rowsThatShare 12 = .ok (.iload_n 1, 1) := by decide +kernel
theorem dX5_rowsThatShare_13 : decode cX5_rowsThatShare 13 = .ok (.ifCond .lt 64, 3) := by decide +kernel
theorem dX5_rowsThatShare_16 : decode cX5_rowsThatShare 16 = .ok (.iload_n 1, 1) := by decide +kernel
theorem dX5_rowsThatShare_17 : decode cX5_rowsThatShare 17 = .ok (.aload_n 0, 1) := by decide +kernel
theorem dX5_rowsThatShare_18 : decode cX5_rowsThatShare 18 = .ok (.getfield 34, 3) := by decide +kernel
theorem dX5_rowsThatShare_21 : decode cX5_rowsThatShare 21 = .ok (.if_icmp .ge 56, 3) := by decide +kernel
theorem dX5_rowsThatShare_24 : decode cX5_rowsThatShare 24 = .ok (.aload_n 0, 1) := by decide +kernel
theorem dX5_rowsThatShare_25 : decode cX5_rowsThatShare 25 = .ok (.getfield 15, 3) := by decide +kernel
theorem dX5_rowsThatShare_28 : decode cX5_rowsThatShare 28 = .ok (.iload_n 3, 1) := by decide +kernel
theorem dX5_rowsThatShare_29 : decode cX5_rowsThatShare 29 = .ok (.iaload, 1) := by decide +kernel
theorem dX5_rowsThatShare_30 : decode cX5_rowsThatShare 30 = .ok (.aload_n 0, 1) := by decide +kernel
theorem dX5_rowsThatShare_31 : decode cX5_rowsThatShare 31 = .ok (.getfield 15, 3) := by decide +kernel
theorem dX5_rowsThatShare_34 : decode cX5_rowsThatShare 34 = .ok (.iload_n 1, 1) := by decide +kernel
theorem dX5_rowsThatShare_35 : decode cX5_rowsThatShare 35 = .ok (.iaload, 1) := by decide +kernel
theorem dX5_rowsThatShare_36 : decode cX5_rowsThatShare 36 = .ok (.aload_n 0, 1) := by decide +kernel
theorem dX5_rowsThatShare_37 : decode cX5_rowsThatShare 37 = .ok (.getfield 18, 3) := by decide +kernel
theorem dX5_rowsThatShare_40 : decode cX5_rowsThatShare 40 = .ok (.iload_n 1, 1) := by decide +kernel
theorem dX5_rowsThatShare_41 : decode cX5_rowsThatShare 41 = .ok (.iaload, 1) := by decide +kernel
theorem dX5_rowsThatShare_42 : decode cX5_rowsThatShare 42 = .ok (.iadd, 1) := by decide +kernel
theorem dX5_rowsThatShare_43 : decode cX5_rowsThatShare 43 = .ok (.if_icmp .ge 28, 3) := by decide +kernel
theorem dX5_rowsThatShare_46 : decode cX5_rowsThatShare 46 = .ok (.aload_n 0, 1) := by decide +kernel
theorem dX5_rowsThatShare_47 : decode cX5_rowsThatShare 47 = .ok (.getfield 15, 3) := by decide +kernel
theorem dX5_rowsThatShare_50 : decode cX5_rowsThatShare 50 = .ok (.iload_n 1, 1) := by decide +kernel
theorem dX5_rowsThatShare_51 : decode cX5_rowsThatShare 51 = .ok (.iaload, 1) := by decide +kernel
theorem dX5_rowsThatShare_52 : decode cX5_rowsThatShare 52 = .ok (.aload_n 0, 1) := by decide +kernel
theorem dX5_rowsThatShare_53 : decode cX5_rowsThatShare 53 = .ok (.getfield 15, 3) := by decide +kernel
theorem dX5_rowsThatShare_56 : decode cX5_rowsThatShare 56 = .ok (.iload_n 3, 1) := by decide +kernel
theorem dX5_rowsThatShare_57 : decode cX5_rowsThatShare 57 = .ok (.iaload, 1) := by decide +kernel
theorem dX5_rowsThatShare_58 : decode cX5_rowsThatShare 58 = .ok (.aload_n 0, 1) := by decide +kernel
theorem dX5_rowsThatShare_59 : decode cX5_rowsThatShare 59 = .ok (.getfield 18, 3) := by decide +kernel
theorem dX5_rowsThatShare_62 : decode cX5_rowsThatShare 62 = .ok (.iload_n 3, 1) := by decide +kernel
theorem dX5_rowsThatShare_63 : decode cX5_rowsThatShare 63 = .ok (.iaload, 1) := by decide +kernel
theorem dX5_rowsThatShare_64 : decode cX5_rowsThatShare 64 = .ok (.iadd, 1) := by decide +kernel
theorem dX5_rowsThatShare_65 : decode cX5_rowsThatShare 65 = .ok (.if_icmp .ge 6, 3) := by decide +kernel
theorem dX5_rowsThatShare_68 : decode cX5_rowsThatShare 68 = .ok (.iinc 2 1, 3) := by decide +kernel
theorem dX5_rowsThatShare_71 : decode cX5_rowsThatShare 71 = .ok (.iinc 3 1, 3) := by decide +kernel
theorem dX5_rowsThatShare_74 : decode cX5_rowsThatShare 74 = .ok (.goto (-70), 3) := by decide +kernel
theorem dX5_rowsThatShare_77 : decode cX5_rowsThatShare 77 = .ok (.iload_n 2, 1) := by decide +kernel
theorem dX5_rowsThatShare_78 : decode cX5_rowsThatShare 78 = .ok (.ireturn, 1) := by decide +kernel
theorem dX5_cellOf_0 : decode cX5_cellOf 0 = .ok (.iload_n 1, 1) := by decide +kernel
theorem dX5_cellOf_1 : decode cX5_cellOf 1 = .ok (.ifCond .lt 25, 3) := by decide +kernel
theorem dX5_cellOf_4 : decode cX5_cellOf 4 = .ok (.iload_n 1, 1) := by decide +kernel
theorem dX5_cellOf_5 : decode cX5_cellOf 5 = .ok (.aload_n 0, 1) := by decide +kernel
theorem dX5_cellOf_6 : decode cX5_cellOf 6 = .ok (.getfield 34, 3) := by decide +kernel
theorem dX5_cellOf_9 : decode cX5_cellOf 9 = .ok (.if_icmp .ge 17, 3) := by decide +kernel
theorem dX5_cellOf_12 : decode cX5_cellOf 12 = .ok (.iload_n 2, 1) := by decide +kernel
theorem dX5_cellOf_13 : decode cX5_cellOf 13 = .ok (.ifCond .lt 13, 3) := by decide +kernel
theorem dX5_cellOf_16 : decode cX5_cellOf 16 = .ok (.iload_n 2, 1) := by decide +kernel
theorem dX5_cellOf_17 : decode cX5_cellOf 17 = .ok (.aload_n 0, 1) := by decide +kernel
theorem dX5_cellOf_18 : decode cX5_cellOf 18 = .ok (.getfield 18, 3) := by decide +kernel
theorem dX5_cellOf_21 : decode cX5_cellOf 21 = .ok (.iload_n 1, 1) := by decide +kernel
theorem dX5_cellOf_22 : decode cX5_cellOf 22 = .ok (.iaload, 1) := by decide +kernel
theorem dX5_cellOf_23 : decode cX5_cellOf 23 = .ok (.if_icmp .lt 5, 3) := by decide +kernel
theorem dX5_cellOf_26 : decode cX5_cellOf 26 = .ok (.iconst (-1), 1) := by decide +kernel
theorem dX5_cellOf_27 : decode cX5_cellOf 27 = .ok (.ireturn, 1) := by decide +kernel
theorem dX5_cellOf_28 : decode cX5_cellOf 28 = .ok (.aload_n 0, 1) := by decide +kernel
theorem dX5_cellOf_29 : decode cX5_cellOf 29 = .ok (.getfield 15, 3) := by decide +kernel
theorem dX5_cellOf_32 : decode cX5_cellOf 32 = .ok (.iload_n 1, 1) := by decide +kernel
theorem dX5_cellOf_33 : decode cX5_cellOf 33 = .ok (.iaload, 1) := by decide +kernel
theorem dX5_cellOf_34 : decode cX5_cellOf 34 = .ok (.iload_n 2, 1) := by decide +kernel
theorem dX5_cellOf_35 : decode cX5_cellOf 35 = .ok (.iadd, 1) := by decide +kernel
theorem dX5_cellOf_36 : decode cX5_cellOf 36 = .ok (.ireturn, 1) := by decide +kernel
theorem dX5_hasTest_0 : decode cX5_hasTest 0 = .ok (.iconst 0, 1) := by decide +kernel
theorem dX5_hasTest_1 : decode cX5_hasTest 1 = .ok (.istore_n 1, 1) := by decide +kernel
theorem dX5_hasTest_2 : decode cX5_hasTest 2 = .ok (.iload_n 1, 1) := by decide +kernel
theorem dX5_hasTest_3 : decode cX5_hasTest 3 = .ok (.aload_n 0, 1) := by decide +kernel
theorem dX5_hasTest_4 : decode cX5_hasTest 4 = .ok (.getfield 21, 3) := by decide +kernel
theorem dX5_hasTest_7 : decode cX5_hasTest 7 = .ok (.if_icmp .ge 29, 3) := by decide +kernel
theorem dX5_hasTest_10 : decode cX5_hasTest 10 = .ok (.aload_n 0, 1) := by decide +kernel
theorem dX5_hasTest_11 : decode cX5_hasTest 11 = .ok (.iload_n 1, 1) := by decide +kernel
theorem dX5_hasTest_12 : decode cX5_hasTest 12 = .ok (.invokevirtual 40, 3) := by decide +kernel
theorem dX5_hasTest_15 : decode cX5_hasTest 15 = .ok (.istore_n 2, 1) := by decide +kernel
theorem dX5_hasTest_16 : decode cX5_hasTest 16 = .ok (.iload_n 2, 1) := by decide +kernel
theorem dX5_hasTest_17 : decode cX5_hasTest 17 = .ok (.bipush 12, 2) := by decide +kernel
theorem dX5_hasTest_19 : decode cX5_hasTest 19 = .ok (.if_icmp .eq 9, 3) := by decide +kernel
theorem dX5_hasTest_22 : decode cX5_hasTest 22 = .ok (.iload_n 2, 1) := by decide +kernel
theorem dX5_hasTest_23 : decode cX5_hasTest 23 = .ok (.bipush 13, 2) := by decide +kernel
theorem dX5_hasTest_25 : decode cX5_hasTest 25 = .ok (.if_icmp .ne 5, 3) := by decide +kernel
theorem dX5_hasTest_28 : decode cX5_hasTest 28 = .ok (.iconst 1, 1) := by decide +kernel
theorem dX5_hasTest_29 : decode cX5_hasTest 29 = .ok (.ireturn, 1) := by decide +kernel
theorem dX5_hasTest_30 : decode cX5_hasTest 30 = .ok (.iinc 1 1, 3) := by decide +kernel
theorem dX5_hasTest_33 : decode cX5_hasTest 33 = .ok (.goto (-31), 3) := by decide +kernel
theorem dX5_hasTest_36 : decode cX5_hasTest 36 = .ok (.iconst 0, 1) := by decide +kernel
theorem dX5_hasTest_37 : decode cX5_hasTest 37 = .ok (.ireturn, 1) := by decide +kernel
theorem dX6_init_0 : decode cX6_init 0 = .ok (.aload_n 0, 1) := by decide +kernel
theorem dX6_init_1 : decode cX6_init 1 = .ok (.invokespecial 3, 3) := by decide +kernel
theorem dX6_init_4 : decode cX6_init 4 = .ok (.aload_n 0, 1) := by decide +kernel
theorem dX6_init_5 : decode cX6_init 5 = .ok (.aload_n 1, 1) := by decide +kernel
theorem dX6_init_6 : decode cX6_init 6 = .ok (.putfield 9, 3) := by decide +kernel
theorem dX6_init_9 : decode cX6_init 9 = .ok (.return_, 1) := by decide +kernel
theorem dX6_start_0 : decode cX6_start 0 = .ok (.aload_n 0, 1) := by decide +kernel
theorem dX6_start_1 : decode cX6_start 1 = .ok (.iload_n 1, 1) := by decide +kernel
theorem dX6_start_2 : decode cX6_start 2 = .ok (.aload_n 0, 1) := by decide +kernel
theorem dX6_start_3 : decode cX6_start 3 = .ok (.getfield 9, 3) := by decide +kernel
theorem dX6_start_6 : decode cX6_start 6 = .ok (.arraylength, 1) := by decide +kernel
theorem dX6_start_7 : decode cX6_start 7 = .ok (.if_icmp .ge 7, 3) := by decide +kernel
theorem dX6_start_10 : decode cX6_start 10 = .ok (.iload_n 1, 1) := by decide +kernel
theorem dX6_start_11 : decode cX6_start 11 = .ok (.goto 8, 3) := by decide +kernel
theorem dX6_start_14 : decode cX6_start 14 = .ok (.aload_n 0, 1) := by decide +kernel
theorem dX6_start_15 : decode cX6_start 15 = .ok (.getfield 9, 3) := by decide +kernel
theorem dX6_start_18 : decode cX6_start 18 = .ok (.arraylength, 1) := by decide +kernel
theorem dX6_start_19 : decode cX6_start 19 = .ok (.putfield 15, 3) := by decide +kernel
theorem dX6_start_22 : decode cX6_start 22 = .ok (.aload_n 0, 1) := by decide +kernel
theorem dX6_start_23 : decode cX6_start 23 = .ok (.iconst 0, 1) := by decide +kernel
theorem dX6_start_24 : decode cX6_start 24 = .ok (.putfield 19, 3) := by decide +kernel
theorem dX6_start_27 : decode cX6_start 27 = .ok (.aload_n 0, 1) := by decide +kernel
theorem dX6_start_28 : decode cX6_start 28 = .ok (.invokevirtual 22, 3) := by decide +kernel
theorem dX6_start_31 : decode cX6_start 31 = .ok (.return_, 1) := by decide +kernel
theorem dX6_advance_0 : decode cX6_advance 0 = .ok (.aload_n 0, 1) := by decide +kernel
theorem dX6_advance_1 : decode cX6_advance 1 = .ok (.getfield 19, 3) := by decide +kernel
theorem dX6_advance_4 : decode cX6_advance 4 = .ok (.aload_n 0, 1) := by decide +kernel
theorem dX6_advance_5 : decode cX6_advance 5 = .ok (.getfield 15, 3) := by decide +kernel
theorem dX6_advance_8 : decode cX6_advance 8 = .ok (.if_icmp .ge 44, 3) := by decide +kernel
theorem dX6_advance_11 : decode cX6_advance 11 = .ok (.aload_n 0, 1) := by decide +kernel
theorem dX6_advance_12 : decode cX6_advance 12 = .ok (.getfield 9, 3) := by decide +kernel
theorem dX6_advance_15 : decode cX6_advance 15 = .ok (.aload_n 0, 1) := by decide +kernel
theorem dX6_advance_16 : decode cX6_advance 16 = .ok (.getfield 19, 3) := by decide +kernel
theorem dX6_advance_19 : decode cX6_advance 19 = .ok (.baload, 1) := by decide +kernel
theorem dX6_advance_20 : decode cX6_advance 20 = .ok (.bipush 32, 2) := by decide +kernel
theorem dX6_advance_22 : decode cX6_advance 22 = .ok (.if_icmp .eq 17, 3) := by decide +kernel
theorem dX6_advance_25 : decode cX6_advance 25 = .ok (.aload_n 0, 1) := by decide +kernel
theorem dX6_advance_26 : decode cX6_advance 26 = .ok (.getfield 9, 3) := by decide +kernel
theorem dX6_advance_29 : decode cX6_advance 29 = .ok (.aload_n 0, 1) := by decide +kernel
theorem dX6_advance_30 : decode cX6_advance 30 = .ok (.getfield 19, 3) := by decide +kernel
theorem dX6_advance_33 : decode cX6_advance 33 = .ok (.baload, 1) := by decide +kernel
theorem dX6_advance_34 : decode cX6_advance 34 = .ok (.bipush 10, 2) := by decide +kernel
theorem dX6_advance_36 : decode cX6_advance 36 = .ok (.if_icmp .ne 16, 3) := by decide +kernel
theorem dX6_advance_39 : decode cX6_advance 39 = .ok (.aload_n 0, 1) := by decide +kernel
theorem dX6_advance_40 : decode cX6_advance 40 = .ok (.dup, 1) := by decide +kernel
theorem dX6_advance_41 : decode cX6_advance 41 = .ok (.getfield 19, 3) := by decide +kernel
theorem dX6_advance_44 : decode cX6_advance 44 = .ok (.iconst 1, 1) := by decide +kernel
theorem dX6_advance_45 : decode cX6_advance 45 = .ok (.iadd, 1) := by decide +kernel
theorem dX6_advance_46 : decode cX6_advance 46 = .ok (.putfield 19, 3) := by decide +kernel
theorem dX6_advance_49 : decode cX6_advance 49 = .ok (.goto (-49), 3) := by decide +kernel
theorem dX6_advance_52 : decode cX6_advance 52 = .ok (.aload_n 0, 1) := by decide +kernel
theorem dX6_advance_53 : decode cX6_advance 53 = .ok (.aload_n 0, 1) := by decide +kernel
theorem dX6_advance_54 : decode cX6_advance 54 = .ok (.getfield 19, 3) := by decide +kernel
theorem dX6_advance_57 : decode cX6_advance 57 = .ok (.putfield 25, 3) := by decide +kernel
theorem dX6_advance_60 : decode cX6_advance 60 = .ok (.aload_n 0, 1) := by decide +kernel
theorem dX6_advance_61 : decode cX6_advance 61 = .ok (.iconst 0, 1) := by decide +kernel
theorem dX6_advance_62 : decode cX6_advance 62 = .ok (.putfield 28, 3) := by decide +kernel
theorem dX6_advance_65 : decode cX6_advance 65 = .ok (.aload_n 0, 1) := by decide +kernel
theorem dX6_advance_66 : decode cX6_advance 66 = .ok (.getfield 19, 3) := by decide +kernel
theorem dX6_advance_69 : decode cX6_advance 69 = .ok (.aload_n 0, 1) := by decide +kernel
theorem dX6_advance_70 : decode cX6_advance 70 = .ok (.getfield 15, 3) := by decide +kernel
theorem dX6_advance_73 : decode cX6_advance 73 = .ok (.if_icmp .lt 11, 3) := by decide +kernel
theorem dX6_advance_76 : decode cX6_advance 76 = .ok (.aload_n 0, 1) := by decide +kernel
theorem dX6_advance_77 : decode cX6_advance 77 = .ok (.iconst 0, 1) := by decide +kernel
theorem dX6_advance_78 : decode cX6_advance 78 = .ok (.putfield 31, 3) := by decide +kernel
theorem dX6_advance_81 : decode cX6_advance 81 = .ok (.goto 300, 3) := by decide +kernel
theorem dX6_advance_84 : decode cX6_advance 84 = .ok (.aload_n 0, 1) := by decide +kernel
theorem dX6_advance_85 : decode cX6_advance 85 = .ok (.getfield 9, 3) := by decide +kernel
theorem dX6_advance_88 : decode cX6_advance 88 = .ok (.aload_n 0, 1) := by decide +kernel
theorem dX6_advance_89 : decode cX6_advance 89 = .ok (.getfield 19, 3) := by decide +kernel
theorem dX6_advance_92 : decode cX6_advance 92 = .ok (.baload, 1) := by decide +kernel
theorem dX6_advance_93 : decode cX6_advance 93 = .ok (.bipush 97, 2) := by decide +kernel
theorem dX6_advance_95 : decode cX6_advance 95 = .ok (.if_icmp .lt 125, 3) := by decide +kernel
theorem dX6_advance_98 : decode cX6_advance 98 = .ok (.aload_n 0, 1) := by decide +kernel
theorem dX6_advance_99 : decode cX6_advance 99 = .ok (.getfield 9, 3) := by decide +kernel
theorem dX6_advance_102 : decode cX6_advance 102 = .ok (.aload_n 0, 1) := by decide +kernel
theorem dX6_advance_103 : decode cX6_advance 103 = .ok (.getfield 19, 3) := by decide +kernel
theorem dX6_advance_106 : decode cX6_advance 106 = .ok (.baload, 1) := by decide +kernel
theorem dX6_advance_107 : decode cX6_advance 107 = .ok (.bipush 122, 2) := by decide +kernel
theorem dX6_advance_109 : decode cX6_advance 109 = .ok (.if_icmp .gt 111, 3) := by decide +kernel
theorem dX6_advance_112 : decode cX6_advance 112 = .ok (.aload_n 0, 1) := by decide +kernel
theorem dX6_advance_113 : decode cX6_advance 113 = .ok (.iconst 1, 1) := by decide +kernel
theorem dX6_advance_114 : decode cX6_advance 114 = .ok (.putfield 31, 3) := by decide +kernel
theorem dX6_advance_117 : decode cX6_advance 117 = .ok (.aload_n 0, 1) := by decide +kernel
theorem dX6_advance_118 : decode cX6_advance 118 = .ok (.getfield 19, 3) := by decide +kernel
theorem dX6_advance_121 : decode cX6_advance 121 = .ok (.aload_n 0, 1) := by decide +kernel
theorem dX6_advance_122 : decode cX6_advance 122 = .ok (.getfield 15, 3) := by decide +kernel
theorem dX6_advance_125 : decode cX6_advance 125 = .ok (.if_icmp .ge 67, 3) := by decide +kernel
theorem dX6_advance_128 : decode cX6_advance 128 = .ok (.aload_n 0, 1) := by decide +kernel
theorem dX6_advance_129 : decode cX6_advance 129 = .ok (.getfield 9, 3) := by decide +kernel
theorem dX6_advance_132 : decode cX6_advance 132 = .ok (.aload_n 0, 1) := by decide +kernel
theorem dX6_advance_133 : decode cX6_advance 133 = .ok (.getfield 19, 3) := by decide +kernel
theorem dX6_advance_136 : decode cX6_advance 136 = .ok (.baload, 1) := by decide +kernel
theorem dX6_advance_137 : decode cX6_advance 137 = .ok (.bipush 97, 2) := by decide +kernel
theorem dX6_advance_139 : decode cX6_advance 139 = .ok (.if_icmp .lt 53, 3) := by decide +kernel
theorem dX6_advance_142 : decode cX6_advance 142 = .ok (.aload_n 0, 1) := by decide +kernel
theorem dX6_advance_143 : decode cX6_advance 143 = .ok (.getfield 9, 3) := by decide +kernel
theorem dX6_advance_146 : decode cX6_advance 146 = .ok (.aload_n 0, 1) := by decide +kernel
theorem dX6_advance_147 : decode cX6_advance 147 = .ok (.getfield 19, 3) := by decide +kernel
theorem dX6_advance_150 : decode cX6_advance 150 = .ok (.baload, 1) := by decide +kernel
theorem dX6_advance_151 : decode cX6_advance 151 = .ok (.bipush 122, 2) := by decide +kernel
theorem dX6_advance_153 : decode cX6_advance 153 = .ok (.if_icmp .gt 39, 3) := by decide +kernel
theorem dX6_advance_156 : decode cX6_advance 156 = .ok (.aload_n 0, 1) := by decide +kernel
theorem dX6_advance_157 : decode cX6_advance 157 = .ok (.aload_n 0, 1) := by decide +kernel
theorem dX6_advance_158 : decode cX6_advance 158 = .ok (.getfield 28, 3) := by decide +kernel
theorem dX6_advance_161 : decode cX6_advance 161 = .ok (.iconst 5, 1) := by decide +kernel
theorem dX6_advance_162 : decode cX6_advance 162 = .ok (.ishl, 1) := by decide +kernel
theorem dX6_advance_163 : decode cX6_advance 163 = .ok (.aload_n 0, 1) := by decide +kernel
theorem dX6_advance_164 : decode cX6_advance 164 = .ok (.getfield 9, 3) := by decide +kernel
theorem dX6_advance_167 : decode cX6_advance 167 = .ok (.aload_n 0, 1) := by decide +kernel
theorem dX6_advance_168 : decode cX6_advance 168 = .ok (.getfield 19, 3) := by decide +kernel
theorem dX6_advance_171 : decode cX6_advance 171 = .ok (.baload, 1) := by decide +kernel
theorem dX6_advance_172 : decode cX6_advance 172 = .ok (.bipush 96, 2) := by decide +kernel
theorem dX6_advance_174 : decode cX6_advance 174 = .ok (.isub, 1) := by decide +kernel
theorem dX6_advance_175 : decode cX6_advance 175 = .ok (.ior, 1) := by decide +kernel
theorem dX6_advance_176 : decode cX6_advance 176 = .ok (.putfield 28, 3) := by decide +kernel
theorem dX6_advance_179 : decode cX6_advance 179 = .ok (.aload_n 0, 1) := by decide +kernel
theorem dX6_advance_180 : decode cX6_advance 180 = .ok (.dup, 1) := by decide +kernel
theorem dX6_advance_181 : decode cX6_advance 181 = .ok (.getfield 19, 3) := by decide +kernel
theorem dX6_advance_184 : decode cX6_advance 184 = .ok (.iconst 1, 1) := by decide +kernel
theorem dX6_advance_185 : decode cX6_advance 185 = .ok (.iadd, 1) := by decide +kernel
theorem dX6_advance_186 : decode cX6_advance 186 = .ok (.putfield 19, 3) := by decide +kernel
theorem dX6_advance_189 : decode cX6_advance 189 = .ok (.goto (-72), 3) := by decide +kernel
theorem dX6_advance_192 : decode cX6_advance 192 = .ok (.aload_n 0, 1) := by decide +kernel
theorem dX6_advance_193 : decode cX6_advance 193 = .ok (.aload_n 0, 1) := by decide +kernel
theorem dX6_advance_194 : decode cX6_advance 194 = .ok (.getfield 19, 3) := by decide +kernel
theorem dX6_advance_197 : decode cX6_advance 197 = .ok (.aload_n 0, 1) := by decide +kernel
theorem dX6_advance_198 : decode cX6_advance 198 = .ok (.getfield 25, 3) := by decide +kernel
theorem dX6_advance_201 : decode cX6_advance 201 = .ok (.isub, 1) := by decide +kernel
theorem dX6_advance_202 : decode cX6_advance 202 = .ok (.iconst 5, 1) := by decide +kernel
theorem dX6_advance_203 : decode cX6_advance 203 = .ok (.if_icmp .le 7, 3) := by decide +kernel
theorem dX6_advance_206 : decode cX6_advance 206 = .ok (.iconst 0, 1) := by decide +kernel
theorem dX6_advance_207 : decode cX6_advance 207 = .ok (.goto 7, 3) := by decide +kernel
theorem dX6_advance_210 : decode cX6_advance 210 = .ok (.aload_n 0, 1) := by decide +kernel
theorem dX6_advance_211 : decode cX6_advance 211 = .ok (.getfield 28, 3) := by decide +kernel
theorem dX6_advance_214 : decode cX6_advance 214 = .ok (.putfield 28, 3) := by decide +kernel
theorem dX6_advance_217 : decode cX6_advance 217 = .ok (.goto 164, 3) := by decide +kernel
theorem dX6_advance_220 : decode cX6_advance 220 = .ok (.aload_n 0, 1) := by decide +kernel
theorem dX6_advance_221 : decode cX6_advance 221 = .ok (.getfield 9, 3) := by decide +kernel
theorem dX6_advance_224 : decode cX6_advance 224 = .ok (.aload_n 0, 1) := by decide +kernel
theorem dX6_advance_225 : decode cX6_advance 225 = .ok (.getfield 19, 3) := by decide +kernel
theorem dX6_advance_228 : decode cX6_advance 228 = .ok (.baload, 1) := by decide +kernel
theorem dX6_advance_229 : decode cX6_advance 229 = .ok (.bipush 48, 2) := by decide +kernel
theorem dX6_advance_231 : decode cX6_advance 231 = .ok (.if_icmp .lt 122, 3) := by decide +kernel
theorem dX6_advance_234 : decode cX6_advance 234 = .ok (.aload_n 0, 1) := by decide +kernel
theorem dX6_advance_235 : decode cX6_advance 235 = .ok (.getfield 9, 3) := by decide +kernel
theorem dX6_advance_238 : decode cX6_advance 238 = .ok (.aload_n 0, 1) := by decide +kernel
theorem dX6_advance_239 : decode cX6_advance 239 = .ok (.getfield 19, 3) := by decide +kernel
theorem dX6_advance_242 : decode cX6_advance 242 = .ok (.baload, 1) := by decide +kernel
theorem dX6_advance_243 : decode cX6_advance 243 = .ok (.bipush 57, 2) := by decide +kernel
theorem dX6_advance_245 : decode cX6_advance 245 = .ok (.if_icmp .gt 108, 3) := by decide +kernel
theorem dX6_advance_248 : decode cX6_advance 248 = .ok (.aload_n 0, 1) := by decide +kernel
theorem dX6_advance_249 : decode cX6_advance 249 = .ok (.iconst 2, 1) := by decide +kernel
theorem dX6_advance_250 : decode cX6_advance 250 = .ok (.putfield 31, 3) := by decide +kernel
theorem dX6_advance_253 : decode cX6_advance 253 = .ok (.aload_n 0, 1) := by decide +kernel
theorem dX6_advance_254 : decode cX6_advance 254 = .ok (.getfield 19, 3) := by decide +kernel
theorem dX6_advance_257 : decode cX6_advance 257 = .ok (.aload_n 0, 1) := by decide +kernel
theorem dX6_advance_258 : decode cX6_advance 258 = .ok (.getfield 15, 3) := by decide +kernel
theorem dX6_advance_261 : decode cX6_advance 261 = .ok (.if_icmp .ge 120, 3) := by decide +kernel
theorem dX6_advance_264 : decode cX6_advance 264 = .ok (.aload_n 0, 1) := by decide +kernel
theorem dX6_advance_265 : decode cX6_advance 265 = .ok (.getfield 9, 3) := by decide +kernel
theorem dX6_advance_268 : decode cX6_advance 268 = .ok (.aload_n 0, 1) := by decide +kernel
theorem dX6_advance_269 : decode cX6_advance 269 = .ok (.getfield 19, 3) := by decide +kernel
theorem dX6_advance_272 : decode cX6_advance 272 = .ok (.baload, 1) := by decide +kernel
theorem dX6_advance_273 : decode cX6_advance 273 = .ok (.bipush 48, 2) := by decide +kernel
theorem dX6_advance_275 : decode cX6_advance 275 = .ok (.if_icmp .lt 106, 3) := by decide +kernel
theorem dX6_advance_278 : decode cX6_advance 278 = .ok (.aload_n 0, 1) := by decide +kernel
theorem dX6_advance_279 : decode cX6_advance 279 = .ok (.getfield 9, 3) := by decide +kernel
theorem dX6_advance_282 : decode cX6_advance 282 = .ok (.aload_n 0, 1) := by decide +kernel
theorem dX6_advance_283 : decode cX6_advance 283 = .ok (.getfield 19, 3) := by decide +kernel
theorem dX6_advance_286 : decode cX6_advance 286 = .ok (.baload, 1) := by decide +kernel
theorem dX6_advance_287 : decode cX6_advance 287 = .ok (.bipush 57, 2) := by decide +kernel
theorem dX6_advance_289 : decode cX6_advance 289 = .ok (.if_icmp .gt 92, 3) := by decide +kernel
theorem dX6_advance_292 : decode cX6_advance 292 = .ok (.aload_n 0, 1) := by decide +kernel
theorem dX6_advance_293 : decode cX6_advance 293 = .ok (.aload_n 0, 1) := by decide +kernel
theorem dX6_advance_294 : decode cX6_advance 294 = .ok (.getfield 28, 3) := by decide +kernel
theorem dX6_advance_297 : decode cX6_advance 297 = .ok (.bipush 10, 2) := by decide +kernel
theorem dX6_advance_299 : decode cX6_advance 299 = .ok (.imul, 1) := by decide +kernel
theorem dX6_advance_300 : decode cX6_advance 300 = .ok (.aload_n 0, 1) := by decide +kernel
theorem dX6_advance_301 : decode cX6_advance 301 = .ok (.getfield 9, 3) := by decide +kernel
theorem dX6_advance_304 : decode cX6_advance 304 = .ok (.aload_n 0, 1) := by decide +kernel
theorem dX6_advance_305 : decode cX6_advance 305 = .ok (.getfield 19, 3) := by decide +kernel
theorem dX6_advance_308 : decode cX6_advance 308 = .ok (.baload, 1) := by decide +kernel
theorem dX6_advance_309 : decode cX6_advance 309 = .ok (.iadd, 1) := by decide +kernel
theorem dX6_advance_310 : decode cX6_advance 310 = .ok (.bipush 48, 2) := by decide +kernel
theorem dX6_advance_312 : decode cX6_advance 312 = .ok (.isub, 1) := by decide +kernel
theorem dX6_advance_313 : decode cX6_advance 313 = .ok (.putfield 28, 3) := by decide +kernel
theorem dX6_advance_316 : decode cX6_advance 316 = .ok (.aload_n 0, 1) := by decide +kernel
theorem dX6_advance_317 : decode cX6_advance 317 = .ok (.aload_n 0, 1) := by decide +kernel
theorem dX6_advance_318 : decode cX6_advance 318 = .ok (.getfield 28, 3) := by decide +kernel
theorem dX6_advance_321 : decode cX6_advance 321 = .ok (.sipush 9999, 3) := by decide +kernel
theorem dX6_advance_324 : decode cX6_advance 324 = .ok (.if_icmp .le 9, 3) := by decide +kernel
theorem dX6_advance_327 : decode cX6_advance 327 = .ok (.sipush 10000, 3) := by decide +kernel
theorem dX6_advance_330 : decode cX6_advance 330 = .ok (.goto 7, 3) := by decide +kernel
theorem dX6_advance_333 : decode cX6_advance 333 = .ok (.aload_n 0, 1) := by decide +kernel
theorem dX6_advance_334 : decode cX6_advance 334 = .ok (.getfield 28, 3) := by decide +kernel
theorem dX6_advance_337 : decode cX6_advance 337 = .ok (.putfield 28, 3) := by decide +kernel
theorem dX6_advance_340 : decode cX6_advance 340 = .ok (.aload_n 0, 1) := by decide +kernel
theorem dX6_advance_341 : decode cX6_advance 341 = .ok (.dup, 1) := by decide +kernel
theorem dX6_advance_342 : decode cX6_advance 342 = .ok (.getfield 19, 3) := by decide +kernel
theorem dX6_advance_345 : decode cX6_advance 345 = .ok (.iconst 1, 1) := by decide +kernel
theorem dX6_advance_346 : decode cX6_advance 346 = .ok (.iadd, 1) := by decide +kernel
theorem dX6_advance_347 : decode cX6_advance 347 = .ok (.putfield 19, 3) := by decide +kernel
theorem dX6_advance_350 : decode cX6_advance 350 = .ok (.goto (-97), 3) := by decide +kernel
theorem dX6_advance_353 : decode cX6_advance 353 = .ok (.aload_n 0, 1) := by decide +kernel
theorem dX6_advance_354 : decode cX6_advance 354 = .ok (.iconst 3, 1) := by decide +kernel
theorem dX6_advance_355 : decode cX6_advance 355 = .ok (.putfield 31, 3) := by decide +kernel
theorem dX6_advance_358 : decode cX6_advance 358 = .ok (.aload_n 0, 1) := by decide +kernel
theorem dX6_advance_359 : decode cX6_advance 359 = .ok (.aload_n 0, 1) := by decide +kernel
theorem dX6_advance_360 : decode cX6_advance 360 = .ok (.getfield 9, 3) := by decide +kernel
theorem dX6_advance_363 : decode cX6_advance 363 = .ok (.aload_n 0, 1) := by decide +kernel
theorem dX6_advance_364 : decode cX6_advance 364 = .ok (.getfield 19, 3) := by decide +kernel
theorem dX6_advance_367 : decode cX6_advance 367 = .ok (.baload, 1) := by decide +kernel
theorem dX6_advance_368 : decode cX6_advance 368 = .ok (.putfield 28, 3) := by decide +kernel
theorem dX6_advance_371 : decode cX6_advance 371 = .ok (.aload_n 0, 1) := by decide +kernel
theorem dX6_advance_372 : decode cX6_advance 372 = .ok (.dup, 1) := by decide +kernel
theorem dX6_advance_373 : decode cX6_advance 373 = .ok (.getfield 19, 3) := by decide +kernel
theorem dX6_advance_376 : decode cX6_advance 376 = .ok (.iconst 1, 1) := by decide +kernel
theorem dX6_advance_377 : decode cX6_advance 377 = .ok (.iadd, 1) := by decide +kernel
theorem dX6_advance_378 : decode cX6_advance 378 = .ok (.putfield 19, 3) := by decide +kernel
theorem dX6_advance_381 : decode cX6_advance 381 = .ok (.return_, 1) := by decide +kernel
theorem dX6_isName_0 : decode cX6_isName 0 = .ok (.aload_n 0, 1) := by decide +kernel
theorem dX6_isName_1 : decode cX6_isName 1 = .ok (.getfield 31, 3) := by decide +kernel
theorem dX6_isName_4 : decode cX6_isName 4 = .ok (.iconst 1, 1) := by decide +kernel
theorem dX6_isName_5 : decode cX6_isName 5 = .ok (.if_icmp .ne 16, 3) := by decide +kernel
theorem dX6_isName_8 : decode cX6_isName 8 = .ok (.aload_n 0, 1) := by decide +kernel
theorem dX6_isName_9 : decode cX6_isName 9 = .ok (.getfield 19, 3) := by decide +kernel
theorem dX6_isName_12 : decode cX6_isName 12 = .ok (.aload_n 0, 1) := by decide +kernel
theorem dX6_isName_13 : decode cX6_isName 13 = .ok (.getfield 25, 3) := by decide +kernel
theorem dX6_isName_16 : decode cX6_isName 16 = .ok (.isub, 1) := by decide +kernel
theorem dX6_isName_17 : decode cX6_isName 17 = .ok (.iconst 4, 1) := by decide +kernel
theorem dX6_isName_18 : decode cX6_isName 18 = .ok (.if_icmp .le 5, 3) := by decide +kernel
theorem dX6_isName_21 : decode cX6_isName 21 = .ok (.iconst 0, 1) := by decide +kernel
theorem dX6_isName_22 : decode cX6_isName 22 = .ok (.ireturn, 1) := by decide +kernel
theorem dX6_isName_23 : decode cX6_isName 23 = .ok (.aload_n 0, 1) := by decide +kernel
theorem dX6_isName_24 : decode cX6_isName 24 = .ok (.getfield 28, 3) := by decide +kernel
theorem dX6_isName_27 : decode cX6_isName 27 = .ok (.lookupswitch 67 #[(294, 65), (302, 65), (5572, 65), (16052, 65), (18935, 65), (176741, 65), (409072, 65)], 65) := by decide +kernel
theorem dX6_isName_92 : decode cX6_isName 92 = .ok (.iconst 0, 1) := by decide +kernel
theorem dX6_isName_93 : decode cX6_isName 93 = .ok (.ireturn, 1) := by decide +kernel
theorem dX6_isName_94 : decode cX6_isName 94 = .ok (.iconst 1, 1) := by decide +kernel
theorem dX6_isName_95 : decode cX6_isName 95 = .ok (.ireturn, 1) := by decide +kernel
theorem dX6_isSign_0 : decode cX6_isSign 0 = .ok (.aload_n 0, 1) := by decide +kernel
theorem dX6_isSign_1 : decode cX6_isSign 1 = .ok (.getfield 31, 3) := by decide +kernel
theorem dX6_isSign_4 : decode cX6_isSign 4 = .ok (.iconst 3, 1) := by decide +kernel
theorem dX6_isSign_5 : decode cX6_isSign 5 = .ok (.if_icmp .ne 15, 3) := by decide +kernel
theorem dX6_isSign_8 : decode cX6_isSign 8 = .ok (.aload_n 0, 1) := by decide +kernel
theorem dX6_isSign_9 : decode cX6_isSign 9 = .ok (.getfield 28, 3) := by decide +kernel
theorem dX6_isSign_12 : decode cX6_isSign 12 = .ok (.iload_n 1, 1) := by decide +kernel
theorem dX6_isSign_13 : decode cX6_isSign 13 = .ok (.if_icmp .ne 7, 3) := by decide +kernel
theorem dX6_isSign_16 : decode cX6_isSign 16 = .ok (.iconst 1, 1) := by decide +kernel
theorem dX6_isSign_17 : decode cX6_isSign 17 = .ok (.goto 4, 3) := by decide +kernel
theorem dX6_isSign_20 : decode cX6_isSign 20 = .ok (.iconst 0, 1) := by decide +kernel
theorem dX6_isSign_21 : decode cX6_isSign 21 = .ok (.ireturn, 1) := by decide +kernel
theorem dX6_operator_0 : decode cX6_operator 0 = .ok (.aload_n 0, 1) := by decide +kernel
theorem dX6_operator_1 : decode cX6_operator 1 = .ok (.getfield 31, 3) := by decide +kernel
theorem dX6_operator_4 : decode cX6_operator 4 = .ok (.iconst 3, 1) := by decide +kernel
theorem dX6_operator_5 : decode cX6_operator 5 = .ok (.if_icmp .eq 5, 3) := by decide +kernel
theorem dX6_operator_8 : decode cX6_operator 8 = .ok (.iconst (-1), 1) := by decide +kernel
theorem dX6_operator_9 : decode cX6_operator 9 = .ok (.ireturn, 1) := by decide +kernel
theorem dX6_operator_10 : decode cX6_operator 10 = .ok (.aload_n 0, 1) := by decide +kernel
theorem dX6_operator_11 : decode cX6_operator 11 = .ok (.getfield 28, 3) := by decide +kernel
theorem dX6_operator_14 : decode cX6_operator 14 = .ok (.tableswitch 47 42 47 #[42, 38, 47, 40, 47, 44], 38) := by decide +kernel
theorem dX6_operator_52 : decode cX6_operator 52 = .ok (.iconst 3, 1) := by decide +kernel
theorem dX6_operator_53 : decode cX6_operator 53 = .ok (.ireturn, 1) := by decide +kernel
theorem dX6_operator_54 : decode cX6_operator 54 = .ok (.iconst 4, 1) := by decide +kernel
theorem dX6_operator_55 : decode cX6_operator 55 = .ok (.ireturn, 1) := by decide +kernel
theorem dX6_operator_56 : decode cX6_operator 56 = .ok (.iconst 5, 1) := by decide +kernel
theorem dX6_operator_57 : decode cX6_operator 57 = .ok (.ireturn, 1) := by decide +kernel
theorem dX6_operator_58 : decode cX6_operator 58 = .ok (.bipush 6, 2) := by decide +kernel
theorem dX6_operator_60 : decode cX6_operator 60 = .ok (.ireturn, 1) := by decide +kernel
theorem dX6_operator_61 : decode cX6_operator 61 = .ok (.iconst (-1), 1) := by decide +kernel
theorem dX6_operator_62 : decode cX6_operator 62 = .ok (.ireturn, 1) := by decide +kernel
theorem dX7_init_0 : decode cX7_init 0 = .ok (.aload_n 0, 1) := by decide +kernel
theorem dX7_init_1 : decode cX7_init 1 = .ok (.invokespecial 3, 3) := by decide +kernel
theorem dX7_init_4 : decode cX7_init 4 = .ok (.aload_n 0, 1) := by decide +kernel
theorem dX7_init_5 : decode cX7_init 5 = .ok (.sipush 400, 3) := by decide +kernel
theorem dX7_init_8 : decode cX7_init 8 = .ok (.newarray .int, 2) := by decide +kernel
theorem dX7_init_10 : decode cX7_init 10 = .ok (.putfield 9, 3) := by decide +kernel
theorem dX7_init_13 : decode cX7_init 13 = .ok (.aload_n 0, 1) := by decide +kernel
theorem dX7_init_14 : decode cX7_init 14 = .ok (.sipush 400, 3) := by decide +kernel
theorem dX7_init_17 : decode cX7_init 17 = .ok (.newarray .int, 2) := by decide +kernel
theorem dX7_init_19 : decode cX7_init 19 = .ok (.putfield 15, 3) := by decide +kernel
theorem dX7_init_22 : decode cX7_init 22 = .ok (.aload_n 0, 1) := by decide +kernel
theorem dX7_init_23 : decode cX7_init 23 = .ok (.sipush 400, 3) := by decide +kernel
theorem dX7_init_26 : decode cX7_init 26 = .ok (.newarray .int, 2) := by decide +kernel
theorem dX7_init_28 : decode cX7_init 28 = .ok (.putfield 18, 3) := by decide +kernel
theorem dX7_init_31 : decode cX7_init 31 = .ok (.return_, 1) := by decide +kernel
theorem dX7_once_0 : decode cX7_once 0 = .ok (.aload_n 0, 1) := by decide +kernel
theorem dX7_once_1 : decode cX7_once 1 = .ok (.aload_n 1, 1) := by decide +kernel
theorem dX7_once_2 : decode cX7_once 2 = .ok (.iload_n 3, 1) := by decide +kernel
theorem dX7_once_3 : decode cX7_once 3 = .ok (.invokevirtual 21, 3) := by decide +kernel
theorem dX7_once_6 : decode cX7_once 6 = .ok (.aload_n 0, 1) := by decide +kernel
theorem dX7_once_7 : decode cX7_once 7 = .ok (.getfield 9, 3) := by decide +kernel
theorem dX7_once_10 : decode cX7_once 10 = .ok (.iload_n 2, 1) := by decide +kernel
theorem dX7_once_11 : decode cX7_once 11 = .ok (.iload_n 3, 1) := by decide +kernel
theorem dX7_once_12 : decode cX7_once 12 = .ok (.invokestatic 25, 3) := by decide +kernel
theorem dX7_once_15 : decode cX7_once 15 = .ok (.ireturn, 1) := by decide +kernel
theorem dX7_fillFirst_0 : decode cX7_fillFirst 0 = .ok (.aload_n 0, 1) := by decide +kernel
theorem dX7_fillFirst_1 : decode cX7_fillFirst 1 = .ok (.getfield 9, 3) := by decide +kernel
theorem dX7_fillFirst_4 : decode cX7_fillFirst 4 = .ok (.aload_n 1, 1) := by decide +kernel
theorem dX7_fillFirst_5 : decode cX7_fillFirst 5 = .ok (.iload_n 2, 1) := by decide +kernel
theorem dX7_fillFirst_6 : decode cX7_fillFirst 6 = .ok (.invokestatic 29, 3) := by decide +kernel
theorem dX7_fillFirst_9 : decode cX7_fillFirst 9 = .ok (.return_, 1) := by decide +kernel
theorem dX7_firstOf_0 : decode cX7_firstOf 0 = .ok (.aload_n 0, 1) := by decide +kernel
theorem dX7_firstOf_1 : decode cX7_firstOf 1 = .ok (.getfield 9, 3) := by decide +kernel
theorem dX7_firstOf_4 : decode cX7_firstOf 4 = .ok (.iload_n 1, 1) := by decide +kernel
theorem dX7_firstOf_5 : decode cX7_firstOf 5 = .ok (.iload_n 2, 1) := by decide +kernel
theorem dX7_firstOf_6 : decode cX7_firstOf 6 = .ok (.invokestatic 25, 3) := by decide +kernel
theorem dX7_firstOf_9 : decode cX7_firstOf 9 = .ok (.ireturn, 1) := by decide +kernel
theorem dX7_of_0 : decode cX7_of 0 = .ok (.iload_n 1, 1) := by decide +kernel
theorem dX7_of_1 : decode cX7_of 1 = .ok (.iload_n 2, 1) := by decide +kernel
theorem dX7_of_2 : decode cX7_of 2 = .ok (.if_icmp .ne 5, 3) := by decide +kernel
theorem dX7_of_5 : decode cX7_of 5 = .ok (.iconst 1, 1) := by decide +kernel
theorem dX7_of_6 : decode cX7_of 6 = .ok (.ireturn, 1) := by decide +kernel
theorem dX7_of_7 : decode cX7_of 7 = .ok (.iload_n 1, 1) := by decide +kernel
theorem dX7_of_8 : decode cX7_of 8 = .ok (.ifCond .lt 15, 3) := by decide +kernel
theorem dX7_of_11 : decode cX7_of 11 = .ok (.iload_n 1, 1) := by decide +kernel
theorem dX7_of_12 : decode cX7_of 12 = .ok (.aload_n 0, 1) := by decide +kernel
theorem dX7_of_13 : decode cX7_of 13 = .ok (.arraylength, 1) := by decide +kernel
theorem dX7_of_14 : decode cX7_of 14 = .ok (.if_icmp .ge 9, 3) := by decide +kernel
theorem dX7_of_17 : decode cX7_of 17 = .ok (.aload_n 0, 1) := by decide +kernel
theorem dX7_of_18 : decode cX7_of 18 = .ok (.iload_n 1, 1) := by decide +kernel
theorem dX7_of_19 : decode cX7_of 19 = .ok (.iaload, 1) := by decide +kernel
theorem dX7_of_20 : decode cX7_of 20 = .ok (.goto 4, 3) := by decide +kernel
theorem dX7_of_23 : decode cX7_of 23 = .ok (.iconst 0, 1) := by decide +kernel
theorem dX7_of_24 : decode cX7_of 24 = .ok (.ireturn, 1) := by decide +kernel
theorem dX7_fill_0 : decode cX7_fill 0 = .ok (.iconst 0, 1) := by decide +kernel
theorem dX7_fill_1 : decode cX7_fill 1 = .ok (.istore_n 3, 1) := by decide +kernel
theorem dX7_fill_2 : decode cX7_fill 2 = .ok (.iload_n 3, 1) := by decide +kernel
theorem dX7_fill_3 : decode cX7_fill 3 = .ok (.aload_n 1, 1) := by decide +kernel
theorem dX7_fill_4 : decode cX7_fill 4 = .ok (.getfield 33, 3) := by decide +kernel
theorem dX7_fill_7 : decode cX7_fill 7 = .ok (.if_icmp .ge 53, 3) := by decide +kernel
theorem dX7_fill_10 : decode cX7_fill 10 = .ok (.iload_n 3, 1) := by decide +kernel
theorem dX7_fill_11 : decode cX7_fill 11 = .ok (.aload_n 0, 1) := by decide +kernel
theorem dX7_fill_12 : decode cX7_fill 12 = .ok (.arraylength, 1) := by decide +kernel
theorem dX7_fill_13 : decode cX7_fill 13 = .ok (.if_icmp .ge 47, 3) := by decide +kernel
theorem dX7_fill_16 : decode cX7_fill 16 = .ok (.aload_n 0, 1) := by decide +kernel
theorem dX7_fill_17 : decode cX7_fill 17 = .ok (.aload_n 1, 1) := by decide +kernel
theorem dX7_fill_18 : decode cX7_fill 18 = .ok (.getfield 39, 3) := by decide +kernel
theorem dX7_fill_21 : decode cX7_fill 21 = .ok (.iload_n 3, 1) := by decide +kernel
theorem dX7_fill_22 : decode cX7_fill 22 = .ok (.iaload, 1) := by decide +kernel
theorem dX7_fill_23 : decode cX7_fill 23 = .ok (.iload_n 2, 1) := by decide +kernel
theorem dX7_fill_24 : decode cX7_fill 24 = .ok (.invokestatic 25, 3) := by decide +kernel
theorem dX7_fill_27 : decode cX7_fill 27 = .ok (.istore 4, 2) := by decide +kernel
theorem dX7_fill_29 : decode cX7_fill 29 = .ok (.aload_n 0, 1) := by decide +kernel
theorem dX7_fill_30 : decode cX7_fill 30 = .ok (.aload_n 1, 1) := by decide +kernel
theorem dX7_fill_31 : decode cX7_fill 31 = .ok (.getfield 42, 3) := by decide +kernel
theorem dX7_fill_34 : decode cX7_fill 34 = .ok (.iload_n 3, 1) := by decide +kernel
theorem dX7_fill_35 : decode cX7_fill 35 = .ok (.iaload, 1) := by decide +kernel
theorem dX7_fill_36 : decode cX7_fill 36 = .ok (.iload_n 2, 1) := by decide +kernel
theorem dX7_fill_37 : decode cX7_fill 37 = .ok (.invokestatic 25, 3) := by decide +kernel
theorem dX7_fill_40 : decode cX7_fill 40 = .ok (.istore 5, 2) := by decide +kernel
theorem dX7_fill_42 : decode cX7_fill 42 = .ok (.aload_n 0, 1) := by decide +kernel
theorem dX7_fill_43 : decode cX7_fill 43 = .ok (.iload_n 3, 1) := by decide +kernel
theorem dX7_fill_44 : decode cX7_fill 44 = .ok (.aload_n 1, 1) := by decide +kernel
theorem dX7_fill_45 : decode cX7_fill 45 = .ok (.iload_n 3, 1) := by decide +kernel
theorem dX7_fill_46 : decode cX7_fill 46 = .ok (.iload 4, 2) := by decide +kernel
theorem dX7_fill_48 : decode cX7_fill 48 = .ok (.iload 5, 2) := by decide +kernel
theorem dX7_fill_50 : decode cX7_fill 50 = .ok (.invokestatic 45, 3) := by decide +kernel
theorem dX7_fill_53 : decode cX7_fill 53 = .ok (.iastore, 1) := by decide +kernel
theorem dX7_fill_54 : decode cX7_fill 54 = .ok (.iinc 3 1, 3) := by decide +kernel
theorem dX7_fill_57 : decode cX7_fill 57 = .ok (.goto (-55), 3) := by decide +kernel
theorem dX7_fill_60 : decode cX7_fill 60 = .ok (.return_, 1) := by decide +kernel
theorem dX7_joined_0 : decode cX7_joined 0 = .ok (.iload_n 1, 1) := by decide +kernel
theorem dX7_joined_1 : decode cX7_joined 1 = .ok (.ifCond .lt 10, 3) := by decide +kernel
theorem dX7_joined_4 : decode cX7_joined 4 = .ok (.iload_n 1, 1) := by decide +kernel
theorem dX7_joined_5 : decode cX7_joined 5 = .ok (.sipush 400, 3) := by decide +kernel
theorem dX7_joined_8 : decode cX7_joined 8 = .ok (.if_icmp .lt 5, 3) := by decide +kernel
theorem dX7_joined_11 : decode cX7_joined 11 = .ok (.iconst 0, 1) := by decide +kernel
theorem dX7_joined_12 : decode cX7_joined 12 = .ok (.ireturn, 1) := by decide +kernel
theorem dX7_joined_13 : decode cX7_joined 13 = .ok (.aload_n 0, 1) := by decide +kernel
theorem dX7_joined_14 : decode cX7_joined 14 = .ok (.getfield 49, 3) := by decide +kernel
theorem dX7_joined_17 : decode cX7_joined 17 = .ok (.iload_n 1, 1) := by decide +kernel
theorem dX7_joined_18 : decode cX7_joined 18 = .ok (.iaload, 1) := by decide +kernel
theorem dX7_joined_19 : decode cX7_joined 19 = .ok (.tableswitch 61 3 5 #[25, 31, 37], 25) := by decide +kernel
theorem dX7_joined_44 : decode cX7_joined 44 = .ok (.iload_n 2, 1) := by decide +kernel
theorem dX7_joined_45 : decode cX7_joined 45 = .ok (.iload_n 3, 1) := by decide +kernel
theorem dX7_joined_46 : decode cX7_joined 46 = .ok (.invokestatic 52, 3) := by decide +kernel
theorem dX7_joined_49 : decode cX7_joined 49 = .ok (.ireturn, 1) := by decide +kernel
theorem dX7_joined_50 : decode cX7_joined 50 = .ok (.iload_n 2, 1) := by decide +kernel
theorem dX7_joined_51 : decode cX7_joined 51 = .ok (.iload_n 3, 1) := by decide +kernel
theorem dX7_joined_52 : decode cX7_joined 52 = .ok (.invokestatic 58, 3) := by decide +kernel
theorem dX7_joined_55 : decode cX7_joined 55 = .ok (.ireturn, 1) := by decide +kernel
theorem dX7_joined_56 : decode cX7_joined 56 = .ok (.iload_n 2, 1) := by decide +kernel
theorem dX7_joined_57 : decode cX7_joined 57 = .ok (.aload_n 0, 1) := by decide +kernel
theorem dX7_joined_58 : decode cX7_joined 58 = .ok (.getfield 61, 3) := by decide +kernel
theorem dX7_joined_61 : decode cX7_joined 61 = .ok (.iload_n 1, 1) := by decide +kernel
theorem dX7_joined_62 : decode cX7_joined 62 = .ok (.iaload, 1) := by decide +kernel
theorem dX7_joined_63 : decode cX7_joined 63 = .ok (.invokestatic 64, 3) := by decide +kernel
theorem dX7_joined_66 : decode cX7_joined 66 = .ok (.aload_n 0, 1) := by decide +kernel
theorem dX7_joined_67 : decode cX7_joined 67 = .ok (.getfield 67, 3) := by decide +kernel
theorem dX7_joined_70 : decode cX7_joined 70 = .ok (.iload_n 1, 1) := by decide +kernel
theorem dX7_joined_71 : decode cX7_joined 71 = .ok (.iaload, 1) := by decide +kernel
theorem dX7_joined_72 : decode cX7_joined 72 = .ok (.iload_n 3, 1) := by decide +kernel
theorem dX7_joined_73 : decode cX7_joined 73 = .ok (.invokestatic 64, 3) := by decide +kernel
theorem dX7_joined_76 : decode cX7_joined 76 = .ok (.invokestatic 52, 3) := by decide +kernel
theorem dX7_joined_79 : decode cX7_joined 79 = .ok (.ireturn, 1) := by decide +kernel
theorem dX7_joined_80 : decode cX7_joined 80 = .ok (.iload_n 2, 1) := by decide +kernel
theorem dX7_joined_81 : decode cX7_joined 81 = .ok (.aload_n 0, 1) := by decide +kernel
theorem dX7_joined_82 : decode cX7_joined 82 = .ok (.getfield 70, 3) := by decide +kernel
theorem dX7_joined_85 : decode cX7_joined 85 = .ok (.iload_n 1, 1) := by decide +kernel
theorem dX7_joined_86 : decode cX7_joined 86 = .ok (.iaload, 1) := by decide +kernel
theorem dX7_joined_87 : decode cX7_joined 87 = .ok (.iload_n 3, 1) := by decide +kernel
theorem dX7_joined_88 : decode cX7_joined 88 = .ok (.invokestatic 64, 3) := by decide +kernel
theorem dX7_joined_91 : decode cX7_joined 91 = .ok (.invokestatic 58, 3) := by decide +kernel
theorem dX7_joined_94 : decode cX7_joined 94 = .ok (.aload_n 0, 1) := by decide +kernel
theorem dX7_joined_95 : decode cX7_joined 95 = .ok (.getfield 73, 3) := by decide +kernel
theorem dX7_joined_98 : decode cX7_joined 98 = .ok (.iload_n 1, 1) := by decide +kernel
theorem dX7_joined_99 : decode cX7_joined 99 = .ok (.iaload, 1) := by decide +kernel
theorem dX7_joined_100 : decode cX7_joined 100 = .ok (.invokestatic 64, 3) := by decide +kernel
theorem dX7_joined_103 : decode cX7_joined 103 = .ok (.ireturn, 1) := by decide +kernel
theorem dX7_twice_0 : decode cX7_twice 0 = .ok (.aload_n 0, 1) := by decide +kernel
theorem dX7_twice_1 : decode cX7_twice 1 = .ok (.getfield 9, 3) := by decide +kernel
theorem dX7_twice_4 : decode cX7_twice 4 = .ok (.aload_n 1, 1) := by decide +kernel
theorem dX7_twice_5 : decode cX7_twice 5 = .ok (.iload_n 3, 1) := by decide +kernel
theorem dX7_twice_6 : decode cX7_twice 6 = .ok (.invokestatic 29, 3) := by decide +kernel
theorem dX7_twice_9 : decode cX7_twice 9 = .ok (.aload_n 0, 1) := by decide +kernel
theorem dX7_twice_10 : decode cX7_twice 10 = .ok (.getfield 15, 3) := by decide +kernel
theorem dX7_twice_13 : decode cX7_twice 13 = .ok (.aload_n 1, 1) := by decide +kernel
theorem dX7_twice_14 : decode cX7_twice 14 = .ok (.iload 4, 2) := by decide +kernel
theorem dX7_twice_16 : decode cX7_twice 16 = .ok (.invokestatic 29, 3) := by decide +kernel
theorem dX7_twice_19 : decode cX7_twice 19 = .ok (.iconst 0, 1) := by decide +kernel
theorem dX7_twice_20 : decode cX7_twice 20 = .ok (.istore 5, 2) := by decide +kernel
theorem dX7_twice_22 : decode cX7_twice 22 = .ok (.iload 5, 2) := by decide +kernel
theorem dX7_twice_24 : decode cX7_twice 24 = .ok (.aload_n 1, 1) := by decide +kernel
theorem dX7_twice_25 : decode cX7_twice 25 = .ok (.getfield 33, 3) := by decide +kernel
theorem dX7_twice_28 : decode cX7_twice 28 = .ok (.if_icmp .ge 81, 3) := by decide +kernel
theorem dX7_twice_31 : decode cX7_twice 31 = .ok (.iload 5, 2) := by decide +kernel
theorem dX7_twice_33 : decode cX7_twice 33 = .ok (.sipush 400, 3) := by decide +kernel
theorem dX7_twice_36 : decode cX7_twice 36 = .ok (.if_icmp .ge 73, 3) := by decide +kernel
theorem dX7_twice_39 : decode cX7_twice 39 = .ok (.aload_n 0, 1) := by decide +kernel
theorem dX7_twice_40 : decode cX7_twice 40 = .ok (.getfield 18, 3) := by decide +kernel
theorem dX7_twice_43 : decode cX7_twice 43 = .ok (.aload_n 1, 1) := by decide +kernel
theorem dX7_twice_44 : decode cX7_twice 44 = .ok (.getfield 39, 3) := by decide +kernel
theorem dX7_twice_47 : decode cX7_twice 47 = .ok (.iload 5, 2) := by decide +kernel
theorem dX7_twice_49 : decode cX7_twice 49 = .ok (.iaload, 1) := by decide +kernel
theorem dX7_twice_50 : decode cX7_twice 50 = .ok (.iconst (-1), 1) := by decide +kernel
theorem dX7_twice_51 : decode cX7_twice 51 = .ok (.invokestatic 25, 3) := by decide +kernel
theorem dX7_twice_54 : decode cX7_twice 54 = .ok (.istore 6, 2) := by decide +kernel
theorem dX7_twice_56 : decode cX7_twice 56 = .ok (.aload_n 0, 1) := by decide +kernel
theorem dX7_twice_57 : decode cX7_twice 57 = .ok (.getfield 18, 3) := by decide +kernel
theorem dX7_twice_60 : decode cX7_twice 60 = .ok (.aload_n 1, 1) := by decide +kernel
theorem dX7_twice_61 : decode cX7_twice 61 = .ok (.getfield 42, 3) := by decide +kernel
theorem dX7_twice_64 : decode cX7_twice 64 = .ok (.iload 5, 2) := by decide +kernel
theorem dX7_twice_66 : decode cX7_twice 66 = .ok (.iaload, 1) := by decide +kernel
theorem dX7_twice_67 : decode cX7_twice 67 = .ok (.iconst (-1), 1) := by decide +kernel
theorem dX7_twice_68 : decode cX7_twice 68 = .ok (.invokestatic 25, 3) := by decide +kernel
theorem dX7_twice_71 : decode cX7_twice 71 = .ok (.istore 7, 2) := by decide +kernel
theorem dX7_twice_73 : decode cX7_twice 73 = .ok (.aload_n 0, 1) := by decide +kernel
theorem dX7_twice_74 : decode cX7_twice 74 = .ok (.getfield 18, 3) := by decide +kernel
theorem dX7_twice_77 : decode cX7_twice 77 = .ok (.iload 5, 2) := by decide +kernel
theorem dX7_twice_79 : decode cX7_twice 79 = .ok (.aload_n 1, 1) := by decide +kernel
theorem dX7_twice_80 : decode cX7_twice 80 = .ok (.iload 5, 2) := by decide +kernel
theorem dX7_twice_82 : decode cX7_twice 82 = .ok (.iload 6, 2) := by decide +kernel
theorem dX7_twice_84 : decode cX7_twice 84 = .ok (.iload 7, 2) := by decide +kernel
theorem dX7_twice_86 : decode cX7_twice 86 = .ok (.invokestatic 45, 3) := by decide +kernel
theorem dX7_twice_89 : decode cX7_twice 89 = .ok (.aload_n 0, 1) := by decide +kernel
theorem dX7_twice_90 : decode cX7_twice 90 = .ok (.aload_n 1, 1) := by decide +kernel
theorem dX7_twice_91 : decode cX7_twice 91 = .ok (.iload 5, 2) := by decide +kernel
theorem dX7_twice_93 : decode cX7_twice 93 = .ok (.iload_n 3, 1) := by decide +kernel
theorem dX7_twice_94 : decode cX7_twice 94 = .ok (.iload 4, 2) := by decide +kernel
theorem dX7_twice_96 : decode cX7_twice 96 = .ok (.invokevirtual 76, 3) := by decide +kernel
theorem dX7_twice_99 : decode cX7_twice 99 = .ok (.invokestatic 52, 3) := by decide +kernel
theorem dX7_twice_102 : decode cX7_twice 102 = .ok (.iastore, 1) := by decide +kernel
theorem dX7_twice_103 : decode cX7_twice 103 = .ok (.iinc 5 1, 3) := by decide +kernel
theorem dX7_twice_106 : decode cX7_twice 106 = .ok (.goto (-84), 3) := by decide +kernel
theorem dX7_twice_109 : decode cX7_twice 109 = .ok (.aload_n 0, 1) := by decide +kernel
theorem dX7_twice_110 : decode cX7_twice 110 = .ok (.getfield 18, 3) := by decide +kernel
theorem dX7_twice_113 : decode cX7_twice 113 = .ok (.iload_n 2, 1) := by decide +kernel
theorem dX7_twice_114 : decode cX7_twice 114 = .ok (.iconst (-1), 1) := by decide +kernel
theorem dX7_twice_115 : decode cX7_twice 115 = .ok (.invokestatic 25, 3) := by decide +kernel
theorem dX7_twice_118 : decode cX7_twice 118 = .ok (.ireturn, 1) := by decide +kernel
theorem dX7_crossed_0 : decode cX7_crossed 0 = .ok (.iload_n 2, 1) := by decide +kernel
theorem dX7_crossed_1 : decode cX7_crossed 1 = .ok (.ifCond .lt 31, 3) := by decide +kernel
theorem dX7_crossed_4 : decode cX7_crossed 4 = .ok (.iload_n 2, 1) := by decide +kernel
theorem dX7_crossed_5 : decode cX7_crossed 5 = .ok (.sipush 400, 3) := by decide +kernel
theorem dX7_crossed_8 : decode cX7_crossed 8 = .ok (.if_icmp .ge 24, 3) := by decide +kernel
theorem dX7_crossed_11 : decode cX7_crossed 11 = .ok (.aload_n 1, 1) := by decide +kernel
theorem dX7_crossed_12 : decode cX7_crossed 12 = .ok (.getfield 49, 3) := by decide +kernel
theorem dX7_crossed_15 : decode cX7_crossed 15 = .ok (.iload_n 2, 1) := by decide +kernel
theorem dX7_crossed_16 : decode cX7_crossed 16 = .ok (.iaload, 1) := by decide +kernel
theorem dX7_crossed_17 : decode cX7_crossed 17 = .ok (.iconst 5, 1) := by decide +kernel
theorem dX7_crossed_18 : decode cX7_crossed 18 = .ok (.if_icmp .eq 16, 3) := by decide +kernel
theorem dX7_crossed_21 : decode cX7_crossed 21 = .ok (.aload_n 1, 1) := by decide +kernel
theorem dX7_crossed_22 : decode cX7_crossed 22 = .ok (.getfield 49, 3) := by decide +kernel
theorem dX7_crossed_25 : decode cX7_crossed 25 = .ok (.iload_n 2, 1) := by decide +kernel
theorem dX7_crossed_26 : decode cX7_crossed 26 = .ok (.iaload, 1) := by decide +kernel
theorem dX7_crossed_27 : decode cX7_crossed 27 = .ok (.bipush 6, 2) := by decide +kernel
theorem dX7_crossed_29 : decode cX7_crossed 29 = .ok (.if_icmp .eq 5, 3) := by decide +kernel
theorem dX7_crossed_32 : decode cX7_crossed 32 = .ok (.iconst 0, 1) := by decide +kernel
theorem dX7_crossed_33 : decode cX7_crossed 33 = .ok (.ireturn, 1) := by decide +kernel
theorem dX7_crossed_34 : decode cX7_crossed 34 = .ok (.aload_n 0, 1) := by decide +kernel
theorem dX7_crossed_35 : decode cX7_crossed 35 = .ok (.getfield 9, 3) := by decide +kernel
theorem dX7_crossed_38 : decode cX7_crossed 38 = .ok (.aload_n 1, 1) := by decide +kernel
theorem dX7_crossed_39 : decode cX7_crossed 39 = .ok (.getfield 42, 3) := by decide +kernel
theorem dX7_crossed_42 : decode cX7_crossed 42 = .ok (.iload_n 2, 1) := by decide +kernel
theorem dX7_crossed_43 : decode cX7_crossed 43 = .ok (.iaload, 1) := by decide +kernel
theorem dX7_crossed_44 : decode cX7_crossed 44 = .ok (.iload_n 3, 1) := by decide +kernel
theorem dX7_crossed_45 : decode cX7_crossed 45 = .ok (.invokestatic 25, 3) := by decide +kernel
theorem dX7_crossed_48 : decode cX7_crossed 48 = .ok (.istore 5, 2) := by decide +kernel
theorem dX7_crossed_50 : decode cX7_crossed 50 = .ok (.aload_n 0, 1) := by decide +kernel
theorem dX7_crossed_51 : decode cX7_crossed 51 = .ok (.getfield 15, 3) := by decide +kernel
theorem dX7_crossed_54 : decode cX7_crossed 54 = .ok (.aload_n 1, 1) := by decide +kernel
theorem dX7_crossed_55 : decode cX7_crossed 55 = .ok (.getfield 42, 3) := by decide +kernel
theorem dX7_crossed_58 : decode cX7_crossed 58 = .ok (.iload_n 2, 1) := by decide +kernel
theorem dX7_crossed_59 : decode cX7_crossed 59 = .ok (.iaload, 1) := by decide +kernel
theorem dX7_crossed_60 : decode cX7_crossed 60 = .ok (.iload 4, 2) := by decide +kernel
theorem dX7_crossed_62 : decode cX7_crossed 62 = .ok (.invokestatic 25, 3) := by decide +kernel
theorem dX7_crossed_65 : decode cX7_crossed 65 = .ok (.istore 6, 2) := by decide +kernel
theorem dX7_crossed_67 : decode cX7_crossed 67 = .ok (.aload_n 1, 1) := by decide +kernel
theorem dX7_crossed_68 : decode cX7_crossed 68 = .ok (.getfield 49, 3) := by decide +kernel
theorem dX7_crossed_71 : decode cX7_crossed 71 = .ok (.iload_n 2, 1) := by decide +kernel
theorem dX7_crossed_72 : decode cX7_crossed 72 = .ok (.iaload, 1) := by decide +kernel
theorem dX7_crossed_73 : decode cX7_crossed 73 = .ok (.iconst 5, 1) := by decide +kernel
theorem dX7_crossed_74 : decode cX7_crossed 74 = .ok (.if_icmp .ne 54, 3) := by decide +kernel
theorem dX7_crossed_77 : decode cX7_crossed 77 = .ok (.aload_n 0, 1) := by decide +kernel
theorem dX7_crossed_78 : decode cX7_crossed 78 = .ok (.getfield 9, 3) := by decide +kernel
theorem dX7_crossed_81 : decode cX7_crossed 81 = .ok (.aload_n 1, 1) := by decide +kernel
theorem dX7_crossed_82 : decode cX7_crossed 82 = .ok (.getfield 39, 3) := by decide +kernel
theorem dX7_crossed_85 : decode cX7_crossed 85 = .ok (.iload_n 2, 1) := by decide +kernel
theorem dX7_crossed_86 : decode cX7_crossed 86 = .ok (.iaload, 1) := by decide +kernel
theorem dX7_crossed_87 : decode cX7_crossed 87 = .ok (.iload_n 3, 1) := by decide +kernel
theorem dX7_crossed_88 : decode cX7_crossed 88 = .ok (.invokestatic 25, 3) := by decide +kernel
theorem dX7_crossed_91 : decode cX7_crossed 91 = .ok (.istore 7, 2) := by decide +kernel
theorem dX7_crossed_93 : decode cX7_crossed 93 = .ok (.aload_n 0, 1) := by decide +kernel
theorem dX7_crossed_94 : decode cX7_crossed 94 = .ok (.getfield 15, 3) := by decide +kernel
theorem dX7_crossed_97 : decode cX7_crossed 97 = .ok (.aload_n 1, 1) := by decide +kernel
theorem dX7_crossed_98 : decode cX7_crossed 98 = .ok (.getfield 39, 3) := by decide +kernel
theorem dX7_crossed_101 : decode cX7_crossed 101 = .ok (.iload_n 2, 1) := by decide +kernel
theorem dX7_crossed_102 : decode cX7_crossed 102 = .ok (.iaload, 1) := by decide +kernel
theorem dX7_crossed_103 : decode cX7_crossed 103 = .ok (.iload 4, 2) := by decide +kernel
theorem dX7_crossed_105 : decode cX7_crossed 105 = .ok (.invokestatic 25, 3) := by decide +kernel
theorem dX7_crossed_108 : decode cX7_crossed 108 = .ok (.istore 8, 2) := by decide +kernel
theorem dX7_crossed_110 : decode cX7_crossed 110 = .ok (.iload 7, 2) := by decide +kernel
theorem dX7_crossed_112 : decode cX7_crossed 112 = .ok (.iload 6, 2) := by decide +kernel
theorem dX7_crossed_114 : decode cX7_crossed 114 = .ok (.invokestatic 64, 3) := by decide +kernel
theorem dX7_crossed_117 : decode cX7_crossed 117 = .ok (.iload 8, 2) := by decide +kernel
theorem dX7_crossed_119 : decode cX7_crossed 119 = .ok (.iload 5, 2) := by decide +kernel
theorem dX7_crossed_121 : decode cX7_crossed 121 = .ok (.invokestatic 64, 3) := by decide +kernel
theorem dX7_crossed_124 : decode cX7_crossed 124 = .ok (.invokestatic 52, 3) := by decide +kernel
theorem dX7_crossed_127 : decode cX7_crossed 127 = .ok (.ireturn, 1) := by decide +kernel
theorem dX7_crossed_128 : decode cX7_crossed 128 = .ok (.aload_n 0, 1) := by decide +kernel
theorem dX7_crossed_129 : decode cX7_crossed 129 = .ok (.getfield 9, 3) := by decide +kernel
theorem dX7_crossed_132 : decode cX7_crossed 132 = .ok (.iload_n 2, 1) := by decide +kernel
theorem dX7_crossed_133 : decode cX7_crossed 133 = .ok (.iaload, 1) := by decide +kernel
theorem dX7_crossed_134 : decode cX7_crossed 134 = .ok (.iload 6, 2) := by decide +kernel
theorem dX7_crossed_136 : decode cX7_crossed 136 = .ok (.invokestatic 64, 3) := by decide +kernel
theorem dX7_crossed_139 : decode cX7_crossed 139 = .ok (.aload_n 0, 1) := by decide +kernel
theorem dX7_crossed_140 : decode cX7_crossed 140 = .ok (.getfield 15, 3) := by decide +kernel
theorem dX7_crossed_143 : decode cX7_crossed 143 = .ok (.iload_n 2, 1) := by decide +kernel
theorem dX7_crossed_144 : decode cX7_crossed 144 = .ok (.iaload, 1) := by decide +kernel
theorem dX7_crossed_145 : decode cX7_crossed 145 = .ok (.iload 5, 2) := by decide +kernel
theorem dX7_crossed_147 : decode cX7_crossed 147 = .ok (.invokestatic 64, 3) := by decide +kernel
theorem dX7_crossed_150 : decode cX7_crossed 150 = .ok (.invokestatic 52, 3) := by decide +kernel
theorem dX7_crossed_153 : decode cX7_crossed 153 = .ok (.istore 7, 2) := by decide +kernel
theorem dX7_crossed_155 : decode cX7_crossed 155 = .ok (.iconst 0, 1) := by decide +kernel
theorem dX7_crossed_156 : decode cX7_crossed 156 = .ok (.iload 7, 2) := by decide +kernel
theorem dX7_crossed_158 : decode cX7_crossed 158 = .ok (.invokestatic 58, 3) := by decide +kernel
theorem dX7_crossed_161 : decode cX7_crossed 161 = .ok (.aload_n 1, 1) := by decide +kernel
theorem dX7_crossed_162 : decode cX7_crossed 162 = .ok (.getfield 73, 3) := by decide +kernel
theorem dX7_crossed_165 : decode cX7_crossed 165 = .ok (.iload_n 2, 1) := by decide +kernel
theorem dX7_crossed_166 : decode cX7_crossed 166 = .ok (.iaload, 1) := by decide +kernel
theorem dX7_crossed_167 : decode cX7_crossed 167 = .ok (.invokestatic 64, 3) := by decide +kernel
theorem dX7_crossed_170 : decode cX7_crossed 170 = .ok (.ireturn, 1) := by decide +kernel
theorem dX8_init_0 : decode cX8_init 0 = .ok (.aload_n 0, 1) := by decide +kernel
theorem dX8_init_1 : decode cX8_init 1 = .ok (.invokespecial 3, 3) := by decide +kernel
theorem dX8_init_4 : decode cX8_init 4 = .ok (.aload_n 0, 1) := by decide +kernel
theorem dX8_init_5 : decode cX8_init 5 = .ok (.bipush 48, 2) := by decide +kernel
theorem dX8_init_7 : decode cX8_init 7 = .ok (.newarray .int, 2) := by decide +kernel
theorem dX8_init_9 : decode cX8_init 9 = .ok (.putfield 11, 3) := by decide +kernel
theorem dX8_init_12 : decode cX8_init 12 = .ok (.aload_n 0, 1) := by decide +kernel
theorem dX8_init_13 : decode cX8_init 13 = .ok (.bipush 48, 2) := by decide +kernel
theorem dX8_init_15 : decode cX8_init 15 = .ok (.newarray .int, 2) := by decide +kernel
theorem dX8_init_17 : decode cX8_init 17 = .ok (.putfield 15, 3) := by decide +kernel
theorem dX8_init_20 : decode cX8_init 20 = .ok (.return_, 1) := by decide +kernel
theorem dX8_clear_0 : decode cX8_clear 0 = .ok (.aload_n 0, 1) := by decide +kernel
theorem dX8_clear_1 : decode cX8_clear 1 = .ok (.iconst 0, 1) := by decide +kernel
theorem dX8_clear_2 : decode cX8_clear 2 = .ok (.iload_n 1, 1) := by decide +kernel
theorem dX8_clear_3 : decode cX8_clear 3 = .ok (.bipush 48, 2) := by decide +kernel
theorem dX8_clear_5 : decode cX8_clear 5 = .ok (.invokestatic 18, 3) := by decide +kernel
theorem dX8_clear_8 : decode cX8_clear 8 = .ok (.invokestatic 24, 3) := by decide +kernel
theorem dX8_clear_11 : decode cX8_clear 11 = .ok (.putfield 27, 3) := by decide +kernel
theorem dX8_clear_14 : decode cX8_clear 14 = .ok (.iconst 0, 1) := by decide +kernel
theorem dX8_clear_15 : decode cX8_clear 15 = .ok (.istore_n 2, 1) := by decide +kernel
theorem dX8_clear_16 : decode cX8_clear 16 = .ok (.iload_n 2, 1) := by decide +kernel
theorem dX8_clear_17 : decode cX8_clear 17 = .ok (.aload_n 0, 1) := by decide +kernel
theorem dX8_clear_18 : decode cX8_clear 18 = .ok (.getfield 27, 3) := by decide +kernel
theorem dX8_clear_21 : decode cX8_clear 21 = .ok (.if_icmp .ge 24, 3) := by decide +kernel
theorem dX8_clear_24 : decode cX8_clear 24 = .ok (.aload_n 0, 1) := by decide +kernel
theorem dX8_clear_25 : decode cX8_clear 25 = .ok (.getfield 11, 3) := by decide +kernel
theorem dX8_clear_28 : decode cX8_clear 28 = .ok (.iload_n 2, 1) := by decide +kernel
theorem dX8_clear_29 : decode cX8_clear 29 = .ok (.iconst 0, 1) := by decide +kernel
theorem dX8_clear_30 : decode cX8_clear 30 = .ok (.iastore, 1) := by decide +kernel
theorem dX8_clear_31 : decode cX8_clear 31 = .ok (.aload_n 0, 1) := by decide +kernel
theorem dX8_clear_32 : decode cX8_clear 32 = .ok (.getfield 15, 3) := by decide +kernel
theorem dX8_clear_35 : decode cX8_clear 35 = .ok (.iload_n 2, 1) := by decide +kernel
theorem dX8_clear_36 : decode cX8_clear 36 = .ok (.bipush (-2), 2) := by decide +kernel
theorem dX8_clear_38 : decode cX8_clear 38 = .ok (.iastore, 1) := by decide +kernel
theorem dX8_clear_39 : decode cX8_clear 39 = .ok (.iinc 2 1, 3) := by decide +kernel
theorem dX8_clear_42 : decode cX8_clear 42 = .ok (.goto (-26), 3) := by decide +kernel
theorem dX8_clear_45 : decode cX8_clear 45 = .ok (.return_, 1) := by decide +kernel
theorem dX8_valueAt_0 : decode cX8_valueAt 0 = .ok (.iload_n 1, 1) := by decide +kernel
theorem dX8_valueAt_1 : decode cX8_valueAt 1 = .ok (.ifCond .lt 20, 3) := by decide +kernel
theorem dX8_valueAt_4 : decode cX8_valueAt 4 = .ok (.iload_n 1, 1) := by decide +kernel
theorem dX8_valueAt_5 : decode cX8_valueAt 5 = .ok (.aload_n 0, 1) := by decide +kernel
theorem dX8_valueAt_6 : decode cX8_valueAt 6 = .ok (.getfield 27, 3) := by decide +kernel
theorem dX8_valueAt_9 : decode cX8_valueAt 9 = .ok (.if_icmp .ge 12, 3) := by decide +kernel
theorem dX8_valueAt_12 : decode cX8_valueAt 12 = .ok (.aload_n 0, 1) := by decide +kernel
theorem dX8_valueAt_13 : decode cX8_valueAt 13 = .ok (.getfield 11, 3) := by decide +kernel
theorem dX8_valueAt_16 : decode cX8_valueAt 16 = .ok (.iload_n 1, 1) := by decide +kernel
theorem dX8_valueAt_17 : decode cX8_valueAt 17 = .ok (.iaload, 1) := by decide +kernel
theorem dX8_valueAt_18 : decode cX8_valueAt 18 = .ok (.goto 4, 3) := by decide +kernel
theorem dX8_valueAt_21 : decode cX8_valueAt 21 = .ok (.iconst 0, 1) := by decide +kernel
theorem dX8_valueAt_22 : decode cX8_valueAt 22 = .ok (.ireturn, 1) := by decide +kernel
theorem dX8_sourceAt_0 : decode cX8_sourceAt 0 = .ok (.iload_n 1, 1) := by decide +kernel
theorem dX8_sourceAt_1 : decode cX8_sourceAt 1 = .ok (.ifCond .lt 20, 3) := by decide +kernel
theorem dX8_sourceAt_4 : decode cX8_sourceAt 4 = .ok (.iload_n 1, 1) := by decide +kernel
theorem dX8_sourceAt_5 : decode cX8_sourceAt 5 = .ok (.aload_n 0, 1) := by decide +kernel
theorem dX8_sourceAt_6 : decode cX8_sourceAt 6 = .ok (.getfield 27, 3) := by decide +kernel
theorem dX8_sourceAt_9 : decode cX8_sourceAt 9 = .ok (.if_icmp .ge 12, 3) := by decide +kernel
theorem dX8_sourceAt_12 : decode cX8_sourceAt 12 = .ok (.aload_n 0, 1) := by decide +kernel
theorem dX8_sourceAt_13 : decode cX8_sourceAt 13 = .ok (.getfield 15, 3) := by decide +kernel
theorem dX8_sourceAt_16 : decode cX8_sourceAt 16 = .ok (.iload_n 1, 1) := by decide +kernel
theorem dX8_sourceAt_17 : decode cX8_sourceAt 17 = .ok (.iaload, 1) := by decide +kernel
theorem dX8_sourceAt_18 : decode cX8_sourceAt 18 = .ok (.goto 5, 3) := by decide +kernel
theorem dX8_sourceAt_21 : decode cX8_sourceAt 21 = .ok (.bipush (-2), 2) := by decide +kernel
theorem dX8_sourceAt_23 : decode cX8_sourceAt 23 = .ok (.ireturn, 1) := by decide +kernel
theorem dX8_put_0 : decode cX8_put 0 = .ok (.iload_n 1, 1) := by decide +kernel
theorem dX8_put_1 : decode cX8_put 1 = .ok (.ifCond .lt 25, 3) := by decide +kernel
theorem dX8_put_4 : decode cX8_put 4 = .ok (.iload_n 1, 1) := by decide +kernel
theorem dX8_put_5 : decode cX8_put 5 = .ok (.aload_n 0, 1) := by decide +kernel
theorem dX8_put_6 : decode cX8_put 6 = .ok (.getfield 27, 3) := by decide +kernel
theorem dX8_put_9 : decode cX8_put 9 = .ok (.if_icmp .ge 17, 3) := by decide +kernel
theorem dX8_put_12 : decode cX8_put 12 = .ok (.aload_n 0, 1) := by decide +kernel
theorem dX8_put_13 : decode cX8_put 13 = .ok (.getfield 11, 3) := by decide +kernel
theorem dX8_put_16 : decode cX8_put 16 = .ok (.iload_n 1, 1) := by decide +kernel
theorem dX8_put_17 : decode cX8_put 17 = .ok (.iload_n 2, 1) := by decide +kernel
theorem dX8_put_18 : decode cX8_put 18 = .ok (.iastore, 1) := by decide +kernel
theorem dX8_put_19 : decode cX8_put 19 = .ok (.aload_n 0, 1) := by decide +kernel
theorem dX8_put_20 : decode cX8_put 20 = .ok (.getfield 15, 3) := by decide +kernel
theorem dX8_put_23 : decode cX8_put 23 = .ok (.iload_n 1, 1) := by decide +kernel
theorem dX8_put_24 : decode cX8_put 24 = .ok (.iload_n 3, 1) := by decide +kernel
theorem dX8_put_25 : decode cX8_put 25 = .ok (.iastore, 1) := by decide +kernel
theorem dX8_put_26 : decode cX8_put 26 = .ok (.return_, 1) := by decide +kernel
theorem dX8_add_0 : decode cX8_add 0 = .ok (.aload_n 0, 1) := by decide +kernel
theorem dX8_add_1 : decode cX8_add 1 = .ok (.getfield 27, 3) := by decide +kernel
theorem dX8_add_4 : decode cX8_add 4 = .ok (.ifCond .lt 42, 3) := by decide +kernel
theorem dX8_add_7 : decode cX8_add 7 = .ok (.aload_n 0, 1) := by decide +kernel
theorem dX8_add_8 : decode cX8_add 8 = .ok (.getfield 27, 3) := by decide +kernel
theorem dX8_add_11 : decode cX8_add 11 = .ok (.bipush 48, 2) := by decide +kernel
theorem dX8_add_13 : decode cX8_add 13 = .ok (.if_icmp .ge 33, 3) := by decide +kernel
theorem dX8_add_16 : decode cX8_add 16 = .ok (.aload_n 0, 1) := by decide +kernel
theorem dX8_add_17 : decode cX8_add 17 = .ok (.getfield 11, 3) := by decide +kernel
theorem dX8_add_20 : decode cX8_add 20 = .ok (.aload_n 0, 1) := by decide +kernel
theorem dX8_add_21 : decode cX8_add 21 = .ok (.getfield 27, 3) := by decide +kernel
theorem dX8_add_24 : decode cX8_add 24 = .ok (.iload_n 1, 1) := by decide +kernel
theorem dX8_add_25 : decode cX8_add 25 = .ok (.iastore, 1) := by decide +kernel
theorem dX8_add_26 : decode cX8_add 26 = .ok (.aload_n 0, 1) := by decide +kernel
theorem dX8_add_27 : decode cX8_add 27 = .ok (.getfield 15, 3) := by decide +kernel
theorem dX8_add_30 : decode cX8_add 30 = .ok (.aload_n 0, 1) := by decide +kernel
theorem dX8_add_31 : decode cX8_add 31 = .ok (.getfield 27, 3) := by decide +kernel
theorem dX8_add_34 : decode cX8_add 34 = .ok (.iload_n 2, 1) := by decide +kernel
theorem dX8_add_35 : decode cX8_add 35 = .ok (.iastore, 1) := by decide +kernel
theorem dX8_add_36 : decode cX8_add 36 = .ok (.aload_n 0, 1) := by decide +kernel
theorem dX8_add_37 : decode cX8_add 37 = .ok (.dup, 1) := by decide +kernel
theorem dX8_add_38 : decode cX8_add 38 = .ok (.getfield 27, 3) := by decide +kernel
theorem dX8_add_41 : decode cX8_add 41 = .ok (.iconst 1, 1) := by decide +kernel
theorem dX8_add_42 : decode cX8_add 42 = .ok (.iadd, 1) := by decide +kernel
theorem dX8_add_43 : decode cX8_add 43 = .ok (.putfield 27, 3) := by decide +kernel
theorem dX8_add_46 : decode cX8_add 46 = .ok (.return_, 1) := by decide +kernel
theorem dX8_drop_0 : decode cX8_drop 0 = .ok (.aload_n 0, 1) := by decide +kernel
theorem dX8_drop_1 : decode cX8_drop 1 = .ok (.iconst 0, 1) := by decide +kernel
theorem dX8_drop_2 : decode cX8_drop 2 = .ok (.aload_n 0, 1) := by decide +kernel
theorem dX8_drop_3 : decode cX8_drop 3 = .ok (.getfield 27, 3) := by decide +kernel
theorem dX8_drop_6 : decode cX8_drop 6 = .ok (.iload_n 1, 1) := by decide +kernel
theorem dX8_drop_7 : decode cX8_drop 7 = .ok (.isub, 1) := by decide +kernel
theorem dX8_drop_8 : decode cX8_drop 8 = .ok (.invokestatic 24, 3) := by decide +kernel
theorem dX8_drop_11 : decode cX8_drop 11 = .ok (.putfield 27, 3) := by decide +kernel
theorem dX8_drop_14 : decode cX8_drop 14 = .ok (.return_, 1) := by decide +kernel
theorem dX9_init_0 : decode cX9_init 0 = .ok (.aload_n 0, 1) := by decide +kernel
theorem dX9_init_1 : decode cX9_init 1 = .ok (.invokespecial 3, 3) := by decide +kernel
theorem dX9_init_4 : decode cX9_init 4 = .ok (.aload_n 0, 1) := by decide +kernel
theorem dX9_init_5 : decode cX9_init 5 = .ok (.sipush 400, 3) := by decide +kernel
theorem dX9_init_8 : decode cX9_init 8 = .ok (.newarray .int, 2) := by decide +kernel
theorem dX9_init_10 : decode cX9_init 10 = .ok (.putfield 9, 3) := by decide +kernel
theorem dX9_init_13 : decode cX9_init 13 = .ok (.aload_n 0, 1) := by decide +kernel
theorem dX9_init_14 : decode cX9_init 14 = .ok (.sipush 400, 3) := by decide +kernel
theorem dX9_init_17 : decode cX9_init 17 = .ok (.newarray .int, 2) := by decide +kernel
theorem dX9_init_19 : decode cX9_init 19 = .ok (.putfield 15, 3) := by decide +kernel
theorem dX9_init_22 : decode cX9_init 22 = .ok (.aload_n 0, 1) := by decide +kernel
theorem dX9_init_23 : decode cX9_init 23 = .ok (.sipush 400, 3) := by decide +kernel
theorem dX9_init_26 : decode cX9_init 26 = .ok (.newarray .int, 2) := by decide +kernel
theorem dX9_init_28 : decode cX9_init 28 = .ok (.putfield 18, 3) := by decide +kernel
theorem dX9_init_31 : decode cX9_init 31 = .ok (.aload_n 0, 1) := by decide +kernel
theorem dX9_init_32 : decode cX9_init 32 = .ok (.sipush 400, 3) := by decide +kernel
theorem dX9_init_35 : decode cX9_init 35 = .ok (.newarray .int, 2) := by decide +kernel
theorem dX9_init_37 : decode cX9_init 37 = .ok (.putfield 21, 3) := by decide +kernel
theorem dX9_init_40 : decode cX9_init 40 = .ok (.aload_n 0, 1) := by decide +kernel
theorem dX9_init_41 : decode cX9_init 41 = .ok (.sipush 400, 3) := by decide +kernel
theorem dX9_init_44 : decode cX9_init 44 = .ok (.newarray .int, 2) := by decide +kernel
theorem dX9_init_46 : decode cX9_init 46 = .ok (.putfield 24, 3) := by decide +kernel
theorem dX9_init_49 : decode cX9_init 49 = .ok (.aload_n 0, 1) := by decide +kernel
theorem dX9_init_50 : decode cX9_init 50 = .ok (.sipush 400, 3) := by decide +kernel
theorem dX9_init_53 : decode cX9_init 53 = .ok (.newarray .int, 2) := by decide +kernel
theorem dX9_init_55 : decode cX9_init 55 = .ok (.putfield 27, 3) := by decide +kernel
theorem dX9_init_58 : decode cX9_init 58 = .ok (.aload_n 0, 1) := by decide +kernel
theorem dX9_init_59 : decode cX9_init 59 = .ok (.sipush 400, 3) := by decide +kernel
theorem dX9_init_62 : decode cX9_init 62 = .ok (.newarray .int, 2) := by decide +kernel
theorem dX9_init_64 : decode cX9_init 64 = .ok (.putfield 30, 3) := by decide +kernel
theorem dX9_init_67 : decode cX9_init 67 = .ok (.aload_n 0, 1) := by decide +kernel
theorem dX9_init_68 : decode cX9_init 68 = .ok (.sipush 400, 3) := by decide +kernel
theorem dX9_init_71 : decode cX9_init 71 = .ok (.newarray .int, 2) := by decide +kernel
theorem dX9_init_73 : decode cX9_init 73 = .ok (.putfield 33, 3) := by decide +kernel
theorem dX9_init_76 : decode cX9_init 76 = .ok (.aload_n 0, 1) := by decide +kernel
theorem dX9_init_77 : decode cX9_init 77 = .ok (.sipush 400, 3) := by decide +kernel
theorem dX9_init_80 : decode cX9_init 80 = .ok (.newarray .int, 2) := by decide +kernel
theorem dX9_init_82 : decode cX9_init 82 = .ok (.putfield 36, 3) := by decide +kernel
theorem dX9_init_85 : decode cX9_init 85 = .ok (.aload_n 0, 1) := by decide +kernel
theorem dX9_init_86 : decode cX9_init 86 = .ok (.sipush 400, 3) := by decide +kernel
theorem dX9_init_89 : decode cX9_init 89 = .ok (.newarray .boolean, 2) := by decide +kernel
theorem dX9_init_91 : decode cX9_init 91 = .ok (.putfield 39, 3) := by decide +kernel
theorem dX9_init_94 : decode cX9_init 94 = .ok (.return_, 1) := by decide +kernel
theorem dX9_enter_0 : decode cX9_enter 0 = .ok (.aload_n 0, 1) := by decide +kernel
theorem dX9_enter_1 : decode cX9_enter 1 = .ok (.getfield 43, 3) := by decide +kernel
theorem dX9_enter_4 : decode cX9_enter 4 = .ok (.ifCond .lt 13, 3) := by decide +kernel
theorem dX9_enter_7 : decode cX9_enter 7 = .ok (.aload_n 0, 1) := by decide +kernel
theorem dX9_enter_8 : decode cX9_enter 8 = .ok (.getfield 43, 3) := by decide +kernel
theorem dX9_enter_11 : decode cX9_enter 11 = .ok (.sipush 400, 3) := by decide +kernel
theorem dX9_enter_14 : decode cX9_enter 14 = .ok (.if_icmp .lt 4, 3) := by decide +kernel
theorem dX9_enter_17 : decode cX9_enter 17 = .ok (.return_, 1) := by decide +kernel
theorem dX9_enter_18 : decode cX9_enter 18 = .ok (.aload_n 0, 1) := by decide +kernel
theorem dX9_enter_19 : decode cX9_enter 19 = .ok (.getfield 43, 3) := by decide +kernel
theorem dX9_enter_22 : decode cX9_enter 22 = .ok (.istore 4, 2) := by decide +kernel
theorem dX9_enter_24 : decode cX9_enter 24 = .ok (.aload_n 0, 1) := by decide +kernel
theorem dX9_enter_25 : decode cX9_enter 25 = .ok (.getfield 9, 3) := by decide +kernel
theorem dX9_enter_28 : decode cX9_enter 28 = .ok (.iload 4, 2) := by decide +kernel
theorem dX9_enter_30 : decode cX9_enter 30 = .ok (.iload_n 1, 1) := by decide +kernel
theorem dX9_enter_31 : decode cX9_enter 31 = .ok (.iastore, 1) := by decide +kernel
theorem dX9_enter_32 : decode cX9_enter 32 = .ok (.aload_n 0, 1) := by decide +kernel
theorem dX9_enter_33 : decode cX9_enter 33 = .ok (.getfield 15, 3) := by decide +kernel
theorem dX9_enter_36 : decode cX9_enter 36 = .ok (.iload 4, 2) := by decide +kernel
theorem dX9_enter_38 : decode cX9_enter 38 = .ok (.iload_n 2, 1) := by decide +kernel
theorem dX9_enter_39 : decode cX9_enter 39 = .ok (.iastore, 1) := by decide +kernel
theorem dX9_enter_40 : decode cX9_enter 40 = .ok (.aload_n 0, 1) := by decide +kernel
theorem dX9_enter_41 : decode cX9_enter 41 = .ok (.getfield 21, 3) := by decide +kernel
theorem dX9_enter_44 : decode cX9_enter 44 = .ok (.iload 4, 2) := by decide +kernel
theorem dX9_enter_46 : decode cX9_enter 46 = .ok (.aload_n 3, 1) := by decide +kernel
theorem dX9_enter_47 : decode cX9_enter 47 = .ok (.aload_n 3, 1) := by decide +kernel
theorem dX9_enter_48 : decode cX9_enter 48 = .ok (.getfield 47, 3) := by decide +kernel
theorem dX9_enter_51 : decode cX9_enter 51 = .ok (.iconst 2, 1) := by decide +kernel
theorem dX9_enter_52 : decode cX9_enter 52 = .ok (.isub, 1) := by decide +kernel
theorem dX9_enter_53 : decode cX9_enter 53 = .ok (.invokevirtual 52, 3) := by decide +kernel
theorem dX9_enter_56 : decode cX9_enter 56 = .ok (.iastore, 1) := by decide +kernel
theorem dX9_enter_57 : decode cX9_enter 57 = .ok (.aload_n 0, 1) := by decide +kernel
theorem dX9_enter_58 : decode cX9_enter 58 = .ok (.getfield 27, 3) := by decide +kernel
theorem dX9_enter_61 : decode cX9_enter 61 = .ok (.iload 4, 2) := by decide +kernel
theorem dX9_enter_63 : decode cX9_enter 63 = .ok (.aload_n 3, 1) := by decide +kernel
theorem dX9_enter_64 : decode cX9_enter 64 = .ok (.aload_n 3, 1) := by decide +kernel
theorem dX9_enter_65 : decode cX9_enter 65 = .ok (.getfield 47, 3) := by decide +kernel
theorem dX9_enter_68 : decode cX9_enter 68 = .ok (.iconst 2, 1) := by decide +kernel
theorem dX9_enter_69 : decode cX9_enter 69 = .ok (.isub, 1) := by decide +kernel
theorem dX9_enter_70 : decode cX9_enter 70 = .ok (.invokevirtual 56, 3) := by decide +kernel
theorem dX9_enter_73 : decode cX9_enter 73 = .ok (.iastore, 1) := by decide +kernel
theorem dX9_enter_74 : decode cX9_enter 74 = .ok (.aload_n 0, 1) := by decide +kernel
theorem dX9_enter_75 : decode cX9_enter 75 = .ok (.getfield 24, 3) := by decide +kernel
theorem dX9_enter_78 : decode cX9_enter 78 = .ok (.iload 4, 2) := by decide +kernel
theorem dX9_enter_80 : decode cX9_enter 80 = .ok (.aload_n 3, 1) := by decide +kernel
theorem dX9_enter_81 : decode cX9_enter 81 = .ok (.aload_n 3, 1) := by decide +kernel
theorem dX9_enter_82 : decode cX9_enter 82 = .ok (.getfield 47, 3) := by decide +kernel
theorem dX9_enter_85 : decode cX9_enter 85 = .ok (.iconst 1, 1) := by decide +kernel
theorem dX9_enter_86 : decode cX9_enter 86 = .ok (.isub, 1) := by decide +kernel
theorem dX9_enter_87 : decode cX9_enter 87 = .ok (.invokevirtual 52, 3) := by decide +kernel
theorem dX9_enter_90 : decode cX9_enter 90 = .ok (.iastore, 1) := by decide +kernel
theorem dX9_enter_91 : decode cX9_enter 91 = .ok (.aload_n 0, 1) := by decide +kernel
theorem dX9_enter_92 : decode cX9_enter 92 = .ok (.getfield 30, 3) := by decide +kernel
theorem dX9_enter_95 : decode cX9_enter 95 = .ok (.iload 4, 2) := by decide +kernel
theorem dX9_enter_97 : decode cX9_enter 97 = .ok (.aload_n 3, 1) := by decide +kernel
theorem dX9_enter_98 : decode cX9_enter 98 = .ok (.aload_n 3, 1) := by decide +kernel
theorem dX9_enter_99 : decode cX9_enter 99 = .ok (.getfield 47, 3) := by decide +kernel
theorem dX9_enter_102 : decode cX9_enter 102 = .ok (.iconst 1, 1) := by decide +kernel
theorem dX9_enter_103 : decode cX9_enter 103 = .ok (.isub, 1) := by decide +kernel
theorem dX9_enter_104 : decode cX9_enter 104 = .ok (.invokevirtual 56, 3) := by decide +kernel
theorem dX9_enter_107 : decode cX9_enter 107 = .ok (.iastore, 1) := by decide +kernel
theorem dX9_enter_108 : decode cX9_enter 108 = .ok (.aload_n 0, 1) := by decide +kernel
theorem dX9_enter_109 : decode cX9_enter 109 = .ok (.getfield 33, 3) := by decide +kernel
theorem dX9_enter_112 : decode cX9_enter 112 = .ok (.iload 4, 2) := by decide +kernel
theorem dX9_enter_114 : decode cX9_enter 114 = .ok (.iload_n 1, 1) := by decide +kernel
theorem dX9_enter_115 : decode cX9_enter 115 = .ok (.bipush 6, 2) := by decide +kernel
theorem dX9_enter_117 : decode cX9_enter 117 = .ok (.if_icmp .ne 16, 3) := by decide +kernel
theorem dX9_enter_120 : decode cX9_enter 120 = .ok (.aload_n 0, 1) := by decide +kernel
theorem dX9_enter_121 : decode cX9_enter 121 = .ok (.getfield 24, 3) := by decide +kernel
theorem dX9_enter_124 : decode cX9_enter 124 = .ok (.iload 4, 2) := by decide +kernel
theorem dX9_enter_126 : decode cX9_enter 126 = .ok (.iaload, 1) := by decide +kernel
theorem dX9_enter_127 : decode cX9_enter 127 = .ok (.invokestatic 59, 3) := by decide +kernel
theorem dX9_enter_130 : decode cX9_enter 130 = .ok (.goto 4, 3) := by decide +kernel
theorem dX9_enter_133 : decode cX9_enter 133 = .ok (.iconst 0, 1) := by decide +kernel
theorem dX9_enter_134 : decode cX9_enter 134 = .ok (.iastore, 1) := by decide +kernel
theorem dX9_enter_135 : decode cX9_enter 135 = .ok (.aload_n 0, 1) := by decide +kernel
theorem dX9_enter_136 : decode cX9_enter 136 = .ok (.getfield 18, 3) := by decide +kernel
theorem dX9_enter_139 : decode cX9_enter 139 = .ok (.iload 4, 2) := by decide +kernel
theorem dX9_enter_141 : decode cX9_enter 141 = .ok (.iload_n 1, 1) := by decide +kernel
theorem dX9_enter_142 : decode cX9_enter 142 = .ok (.aload_n 0, 1) := by decide +kernel
theorem dX9_enter_143 : decode cX9_enter 143 = .ok (.getfield 21, 3) := by decide +kernel
theorem dX9_enter_146 : decode cX9_enter 146 = .ok (.iload 4, 2) := by decide +kernel
theorem dX9_enter_148 : decode cX9_enter 148 = .ok (.iaload, 1) := by decide +kernel
theorem dX9_enter_149 : decode cX9_enter 149 = .ok (.aload_n 0, 1) := by decide +kernel
theorem dX9_enter_150 : decode cX9_enter 150 = .ok (.getfield 24, 3) := by decide +kernel
theorem dX9_enter_153 : decode cX9_enter 153 = .ok (.iload 4, 2) := by decide +kernel
theorem dX9_enter_155 : decode cX9_enter 155 = .ok (.iaload, 1) := by decide +kernel
theorem dX9_enter_156 : decode cX9_enter 156 = .ok (.aload_n 0, 1) := by decide +kernel
theorem dX9_enter_157 : decode cX9_enter 157 = .ok (.getfield 33, 3) := by decide +kernel
theorem dX9_enter_160 : decode cX9_enter 160 = .ok (.iload 4, 2) := by decide +kernel
theorem dX9_enter_162 : decode cX9_enter 162 = .ok (.iaload, 1) := by decide +kernel
theorem dX9_enter_163 : decode cX9_enter 163 = .ok (.invokestatic 63, 3) := by decide +kernel
theorem dX9_enter_166 : decode cX9_enter 166 = .ok (.iastore, 1) := by decide +kernel
theorem dX9_enter_167 : decode cX9_enter 167 = .ok (.aload_n 0, 1) := by decide +kernel
theorem dX9_enter_168 : decode cX9_enter 168 = .ok (.getfield 36, 3) := by decide +kernel
theorem dX9_enter_171 : decode cX9_enter 171 = .ok (.iload 4, 2) := by decide +kernel
theorem dX9_enter_173 : decode cX9_enter 173 = .ok (.aload_n 0, 1) := by decide +kernel
theorem dX9_enter_174 : decode cX9_enter 174 = .ok (.aload_n 0, 1) := by decide +kernel
theorem dX9_enter_175 : decode cX9_enter 175 = .ok (.getfield 27, 3) := by decide +kernel
theorem dX9_enter_178 : decode cX9_enter 178 = .ok (.iload 4, 2) := by decide +kernel
theorem dX9_enter_180 : decode cX9_enter 180 = .ok (.iaload, 1) := by decide +kernel
theorem dX9_enter_181 : decode cX9_enter 181 = .ok (.invokevirtual 67, 3) := by decide +kernel
theorem dX9_enter_184 : decode cX9_enter 184 = .ok (.aload_n 0, 1) := by decide +kernel
theorem dX9_enter_185 : decode cX9_enter 185 = .ok (.aload_n 0, 1) := by decide +kernel
theorem dX9_enter_186 : decode cX9_enter 186 = .ok (.getfield 30, 3) := by decide +kernel
theorem dX9_enter_189 : decode cX9_enter 189 = .ok (.iload 4, 2) := by decide +kernel
theorem dX9_enter_191 : decode cX9_enter 191 = .ok (.iaload, 1) := by decide +kernel
theorem dX9_enter_192 : decode cX9_enter 192 = .ok (.invokevirtual 67, 3) := by decide +kernel
theorem dX9_enter_195 : decode cX9_enter 195 = .ok (.ior, 1) := by decide +kernel
theorem dX9_enter_196 : decode cX9_enter 196 = .ok (.iastore, 1) := by decide +kernel
theorem dX9_enter_197 : decode cX9_enter 197 = .ok (.aload_n 0, 1) := by decide +kernel
theorem dX9_enter_198 : decode cX9_enter 198 = .ok (.dup, 1) := by decide +kernel
theorem dX9_enter_199 : decode cX9_enter 199 = .ok (.getfield 43, 3) := by decide +kernel
theorem dX9_enter_202 : decode cX9_enter 202 = .ok (.iconst 1, 1) := by decide +kernel
theorem dX9_enter_203 : decode cX9_enter 203 = .ok (.iadd, 1) := by decide +kernel
theorem dX9_enter_204 : decode cX9_enter 204 = .ok (.putfield 43, 3) := by decide +kernel
theorem dX9_enter_207 : decode cX9_enter 207 = .ok (.aload_n 3, 1) := by decide +kernel
theorem dX9_enter_208 : decode cX9_enter 208 = .ok (.iconst 2, 1) := by decide +kernel
theorem dX9_enter_209 : decode cX9_enter 209 = .ok (.invokevirtual 70, 3) := by decide +kernel
theorem dX9_enter_212 : decode cX9_enter 212 = .ok (.aload_n 3, 1) := by decide +kernel
theorem dX9_enter_213 : decode cX9_enter 213 = .ok (.aload_n 0, 1) := by decide +kernel
theorem dX9_enter_214 : decode cX9_enter 214 = .ok (.getfield 18, 3) := by decide +kernel
theorem dX9_enter_217 : decode cX9_enter 217 = .ok (.iload 4, 2) := by decide +kernel
theorem dX9_enter_219 : decode cX9_enter 219 = .ok (.iaload, 1) := by decide +kernel
theorem dX9_enter_220 : decode cX9_enter 220 = .ok (.iload 4, 2) := by decide +kernel
theorem dX9_enter_222 : decode cX9_enter 222 = .ok (.invokevirtual 74, 3) := by decide +kernel
theorem dX9_enter_225 : decode cX9_enter 225 = .ok (.return_, 1) := by decide +kernel
theorem dX9_result_0 : decode cX9_result 0 = .ok (.iload_n 0, 1) := by decide +kernel
theorem dX9_result_1 : decode cX9_result 1 = .ok (.tableswitch 45 3 5 #[27, 33, 39], 27) := by decide +kernel
theorem dX9_result_28 : decode cX9_result 28 = .ok (.iload_n 1, 1) := by decide +kernel
theorem dX9_result_29 : decode cX9_result 29 = .ok (.iload_n 2, 1) := by decide +kernel
theorem dX9_result_30 : decode cX9_result 30 = .ok (.invokestatic 78, 3) := by decide +kernel
theorem dX9_result_33 : decode cX9_result 33 = .ok (.ireturn, 1) := by decide +kernel
theorem dX9_result_34 : decode cX9_result 34 = .ok (.iload_n 1, 1) := by decide +kernel
theorem dX9_result_35 : decode cX9_result 35 = .ok (.iload_n 2, 1) := by decide +kernel
theorem dX9_result_36 : decode cX9_result 36 = .ok (.invokestatic 82, 3) := by decide +kernel
theorem dX9_result_39 : decode cX9_result 39 = .ok (.ireturn, 1) := by decide +kernel
theorem dX9_result_40 : decode cX9_result 40 = .ok (.iload_n 1, 1) := by decide +kernel
theorem dX9_result_41 : decode cX9_result 41 = .ok (.iload_n 2, 1) := by decide +kernel
theorem dX9_result_42 : decode cX9_result 42 = .ok (.invokestatic 85, 3) := by decide +kernel
theorem dX9_result_45 : decode cX9_result 45 = .ok (.ireturn, 1) := by decide +kernel
theorem dX9_result_46 : decode cX9_result 46 = .ok (.iload_n 1, 1) := by decide +kernel
theorem dX9_result_47 : decode cX9_result 47 = .ok (.iload_n 3, 1) := by decide +kernel
theorem dX9_result_48 : decode cX9_result 48 = .ok (.invokestatic 85, 3) := by decide +kernel
theorem dX9_result_51 : decode cX9_result 51 = .ok (.ireturn, 1) := by decide +kernel
theorem dX9_bitsOf_0 : decode cX9_bitsOf 0 = .ok (.iload_n 1, 1) := by decide +kernel
theorem dX9_bitsOf_1 : decode cX9_bitsOf 1 = .ok (.sipush 1000, 3) := by decide +kernel
theorem dX9_bitsOf_4 : decode cX9_bitsOf 4 = .ok (.if_icmp .lt 11, 3) := by decide +kernel
theorem dX9_bitsOf_7 : decode cX9_bitsOf 7 = .ok (.iconst 1, 1) := by decide +kernel
theorem dX9_bitsOf_8 : decode cX9_bitsOf 8 = .ok (.iload_n 1, 1) := by decide +kernel
theorem dX9_bitsOf_9 : decode cX9_bitsOf 9 = .ok (.sipush 1000, 3) := by decide +kernel
theorem dX9_bitsOf_12 : decode cX9_bitsOf 12 = .ok (.isub, 1) := by decide +kernel
theorem dX9_bitsOf_13 : decode cX9_bitsOf 13 = .ok (.ishl, 1) := by decide +kernel
theorem dX9_bitsOf_14 : decode cX9_bitsOf 14 = .ok (.ireturn, 1) := by decide +kernel
theorem dX9_bitsOf_15 : decode cX9_bitsOf 15 = .ok (.iload_n 1, 1) := by decide +kernel
theorem dX9_bitsOf_16 : decode cX9_bitsOf 16 = .ok (.ifCond .lt 20, 3) := by decide +kernel
theorem dX9_bitsOf_19 : decode cX9_bitsOf 19 = .ok (.iload_n 1, 1) := by decide +kernel
theorem dX9_bitsOf_20 : decode cX9_bitsOf 20 = .ok (.aload_n 0, 1) := by decide +kernel
theorem dX9_bitsOf_21 : decode cX9_bitsOf 21 = .ok (.getfield 43, 3) := by decide +kernel
theorem dX9_bitsOf_24 : decode cX9_bitsOf 24 = .ok (.if_icmp .ge 12, 3) := by decide +kernel
theorem dX9_bitsOf_27 : decode cX9_bitsOf 27 = .ok (.aload_n 0, 1) := by decide +kernel
theorem dX9_bitsOf_28 : decode cX9_bitsOf 28 = .ok (.getfield 36, 3) := by decide +kernel
theorem dX9_bitsOf_31 : decode cX9_bitsOf 31 = .ok (.iload_n 1, 1) := by decide +kernel
theorem dX9_bitsOf_32 : decode cX9_bitsOf 32 = .ok (.iaload, 1) := by decide +kernel
theorem dX9_bitsOf_33 : decode cX9_bitsOf 33 = .ok (.goto 4, 3) := by decide +kernel
theorem dX9_bitsOf_36 : decode cX9_bitsOf 36 = .ok (.iconst 0, 1) := by decide +kernel
theorem dX9_bitsOf_37 : decode cX9_bitsOf 37 = .ok (.ireturn, 1) := by decide +kernel
theorem dX9_markBack_0 : decode cX9_markBack 0 = .ok (.aload_n 0, 1) := by decide +kernel
theorem dX9_markBack_1 : decode cX9_markBack 1 = .ok (.invokevirtual 88, 3) := by decide +kernel
theorem dX9_markBack_4 : decode cX9_markBack 4 = .ok (.aload_n 0, 1) := by decide +kernel
theorem dX9_markBack_5 : decode cX9_markBack 5 = .ok (.iload_n 1, 1) := by decide +kernel
theorem dX9_markBack_6 : decode cX9_markBack 6 = .ok (.invokevirtual 91, 3) := by decide +kernel
theorem dX9_markBack_9 : decode cX9_markBack 9 = .ok (.aload_n 0, 1) := by decide +kernel
theorem dX9_markBack_10 : decode cX9_markBack 10 = .ok (.getfield 43, 3) := by decide +kernel
theorem dX9_markBack_13 : decode cX9_markBack 13 = .ok (.sipush 400, 3) := by decide +kernel
theorem dX9_markBack_16 : decode cX9_markBack 16 = .ok (.invokestatic 94, 3) := by decide +kernel
theorem dX9_markBack_19 : decode cX9_markBack 19 = .ok (.iconst 1, 1) := by decide +kernel
theorem dX9_markBack_20 : decode cX9_markBack 20 = .ok (.isub, 1) := by decide +kernel
theorem dX9_markBack_21 : decode cX9_markBack 21 = .ok (.istore_n 2, 1) := by decide +kernel
theorem dX9_markBack_22 : decode cX9_markBack 22 = .ok (.iload_n 2, 1) := by decide +kernel
theorem dX9_markBack_23 : decode cX9_markBack 23 = .ok (.ifCond .lt 38, 3) := by decide +kernel
theorem dX9_markBack_26 : decode cX9_markBack 26 = .ok (.aload_n 0, 1) := by decide +kernel
theorem dX9_markBack_27 : decode cX9_markBack 27 = .ok (.getfield 39, 3) := by decide +kernel
theorem dX9_markBack_30 : decode cX9_markBack 30 = .ok (.iload_n 2, 1) := by decide +kernel
theorem dX9_markBack_31 : decode cX9_markBack 31 = .ok (.baload, 1) := by decide +kernel
theorem dX9_markBack_32 : decode cX9_markBack 32 = .ok (.ifCond .eq 23, 3) := by decide +kernel
theorem dX9_markBack_35 : decode cX9_markBack 35 = .ok (.aload_n 0, 1) := by decide +kernel
theorem dX9_markBack_36 : decode cX9_markBack 36 = .ok (.aload_n 0, 1) := by decide +kernel
theorem dX9_markBack_37 : decode cX9_markBack 37 = .ok (.getfield 27, 3) := by decide +kernel
theorem dX9_markBack_40 : decode cX9_markBack 40 = .ok (.iload_n 2, 1) := by decide +kernel
theorem dX9_markBack_41 : decode cX9_markBack 41 = .ok (.iaload, 1) := by decide +kernel
theorem dX9_markBack_42 : decode cX9_markBack 42 = .ok (.invokevirtual 91, 3) := by decide +kernel
theorem dX9_markBack_45 : decode cX9_markBack 45 = .ok (.aload_n 0, 1) := by decide +kernel
theorem dX9_markBack_46 : decode cX9_markBack 46 = .ok (.aload_n 0, 1) := by decide +kernel
theorem dX9_markBack_47 : decode cX9_markBack 47 = .ok (.getfield 30, 3) := by decide +kernel
theorem dX9_markBack_50 : decode cX9_markBack 50 = .ok (.iload_n 2, 1) := by decide +kernel
theorem dX9_markBack_51 : decode cX9_markBack 51 = .ok (.iaload, 1) := by decide +kernel
theorem dX9_markBack_52 : decode cX9_markBack 52 = .ok (.invokevirtual 91, 3) := by decide +kernel
theorem dX9_markBack_55 : decode cX9_markBack 55 = .ok (.iinc 2 (-1), 3) := by decide +kernel
theorem dX9_markBack_58 : decode cX9_markBack 58 = .ok (.goto (-36), 3) := by decide +kernel
theorem dX9_markBack_61 : decode cX9_markBack 61 = .ok (.return_, 1) := by decide +kernel
theorem dX9_markForward_0 : decode cX9_markForward 0 = .ok (.aload_n 0, 1) := by decide +kernel
theorem dX9_markForward_1 : decode cX9_markForward 1 = .ok (.invokevirtual 88, 3) := by decide +kernel
theorem dX9_markForward_4 : decode cX9_markForward 4 = .ok (.aload_n 0, 1) := by decide +kernel
theorem dX9_markForward_5 : decode cX9_markForward 5 = .ok (.iload_n 1, 1) := by decide +kernel
theorem dX9_markForward_6 : decode cX9_markForward 6 = .ok (.invokevirtual 91, 3) := by decide +kernel
theorem dX9_markForward_9 : decode cX9_markForward 9 = .ok (.iload_n 1, 1) := by decide +kernel
theorem dX9_markForward_10 : decode cX9_markForward 10 = .ok (.iconst 1, 1) := by decide +kernel
theorem dX9_markForward_11 : decode cX9_markForward 11 = .ok (.iadd, 1) := by decide +kernel
theorem dX9_markForward_12 : decode cX9_markForward 12 = .ok (.iconst 0, 1) := by decide +kernel
theorem dX9_markForward_13 : decode cX9_markForward 13 = .ok (.invokestatic 99, 3) := by decide +kernel
theorem dX9_markForward_16 : decode cX9_markForward 16 = .ok (.istore_n 2, 1) := by decide +kernel
theorem dX9_markForward_17 : decode cX9_markForward 17 = .ok (.iload_n 2, 1) := by decide +kernel
theorem dX9_markForward_18 : decode cX9_markForward 18 = .ok (.aload_n 0, 1) := by decide +kernel
theorem dX9_markForward_19 : decode cX9_markForward 19 = .ok (.getfield 43, 3) := by decide +kernel
theorem dX9_markForward_22 : decode cX9_markForward 22 = .ok (.if_icmp .ge 53, 3) := by decide +kernel
theorem dX9_markForward_25 : decode cX9_markForward 25 = .ok (.iload_n 2, 1) := by decide +kernel
theorem dX9_markForward_26 : decode cX9_markForward 26 = .ok (.sipush 400, 3) := by decide +kernel
theorem dX9_markForward_29 : decode cX9_markForward 29 = .ok (.if_icmp .ge 46, 3) := by decide +kernel
theorem dX9_markForward_32 : decode cX9_markForward 32 = .ok (.aload_n 0, 1) := by decide +kernel
theorem dX9_markForward_33 : decode cX9_markForward 33 = .ok (.getfield 39, 3) := by decide +kernel
theorem dX9_markForward_36 : decode cX9_markForward 36 = .ok (.iload_n 2, 1) := by decide +kernel
theorem dX9_markForward_37 : decode cX9_markForward 37 = .ok (.aload_n 0, 1) := by decide +kernel
theorem dX9_markForward_38 : decode cX9_markForward 38 = .ok (.aload_n 0, 1) := by decide +kernel
theorem dX9_markForward_39 : decode cX9_markForward 39 = .ok (.getfield 27, 3) := by decide +kernel
theorem dX9_markForward_42 : decode cX9_markForward 42 = .ok (.iload_n 2, 1) := by decide +kernel
theorem dX9_markForward_43 : decode cX9_markForward 43 = .ok (.iaload, 1) := by decide +kernel
theorem dX9_markForward_44 : decode cX9_markForward 44 = .ok (.invokevirtual 102, 3) := by decide +kernel
theorem dX9_markForward_47 : decode cX9_markForward 47 = .ok (.ifCond .ne 16, 3) := by decide +kernel
theorem dX9_markForward_50 : decode cX9_markForward 50 = .ok (.aload_n 0, 1) := by decide +kernel
theorem dX9_markForward_51 : decode cX9_markForward 51 = .ok (.aload_n 0, 1) := by decide +kernel
theorem dX9_markForward_52 : decode cX9_markForward 52 = .ok (.getfield 30, 3) := by decide +kernel
theorem dX9_markForward_55 : decode cX9_markForward 55 = .ok (.iload_n 2, 1) := by decide +kernel
theorem dX9_markForward_56 : decode cX9_markForward 56 = .ok (.iaload, 1) := by decide +kernel
theorem dX9_markForward_57 : decode cX9_markForward 57 = .ok (.invokevirtual 102, 3) := by decide +kernel
theorem dX9_markForward_60 : decode cX9_markForward 60 = .ok (.ifCond .eq 7, 3) := by decide +kernel
theorem dX9_markForward_63 : decode cX9_markForward 63 = .ok (.iconst 1, 1) := by decide +kernel
theorem dX9_markForward_64 : decode cX9_markForward 64 = .ok (.goto 4, 3) := by decide +kernel
theorem dX9_markForward_67 : decode cX9_markForward 67 = .ok (.iconst 0, 1) := by decide +kernel
theorem dX9_markForward_68 : decode cX9_markForward 68 = .ok (.bastore, 1) := by decide +kernel
theorem dX9_markForward_69 : decode cX9_markForward 69 = .ok (.iinc 2 1, 3) := by decide +kernel
theorem dX9_markForward_72 : decode cX9_markForward 72 = .ok (.goto (-55), 3) := by decide +kernel
theorem dX9_markForward_75 : decode cX9_markForward 75 = .ok (.return_, 1) := by decide +kernel
theorem dX9_unmark_0 : decode cX9_unmark 0 = .ok (.iconst 0, 1) := by decide +kernel
theorem dX9_unmark_1 : decode cX9_unmark 1 = .ok (.istore_n 1, 1) := by decide +kernel
theorem dX9_unmark_2 : decode cX9_unmark 2 = .ok (.iload_n 1, 1) := by decide +kernel
theorem dX9_unmark_3 : decode cX9_unmark 3 = .ok (.sipush 400, 3) := by decide +kernel
theorem dX9_unmark_6 : decode cX9_unmark 6 = .ok (.if_icmp .ge 16, 3) := by decide +kernel
theorem dX9_unmark_9 : decode cX9_unmark 9 = .ok (.aload_n 0, 1) := by decide +kernel
theorem dX9_unmark_10 : decode cX9_unmark 10 = .ok (.getfield 39, 3) := by decide +kernel
theorem dX9_unmark_13 : decode cX9_unmark 13 = .ok (.iload_n 1, 1) := by decide +kernel
theorem dX9_unmark_14 : decode cX9_unmark 14 = .ok (.iconst 0, 1) := by decide +kernel
theorem dX9_unmark_15 : decode cX9_unmark 15 = .ok (.bastore, 1) := by decide +kernel
theorem dX9_unmark_16 : decode cX9_unmark 16 = .ok (.iinc 1 1, 3) := by decide +kernel
theorem dX9_unmark_19 : decode cX9_unmark 19 = .ok (.goto (-17), 3) := by decide +kernel
theorem dX9_unmark_22 : decode cX9_unmark 22 = .ok (.return_, 1) := by decide +kernel
theorem dX9_mark_0 : decode cX9_mark 0 = .ok (.iload_n 1, 1) := by decide +kernel
theorem dX9_mark_1 : decode cX9_mark 1 = .ok (.ifCond .lt 17, 3) := by decide +kernel
theorem dX9_mark_4 : decode cX9_mark 4 = .ok (.iload_n 1, 1) := by decide +kernel
theorem dX9_mark_5 : decode cX9_mark 5 = .ok (.sipush 400, 3) := by decide +kernel
theorem dX9_mark_8 : decode cX9_mark 8 = .ok (.if_icmp .ge 10, 3) := by decide +kernel
theorem dX9_mark_11 : decode cX9_mark 11 = .ok (.aload_n 0, 1) := by decide +kernel
theorem dX9_mark_12 : decode cX9_mark 12 = .ok (.getfield 39, 3) := by decide +kernel
theorem dX9_mark_15 : decode cX9_mark 15 = .ok (.iload_n 1, 1) := by decide +kernel
theorem dX9_mark_16 : decode cX9_mark 16 = .ok (.iconst 1, 1) := by decide +kernel
theorem dX9_mark_17 : decode cX9_mark 17 = .ok (.bastore, 1) := by decide +kernel
theorem dX9_mark_18 : decode cX9_mark 18 = .ok (.return_, 1) := by decide +kernel
theorem dX9_isMarked_0 : decode cX9_isMarked 0 = .ok (.iload_n 1, 1) := by decide +kernel
theorem dX9_isMarked_1 : decode cX9_isMarked 1 = .ok (.ifCond .lt 23, 3) := by decide +kernel
theorem dX9_isMarked_4 : decode cX9_isMarked 4 = .ok (.iload_n 1, 1) := by decide +kernel
theorem dX9_isMarked_5 : decode cX9_isMarked 5 = .ok (.sipush 400, 3) := by decide +kernel
theorem dX9_isMarked_8 : decode cX9_isMarked 8 = .ok (.if_icmp .ge 16, 3) := by decide +kernel
theorem dX9_isMarked_11 : decode cX9_isMarked 11 = .ok (.aload_n 0, 1) := by decide +kernel
theorem dX9_isMarked_12 : decode cX9_isMarked 12 = .ok (.getfield 39, 3) := by decide +kernel
theorem dX9_isMarked_15 : decode cX9_isMarked 15 = .ok (.iload_n 1, 1) := by decide +kernel
theorem dX9_isMarked_16 : decode cX9_isMarked 16 = .ok (.baload, 1) := by decide +kernel
theorem dX9_isMarked_17 : decode cX9_isMarked 17 = .ok (.ifCond .eq 7, 3) := by decide +kernel
theorem dX9_isMarked_20 : decode cX9_isMarked 20 = .ok (.iconst 1, 1) := by decide +kernel
theorem dX9_isMarked_21 : decode cX9_isMarked 21 = .ok (.goto 4, 3) := by decide +kernel
theorem dX9_isMarked_24 : decode cX9_isMarked 24 = .ok (.iconst 0, 1) := by decide +kernel
theorem dX9_isMarked_25 : decode cX9_isMarked 25 = .ok (.ireturn, 1) := by decide +kernel
theorem dX9_costOf_0 : decode cX9_costOf 0 = .ok (.iload_n 1, 1) := by decide +kernel
theorem dX9_costOf_1 : decode cX9_costOf 1 = .ok (.ifCond .lt 11, 3) := by decide +kernel
theorem dX9_costOf_4 : decode cX9_costOf 4 = .ok (.iload_n 1, 1) := by decide +kernel
theorem dX9_costOf_5 : decode cX9_costOf 5 = .ok (.aload_n 0, 1) := by decide +kernel
theorem dX9_costOf_6 : decode cX9_costOf 6 = .ok (.getfield 43, 3) := by decide +kernel
theorem dX9_costOf_9 : decode cX9_costOf 9 = .ok (.if_icmp .lt 5, 3) := by decide +kernel
theorem dX9_costOf_12 : decode cX9_costOf 12 = .ok (.iconst 0, 1) := by decide +kernel
theorem dX9_costOf_13 : decode cX9_costOf 13 = .ok (.ireturn, 1) := by decide +kernel
theorem dX9_costOf_14 : decode cX9_costOf 14 = .ok (.aload_n 0, 1) := by decide +kernel
theorem dX9_costOf_15 : decode cX9_costOf 15 = .ok (.aload_n 0, 1) := by decide +kernel
theorem dX9_costOf_16 : decode cX9_costOf 16 = .ok (.getfield 30, 3) := by decide +kernel
theorem dX9_costOf_19 : decode cX9_costOf 19 = .ok (.iload_n 1, 1) := by decide +kernel
theorem dX9_costOf_20 : decode cX9_costOf 20 = .ok (.iaload, 1) := by decide +kernel
theorem dX9_costOf_21 : decode cX9_costOf 21 = .ok (.invokevirtual 67, 3) := by decide +kernel
theorem dX9_costOf_24 : decode cX9_costOf 24 = .ok (.iload_n 2, 1) := by decide +kernel
theorem dX9_costOf_25 : decode cX9_costOf 25 = .ok (.iand, 1) := by decide +kernel
theorem dX9_costOf_26 : decode cX9_costOf 26 = .ok (.ifCond .eq 7, 3) := by decide +kernel
theorem dX9_costOf_29 : decode cX9_costOf 29 = .ok (.iconst 1, 1) := by decide +kernel
theorem dX9_costOf_30 : decode cX9_costOf 30 = .ok (.goto 4, 3) := by decide +kernel
theorem dX9_costOf_33 : decode cX9_costOf 33 = .ok (.iconst 0, 1) := by decide +kernel
theorem dX9_costOf_34 : decode cX9_costOf 34 = .ok (.istore_n 3, 1) := by decide +kernel
theorem dX9_costOf_35 : decode cX9_costOf 35 = .ok (.aload_n 0, 1) := by decide +kernel
theorem dX9_costOf_36 : decode cX9_costOf 36 = .ok (.getfield 9, 3) := by decide +kernel
theorem dX9_costOf_39 : decode cX9_costOf 39 = .ok (.iload_n 1, 1) := by decide +kernel
theorem dX9_costOf_40 : decode cX9_costOf 40 = .ok (.iaload, 1) := by decide +kernel
theorem dX9_costOf_41 : decode cX9_costOf 41 = .ok (.iconst 5, 1) := by decide +kernel
theorem dX9_costOf_42 : decode cX9_costOf 42 = .ok (.if_icmp .ne 26, 3) := by decide +kernel
theorem dX9_costOf_45 : decode cX9_costOf 45 = .ok (.iload_n 3, 1) := by decide +kernel
theorem dX9_costOf_46 : decode cX9_costOf 46 = .ok (.aload_n 0, 1) := by decide +kernel
theorem dX9_costOf_47 : decode cX9_costOf 47 = .ok (.aload_n 0, 1) := by decide +kernel
theorem dX9_costOf_48 : decode cX9_costOf 48 = .ok (.getfield 27, 3) := by decide +kernel
theorem dX9_costOf_51 : decode cX9_costOf 51 = .ok (.iload_n 1, 1) := by decide +kernel
theorem dX9_costOf_52 : decode cX9_costOf 52 = .ok (.iaload, 1) := by decide +kernel
theorem dX9_costOf_53 : decode cX9_costOf 53 = .ok (.invokevirtual 67, 3) := by decide +kernel
theorem dX9_costOf_56 : decode cX9_costOf 56 = .ok (.iload_n 2, 1) := by decide +kernel
theorem dX9_costOf_57 : decode cX9_costOf 57 = .ok (.iand, 1) := by decide +kernel
theorem dX9_costOf_58 : decode cX9_costOf 58 = .ok (.ifCond .eq 7, 3) := by decide +kernel
theorem dX9_costOf_61 : decode cX9_costOf 61 = .ok (.iconst 1, 1) := by decide +kernel
theorem dX9_costOf_62 : decode cX9_costOf 62 = .ok (.goto 4, 3) := by decide +kernel
theorem dX9_costOf_65 : decode cX9_costOf 65 = .ok (.iconst 0, 1) := by decide +kernel
theorem dX9_costOf_66 : decode cX9_costOf 66 = .ok (.iadd, 1) := by decide +kernel
theorem dX9_costOf_67 : decode cX9_costOf 67 = .ok (.ireturn, 1) := by decide +kernel
theorem dX9_costOf_68 : decode cX9_costOf 68 = .ok (.aload_n 0, 1) := by decide +kernel
theorem dX9_costOf_69 : decode cX9_costOf 69 = .ok (.getfield 9, 3) := by decide +kernel
theorem dX9_costOf_72 : decode cX9_costOf 72 = .ok (.iload_n 1, 1) := by decide +kernel
theorem dX9_costOf_73 : decode cX9_costOf 73 = .ok (.iaload, 1) := by decide +kernel
theorem dX9_costOf_74 : decode cX9_costOf 74 = .ok (.bipush 6, 2) := by decide +kernel
theorem dX9_costOf_76 : decode cX9_costOf 76 = .ok (.if_icmp .ne 18, 3) := by decide +kernel
theorem dX9_costOf_79 : decode cX9_costOf 79 = .ok (.aload_n 0, 1) := by decide +kernel
theorem dX9_costOf_80 : decode cX9_costOf 80 = .ok (.getfield 36, 3) := by decide +kernel
theorem dX9_costOf_83 : decode cX9_costOf 83 = .ok (.iload_n 1, 1) := by decide +kernel
theorem dX9_costOf_84 : decode cX9_costOf 84 = .ok (.iaload, 1) := by decide +kernel
theorem dX9_costOf_85 : decode cX9_costOf 85 = .ok (.iload_n 2, 1) := by decide +kernel
theorem dX9_costOf_86 : decode cX9_costOf 86 = .ok (.iand, 1) := by decide +kernel
theorem dX9_costOf_87 : decode cX9_costOf 87 = .ok (.ifCond .eq 7, 3) := by decide +kernel
theorem dX9_costOf_90 : decode cX9_costOf 90 = .ok (.iconst 1, 1) := by decide +kernel
theorem dX9_costOf_91 : decode cX9_costOf 91 = .ok (.iload_n 3, 1) := by decide +kernel
theorem dX9_costOf_92 : decode cX9_costOf 92 = .ok (.iadd, 1) := by decide +kernel
theorem dX9_costOf_93 : decode cX9_costOf 93 = .ok (.ireturn, 1) := by decide +kernel
theorem dX9_costOf_94 : decode cX9_costOf 94 = .ok (.iconst 0, 1) := by decide +kernel
theorem dX9_costOf_95 : decode cX9_costOf 95 = .ok (.ireturn, 1) := by decide +kernel
theorem dX10_init_0 : decode cX10_init 0 = .ok (.aload_n 0, 1) := by decide +kernel
theorem dX10_init_1 : decode cX10_init 1 = .ok (.invokespecial 3, 3) := by decide +kernel
theorem dX10_init_4 : decode cX10_init 4 = .ok (.return_, 1) := by decide +kernel
theorem dX10_fewest_0 : decode cX10_fewest 0 = .ok (.iconst 0, 1) := by decide +kernel
theorem dX10_fewest_1 : decode cX10_fewest 1 = .ok (.istore_n 2, 1) := by decide +kernel
theorem dX10_fewest_2 : decode cX10_fewest 2 = .ok (.lconst 1, 1) := by decide +kernel
theorem dX10_fewest_3 : decode cX10_fewest 3 = .ok (.lstore_n 3, 1) := by decide +kernel
theorem dX10_fewest_4 : decode cX10_fewest 4 = .ok (.iconst 1, 1) := by decide +kernel
theorem dX10_fewest_5 : decode cX10_fewest 5 = .ok (.istore 5, 2) := by decide +kernel
theorem dX10_fewest_7 : decode cX10_fewest 7 = .ok (.iload 5, 2) := by decide +kernel
theorem dX10_fewest_9 : decode cX10_fewest 9 = .ok (.iload_n 0, 1) := by decide +kernel
theorem dX10_fewest_10 : decode cX10_fewest 10 = .ok (.if_icmp .gt 37, 3) := by decide +kernel
theorem dX10_fewest_13 : decode cX10_fewest 13 = .ok (.lload_n 3, 1) := by decide +kernel
theorem dX10_fewest_14 : decode cX10_fewest 14 = .ok (.iload_n 0, 1) := by decide +kernel
theorem dX10_fewest_15 : decode cX10_fewest 15 = .ok (.i2l, 1) := by decide +kernel
theorem dX10_fewest_16 : decode cX10_fewest 16 = .ok (.lcmp, 1) := by decide +kernel
theorem dX10_fewest_17 : decode cX10_fewest 17 = .ok (.ifCond .ge 30, 3) := by decide +kernel
theorem dX10_fewest_20 : decode cX10_fewest 20 = .ok (.iload_n 2, 1) := by decide +kernel
theorem dX10_fewest_21 : decode cX10_fewest 21 = .ok (.iload_n 0, 1) := by decide +kernel
theorem dX10_fewest_22 : decode cX10_fewest 22 = .ok (.lload_n 3, 1) := by decide +kernel
theorem dX10_fewest_23 : decode cX10_fewest 23 = .ok (.l2i, 1) := by decide +kernel
theorem dX10_fewest_24 : decode cX10_fewest 24 = .ok (.isub, 1) := by decide +kernel
theorem dX10_fewest_25 : decode cX10_fewest 25 = .ok (.iadd, 1) := by decide +kernel
theorem dX10_fewest_26 : decode cX10_fewest 26 = .ok (.istore_n 2, 1) := by decide +kernel
theorem dX10_fewest_27 : decode cX10_fewest 27 = .ok (.lload_n 3, 1) := by decide +kernel
theorem dX10_fewest_28 : decode cX10_fewest 28 = .ok (.iload_n 1, 1) := by decide +kernel
theorem dX10_fewest_29 : decode cX10_fewest 29 = .ok (.iconst 1, 1) := by decide +kernel
theorem dX10_fewest_30 : decode cX10_fewest 30 = .ok (.iadd, 1) := by decide +kernel
theorem dX10_fewest_31 : decode cX10_fewest 31 = .ok (.iload 5, 2) := by decide +kernel
theorem dX10_fewest_33 : decode cX10_fewest 33 = .ok (.iadd, 1) := by decide +kernel
theorem dX10_fewest_34 : decode cX10_fewest 34 = .ok (.i2l, 1) := by decide +kernel
theorem dX10_fewest_35 : decode cX10_fewest 35 = .ok (.lmul, 1) := by decide +kernel
theorem dX10_fewest_36 : decode cX10_fewest 36 = .ok (.iload 5, 2) := by decide +kernel
theorem dX10_fewest_38 : decode cX10_fewest 38 = .ok (.i2l, 1) := by decide +kernel
theorem dX10_fewest_39 : decode cX10_fewest 39 = .ok (.ldiv, 1) := by decide +kernel
theorem dX10_fewest_40 : decode cX10_fewest 40 = .ok (.lstore_n 3, 1) := by decide +kernel
theorem dX10_fewest_41 : decode cX10_fewest 41 = .ok (.iinc 5 1, 3) := by decide +kernel
theorem dX10_fewest_44 : decode cX10_fewest 44 = .ok (.goto (-37), 3) := by decide +kernel
theorem dX10_fewest_47 : decode cX10_fewest 47 = .ok (.iload_n 2, 1) := by decide +kernel
theorem dX10_fewest_48 : decode cX10_fewest 48 = .ok (.ireturn, 1) := by decide +kernel
theorem dX10_firstCut_0 : decode cX10_firstCut 0 = .ok (.iload_n 0, 1) := by decide +kernel
theorem dX10_firstCut_1 : decode cX10_firstCut 1 = .ok (.iload_n 1, 1) := by decide +kernel
theorem dX10_firstCut_2 : decode cX10_firstCut 2 = .ok (.invokestatic 9, 3) := by decide +kernel
theorem dX10_firstCut_5 : decode cX10_firstCut 5 = .ok (.istore_n 2, 1) := by decide +kernel
theorem dX10_firstCut_6 : decode cX10_firstCut 6 = .ok (.iconst 1, 1) := by decide +kernel
theorem dX10_firstCut_7 : decode cX10_firstCut 7 = .ok (.istore_n 3, 1) := by decide +kernel
theorem dX10_firstCut_8 : decode cX10_firstCut 8 = .ok (.iload_n 3, 1) := by decide +kernel
theorem dX10_firstCut_9 : decode cX10_firstCut 9 = .ok (.iload_n 0, 1) := by decide +kernel
theorem dX10_firstCut_10 : decode cX10_firstCut 10 = .ok (.if_icmp .ge 32, 3) := by decide +kernel
theorem dX10_firstCut_13 : decode cX10_firstCut 13 = .ok (.iload_n 3, 1) := by decide +kernel
theorem dX10_firstCut_14 : decode cX10_firstCut 14 = .ok (.iload_n 0, 1) := by decide +kernel
theorem dX10_firstCut_15 : decode cX10_firstCut 15 = .ok (.iload_n 3, 1) := by decide +kernel
theorem dX10_firstCut_16 : decode cX10_firstCut 16 = .ok (.isub, 1) := by decide +kernel
theorem dX10_firstCut_17 : decode cX10_firstCut 17 = .ok (.iload_n 1, 1) := by decide +kernel
theorem dX10_firstCut_18 : decode cX10_firstCut 18 = .ok (.iconst 1, 1) := by decide +kernel
theorem dX10_firstCut_19 : decode cX10_firstCut 19 = .ok (.isub, 1) := by decide +kernel
theorem dX10_firstCut_20 : decode cX10_firstCut 20 = .ok (.invokestatic 9, 3) := by decide +kernel
theorem dX10_firstCut_23 : decode cX10_firstCut 23 = .ok (.iadd, 1) := by decide +kernel
theorem dX10_firstCut_24 : decode cX10_firstCut 24 = .ok (.iload_n 3, 1) := by decide +kernel
theorem dX10_firstCut_25 : decode cX10_firstCut 25 = .ok (.iload_n 1, 1) := by decide +kernel
theorem dX10_firstCut_26 : decode cX10_firstCut 26 = .ok (.invokestatic 9, 3) := by decide +kernel
theorem dX10_firstCut_29 : decode cX10_firstCut 29 = .ok (.iadd, 1) := by decide +kernel
theorem dX10_firstCut_30 : decode cX10_firstCut 30 = .ok (.iload_n 2, 1) := by decide +kernel
theorem dX10_firstCut_31 : decode cX10_firstCut 31 = .ok (.if_icmp .ne 5, 3) := by decide +kernel
theorem dX10_firstCut_34 : decode cX10_firstCut 34 = .ok (.iload_n 3, 1) := by decide +kernel
theorem dX10_firstCut_35 : decode cX10_firstCut 35 = .ok (.ireturn, 1) := by decide +kernel
theorem dX10_firstCut_36 : decode cX10_firstCut 36 = .ok (.iinc 3 1, 3) := by decide +kernel
theorem dX10_firstCut_39 : decode cX10_firstCut 39 = .ok (.goto (-31), 3) := by decide +kernel
theorem dX10_firstCut_42 : decode cX10_firstCut 42 = .ok (.iconst 1, 1) := by decide +kernel
theorem dX10_firstCut_43 : decode cX10_firstCut 43 = .ok (.ireturn, 1) := by decide +kernel
theorem dX10_start_0 : decode cX10_start 0 = .ok (.aload_n 0, 1) := by decide +kernel
theorem dX10_start_1 : decode cX10_start 1 = .ok (.iload_n 1, 1) := by decide +kernel
theorem dX10_start_2 : decode cX10_start 2 = .ok (.putfield 15, 3) := by decide +kernel
theorem dX10_start_5 : decode cX10_start 5 = .ok (.aload_n 0, 1) := by decide +kernel
theorem dX10_start_6 : decode cX10_start 6 = .ok (.iconst 0, 1) := by decide +kernel
theorem dX10_start_7 : decode cX10_start 7 = .ok (.putfield 19, 3) := by decide +kernel
theorem dX10_start_10 : decode cX10_start 10 = .ok (.aload_n 0, 1) := by decide +kernel
theorem dX10_start_11 : decode cX10_start 11 = .ok (.iconst 0, 1) := by decide +kernel
theorem dX10_start_12 : decode cX10_start 12 = .ok (.putfield 22, 3) := by decide +kernel
theorem dX10_start_15 : decode cX10_start 15 = .ok (.aload_n 0, 1) := by decide +kernel
theorem dX10_start_16 : decode cX10_start 16 = .ok (.iconst 0, 1) := by decide +kernel
theorem dX10_start_17 : decode cX10_start 17 = .ok (.putfield 25, 3) := by decide +kernel
theorem dX10_start_20 : decode cX10_start 20 = .ok (.aload_n 0, 1) := by decide +kernel
theorem dX10_start_21 : decode cX10_start 21 = .ok (.iconst 0, 1) := by decide +kernel
theorem dX10_start_22 : decode cX10_start 22 = .ok (.putfield 28, 3) := by decide +kernel
theorem dX10_start_25 : decode cX10_start 25 = .ok (.aload_n 0, 1) := by decide +kernel
theorem dX10_start_26 : decode cX10_start 26 = .ok (.iconst (-1), 1) := by decide +kernel
theorem dX10_start_27 : decode cX10_start 27 = .ok (.putfield 31, 3) := by decide +kernel
theorem dX10_start_30 : decode cX10_start 30 = .ok (.aload_n 0, 1) := by decide +kernel
theorem dX10_start_31 : decode cX10_start 31 = .ok (.iconst (-1), 1) := by decide +kernel
theorem dX10_start_32 : decode cX10_start 32 = .ok (.putfield 34, 3) := by decide +kernel
theorem dX10_start_35 : decode cX10_start 35 = .ok (.aload_n 0, 1) := by decide +kernel
theorem dX10_start_36 : decode cX10_start 36 = .ok (.iconst (-1), 1) := by decide +kernel
theorem dX10_start_37 : decode cX10_start 37 = .ok (.putfield 37, 3) := by decide +kernel
theorem dX10_start_40 : decode cX10_start 40 = .ok (.return_, 1) := by decide +kernel
theorem dX10_lay_0 : decode cX10_lay 0 = .ok (.iload_n 2, 1) := by decide +kernel
theorem dX10_lay_1 : decode cX10_lay 1 = .ok (.istore 4, 2) := by decide +kernel
theorem dX10_lay_3 : decode cX10_lay 3 = .ok (.iconst 0, 1) := by decide +kernel
theorem dX10_lay_4 : decode cX10_lay 4 = .ok (.istore 5, 2) := by decide +kernel
theorem dX10_lay_6 : decode cX10_lay 6 = .ok (.iload 5, 2) := by decide +kernel
theorem dX10_lay_8 : decode cX10_lay 8 = .ok (.bipush 60, 2) := by decide +kernel
theorem dX10_lay_10 : decode cX10_lay 10 = .ok (.if_icmp .ge 74, 3) := by decide +kernel
theorem dX10_lay_13 : decode cX10_lay 13 = .ok (.iload_n 3, 1) := by decide +kernel
theorem dX10_lay_14 : decode cX10_lay 14 = .ok (.ifCond .le 70, 3) := by decide +kernel
theorem dX10_lay_17 : decode cX10_lay 17 = .ok (.iload 4, 2) := by decide +kernel
theorem dX10_lay_19 : decode cX10_lay 19 = .ok (.iload_n 1, 1) := by decide +kernel
theorem dX10_lay_20 : decode cX10_lay 20 = .ok (.isub, 1) := by decide +kernel
theorem dX10_lay_21 : decode cX10_lay 21 = .ok (.iconst 1, 1) := by decide +kernel
theorem dX10_lay_22 : decode cX10_lay 22 = .ok (.if_icmp .le 62, 3) := by decide +kernel
theorem dX10_lay_25 : decode cX10_lay 25 = .ok (.iload_n 1, 1) := by decide +kernel
theorem dX10_lay_26 : decode cX10_lay 26 = .ok (.iload 4, 2) := by decide +kernel
theorem dX10_lay_28 : decode cX10_lay 28 = .ok (.iload_n 1, 1) := by decide +kernel
theorem dX10_lay_29 : decode cX10_lay 29 = .ok (.isub, 1) := by decide +kernel
theorem dX10_lay_30 : decode cX10_lay 30 = .ok (.iload_n 3, 1) := by decide +kernel
theorem dX10_lay_31 : decode cX10_lay 31 = .ok (.invokestatic 40, 3) := by decide +kernel
theorem dX10_lay_34 : decode cX10_lay 34 = .ok (.iadd, 1) := by decide +kernel
theorem dX10_lay_35 : decode cX10_lay 35 = .ok (.istore 6, 2) := by decide +kernel
theorem dX10_lay_37 : decode cX10_lay 37 = .ok (.aload_n 0, 1) := by decide +kernel
theorem dX10_lay_38 : decode cX10_lay 38 = .ok (.iconst 0, 1) := by decide +kernel
theorem dX10_lay_39 : decode cX10_lay 39 = .ok (.iload_n 1, 1) := by decide +kernel
theorem dX10_lay_40 : decode cX10_lay 40 = .ok (.iload 6, 2) := by decide +kernel
theorem dX10_lay_42 : decode cX10_lay 42 = .ok (.invokevirtual 43, 3) := by decide +kernel
theorem dX10_lay_45 : decode cX10_lay 45 = .ok (.aload_n 0, 1) := by decide +kernel
theorem dX10_lay_46 : decode cX10_lay 46 = .ok (.iconst 1, 1) := by decide +kernel
theorem dX10_lay_47 : decode cX10_lay 47 = .ok (.iload 6, 2) := by decide +kernel
theorem dX10_lay_49 : decode cX10_lay 49 = .ok (.iload 6, 2) := by decide +kernel
theorem dX10_lay_51 : decode cX10_lay 51 = .ok (.invokevirtual 43, 3) := by decide +kernel
theorem dX10_lay_54 : decode cX10_lay 54 = .ok (.aload_n 0, 1) := by decide +kernel
theorem dX10_lay_55 : decode cX10_lay 55 = .ok (.iload 6, 2) := by decide +kernel
theorem dX10_lay_57 : decode cX10_lay 57 = .ok (.iload 4, 2) := by decide +kernel
theorem dX10_lay_59 : decode cX10_lay 59 = .ok (.iload_n 3, 1) := by decide +kernel
theorem dX10_lay_60 : decode cX10_lay 60 = .ok (.iconst 1, 1) := by decide +kernel
theorem dX10_lay_61 : decode cX10_lay 61 = .ok (.isub, 1) := by decide +kernel
theorem dX10_lay_62 : decode cX10_lay 62 = .ok (.invokevirtual 47, 3) := by decide +kernel
theorem dX10_lay_65 : decode cX10_lay 65 = .ok (.aload_n 0, 1) := by decide +kernel
theorem dX10_lay_66 : decode cX10_lay 66 = .ok (.iconst 3, 1) := by decide +kernel
theorem dX10_lay_67 : decode cX10_lay 67 = .ok (.iload 6, 2) := by decide +kernel
theorem dX10_lay_69 : decode cX10_lay 69 = .ok (.iload 6, 2) := by decide +kernel
theorem dX10_lay_71 : decode cX10_lay 71 = .ok (.invokevirtual 43, 3) := by decide +kernel
theorem dX10_lay_74 : decode cX10_lay 74 = .ok (.iload 6, 2) := by decide +kernel
theorem dX10_lay_76 : decode cX10_lay 76 = .ok (.istore 4, 2) := by decide +kernel
theorem dX10_lay_78 : decode cX10_lay 78 = .ok (.iinc 5 1, 3) := by decide +kernel
theorem dX10_lay_81 : decode cX10_lay 81 = .ok (.goto (-75), 3) := by decide +kernel
theorem dX10_lay_84 : decode cX10_lay 84 = .ok (.iload 4, 2) := by decide +kernel
theorem dX10_lay_86 : decode cX10_lay 86 = .ok (.iconst 1, 1) := by decide +kernel
theorem dX10_lay_87 : decode cX10_lay 87 = .ok (.isub, 1) := by decide +kernel
theorem dX10_lay_88 : decode cX10_lay 88 = .ok (.istore 5, 2) := by decide +kernel
theorem dX10_lay_90 : decode cX10_lay 90 = .ok (.iload 5, 2) := by decide +kernel
theorem dX10_lay_92 : decode cX10_lay 92 = .ok (.iload_n 1, 1) := by decide +kernel
theorem dX10_lay_93 : decode cX10_lay 93 = .ok (.if_icmp .lt 32, 3) := by decide +kernel
theorem dX10_lay_96 : decode cX10_lay 96 = .ok (.iload 5, 2) := by decide +kernel
theorem dX10_lay_98 : decode cX10_lay 98 = .ok (.iload_n 1, 1) := by decide +kernel
theorem dX10_lay_99 : decode cX10_lay 99 = .ok (.if_icmp .le 11, 3) := by decide +kernel
theorem dX10_lay_102 : decode cX10_lay 102 = .ok (.aload_n 0, 1) := by decide +kernel
theorem dX10_lay_103 : decode cX10_lay 103 = .ok (.iconst 0, 1) := by decide +kernel
theorem dX10_lay_104 : decode cX10_lay 104 = .ok (.iload_n 1, 1) := by decide +kernel
theorem dX10_lay_105 : decode cX10_lay 105 = .ok (.iload 5, 2) := by decide +kernel
theorem dX10_lay_107 : decode cX10_lay 107 = .ok (.invokevirtual 43, 3) := by decide +kernel
theorem dX10_lay_110 : decode cX10_lay 110 = .ok (.aload_n 0, 1) := by decide +kernel
theorem dX10_lay_111 : decode cX10_lay 111 = .ok (.iconst 2, 1) := by decide +kernel
theorem dX10_lay_112 : decode cX10_lay 112 = .ok (.iload 5, 2) := by decide +kernel
theorem dX10_lay_114 : decode cX10_lay 114 = .ok (.iload 5, 2) := by decide +kernel
theorem dX10_lay_116 : decode cX10_lay 116 = .ok (.invokevirtual 43, 3) := by decide +kernel
theorem dX10_lay_119 : decode cX10_lay 119 = .ok (.iinc 5 (-1), 3) := by decide +kernel
theorem dX10_lay_122 : decode cX10_lay 122 = .ok (.goto (-32), 3) := by decide +kernel
theorem dX10_lay_125 : decode cX10_lay 125 = .ok (.return_, 1) := by decide +kernel
theorem dX10_add_0 : decode cX10_add 0 = .ok (.aload_n 0, 1) := by decide +kernel
theorem dX10_add_1 : decode cX10_add 1 = .ok (.getfield 19, 3) := by decide +kernel
theorem dX10_add_4 : decode cX10_add 4 = .ok (.aload_n 0, 1) := by decide +kernel
theorem dX10_add_5 : decode cX10_add 5 = .ok (.getfield 15, 3) := by decide +kernel
theorem dX10_add_8 : decode cX10_add 8 = .ok (.if_icmp .ne 18, 3) := by decide +kernel
theorem dX10_add_11 : decode cX10_add 11 = .ok (.aload_n 0, 1) := by decide +kernel
theorem dX10_add_12 : decode cX10_add 12 = .ok (.iload_n 1, 1) := by decide +kernel
theorem dX10_add_13 : decode cX10_add 13 = .ok (.putfield 31, 3) := by decide +kernel
theorem dX10_add_16 : decode cX10_add 16 = .ok (.aload_n 0, 1) := by decide +kernel
theorem dX10_add_17 : decode cX10_add 17 = .ok (.iload_n 2, 1) := by decide +kernel
theorem dX10_add_18 : decode cX10_add 18 = .ok (.putfield 34, 3) := by decide +kernel
theorem dX10_add_21 : decode cX10_add 21 = .ok (.aload_n 0, 1) := by decide +kernel
theorem dX10_add_22 : decode cX10_add 22 = .ok (.iload_n 3, 1) := by decide +kernel
theorem dX10_add_23 : decode cX10_add 23 = .ok (.putfield 37, 3) := by decide +kernel
theorem dX10_add_26 : decode cX10_add 26 = .ok (.aload_n 0, 1) := by decide +kernel
theorem dX10_add_27 : decode cX10_add 27 = .ok (.dup, 1) := by decide +kernel
theorem dX10_add_28 : decode cX10_add 28 = .ok (.getfield 19, 3) := by decide +kernel
theorem dX10_add_31 : decode cX10_add 31 = .ok (.iconst 1, 1) := by decide +kernel
theorem dX10_add_32 : decode cX10_add 32 = .ok (.iadd, 1) := by decide +kernel
theorem dX10_add_33 : decode cX10_add 33 = .ok (.putfield 19, 3) := by decide +kernel
theorem dX10_add_36 : decode cX10_add 36 = .ok (.aload_n 0, 1) := by decide +kernel
theorem dX10_add_37 : decode cX10_add 37 = .ok (.dup, 1) := by decide +kernel
theorem dX10_add_38 : decode cX10_add 38 = .ok (.getfield 22, 3) := by decide +kernel
theorem dX10_add_41 : decode cX10_add 41 = .ok (.iload_n 3, 1) := by decide +kernel
theorem dX10_add_42 : decode cX10_add 42 = .ok (.iload_n 2, 1) := by decide +kernel
theorem dX10_add_43 : decode cX10_add 43 = .ok (.isub, 1) := by decide +kernel
theorem dX10_add_44 : decode cX10_add 44 = .ok (.iadd, 1) := by decide +kernel
theorem dX10_add_45 : decode cX10_add 45 = .ok (.putfield 22, 3) := by decide +kernel
theorem dX10_add_48 : decode cX10_add 48 = .ok (.aload_n 0, 1) := by decide +kernel
theorem dX10_add_49 : decode cX10_add 49 = .ok (.dup, 1) := by decide +kernel
theorem dX10_add_50 : decode cX10_add 50 = .ok (.getfield 25, 3) := by decide +kernel
theorem dX10_add_53 : decode cX10_add 53 = .ok (.iload_n 1, 1) := by decide +kernel
theorem dX10_add_54 : decode cX10_add 54 = .ok (.iconst 1, 1) := by decide +kernel
theorem dX10_add_55 : decode cX10_add 55 = .ok (.if_icmp .ne 7, 3) := by decide +kernel
theorem dX10_add_58 : decode cX10_add 58 = .ok (.iconst 1, 1) := by decide +kernel
theorem dX10_add_59 : decode cX10_add 59 = .ok (.goto 13, 3) := by decide +kernel
theorem dX10_add_62 : decode cX10_add 62 = .ok (.iload_n 1, 1) := by decide +kernel
theorem dX10_add_63 : decode cX10_add 63 = .ok (.iconst 3, 1) := by decide +kernel
theorem dX10_add_64 : decode cX10_add 64 = .ok (.if_icmp .ne 7, 3) := by decide +kernel
theorem dX10_add_67 : decode cX10_add 67 = .ok (.iconst (-1), 1) := by decide +kernel
theorem dX10_add_68 : decode cX10_add 68 = .ok (.goto 4, 3) := by decide +kernel
theorem dX10_add_71 : decode cX10_add 71 = .ok (.iconst 0, 1) := by decide +kernel
theorem dX10_add_72 : decode cX10_add 72 = .ok (.iadd, 1) := by decide +kernel
theorem dX10_add_73 : decode cX10_add 73 = .ok (.putfield 25, 3) := by decide +kernel
theorem dX10_add_76 : decode cX10_add 76 = .ok (.aload_n 0, 1) := by decide +kernel
theorem dX10_add_77 : decode cX10_add 77 = .ok (.aload_n 0, 1) := by decide +kernel
theorem dX10_add_78 : decode cX10_add 78 = .ok (.getfield 28, 3) := by decide +kernel
theorem dX10_add_81 : decode cX10_add 81 = .ok (.aload_n 0, 1) := by decide +kernel
theorem dX10_add_82 : decode cX10_add 82 = .ok (.getfield 25, 3) := by decide +kernel
theorem dX10_add_85 : decode cX10_add 85 = .ok (.invokestatic 50, 3) := by decide +kernel
theorem dX10_add_88 : decode cX10_add 88 = .ok (.putfield 28, 3) := by decide +kernel
theorem dX10_add_91 : decode cX10_add 91 = .ok (.return_, 1) := by decide +kernel
theorem dJ7_fill_53178_0 : decode cJ7_fill_53178 0 = .ok (.iconst 0, 1) := by decide +kernel
theorem dJ7_fill_53178_1 : decode cJ7_fill_53178 1 = .ok (.istore_n 2, 1) := by decide +kernel
theorem dJ7_fill_53178_2 : decode cJ7_fill_53178 2 = .ok (.aload_n 0, 1) := by decide +kernel
theorem dJ7_fill_53178_3 : decode cJ7_fill_53178 3 = .ok (.arraylength, 1) := by decide +kernel
theorem dJ7_fill_53178_4 : decode cJ7_fill_53178 4 = .ok (.istore_n 3, 1) := by decide +kernel
theorem dJ7_fill_53178_5 : decode cJ7_fill_53178 5 = .ok (.iload_n 2, 1) := by decide +kernel
theorem dJ7_fill_53178_6 : decode cJ7_fill_53178 6 = .ok (.iload_n 3, 1) := by decide +kernel
theorem dJ7_fill_53178_7 : decode cJ7_fill_53178 7 = .ok (.if_icmp .ge 13, 3) := by decide +kernel
theorem dJ7_fill_53178_10 : decode cJ7_fill_53178 10 = .ok (.aload_n 0, 1) := by decide +kernel
theorem dJ7_fill_53178_11 : decode cJ7_fill_53178 11 = .ok (.iload_n 2, 1) := by decide +kernel
theorem dJ7_fill_53178_12 : decode cJ7_fill_53178 12 = .ok (.iload_n 1, 1) := by decide +kernel
theorem dJ7_fill_53178_13 : decode cJ7_fill_53178 13 = .ok (.iastore, 1) := by decide +kernel
theorem dJ7_fill_53178_14 : decode cJ7_fill_53178 14 = .ok (.iinc 2 1, 3) := by decide +kernel
theorem dJ7_fill_53178_17 : decode cJ7_fill_53178 17 = .ok (.goto (-12), 3) := by decide +kernel
theorem dJ7_fill_53178_20 : decode cJ7_fill_53178 20 = .ok (.return_, 1) := by decide +kernel
theorem dJ9_max_7cf53_0 : decode cJ9_max_7cf53 0 = .ok (.iload_n 0, 1) := by decide +kernel
theorem dJ9_max_7cf53_1 : decode cJ9_max_7cf53 1 = .ok (.iload_n 1, 1) := by decide +kernel
theorem dJ9_max_7cf53_2 : decode cJ9_max_7cf53 2 = .ok (.if_icmp .lt 7, 3) := by decide +kernel
theorem dJ9_max_7cf53_5 : decode cJ9_max_7cf53 5 = .ok (.iload_n 0, 1) := by decide +kernel
theorem dJ9_max_7cf53_6 : decode cJ9_max_7cf53 6 = .ok (.goto 4, 3) := by decide +kernel
theorem dJ9_max_7cf53_9 : decode cJ9_max_7cf53 9 = .ok (.iload_n 1, 1) := by decide +kernel
theorem dJ9_max_7cf53_10 : decode cJ9_max_7cf53 10 = .ok (.ireturn, 1) := by decide +kernel
theorem dJ9_min_7cf53_0 : decode cJ9_min_7cf53 0 = .ok (.iload_n 0, 1) := by decide +kernel
theorem dJ9_min_7cf53_1 : decode cJ9_min_7cf53 1 = .ok (.iload_n 1, 1) := by decide +kernel
theorem dJ9_min_7cf53_2 : decode cJ9_min_7cf53 2 = .ok (.if_icmp .gt 7, 3) := by decide +kernel
theorem dJ9_min_7cf53_5 : decode cJ9_min_7cf53 5 = .ok (.iload_n 0, 1) := by decide +kernel
theorem dJ9_min_7cf53_6 : decode cJ9_min_7cf53 6 = .ok (.goto 4, 3) := by decide +kernel
theorem dJ9_min_7cf53_9 : decode cJ9_min_7cf53 9 = .ok (.iload_n 1, 1) := by decide +kernel
theorem dJ9_min_7cf53_10 : decode cJ9_min_7cf53 10 = .ok (.ireturn, 1) := by decide +kernel
