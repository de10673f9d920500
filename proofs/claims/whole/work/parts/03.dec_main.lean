theorem dX11_init_0 : decode cX11_init 0 = .ok (.aload_n 0, 1) := by decide +kernel
theorem dX11_init_1 : decode cX11_init 1 = .ok (.invokespecial 3, 3) := by decide +kernel
theorem dX11_init_4 : decode cX11_init 4 = .ok (.aload_n 0, 1) := by decide +kernel
theorem dX11_init_5 : decode cX11_init 5 = .ok (.sipush 900, 3) := by decide +kernel
theorem dX11_init_8 : decode cX11_init 8 = .ok (.newarray .byte, 2) := by decide +kernel
theorem dX11_init_10 : decode cX11_init 10 = .ok (.putfield 9, 3) := by decide +kernel
theorem dX11_init_13 : decode cX11_init 13 = .ok (.aload_n 0, 1) := by decide +kernel
theorem dX11_init_14 : decode cX11_init 14 = .ok (.new 13, 3) := by decide +kernel
theorem dX11_init_17 : decode cX11_init 17 = .ok (.dup, 1) := by decide +kernel
theorem dX11_init_18 : decode cX11_init 18 = .ok (.aload_n 0, 1) := by decide +kernel
theorem dX11_init_19 : decode cX11_init 19 = .ok (.getfield 9, 3) := by decide +kernel
theorem dX11_init_22 : decode cX11_init 22 = .ok (.invokespecial 15, 3) := by decide +kernel
theorem dX11_init_25 : decode cX11_init 25 = .ok (.putfield 18, 3) := by decide +kernel
theorem dX11_init_28 : decode cX11_init 28 = .ok (.aload_n 0, 1) := by decide +kernel
theorem dX11_init_29 : decode cX11_init 29 = .ok (.iconst (-1), 1) := by decide +kernel
theorem dX11_init_30 : decode cX11_init 30 = .ok (.putfield 22, 3) := by decide +kernel
theorem dX11_init_33 : decode cX11_init 33 = .ok (.aload_n 0, 1) := by decide +kernel
theorem dX11_init_34 : decode cX11_init 34 = .ok (.new 26, 3) := by decide +kernel
theorem dX11_init_37 : decode cX11_init 37 = .ok (.dup, 1) := by decide +kernel
theorem dX11_init_38 : decode cX11_init 38 = .ok (.invokespecial 28, 3) := by decide +kernel
theorem dX11_init_41 : decode cX11_init 41 = .ok (.putfield 29, 3) := by decide +kernel
theorem dX11_init_44 : decode cX11_init 44 = .ok (.aload_n 0, 1) := by decide +kernel
theorem dX11_init_45 : decode cX11_init 45 = .ok (.new 26, 3) := by decide +kernel
theorem dX11_init_48 : decode cX11_init 48 = .ok (.dup, 1) := by decide +kernel
theorem dX11_init_49 : decode cX11_init 49 = .ok (.invokespecial 28, 3) := by decide +kernel
theorem dX11_init_52 : decode cX11_init 52 = .ok (.putfield 33, 3) := by decide +kernel
theorem dX11_init_55 : decode cX11_init 55 = .ok (.aload_n 0, 1) := by decide +kernel
theorem dX11_init_56 : decode cX11_init 56 = .ok (.iconst 4, 1) := by decide +kernel
theorem dX11_init_57 : decode cX11_init 57 = .ok (.newarray .int, 2) := by decide +kernel
theorem dX11_init_59 : decode cX11_init 59 = .ok (.putfield 36, 3) := by decide +kernel
theorem dX11_init_62 : decode cX11_init 62 = .ok (.aload_n 0, 1) := by decide +kernel
theorem dX11_init_63 : decode cX11_init 63 = .ok (.new 40, 3) := by decide +kernel
theorem dX11_init_66 : decode cX11_init 66 = .ok (.dup, 1) := by decide +kernel
theorem dX11_init_67 : decode cX11_init 67 = .ok (.invokespecial 42, 3) := by decide +kernel
theorem dX11_init_70 : decode cX11_init 70 = .ok (.putfield 43, 3) := by decide +kernel
theorem dX11_init_73 : decode cX11_init 73 = .ok (.aload_n 0, 1) := by decide +kernel
theorem dX11_init_74 : decode cX11_init 74 = .ok (.iconst 4, 1) := by decide +kernel
theorem dX11_init_75 : decode cX11_init 75 = .ok (.newarray .int, 2) := by decide +kernel
theorem dX11_init_77 : decode cX11_init 77 = .ok (.putfield 47, 3) := by decide +kernel
theorem dX11_init_80 : decode cX11_init 80 = .ok (.aload_n 0, 1) := by decide +kernel
theorem dX11_init_81 : decode cX11_init 81 = .ok (.new 40, 3) := by decide +kernel
theorem dX11_init_84 : decode cX11_init 84 = .ok (.dup, 1) := by decide +kernel
theorem dX11_init_85 : decode cX11_init 85 = .ok (.invokespecial 42, 3) := by decide +kernel
theorem dX11_init_88 : decode cX11_init 88 = .ok (.putfield 50, 3) := by decide +kernel
theorem dX11_init_91 : decode cX11_init 91 = .ok (.aload_n 0, 1) := by decide +kernel
theorem dX11_init_92 : decode cX11_init 92 = .ok (.new 53, 3) := by decide +kernel
theorem dX11_init_95 : decode cX11_init 95 = .ok (.dup, 1) := by decide +kernel
theorem dX11_init_96 : decode cX11_init 96 = .ok (.invokespecial 55, 3) := by decide +kernel
theorem dX11_init_99 : decode cX11_init 99 = .ok (.putfield 56, 3) := by decide +kernel
theorem dX11_init_102 : decode cX11_init 102 = .ok (.aload_n 0, 1) := by decide +kernel
theorem dX11_init_103 : decode cX11_init 103 = .ok (.new 60, 3) := by decide +kernel
theorem dX11_init_106 : decode cX11_init 106 = .ok (.dup, 1) := by decide +kernel
theorem dX11_init_107 : decode cX11_init 107 = .ok (.invokespecial 62, 3) := by decide +kernel
theorem dX11_init_110 : decode cX11_init 110 = .ok (.putfield 63, 3) := by decide +kernel
theorem dX11_init_113 : decode cX11_init 113 = .ok (.aload_n 0, 1) := by decide +kernel
theorem dX11_init_114 : decode cX11_init 114 = .ok (.new 67, 3) := by decide +kernel
theorem dX11_init_117 : decode cX11_init 117 = .ok (.dup, 1) := by decide +kernel
theorem dX11_init_118 : decode cX11_init 118 = .ok (.invokespecial 69, 3) := by decide +kernel
theorem dX11_init_121 : decode cX11_init 121 = .ok (.putfield 70, 3) := by decide +kernel
theorem dX11_init_124 : decode cX11_init 124 = .ok (.aload_n 0, 1) := by decide +kernel
theorem dX11_init_125 : decode cX11_init 125 = .ok (.bipush 11, 2) := by decide +kernel
theorem dX11_init_127 : decode cX11_init 127 = .ok (.newarray .int, 2) := by decide +kernel
theorem dX11_init_129 : decode cX11_init 129 = .ok (.putfield 74, 3) := by decide +kernel
theorem dX11_init_132 : decode cX11_init 132 = .ok (.return_, 1) := by decide +kernel
theorem dX11_feed_0 : decode cX11_feed 0 = .ok (.aload_n 0, 1) := by decide +kernel
theorem dX11_feed_1 : decode cX11_feed 1 = .ok (.getfield 77, 3) := by decide +kernel
theorem dX11_feed_4 : decode cX11_feed 4 = .ok (.bipush 20, 2) := by decide +kernel
theorem dX11_feed_6 : decode cX11_feed 6 = .ok (.iadd, 1) := by decide +kernel
theorem dX11_feed_7 : decode cX11_feed 7 = .ok (.sipush 900, 3) := by decide +kernel
theorem dX11_feed_10 : decode cX11_feed 10 = .ok (.if_icmp .le 5, 3) := by decide +kernel
theorem dX11_feed_13 : decode cX11_feed 13 = .ok (.iconst (-1), 1) := by decide +kernel
theorem dX11_feed_14 : decode cX11_feed 14 = .ok (.ireturn, 1) := by decide +kernel
theorem dX11_feed_15 : decode cX11_feed 15 = .ok (.aload_n 0, 1) := by decide +kernel
theorem dX11_feed_16 : decode cX11_feed 16 = .ok (.iload_n 1, 1) := by decide +kernel
theorem dX11_feed_17 : decode cX11_feed 17 = .ok (.invokevirtual 80, 3) := by decide +kernel
theorem dX11_feed_20 : decode cX11_feed 20 = .ok (.aload_n 0, 1) := by decide +kernel
theorem dX11_feed_21 : decode cX11_feed 21 = .ok (.iload_n 2, 1) := by decide +kernel
theorem dX11_feed_22 : decode cX11_feed 22 = .ok (.invokevirtual 80, 3) := by decide +kernel
theorem dX11_feed_25 : decode cX11_feed 25 = .ok (.aload_n 0, 1) := by decide +kernel
theorem dX11_feed_26 : decode cX11_feed 26 = .ok (.iload_n 3, 1) := by decide +kernel
theorem dX11_feed_27 : decode cX11_feed 27 = .ok (.invokevirtual 80, 3) := by decide +kernel
theorem dX11_feed_30 : decode cX11_feed 30 = .ok (.aload_n 0, 1) := by decide +kernel
theorem dX11_feed_31 : decode cX11_feed 31 = .ok (.iload 4, 2) := by decide +kernel
theorem dX11_feed_33 : decode cX11_feed 33 = .ok (.invokevirtual 80, 3) := by decide +kernel
theorem dX11_feed_36 : decode cX11_feed 36 = .ok (.aload_n 0, 1) := by decide +kernel
theorem dX11_feed_37 : decode cX11_feed 37 = .ok (.iload 5, 2) := by decide +kernel
theorem dX11_feed_39 : decode cX11_feed 39 = .ok (.invokevirtual 80, 3) := by decide +kernel
theorem dX11_feed_42 : decode cX11_feed 42 = .ok (.aload_n 0, 1) := by decide +kernel
theorem dX11_feed_43 : decode cX11_feed 43 = .ok (.getfield 77, 3) := by decide +kernel
theorem dX11_feed_46 : decode cX11_feed 46 = .ok (.ireturn, 1) := by decide +kernel
theorem dX11_appendNumber_0 : decode cX11_appendNumber 0 = .ok (.bipush 24, 2) := by decide +kernel
theorem dX11_appendNumber_2 : decode cX11_appendNumber 2 = .ok (.istore_n 2, 1) := by decide +kernel
theorem dX11_appendNumber_3 : decode cX11_appendNumber 3 = .ok (.iload_n 2, 1) := by decide +kernel
theorem dX11_appendNumber_4 : decode cX11_appendNumber 4 = .ok (.ifCond .lt 42, 3) := by decide +kernel
theorem dX11_appendNumber_7 : decode cX11_appendNumber 7 = .ok (.aload_n 0, 1) := by decide +kernel
theorem dX11_appendNumber_8 : decode cX11_appendNumber 8 = .ok (.getfield 77, 3) := by decide +kernel
theorem dX11_appendNumber_11 : decode cX11_appendNumber 11 = .ok (.sipush 900, 3) := by decide +kernel
theorem dX11_appendNumber_14 : decode cX11_appendNumber 14 = .ok (.if_icmp .ge 32, 3) := by decide +kernel
theorem dX11_appendNumber_17 : decode cX11_appendNumber 17 = .ok (.aload_n 0, 1) := by decide +kernel
theorem dX11_appendNumber_18 : decode cX11_appendNumber 18 = .ok (.getfield 9, 3) := by decide +kernel
theorem dX11_appendNumber_21 : decode cX11_appendNumber 21 = .ok (.aload_n 0, 1) := by decide +kernel
theorem dX11_appendNumber_22 : decode cX11_appendNumber 22 = .ok (.getfield 77, 3) := by decide +kernel
theorem dX11_appendNumber_25 : decode cX11_appendNumber 25 = .ok (.iload_n 1, 1) := by decide +kernel
theorem dX11_appendNumber_26 : decode cX11_appendNumber 26 = .ok (.iload_n 2, 1) := by decide +kernel
theorem dX11_appendNumber_27 : decode cX11_appendNumber 27 = .ok (.iushr, 1) := by decide +kernel
theorem dX11_appendNumber_28 : decode cX11_appendNumber 28 = .ok (.i2b, 1) := by decide +kernel
theorem dX11_appendNumber_29 : decode cX11_appendNumber 29 = .ok (.bastore, 1) := by decide +kernel
theorem dX11_appendNumber_30 : decode cX11_appendNumber 30 = .ok (.aload_n 0, 1) := by decide +kernel
theorem dX11_appendNumber_31 : decode cX11_appendNumber 31 = .ok (.dup, 1) := by decide +kernel
theorem dX11_appendNumber_32 : decode cX11_appendNumber 32 = .ok (.getfield 77, 3) := by decide +kernel
theorem dX11_appendNumber_35 : decode cX11_appendNumber 35 = .ok (.iconst 1, 1) := by decide +kernel
theorem dX11_appendNumber_36 : decode cX11_appendNumber 36 = .ok (.iadd, 1) := by decide +kernel
theorem dX11_appendNumber_37 : decode cX11_appendNumber 37 = .ok (.putfield 77, 3) := by decide +kernel
theorem dX11_appendNumber_40 : decode cX11_appendNumber 40 = .ok (.iinc 2 (-8), 3) := by decide +kernel
theorem dX11_appendNumber_43 : decode cX11_appendNumber 43 = .ok (.goto (-40), 3) := by decide +kernel
theorem dX11_appendNumber_46 : decode cX11_appendNumber 46 = .ok (.return_, 1) := by decide +kernel
theorem dX11_text_0 : decode cX11_text 0 = .ok (.iload_n 1, 1) := by decide +kernel
theorem dX11_text_1 : decode cX11_text 1 = .ok (.ifCond .lt 11, 3) := by decide +kernel
theorem dX11_text_4 : decode cX11_text 4 = .ok (.iload_n 1, 1) := by decide +kernel
theorem dX11_text_5 : decode cX11_text 5 = .ok (.aload_n 0, 1) := by decide +kernel
theorem dX11_text_6 : decode cX11_text 6 = .ok (.getfield 77, 3) := by decide +kernel
theorem dX11_text_9 : decode cX11_text 9 = .ok (.if_icmp .le 6, 3) := by decide +kernel
theorem dX11_text_12 : decode cX11_text 12 = .ok (.bipush (-2), 2) := by decide +kernel
theorem dX11_text_14 : decode cX11_text 14 = .ok (.ireturn, 1) := by decide +kernel
theorem dX11_text_15 : decode cX11_text 15 = .ok (.aload_n 0, 1) := by decide +kernel
theorem dX11_text_16 : decode cX11_text 16 = .ok (.iconst 0, 1) := by decide +kernel
theorem dX11_text_17 : decode cX11_text 17 = .ok (.putfield 77, 3) := by decide +kernel
theorem dX11_text_20 : decode cX11_text 20 = .ok (.aload_n 0, 1) := by decide +kernel
theorem dX11_text_21 : decode cX11_text 21 = .ok (.getfield 18, 3) := by decide +kernel
theorem dX11_text_24 : decode cX11_text 24 = .ok (.iload_n 1, 1) := by decide +kernel
theorem dX11_text_25 : decode cX11_text 25 = .ok (.aload_n 0, 1) := by decide +kernel
theorem dX11_text_26 : decode cX11_text 26 = .ok (.getfield 33, 3) := by decide +kernel
theorem dX11_text_29 : decode cX11_text 29 = .ok (.invokevirtual 84, 3) := by decide +kernel
theorem dX11_text_32 : decode cX11_text 32 = .ok (.istore_n 2, 1) := by decide +kernel
theorem dX11_text_33 : decode cX11_text 33 = .ok (.aload_n 0, 1) := by decide +kernel
theorem dX11_text_34 : decode cX11_text 34 = .ok (.aload_n 0, 1) := by decide +kernel
theorem dX11_text_35 : decode cX11_text 35 = .ok (.getfield 18, 3) := by decide +kernel
theorem dX11_text_38 : decode cX11_text 38 = .ok (.getfield 88, 3) := by decide +kernel
theorem dX11_text_41 : decode cX11_text 41 = .ok (.putfield 91, 3) := by decide +kernel
theorem dX11_text_44 : decode cX11_text 44 = .ok (.aload_n 0, 1) := by decide +kernel
theorem dX11_text_45 : decode cX11_text 45 = .ok (.aload_n 0, 1) := by decide +kernel
theorem dX11_text_46 : decode cX11_text 46 = .ok (.getfield 18, 3) := by decide +kernel
theorem dX11_text_49 : decode cX11_text 49 = .ok (.getfield 92, 3) := by decide +kernel
theorem dX11_text_52 : decode cX11_text 52 = .ok (.putfield 22, 3) := by decide +kernel
theorem dX11_text_55 : decode cX11_text 55 = .ok (.iload_n 2, 1) := by decide +kernel
theorem dX11_text_56 : decode cX11_text 56 = .ok (.ifCond .ne 5, 3) := by decide +kernel
theorem dX11_text_59 : decode cX11_text 59 = .ok (.iconst (-1), 1) := by decide +kernel
theorem dX11_text_60 : decode cX11_text 60 = .ok (.ireturn, 1) := by decide +kernel
theorem dX11_text_61 : decode cX11_text 61 = .ok (.aload_n 0, 1) := by decide +kernel
theorem dX11_text_62 : decode cX11_text 62 = .ok (.getfield 29, 3) := by decide +kernel
theorem dX11_text_65 : decode cX11_text 65 = .ok (.astore_n 3, 1) := by decide +kernel
theorem dX11_text_66 : decode cX11_text 66 = .ok (.aload_n 0, 1) := by decide +kernel
theorem dX11_text_67 : decode cX11_text 67 = .ok (.aload_n 0, 1) := by decide +kernel
theorem dX11_text_68 : decode cX11_text 68 = .ok (.getfield 33, 3) := by decide +kernel
theorem dX11_text_71 : decode cX11_text 71 = .ok (.putfield 29, 3) := by decide +kernel
theorem dX11_text_74 : decode cX11_text 74 = .ok (.aload_n 0, 1) := by decide +kernel
theorem dX11_text_75 : decode cX11_text 75 = .ok (.aload_n 3, 1) := by decide +kernel
theorem dX11_text_76 : decode cX11_text 76 = .ok (.putfield 33, 3) := by decide +kernel
theorem dX11_text_79 : decode cX11_text 79 = .ok (.aload_n 0, 1) := by decide +kernel
theorem dX11_text_80 : decode cX11_text 80 = .ok (.getfield 36, 3) := by decide +kernel
theorem dX11_text_83 : decode cX11_text 83 = .ok (.iconst 0, 1) := by decide +kernel
theorem dX11_text_84 : decode cX11_text 84 = .ok (.invokestatic 93, 3) := by decide +kernel
theorem dX11_text_87 : decode cX11_text 87 = .ok (.aload_n 0, 1) := by decide +kernel
theorem dX11_text_88 : decode cX11_text 88 = .ok (.getfield 43, 3) := by decide +kernel
theorem dX11_text_91 : decode cX11_text 91 = .ok (.aload_n 0, 1) := by decide +kernel
theorem dX11_text_92 : decode cX11_text 92 = .ok (.getfield 29, 3) := by decide +kernel
theorem dX11_text_95 : decode cX11_text 95 = .ok (.aload_n 0, 1) := by decide +kernel
theorem dX11_text_96 : decode cX11_text 96 = .ok (.getfield 36, 3) := by decide +kernel
theorem dX11_text_99 : decode cX11_text 99 = .ok (.invokevirtual 99, 3) := by decide +kernel
theorem dX11_text_102 : decode cX11_text 102 = .ok (.aload_n 0, 1) := by decide +kernel
theorem dX11_text_103 : decode cX11_text 103 = .ok (.getfield 29, 3) := by decide +kernel
theorem dX11_text_106 : decode cX11_text 106 = .ok (.getfield 103, 3) := by decide +kernel
theorem dX11_text_109 : decode cX11_text 109 = .ok (.ireturn, 1) := by decide +kernel
theorem dX11_fault_0 : decode cX11_fault 0 = .ok (.iload_n 1, 1) := by decide +kernel
theorem dX11_fault_1 : decode cX11_fault 1 = .ok (.lookupswitch 37 #[(0, 27), (1, 32)], 27) := by decide +kernel
theorem dX11_fault_28 : decode cX11_fault 28 = .ok (.aload_n 0, 1) := by decide +kernel
theorem dX11_fault_29 : decode cX11_fault 29 = .ok (.getfield 91, 3) := by decide +kernel
theorem dX11_fault_32 : decode cX11_fault 32 = .ok (.ireturn, 1) := by decide +kernel
theorem dX11_fault_33 : decode cX11_fault 33 = .ok (.aload_n 0, 1) := by decide +kernel
theorem dX11_fault_34 : decode cX11_fault 34 = .ok (.getfield 22, 3) := by decide +kernel
theorem dX11_fault_37 : decode cX11_fault 37 = .ok (.ireturn, 1) := by decide +kernel
theorem dX11_fault_38 : decode cX11_fault 38 = .ok (.iconst (-1), 1) := by decide +kernel
theorem dX11_fault_39 : decode cX11_fault 39 = .ok (.ireturn, 1) := by decide +kernel
theorem dX11_set_0 : decode cX11_set 0 = .ok (.aload_n 0, 1) := by decide +kernel
theorem dX11_set_1 : decode cX11_set 1 = .ok (.iload_n 1, 1) := by decide +kernel
theorem dX11_set_2 : decode cX11_set 2 = .ok (.invokevirtual 106, 3) := by decide +kernel
theorem dX11_set_5 : decode cX11_set 5 = .ok (.ifCond .eq 26, 3) := by decide +kernel
theorem dX11_set_8 : decode cX11_set 8 = .ok (.iload_n 2, 1) := by decide +kernel
theorem dX11_set_9 : decode cX11_set 9 = .ok (.ldc 110, 2) := by decide +kernel
theorem dX11_set_11 : decode cX11_set 11 = .ok (.if_icmp .lt 20, 3) := by decide +kernel
theorem dX11_set_14 : decode cX11_set 14 = .ok (.iload_n 2, 1) := by decide +kernel
theorem dX11_set_15 : decode cX11_set 15 = .ok (.ldc 111, 2) := by decide +kernel
theorem dX11_set_17 : decode cX11_set 17 = .ok (.if_icmp .gt 14, 3) := by decide +kernel
theorem dX11_set_20 : decode cX11_set 20 = .ok (.iload_n 3, 1) := by decide +kernel
theorem dX11_set_21 : decode cX11_set 21 = .ok (.iconst 1, 1) := by decide +kernel
theorem dX11_set_22 : decode cX11_set 22 = .ok (.if_icmp .lt 9, 3) := by decide +kernel
theorem dX11_set_25 : decode cX11_set 25 = .ok (.iload_n 3, 1) := by decide +kernel
theorem dX11_set_26 : decode cX11_set 26 = .ok (.ldc 111, 2) := by decide +kernel
theorem dX11_set_28 : decode cX11_set 28 = .ok (.if_icmp .le 5, 3) := by decide +kernel
theorem dX11_set_31 : decode cX11_set 31 = .ok (.iconst (-1), 1) := by decide +kernel
theorem dX11_set_32 : decode cX11_set 32 = .ok (.ireturn, 1) := by decide +kernel
theorem dX11_set_33 : decode cX11_set 33 = .ok (.aload_n 0, 1) := by decide +kernel
theorem dX11_set_34 : decode cX11_set 34 = .ok (.getfield 36, 3) := by decide +kernel
theorem dX11_set_37 : decode cX11_set 37 = .ok (.iload_n 1, 1) := by decide +kernel
theorem dX11_set_38 : decode cX11_set 38 = .ok (.iaload, 1) := by decide +kernel
theorem dX11_set_39 : decode cX11_set 39 = .ok (.istore 4, 2) := by decide +kernel
theorem dX11_set_41 : decode cX11_set 41 = .ok (.aload_n 0, 1) := by decide +kernel
theorem dX11_set_42 : decode cX11_set 42 = .ok (.getfield 36, 3) := by decide +kernel
theorem dX11_set_45 : decode cX11_set 45 = .ok (.iload_n 1, 1) := by decide +kernel
theorem dX11_set_46 : decode cX11_set 46 = .ok (.iload_n 2, 1) := by decide +kernel
theorem dX11_set_47 : decode cX11_set 47 = .ok (.invokestatic 112, 3) := by decide +kernel
theorem dX11_set_50 : decode cX11_set 50 = .ok (.iload_n 3, 1) := by decide +kernel
theorem dX11_set_51 : decode cX11_set 51 = .ok (.invokestatic 112, 3) := by decide +kernel
theorem dX11_set_54 : decode cX11_set 54 = .ok (.invokestatic 118, 3) := by decide +kernel
theorem dX11_set_57 : decode cX11_set 57 = .ok (.invokestatic 121, 3) := by decide +kernel
theorem dX11_set_60 : decode cX11_set 60 = .ok (.iastore, 1) := by decide +kernel
theorem dX11_set_61 : decode cX11_set 61 = .ok (.aload_n 0, 1) := by decide +kernel
theorem dX11_set_62 : decode cX11_set 62 = .ok (.getfield 43, 3) := by decide +kernel
theorem dX11_set_65 : decode cX11_set 65 = .ok (.aload_n 0, 1) := by decide +kernel
theorem dX11_set_66 : decode cX11_set 66 = .ok (.getfield 29, 3) := by decide +kernel
theorem dX11_set_69 : decode cX11_set 69 = .ok (.aload_n 0, 1) := by decide +kernel
theorem dX11_set_70 : decode cX11_set 70 = .ok (.getfield 36, 3) := by decide +kernel
theorem dX11_set_73 : decode cX11_set 73 = .ok (.invokevirtual 99, 3) := by decide +kernel
theorem dX11_set_76 : decode cX11_set 76 = .ok (.iload 4, 2) := by decide +kernel
theorem dX11_set_78 : decode cX11_set 78 = .ok (.ireturn, 1) := by decide +kernel
theorem dX11_code_0 : decode cX11_code 0 = .ok (.iload_n 1, 1) := by decide +kernel
theorem dX11_code_1 : decode cX11_code 1 = .ok (.ifCond .lt 14, 3) := by decide +kernel
theorem dX11_code_4 : decode cX11_code 4 = .ok (.iload_n 1, 1) := by decide +kernel
theorem dX11_code_5 : decode cX11_code 5 = .ok (.aload_n 0, 1) := by decide +kernel
theorem dX11_code_6 : decode cX11_code 6 = .ok (.getfield 29, 3) := by decide +kernel
theorem dX11_code_9 : decode cX11_code 9 = .ok (.getfield 125, 3) := by decide +kernel
theorem dX11_code_12 : decode cX11_code 12 = .ok (.if_icmp .lt 13, 3) := by decide +kernel
theorem dX11_code_15 : decode cX11_code 15 = .ok (.new 128, 3) := by decide +kernel
theorem dX11_code_18 : decode cX11_code 18 = .ok (.dup, 1) := by decide +kernel
theorem dX11_code_19 : decode cX11_code 19 = .ok (.ldc 130, 2) := by decide +kernel
theorem dX11_code_21 : decode cX11_code 21 = .ok (.invokespecial 132, 3) := by decide +kernel
theorem dX11_code_24 : decode cX11_code 24 = .ok (.athrow, 1) := by decide +kernel
theorem dX11_code_25 : decode cX11_code 25 = .ok (.iload_n 2, 1) := by decide +kernel
theorem dX11_code_26 : decode cX11_code 26 = .ok (.tableswitch 53 0 2 #[26, 35, 44], 26) := by decide +kernel
theorem dX11_code_52 : decode cX11_code 52 = .ok (.aload_n 0, 1) := by decide +kernel
theorem dX11_code_53 : decode cX11_code 53 = .ok (.getfield 29, 3) := by decide +kernel
theorem dX11_code_56 : decode cX11_code 56 = .ok (.iload_n 1, 1) := by decide +kernel
theorem dX11_code_57 : decode cX11_code 57 = .ok (.invokevirtual 135, 3) := by decide +kernel
theorem dX11_code_60 : decode cX11_code 60 = .ok (.ireturn, 1) := by decide +kernel
theorem dX11_code_61 : decode cX11_code 61 = .ok (.aload_n 0, 1) := by decide +kernel
theorem dX11_code_62 : decode cX11_code 62 = .ok (.getfield 29, 3) := by decide +kernel
theorem dX11_code_65 : decode cX11_code 65 = .ok (.iload_n 1, 1) := by decide +kernel
theorem dX11_code_66 : decode cX11_code 66 = .ok (.invokevirtual 138, 3) := by decide +kernel
theorem dX11_code_69 : decode cX11_code 69 = .ok (.ireturn, 1) := by decide +kernel
theorem dX11_code_70 : decode cX11_code 70 = .ok (.aload_n 0, 1) := by decide +kernel
theorem dX11_code_71 : decode cX11_code 71 = .ok (.getfield 29, 3) := by decide +kernel
theorem dX11_code_74 : decode cX11_code 74 = .ok (.iload_n 1, 1) := by decide +kernel
theorem dX11_code_75 : decode cX11_code 75 = .ok (.invokevirtual 141, 3) := by decide +kernel
theorem dX11_code_78 : decode cX11_code 78 = .ok (.ireturn, 1) := by decide +kernel
theorem dX11_code_79 : decode cX11_code 79 = .ok (.new 144, 3) := by decide +kernel
theorem dX11_code_82 : decode cX11_code 82 = .ok (.dup, 1) := by decide +kernel
theorem dX11_code_83 : decode cX11_code 83 = .ok (.ldc 146, 2) := by decide +kernel
theorem dX11_code_85 : decode cX11_code 85 = .ok (.invokespecial 148, 3) := by decide +kernel
theorem dX11_code_88 : decode cX11_code 88 = .ok (.athrow, 1) := by decide +kernel
theorem dX11_row_0 : decode cX11_row 0 = .ok (.iload_n 1, 1) := by decide +kernel
theorem dX11_row_1 : decode cX11_row 1 = .ok (.ifCond .lt 14, 3) := by decide +kernel
theorem dX11_row_4 : decode cX11_row 4 = .ok (.iload_n 1, 1) := by decide +kernel
theorem dX11_row_5 : decode cX11_row 5 = .ok (.aload_n 0, 1) := by decide +kernel
theorem dX11_row_6 : decode cX11_row 6 = .ok (.getfield 29, 3) := by decide +kernel
theorem dX11_row_9 : decode cX11_row 9 = .ok (.getfield 149, 3) := by decide +kernel
theorem dX11_row_12 : decode cX11_row 12 = .ok (.if_icmp .lt 5, 3) := by decide +kernel
theorem dX11_row_15 : decode cX11_row 15 = .ok (.iconst (-1), 1) := by decide +kernel
theorem dX11_row_16 : decode cX11_row 16 = .ok (.ireturn, 1) := by decide +kernel
theorem dX11_row_17 : decode cX11_row 17 = .ok (.iload_n 2, 1) := by decide +kernel
theorem dX11_row_18 : decode cX11_row 18 = .ok (.tableswitch 55 0 2 #[26, 36, 46], 26) := by decide +kernel
theorem dX11_row_44 : decode cX11_row 44 = .ok (.aload_n 0, 1) := by decide +kernel
theorem dX11_row_45 : decode cX11_row 45 = .ok (.getfield 29, 3) := by decide +kernel
theorem dX11_row_48 : decode cX11_row 48 = .ok (.getfield 152, 3) := by decide +kernel
theorem dX11_row_51 : decode cX11_row 51 = .ok (.iload_n 1, 1) := by decide +kernel
theorem dX11_row_52 : decode cX11_row 52 = .ok (.iaload, 1) := by decide +kernel
theorem dX11_row_53 : decode cX11_row 53 = .ok (.ireturn, 1) := by decide +kernel
theorem dX11_row_54 : decode cX11_row 54 = .ok (.aload_n 0, 1) := by decide +kernel
theorem dX11_row_55 : decode cX11_row 55 = .ok (.getfield 29, 3) := by decide +kernel
theorem dX11_row_58 : decode cX11_row 58 = .ok (.getfield 155, 3) := by decide +kernel
theorem dX11_row_61 : decode cX11_row 61 = .ok (.iload_n 1, 1) := by decide +kernel
theorem dX11_row_62 : decode cX11_row 62 = .ok (.iaload, 1) := by decide +kernel
theorem dX11_row_63 : decode cX11_row 63 = .ok (.ireturn, 1) := by decide +kernel
theorem dX11_row_64 : decode cX11_row 64 = .ok (.aload_n 0, 1) := by decide +kernel
theorem dX11_row_65 : decode cX11_row 65 = .ok (.getfield 29, 3) := by decide +kernel
theorem dX11_row_68 : decode cX11_row 68 = .ok (.iload_n 1, 1) := by decide +kernel
theorem dX11_row_69 : decode cX11_row 69 = .ok (.invokevirtual 158, 3) := by decide +kernel
theorem dX11_row_72 : decode cX11_row 72 = .ok (.ireturn, 1) := by decide +kernel
theorem dX11_row_73 : decode cX11_row 73 = .ok (.iconst (-1), 1) := by decide +kernel
theorem dX11_row_74 : decode cX11_row 74 = .ok (.ireturn, 1) := by decide +kernel
theorem dX11_variable_0 : decode cX11_variable 0 = .ok (.aload_n 0, 1) := by decide +kernel
theorem dX11_variable_1 : decode cX11_variable 1 = .ok (.getfield 43, 3) := by decide +kernel
theorem dX11_variable_4 : decode cX11_variable 4 = .ok (.getfield 161, 3) := by decide +kernel
theorem dX11_variable_7 : decode cX11_variable 7 = .ok (.iload_n 1, 1) := by decide +kernel
theorem dX11_variable_8 : decode cX11_variable 8 = .ok (.iload_n 2, 1) := by decide +kernel
theorem dX11_variable_9 : decode cX11_variable 9 = .ok (.invokestatic 165, 3) := by decide +kernel
theorem dX11_variable_12 : decode cX11_variable 12 = .ok (.ireturn, 1) := by decide +kernel
theorem dX11_cell_0 : decode cX11_cell 0 = .ok (.aload_n 0, 1) := by decide +kernel
theorem dX11_cell_1 : decode cX11_cell 1 = .ok (.getfield 43, 3) := by decide +kernel
theorem dX11_cell_4 : decode cX11_cell 4 = .ok (.getfield 169, 3) := by decide +kernel
theorem dX11_cell_7 : decode cX11_cell 7 = .ok (.iload_n 1, 1) := by decide +kernel
theorem dX11_cell_8 : decode cX11_cell 8 = .ok (.iload_n 2, 1) := by decide +kernel
theorem dX11_cell_9 : decode cX11_cell 9 = .ok (.invokestatic 165, 3) := by decide +kernel
theorem dX11_cell_12 : decode cX11_cell 12 = .ok (.ireturn, 1) := by decide +kernel
theorem dX11_out_0 : decode cX11_out 0 = .ok (.aload_n 0, 1) := by decide +kernel
theorem dX11_out_1 : decode cX11_out 1 = .ok (.getfield 43, 3) := by decide +kernel
theorem dX11_out_4 : decode cX11_out 4 = .ok (.getfield 172, 3) := by decide +kernel
theorem dX11_out_7 : decode cX11_out 7 = .ok (.iload_n 1, 1) := by decide +kernel
theorem dX11_out_8 : decode cX11_out 8 = .ok (.iload_n 2, 1) := by decide +kernel
theorem dX11_out_9 : decode cX11_out 9 = .ok (.invokestatic 165, 3) := by decide +kernel
theorem dX11_out_12 : decode cX11_out 12 = .ok (.ireturn, 1) := by decide +kernel
theorem dX11_read_0 : decode cX11_read 0 = .ok (.iload_n 1, 1) := by decide +kernel
theorem dX11_read_1 : decode cX11_read 1 = .ok (.ifCond .lt 11, 3) := by decide +kernel
theorem dX11_read_4 : decode cX11_read 4 = .ok (.iload_n 1, 1) := by decide +kernel
theorem dX11_read_5 : decode cX11_read 5 = .ok (.aload_n 0, 1) := by decide +kernel
theorem dX11_read_6 : decode cX11_read 6 = .ok (.getfield 175, 3) := by decide +kernel
theorem dX11_read_9 : decode cX11_read 9 = .ok (.if_icmp .lt 6, 3) := by decide +kernel
theorem dX11_read_12 : decode cX11_read 12 = .ok (.bipush (-10), 2) := by decide +kernel
theorem dX11_read_14 : decode cX11_read 14 = .ok (.ireturn, 1) := by decide +kernel
theorem dX11_read_15 : decode cX11_read 15 = .ok (.iload_n 2, 1) := by decide +kernel
theorem dX11_read_16 : decode cX11_read 16 = .ok (.lookupswitch 40 #[(0, 28), (1, 34)], 28) := by decide +kernel
theorem dX11_read_44 : decode cX11_read 44 = .ok (.aload_n 0, 1) := by decide +kernel
theorem dX11_read_45 : decode cX11_read 45 = .ok (.iload_n 1, 1) := by decide +kernel
theorem dX11_read_46 : decode cX11_read 46 = .ok (.invokevirtual 180, 3) := by decide +kernel
theorem dX11_read_49 : decode cX11_read 49 = .ok (.ireturn, 1) := by decide +kernel
theorem dX11_read_50 : decode cX11_read 50 = .ok (.aload_n 0, 1) := by decide +kernel
theorem dX11_read_51 : decode cX11_read 51 = .ok (.iload_n 1, 1) := by decide +kernel
theorem dX11_read_52 : decode cX11_read 52 = .ok (.invokevirtual 183, 3) := by decide +kernel
theorem dX11_read_55 : decode cX11_read 55 = .ok (.ireturn, 1) := by decide +kernel
theorem dX11_read_56 : decode cX11_read 56 = .ok (.bipush (-10), 2) := by decide +kernel
theorem dX11_read_58 : decode cX11_read 58 = .ok (.ireturn, 1) := by decide +kernel
theorem dX11_run_0 : decode cX11_run 0 = .ok (.iload_n 1, 1) := by decide +kernel
theorem dX11_run_1 : decode cX11_run 1 = .ok (.tableswitch 126 0 6 #[43, 51, 74, 82, 93, 104, 115], 43) := by decide +kernel
theorem dX11_run_44 : decode cX11_run 44 = .ok (.aload_n 0, 1) := by decide +kernel
theorem dX11_run_45 : decode cX11_run 45 = .ok (.getfield 43, 3) := by decide +kernel
theorem dX11_run_48 : decode cX11_run 48 = .ok (.getfield 186, 3) := by decide +kernel
theorem dX11_run_51 : decode cX11_run 51 = .ok (.ireturn, 1) := by decide +kernel
theorem dX11_run_52 : decode cX11_run 52 = .ok (.aload_n 0, 1) := by decide +kernel
theorem dX11_run_53 : decode cX11_run 53 = .ok (.getfield 43, 3) := by decide +kernel
theorem dX11_run_56 : decode cX11_run 56 = .ok (.getfield 186, 3) := by decide +kernel
theorem dX11_run_59 : decode cX11_run 59 = .ok (.ifCond .ne 8, 3) := by decide +kernel
theorem dX11_run_62 : decode cX11_run 62 = .ok (.bipush (-2), 2) := by decide +kernel
theorem dX11_run_64 : decode cX11_run 64 = .ok (.goto 10, 3) := by decide +kernel
theorem dX11_run_67 : decode cX11_run 67 = .ok (.aload_n 0, 1) := by decide +kernel
theorem dX11_run_68 : decode cX11_run 68 = .ok (.getfield 43, 3) := by decide +kernel
theorem dX11_run_71 : decode cX11_run 71 = .ok (.getfield 189, 3) := by decide +kernel
theorem dX11_run_74 : decode cX11_run 74 = .ok (.ireturn, 1) := by decide +kernel
theorem dX11_run_75 : decode cX11_run 75 = .ok (.aload_n 0, 1) := by decide +kernel
theorem dX11_run_76 : decode cX11_run 76 = .ok (.getfield 43, 3) := by decide +kernel
theorem dX11_run_79 : decode cX11_run 79 = .ok (.getfield 192, 3) := by decide +kernel
theorem dX11_run_82 : decode cX11_run 82 = .ok (.ireturn, 1) := by decide +kernel
theorem dX11_run_83 : decode cX11_run 83 = .ok (.aload_n 0, 1) := by decide +kernel
theorem dX11_run_84 : decode cX11_run 84 = .ok (.getfield 43, 3) := by decide +kernel
theorem dX11_run_87 : decode cX11_run 87 = .ok (.getfield 172, 3) := by decide +kernel
theorem dX11_run_90 : decode cX11_run 90 = .ok (.getfield 175, 3) := by decide +kernel
theorem dX11_run_93 : decode cX11_run 93 = .ok (.ireturn, 1) := by decide +kernel
theorem dX11_run_94 : decode cX11_run 94 = .ok (.aload_n 0, 1) := by decide +kernel
theorem dX11_run_95 : decode cX11_run 95 = .ok (.getfield 43, 3) := by decide +kernel
theorem dX11_run_98 : decode cX11_run 98 = .ok (.getfield 195, 3) := by decide +kernel
theorem dX11_run_101 : decode cX11_run 101 = .ok (.getfield 199, 3) := by decide +kernel
theorem dX11_run_104 : decode cX11_run 104 = .ok (.ireturn, 1) := by decide +kernel
theorem dX11_run_105 : decode cX11_run 105 = .ok (.aload_n 0, 1) := by decide +kernel
theorem dX11_run_106 : decode cX11_run 106 = .ok (.getfield 43, 3) := by decide +kernel
theorem dX11_run_109 : decode cX11_run 109 = .ok (.getfield 202, 3) := by decide +kernel
theorem dX11_run_112 : decode cX11_run 112 = .ok (.getfield 206, 3) := by decide +kernel
theorem dX11_run_115 : decode cX11_run 115 = .ok (.ireturn, 1) := by decide +kernel
theorem dX11_run_116 : decode cX11_run 116 = .ok (.aload_n 0, 1) := by decide +kernel
theorem dX11_run_117 : decode cX11_run 117 = .ok (.getfield 43, 3) := by decide +kernel
theorem dX11_run_120 : decode cX11_run 120 = .ok (.getfield 202, 3) := by decide +kernel
theorem dX11_run_123 : decode cX11_run 123 = .ok (.getfield 209, 3) := by decide +kernel
theorem dX11_run_126 : decode cX11_run 126 = .ok (.ireturn, 1) := by decide +kernel
theorem dX11_run_127 : decode cX11_run 127 = .ok (.iconst (-1), 1) := by decide +kernel
theorem dX11_run_128 : decode cX11_run 128 = .ok (.ireturn, 1) := by decide +kernel
theorem dX11_path_0 : decode cX11_path 0 = .ok (.iload_n 1, 1) := by decide +kernel
theorem dX11_path_1 : decode cX11_path 1 = .ok (.ifCond .ge 5, 3) := by decide +kernel
theorem dX11_path_4 : decode cX11_path 4 = .ok (.iconst (-1), 1) := by decide +kernel
theorem dX11_path_5 : decode cX11_path 5 = .ok (.ireturn, 1) := by decide +kernel
theorem dX11_path_6 : decode cX11_path 6 = .ok (.iload_n 1, 1) := by decide +kernel
theorem dX11_path_7 : decode cX11_path 7 = .ok (.aload_n 0, 1) := by decide +kernel
theorem dX11_path_8 : decode cX11_path 8 = .ok (.getfield 43, 3) := by decide +kernel
theorem dX11_path_11 : decode cX11_path 11 = .ok (.getfield 202, 3) := by decide +kernel
theorem dX11_path_14 : decode cX11_path 14 = .ok (.getfield 206, 3) := by decide +kernel
theorem dX11_path_17 : decode cX11_path 17 = .ok (.if_icmp .ge 17, 3) := by decide +kernel
theorem dX11_path_20 : decode cX11_path 20 = .ok (.aload_n 0, 1) := by decide +kernel
theorem dX11_path_21 : decode cX11_path 21 = .ok (.getfield 43, 3) := by decide +kernel
theorem dX11_path_24 : decode cX11_path 24 = .ok (.getfield 202, 3) := by decide +kernel
theorem dX11_path_27 : decode cX11_path 27 = .ok (.iload_n 1, 1) := by decide +kernel
theorem dX11_path_28 : decode cX11_path 28 = .ok (.invokevirtual 212, 3) := by decide +kernel
theorem dX11_path_31 : decode cX11_path 31 = .ok (.goto 5, 3) := by decide +kernel
theorem dX11_path_34 : decode cX11_path 34 = .ok (.bipush (-2), 2) := by decide +kernel
theorem dX11_path_36 : decode cX11_path 36 = .ok (.ireturn, 1) := by decide +kernel
theorem dX11_entry_0 : decode cX11_entry 0 = .ok (.aload_n 0, 1) := by decide +kernel
theorem dX11_entry_1 : decode cX11_entry 1 = .ok (.iload_n 1, 1) := by decide +kernel
theorem dX11_entry_2 : decode cX11_entry 2 = .ok (.invokevirtual 215, 3) := by decide +kernel
theorem dX11_entry_5 : decode cX11_entry 5 = .ok (.ifCond .ne 6, 3) := by decide +kernel
theorem dX11_entry_8 : decode cX11_entry 8 = .ok (.bipush (-10), 2) := by decide +kernel
theorem dX11_entry_10 : decode cX11_entry 10 = .ok (.ireturn, 1) := by decide +kernel
theorem dX11_entry_11 : decode cX11_entry 11 = .ok (.aload_n 0, 1) := by decide +kernel
theorem dX11_entry_12 : decode cX11_entry 12 = .ok (.getfield 43, 3) := by decide +kernel
theorem dX11_entry_15 : decode cX11_entry 15 = .ok (.getfield 195, 3) := by decide +kernel
theorem dX11_entry_18 : decode cX11_entry 18 = .ok (.astore_n 3, 1) := by decide +kernel
theorem dX11_entry_19 : decode cX11_entry 19 = .ok (.iload_n 2, 1) := by decide +kernel
theorem dX11_entry_20 : decode cX11_entry 20 = .ok (.tableswitch 114 0 8 #[52, 59, 66, 73, 80, 87, 94, 101, 107], 52) := by decide +kernel
theorem dX11_entry_72 : decode cX11_entry 72 = .ok (.aload_n 3, 1) := by decide +kernel
theorem dX11_entry_73 : decode cX11_entry 73 = .ok (.getfield 218, 3) := by decide +kernel
theorem dX11_entry_76 : decode cX11_entry 76 = .ok (.iload_n 1, 1) := by decide +kernel
theorem dX11_entry_77 : decode cX11_entry 77 = .ok (.iaload, 1) := by decide +kernel
theorem dX11_entry_78 : decode cX11_entry 78 = .ok (.ireturn, 1) := by decide +kernel
theorem dX11_entry_79 : decode cX11_entry 79 = .ok (.aload_n 3, 1) := by decide +kernel
theorem dX11_entry_80 : decode cX11_entry 80 = .ok (.getfield 221, 3) := by decide +kernel
theorem dX11_entry_83 : decode cX11_entry 83 = .ok (.iload_n 1, 1) := by decide +kernel
theorem dX11_entry_84 : decode cX11_entry 84 = .ok (.iaload, 1) := by decide +kernel
theorem dX11_entry_85 : decode cX11_entry 85 = .ok (.ireturn, 1) := by decide +kernel
theorem dX11_entry_86 : decode cX11_entry 86 = .ok (.aload_n 3, 1) := by decide +kernel
theorem dX11_entry_87 : decode cX11_entry 87 = .ok (.getfield 224, 3) := by decide +kernel
theorem dX11_entry_90 : decode cX11_entry 90 = .ok (.iload_n 1, 1) := by decide +kernel
theorem dX11_entry_91 : decode cX11_entry 91 = .ok (.iaload, 1) := by decide +kernel
theorem dX11_entry_92 : decode cX11_entry 92 = .ok (.ireturn, 1) := by decide +kernel
theorem dX11_entry_93 : decode cX11_entry 93 = .ok (.aload_n 3, 1) := by decide +kernel
theorem dX11_entry_94 : decode cX11_entry 94 = .ok (.getfield 227, 3) := by decide +kernel
theorem dX11_entry_97 : decode cX11_entry 97 = .ok (.iload_n 1, 1) := by decide +kernel
theorem dX11_entry_98 : decode cX11_entry 98 = .ok (.iaload, 1) := by decide +kernel
theorem dX11_entry_99 : decode cX11_entry 99 = .ok (.ireturn, 1) := by decide +kernel
theorem dX11_entry_100 : decode cX11_entry 100 = .ok (.aload_n 3, 1) := by decide +kernel
theorem dX11_entry_101 : decode cX11_entry 101 = .ok (.getfield 230, 3) := by decide +kernel
theorem dX11_entry_104 : decode cX11_entry 104 = .ok (.iload_n 1, 1) := by decide +kernel
theorem dX11_entry_105 : decode cX11_entry 105 = .ok (.iaload, 1) := by decide +kernel
theorem dX11_entry_106 : decode cX11_entry 106 = .ok (.ireturn, 1) := by decide +kernel
theorem dX11_entry_107 : decode cX11_entry 107 = .ok (.aload_n 3, 1) := by decide +kernel
theorem dX11_entry_108 : decode cX11_entry 108 = .ok (.getfield 233, 3) := by decide +kernel
theorem dX11_entry_111 : decode cX11_entry 111 = .ok (.iload_n 1, 1) := by decide +kernel
theorem dX11_entry_112 : decode cX11_entry 112 = .ok (.iaload, 1) := by decide +kernel
theorem dX11_entry_113 : decode cX11_entry 113 = .ok (.ireturn, 1) := by decide +kernel
theorem dX11_entry_114 : decode cX11_entry 114 = .ok (.aload_n 3, 1) := by decide +kernel
theorem dX11_entry_115 : decode cX11_entry 115 = .ok (.getfield 236, 3) := by decide +kernel
theorem dX11_entry_118 : decode cX11_entry 118 = .ok (.iload_n 1, 1) := by decide +kernel
theorem dX11_entry_119 : decode cX11_entry 119 = .ok (.iaload, 1) := by decide +kernel
theorem dX11_entry_120 : decode cX11_entry 120 = .ok (.ireturn, 1) := by decide +kernel
theorem dX11_entry_121 : decode cX11_entry 121 = .ok (.aload_n 0, 1) := by decide +kernel
theorem dX11_entry_122 : decode cX11_entry 122 = .ok (.iload_n 1, 1) := by decide +kernel
theorem dX11_entry_123 : decode cX11_entry 123 = .ok (.invokevirtual 239, 3) := by decide +kernel
theorem dX11_entry_126 : decode cX11_entry 126 = .ok (.ireturn, 1) := by decide +kernel
theorem dX11_entry_127 : decode cX11_entry 127 = .ok (.aload_n 3, 1) := by decide +kernel
theorem dX11_entry_128 : decode cX11_entry 128 = .ok (.getfield 242, 3) := by decide +kernel
theorem dX11_entry_131 : decode cX11_entry 131 = .ok (.iload_n 1, 1) := by decide +kernel
theorem dX11_entry_132 : decode cX11_entry 132 = .ok (.iaload, 1) := by decide +kernel
theorem dX11_entry_133 : decode cX11_entry 133 = .ok (.ireturn, 1) := by decide +kernel
theorem dX11_entry_134 : decode cX11_entry 134 = .ok (.bipush (-10), 2) := by decide +kernel
theorem dX11_entry_136 : decode cX11_entry 136 = .ok (.ireturn, 1) := by decide +kernel
theorem dX11_outsThatHangOn_0 : decode cX11_outsThatHangOn 0 = .ok (.aload_n 0, 1) := by decide +kernel
theorem dX11_outsThatHangOn_1 : decode cX11_outsThatHangOn 1 = .ok (.getfield 43, 3) := by decide +kernel
theorem dX11_outsThatHangOn_4 : decode cX11_outsThatHangOn 4 = .ok (.getfield 195, 3) := by decide +kernel
theorem dX11_outsThatHangOn_7 : decode cX11_outsThatHangOn 7 = .ok (.iload_n 1, 1) := by decide +kernel
theorem dX11_outsThatHangOn_8 : decode cX11_outsThatHangOn 8 = .ok (.invokevirtual 245, 3) := by decide +kernel
theorem dX11_outsThatHangOn_11 : decode cX11_outsThatHangOn 11 = .ok (.iconst 0, 1) := by decide +kernel
theorem dX11_outsThatHangOn_12 : decode cX11_outsThatHangOn 12 = .ok (.istore_n 2, 1) := by decide +kernel
theorem dX11_outsThatHangOn_13 : decode cX11_outsThatHangOn 13 = .ok (.iconst 0, 1) := by decide +kernel
theorem dX11_outsThatHangOn_14 : decode cX11_outsThatHangOn 14 = .ok (.istore_n 3, 1) := by decide +kernel
theorem dX11_outsThatHangOn_15 : decode cX11_outsThatHangOn 15 = .ok (.iload_n 3, 1) := by decide +kernel
theorem dX11_outsThatHangOn_16 : decode cX11_outsThatHangOn 16 = .ok (.aload_n 0, 1) := by decide +kernel
theorem dX11_outsThatHangOn_17 : decode cX11_outsThatHangOn 17 = .ok (.getfield 43, 3) := by decide +kernel
theorem dX11_outsThatHangOn_20 : decode cX11_outsThatHangOn 20 = .ok (.getfield 172, 3) := by decide +kernel
theorem dX11_outsThatHangOn_23 : decode cX11_outsThatHangOn 23 = .ok (.getfield 175, 3) := by decide +kernel
theorem dX11_outsThatHangOn_26 : decode cX11_outsThatHangOn 26 = .ok (.if_icmp .ge 36, 3) := by decide +kernel
theorem dX11_outsThatHangOn_29 : decode cX11_outsThatHangOn 29 = .ok (.aload_n 0, 1) := by decide +kernel
theorem dX11_outsThatHangOn_30 : decode cX11_outsThatHangOn 30 = .ok (.getfield 43, 3) := by decide +kernel
theorem dX11_outsThatHangOn_33 : decode cX11_outsThatHangOn 33 = .ok (.getfield 195, 3) := by decide +kernel
theorem dX11_outsThatHangOn_36 : decode cX11_outsThatHangOn 36 = .ok (.aload_n 0, 1) := by decide +kernel
theorem dX11_outsThatHangOn_37 : decode cX11_outsThatHangOn 37 = .ok (.getfield 43, 3) := by decide +kernel
theorem dX11_outsThatHangOn_40 : decode cX11_outsThatHangOn 40 = .ok (.getfield 172, 3) := by decide +kernel
theorem dX11_outsThatHangOn_43 : decode cX11_outsThatHangOn 43 = .ok (.iload_n 3, 1) := by decide +kernel
theorem dX11_outsThatHangOn_44 : decode cX11_outsThatHangOn 44 = .ok (.invokevirtual 183, 3) := by decide +kernel
theorem dX11_outsThatHangOn_47 : decode cX11_outsThatHangOn 47 = .ok (.invokevirtual 248, 3) := by decide +kernel
theorem dX11_outsThatHangOn_50 : decode cX11_outsThatHangOn 50 = .ok (.ifCond .eq 6, 3) := by decide +kernel
theorem dX11_outsThatHangOn_53 : decode cX11_outsThatHangOn 53 = .ok (.iinc 2 1, 3) := by decide +kernel
theorem dX11_outsThatHangOn_56 : decode cX11_outsThatHangOn 56 = .ok (.iinc 3 1, 3) := by decide +kernel
theorem dX11_outsThatHangOn_59 : decode cX11_outsThatHangOn 59 = .ok (.goto (-44), 3) := by decide +kernel
theorem dX11_outsThatHangOn_62 : decode cX11_outsThatHangOn 62 = .ok (.iload_n 2, 1) := by decide +kernel
theorem dX11_outsThatHangOn_63 : decode cX11_outsThatHangOn 63 = .ok (.ireturn, 1) := by decide +kernel
theorem dX11_slope_0 : decode cX11_slope 0 = .ok (.aload_n 0, 1) := by decide +kernel
theorem dX11_slope_1 : decode cX11_slope 1 = .ok (.iload_n 1, 1) := by decide +kernel
theorem dX11_slope_2 : decode cX11_slope 2 = .ok (.invokevirtual 251, 3) := by decide +kernel
theorem dX11_slope_5 : decode cX11_slope 5 = .ok (.ifCond .eq 11, 3) := by decide +kernel
theorem dX11_slope_8 : decode cX11_slope 8 = .ok (.aload_n 0, 1) := by decide +kernel
theorem dX11_slope_9 : decode cX11_slope 9 = .ok (.iload_n 2, 1) := by decide +kernel
theorem dX11_slope_10 : decode cX11_slope 10 = .ok (.invokevirtual 106, 3) := by decide +kernel
theorem dX11_slope_13 : decode cX11_slope 13 = .ok (.ifCond .ne 5, 3) := by decide +kernel
theorem dX11_slope_16 : decode cX11_slope 16 = .ok (.iconst (-1), 1) := by decide +kernel
theorem dX11_slope_17 : decode cX11_slope 17 = .ok (.ireturn, 1) := by decide +kernel
theorem dX11_slope_18 : decode cX11_slope 18 = .ok (.aload_n 0, 1) := by decide +kernel
theorem dX11_slope_19 : decode cX11_slope 19 = .ok (.getfield 56, 3) := by decide +kernel
theorem dX11_slope_22 : decode cX11_slope 22 = .ok (.aload_n 0, 1) := by decide +kernel
theorem dX11_slope_23 : decode cX11_slope 23 = .ok (.getfield 43, 3) := by decide +kernel
theorem dX11_slope_26 : decode cX11_slope 26 = .ok (.getfield 195, 3) := by decide +kernel
theorem dX11_slope_29 : decode cX11_slope 29 = .ok (.aload_n 0, 1) := by decide +kernel
theorem dX11_slope_30 : decode cX11_slope 30 = .ok (.getfield 43, 3) := by decide +kernel
theorem dX11_slope_33 : decode cX11_slope 33 = .ok (.getfield 172, 3) := by decide +kernel
theorem dX11_slope_36 : decode cX11_slope 36 = .ok (.iload_n 1, 1) := by decide +kernel
theorem dX11_slope_37 : decode cX11_slope 37 = .ok (.invokevirtual 183, 3) := by decide +kernel
theorem dX11_slope_40 : decode cX11_slope 40 = .ok (.sipush 1000, 3) := by decide +kernel
theorem dX11_slope_43 : decode cX11_slope 43 = .ok (.iload_n 2, 1) := by decide +kernel
theorem dX11_slope_44 : decode cX11_slope 44 = .ok (.iadd, 1) := by decide +kernel
theorem dX11_slope_45 : decode cX11_slope 45 = .ok (.invokevirtual 254, 3) := by decide +kernel
theorem dX11_slope_48 : decode cX11_slope 48 = .ok (.ireturn, 1) := by decide +kernel
theorem dX11_bar_0 : decode cX11_bar 0 = .ok (.aload_n 0, 1) := by decide +kernel
theorem dX11_bar_1 : decode cX11_bar 1 = .ok (.iload_n 1, 1) := by decide +kernel
theorem dX11_bar_2 : decode cX11_bar 2 = .ok (.invokevirtual 251, 3) := by decide +kernel
theorem dX11_bar_5 : decode cX11_bar 5 = .ok (.ifCond .eq 11, 3) := by decide +kernel
theorem dX11_bar_8 : decode cX11_bar 8 = .ok (.aload_n 0, 1) := by decide +kernel
theorem dX11_bar_9 : decode cX11_bar 9 = .ok (.iload_n 2, 1) := by decide +kernel
theorem dX11_bar_10 : decode cX11_bar 10 = .ok (.invokevirtual 215, 3) := by decide +kernel
theorem dX11_bar_13 : decode cX11_bar 13 = .ok (.ifCond .ne 5, 3) := by decide +kernel
theorem dX11_bar_16 : decode cX11_bar 16 = .ok (.iconst (-1), 1) := by decide +kernel
theorem dX11_bar_17 : decode cX11_bar 17 = .ok (.ireturn, 1) := by decide +kernel
theorem dX11_bar_18 : decode cX11_bar 18 = .ok (.aload_n 0, 1) := by decide +kernel
theorem dX11_bar_19 : decode cX11_bar 19 = .ok (.getfield 56, 3) := by decide +kernel
theorem dX11_bar_22 : decode cX11_bar 22 = .ok (.aload_n 0, 1) := by decide +kernel
theorem dX11_bar_23 : decode cX11_bar 23 = .ok (.getfield 43, 3) := by decide +kernel
theorem dX11_bar_26 : decode cX11_bar 26 = .ok (.getfield 195, 3) := by decide +kernel
theorem dX11_bar_29 : decode cX11_bar 29 = .ok (.aload_n 0, 1) := by decide +kernel
theorem dX11_bar_30 : decode cX11_bar 30 = .ok (.getfield 43, 3) := by decide +kernel
theorem dX11_bar_33 : decode cX11_bar 33 = .ok (.getfield 172, 3) := by decide +kernel
theorem dX11_bar_36 : decode cX11_bar 36 = .ok (.iload_n 1, 1) := by decide +kernel
theorem dX11_bar_37 : decode cX11_bar 37 = .ok (.invokevirtual 183, 3) := by decide +kernel
theorem dX11_bar_40 : decode cX11_bar 40 = .ok (.iload_n 2, 1) := by decide +kernel
theorem dX11_bar_41 : decode cX11_bar 41 = .ok (.invokevirtual 254, 3) := by decide +kernel
theorem dX11_bar_44 : decode cX11_bar 44 = .ok (.ireturn, 1) := by decide +kernel
theorem dX11_second_0 : decode cX11_second 0 = .ok (.aload_n 0, 1) := by decide +kernel
theorem dX11_second_1 : decode cX11_second 1 = .ok (.iload_n 1, 1) := by decide +kernel
theorem dX11_second_2 : decode cX11_second 2 = .ok (.invokevirtual 251, 3) := by decide +kernel
theorem dX11_second_5 : decode cX11_second 5 = .ok (.ifCond .eq 19, 3) := by decide +kernel
theorem dX11_second_8 : decode cX11_second 8 = .ok (.aload_n 0, 1) := by decide +kernel
theorem dX11_second_9 : decode cX11_second 9 = .ok (.iload_n 2, 1) := by decide +kernel
theorem dX11_second_10 : decode cX11_second 10 = .ok (.invokevirtual 106, 3) := by decide +kernel
theorem dX11_second_13 : decode cX11_second 13 = .ok (.ifCond .eq 11, 3) := by decide +kernel
theorem dX11_second_16 : decode cX11_second 16 = .ok (.aload_n 0, 1) := by decide +kernel
theorem dX11_second_17 : decode cX11_second 17 = .ok (.iload_n 3, 1) := by decide +kernel
theorem dX11_second_18 : decode cX11_second 18 = .ok (.invokevirtual 106, 3) := by decide +kernel
theorem dX11_second_21 : decode cX11_second 21 = .ok (.ifCond .ne 5, 3) := by decide +kernel
theorem dX11_second_24 : decode cX11_second 24 = .ok (.iconst (-1), 1) := by decide +kernel
theorem dX11_second_25 : decode cX11_second 25 = .ok (.ireturn, 1) := by decide +kernel
theorem dX11_second_26 : decode cX11_second 26 = .ok (.aload_n 0, 1) := by decide +kernel
theorem dX11_second_27 : decode cX11_second 27 = .ok (.iload_n 1, 1) := by decide +kernel
theorem dX11_second_28 : decode cX11_second 28 = .ok (.iload_n 2, 1) := by decide +kernel
theorem dX11_second_29 : decode cX11_second 29 = .ok (.iload_n 3, 1) := by decide +kernel
theorem dX11_second_30 : decode cX11_second 30 = .ok (.invokevirtual 258, 3) := by decide +kernel
theorem dX11_second_33 : decode cX11_second 33 = .ok (.ireturn, 1) := by decide +kernel
theorem dX11_secondSlope_0 : decode cX11_secondSlope 0 = .ok (.aload_n 0, 1) := by decide +kernel
theorem dX11_secondSlope_1 : decode cX11_secondSlope 1 = .ok (.getfield 56, 3) := by decide +kernel
theorem dX11_secondSlope_4 : decode cX11_secondSlope 4 = .ok (.aload_n 0, 1) := by decide +kernel
theorem dX11_secondSlope_5 : decode cX11_secondSlope 5 = .ok (.getfield 43, 3) := by decide +kernel
theorem dX11_secondSlope_8 : decode cX11_secondSlope 8 = .ok (.getfield 195, 3) := by decide +kernel
theorem dX11_secondSlope_11 : decode cX11_secondSlope 11 = .ok (.aload_n 0, 1) := by decide +kernel
theorem dX11_secondSlope_12 : decode cX11_secondSlope 12 = .ok (.getfield 43, 3) := by decide +kernel
theorem dX11_secondSlope_15 : decode cX11_secondSlope 15 = .ok (.getfield 172, 3) := by decide +kernel
theorem dX11_secondSlope_18 : decode cX11_secondSlope 18 = .ok (.iload_n 1, 1) := by decide +kernel
theorem dX11_secondSlope_19 : decode cX11_secondSlope 19 = .ok (.invokevirtual 183, 3) := by decide +kernel
theorem dX11_secondSlope_22 : decode cX11_secondSlope 22 = .ok (.sipush 1000, 3) := by decide +kernel
theorem dX11_secondSlope_25 : decode cX11_secondSlope 25 = .ok (.iload_n 2, 1) := by decide +kernel
theorem dX11_secondSlope_26 : decode cX11_secondSlope 26 = .ok (.iadd, 1) := by decide +kernel
theorem dX11_secondSlope_27 : decode cX11_secondSlope 27 = .ok (.sipush 1000, 3) := by decide +kernel
theorem dX11_secondSlope_30 : decode cX11_secondSlope 30 = .ok (.iload_n 3, 1) := by decide +kernel
theorem dX11_secondSlope_31 : decode cX11_secondSlope 31 = .ok (.iadd, 1) := by decide +kernel
theorem dX11_secondSlope_32 : decode cX11_secondSlope 32 = .ok (.invokevirtual 262, 3) := by decide +kernel
theorem dX11_secondSlope_35 : decode cX11_secondSlope 35 = .ok (.ireturn, 1) := by decide +kernel
theorem dX11_turned_0 : decode cX11_turned 0 = .ok (.aload_n 0, 1) := by decide +kernel
theorem dX11_turned_1 : decode cX11_turned 1 = .ok (.iload_n 1, 1) := by decide +kernel
theorem dX11_turned_2 : decode cX11_turned 2 = .ok (.invokevirtual 251, 3) := by decide +kernel
theorem dX11_turned_5 : decode cX11_turned 5 = .ok (.ifCond .eq 11, 3) := by decide +kernel
theorem dX11_turned_8 : decode cX11_turned 8 = .ok (.aload_n 0, 1) := by decide +kernel
theorem dX11_turned_9 : decode cX11_turned 9 = .ok (.iload_n 2, 1) := by decide +kernel
theorem dX11_turned_10 : decode cX11_turned 10 = .ok (.invokevirtual 106, 3) := by decide +kernel
theorem dX11_turned_13 : decode cX11_turned 13 = .ok (.ifCond .ne 5, 3) := by decide +kernel
theorem dX11_turned_16 : decode cX11_turned 16 = .ok (.iconst (-1), 1) := by decide +kernel
theorem dX11_turned_17 : decode cX11_turned 17 = .ok (.ireturn, 1) := by decide +kernel
theorem dX11_turned_18 : decode cX11_turned 18 = .ok (.iconst 0, 1) := by decide +kernel
theorem dX11_turned_19 : decode cX11_turned 19 = .ok (.istore 7, 2) := by decide +kernel
theorem dX11_turned_21 : decode cX11_turned 21 = .ok (.iconst 0, 1) := by decide +kernel
theorem dX11_turned_22 : decode cX11_turned 22 = .ok (.istore 8, 2) := by decide +kernel
theorem dX11_turned_24 : decode cX11_turned 24 = .ok (.iload 8, 2) := by decide +kernel
theorem dX11_turned_26 : decode cX11_turned 26 = .ok (.aload_n 0, 1) := by decide +kernel
theorem dX11_turned_27 : decode cX11_turned 27 = .ok (.getfield 29, 3) := by decide +kernel
theorem dX11_turned_30 : decode cX11_turned 30 = .ok (.getfield 266, 3) := by decide +kernel
theorem dX11_turned_33 : decode cX11_turned 33 = .ok (.if_icmp .ge 67, 3) := by decide +kernel
theorem dX11_turned_36 : decode cX11_turned 36 = .ok (.iload 8, 2) := by decide +kernel
theorem dX11_turned_38 : decode cX11_turned 38 = .ok (.ifCond .ne 7, 3) := by decide +kernel
theorem dX11_turned_41 : decode cX11_turned 41 = .ok (.iload_n 3, 1) := by decide +kernel
theorem dX11_turned_42 : decode cX11_turned 42 = .ok (.goto 27, 3) := by decide +kernel
theorem dX11_turned_45 : decode cX11_turned 45 = .ok (.iload 8, 2) := by decide +kernel
theorem dX11_turned_47 : decode cX11_turned 47 = .ok (.iconst 1, 1) := by decide +kernel
theorem dX11_turned_48 : decode cX11_turned 48 = .ok (.if_icmp .ne 8, 3) := by decide +kernel
theorem dX11_turned_51 : decode cX11_turned 51 = .ok (.iload 4, 2) := by decide +kernel
theorem dX11_turned_53 : decode cX11_turned 53 = .ok (.goto 16, 3) := by decide +kernel
theorem dX11_turned_56 : decode cX11_turned 56 = .ok (.iload 8, 2) := by decide +kernel
theorem dX11_turned_58 : decode cX11_turned 58 = .ok (.iconst 2, 1) := by decide +kernel
theorem dX11_turned_59 : decode cX11_turned 59 = .ok (.if_icmp .ne 8, 3) := by decide +kernel
theorem dX11_turned_62 : decode cX11_turned 62 = .ok (.iload 5, 2) := by decide +kernel
theorem dX11_turned_64 : decode cX11_turned 64 = .ok (.goto 5, 3) := by decide +kernel
theorem dX11_turned_67 : decode cX11_turned 67 = .ok (.iload 6, 2) := by decide +kernel
theorem dX11_turned_69 : decode cX11_turned 69 = .ok (.istore 9, 2) := by decide +kernel
theorem dX11_turned_71 : decode cX11_turned 71 = .ok (.iload 7, 2) := by decide +kernel
theorem dX11_turned_73 : decode cX11_turned 73 = .ok (.aload_n 0, 1) := by decide +kernel
theorem dX11_turned_74 : decode cX11_turned 74 = .ok (.iload_n 1, 1) := by decide +kernel
theorem dX11_turned_75 : decode cX11_turned 75 = .ok (.iload_n 2, 1) := by decide +kernel
theorem dX11_turned_76 : decode cX11_turned 76 = .ok (.iload 8, 2) := by decide +kernel
theorem dX11_turned_78 : decode cX11_turned 78 = .ok (.invokevirtual 258, 3) := by decide +kernel
theorem dX11_turned_81 : decode cX11_turned 81 = .ok (.iload 9, 2) := by decide +kernel
theorem dX11_turned_83 : decode cX11_turned 83 = .ok (.invokestatic 112, 3) := by decide +kernel
theorem dX11_turned_86 : decode cX11_turned 86 = .ok (.invokestatic 121, 3) := by decide +kernel
theorem dX11_turned_89 : decode cX11_turned 89 = .ok (.invokestatic 268, 3) := by decide +kernel
theorem dX11_turned_92 : decode cX11_turned 92 = .ok (.istore 7, 2) := by decide +kernel
theorem dX11_turned_94 : decode cX11_turned 94 = .ok (.iinc 8 1, 3) := by decide +kernel
theorem dX11_turned_97 : decode cX11_turned 97 = .ok (.goto (-73), 3) := by decide +kernel
theorem dX11_turned_100 : decode cX11_turned 100 = .ok (.iload 7, 2) := by decide +kernel
theorem dX11_turned_102 : decode cX11_turned 102 = .ok (.ireturn, 1) := by decide +kernel
theorem dX11_determinant_0 : decode cX11_determinant 0 = .ok (.iload_n 1, 1) := by decide +kernel
theorem dX11_determinant_1 : decode cX11_determinant 1 = .ok (.iconst 1, 1) := by decide +kernel
theorem dX11_determinant_2 : decode cX11_determinant 2 = .ok (.if_icmp .lt 33, 3) := by decide +kernel
theorem dX11_determinant_5 : decode cX11_determinant 5 = .ok (.iload_n 1, 1) := by decide +kernel
theorem dX11_determinant_6 : decode cX11_determinant 6 = .ok (.iconst 4, 1) := by decide +kernel
theorem dX11_determinant_7 : decode cX11_determinant 7 = .ok (.if_icmp .gt 28, 3) := by decide +kernel
theorem dX11_determinant_10 : decode cX11_determinant 10 = .ok (.iload_n 1, 1) := by decide +kernel
theorem dX11_determinant_11 : decode cX11_determinant 11 = .ok (.aload_n 0, 1) := by decide +kernel
theorem dX11_determinant_12 : decode cX11_determinant 12 = .ok (.getfield 43, 3) := by decide +kernel
theorem dX11_determinant_15 : decode cX11_determinant 15 = .ok (.getfield 172, 3) := by decide +kernel
theorem dX11_determinant_18 : decode cX11_determinant 18 = .ok (.getfield 175, 3) := by decide +kernel
theorem dX11_determinant_21 : decode cX11_determinant 21 = .ok (.if_icmp .gt 14, 3) := by decide +kernel
theorem dX11_determinant_24 : decode cX11_determinant 24 = .ok (.iload_n 1, 1) := by decide +kernel
theorem dX11_determinant_25 : decode cX11_determinant 25 = .ok (.aload_n 0, 1) := by decide +kernel
theorem dX11_determinant_26 : decode cX11_determinant 26 = .ok (.getfield 29, 3) := by decide +kernel
theorem dX11_determinant_29 : decode cX11_determinant 29 = .ok (.getfield 266, 3) := by decide +kernel
theorem dX11_determinant_32 : decode cX11_determinant 32 = .ok (.if_icmp .le 5, 3) := by decide +kernel
theorem dX11_determinant_35 : decode cX11_determinant 35 = .ok (.iconst (-1), 1) := by decide +kernel
theorem dX11_determinant_36 : decode cX11_determinant 36 = .ok (.ireturn, 1) := by decide +kernel
theorem dX11_determinant_37 : decode cX11_determinant 37 = .ok (.aload_n 0, 1) := by decide +kernel
theorem dX11_determinant_38 : decode cX11_determinant 38 = .ok (.iload_n 1, 1) := by decide +kernel
theorem dX11_determinant_39 : decode cX11_determinant 39 = .ok (.iload_n 1, 1) := by decide +kernel
theorem dX11_determinant_40 : decode cX11_determinant 40 = .ok (.invokevirtual 271, 3) := by decide +kernel
theorem dX11_determinant_43 : decode cX11_determinant 43 = .ok (.aload_n 0, 1) := by decide +kernel
theorem dX11_determinant_44 : decode cX11_determinant 44 = .ok (.getfield 63, 3) := by decide +kernel
theorem dX11_determinant_47 : decode cX11_determinant 47 = .ok (.iload_n 1, 1) := by decide +kernel
theorem dX11_determinant_48 : decode cX11_determinant 48 = .ok (.iload_n 1, 1) := by decide +kernel
theorem dX11_determinant_49 : decode cX11_determinant 49 = .ok (.invokevirtual 275, 3) := by decide +kernel
theorem dX11_determinant_52 : decode cX11_determinant 52 = .ok (.aload_n 0, 1) := by decide +kernel
theorem dX11_determinant_53 : decode cX11_determinant 53 = .ok (.getfield 63, 3) := by decide +kernel
theorem dX11_determinant_56 : decode cX11_determinant 56 = .ok (.getfield 278, 3) := by decide +kernel
theorem dX11_determinant_59 : decode cX11_determinant 59 = .ok (.iload_n 1, 1) := by decide +kernel
theorem dX11_determinant_60 : decode cX11_determinant 60 = .ok (.if_icmp .ne 13, 3) := by decide +kernel
theorem dX11_determinant_63 : decode cX11_determinant 63 = .ok (.aload_n 0, 1) := by decide +kernel
theorem dX11_determinant_64 : decode cX11_determinant 64 = .ok (.getfield 63, 3) := by decide +kernel
theorem dX11_determinant_67 : decode cX11_determinant 67 = .ok (.getfield 281, 3) := by decide +kernel
theorem dX11_determinant_70 : decode cX11_determinant 70 = .ok (.goto 4, 3) := by decide +kernel
theorem dX11_determinant_73 : decode cX11_determinant 73 = .ok (.iconst 0, 1) := by decide +kernel
theorem dX11_determinant_74 : decode cX11_determinant 74 = .ok (.ireturn, 1) := by decide +kernel
theorem dX11_rank_0 : decode cX11_rank 0 = .ok (.aload_n 0, 1) := by decide +kernel
theorem dX11_rank_1 : decode cX11_rank 1 = .ok (.aload_n 0, 1) := by decide +kernel
theorem dX11_rank_2 : decode cX11_rank 2 = .ok (.getfield 43, 3) := by decide +kernel
theorem dX11_rank_5 : decode cX11_rank 5 = .ok (.getfield 172, 3) := by decide +kernel
theorem dX11_rank_8 : decode cX11_rank 8 = .ok (.getfield 175, 3) := by decide +kernel
theorem dX11_rank_11 : decode cX11_rank 11 = .ok (.aload_n 0, 1) := by decide +kernel
theorem dX11_rank_12 : decode cX11_rank 12 = .ok (.getfield 29, 3) := by decide +kernel
theorem dX11_rank_15 : decode cX11_rank 15 = .ok (.getfield 266, 3) := by decide +kernel
theorem dX11_rank_18 : decode cX11_rank 18 = .ok (.invokevirtual 271, 3) := by decide +kernel
theorem dX11_rank_21 : decode cX11_rank 21 = .ok (.aload_n 0, 1) := by decide +kernel
theorem dX11_rank_22 : decode cX11_rank 22 = .ok (.getfield 63, 3) := by decide +kernel
theorem dX11_rank_25 : decode cX11_rank 25 = .ok (.aload_n 0, 1) := by decide +kernel
theorem dX11_rank_26 : decode cX11_rank 26 = .ok (.getfield 43, 3) := by decide +kernel
theorem dX11_rank_29 : decode cX11_rank 29 = .ok (.getfield 172, 3) := by decide +kernel
theorem dX11_rank_32 : decode cX11_rank 32 = .ok (.getfield 175, 3) := by decide +kernel
theorem dX11_rank_35 : decode cX11_rank 35 = .ok (.aload_n 0, 1) := by decide +kernel
theorem dX11_rank_36 : decode cX11_rank 36 = .ok (.getfield 29, 3) := by decide +kernel
theorem dX11_rank_39 : decode cX11_rank 39 = .ok (.getfield 266, 3) := by decide +kernel
theorem dX11_rank_42 : decode cX11_rank 42 = .ok (.invokevirtual 275, 3) := by decide +kernel
theorem dX11_rank_45 : decode cX11_rank 45 = .ok (.aload_n 0, 1) := by decide +kernel
theorem dX11_rank_46 : decode cX11_rank 46 = .ok (.getfield 63, 3) := by decide +kernel
theorem dX11_rank_49 : decode cX11_rank 49 = .ok (.getfield 278, 3) := by decide +kernel
theorem dX11_rank_52 : decode cX11_rank 52 = .ok (.ireturn, 1) := by decide +kernel
theorem dX11_fillMatrix_0 : decode cX11_fillMatrix 0 = .ok (.iconst 0, 1) := by decide +kernel
theorem dX11_fillMatrix_1 : decode cX11_fillMatrix 1 = .ok (.istore_n 3, 1) := by decide +kernel
theorem dX11_fillMatrix_2 : decode cX11_fillMatrix 2 = .ok (.iload_n 3, 1) := by decide +kernel
theorem dX11_fillMatrix_3 : decode cX11_fillMatrix 3 = .ok (.iload_n 2, 1) := by decide +kernel
theorem dX11_fillMatrix_4 : decode cX11_fillMatrix 4 = .ok (.if_icmp .ge 77, 3) := by decide +kernel
theorem dX11_fillMatrix_7 : decode cX11_fillMatrix 7 = .ok (.aload_n 0, 1) := by decide +kernel
theorem dX11_fillMatrix_8 : decode cX11_fillMatrix 8 = .ok (.getfield 56, 3) := by decide +kernel
theorem dX11_fillMatrix_11 : decode cX11_fillMatrix 11 = .ok (.aload_n 0, 1) := by decide +kernel
theorem dX11_fillMatrix_12 : decode cX11_fillMatrix 12 = .ok (.getfield 43, 3) := by decide +kernel
theorem dX11_fillMatrix_15 : decode cX11_fillMatrix 15 = .ok (.getfield 195, 3) := by decide +kernel
theorem dX11_fillMatrix_18 : decode cX11_fillMatrix 18 = .ok (.sipush 1000, 3) := by decide +kernel
theorem dX11_fillMatrix_21 : decode cX11_fillMatrix 21 = .ok (.iload_n 3, 1) := by decide +kernel
theorem dX11_fillMatrix_22 : decode cX11_fillMatrix 22 = .ok (.iadd, 1) := by decide +kernel
theorem dX11_fillMatrix_23 : decode cX11_fillMatrix 23 = .ok (.invokevirtual 284, 3) := by decide +kernel
theorem dX11_fillMatrix_26 : decode cX11_fillMatrix 26 = .ok (.iconst 0, 1) := by decide +kernel
theorem dX11_fillMatrix_27 : decode cX11_fillMatrix 27 = .ok (.istore 4, 2) := by decide +kernel
theorem dX11_fillMatrix_29 : decode cX11_fillMatrix 29 = .ok (.iload 4, 2) := by decide +kernel
theorem dX11_fillMatrix_31 : decode cX11_fillMatrix 31 = .ok (.iload_n 1, 1) := by decide +kernel
theorem dX11_fillMatrix_32 : decode cX11_fillMatrix 32 = .ok (.if_icmp .ge 43, 3) := by decide +kernel
theorem dX11_fillMatrix_35 : decode cX11_fillMatrix 35 = .ok (.aload_n 0, 1) := by decide +kernel
theorem dX11_fillMatrix_36 : decode cX11_fillMatrix 36 = .ok (.getfield 63, 3) := by decide +kernel
theorem dX11_fillMatrix_39 : decode cX11_fillMatrix 39 = .ok (.iload 4, 2) := by decide +kernel
theorem dX11_fillMatrix_41 : decode cX11_fillMatrix 41 = .ok (.iload_n 3, 1) := by decide +kernel
theorem dX11_fillMatrix_42 : decode cX11_fillMatrix 42 = .ok (.aload_n 0, 1) := by decide +kernel
theorem dX11_fillMatrix_43 : decode cX11_fillMatrix 43 = .ok (.getfield 56, 3) := by decide +kernel
theorem dX11_fillMatrix_46 : decode cX11_fillMatrix 46 = .ok (.aload_n 0, 1) := by decide +kernel
theorem dX11_fillMatrix_47 : decode cX11_fillMatrix 47 = .ok (.getfield 43, 3) := by decide +kernel
theorem dX11_fillMatrix_50 : decode cX11_fillMatrix 50 = .ok (.getfield 172, 3) := by decide +kernel
theorem dX11_fillMatrix_53 : decode cX11_fillMatrix 53 = .ok (.iload 4, 2) := by decide +kernel
theorem dX11_fillMatrix_55 : decode cX11_fillMatrix 55 = .ok (.invokevirtual 183, 3) := by decide +kernel
theorem dX11_fillMatrix_58 : decode cX11_fillMatrix 58 = .ok (.sipush 1000, 3) := by decide +kernel
theorem dX11_fillMatrix_61 : decode cX11_fillMatrix 61 = .ok (.iload_n 3, 1) := by decide +kernel
theorem dX11_fillMatrix_62 : decode cX11_fillMatrix 62 = .ok (.iadd, 1) := by decide +kernel
theorem dX11_fillMatrix_63 : decode cX11_fillMatrix 63 = .ok (.invokevirtual 288, 3) := by decide +kernel
theorem dX11_fillMatrix_66 : decode cX11_fillMatrix 66 = .ok (.invokevirtual 291, 3) := by decide +kernel
theorem dX11_fillMatrix_69 : decode cX11_fillMatrix 69 = .ok (.iinc 4 1, 3) := by decide +kernel
theorem dX11_fillMatrix_72 : decode cX11_fillMatrix 72 = .ok (.goto (-43), 3) := by decide +kernel
theorem dX11_fillMatrix_75 : decode cX11_fillMatrix 75 = .ok (.iinc 3 1, 3) := by decide +kernel
theorem dX11_fillMatrix_78 : decode cX11_fillMatrix 78 = .ok (.goto (-76), 3) := by decide +kernel
theorem dX11_fillMatrix_81 : decode cX11_fillMatrix 81 = .ok (.return_, 1) := by decide +kernel
theorem dX11_newton_0 : decode cX11_newton 0 = .ok (.aload_n 0, 1) := by decide +kernel
theorem dX11_newton_1 : decode cX11_newton 1 = .ok (.iload_n 1, 1) := by decide +kernel
theorem dX11_newton_2 : decode cX11_newton 2 = .ok (.invokevirtual 251, 3) := by decide +kernel
theorem dX11_newton_5 : decode cX11_newton 5 = .ok (.ifCond .eq 22, 3) := by decide +kernel
theorem dX11_newton_8 : decode cX11_newton 8 = .ok (.aload_n 0, 1) := by decide +kernel
theorem dX11_newton_9 : decode cX11_newton 9 = .ok (.iload_n 2, 1) := by decide +kernel
theorem dX11_newton_10 : decode cX11_newton 10 = .ok (.invokevirtual 106, 3) := by decide +kernel
theorem dX11_newton_13 : decode cX11_newton 13 = .ok (.ifCond .eq 14, 3) := by decide +kernel
theorem dX11_newton_16 : decode cX11_newton 16 = .ok (.iload_n 3, 1) := by decide +kernel
theorem dX11_newton_17 : decode cX11_newton 17 = .ok (.iconst 1, 1) := by decide +kernel
theorem dX11_newton_18 : decode cX11_newton 18 = .ok (.if_icmp .lt 9, 3) := by decide +kernel
theorem dX11_newton_21 : decode cX11_newton 21 = .ok (.iload_n 3, 1) := by decide +kernel
theorem dX11_newton_22 : decode cX11_newton 22 = .ok (.bipush 20, 2) := by decide +kernel
theorem dX11_newton_24 : decode cX11_newton 24 = .ok (.if_icmp .le 5, 3) := by decide +kernel
theorem dX11_newton_27 : decode cX11_newton 27 = .ok (.iconst (-1), 1) := by decide +kernel
theorem dX11_newton_28 : decode cX11_newton 28 = .ok (.ireturn, 1) := by decide +kernel
theorem dX11_newton_29 : decode cX11_newton 29 = .ok (.aload_n 0, 1) := by decide +kernel
theorem dX11_newton_30 : decode cX11_newton 30 = .ok (.getfield 36, 3) := by decide +kernel
theorem dX11_newton_33 : decode cX11_newton 33 = .ok (.iload_n 2, 1) := by decide +kernel
theorem dX11_newton_34 : decode cX11_newton 34 = .ok (.iaload, 1) := by decide +kernel
theorem dX11_newton_35 : decode cX11_newton 35 = .ok (.istore 4, 2) := by decide +kernel
theorem dX11_newton_37 : decode cX11_newton 37 = .ok (.iconst 0, 1) := by decide +kernel
theorem dX11_newton_38 : decode cX11_newton 38 = .ok (.istore 5, 2) := by decide +kernel
theorem dX11_newton_40 : decode cX11_newton 40 = .ok (.iload 5, 2) := by decide +kernel
theorem dX11_newton_42 : decode cX11_newton 42 = .ok (.iload_n 3, 1) := by decide +kernel
theorem dX11_newton_43 : decode cX11_newton 43 = .ok (.if_icmp .ge 99, 3) := by decide +kernel
theorem dX11_newton_46 : decode cX11_newton 46 = .ok (.aload_n 0, 1) := by decide +kernel
theorem dX11_newton_47 : decode cX11_newton 47 = .ok (.iload_n 2, 1) := by decide +kernel
theorem dX11_newton_48 : decode cX11_newton 48 = .ok (.iload 4, 2) := by decide +kernel
theorem dX11_newton_50 : decode cX11_newton 50 = .ok (.invokevirtual 295, 3) := by decide +kernel
theorem dX11_newton_53 : decode cX11_newton 53 = .ok (.iload_n 1, 1) := by decide +kernel
theorem dX11_newton_54 : decode cX11_newton 54 = .ok (.aload_n 0, 1) := by decide +kernel
theorem dX11_newton_55 : decode cX11_newton 55 = .ok (.getfield 50, 3) := by decide +kernel
theorem dX11_newton_58 : decode cX11_newton 58 = .ok (.getfield 172, 3) := by decide +kernel
theorem dX11_newton_61 : decode cX11_newton 61 = .ok (.getfield 175, 3) := by decide +kernel
theorem dX11_newton_64 : decode cX11_newton 64 = .ok (.if_icmp .lt 6, 3) := by decide +kernel
theorem dX11_newton_67 : decode cX11_newton 67 = .ok (.bipush (-2), 2) := by decide +kernel
theorem dX11_newton_69 : decode cX11_newton 69 = .ok (.ireturn, 1) := by decide +kernel
theorem dX11_newton_70 : decode cX11_newton 70 = .ok (.aload_n 0, 1) := by decide +kernel
theorem dX11_newton_71 : decode cX11_newton 71 = .ok (.getfield 56, 3) := by decide +kernel
theorem dX11_newton_74 : decode cX11_newton 74 = .ok (.aload_n 0, 1) := by decide +kernel
theorem dX11_newton_75 : decode cX11_newton 75 = .ok (.getfield 50, 3) := by decide +kernel
theorem dX11_newton_78 : decode cX11_newton 78 = .ok (.getfield 195, 3) := by decide +kernel
theorem dX11_newton_81 : decode cX11_newton 81 = .ok (.aload_n 0, 1) := by decide +kernel
theorem dX11_newton_82 : decode cX11_newton 82 = .ok (.getfield 50, 3) := by decide +kernel
theorem dX11_newton_85 : decode cX11_newton 85 = .ok (.getfield 172, 3) := by decide +kernel
theorem dX11_newton_88 : decode cX11_newton 88 = .ok (.iload_n 1, 1) := by decide +kernel
theorem dX11_newton_89 : decode cX11_newton 89 = .ok (.invokevirtual 183, 3) := by decide +kernel
theorem dX11_newton_92 : decode cX11_newton 92 = .ok (.sipush 1000, 3) := by decide +kernel
theorem dX11_newton_95 : decode cX11_newton 95 = .ok (.iload_n 2, 1) := by decide +kernel
theorem dX11_newton_96 : decode cX11_newton 96 = .ok (.iadd, 1) := by decide +kernel
theorem dX11_newton_97 : decode cX11_newton 97 = .ok (.invokevirtual 254, 3) := by decide +kernel
theorem dX11_newton_100 : decode cX11_newton 100 = .ok (.istore 6, 2) := by decide +kernel
theorem dX11_newton_102 : decode cX11_newton 102 = .ok (.iload 6, 2) := by decide +kernel
theorem dX11_newton_104 : decode cX11_newton 104 = .ok (.ifCond .ne 6, 3) := by decide +kernel
theorem dX11_newton_107 : decode cX11_newton 107 = .ok (.bipush (-2), 2) := by decide +kernel
theorem dX11_newton_109 : decode cX11_newton 109 = .ok (.ireturn, 1) := by decide +kernel
theorem dX11_newton_110 : decode cX11_newton 110 = .ok (.iload 4, 2) := by decide +kernel
theorem dX11_newton_112 : decode cX11_newton 112 = .ok (.aload_n 0, 1) := by decide +kernel
theorem dX11_newton_113 : decode cX11_newton 113 = .ok (.getfield 50, 3) := by decide +kernel
theorem dX11_newton_116 : decode cX11_newton 116 = .ok (.getfield 172, 3) := by decide +kernel
theorem dX11_newton_119 : decode cX11_newton 119 = .ok (.iload_n 1, 1) := by decide +kernel
theorem dX11_newton_120 : decode cX11_newton 120 = .ok (.invokevirtual 180, 3) := by decide +kernel
theorem dX11_newton_123 : decode cX11_newton 123 = .ok (.iload 6, 2) := by decide +kernel
theorem dX11_newton_125 : decode cX11_newton 125 = .ok (.invokestatic 118, 3) := by decide +kernel
theorem dX11_newton_128 : decode cX11_newton 128 = .ok (.invokestatic 121, 3) := by decide +kernel
theorem dX11_newton_131 : decode cX11_newton 131 = .ok (.invokestatic 298, 3) := by decide +kernel
theorem dX11_newton_134 : decode cX11_newton 134 = .ok (.istore 4, 2) := by decide +kernel
theorem dX11_newton_136 : decode cX11_newton 136 = .ok (.iinc 5 1, 3) := by decide +kernel
theorem dX11_newton_139 : decode cX11_newton 139 = .ok (.goto (-99), 3) := by decide +kernel
theorem dX11_newton_142 : decode cX11_newton 142 = .ok (.iload 4, 2) := by decide +kernel
theorem dX11_newton_144 : decode cX11_newton 144 = .ok (.ireturn, 1) := by decide +kernel
theorem dX11_tryInput_0 : decode cX11_tryInput 0 = .ok (.aload_n 0, 1) := by decide +kernel
theorem dX11_tryInput_1 : decode cX11_tryInput 1 = .ok (.getfield 36, 3) := by decide +kernel
theorem dX11_tryInput_4 : decode cX11_tryInput 4 = .ok (.iconst 0, 1) := by decide +kernel
theorem dX11_tryInput_5 : decode cX11_tryInput 5 = .ok (.aload_n 0, 1) := by decide +kernel
theorem dX11_tryInput_6 : decode cX11_tryInput 6 = .ok (.getfield 47, 3) := by decide +kernel
theorem dX11_tryInput_9 : decode cX11_tryInput 9 = .ok (.iconst 0, 1) := by decide +kernel
theorem dX11_tryInput_10 : decode cX11_tryInput 10 = .ok (.iconst 4, 1) := by decide +kernel
theorem dX11_tryInput_11 : decode cX11_tryInput 11 = .ok (.invokestatic 301, 3) := by decide +kernel
theorem dX11_tryInput_14 : decode cX11_tryInput 14 = .ok (.iload_n 1, 1) := by decide +kernel
theorem dX11_tryInput_15 : decode cX11_tryInput 15 = .ok (.ifCond .lt 15, 3) := by decide +kernel
theorem dX11_tryInput_18 : decode cX11_tryInput 18 = .ok (.iload_n 1, 1) := by decide +kernel
theorem dX11_tryInput_19 : decode cX11_tryInput 19 = .ok (.iconst 4, 1) := by decide +kernel
theorem dX11_tryInput_20 : decode cX11_tryInput 20 = .ok (.if_icmp .ge 10, 3) := by decide +kernel
theorem dX11_tryInput_23 : decode cX11_tryInput 23 = .ok (.aload_n 0, 1) := by decide +kernel
theorem dX11_tryInput_24 : decode cX11_tryInput 24 = .ok (.getfield 47, 3) := by decide +kernel
theorem dX11_tryInput_27 : decode cX11_tryInput 27 = .ok (.iload_n 1, 1) := by decide +kernel
theorem dX11_tryInput_28 : decode cX11_tryInput 28 = .ok (.iload_n 2, 1) := by decide +kernel
theorem dX11_tryInput_29 : decode cX11_tryInput 29 = .ok (.iastore, 1) := by decide +kernel
theorem dX11_tryInput_30 : decode cX11_tryInput 30 = .ok (.aload_n 0, 1) := by decide +kernel
theorem dX11_tryInput_31 : decode cX11_tryInput 31 = .ok (.getfield 50, 3) := by decide +kernel
theorem dX11_tryInput_34 : decode cX11_tryInput 34 = .ok (.aload_n 0, 1) := by decide +kernel
theorem dX11_tryInput_35 : decode cX11_tryInput 35 = .ok (.getfield 29, 3) := by decide +kernel
theorem dX11_tryInput_38 : decode cX11_tryInput 38 = .ok (.aload_n 0, 1) := by decide +kernel
theorem dX11_tryInput_39 : decode cX11_tryInput 39 = .ok (.getfield 47, 3) := by decide +kernel
theorem dX11_tryInput_42 : decode cX11_tryInput 42 = .ok (.invokevirtual 99, 3) := by decide +kernel
theorem dX11_tryInput_45 : decode cX11_tryInput 45 = .ok (.return_, 1) := by decide +kernel
theorem dX11_change_0 : decode cX11_change 0 = .ok (.aload_n 0, 1) := by decide +kernel
theorem dX11_change_1 : decode cX11_change 1 = .ok (.iload_n 1, 1) := by decide +kernel
theorem dX11_change_2 : decode cX11_change 2 = .ok (.invokevirtual 251, 3) := by decide +kernel
theorem dX11_change_5 : decode cX11_change 5 = .ok (.ifCond .eq 23, 3) := by decide +kernel
theorem dX11_change_8 : decode cX11_change 8 = .ok (.aload_n 0, 1) := by decide +kernel
theorem dX11_change_9 : decode cX11_change 9 = .ok (.iload_n 2, 1) := by decide +kernel
theorem dX11_change_10 : decode cX11_change 10 = .ok (.invokevirtual 106, 3) := by decide +kernel
theorem dX11_change_13 : decode cX11_change 13 = .ok (.ifCond .eq 15, 3) := by decide +kernel
theorem dX11_change_16 : decode cX11_change 16 = .ok (.iload_n 3, 1) := by decide +kernel
theorem dX11_change_17 : decode cX11_change 17 = .ok (.ldc 110, 2) := by decide +kernel
theorem dX11_change_19 : decode cX11_change 19 = .ok (.if_icmp .lt 9, 3) := by decide +kernel
theorem dX11_change_22 : decode cX11_change 22 = .ok (.iload_n 3, 1) := by decide +kernel
theorem dX11_change_23 : decode cX11_change 23 = .ok (.ldc 111, 2) := by decide +kernel
theorem dX11_change_25 : decode cX11_change 25 = .ok (.if_icmp .le 5, 3) := by decide +kernel
theorem dX11_change_28 : decode cX11_change 28 = .ok (.iconst (-1), 1) := by decide +kernel
theorem dX11_change_29 : decode cX11_change 29 = .ok (.ireturn, 1) := by decide +kernel
theorem dX11_change_30 : decode cX11_change 30 = .ok (.aload_n 0, 1) := by decide +kernel
theorem dX11_change_31 : decode cX11_change 31 = .ok (.iload_n 2, 1) := by decide +kernel
theorem dX11_change_32 : decode cX11_change 32 = .ok (.aload_n 0, 1) := by decide +kernel
theorem dX11_change_33 : decode cX11_change 33 = .ok (.getfield 36, 3) := by decide +kernel
theorem dX11_change_36 : decode cX11_change 36 = .ok (.iload_n 2, 1) := by decide +kernel
theorem dX11_change_37 : decode cX11_change 37 = .ok (.iaload, 1) := by decide +kernel
theorem dX11_change_38 : decode cX11_change 38 = .ok (.iload_n 3, 1) := by decide +kernel
theorem dX11_change_39 : decode cX11_change 39 = .ok (.invokestatic 112, 3) := by decide +kernel
theorem dX11_change_42 : decode cX11_change 42 = .ok (.invokestatic 268, 3) := by decide +kernel
theorem dX11_change_45 : decode cX11_change 45 = .ok (.invokevirtual 295, 3) := by decide +kernel
theorem dX11_change_48 : decode cX11_change 48 = .ok (.iload_n 1, 1) := by decide +kernel
theorem dX11_change_49 : decode cX11_change 49 = .ok (.aload_n 0, 1) := by decide +kernel
theorem dX11_change_50 : decode cX11_change 50 = .ok (.getfield 50, 3) := by decide +kernel
theorem dX11_change_53 : decode cX11_change 53 = .ok (.getfield 172, 3) := by decide +kernel
theorem dX11_change_56 : decode cX11_change 56 = .ok (.getfield 175, 3) := by decide +kernel
theorem dX11_change_59 : decode cX11_change 59 = .ok (.if_icmp .lt 6, 3) := by decide +kernel
theorem dX11_change_62 : decode cX11_change 62 = .ok (.bipush (-2), 2) := by decide +kernel
theorem dX11_change_64 : decode cX11_change 64 = .ok (.ireturn, 1) := by decide +kernel
theorem dX11_change_65 : decode cX11_change 65 = .ok (.aload_n 0, 1) := by decide +kernel
theorem dX11_change_66 : decode cX11_change 66 = .ok (.getfield 50, 3) := by decide +kernel
theorem dX11_change_69 : decode cX11_change 69 = .ok (.getfield 172, 3) := by decide +kernel
theorem dX11_change_72 : decode cX11_change 72 = .ok (.iload_n 1, 1) := by decide +kernel
theorem dX11_change_73 : decode cX11_change 73 = .ok (.invokevirtual 180, 3) := by decide +kernel
theorem dX11_change_76 : decode cX11_change 76 = .ok (.aload_n 0, 1) := by decide +kernel
theorem dX11_change_77 : decode cX11_change 77 = .ok (.getfield 43, 3) := by decide +kernel
theorem dX11_change_80 : decode cX11_change 80 = .ok (.getfield 172, 3) := by decide +kernel
theorem dX11_change_83 : decode cX11_change 83 = .ok (.iload_n 1, 1) := by decide +kernel
theorem dX11_change_84 : decode cX11_change 84 = .ok (.invokevirtual 180, 3) := by decide +kernel
theorem dX11_change_87 : decode cX11_change 87 = .ok (.invokestatic 298, 3) := by decide +kernel
theorem dX11_change_90 : decode cX11_change 90 = .ok (.ireturn, 1) := by decide +kernel
theorem dX11_degree_0 : decode cX11_degree 0 = .ok (.aload_n 0, 1) := by decide +kernel
theorem dX11_degree_1 : decode cX11_degree 1 = .ok (.iload_n 1, 1) := by decide +kernel
theorem dX11_degree_2 : decode cX11_degree 2 = .ok (.invokevirtual 251, 3) := by decide +kernel
theorem dX11_degree_5 : decode cX11_degree 5 = .ok (.ifCond .eq 11, 3) := by decide +kernel
theorem dX11_degree_8 : decode cX11_degree 8 = .ok (.aload_n 0, 1) := by decide +kernel
theorem dX11_degree_9 : decode cX11_degree 9 = .ok (.iload_n 2, 1) := by decide +kernel
theorem dX11_degree_10 : decode cX11_degree 10 = .ok (.invokevirtual 106, 3) := by decide +kernel
theorem dX11_degree_13 : decode cX11_degree 13 = .ok (.ifCond .ne 5, 3) := by decide +kernel
theorem dX11_degree_16 : decode cX11_degree 16 = .ok (.iconst (-1), 1) := by decide +kernel
theorem dX11_degree_17 : decode cX11_degree 17 = .ok (.ireturn, 1) := by decide +kernel
theorem dX11_degree_18 : decode cX11_degree 18 = .ok (.iconst 0, 1) := by decide +kernel
theorem dX11_degree_19 : decode cX11_degree 19 = .ok (.istore_n 3, 1) := by decide +kernel
theorem dX11_degree_20 : decode cX11_degree 20 = .ok (.iload_n 3, 1) := by decide +kernel
theorem dX11_degree_21 : decode cX11_degree 21 = .ok (.bipush 11, 2) := by decide +kernel
theorem dX11_degree_23 : decode cX11_degree 23 = .ok (.if_icmp .ge 58, 3) := by decide +kernel
theorem dX11_degree_26 : decode cX11_degree 26 = .ok (.aload_n 0, 1) := by decide +kernel
theorem dX11_degree_27 : decode cX11_degree 27 = .ok (.iload_n 2, 1) := by decide +kernel
theorem dX11_degree_28 : decode cX11_degree 28 = .ok (.aload_n 0, 1) := by decide +kernel
theorem dX11_degree_29 : decode cX11_degree 29 = .ok (.getfield 36, 3) := by decide +kernel
theorem dX11_degree_32 : decode cX11_degree 32 = .ok (.iload_n 2, 1) := by decide +kernel
theorem dX11_degree_33 : decode cX11_degree 33 = .ok (.iaload, 1) := by decide +kernel
theorem dX11_degree_34 : decode cX11_degree 34 = .ok (.iload_n 3, 1) := by decide +kernel
theorem dX11_degree_35 : decode cX11_degree 35 = .ok (.invokestatic 268, 3) := by decide +kernel
theorem dX11_degree_38 : decode cX11_degree 38 = .ok (.invokevirtual 295, 3) := by decide +kernel
theorem dX11_degree_41 : decode cX11_degree 41 = .ok (.iload_n 1, 1) := by decide +kernel
theorem dX11_degree_42 : decode cX11_degree 42 = .ok (.aload_n 0, 1) := by decide +kernel
theorem dX11_degree_43 : decode cX11_degree 43 = .ok (.getfield 50, 3) := by decide +kernel
theorem dX11_degree_46 : decode cX11_degree 46 = .ok (.getfield 172, 3) := by decide +kernel
theorem dX11_degree_49 : decode cX11_degree 49 = .ok (.getfield 175, 3) := by decide +kernel
theorem dX11_degree_52 : decode cX11_degree 52 = .ok (.if_icmp .lt 6, 3) := by decide +kernel
theorem dX11_degree_55 : decode cX11_degree 55 = .ok (.bipush (-2), 2) := by decide +kernel
theorem dX11_degree_57 : decode cX11_degree 57 = .ok (.ireturn, 1) := by decide +kernel
theorem dX11_degree_58 : decode cX11_degree 58 = .ok (.aload_n 0, 1) := by decide +kernel
theorem dX11_degree_59 : decode cX11_degree 59 = .ok (.getfield 74, 3) := by decide +kernel
theorem dX11_degree_62 : decode cX11_degree 62 = .ok (.iload_n 3, 1) := by decide +kernel
theorem dX11_degree_63 : decode cX11_degree 63 = .ok (.aload_n 0, 1) := by decide +kernel
theorem dX11_degree_64 : decode cX11_degree 64 = .ok (.getfield 50, 3) := by decide +kernel
theorem dX11_degree_67 : decode cX11_degree 67 = .ok (.getfield 172, 3) := by decide +kernel
theorem dX11_degree_70 : decode cX11_degree 70 = .ok (.iload_n 1, 1) := by decide +kernel
theorem dX11_degree_71 : decode cX11_degree 71 = .ok (.invokevirtual 180, 3) := by decide +kernel
theorem dX11_degree_74 : decode cX11_degree 74 = .ok (.iastore, 1) := by decide +kernel
theorem dX11_degree_75 : decode cX11_degree 75 = .ok (.iinc 3 1, 3) := by decide +kernel
theorem dX11_degree_78 : decode cX11_degree 78 = .ok (.goto (-58), 3) := by decide +kernel
theorem dX11_degree_81 : decode cX11_degree 81 = .ok (.iconst 0, 1) := by decide +kernel
theorem dX11_degree_82 : decode cX11_degree 82 = .ok (.istore_n 3, 1) := by decide +kernel
theorem dX11_degree_83 : decode cX11_degree 83 = .ok (.iload_n 3, 1) := by decide +kernel
theorem dX11_degree_84 : decode cX11_degree 84 = .ok (.bipush 8, 2) := by decide +kernel
theorem dX11_degree_86 : decode cX11_degree 86 = .ok (.if_icmp .gt 22, 3) := by decide +kernel
theorem dX11_degree_89 : decode cX11_degree 89 = .ok (.aload_n 0, 1) := by decide +kernel
theorem dX11_degree_90 : decode cX11_degree 90 = .ok (.bipush 10, 2) := by decide +kernel
theorem dX11_degree_92 : decode cX11_degree 92 = .ok (.iload_n 3, 1) := by decide +kernel
theorem dX11_degree_93 : decode cX11_degree 93 = .ok (.isub, 1) := by decide +kernel
theorem dX11_degree_94 : decode cX11_degree 94 = .ok (.invokevirtual 307, 3) := by decide +kernel
theorem dX11_degree_97 : decode cX11_degree 97 = .ok (.ifCond .eq 5, 3) := by decide +kernel
theorem dX11_degree_100 : decode cX11_degree 100 = .ok (.iload_n 3, 1) := by decide +kernel
theorem dX11_degree_101 : decode cX11_degree 101 = .ok (.ireturn, 1) := by decide +kernel
theorem dX11_degree_102 : decode cX11_degree 102 = .ok (.iinc 3 1, 3) := by decide +kernel
theorem dX11_degree_105 : decode cX11_degree 105 = .ok (.goto (-22), 3) := by decide +kernel
theorem dX11_degree_108 : decode cX11_degree 108 = .ok (.bipush (-2), 2) := by decide +kernel
theorem dX11_degree_110 : decode cX11_degree 110 = .ok (.ireturn, 1) := by decide +kernel
theorem dX11_takeDifferences_0 : decode cX11_takeDifferences 0 = .ok (.iconst 1, 1) := by decide +kernel
theorem dX11_takeDifferences_1 : decode cX11_takeDifferences 1 = .ok (.istore_n 2, 1) := by decide +kernel
theorem dX11_takeDifferences_2 : decode cX11_takeDifferences 2 = .ok (.iconst 0, 1) := by decide +kernel
theorem dX11_takeDifferences_3 : decode cX11_takeDifferences 3 = .ok (.istore_n 3, 1) := by decide +kernel
theorem dX11_takeDifferences_4 : decode cX11_takeDifferences 4 = .ok (.iload_n 3, 1) := by decide +kernel
theorem dX11_takeDifferences_5 : decode cX11_takeDifferences 5 = .ok (.iload_n 1, 1) := by decide +kernel
theorem dX11_takeDifferences_6 : decode cX11_takeDifferences 6 = .ok (.if_icmp .ge 59, 3) := by decide +kernel
theorem dX11_takeDifferences_9 : decode cX11_takeDifferences 9 = .ok (.iload_n 3, 1) := by decide +kernel
theorem dX11_takeDifferences_10 : decode cX11_takeDifferences 10 = .ok (.iconst 1, 1) := by decide +kernel
theorem dX11_takeDifferences_11 : decode cX11_takeDifferences 11 = .ok (.iadd, 1) := by decide +kernel
theorem dX11_takeDifferences_12 : decode cX11_takeDifferences 12 = .ok (.bipush 11, 2) := by decide +kernel
theorem dX11_takeDifferences_14 : decode cX11_takeDifferences 14 = .ok (.if_icmp .ge 51, 3) := by decide +kernel
theorem dX11_takeDifferences_17 : decode cX11_takeDifferences 17 = .ok (.aload_n 0, 1) := by decide +kernel
theorem dX11_takeDifferences_18 : decode cX11_takeDifferences 18 = .ok (.getfield 74, 3) := by decide +kernel
theorem dX11_takeDifferences_21 : decode cX11_takeDifferences 21 = .ok (.iload_n 3, 1) := by decide +kernel
theorem dX11_takeDifferences_22 : decode cX11_takeDifferences 22 = .ok (.aload_n 0, 1) := by decide +kernel
theorem dX11_takeDifferences_23 : decode cX11_takeDifferences 23 = .ok (.getfield 74, 3) := by decide +kernel
theorem dX11_takeDifferences_26 : decode cX11_takeDifferences 26 = .ok (.iload_n 3, 1) := by decide +kernel
theorem dX11_takeDifferences_27 : decode cX11_takeDifferences 27 = .ok (.iconst 1, 1) := by decide +kernel
theorem dX11_takeDifferences_28 : decode cX11_takeDifferences 28 = .ok (.iadd, 1) := by decide +kernel
theorem dX11_takeDifferences_29 : decode cX11_takeDifferences 29 = .ok (.iaload, 1) := by decide +kernel
theorem dX11_takeDifferences_30 : decode cX11_takeDifferences 30 = .ok (.aload_n 0, 1) := by decide +kernel
theorem dX11_takeDifferences_31 : decode cX11_takeDifferences 31 = .ok (.getfield 74, 3) := by decide +kernel
theorem dX11_takeDifferences_34 : decode cX11_takeDifferences 34 = .ok (.iload_n 3, 1) := by decide +kernel
theorem dX11_takeDifferences_35 : decode cX11_takeDifferences 35 = .ok (.iaload, 1) := by decide +kernel
theorem dX11_takeDifferences_36 : decode cX11_takeDifferences 36 = .ok (.invokestatic 298, 3) := by decide +kernel
theorem dX11_takeDifferences_39 : decode cX11_takeDifferences 39 = .ok (.iastore, 1) := by decide +kernel
theorem dX11_takeDifferences_40 : decode cX11_takeDifferences 40 = .ok (.iload_n 2, 1) := by decide +kernel
theorem dX11_takeDifferences_41 : decode cX11_takeDifferences 41 = .ok (.ifCond .eq 16, 3) := by decide +kernel
theorem dX11_takeDifferences_44 : decode cX11_takeDifferences 44 = .ok (.aload_n 0, 1) := by decide +kernel
theorem dX11_takeDifferences_45 : decode cX11_takeDifferences 45 = .ok (.getfield 74, 3) := by decide +kernel
theorem dX11_takeDifferences_48 : decode cX11_takeDifferences 48 = .ok (.iload_n 3, 1) := by decide +kernel
theorem dX11_takeDifferences_49 : decode cX11_takeDifferences 49 = .ok (.iaload, 1) := by decide +kernel
theorem dX11_takeDifferences_50 : decode cX11_takeDifferences 50 = .ok (.ifCond .ne 7, 3) := by decide +kernel
theorem dX11_takeDifferences_53 : decode cX11_takeDifferences 53 = .ok (.iconst 1, 1) := by decide +kernel
theorem dX11_takeDifferences_54 : decode cX11_takeDifferences 54 = .ok (.goto 4, 3) := by decide +kernel
theorem dX11_takeDifferences_57 : decode cX11_takeDifferences 57 = .ok (.iconst 0, 1) := by decide +kernel
theorem dX11_takeDifferences_58 : decode cX11_takeDifferences 58 = .ok (.istore_n 2, 1) := by decide +kernel
theorem dX11_takeDifferences_59 : decode cX11_takeDifferences 59 = .ok (.iinc 3 1, 3) := by decide +kernel
theorem dX11_takeDifferences_62 : decode cX11_takeDifferences 62 = .ok (.goto (-58), 3) := by decide +kernel
theorem dX11_takeDifferences_65 : decode cX11_takeDifferences 65 = .ok (.iload_n 2, 1) := by decide +kernel
theorem dX11_takeDifferences_66 : decode cX11_takeDifferences 66 = .ok (.ireturn, 1) := by decide +kernel
theorem dX11_bends_0 : decode cX11_bends 0 = .ok (.aload_n 0, 1) := by decide +kernel
theorem dX11_bends_1 : decode cX11_bends 1 = .ok (.iload_n 1, 1) := by decide +kernel
theorem dX11_bends_2 : decode cX11_bends 2 = .ok (.invokevirtual 106, 3) := by decide +kernel
theorem dX11_bends_5 : decode cX11_bends 5 = .ok (.ifCond .ne 5, 3) := by decide +kernel
theorem dX11_bends_8 : decode cX11_bends 8 = .ok (.iconst (-1), 1) := by decide +kernel
theorem dX11_bends_9 : decode cX11_bends 9 = .ok (.ireturn, 1) := by decide +kernel
theorem dX11_bends_10 : decode cX11_bends 10 = .ok (.aload_n 0, 1) := by decide +kernel
theorem dX11_bends_11 : decode cX11_bends 11 = .ok (.getfield 29, 3) := by decide +kernel
theorem dX11_bends_14 : decode cX11_bends 14 = .ok (.invokevirtual 310, 3) := by decide +kernel
theorem dX11_bends_17 : decode cX11_bends 17 = .ok (.ifCond .ne 6, 3) := by decide +kernel
theorem dX11_bends_20 : decode cX11_bends 20 = .ok (.bipush (-2), 2) := by decide +kernel
theorem dX11_bends_22 : decode cX11_bends 22 = .ok (.ireturn, 1) := by decide +kernel
theorem dX11_bends_23 : decode cX11_bends 23 = .ok (.iconst 1, 1) := by decide +kernel
theorem dX11_bends_24 : decode cX11_bends 24 = .ok (.istore_n 2, 1) := by decide +kernel
theorem dX11_bends_25 : decode cX11_bends 25 = .ok (.iload_n 2, 1) := by decide +kernel
theorem dX11_bends_26 : decode cX11_bends 26 = .ok (.bipush 100, 2) := by decide +kernel
theorem dX11_bends_28 : decode cX11_bends 28 = .ok (.if_icmp .gt 46, 3) := by decide +kernel
theorem dX11_bends_31 : decode cX11_bends 31 = .ok (.aload_n 0, 1) := by decide +kernel
theorem dX11_bends_32 : decode cX11_bends 32 = .ok (.iload_n 1, 1) := by decide +kernel
theorem dX11_bends_33 : decode cX11_bends 33 = .ok (.aload_n 0, 1) := by decide +kernel
theorem dX11_bends_34 : decode cX11_bends 34 = .ok (.getfield 36, 3) := by decide +kernel
theorem dX11_bends_37 : decode cX11_bends 37 = .ok (.iload_n 1, 1) := by decide +kernel
theorem dX11_bends_38 : decode cX11_bends 38 = .ok (.iaload, 1) := by decide +kernel
theorem dX11_bends_39 : decode cX11_bends 39 = .ok (.iload_n 2, 1) := by decide +kernel
theorem dX11_bends_40 : decode cX11_bends 40 = .ok (.invokestatic 268, 3) := by decide +kernel
theorem dX11_bends_43 : decode cX11_bends 43 = .ok (.invokevirtual 295, 3) := by decide +kernel
theorem dX11_bends_46 : decode cX11_bends 46 = .ok (.aload_n 0, 1) := by decide +kernel
theorem dX11_bends_47 : decode cX11_bends 47 = .ok (.getfield 43, 3) := by decide +kernel
theorem dX11_bends_50 : decode cX11_bends 50 = .ok (.getfield 202, 3) := by decide +kernel
theorem dX11_bends_53 : decode cX11_bends 53 = .ok (.aload_n 0, 1) := by decide +kernel
theorem dX11_bends_54 : decode cX11_bends 54 = .ok (.getfield 50, 3) := by decide +kernel
theorem dX11_bends_57 : decode cX11_bends 57 = .ok (.getfield 202, 3) := by decide +kernel
theorem dX11_bends_60 : decode cX11_bends 60 = .ok (.invokevirtual 314, 3) := by decide +kernel
theorem dX11_bends_63 : decode cX11_bends 63 = .ok (.ifCond .ne 5, 3) := by decide +kernel
theorem dX11_bends_66 : decode cX11_bends 66 = .ok (.iload_n 2, 1) := by decide +kernel
theorem dX11_bends_67 : decode cX11_bends 67 = .ok (.ireturn, 1) := by decide +kernel
theorem dX11_bends_68 : decode cX11_bends 68 = .ok (.iinc 2 1, 3) := by decide +kernel
theorem dX11_bends_71 : decode cX11_bends 71 = .ok (.goto (-46), 3) := by decide +kernel
theorem dX11_bends_74 : decode cX11_bends 74 = .ok (.bipush (-2), 2) := by decide +kernel
theorem dX11_bends_76 : decode cX11_bends 76 = .ok (.ireturn, 1) := by decide +kernel
theorem dX11_hangs_0 : decode cX11_hangs 0 = .ok (.aload_n 0, 1) := by decide +kernel
theorem dX11_hangs_1 : decode cX11_hangs 1 = .ok (.iload_n 1, 1) := by decide +kernel
theorem dX11_hangs_2 : decode cX11_hangs 2 = .ok (.invokevirtual 251, 3) := by decide +kernel
theorem dX11_hangs_5 : decode cX11_hangs 5 = .ok (.ifCond .eq 25, 3) := by decide +kernel
theorem dX11_hangs_8 : decode cX11_hangs 8 = .ok (.iload_n 3, 1) := by decide +kernel
theorem dX11_hangs_9 : decode cX11_hangs 9 = .ok (.ifCond .lt 21, 3) := by decide +kernel
theorem dX11_hangs_12 : decode cX11_hangs 12 = .ok (.iload_n 3, 1) := by decide +kernel
theorem dX11_hangs_13 : decode cX11_hangs 13 = .ok (.iconst 1, 1) := by decide +kernel
theorem dX11_hangs_14 : decode cX11_hangs 14 = .ok (.if_icmp .gt 16, 3) := by decide +kernel
theorem dX11_hangs_17 : decode cX11_hangs 17 = .ok (.iload_n 3, 1) := by decide +kernel
theorem dX11_hangs_18 : decode cX11_hangs 18 = .ok (.iconst 1, 1) := by decide +kernel
theorem dX11_hangs_19 : decode cX11_hangs 19 = .ok (.if_icmp .ne 13, 3) := by decide +kernel
theorem dX11_hangs_22 : decode cX11_hangs 22 = .ok (.aload_n 0, 1) := by decide +kernel
theorem dX11_hangs_23 : decode cX11_hangs 23 = .ok (.iload_n 2, 1) := by decide +kernel
theorem dX11_hangs_24 : decode cX11_hangs 24 = .ok (.invokevirtual 106, 3) := by decide +kernel
theorem dX11_hangs_27 : decode cX11_hangs 27 = .ok (.ifCond .ne 5, 3) := by decide +kernel
theorem dX11_hangs_30 : decode cX11_hangs 30 = .ok (.iconst (-1), 1) := by decide +kernel
theorem dX11_hangs_31 : decode cX11_hangs 31 = .ok (.ireturn, 1) := by decide +kernel
theorem dX11_hangs_32 : decode cX11_hangs 32 = .ok (.aload_n 0, 1) := by decide +kernel
theorem dX11_hangs_33 : decode cX11_hangs 33 = .ok (.getfield 43, 3) := by decide +kernel
theorem dX11_hangs_36 : decode cX11_hangs 36 = .ok (.getfield 195, 3) := by decide +kernel
theorem dX11_hangs_39 : decode cX11_hangs 39 = .ok (.aload_n 0, 1) := by decide +kernel
theorem dX11_hangs_40 : decode cX11_hangs 40 = .ok (.getfield 43, 3) := by decide +kernel
theorem dX11_hangs_43 : decode cX11_hangs 43 = .ok (.getfield 172, 3) := by decide +kernel
theorem dX11_hangs_46 : decode cX11_hangs 46 = .ok (.iload_n 1, 1) := by decide +kernel
theorem dX11_hangs_47 : decode cX11_hangs 47 = .ok (.invokevirtual 183, 3) := by decide +kernel
theorem dX11_hangs_50 : decode cX11_hangs 50 = .ok (.invokevirtual 318, 3) := by decide +kernel
theorem dX11_hangs_53 : decode cX11_hangs 53 = .ok (.iconst 0, 1) := by decide +kernel
theorem dX11_hangs_54 : decode cX11_hangs 54 = .ok (.istore 4, 2) := by decide +kernel
theorem dX11_hangs_56 : decode cX11_hangs 56 = .ok (.iconst 0, 1) := by decide +kernel
theorem dX11_hangs_57 : decode cX11_hangs 57 = .ok (.istore 5, 2) := by decide +kernel
theorem dX11_hangs_59 : decode cX11_hangs 59 = .ok (.iload 5, 2) := by decide +kernel
theorem dX11_hangs_61 : decode cX11_hangs 61 = .ok (.aload_n 0, 1) := by decide +kernel
theorem dX11_hangs_62 : decode cX11_hangs 62 = .ok (.getfield 43, 3) := by decide +kernel
theorem dX11_hangs_65 : decode cX11_hangs 65 = .ok (.getfield 195, 3) := by decide +kernel
theorem dX11_hangs_68 : decode cX11_hangs 68 = .ok (.getfield 199, 3) := by decide +kernel
theorem dX11_hangs_71 : decode cX11_hangs 71 = .ok (.if_icmp .ge 51, 3) := by decide +kernel
theorem dX11_hangs_74 : decode cX11_hangs 74 = .ok (.aload_n 0, 1) := by decide +kernel
theorem dX11_hangs_75 : decode cX11_hangs 75 = .ok (.getfield 43, 3) := by decide +kernel
theorem dX11_hangs_78 : decode cX11_hangs 78 = .ok (.getfield 195, 3) := by decide +kernel
theorem dX11_hangs_81 : decode cX11_hangs 81 = .ok (.iload 5, 2) := by decide +kernel
theorem dX11_hangs_83 : decode cX11_hangs 83 = .ok (.invokevirtual 248, 3) := by decide +kernel
theorem dX11_hangs_86 : decode cX11_hangs 86 = .ok (.ifCond .eq 30, 3) := by decide +kernel
theorem dX11_hangs_89 : decode cX11_hangs 89 = .ok (.iload_n 3, 1) := by decide +kernel
theorem dX11_hangs_90 : decode cX11_hangs 90 = .ok (.ifCond .eq 23, 3) := by decide +kernel
theorem dX11_hangs_93 : decode cX11_hangs 93 = .ok (.aload_n 0, 1) := by decide +kernel
theorem dX11_hangs_94 : decode cX11_hangs 94 = .ok (.getfield 43, 3) := by decide +kernel
theorem dX11_hangs_97 : decode cX11_hangs 97 = .ok (.getfield 195, 3) := by decide +kernel
theorem dX11_hangs_100 : decode cX11_hangs 100 = .ok (.getfield 242, 3) := by decide +kernel
theorem dX11_hangs_103 : decode cX11_hangs 103 = .ok (.iload 5, 2) := by decide +kernel
theorem dX11_hangs_105 : decode cX11_hangs 105 = .ok (.iaload, 1) := by decide +kernel
theorem dX11_hangs_106 : decode cX11_hangs 106 = .ok (.iconst 1, 1) := by decide +kernel
theorem dX11_hangs_107 : decode cX11_hangs 107 = .ok (.iload_n 2, 1) := by decide +kernel
theorem dX11_hangs_108 : decode cX11_hangs 108 = .ok (.ishl, 1) := by decide +kernel
theorem dX11_hangs_109 : decode cX11_hangs 109 = .ok (.iand, 1) := by decide +kernel
theorem dX11_hangs_110 : decode cX11_hangs 110 = .ok (.ifCond .eq 6, 3) := by decide +kernel
theorem dX11_hangs_113 : decode cX11_hangs 113 = .ok (.iinc 4 1, 3) := by decide +kernel
theorem dX11_hangs_116 : decode cX11_hangs 116 = .ok (.iinc 5 1, 3) := by decide +kernel
theorem dX11_hangs_119 : decode cX11_hangs 119 = .ok (.goto (-60), 3) := by decide +kernel
theorem dX11_hangs_122 : decode cX11_hangs 122 = .ok (.iload 4, 2) := by decide +kernel
theorem dX11_hangs_124 : decode cX11_hangs 124 = .ok (.ireturn, 1) := by decide +kernel
theorem dX11_back_0 : decode cX11_back 0 = .ok (.aload_n 0, 1) := by decide +kernel
theorem dX11_back_1 : decode cX11_back 1 = .ok (.iload_n 1, 1) := by decide +kernel
theorem dX11_back_2 : decode cX11_back 2 = .ok (.invokevirtual 251, 3) := by decide +kernel
theorem dX11_back_5 : decode cX11_back 5 = .ok (.ifCond .eq 7, 3) := by decide +kernel
theorem dX11_back_8 : decode cX11_back 8 = .ok (.iload_n 2, 1) := by decide +kernel
theorem dX11_back_9 : decode cX11_back 9 = .ok (.ifCond .ge 5, 3) := by decide +kernel
theorem dX11_back_12 : decode cX11_back 12 = .ok (.iconst (-1), 1) := by decide +kernel
theorem dX11_back_13 : decode cX11_back 13 = .ok (.ireturn, 1) := by decide +kernel
theorem dX11_back_14 : decode cX11_back 14 = .ok (.aload_n 0, 1) := by decide +kernel
theorem dX11_back_15 : decode cX11_back 15 = .ok (.getfield 43, 3) := by decide +kernel
theorem dX11_back_18 : decode cX11_back 18 = .ok (.getfield 195, 3) := by decide +kernel
theorem dX11_back_21 : decode cX11_back 21 = .ok (.aload_n 0, 1) := by decide +kernel
theorem dX11_back_22 : decode cX11_back 22 = .ok (.getfield 43, 3) := by decide +kernel
theorem dX11_back_25 : decode cX11_back 25 = .ok (.getfield 172, 3) := by decide +kernel
theorem dX11_back_28 : decode cX11_back 28 = .ok (.iload_n 1, 1) := by decide +kernel
theorem dX11_back_29 : decode cX11_back 29 = .ok (.invokevirtual 183, 3) := by decide +kernel
theorem dX11_back_32 : decode cX11_back 32 = .ok (.invokevirtual 318, 3) := by decide +kernel
theorem dX11_back_35 : decode cX11_back 35 = .ok (.iconst 0, 1) := by decide +kernel
theorem dX11_back_36 : decode cX11_back 36 = .ok (.istore_n 3, 1) := by decide +kernel
theorem dX11_back_37 : decode cX11_back 37 = .ok (.aload_n 0, 1) := by decide +kernel
theorem dX11_back_38 : decode cX11_back 38 = .ok (.getfield 43, 3) := by decide +kernel
theorem dX11_back_41 : decode cX11_back 41 = .ok (.getfield 195, 3) := by decide +kernel
theorem dX11_back_44 : decode cX11_back 44 = .ok (.getfield 199, 3) := by decide +kernel
theorem dX11_back_47 : decode cX11_back 47 = .ok (.iconst 1, 1) := by decide +kernel
theorem dX11_back_48 : decode cX11_back 48 = .ok (.isub, 1) := by decide +kernel
theorem dX11_back_49 : decode cX11_back 49 = .ok (.istore 4, 2) := by decide +kernel
theorem dX11_back_51 : decode cX11_back 51 = .ok (.iload 4, 2) := by decide +kernel
theorem dX11_back_53 : decode cX11_back 53 = .ok (.ifCond .lt 35, 3) := by decide +kernel
theorem dX11_back_56 : decode cX11_back 56 = .ok (.aload_n 0, 1) := by decide +kernel
theorem dX11_back_57 : decode cX11_back 57 = .ok (.getfield 43, 3) := by decide +kernel
theorem dX11_back_60 : decode cX11_back 60 = .ok (.getfield 195, 3) := by decide +kernel
theorem dX11_back_63 : decode cX11_back 63 = .ok (.iload 4, 2) := by decide +kernel
theorem dX11_back_65 : decode cX11_back 65 = .ok (.invokevirtual 248, 3) := by decide +kernel
theorem dX11_back_68 : decode cX11_back 68 = .ok (.ifCond .eq 14, 3) := by decide +kernel
theorem dX11_back_71 : decode cX11_back 71 = .ok (.iload_n 3, 1) := by decide +kernel
theorem dX11_back_72 : decode cX11_back 72 = .ok (.iload_n 2, 1) := by decide +kernel
theorem dX11_back_73 : decode cX11_back 73 = .ok (.if_icmp .ne 6, 3) := by decide +kernel
theorem dX11_back_76 : decode cX11_back 76 = .ok (.iload 4, 2) := by decide +kernel
theorem dX11_back_78 : decode cX11_back 78 = .ok (.ireturn, 1) := by decide +kernel
theorem dX11_back_79 : decode cX11_back 79 = .ok (.iinc 3 1, 3) := by decide +kernel
theorem dX11_back_82 : decode cX11_back 82 = .ok (.iinc 4 (-1), 3) := by decide +kernel
theorem dX11_back_85 : decode cX11_back 85 = .ok (.goto (-34), 3) := by decide +kernel
theorem dX11_back_88 : decode cX11_back 88 = .ok (.bipush (-2), 2) := by decide +kernel
theorem dX11_back_90 : decode cX11_back 90 = .ok (.ireturn, 1) := by decide +kernel
theorem dX11_cost_0 : decode cX11_cost 0 = .ok (.iload_n 1, 1) := by decide +kernel
theorem dX11_cost_1 : decode cX11_cost 1 = .ok (.ifCond .ne 19, 3) := by decide +kernel
theorem dX11_cost_4 : decode cX11_cost 4 = .ok (.aload_n 0, 1) := by decide +kernel
theorem dX11_cost_5 : decode cX11_cost 5 = .ok (.iload_n 2, 1) := by decide +kernel
theorem dX11_cost_6 : decode cX11_cost 6 = .ok (.invokevirtual 106, 3) := by decide +kernel
theorem dX11_cost_9 : decode cX11_cost 9 = .ok (.ifCond .eq 11, 3) := by decide +kernel
theorem dX11_cost_12 : decode cX11_cost 12 = .ok (.aload_n 0, 1) := by decide +kernel
theorem dX11_cost_13 : decode cX11_cost 13 = .ok (.iconst 1, 1) := by decide +kernel
theorem dX11_cost_14 : decode cX11_cost 14 = .ok (.iload_n 2, 1) := by decide +kernel
theorem dX11_cost_15 : decode cX11_cost 15 = .ok (.ishl, 1) := by decide +kernel
theorem dX11_cost_16 : decode cX11_cost 16 = .ok (.invokevirtual 321, 3) := by decide +kernel
theorem dX11_cost_19 : decode cX11_cost 19 = .ok (.ireturn, 1) := by decide +kernel
theorem dX11_cost_20 : decode cX11_cost 20 = .ok (.iload_n 1, 1) := by decide +kernel
theorem dX11_cost_21 : decode cX11_cost 21 = .ok (.iconst 1, 1) := by decide +kernel
theorem dX11_cost_22 : decode cX11_cost 22 = .ok (.if_icmp .ne 17, 3) := by decide +kernel
theorem dX11_cost_25 : decode cX11_cost 25 = .ok (.aload_n 0, 1) := by decide +kernel
theorem dX11_cost_26 : decode cX11_cost 26 = .ok (.iload_n 2, 1) := by decide +kernel
theorem dX11_cost_27 : decode cX11_cost 27 = .ok (.invokevirtual 251, 3) := by decide +kernel
theorem dX11_cost_30 : decode cX11_cost 30 = .ok (.ifCond .eq 9, 3) := by decide +kernel
theorem dX11_cost_33 : decode cX11_cost 33 = .ok (.aload_n 0, 1) := by decide +kernel
theorem dX11_cost_34 : decode cX11_cost 34 = .ok (.iload_n 2, 1) := by decide +kernel
theorem dX11_cost_35 : decode cX11_cost 35 = .ok (.invokevirtual 324, 3) := by decide +kernel
theorem dX11_cost_38 : decode cX11_cost 38 = .ok (.ireturn, 1) := by decide +kernel
theorem dX11_cost_39 : decode cX11_cost 39 = .ok (.iconst (-1), 1) := by decide +kernel
theorem dX11_cost_40 : decode cX11_cost 40 = .ok (.ireturn, 1) := by decide +kernel
theorem dX11_costForward_0 : decode cX11_costForward 0 = .ok (.iconst 0, 1) := by decide +kernel
theorem dX11_costForward_1 : decode cX11_costForward 1 = .ok (.istore_n 2, 1) := by decide +kernel
theorem dX11_costForward_2 : decode cX11_costForward 2 = .ok (.iconst 0, 1) := by decide +kernel
theorem dX11_costForward_3 : decode cX11_costForward 3 = .ok (.istore_n 3, 1) := by decide +kernel
theorem dX11_costForward_4 : decode cX11_costForward 4 = .ok (.iload_n 3, 1) := by decide +kernel
theorem dX11_costForward_5 : decode cX11_costForward 5 = .ok (.aload_n 0, 1) := by decide +kernel
theorem dX11_costForward_6 : decode cX11_costForward 6 = .ok (.getfield 43, 3) := by decide +kernel
theorem dX11_costForward_9 : decode cX11_costForward 9 = .ok (.getfield 195, 3) := by decide +kernel
theorem dX11_costForward_12 : decode cX11_costForward 12 = .ok (.getfield 199, 3) := by decide +kernel
theorem dX11_costForward_15 : decode cX11_costForward 15 = .ok (.if_icmp .ge 24, 3) := by decide +kernel
theorem dX11_costForward_18 : decode cX11_costForward 18 = .ok (.iload_n 2, 1) := by decide +kernel
theorem dX11_costForward_19 : decode cX11_costForward 19 = .ok (.aload_n 0, 1) := by decide +kernel
theorem dX11_costForward_20 : decode cX11_costForward 20 = .ok (.getfield 43, 3) := by decide +kernel
theorem dX11_costForward_23 : decode cX11_costForward 23 = .ok (.getfield 195, 3) := by decide +kernel
theorem dX11_costForward_26 : decode cX11_costForward 26 = .ok (.iload_n 3, 1) := by decide +kernel
theorem dX11_costForward_27 : decode cX11_costForward 27 = .ok (.iload_n 1, 1) := by decide +kernel
theorem dX11_costForward_28 : decode cX11_costForward 28 = .ok (.invokevirtual 327, 3) := by decide +kernel
theorem dX11_costForward_31 : decode cX11_costForward 31 = .ok (.iadd, 1) := by decide +kernel
theorem dX11_costForward_32 : decode cX11_costForward 32 = .ok (.istore_n 2, 1) := by decide +kernel
theorem dX11_costForward_33 : decode cX11_costForward 33 = .ok (.iinc 3 1, 3) := by decide +kernel
theorem dX11_costForward_36 : decode cX11_costForward 36 = .ok (.goto (-32), 3) := by decide +kernel
theorem dX11_costForward_39 : decode cX11_costForward 39 = .ok (.iload_n 2, 1) := by decide +kernel
theorem dX11_costForward_40 : decode cX11_costForward 40 = .ok (.ireturn, 1) := by decide +kernel
theorem dX11_costBackward_0 : decode cX11_costBackward 0 = .ok (.bipush 15, 2) := by decide +kernel
theorem dX11_costBackward_2 : decode cX11_costBackward 2 = .ok (.istore_n 2, 1) := by decide +kernel
theorem dX11_costBackward_3 : decode cX11_costBackward 3 = .ok (.aload_n 0, 1) := by decide +kernel
theorem dX11_costBackward_4 : decode cX11_costBackward 4 = .ok (.getfield 43, 3) := by decide +kernel
theorem dX11_costBackward_7 : decode cX11_costBackward 7 = .ok (.getfield 195, 3) := by decide +kernel
theorem dX11_costBackward_10 : decode cX11_costBackward 10 = .ok (.aload_n 0, 1) := by decide +kernel
theorem dX11_costBackward_11 : decode cX11_costBackward 11 = .ok (.getfield 43, 3) := by decide +kernel
theorem dX11_costBackward_14 : decode cX11_costBackward 14 = .ok (.getfield 172, 3) := by decide +kernel
theorem dX11_costBackward_17 : decode cX11_costBackward 17 = .ok (.iload_n 1, 1) := by decide +kernel
theorem dX11_costBackward_18 : decode cX11_costBackward 18 = .ok (.invokevirtual 183, 3) := by decide +kernel
theorem dX11_costBackward_21 : decode cX11_costBackward 21 = .ok (.invokevirtual 318, 3) := by decide +kernel
theorem dX11_costBackward_24 : decode cX11_costBackward 24 = .ok (.iconst 0, 1) := by decide +kernel
theorem dX11_costBackward_25 : decode cX11_costBackward 25 = .ok (.istore_n 3, 1) := by decide +kernel
theorem dX11_costBackward_26 : decode cX11_costBackward 26 = .ok (.iconst 0, 1) := by decide +kernel
theorem dX11_costBackward_27 : decode cX11_costBackward 27 = .ok (.istore 4, 2) := by decide +kernel
theorem dX11_costBackward_29 : decode cX11_costBackward 29 = .ok (.iload 4, 2) := by decide +kernel
theorem dX11_costBackward_31 : decode cX11_costBackward 31 = .ok (.aload_n 0, 1) := by decide +kernel
theorem dX11_costBackward_32 : decode cX11_costBackward 32 = .ok (.getfield 43, 3) := by decide +kernel
theorem dX11_costBackward_35 : decode cX11_costBackward 35 = .ok (.getfield 195, 3) := by decide +kernel
theorem dX11_costBackward_38 : decode cX11_costBackward 38 = .ok (.getfield 199, 3) := by decide +kernel
theorem dX11_costBackward_41 : decode cX11_costBackward 41 = .ok (.if_icmp .ge 40, 3) := by decide +kernel
theorem dX11_costBackward_44 : decode cX11_costBackward 44 = .ok (.aload_n 0, 1) := by decide +kernel
theorem dX11_costBackward_45 : decode cX11_costBackward 45 = .ok (.getfield 43, 3) := by decide +kernel
theorem dX11_costBackward_48 : decode cX11_costBackward 48 = .ok (.getfield 195, 3) := by decide +kernel
theorem dX11_costBackward_51 : decode cX11_costBackward 51 = .ok (.iload 4, 2) := by decide +kernel
theorem dX11_costBackward_53 : decode cX11_costBackward 53 = .ok (.invokevirtual 248, 3) := by decide +kernel
theorem dX11_costBackward_56 : decode cX11_costBackward 56 = .ok (.ifCond .eq 19, 3) := by decide +kernel
theorem dX11_costBackward_59 : decode cX11_costBackward 59 = .ok (.iload_n 3, 1) := by decide +kernel
theorem dX11_costBackward_60 : decode cX11_costBackward 60 = .ok (.aload_n 0, 1) := by decide +kernel
theorem dX11_costBackward_61 : decode cX11_costBackward 61 = .ok (.getfield 43, 3) := by decide +kernel
theorem dX11_costBackward_64 : decode cX11_costBackward 64 = .ok (.getfield 195, 3) := by decide +kernel
theorem dX11_costBackward_67 : decode cX11_costBackward 67 = .ok (.iload 4, 2) := by decide +kernel
theorem dX11_costBackward_69 : decode cX11_costBackward 69 = .ok (.iload_n 2, 1) := by decide +kernel
theorem dX11_costBackward_70 : decode cX11_costBackward 70 = .ok (.invokevirtual 327, 3) := by decide +kernel
theorem dX11_costBackward_73 : decode cX11_costBackward 73 = .ok (.iadd, 1) := by decide +kernel
theorem dX11_costBackward_74 : decode cX11_costBackward 74 = .ok (.istore_n 3, 1) := by decide +kernel
theorem dX11_costBackward_75 : decode cX11_costBackward 75 = .ok (.iinc 4 1, 3) := by decide +kernel
theorem dX11_costBackward_78 : decode cX11_costBackward 78 = .ok (.goto (-49), 3) := by decide +kernel
theorem dX11_costBackward_81 : decode cX11_costBackward 81 = .ok (.iload_n 3, 1) := by decide +kernel
theorem dX11_costBackward_82 : decode cX11_costBackward 82 = .ok (.ireturn, 1) := by decide +kernel
theorem dX11_few_0 : decode cX11_few 0 = .ok (.iload_n 1, 1) := by decide +kernel
theorem dX11_few_1 : decode cX11_few 1 = .ok (.iconst 1, 1) := by decide +kernel
theorem dX11_few_2 : decode cX11_few 2 = .ok (.if_icmp .lt 20, 3) := by decide +kernel
theorem dX11_few_5 : decode cX11_few 5 = .ok (.iload_n 1, 1) := by decide +kernel
theorem dX11_few_6 : decode cX11_few 6 = .ok (.sipush 400, 3) := by decide +kernel
theorem dX11_few_9 : decode cX11_few 9 = .ok (.if_icmp .gt 13, 3) := by decide +kernel
theorem dX11_few_12 : decode cX11_few 12 = .ok (.iload_n 2, 1) := by decide +kernel
theorem dX11_few_13 : decode cX11_few 13 = .ok (.ifCond .lt 9, 3) := by decide +kernel
theorem dX11_few_16 : decode cX11_few 16 = .ok (.iload_n 2, 1) := by decide +kernel
theorem dX11_few_17 : decode cX11_few 17 = .ok (.bipush 20, 2) := by decide +kernel
theorem dX11_few_19 : decode cX11_few 19 = .ok (.if_icmp .le 5, 3) := by decide +kernel
theorem dX11_few_22 : decode cX11_few 22 = .ok (.iconst (-1), 1) := by decide +kernel
theorem dX11_few_23 : decode cX11_few 23 = .ok (.ireturn, 1) := by decide +kernel
theorem dX11_few_24 : decode cX11_few 24 = .ok (.iload_n 1, 1) := by decide +kernel
theorem dX11_few_25 : decode cX11_few 25 = .ok (.iload_n 2, 1) := by decide +kernel
theorem dX11_few_26 : decode cX11_few 26 = .ok (.invokestatic 330, 3) := by decide +kernel
theorem dX11_few_29 : decode cX11_few 29 = .ok (.ireturn, 1) := by decide +kernel
theorem dX11_split_0 : decode cX11_split 0 = .ok (.iload_n 1, 1) := by decide +kernel
theorem dX11_split_1 : decode cX11_split 1 = .ok (.iconst 2, 1) := by decide +kernel
theorem dX11_split_2 : decode cX11_split 2 = .ok (.if_icmp .lt 21, 3) := by decide +kernel
theorem dX11_split_5 : decode cX11_split 5 = .ok (.iload_n 1, 1) := by decide +kernel
theorem dX11_split_6 : decode cX11_split 6 = .ok (.sipush 400, 3) := by decide +kernel
theorem dX11_split_9 : decode cX11_split 9 = .ok (.if_icmp .gt 14, 3) := by decide +kernel
theorem dX11_split_12 : decode cX11_split 12 = .ok (.iload_n 2, 1) := by decide +kernel
theorem dX11_split_13 : decode cX11_split 13 = .ok (.iconst 1, 1) := by decide +kernel
theorem dX11_split_14 : decode cX11_split 14 = .ok (.if_icmp .lt 9, 3) := by decide +kernel
theorem dX11_split_17 : decode cX11_split 17 = .ok (.iload_n 2, 1) := by decide +kernel
theorem dX11_split_18 : decode cX11_split 18 = .ok (.bipush 20, 2) := by decide +kernel
theorem dX11_split_20 : decode cX11_split 20 = .ok (.if_icmp .le 5, 3) := by decide +kernel
theorem dX11_split_23 : decode cX11_split 23 = .ok (.iconst (-1), 1) := by decide +kernel
theorem dX11_split_24 : decode cX11_split 24 = .ok (.ireturn, 1) := by decide +kernel
theorem dX11_split_25 : decode cX11_split 25 = .ok (.iload_n 1, 1) := by decide +kernel
theorem dX11_split_26 : decode cX11_split 26 = .ok (.iload_n 2, 1) := by decide +kernel
theorem dX11_split_27 : decode cX11_split 27 = .ok (.invokestatic 333, 3) := by decide +kernel
theorem dX11_split_30 : decode cX11_split 30 = .ok (.ireturn, 1) := by decide +kernel
theorem dX11_states_0 : decode cX11_states 0 = .ok (.iload_n 1, 1) := by decide +kernel
theorem dX11_states_1 : decode cX11_states 1 = .ok (.iconst 1, 1) := by decide +kernel
theorem dX11_states_2 : decode cX11_states 2 = .ok (.if_icmp .lt 14, 3) := by decide +kernel
theorem dX11_states_5 : decode cX11_states 5 = .ok (.iload_n 1, 1) := by decide +kernel
theorem dX11_states_6 : decode cX11_states 6 = .ok (.sipush 400, 3) := by decide +kernel
theorem dX11_states_9 : decode cX11_states 9 = .ok (.if_icmp .gt 7, 3) := by decide +kernel
theorem dX11_states_12 : decode cX11_states 12 = .ok (.iload_n 2, 1) := by decide +kernel
theorem dX11_states_13 : decode cX11_states 13 = .ok (.ifCond .ge 5, 3) := by decide +kernel
theorem dX11_states_16 : decode cX11_states 16 = .ok (.iconst (-1), 1) := by decide +kernel
theorem dX11_states_17 : decode cX11_states 17 = .ok (.ireturn, 1) := by decide +kernel
theorem dX11_states_18 : decode cX11_states 18 = .ok (.iconst 0, 1) := by decide +kernel
theorem dX11_states_19 : decode cX11_states 19 = .ok (.istore_n 3, 1) := by decide +kernel
theorem dX11_states_20 : decode cX11_states 20 = .ok (.iload_n 3, 1) := by decide +kernel
theorem dX11_states_21 : decode cX11_states 21 = .ok (.bipush 20, 2) := by decide +kernel
theorem dX11_states_23 : decode cX11_states 23 = .ok (.if_icmp .gt 20, 3) := by decide +kernel
theorem dX11_states_26 : decode cX11_states 26 = .ok (.iload_n 1, 1) := by decide +kernel
theorem dX11_states_27 : decode cX11_states 27 = .ok (.iload_n 3, 1) := by decide +kernel
theorem dX11_states_28 : decode cX11_states 28 = .ok (.invokestatic 330, 3) := by decide +kernel
theorem dX11_states_31 : decode cX11_states 31 = .ok (.iload_n 2, 1) := by decide +kernel
theorem dX11_states_32 : decode cX11_states 32 = .ok (.if_icmp .gt 5, 3) := by decide +kernel
theorem dX11_states_35 : decode cX11_states 35 = .ok (.iload_n 3, 1) := by decide +kernel
theorem dX11_states_36 : decode cX11_states 36 = .ok (.ireturn, 1) := by decide +kernel
theorem dX11_states_37 : decode cX11_states 37 = .ok (.iinc 3 1, 3) := by decide +kernel
theorem dX11_states_40 : decode cX11_states 40 = .ok (.goto (-20), 3) := by decide +kernel
theorem dX11_states_43 : decode cX11_states 43 = .ok (.bipush (-2), 2) := by decide +kernel
theorem dX11_states_45 : decode cX11_states 45 = .ok (.ireturn, 1) := by decide +kernel
theorem dX11_action_0 : decode cX11_action 0 = .ok (.iload_n 1, 1) := by decide +kernel
theorem dX11_action_1 : decode cX11_action 1 = .ok (.iconst 1, 1) := by decide +kernel
theorem dX11_action_2 : decode cX11_action 2 = .ok (.if_icmp .lt 34, 3) := by decide +kernel
theorem dX11_action_5 : decode cX11_action 5 = .ok (.iload_n 1, 1) := by decide +kernel
theorem dX11_action_6 : decode cX11_action 6 = .ok (.bipush 60, 2) := by decide +kernel
theorem dX11_action_8 : decode cX11_action 8 = .ok (.if_icmp .gt 28, 3) := by decide +kernel
theorem dX11_action_11 : decode cX11_action 11 = .ok (.iload_n 2, 1) := by decide +kernel
theorem dX11_action_12 : decode cX11_action 12 = .ok (.ifCond .lt 24, 3) := by decide +kernel
theorem dX11_action_15 : decode cX11_action 15 = .ok (.iload_n 2, 1) := by decide +kernel
theorem dX11_action_16 : decode cX11_action 16 = .ok (.bipush 20, 2) := by decide +kernel
theorem dX11_action_18 : decode cX11_action 18 = .ok (.if_icmp .gt 18, 3) := by decide +kernel
theorem dX11_action_21 : decode cX11_action 21 = .ok (.iload_n 3, 1) := by decide +kernel
theorem dX11_action_22 : decode cX11_action 22 = .ok (.ifCond .lt 14, 3) := by decide +kernel
theorem dX11_action_25 : decode cX11_action 25 = .ok (.iload 4, 2) := by decide +kernel
theorem dX11_action_27 : decode cX11_action 27 = .ok (.ifCond .lt 9, 3) := by decide +kernel
theorem dX11_action_30 : decode cX11_action 30 = .ok (.iload 4, 2) := by decide +kernel
theorem dX11_action_32 : decode cX11_action 32 = .ok (.iconst 2, 1) := by decide +kernel
theorem dX11_action_33 : decode cX11_action 33 = .ok (.if_icmp .le 5, 3) := by decide +kernel
theorem dX11_action_36 : decode cX11_action 36 = .ok (.iconst (-1), 1) := by decide +kernel
theorem dX11_action_37 : decode cX11_action 37 = .ok (.ireturn, 1) := by decide +kernel
theorem dX11_action_38 : decode cX11_action 38 = .ok (.aload_n 0, 1) := by decide +kernel
theorem dX11_action_39 : decode cX11_action 39 = .ok (.getfield 70, 3) := by decide +kernel
theorem dX11_action_42 : decode cX11_action 42 = .ok (.iload_n 3, 1) := by decide +kernel
theorem dX11_action_43 : decode cX11_action 43 = .ok (.invokevirtual 336, 3) := by decide +kernel
theorem dX11_action_46 : decode cX11_action 46 = .ok (.aload_n 0, 1) := by decide +kernel
theorem dX11_action_47 : decode cX11_action 47 = .ok (.getfield 70, 3) := by decide +kernel
theorem dX11_action_50 : decode cX11_action 50 = .ok (.iconst 0, 1) := by decide +kernel
theorem dX11_action_51 : decode cX11_action 51 = .ok (.iload_n 1, 1) := by decide +kernel
theorem dX11_action_52 : decode cX11_action 52 = .ok (.iload_n 2, 1) := by decide +kernel
theorem dX11_action_53 : decode cX11_action 53 = .ok (.invokevirtual 339, 3) := by decide +kernel
theorem dX11_action_56 : decode cX11_action 56 = .ok (.iload_n 3, 1) := by decide +kernel
theorem dX11_action_57 : decode cX11_action 57 = .ok (.aload_n 0, 1) := by decide +kernel
theorem dX11_action_58 : decode cX11_action 58 = .ok (.getfield 70, 3) := by decide +kernel
theorem dX11_action_61 : decode cX11_action 61 = .ok (.getfield 342, 3) := by decide +kernel
theorem dX11_action_64 : decode cX11_action 64 = .ok (.if_icmp .lt 6, 3) := by decide +kernel
theorem dX11_action_67 : decode cX11_action 67 = .ok (.bipush (-2), 2) := by decide +kernel
theorem dX11_action_69 : decode cX11_action 69 = .ok (.ireturn, 1) := by decide +kernel
theorem dX11_action_70 : decode cX11_action 70 = .ok (.iload 4, 2) := by decide +kernel
theorem dX11_action_72 : decode cX11_action 72 = .ok (.ifCond .ne 13, 3) := by decide +kernel
theorem dX11_action_75 : decode cX11_action 75 = .ok (.aload_n 0, 1) := by decide +kernel
theorem dX11_action_76 : decode cX11_action 76 = .ok (.getfield 70, 3) := by decide +kernel
theorem dX11_action_79 : decode cX11_action 79 = .ok (.getfield 343, 3) := by decide +kernel
theorem dX11_action_82 : decode cX11_action 82 = .ok (.goto 26, 3) := by decide +kernel
theorem dX11_action_85 : decode cX11_action 85 = .ok (.iload 4, 2) := by decide +kernel
theorem dX11_action_87 : decode cX11_action 87 = .ok (.iconst 1, 1) := by decide +kernel
theorem dX11_action_88 : decode cX11_action 88 = .ok (.if_icmp .ne 13, 3) := by decide +kernel
theorem dX11_action_91 : decode cX11_action 91 = .ok (.aload_n 0, 1) := by decide +kernel
theorem dX11_action_92 : decode cX11_action 92 = .ok (.getfield 70, 3) := by decide +kernel
theorem dX11_action_95 : decode cX11_action 95 = .ok (.getfield 345, 3) := by decide +kernel
theorem dX11_action_98 : decode cX11_action 98 = .ok (.goto 10, 3) := by decide +kernel
theorem dX11_action_101 : decode cX11_action 101 = .ok (.aload_n 0, 1) := by decide +kernel
theorem dX11_action_102 : decode cX11_action 102 = .ok (.getfield 70, 3) := by decide +kernel
theorem dX11_action_105 : decode cX11_action 105 = .ok (.getfield 348, 3) := by decide +kernel
theorem dX11_action_108 : decode cX11_action 108 = .ok (.ireturn, 1) := by decide +kernel
theorem dX11_actions_0 : decode cX11_actions 0 = .ok (.iload_n 1, 1) := by decide +kernel
theorem dX11_actions_1 : decode cX11_actions 1 = .ok (.iconst 1, 1) := by decide +kernel
theorem dX11_actions_2 : decode cX11_actions 2 = .ok (.if_icmp .lt 28, 3) := by decide +kernel
theorem dX11_actions_5 : decode cX11_actions 5 = .ok (.iload_n 1, 1) := by decide +kernel
theorem dX11_actions_6 : decode cX11_actions 6 = .ok (.bipush 60, 2) := by decide +kernel
theorem dX11_actions_8 : decode cX11_actions 8 = .ok (.if_icmp .gt 22, 3) := by decide +kernel
theorem dX11_actions_11 : decode cX11_actions 11 = .ok (.iload_n 2, 1) := by decide +kernel
theorem dX11_actions_12 : decode cX11_actions 12 = .ok (.ifCond .lt 18, 3) := by decide +kernel
theorem dX11_actions_15 : decode cX11_actions 15 = .ok (.iload_n 2, 1) := by decide +kernel
theorem dX11_actions_16 : decode cX11_actions 16 = .ok (.bipush 20, 2) := by decide +kernel
theorem dX11_actions_18 : decode cX11_actions 18 = .ok (.if_icmp .gt 12, 3) := by decide +kernel
theorem dX11_actions_21 : decode cX11_actions 21 = .ok (.iload_n 3, 1) := by decide +kernel
theorem dX11_actions_22 : decode cX11_actions 22 = .ok (.ifCond .lt 8, 3) := by decide +kernel
theorem dX11_actions_25 : decode cX11_actions 25 = .ok (.iload_n 3, 1) := by decide +kernel
theorem dX11_actions_26 : decode cX11_actions 26 = .ok (.iconst 2, 1) := by decide +kernel
theorem dX11_actions_27 : decode cX11_actions 27 = .ok (.if_icmp .le 5, 3) := by decide +kernel
theorem dX11_actions_30 : decode cX11_actions 30 = .ok (.iconst (-1), 1) := by decide +kernel
theorem dX11_actions_31 : decode cX11_actions 31 = .ok (.ireturn, 1) := by decide +kernel
theorem dX11_actions_32 : decode cX11_actions 32 = .ok (.aload_n 0, 1) := by decide +kernel
theorem dX11_actions_33 : decode cX11_actions 33 = .ok (.getfield 70, 3) := by decide +kernel
theorem dX11_actions_36 : decode cX11_actions 36 = .ok (.iconst (-1), 1) := by decide +kernel
theorem dX11_actions_37 : decode cX11_actions 37 = .ok (.invokevirtual 336, 3) := by decide +kernel
theorem dX11_actions_40 : decode cX11_actions 40 = .ok (.aload_n 0, 1) := by decide +kernel
theorem dX11_actions_41 : decode cX11_actions 41 = .ok (.getfield 70, 3) := by decide +kernel
theorem dX11_actions_44 : decode cX11_actions 44 = .ok (.iconst 0, 1) := by decide +kernel
theorem dX11_actions_45 : decode cX11_actions 45 = .ok (.iload_n 1, 1) := by decide +kernel
theorem dX11_actions_46 : decode cX11_actions 46 = .ok (.iload_n 2, 1) := by decide +kernel
theorem dX11_actions_47 : decode cX11_actions 47 = .ok (.invokevirtual 339, 3) := by decide +kernel
theorem dX11_actions_50 : decode cX11_actions 50 = .ok (.iload_n 3, 1) := by decide +kernel
theorem dX11_actions_51 : decode cX11_actions 51 = .ok (.ifCond .ne 13, 3) := by decide +kernel
theorem dX11_actions_54 : decode cX11_actions 54 = .ok (.aload_n 0, 1) := by decide +kernel
theorem dX11_actions_55 : decode cX11_actions 55 = .ok (.getfield 70, 3) := by decide +kernel
theorem dX11_actions_58 : decode cX11_actions 58 = .ok (.getfield 342, 3) := by decide +kernel
theorem dX11_actions_61 : decode cX11_actions 61 = .ok (.goto 25, 3) := by decide +kernel
theorem dX11_actions_64 : decode cX11_actions 64 = .ok (.iload_n 3, 1) := by decide +kernel
theorem dX11_actions_65 : decode cX11_actions 65 = .ok (.iconst 1, 1) := by decide +kernel
theorem dX11_actions_66 : decode cX11_actions 66 = .ok (.if_icmp .ne 13, 3) := by decide +kernel
theorem dX11_actions_69 : decode cX11_actions 69 = .ok (.aload_n 0, 1) := by decide +kernel
theorem dX11_actions_70 : decode cX11_actions 70 = .ok (.getfield 70, 3) := by decide +kernel
theorem dX11_actions_73 : decode cX11_actions 73 = .ok (.getfield 351, 3) := by decide +kernel
theorem dX11_actions_76 : decode cX11_actions 76 = .ok (.goto 10, 3) := by decide +kernel
theorem dX11_actions_79 : decode cX11_actions 79 = .ok (.aload_n 0, 1) := by decide +kernel
theorem dX11_actions_80 : decode cX11_actions 80 = .ok (.getfield 70, 3) := by decide +kernel
theorem dX11_actions_83 : decode cX11_actions 83 = .ok (.getfield 354, 3) := by decide +kernel
theorem dX11_actions_86 : decode cX11_actions 86 = .ok (.ireturn, 1) := by decide +kernel
theorem dX11_fraction_0 : decode cX11_fraction 0 = .ok (.iload_n 1, 1) := by decide +kernel
theorem dX11_fraction_1 : decode cX11_fraction 1 = .ok (.ifCond .lt 19, 3) := by decide +kernel
theorem dX11_fraction_4 : decode cX11_fraction 4 = .ok (.iload_n 1, 1) := by decide +kernel
theorem dX11_fraction_5 : decode cX11_fraction 5 = .ok (.ldc_w 357, 3) := by decide +kernel
theorem dX11_fraction_8 : decode cX11_fraction 8 = .ok (.if_icmp .ge 12, 3) := by decide +kernel
theorem dX11_fraction_11 : decode cX11_fraction 11 = .ok (.iload_n 2, 1) := by decide +kernel
theorem dX11_fraction_12 : decode cX11_fraction 12 = .ok (.ifCond .lt 8, 3) := by decide +kernel
theorem dX11_fraction_15 : decode cX11_fraction 15 = .ok (.iload_n 2, 1) := by decide +kernel
theorem dX11_fraction_16 : decode cX11_fraction 16 = .ok (.iconst 1, 1) := by decide +kernel
theorem dX11_fraction_17 : decode cX11_fraction 17 = .ok (.if_icmp .le 7, 3) := by decide +kernel
theorem dX11_fraction_20 : decode cX11_fraction 20 = .ok (.ldc_w 358, 3) := by decide +kernel
theorem dX11_fraction_23 : decode cX11_fraction 23 = .ok (.ireturn, 1) := by decide +kernel
theorem dX11_fraction_24 : decode cX11_fraction 24 = .ok (.iconst 0, 1) := by decide +kernel
theorem dX11_fraction_25 : decode cX11_fraction 25 = .ok (.istore_n 3, 1) := by decide +kernel
theorem dX11_fraction_26 : decode cX11_fraction 26 = .ok (.iconst 1, 1) := by decide +kernel
theorem dX11_fraction_27 : decode cX11_fraction 27 = .ok (.istore 4, 2) := by decide +kernel
theorem dX11_fraction_29 : decode cX11_fraction 29 = .ok (.iload 4, 2) := by decide +kernel
theorem dX11_fraction_31 : decode cX11_fraction 31 = .ok (.sipush 22360, 3) := by decide +kernel
theorem dX11_fraction_34 : decode cX11_fraction 34 = .ok (.if_icmp .gt 49, 3) := by decide +kernel
theorem dX11_fraction_37 : decode cX11_fraction 37 = .ok (.iload_n 3, 1) := by decide +kernel
theorem dX11_fraction_38 : decode cX11_fraction 38 = .ok (.iload_n 1, 1) := by decide +kernel
theorem dX11_fraction_39 : decode cX11_fraction 39 = .ok (.invokestatic 268, 3) := by decide +kernel
theorem dX11_fraction_42 : decode cX11_fraction 42 = .ok (.istore_n 3, 1) := by decide +kernel
theorem dX11_fraction_43 : decode cX11_fraction 43 = .ok (.iload_n 3, 1) := by decide +kernel
theorem dX11_fraction_44 : decode cX11_fraction 44 = .ok (.invokestatic 359, 3) := by decide +kernel
theorem dX11_fraction_47 : decode cX11_fraction 47 = .ok (.istore 5, 2) := by decide +kernel
theorem dX11_fraction_49 : decode cX11_fraction 49 = .ok (.iload 5, 2) := by decide +kernel
theorem dX11_fraction_51 : decode cX11_fraction 51 = .ok (.sipush (-22360), 3) := by decide +kernel
theorem dX11_fraction_54 : decode cX11_fraction 54 = .ok (.if_icmp .lt 23, 3) := by decide +kernel
theorem dX11_fraction_57 : decode cX11_fraction 57 = .ok (.iload 5, 2) := by decide +kernel
theorem dX11_fraction_59 : decode cX11_fraction 59 = .ok (.sipush 22360, 3) := by decide +kernel
theorem dX11_fraction_62 : decode cX11_fraction 62 = .ok (.if_icmp .gt 15, 3) := by decide +kernel
theorem dX11_fraction_65 : decode cX11_fraction 65 = .ok (.iload_n 2, 1) := by decide +kernel
theorem dX11_fraction_66 : decode cX11_fraction 66 = .ok (.ifCond .ne 8, 3) := by decide +kernel
theorem dX11_fraction_69 : decode cX11_fraction 69 = .ok (.iload 5, 2) := by decide +kernel
theorem dX11_fraction_71 : decode cX11_fraction 71 = .ok (.goto 5, 3) := by decide +kernel
theorem dX11_fraction_74 : decode cX11_fraction 74 = .ok (.iload 4, 2) := by decide +kernel
theorem dX11_fraction_76 : decode cX11_fraction 76 = .ok (.ireturn, 1) := by decide +kernel
theorem dX11_fraction_77 : decode cX11_fraction 77 = .ok (.iinc 4 1, 3) := by decide +kernel
theorem dX11_fraction_80 : decode cX11_fraction 80 = .ok (.goto (-51), 3) := by decide +kernel
theorem dX11_fraction_83 : decode cX11_fraction 83 = .ok (.sipush (-30000), 3) := by decide +kernel
theorem dX11_fraction_86 : decode cX11_fraction 86 = .ok (.ireturn, 1) := by decide +kernel
theorem dX11_count_0 : decode cX11_count 0 = .ok (.iload_n 1, 1) := by decide +kernel
theorem dX11_count_1 : decode cX11_count 1 = .ok (.tableswitch 96 0 6 #[43, 51, 59, 67, 75, 83, 91], 43) := by decide +kernel
theorem dX11_count_44 : decode cX11_count 44 = .ok (.aload_n 0, 1) := by decide +kernel
theorem dX11_count_45 : decode cX11_count 45 = .ok (.getfield 29, 3) := by decide +kernel
theorem dX11_count_48 : decode cX11_count 48 = .ok (.getfield 103, 3) := by decide +kernel
theorem dX11_count_51 : decode cX11_count 51 = .ok (.ireturn, 1) := by decide +kernel
theorem dX11_count_52 : decode cX11_count 52 = .ok (.aload_n 0, 1) := by decide +kernel
theorem dX11_count_53 : decode cX11_count 53 = .ok (.getfield 29, 3) := by decide +kernel
theorem dX11_count_56 : decode cX11_count 56 = .ok (.getfield 266, 3) := by decide +kernel
theorem dX11_count_59 : decode cX11_count 59 = .ok (.ireturn, 1) := by decide +kernel
theorem dX11_count_60 : decode cX11_count 60 = .ok (.aload_n 0, 1) := by decide +kernel
theorem dX11_count_61 : decode cX11_count 61 = .ok (.getfield 29, 3) := by decide +kernel
theorem dX11_count_64 : decode cX11_count 64 = .ok (.getfield 362, 3) := by decide +kernel
theorem dX11_count_67 : decode cX11_count 67 = .ok (.ireturn, 1) := by decide +kernel
theorem dX11_count_68 : decode cX11_count 68 = .ok (.aload_n 0, 1) := by decide +kernel
theorem dX11_count_69 : decode cX11_count 69 = .ok (.getfield 29, 3) := by decide +kernel
theorem dX11_count_72 : decode cX11_count 72 = .ok (.getfield 149, 3) := by decide +kernel
theorem dX11_count_75 : decode cX11_count 75 = .ok (.ireturn, 1) := by decide +kernel
theorem dX11_count_76 : decode cX11_count 76 = .ok (.aload_n 0, 1) := by decide +kernel
theorem dX11_count_77 : decode cX11_count 77 = .ok (.getfield 29, 3) := by decide +kernel
theorem dX11_count_80 : decode cX11_count 80 = .ok (.getfield 364, 3) := by decide +kernel
theorem dX11_count_83 : decode cX11_count 83 = .ok (.ireturn, 1) := by decide +kernel
theorem dX11_count_84 : decode cX11_count 84 = .ok (.aload_n 0, 1) := by decide +kernel
theorem dX11_count_85 : decode cX11_count 85 = .ok (.getfield 29, 3) := by decide +kernel
theorem dX11_count_88 : decode cX11_count 88 = .ok (.getfield 125, 3) := by decide +kernel
theorem dX11_count_91 : decode cX11_count 91 = .ok (.ireturn, 1) := by decide +kernel
theorem dX11_count_92 : decode cX11_count 92 = .ok (.aload_n 0, 1) := by decide +kernel
theorem dX11_count_93 : decode cX11_count 93 = .ok (.getfield 77, 3) := by decide +kernel
theorem dX11_count_96 : decode cX11_count 96 = .ok (.ireturn, 1) := by decide +kernel
theorem dX11_count_97 : decode cX11_count 97 = .ok (.iconst (-1), 1) := by decide +kernel
theorem dX11_count_98 : decode cX11_count 98 = .ok (.ireturn, 1) := by decide +kernel
theorem dX11_hasInput_0 : decode cX11_hasInput 0 = .ok (.iload_n 1, 1) := by decide +kernel
theorem dX11_hasInput_1 : decode cX11_hasInput 1 = .ok (.ifCond .lt 23, 3) := by decide +kernel
theorem dX11_hasInput_4 : decode cX11_hasInput 4 = .ok (.iload_n 1, 1) := by decide +kernel
theorem dX11_hasInput_5 : decode cX11_hasInput 5 = .ok (.aload_n 0, 1) := by decide +kernel
theorem dX11_hasInput_6 : decode cX11_hasInput 6 = .ok (.getfield 29, 3) := by decide +kernel
theorem dX11_hasInput_9 : decode cX11_hasInput 9 = .ok (.getfield 266, 3) := by decide +kernel
theorem dX11_hasInput_12 : decode cX11_hasInput 12 = .ok (.if_icmp .ge 12, 3) := by decide +kernel
theorem dX11_hasInput_15 : decode cX11_hasInput 15 = .ok (.iload_n 1, 1) := by decide +kernel
theorem dX11_hasInput_16 : decode cX11_hasInput 16 = .ok (.iconst 4, 1) := by decide +kernel
theorem dX11_hasInput_17 : decode cX11_hasInput 17 = .ok (.if_icmp .ge 7, 3) := by decide +kernel
theorem dX11_hasInput_20 : decode cX11_hasInput 20 = .ok (.iconst 1, 1) := by decide +kernel
theorem dX11_hasInput_21 : decode cX11_hasInput 21 = .ok (.goto 4, 3) := by decide +kernel
theorem dX11_hasInput_24 : decode cX11_hasInput 24 = .ok (.iconst 0, 1) := by decide +kernel
theorem dX11_hasInput_25 : decode cX11_hasInput 25 = .ok (.ireturn, 1) := by decide +kernel
theorem dX11_hasOut_0 : decode cX11_hasOut 0 = .ok (.iload_n 1, 1) := by decide +kernel
theorem dX11_hasOut_1 : decode cX11_hasOut 1 = .ok (.ifCond .lt 21, 3) := by decide +kernel
theorem dX11_hasOut_4 : decode cX11_hasOut 4 = .ok (.iload_n 1, 1) := by decide +kernel
theorem dX11_hasOut_5 : decode cX11_hasOut 5 = .ok (.aload_n 0, 1) := by decide +kernel
theorem dX11_hasOut_6 : decode cX11_hasOut 6 = .ok (.getfield 43, 3) := by decide +kernel
theorem dX11_hasOut_9 : decode cX11_hasOut 9 = .ok (.getfield 172, 3) := by decide +kernel
theorem dX11_hasOut_12 : decode cX11_hasOut 12 = .ok (.getfield 175, 3) := by decide +kernel
theorem dX11_hasOut_15 : decode cX11_hasOut 15 = .ok (.if_icmp .ge 7, 3) := by decide +kernel
theorem dX11_hasOut_18 : decode cX11_hasOut 18 = .ok (.iconst 1, 1) := by decide +kernel
theorem dX11_hasOut_19 : decode cX11_hasOut 19 = .ok (.goto 4, 3) := by decide +kernel
theorem dX11_hasOut_22 : decode cX11_hasOut 22 = .ok (.iconst 0, 1) := by decide +kernel
theorem dX11_hasOut_23 : decode cX11_hasOut 23 = .ok (.ireturn, 1) := by decide +kernel
theorem dX11_hasEntry_0 : decode cX11_hasEntry 0 = .ok (.iload_n 1, 1) := by decide +kernel
theorem dX11_hasEntry_1 : decode cX11_hasEntry 1 = .ok (.ifCond .lt 28, 3) := by decide +kernel
theorem dX11_hasEntry_4 : decode cX11_hasEntry 4 = .ok (.iload_n 1, 1) := by decide +kernel
theorem dX11_hasEntry_5 : decode cX11_hasEntry 5 = .ok (.aload_n 0, 1) := by decide +kernel
theorem dX11_hasEntry_6 : decode cX11_hasEntry 6 = .ok (.getfield 43, 3) := by decide +kernel
theorem dX11_hasEntry_9 : decode cX11_hasEntry 9 = .ok (.getfield 195, 3) := by decide +kernel
theorem dX11_hasEntry_12 : decode cX11_hasEntry 12 = .ok (.getfield 199, 3) := by decide +kernel
theorem dX11_hasEntry_15 : decode cX11_hasEntry 15 = .ok (.if_icmp .ge 14, 3) := by decide +kernel
theorem dX11_hasEntry_18 : decode cX11_hasEntry 18 = .ok (.iload_n 1, 1) := by decide +kernel
theorem dX11_hasEntry_19 : decode cX11_hasEntry 19 = .ok (.sipush 400, 3) := by decide +kernel
theorem dX11_hasEntry_22 : decode cX11_hasEntry 22 = .ok (.if_icmp .ge 7, 3) := by decide +kernel
theorem dX11_hasEntry_25 : decode cX11_hasEntry 25 = .ok (.iconst 1, 1) := by decide +kernel
theorem dX11_hasEntry_26 : decode cX11_hasEntry 26 = .ok (.goto 4, 3) := by decide +kernel
theorem dX11_hasEntry_29 : decode cX11_hasEntry 29 = .ok (.iconst 0, 1) := by decide +kernel
theorem dX11_hasEntry_30 : decode cX11_hasEntry 30 = .ok (.ireturn, 1) := by decide +kernel
