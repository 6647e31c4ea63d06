theorem dX7_thrown_0 : decode cX7_thrown 0 = .ok (.aload_n 0, 1) := by decide +kernel
theorem dX7_thrown_1 : decode cX7_thrown 1 = .ok (.getfield 1, 3) := by decide +kernel
theorem dX7_thrown_4 : decode cX7_thrown 4 = .ok (.ireturn, 1) := by decide +kernel
theorem dX7_refuse_0 : decode cX7_refuse 0 = .ok (.aload_n 0, 1) := by decide +kernel
theorem dX7_refuse_1 : decode cX7_refuse 1 = .ok (.iconst 1, 1) := by decide +kernel
theorem dX7_refuse_2 : decode cX7_refuse 2 = .ok (.putfield 1, 3) := by decide +kernel
theorem dX7_refuse_5 : decode cX7_refuse 5 = .ok (.iconst 0, 1) := by decide +kernel
theorem dX7_refuse_6 : decode cX7_refuse 6 = .ok (.ireturn, 1) := by decide +kernel
theorem dX7_in_0 : decode cX7_in 0 = .ok (.lload_n 0, 1) := by decide +kernel
theorem dX7_in_1 : decode cX7_in 1 = .ok (.lload_n 2, 1) := by decide +kernel
theorem dX7_in_2 : decode cX7_in 2 = .ok (.lcmp, 1) := by decide +kernel
theorem dX7_in_3 : decode cX7_in 3 = .ok (.ifCond .lt 14, 3) := by decide +kernel
theorem dX7_in_6 : decode cX7_in 6 = .ok (.lload_n 0, 1) := by decide +kernel
theorem dX7_in_7 : decode cX7_in 7 = .ok (.lload 4, 2) := by decide +kernel
theorem dX7_in_9 : decode cX7_in 9 = .ok (.lcmp, 1) := by decide +kernel
theorem dX7_in_10 : decode cX7_in 10 = .ok (.ifCond .gt 7, 3) := by decide +kernel
theorem dX7_in_13 : decode cX7_in 13 = .ok (.iconst 1, 1) := by decide +kernel
theorem dX7_in_14 : decode cX7_in 14 = .ok (.goto 4, 3) := by decide +kernel
theorem dX7_in_17 : decode cX7_in 17 = .ok (.iconst 0, 1) := by decide +kernel
theorem dX7_in_18 : decode cX7_in 18 = .ok (.ireturn, 1) := by decide +kernel
theorem dX7_flag_0 : decode cX7_flag 0 = .ok (.iload_n 0, 1) := by decide +kernel
theorem dX7_flag_1 : decode cX7_flag 1 = .ok (.ifCond .eq 7, 3) := by decide +kernel
theorem dX7_flag_4 : decode cX7_flag 4 = .ok (.iconst 1, 1) := by decide +kernel
theorem dX7_flag_5 : decode cX7_flag 5 = .ok (.goto 4, 3) := by decide +kernel
theorem dX7_flag_8 : decode cX7_flag 8 = .ok (.iconst 0, 1) := by decide +kernel
theorem dX7_flag_9 : decode cX7_flag 9 = .ok (.ireturn, 1) := by decide +kernel
theorem dX7_enters_0 : decode cX7_enters 0 = .ok (.aload_n 0, 1) := by decide +kernel
theorem dX7_enters_1 : decode cX7_enters 1 = .ok (.getfield 7, 3) := by decide +kernel
theorem dX7_enters_4 : decode cX7_enters 4 = .ok (.aload_n 0, 1) := by decide +kernel
theorem dX7_enters_5 : decode cX7_enters 5 = .ok (.getfield 11, 3) := by decide +kernel
theorem dX7_enters_8 : decode cX7_enters 8 = .ok (.lload_n 1, 1) := by decide +kernel
theorem dX7_enters_9 : decode cX7_enters 9 = .ok (.lastore, 1) := by decide +kernel
theorem dX7_enters_10 : decode cX7_enters 10 = .ok (.aload_n 0, 1) := by decide +kernel
theorem dX7_enters_11 : decode cX7_enters 11 = .ok (.dup, 1) := by decide +kernel
theorem dX7_enters_12 : decode cX7_enters 12 = .ok (.getfield 11, 3) := by decide +kernel
theorem dX7_enters_15 : decode cX7_enters 15 = .ok (.iconst 1, 1) := by decide +kernel
theorem dX7_enters_16 : decode cX7_enters 16 = .ok (.iadd, 1) := by decide +kernel
theorem dX7_enters_17 : decode cX7_enters 17 = .ok (.putfield 11, 3) := by decide +kernel
theorem dX7_enters_20 : decode cX7_enters 20 = .ok (.return_, 1) := by decide +kernel
theorem dX7_sign_0 : decode cX7_sign 0 = .ok (.aload_n 0, 1) := by decide +kernel
theorem dX7_sign_1 : decode cX7_sign 1 = .ok (.iconst 0, 1) := by decide +kernel
theorem dX7_sign_2 : decode cX7_sign 2 = .ok (.putfield 1, 3) := by decide +kernel
theorem dX7_sign_5 : decode cX7_sign 5 = .ok (.aload_n 0, 1) := by decide +kernel
theorem dX7_sign_6 : decode cX7_sign 6 = .ok (.getfield 14, 3) := by decide +kernel
theorem dX7_sign_9 : decode cX7_sign 9 = .ok (.bipush 76, 2) := by decide +kernel
theorem dX7_sign_11 : decode cX7_sign 11 = .ok (.if_icmp .le 5, 3) := by decide +kernel
theorem dX7_sign_14 : decode cX7_sign 14 = .ok (.iconst (-1), 1) := by decide +kernel
theorem dX7_sign_15 : decode cX7_sign 15 = .ok (.ireturn, 1) := by decide +kernel
theorem dX7_sign_16 : decode cX7_sign 16 = .ok (.iconst 0, 1) := by decide +kernel
theorem dX7_sign_17 : decode cX7_sign 17 = .ok (.istore_n 2, 1) := by decide +kernel
theorem dX7_sign_18 : decode cX7_sign 18 = .ok (.iload_n 2, 1) := by decide +kernel
theorem dX7_sign_19 : decode cX7_sign 19 = .ok (.iconst 4, 1) := by decide +kernel
theorem dX7_sign_20 : decode cX7_sign 20 = .ok (.if_icmp .ge 33, 3) := by decide +kernel
theorem dX7_sign_23 : decode cX7_sign 23 = .ok (.aload_n 0, 1) := by decide +kernel
theorem dX7_sign_24 : decode cX7_sign 24 = .ok (.getfield 17, 3) := by decide +kernel
theorem dX7_sign_27 : decode cX7_sign 27 = .ok (.aload_n 0, 1) := by decide +kernel
theorem dX7_sign_28 : decode cX7_sign 28 = .ok (.getfield 14, 3) := by decide +kernel
theorem dX7_sign_31 : decode cX7_sign 31 = .ok (.iload_n 2, 1) := by decide +kernel
theorem dX7_sign_32 : decode cX7_sign 32 = .ok (.iadd, 1) := by decide +kernel
theorem dX7_sign_33 : decode cX7_sign 33 = .ok (.iload_n 1, 1) := by decide +kernel
theorem dX7_sign_34 : decode cX7_sign 34 = .ok (.bipush 24, 2) := by decide +kernel
theorem dX7_sign_36 : decode cX7_sign 36 = .ok (.bipush 8, 2) := by decide +kernel
theorem dX7_sign_38 : decode cX7_sign 38 = .ok (.iload_n 2, 1) := by decide +kernel
theorem dX7_sign_39 : decode cX7_sign 39 = .ok (.imul, 1) := by decide +kernel
theorem dX7_sign_40 : decode cX7_sign 40 = .ok (.isub, 1) := by decide +kernel
theorem dX7_sign_41 : decode cX7_sign 41 = .ok (.ishr, 1) := by decide +kernel
theorem dX7_sign_42 : decode cX7_sign 42 = .ok (.sipush 255, 3) := by decide +kernel
theorem dX7_sign_45 : decode cX7_sign 45 = .ok (.iand, 1) := by decide +kernel
theorem dX7_sign_46 : decode cX7_sign 46 = .ok (.iastore, 1) := by decide +kernel
theorem dX7_sign_47 : decode cX7_sign 47 = .ok (.iinc 2 1, 3) := by decide +kernel
theorem dX7_sign_50 : decode cX7_sign 50 = .ok (.goto (-32), 3) := by decide +kernel
theorem dX7_sign_53 : decode cX7_sign 53 = .ok (.aload_n 0, 1) := by decide +kernel
theorem dX7_sign_54 : decode cX7_sign 54 = .ok (.dup, 1) := by decide +kernel
theorem dX7_sign_55 : decode cX7_sign 55 = .ok (.getfield 14, 3) := by decide +kernel
theorem dX7_sign_58 : decode cX7_sign 58 = .ok (.iconst 4, 1) := by decide +kernel
theorem dX7_sign_59 : decode cX7_sign 59 = .ok (.iadd, 1) := by decide +kernel
theorem dX7_sign_60 : decode cX7_sign 60 = .ok (.putfield 14, 3) := by decide +kernel
theorem dX7_sign_63 : decode cX7_sign 63 = .ok (.aload_n 0, 1) := by decide +kernel
theorem dX7_sign_64 : decode cX7_sign 64 = .ok (.getfield 14, 3) := by decide +kernel
theorem dX7_sign_67 : decode cX7_sign 67 = .ok (.ireturn, 1) := by decide +kernel
theorem dX7_end_0 : decode cX7_end 0 = .ok (.aload_n 0, 1) := by decide +kernel
theorem dX7_end_1 : decode cX7_end 1 = .ok (.iconst 0, 1) := by decide +kernel
theorem dX7_end_2 : decode cX7_end 2 = .ok (.putfield 1, 3) := by decide +kernel
theorem dX7_end_5 : decode cX7_end 5 = .ok (.iload_n 1, 1) := by decide +kernel
theorem dX7_end_6 : decode cX7_end 6 = .ok (.i2l, 1) := by decide +kernel
theorem dX7_end_7 : decode cX7_end 7 = .ok (.lconst 0, 1) := by decide +kernel
theorem dX7_end_8 : decode cX7_end 8 = .ok (.aload_n 0, 1) := by decide +kernel
theorem dX7_end_9 : decode cX7_end 9 = .ok (.getfield 14, 3) := by decide +kernel
theorem dX7_end_12 : decode cX7_end 12 = .ok (.i2l, 1) := by decide +kernel
theorem dX7_end_13 : decode cX7_end 13 = .ok (.invokestatic 21, 3) := by decide +kernel
theorem dX7_end_16 : decode cX7_end 16 = .ok (.ifCond .ne 5, 3) := by decide +kernel
theorem dX7_end_19 : decode cX7_end 19 = .ok (.iconst 0, 1) := by decide +kernel
theorem dX7_end_20 : decode cX7_end 20 = .ok (.ireturn, 1) := by decide +kernel
theorem dX7_end_21 : decode cX7_end 21 = .ok (.aload_n 0, 1) := by decide +kernel
theorem dX7_end_22 : decode cX7_end 22 = .ok (.iload_n 1, 1) := by decide +kernel
theorem dX7_end_23 : decode cX7_end 23 = .ok (.putfield 14, 3) := by decide +kernel
theorem dX7_end_26 : decode cX7_end 26 = .ok (.iconst 1, 1) := by decide +kernel
theorem dX7_end_27 : decode cX7_end 27 = .ok (.ireturn, 1) := by decide +kernel
theorem dX7_empties_0 : decode cX7_empties 0 = .ok (.aload_n 0, 1) := by decide +kernel
theorem dX7_empties_1 : decode cX7_empties 1 = .ok (.aload_n 0, 1) := by decide +kernel
theorem dX7_empties_2 : decode cX7_empties 2 = .ok (.getfield 14, 3) := by decide +kernel
theorem dX7_empties_5 : decode cX7_empties 5 = .ok (.putfield 25, 3) := by decide +kernel
theorem dX7_empties_8 : decode cX7_empties 8 = .ok (.aload_n 0, 1) := by decide +kernel
theorem dX7_empties_9 : decode cX7_empties 9 = .ok (.iconst 0, 1) := by decide +kernel
theorem dX7_empties_10 : decode cX7_empties 10 = .ok (.putfield 14, 3) := by decide +kernel
theorem dX7_empties_13 : decode cX7_empties 13 = .ok (.aload_n 0, 1) := by decide +kernel
theorem dX7_empties_14 : decode cX7_empties 14 = .ok (.getfield 25, 3) := by decide +kernel
theorem dX7_empties_17 : decode cX7_empties 17 = .ok (.ireturn, 1) := by decide +kernel
theorem dX7_faultOfText_0 : decode cX7_faultOfText 0 = .ok (.iconst 0, 1) := by decide +kernel
theorem dX7_faultOfText_1 : decode cX7_faultOfText 1 = .ok (.istore_n 1, 1) := by decide +kernel
theorem dX7_faultOfText_2 : decode cX7_faultOfText 2 = .ok (.iload_n 1, 1) := by decide +kernel
theorem dX7_faultOfText_3 : decode cX7_faultOfText 3 = .ok (.aload_n 0, 1) := by decide +kernel
theorem dX7_faultOfText_4 : decode cX7_faultOfText 4 = .ok (.getfield 25, 3) := by decide +kernel
theorem dX7_faultOfText_7 : decode cX7_faultOfText 7 = .ok (.if_icmp .ge 30, 3) := by decide +kernel
theorem dX7_faultOfText_10 : decode cX7_faultOfText 10 = .ok (.aload_n 0, 1) := by decide +kernel
theorem dX7_faultOfText_11 : decode cX7_faultOfText 11 = .ok (.getfield 17, 3) := by decide +kernel
theorem dX7_faultOfText_14 : decode cX7_faultOfText 14 = .ok (.iload_n 1, 1) := by decide +kernel
theorem dX7_faultOfText_15 : decode cX7_faultOfText 15 = .ok (.iaload, 1) := by decide +kernel
theorem dX7_faultOfText_16 : decode cX7_faultOfText 16 = .ok (.i2l, 1) := by decide +kernel
theorem dX7_faultOfText_17 : decode cX7_faultOfText 17 = .ok (.lconst 1, 1) := by decide +kernel
theorem dX7_faultOfText_18 : decode cX7_faultOfText 18 = .ok (.ldc2_w 28, 3) := by decide +kernel
theorem dX7_faultOfText_21 : decode cX7_faultOfText 21 = .ok (.invokestatic 21, 3) := by decide +kernel
theorem dX7_faultOfText_24 : decode cX7_faultOfText 24 = .ok (.ifCond .ne 7, 3) := by decide +kernel
theorem dX7_faultOfText_27 : decode cX7_faultOfText 27 = .ok (.iconst (-1), 1) := by decide +kernel
theorem dX7_faultOfText_28 : decode cX7_faultOfText 28 = .ok (.iload_n 1, 1) := by decide +kernel
theorem dX7_faultOfText_29 : decode cX7_faultOfText 29 = .ok (.isub, 1) := by decide +kernel
theorem dX7_faultOfText_30 : decode cX7_faultOfText 30 = .ok (.ireturn, 1) := by decide +kernel
theorem dX7_faultOfText_31 : decode cX7_faultOfText 31 = .ok (.iinc 1 1, 3) := by decide +kernel
theorem dX7_faultOfText_34 : decode cX7_faultOfText 34 = .ok (.goto (-32), 3) := by decide +kernel
theorem dX7_faultOfText_37 : decode cX7_faultOfText 37 = .ok (.iconst 0, 1) := by decide +kernel
theorem dX7_faultOfText_38 : decode cX7_faultOfText 38 = .ok (.ireturn, 1) := by decide +kernel
theorem dX7_storeMany_0 : decode cX7_storeMany 0 = .ok (.iload_n 1, 1) := by decide +kernel
theorem dX7_storeMany_1 : decode cX7_storeMany 1 = .ok (.ifCond .ne 10, 3) := by decide +kernel
theorem dX7_storeMany_4 : decode cX7_storeMany 4 = .ok (.aload_n 0, 1) := by decide +kernel
theorem dX7_storeMany_5 : decode cX7_storeMany 5 = .ok (.getfield 30, 3) := by decide +kernel
theorem dX7_storeMany_8 : decode cX7_storeMany 8 = .ok (.goto 7, 3) := by decide +kernel
theorem dX7_storeMany_11 : decode cX7_storeMany 11 = .ok (.aload_n 0, 1) := by decide +kernel
theorem dX7_storeMany_12 : decode cX7_storeMany 12 = .ok (.getfield 33, 3) := by decide +kernel
theorem dX7_storeMany_15 : decode cX7_storeMany 15 = .ok (.ireturn, 1) := by decide +kernel
theorem dX7_ofStore_0 : decode cX7_ofStore 0 = .ok (.iload_n 1, 1) := by decide +kernel
theorem dX7_ofStore_1 : decode cX7_ofStore 1 = .ok (.ifCond .ne 12, 3) := by decide +kernel
theorem dX7_ofStore_4 : decode cX7_ofStore 4 = .ok (.aload_n 0, 1) := by decide +kernel
theorem dX7_ofStore_5 : decode cX7_ofStore 5 = .ok (.getfield 36, 3) := by decide +kernel
theorem dX7_ofStore_8 : decode cX7_ofStore 8 = .ok (.iload_n 2, 1) := by decide +kernel
theorem dX7_ofStore_9 : decode cX7_ofStore 9 = .ok (.iaload, 1) := by decide +kernel
theorem dX7_ofStore_10 : decode cX7_ofStore 10 = .ok (.goto 9, 3) := by decide +kernel
theorem dX7_ofStore_13 : decode cX7_ofStore 13 = .ok (.aload_n 0, 1) := by decide +kernel
theorem dX7_ofStore_14 : decode cX7_ofStore 14 = .ok (.getfield 39, 3) := by decide +kernel
theorem dX7_ofStore_17 : decode cX7_ofStore 17 = .ok (.iload_n 2, 1) := by decide +kernel
theorem dX7_ofStore_18 : decode cX7_ofStore 18 = .ok (.iaload, 1) := by decide +kernel
theorem dX7_ofStore_19 : decode cX7_ofStore 19 = .ok (.ireturn, 1) := by decide +kernel
theorem dX7_init_0 : decode cX7_init 0 = .ok (.aload_n 0, 1) := by decide +kernel
theorem dX7_init_1 : decode cX7_init 1 = .ok (.invokespecial 42, 3) := by decide +kernel
theorem dX7_init_4 : decode cX7_init 4 = .ok (.aload_n 0, 1) := by decide +kernel
theorem dX7_init_5 : decode cX7_init 5 = .ok (.bipush 24, 2) := by decide +kernel
theorem dX7_init_7 : decode cX7_init 7 = .ok (.newarray .long, 2) := by decide +kernel
theorem dX7_init_9 : decode cX7_init 9 = .ok (.putfield 7, 3) := by decide +kernel
theorem dX7_init_12 : decode cX7_init 12 = .ok (.aload_n 0, 1) := by decide +kernel
theorem dX7_init_13 : decode cX7_init 13 = .ok (.bipush 80, 2) := by decide +kernel
theorem dX7_init_15 : decode cX7_init 15 = .ok (.newarray .int, 2) := by decide +kernel
theorem dX7_init_17 : decode cX7_init 17 = .ok (.putfield 17, 3) := by decide +kernel
theorem dX7_init_20 : decode cX7_init 20 = .ok (.aload_n 0, 1) := by decide +kernel
theorem dX7_init_21 : decode cX7_init 21 = .ok (.sipush 1600, 3) := by decide +kernel
theorem dX7_init_24 : decode cX7_init 24 = .ok (.newarray .int, 2) := by decide +kernel
theorem dX7_init_26 : decode cX7_init 26 = .ok (.putfield 36, 3) := by decide +kernel
theorem dX7_init_29 : decode cX7_init 29 = .ok (.aload_n 0, 1) := by decide +kernel
theorem dX7_init_30 : decode cX7_init 30 = .ok (.sipush 6000, 3) := by decide +kernel
theorem dX7_init_33 : decode cX7_init 33 = .ok (.newarray .int, 2) := by decide +kernel
theorem dX7_init_35 : decode cX7_init 35 = .ok (.putfield 39, 3) := by decide +kernel
theorem dX7_init_38 : decode cX7_init 38 = .ok (.aload_n 0, 1) := by decide +kernel
theorem dX7_init_39 : decode cX7_init 39 = .ok (.sipush 3000, 3) := by decide +kernel
theorem dX7_init_42 : decode cX7_init 42 = .ok (.newarray .int, 2) := by decide +kernel
theorem dX7_init_44 : decode cX7_init 44 = .ok (.putfield 48, 3) := by decide +kernel
theorem dX7_init_47 : decode cX7_init 47 = .ok (.aload_n 0, 1) := by decide +kernel
theorem dX7_init_48 : decode cX7_init 48 = .ok (.bipush 8, 2) := by decide +kernel
theorem dX7_init_50 : decode cX7_init 50 = .ok (.newarray .int, 2) := by decide +kernel
theorem dX7_init_52 : decode cX7_init 52 = .ok (.putfield 51, 3) := by decide +kernel
theorem dX7_init_55 : decode cX7_init 55 = .ok (.aload_n 0, 1) := by decide +kernel
theorem dX7_init_56 : decode cX7_init 56 = .ok (.bipush 8, 2) := by decide +kernel
theorem dX7_init_58 : decode cX7_init 58 = .ok (.newarray .int, 2) := by decide +kernel
theorem dX7_init_60 : decode cX7_init 60 = .ok (.putfield 54, 3) := by decide +kernel
theorem dX7_init_63 : decode cX7_init 63 = .ok (.aload_n 0, 1) := by decide +kernel
theorem dX7_init_64 : decode cX7_init 64 = .ok (.sipush 3000, 3) := by decide +kernel
theorem dX7_init_67 : decode cX7_init 67 = .ok (.newarray .int, 2) := by decide +kernel
theorem dX7_init_69 : decode cX7_init 69 = .ok (.putfield 57, 3) := by decide +kernel
theorem dX7_init_72 : decode cX7_init 72 = .ok (.aload_n 0, 1) := by decide +kernel
theorem dX7_init_73 : decode cX7_init 73 = .ok (.bipush 30, 2) := by decide +kernel
theorem dX7_init_75 : decode cX7_init 75 = .ok (.anewarray 60, 3) := by decide +kernel
theorem dX7_init_78 : decode cX7_init 78 = .ok (.putfield 61, 3) := by decide +kernel
theorem dX7_init_81 : decode cX7_init 81 = .ok (.aload_n 0, 1) := by decide +kernel
theorem dX7_init_82 : decode cX7_init 82 = .ok (.bipush 30, 2) := by decide +kernel
theorem dX7_init_84 : decode cX7_init 84 = .ok (.anewarray 60, 3) := by decide +kernel
theorem dX7_init_87 : decode cX7_init 87 = .ok (.putfield 65, 3) := by decide +kernel
theorem dX7_init_90 : decode cX7_init 90 = .ok (.aload_n 0, 1) := by decide +kernel
theorem dX7_init_91 : decode cX7_init 91 = .ok (.bipush 30, 2) := by decide +kernel
theorem dX7_init_93 : decode cX7_init 93 = .ok (.anewarray 60, 3) := by decide +kernel
theorem dX7_init_96 : decode cX7_init 96 = .ok (.putfield 68, 3) := by decide +kernel
theorem dX7_init_99 : decode cX7_init 99 = .ok (.aload_n 0, 1) := by decide +kernel
theorem dX7_init_100 : decode cX7_init 100 = .ok (.bipush 30, 2) := by decide +kernel
theorem dX7_init_102 : decode cX7_init 102 = .ok (.anewarray 60, 3) := by decide +kernel
theorem dX7_init_105 : decode cX7_init 105 = .ok (.putfield 71, 3) := by decide +kernel
theorem dX7_init_108 : decode cX7_init 108 = .ok (.aload_n 0, 1) := by decide +kernel
theorem dX7_init_109 : decode cX7_init 109 = .ok (.bipush (-5), 2) := by decide +kernel
theorem dX7_init_111 : decode cX7_init 111 = .ok (.putfield 74, 3) := by decide +kernel
theorem dX7_init_114 : decode cX7_init 114 = .ok (.aload_n 0, 1) := by decide +kernel
theorem dX7_init_115 : decode cX7_init 115 = .ok (.iconst 3, 1) := by decide +kernel
theorem dX7_init_116 : decode cX7_init 116 = .ok (.anewarray 60, 3) := by decide +kernel
theorem dX7_init_119 : decode cX7_init 119 = .ok (.putfield 77, 3) := by decide +kernel
theorem dX7_init_122 : decode cX7_init 122 = .ok (.aload_n 0, 1) := by decide +kernel
theorem dX7_init_123 : decode cX7_init 123 = .ok (.iconst 3, 1) := by decide +kernel
theorem dX7_init_124 : decode cX7_init 124 = .ok (.anewarray 60, 3) := by decide +kernel
theorem dX7_init_127 : decode cX7_init 127 = .ok (.putfield 80, 3) := by decide +kernel
theorem dX7_init_130 : decode cX7_init 130 = .ok (.aload_n 0, 1) := by decide +kernel
theorem dX7_init_131 : decode cX7_init 131 = .ok (.bipush 8, 2) := by decide +kernel
theorem dX7_init_133 : decode cX7_init 133 = .ok (.newarray .int, 2) := by decide +kernel
theorem dX7_init_135 : decode cX7_init 135 = .ok (.putfield 83, 3) := by decide +kernel
theorem dX7_init_138 : decode cX7_init 138 = .ok (.aload_n 0, 1) := by decide +kernel
theorem dX7_init_139 : decode cX7_init 139 = .ok (.bipush 80, 2) := by decide +kernel
theorem dX7_init_141 : decode cX7_init 141 = .ok (.newarray .int, 2) := by decide +kernel
theorem dX7_init_143 : decode cX7_init 143 = .ok (.putfield 86, 3) := by decide +kernel
theorem dX7_init_146 : decode cX7_init 146 = .ok (.aload_n 0, 1) := by decide +kernel
theorem dX7_init_147 : decode cX7_init 147 = .ok (.bipush 80, 2) := by decide +kernel
theorem dX7_init_149 : decode cX7_init 149 = .ok (.newarray .int, 2) := by decide +kernel
theorem dX7_init_151 : decode cX7_init 151 = .ok (.putfield 89, 3) := by decide +kernel
theorem dX7_init_154 : decode cX7_init 154 = .ok (.aload_n 0, 1) := by decide +kernel
theorem dX7_init_155 : decode cX7_init 155 = .ok (.bipush 80, 2) := by decide +kernel
theorem dX7_init_157 : decode cX7_init 157 = .ok (.newarray .int, 2) := by decide +kernel
theorem dX7_init_159 : decode cX7_init 159 = .ok (.putfield 92, 3) := by decide +kernel
theorem dX7_init_162 : decode cX7_init 162 = .ok (.aload_n 0, 1) := by decide +kernel
theorem dX7_init_163 : decode cX7_init 163 = .ok (.bipush 80, 2) := by decide +kernel
theorem dX7_init_165 : decode cX7_init 165 = .ok (.newarray .int, 2) := by decide +kernel
theorem dX7_init_167 : decode cX7_init 167 = .ok (.putfield 95, 3) := by decide +kernel
theorem dX7_init_170 : decode cX7_init 170 = .ok (.aload_n 0, 1) := by decide +kernel
theorem dX7_init_171 : decode cX7_init 171 = .ok (.sipush 6000, 3) := by decide +kernel
theorem dX7_init_174 : decode cX7_init 174 = .ok (.newarray .boolean, 2) := by decide +kernel
theorem dX7_init_176 : decode cX7_init 176 = .ok (.putfield 98, 3) := by decide +kernel
theorem dX7_init_179 : decode cX7_init 179 = .ok (.aload_n 0, 1) := by decide +kernel
theorem dX7_init_180 : decode cX7_init 180 = .ok (.sipush 3000, 3) := by decide +kernel
theorem dX7_init_183 : decode cX7_init 183 = .ok (.newarray .int, 2) := by decide +kernel
theorem dX7_init_185 : decode cX7_init 185 = .ok (.putfield 102, 3) := by decide +kernel
theorem dX7_init_188 : decode cX7_init 188 = .ok (.aload_n 0, 1) := by decide +kernel
theorem dX7_init_189 : decode cX7_init 189 = .ok (.invokevirtual 105, 3) := by decide +kernel
theorem dX7_init_192 : decode cX7_init 192 = .ok (.return_, 1) := by decide +kernel
theorem dX7_unsets_0 : decode cX7_unsets 0 = .ok (.iconst 0, 1) := by decide +kernel
theorem dX7_unsets_1 : decode cX7_unsets 1 = .ok (.istore_n 1, 1) := by decide +kernel
theorem dX7_unsets_2 : decode cX7_unsets 2 = .ok (.iload_n 1, 1) := by decide +kernel
theorem dX7_unsets_3 : decode cX7_unsets 3 = .ok (.bipush 8, 2) := by decide +kernel
theorem dX7_unsets_5 : decode cX7_unsets 5 = .ok (.if_icmp .ge 23, 3) := by decide +kernel
theorem dX7_unsets_8 : decode cX7_unsets 8 = .ok (.aload_n 0, 1) := by decide +kernel
theorem dX7_unsets_9 : decode cX7_unsets 9 = .ok (.getfield 51, 3) := by decide +kernel
theorem dX7_unsets_12 : decode cX7_unsets 12 = .ok (.iload_n 1, 1) := by decide +kernel
theorem dX7_unsets_13 : decode cX7_unsets 13 = .ok (.iconst (-1), 1) := by decide +kernel
theorem dX7_unsets_14 : decode cX7_unsets 14 = .ok (.iastore, 1) := by decide +kernel
theorem dX7_unsets_15 : decode cX7_unsets 15 = .ok (.aload_n 0, 1) := by decide +kernel
theorem dX7_unsets_16 : decode cX7_unsets 16 = .ok (.getfield 54, 3) := by decide +kernel
theorem dX7_unsets_19 : decode cX7_unsets 19 = .ok (.iload_n 1, 1) := by decide +kernel
theorem dX7_unsets_20 : decode cX7_unsets 20 = .ok (.iconst 0, 1) := by decide +kernel
theorem dX7_unsets_21 : decode cX7_unsets 21 = .ok (.iastore, 1) := by decide +kernel
theorem dX7_unsets_22 : decode cX7_unsets 22 = .ok (.iinc 1 1, 3) := by decide +kernel
theorem dX7_unsets_25 : decode cX7_unsets 25 = .ok (.goto (-23), 3) := by decide +kernel
theorem dX7_unsets_28 : decode cX7_unsets 28 = .ok (.return_, 1) := by decide +kernel
theorem dX7_storeAt_0 : decode cX7_storeAt 0 = .ok (.aload_n 0, 1) := by decide +kernel
theorem dX7_storeAt_1 : decode cX7_storeAt 1 = .ok (.getfield 48, 3) := by decide +kernel
theorem dX7_storeAt_4 : decode cX7_storeAt 4 = .ok (.iload_n 1, 1) := by decide +kernel
theorem dX7_storeAt_5 : decode cX7_storeAt 5 = .ok (.iaload, 1) := by decide +kernel
theorem dX7_storeAt_6 : decode cX7_storeAt 6 = .ok (.iconst 2, 1) := by decide +kernel
theorem dX7_storeAt_7 : decode cX7_storeAt 7 = .ok (.idiv, 1) := by decide +kernel
theorem dX7_storeAt_8 : decode cX7_storeAt 8 = .ok (.sipush 8192, 3) := by decide +kernel
theorem dX7_storeAt_11 : decode cX7_storeAt 11 = .ok (.idiv, 1) := by decide +kernel
theorem dX7_storeAt_12 : decode cX7_storeAt 12 = .ok (.ireturn, 1) := by decide +kernel
theorem dX7_placeAt_0 : decode cX7_placeAt 0 = .ok (.aload_n 0, 1) := by decide +kernel
theorem dX7_placeAt_1 : decode cX7_placeAt 1 = .ok (.getfield 48, 3) := by decide +kernel
theorem dX7_placeAt_4 : decode cX7_placeAt 4 = .ok (.iload_n 1, 1) := by decide +kernel
theorem dX7_placeAt_5 : decode cX7_placeAt 5 = .ok (.iaload, 1) := by decide +kernel
theorem dX7_placeAt_6 : decode cX7_placeAt 6 = .ok (.iconst 2, 1) := by decide +kernel
theorem dX7_placeAt_7 : decode cX7_placeAt 7 = .ok (.idiv, 1) := by decide +kernel
theorem dX7_placeAt_8 : decode cX7_placeAt 8 = .ok (.sipush 8192, 3) := by decide +kernel
theorem dX7_placeAt_11 : decode cX7_placeAt 11 = .ok (.irem, 1) := by decide +kernel
theorem dX7_placeAt_12 : decode cX7_placeAt 12 = .ok (.ireturn, 1) := by decide +kernel
theorem dX7_signAt_0 : decode cX7_signAt 0 = .ok (.aload_n 0, 1) := by decide +kernel
theorem dX7_signAt_1 : decode cX7_signAt 1 = .ok (.aload_n 0, 1) := by decide +kernel
theorem dX7_signAt_2 : decode cX7_signAt 2 = .ok (.iload_n 1, 1) := by decide +kernel
theorem dX7_signAt_3 : decode cX7_signAt 3 = .ok (.invokevirtual 108, 3) := by decide +kernel
theorem dX7_signAt_6 : decode cX7_signAt 6 = .ok (.aload_n 0, 1) := by decide +kernel
theorem dX7_signAt_7 : decode cX7_signAt 7 = .ok (.iload_n 1, 1) := by decide +kernel
theorem dX7_signAt_8 : decode cX7_signAt 8 = .ok (.invokevirtual 112, 3) := by decide +kernel
theorem dX7_signAt_11 : decode cX7_signAt 11 = .ok (.invokevirtual 115, 3) := by decide +kernel
theorem dX7_signAt_14 : decode cX7_signAt 14 = .ok (.ireturn, 1) := by decide +kernel
theorem dX7_begins_0 : decode cX7_begins 0 = .ok (.aload_n 0, 1) := by decide +kernel
theorem dX7_begins_1 : decode cX7_begins 1 = .ok (.getfield 48, 3) := by decide +kernel
theorem dX7_begins_4 : decode cX7_begins 4 = .ok (.iload_n 1, 1) := by decide +kernel
theorem dX7_begins_5 : decode cX7_begins 5 = .ok (.iaload, 1) := by decide +kernel
theorem dX7_begins_6 : decode cX7_begins 6 = .ok (.iconst 2, 1) := by decide +kernel
theorem dX7_begins_7 : decode cX7_begins 7 = .ok (.irem, 1) := by decide +kernel
theorem dX7_begins_8 : decode cX7_begins 8 = .ok (.iconst 1, 1) := by decide +kernel
theorem dX7_begins_9 : decode cX7_begins 9 = .ok (.if_icmp .ne 7, 3) := by decide +kernel
theorem dX7_begins_12 : decode cX7_begins 12 = .ok (.iconst 1, 1) := by decide +kernel
theorem dX7_begins_13 : decode cX7_begins 13 = .ok (.goto 4, 3) := by decide +kernel
theorem dX7_begins_16 : decode cX7_begins 16 = .ok (.iconst 0, 1) := by decide +kernel
theorem dX7_begins_17 : decode cX7_begins 17 = .ok (.ireturn, 1) := by decide +kernel
theorem dX7_coded_0 : decode cX7_coded 0 = .ok (.iconst 2, 1) := by decide +kernel
theorem dX7_coded_1 : decode cX7_coded 1 = .ok (.sipush 8192, 3) := by decide +kernel
theorem dX7_coded_4 : decode cX7_coded 4 = .ok (.iload_n 0, 1) := by decide +kernel
theorem dX7_coded_5 : decode cX7_coded 5 = .ok (.imul, 1) := by decide +kernel
theorem dX7_coded_6 : decode cX7_coded 6 = .ok (.iload_n 1, 1) := by decide +kernel
theorem dX7_coded_7 : decode cX7_coded 7 = .ok (.iadd, 1) := by decide +kernel
theorem dX7_coded_8 : decode cX7_coded 8 = .ok (.imul, 1) := by decide +kernel
theorem dX7_coded_9 : decode cX7_coded 9 = .ok (.iload_n 2, 1) := by decide +kernel
theorem dX7_coded_10 : decode cX7_coded 10 = .ok (.invokestatic 119, 3) := by decide +kernel
theorem dX7_coded_13 : decode cX7_coded 13 = .ok (.iadd, 1) := by decide +kernel
theorem dX7_coded_14 : decode cX7_coded 14 = .ok (.ireturn, 1) := by decide +kernel
theorem dX7_partsAt_0 : decode cX7_partsAt 0 = .ok (.iload_n 1, 1) := by decide +kernel
theorem dX7_partsAt_1 : decode cX7_partsAt 1 = .ok (.aload_n 0, 1) := by decide +kernel
theorem dX7_partsAt_2 : decode cX7_partsAt 2 = .ok (.getfield 123, 3) := by decide +kernel
theorem dX7_partsAt_5 : decode cX7_partsAt 5 = .ok (.if_icmp .ge 23, 3) := by decide +kernel
theorem dX7_partsAt_8 : decode cX7_partsAt 8 = .ok (.aload_n 0, 1) := by decide +kernel
theorem dX7_partsAt_9 : decode cX7_partsAt 9 = .ok (.getfield 48, 3) := by decide +kernel
theorem dX7_partsAt_12 : decode cX7_partsAt 12 = .ok (.iload_n 1, 1) := by decide +kernel
theorem dX7_partsAt_13 : decode cX7_partsAt 13 = .ok (.aload_n 0, 1) := by decide +kernel
theorem dX7_partsAt_14 : decode cX7_partsAt 14 = .ok (.iload_n 1, 1) := by decide +kernel
theorem dX7_partsAt_15 : decode cX7_partsAt 15 = .ok (.invokevirtual 108, 3) := by decide +kernel
theorem dX7_partsAt_18 : decode cX7_partsAt 18 = .ok (.aload_n 0, 1) := by decide +kernel
theorem dX7_partsAt_19 : decode cX7_partsAt 19 = .ok (.iload_n 1, 1) := by decide +kernel
theorem dX7_partsAt_20 : decode cX7_partsAt 20 = .ok (.invokevirtual 112, 3) := by decide +kernel
theorem dX7_partsAt_23 : decode cX7_partsAt 23 = .ok (.iconst 1, 1) := by decide +kernel
theorem dX7_partsAt_24 : decode cX7_partsAt 24 = .ok (.invokestatic 126, 3) := by decide +kernel
theorem dX7_partsAt_27 : decode cX7_partsAt 27 = .ok (.iastore, 1) := by decide +kernel
theorem dX7_partsAt_28 : decode cX7_partsAt 28 = .ok (.return_, 1) := by decide +kernel
theorem dX7_isPlace_0 : decode cX7_isPlace 0 = .ok (.iload_n 1, 1) := by decide +kernel
theorem dX7_isPlace_1 : decode cX7_isPlace 1 = .ok (.i2l, 1) := by decide +kernel
theorem dX7_isPlace_2 : decode cX7_isPlace 2 = .ok (.lconst 0, 1) := by decide +kernel
theorem dX7_isPlace_3 : decode cX7_isPlace 3 = .ok (.aload_n 0, 1) := by decide +kernel
theorem dX7_isPlace_4 : decode cX7_isPlace 4 = .ok (.getfield 123, 3) := by decide +kernel
theorem dX7_isPlace_7 : decode cX7_isPlace 7 = .ok (.i2l, 1) := by decide +kernel
theorem dX7_isPlace_8 : decode cX7_isPlace 8 = .ok (.invokestatic 21, 3) := by decide +kernel
theorem dX7_isPlace_11 : decode cX7_isPlace 11 = .ok (.ireturn, 1) := by decide +kernel
theorem dX7_isSign_0 : decode cX7_isSign 0 = .ok (.iload_n 1, 1) := by decide +kernel
theorem dX7_isSign_1 : decode cX7_isSign 1 = .ok (.i2l, 1) := by decide +kernel
theorem dX7_isSign_2 : decode cX7_isSign 2 = .ok (.lconst 0, 1) := by decide +kernel
theorem dX7_isSign_3 : decode cX7_isSign 3 = .ok (.aload_n 0, 1) := by decide +kernel
theorem dX7_isSign_4 : decode cX7_isSign 4 = .ok (.getfield 123, 3) := by decide +kernel
theorem dX7_isSign_7 : decode cX7_isSign 7 = .ok (.iconst 1, 1) := by decide +kernel
theorem dX7_isSign_8 : decode cX7_isSign 8 = .ok (.isub, 1) := by decide +kernel
theorem dX7_isSign_9 : decode cX7_isSign 9 = .ok (.i2l, 1) := by decide +kernel
theorem dX7_isSign_10 : decode cX7_isSign 10 = .ok (.invokestatic 21, 3) := by decide +kernel
theorem dX7_isSign_13 : decode cX7_isSign 13 = .ok (.ireturn, 1) := by decide +kernel
theorem dX7_pieces_0 : decode cX7_pieces 0 = .ok (.iconst 0, 1) := by decide +kernel
theorem dX7_pieces_1 : decode cX7_pieces 1 = .ok (.istore_n 1, 1) := by decide +kernel
theorem dX7_pieces_2 : decode cX7_pieces 2 = .ok (.iconst 0, 1) := by decide +kernel
theorem dX7_pieces_3 : decode cX7_pieces 3 = .ok (.istore_n 2, 1) := by decide +kernel
theorem dX7_pieces_4 : decode cX7_pieces 4 = .ok (.iload_n 2, 1) := by decide +kernel
theorem dX7_pieces_5 : decode cX7_pieces 5 = .ok (.aload_n 0, 1) := by decide +kernel
theorem dX7_pieces_6 : decode cX7_pieces 6 = .ok (.getfield 123, 3) := by decide +kernel
theorem dX7_pieces_9 : decode cX7_pieces 9 = .ok (.if_icmp .ge 20, 3) := by decide +kernel
theorem dX7_pieces_12 : decode cX7_pieces 12 = .ok (.iload_n 1, 1) := by decide +kernel
theorem dX7_pieces_13 : decode cX7_pieces 13 = .ok (.aload_n 0, 1) := by decide +kernel
theorem dX7_pieces_14 : decode cX7_pieces 14 = .ok (.iload_n 2, 1) := by decide +kernel
theorem dX7_pieces_15 : decode cX7_pieces 15 = .ok (.invokevirtual 130, 3) := by decide +kernel
theorem dX7_pieces_18 : decode cX7_pieces 18 = .ok (.invokestatic 119, 3) := by decide +kernel
theorem dX7_pieces_21 : decode cX7_pieces 21 = .ok (.iadd, 1) := by decide +kernel
theorem dX7_pieces_22 : decode cX7_pieces 22 = .ok (.istore_n 1, 1) := by decide +kernel
theorem dX7_pieces_23 : decode cX7_pieces 23 = .ok (.iinc 2 1, 3) := by decide +kernel
theorem dX7_pieces_26 : decode cX7_pieces 26 = .ok (.goto (-22), 3) := by decide +kernel
theorem dX7_pieces_29 : decode cX7_pieces 29 = .ok (.iload_n 1, 1) := by decide +kernel
theorem dX7_pieces_30 : decode cX7_pieces 30 = .ok (.ireturn, 1) := by decide +kernel
theorem dX7_opensGap_0 : decode cX7_opensGap 0 = .ok (.aload_n 0, 1) := by decide +kernel
theorem dX7_opensGap_1 : decode cX7_opensGap 1 = .ok (.getfield 123, 3) := by decide +kernel
theorem dX7_opensGap_4 : decode cX7_opensGap 4 = .ok (.iconst 1, 1) := by decide +kernel
theorem dX7_opensGap_5 : decode cX7_opensGap 5 = .ok (.isub, 1) := by decide +kernel
theorem dX7_opensGap_6 : decode cX7_opensGap 6 = .ok (.istore_n 3, 1) := by decide +kernel
theorem dX7_opensGap_7 : decode cX7_opensGap 7 = .ok (.iload_n 3, 1) := by decide +kernel
theorem dX7_opensGap_8 : decode cX7_opensGap 8 = .ok (.iload_n 1, 1) := by decide +kernel
theorem dX7_opensGap_9 : decode cX7_opensGap 9 = .ok (.if_icmp .lt 23, 3) := by decide +kernel
theorem dX7_opensGap_12 : decode cX7_opensGap 12 = .ok (.aload_n 0, 1) := by decide +kernel
theorem dX7_opensGap_13 : decode cX7_opensGap 13 = .ok (.getfield 48, 3) := by decide +kernel
theorem dX7_opensGap_16 : decode cX7_opensGap 16 = .ok (.iload_n 3, 1) := by decide +kernel
theorem dX7_opensGap_17 : decode cX7_opensGap 17 = .ok (.iload_n 2, 1) := by decide +kernel
theorem dX7_opensGap_18 : decode cX7_opensGap 18 = .ok (.iadd, 1) := by decide +kernel
theorem dX7_opensGap_19 : decode cX7_opensGap 19 = .ok (.aload_n 0, 1) := by decide +kernel
theorem dX7_opensGap_20 : decode cX7_opensGap 20 = .ok (.getfield 48, 3) := by decide +kernel
theorem dX7_opensGap_23 : decode cX7_opensGap 23 = .ok (.iload_n 3, 1) := by decide +kernel
theorem dX7_opensGap_24 : decode cX7_opensGap 24 = .ok (.iaload, 1) := by decide +kernel
theorem dX7_opensGap_25 : decode cX7_opensGap 25 = .ok (.iastore, 1) := by decide +kernel
theorem dX7_opensGap_26 : decode cX7_opensGap 26 = .ok (.iinc 3 (-1), 3) := by decide +kernel
theorem dX7_opensGap_29 : decode cX7_opensGap 29 = .ok (.goto (-22), 3) := by decide +kernel
theorem dX7_opensGap_32 : decode cX7_opensGap 32 = .ok (.aload_n 0, 1) := by decide +kernel
theorem dX7_opensGap_33 : decode cX7_opensGap 33 = .ok (.dup, 1) := by decide +kernel
theorem dX7_opensGap_34 : decode cX7_opensGap 34 = .ok (.getfield 123, 3) := by decide +kernel
theorem dX7_opensGap_37 : decode cX7_opensGap 37 = .ok (.iload_n 2, 1) := by decide +kernel
theorem dX7_opensGap_38 : decode cX7_opensGap 38 = .ok (.iadd, 1) := by decide +kernel
theorem dX7_opensGap_39 : decode cX7_opensGap 39 = .ok (.putfield 123, 3) := by decide +kernel
theorem dX7_opensGap_42 : decode cX7_opensGap 42 = .ok (.return_, 1) := by decide +kernel
theorem dX7_closesGap_0 : decode cX7_closesGap 0 = .ok (.iload_n 1, 1) := by decide +kernel
theorem dX7_closesGap_1 : decode cX7_closesGap 1 = .ok (.iload_n 2, 1) := by decide +kernel
theorem dX7_closesGap_2 : decode cX7_closesGap 2 = .ok (.iadd, 1) := by decide +kernel
theorem dX7_closesGap_3 : decode cX7_closesGap 3 = .ok (.istore_n 3, 1) := by decide +kernel
theorem dX7_closesGap_4 : decode cX7_closesGap 4 = .ok (.iload_n 3, 1) := by decide +kernel
theorem dX7_closesGap_5 : decode cX7_closesGap 5 = .ok (.aload_n 0, 1) := by decide +kernel
theorem dX7_closesGap_6 : decode cX7_closesGap 6 = .ok (.getfield 123, 3) := by decide +kernel
theorem dX7_closesGap_9 : decode cX7_closesGap 9 = .ok (.if_icmp .ge 23, 3) := by decide +kernel
theorem dX7_closesGap_12 : decode cX7_closesGap 12 = .ok (.aload_n 0, 1) := by decide +kernel
theorem dX7_closesGap_13 : decode cX7_closesGap 13 = .ok (.getfield 48, 3) := by decide +kernel
theorem dX7_closesGap_16 : decode cX7_closesGap 16 = .ok (.iload_n 3, 1) := by decide +kernel
theorem dX7_closesGap_17 : decode cX7_closesGap 17 = .ok (.iload_n 2, 1) := by decide +kernel
theorem dX7_closesGap_18 : decode cX7_closesGap 18 = .ok (.isub, 1) := by decide +kernel
theorem dX7_closesGap_19 : decode cX7_closesGap 19 = .ok (.aload_n 0, 1) := by decide +kernel
theorem dX7_closesGap_20 : decode cX7_closesGap 20 = .ok (.getfield 48, 3) := by decide +kernel
theorem dX7_closesGap_23 : decode cX7_closesGap 23 = .ok (.iload_n 3, 1) := by decide +kernel
theorem dX7_closesGap_24 : decode cX7_closesGap 24 = .ok (.iaload, 1) := by decide +kernel
theorem dX7_closesGap_25 : decode cX7_closesGap 25 = .ok (.iastore, 1) := by decide +kernel
theorem dX7_closesGap_26 : decode cX7_closesGap 26 = .ok (.iinc 3 1, 3) := by decide +kernel
theorem dX7_closesGap_29 : decode cX7_closesGap 29 = .ok (.goto (-25), 3) := by decide +kernel
theorem dX7_closesGap_32 : decode cX7_closesGap 32 = .ok (.aload_n 0, 1) := by decide +kernel
theorem dX7_closesGap_33 : decode cX7_closesGap 33 = .ok (.dup, 1) := by decide +kernel
theorem dX7_closesGap_34 : decode cX7_closesGap 34 = .ok (.getfield 123, 3) := by decide +kernel
theorem dX7_closesGap_37 : decode cX7_closesGap 37 = .ok (.iload_n 2, 1) := by decide +kernel
theorem dX7_closesGap_38 : decode cX7_closesGap 38 = .ok (.isub, 1) := by decide +kernel
theorem dX7_closesGap_39 : decode cX7_closesGap 39 = .ok (.putfield 123, 3) := by decide +kernel
theorem dX7_closesGap_42 : decode cX7_closesGap 42 = .ok (.return_, 1) := by decide +kernel
theorem dX7_marksCome_0 : decode cX7_marksCome 0 = .ok (.iconst 0, 1) := by decide +kernel
theorem dX7_marksCome_1 : decode cX7_marksCome 1 = .ok (.istore_n 3, 1) := by decide +kernel
theorem dX7_marksCome_2 : decode cX7_marksCome 2 = .ok (.iload_n 3, 1) := by decide +kernel
theorem dX7_marksCome_3 : decode cX7_marksCome 3 = .ok (.bipush 8, 2) := by decide +kernel
theorem dX7_marksCome_5 : decode cX7_marksCome 5 = .ok (.if_icmp .ge 53, 3) := by decide +kernel
theorem dX7_marksCome_8 : decode cX7_marksCome 8 = .ok (.aload_n 0, 1) := by decide +kernel
theorem dX7_marksCome_9 : decode cX7_marksCome 9 = .ok (.getfield 51, 3) := by decide +kernel
theorem dX7_marksCome_12 : decode cX7_marksCome 12 = .ok (.iload_n 3, 1) := by decide +kernel
theorem dX7_marksCome_13 : decode cX7_marksCome 13 = .ok (.dup2, 1) := by decide +kernel
theorem dX7_marksCome_14 : decode cX7_marksCome 14 = .ok (.iaload, 1) := by decide +kernel
theorem dX7_marksCome_15 : decode cX7_marksCome 15 = .ok (.aload_n 0, 1) := by decide +kernel
theorem dX7_marksCome_16 : decode cX7_marksCome 16 = .ok (.getfield 51, 3) := by decide +kernel
theorem dX7_marksCome_19 : decode cX7_marksCome 19 = .ok (.iload_n 3, 1) := by decide +kernel
theorem dX7_marksCome_20 : decode cX7_marksCome 20 = .ok (.iaload, 1) := by decide +kernel
theorem dX7_marksCome_21 : decode cX7_marksCome 21 = .ok (.iload_n 1, 1) := by decide +kernel
theorem dX7_marksCome_22 : decode cX7_marksCome 22 = .ok (.if_icmp .gt 23, 3) := by decide +kernel
theorem dX7_marksCome_25 : decode cX7_marksCome 25 = .ok (.aload_n 0, 1) := by decide +kernel
theorem dX7_marksCome_26 : decode cX7_marksCome 26 = .ok (.getfield 51, 3) := by decide +kernel
theorem dX7_marksCome_29 : decode cX7_marksCome 29 = .ok (.iload_n 3, 1) := by decide +kernel
theorem dX7_marksCome_30 : decode cX7_marksCome 30 = .ok (.iaload, 1) := by decide +kernel
theorem dX7_marksCome_31 : decode cX7_marksCome 31 = .ok (.iload_n 1, 1) := by decide +kernel
theorem dX7_marksCome_32 : decode cX7_marksCome 32 = .ok (.if_icmp .ne 17, 3) := by decide +kernel
theorem dX7_marksCome_35 : decode cX7_marksCome 35 = .ok (.aload_n 0, 1) := by decide +kernel
theorem dX7_marksCome_36 : decode cX7_marksCome 36 = .ok (.getfield 54, 3) := by decide +kernel
theorem dX7_marksCome_39 : decode cX7_marksCome 39 = .ok (.iload_n 3, 1) := by decide +kernel
theorem dX7_marksCome_40 : decode cX7_marksCome 40 = .ok (.iaload, 1) := by decide +kernel
theorem dX7_marksCome_41 : decode cX7_marksCome 41 = .ok (.iconst 1, 1) := by decide +kernel
theorem dX7_marksCome_42 : decode cX7_marksCome 42 = .ok (.if_icmp .ne 7, 3) := by decide +kernel
theorem dX7_marksCome_45 : decode cX7_marksCome 45 = .ok (.iload_n 2, 1) := by decide +kernel
theorem dX7_marksCome_46 : decode cX7_marksCome 46 = .ok (.goto 4, 3) := by decide +kernel
theorem dX7_marksCome_49 : decode cX7_marksCome 49 = .ok (.iconst 0, 1) := by decide +kernel
theorem dX7_marksCome_50 : decode cX7_marksCome 50 = .ok (.iadd, 1) := by decide +kernel
theorem dX7_marksCome_51 : decode cX7_marksCome 51 = .ok (.iastore, 1) := by decide +kernel
theorem dX7_marksCome_52 : decode cX7_marksCome 52 = .ok (.iinc 3 1, 3) := by decide +kernel
theorem dX7_marksCome_55 : decode cX7_marksCome 55 = .ok (.goto (-53), 3) := by decide +kernel
theorem dX7_marksCome_58 : decode cX7_marksCome 58 = .ok (.return_, 1) := by decide +kernel
theorem dX7_marksGo_0 : decode cX7_marksGo 0 = .ok (.iconst 0, 1) := by decide +kernel
theorem dX7_marksGo_1 : decode cX7_marksGo 1 = .ok (.istore_n 3, 1) := by decide +kernel
theorem dX7_marksGo_2 : decode cX7_marksGo 2 = .ok (.iload_n 3, 1) := by decide +kernel
theorem dX7_marksGo_3 : decode cX7_marksGo 3 = .ok (.bipush 8, 2) := by decide +kernel
theorem dX7_marksGo_5 : decode cX7_marksGo 5 = .ok (.if_icmp .ge 48, 3) := by decide +kernel
theorem dX7_marksGo_8 : decode cX7_marksGo 8 = .ok (.aload_n 0, 1) := by decide +kernel
theorem dX7_marksGo_9 : decode cX7_marksGo 9 = .ok (.getfield 51, 3) := by decide +kernel
theorem dX7_marksGo_12 : decode cX7_marksGo 12 = .ok (.iload_n 3, 1) := by decide +kernel
theorem dX7_marksGo_13 : decode cX7_marksGo 13 = .ok (.aload_n 0, 1) := by decide +kernel
theorem dX7_marksGo_14 : decode cX7_marksGo 14 = .ok (.getfield 51, 3) := by decide +kernel
theorem dX7_marksGo_17 : decode cX7_marksGo 17 = .ok (.iload_n 3, 1) := by decide +kernel
theorem dX7_marksGo_18 : decode cX7_marksGo 18 = .ok (.iaload, 1) := by decide +kernel
theorem dX7_marksGo_19 : decode cX7_marksGo 19 = .ok (.iload_n 1, 1) := by decide +kernel
theorem dX7_marksGo_20 : decode cX7_marksGo 20 = .ok (.iload_n 2, 1) := by decide +kernel
theorem dX7_marksGo_21 : decode cX7_marksGo 21 = .ok (.iadd, 1) := by decide +kernel
theorem dX7_marksGo_22 : decode cX7_marksGo 22 = .ok (.if_icmp .lt 14, 3) := by decide +kernel
theorem dX7_marksGo_25 : decode cX7_marksGo 25 = .ok (.aload_n 0, 1) := by decide +kernel
theorem dX7_marksGo_26 : decode cX7_marksGo 26 = .ok (.getfield 51, 3) := by decide +kernel
theorem dX7_marksGo_29 : decode cX7_marksGo 29 = .ok (.iload_n 3, 1) := by decide +kernel
theorem dX7_marksGo_30 : decode cX7_marksGo 30 = .ok (.iaload, 1) := by decide +kernel
theorem dX7_marksGo_31 : decode cX7_marksGo 31 = .ok (.iload_n 2, 1) := by decide +kernel
theorem dX7_marksGo_32 : decode cX7_marksGo 32 = .ok (.isub, 1) := by decide +kernel
theorem dX7_marksGo_33 : decode cX7_marksGo 33 = .ok (.goto 13, 3) := by decide +kernel
theorem dX7_marksGo_36 : decode cX7_marksGo 36 = .ok (.aload_n 0, 1) := by decide +kernel
theorem dX7_marksGo_37 : decode cX7_marksGo 37 = .ok (.getfield 51, 3) := by decide +kernel
theorem dX7_marksGo_40 : decode cX7_marksGo 40 = .ok (.iload_n 3, 1) := by decide +kernel
theorem dX7_marksGo_41 : decode cX7_marksGo 41 = .ok (.iaload, 1) := by decide +kernel
theorem dX7_marksGo_42 : decode cX7_marksGo 42 = .ok (.iload_n 1, 1) := by decide +kernel
theorem dX7_marksGo_43 : decode cX7_marksGo 43 = .ok (.invokestatic 134, 3) := by decide +kernel
theorem dX7_marksGo_46 : decode cX7_marksGo 46 = .ok (.iastore, 1) := by decide +kernel
theorem dX7_marksGo_47 : decode cX7_marksGo 47 = .ok (.iinc 3 1, 3) := by decide +kernel
theorem dX7_marksGo_50 : decode cX7_marksGo 50 = .ok (.goto (-48), 3) := by decide +kernel
theorem dX7_marksGo_53 : decode cX7_marksGo 53 = .ok (.return_, 1) := by decide +kernel
theorem dX7_goesOn_0 : decode cX7_goesOn 0 = .ok (.iload_n 1, 1) := by decide +kernel
theorem dX7_goesOn_1 : decode cX7_goesOn 1 = .ok (.ifCond .le 50, 3) := by decide +kernel
theorem dX7_goesOn_4 : decode cX7_goesOn 4 = .ok (.iload_n 1, 1) := by decide +kernel
theorem dX7_goesOn_5 : decode cX7_goesOn 5 = .ok (.aload_n 0, 1) := by decide +kernel
theorem dX7_goesOn_6 : decode cX7_goesOn 6 = .ok (.getfield 123, 3) := by decide +kernel
theorem dX7_goesOn_9 : decode cX7_goesOn 9 = .ok (.if_icmp .eq 11, 3) := by decide +kernel
theorem dX7_goesOn_12 : decode cX7_goesOn 12 = .ok (.aload_n 0, 1) := by decide +kernel
theorem dX7_goesOn_13 : decode cX7_goesOn 13 = .ok (.iload_n 1, 1) := by decide +kernel
theorem dX7_goesOn_14 : decode cX7_goesOn 14 = .ok (.invokevirtual 130, 3) := by decide +kernel
theorem dX7_goesOn_17 : decode cX7_goesOn 17 = .ok (.ifCond .eq 34, 3) := by decide +kernel
theorem dX7_goesOn_20 : decode cX7_goesOn 20 = .ok (.aload_n 0, 1) := by decide +kernel
theorem dX7_goesOn_21 : decode cX7_goesOn 21 = .ok (.iload_n 1, 1) := by decide +kernel
theorem dX7_goesOn_22 : decode cX7_goesOn 22 = .ok (.iconst 1, 1) := by decide +kernel
theorem dX7_goesOn_23 : decode cX7_goesOn 23 = .ok (.isub, 1) := by decide +kernel
theorem dX7_goesOn_24 : decode cX7_goesOn 24 = .ok (.invokevirtual 108, 3) := by decide +kernel
theorem dX7_goesOn_27 : decode cX7_goesOn 27 = .ok (.iconst 1, 1) := by decide +kernel
theorem dX7_goesOn_28 : decode cX7_goesOn 28 = .ok (.if_icmp .ne 23, 3) := by decide +kernel
theorem dX7_goesOn_31 : decode cX7_goesOn 31 = .ok (.aload_n 0, 1) := by decide +kernel
theorem dX7_goesOn_32 : decode cX7_goesOn 32 = .ok (.iload_n 1, 1) := by decide +kernel
theorem dX7_goesOn_33 : decode cX7_goesOn 33 = .ok (.iconst 1, 1) := by decide +kernel
theorem dX7_goesOn_34 : decode cX7_goesOn 34 = .ok (.isub, 1) := by decide +kernel
theorem dX7_goesOn_35 : decode cX7_goesOn 35 = .ok (.invokevirtual 112, 3) := by decide +kernel
theorem dX7_goesOn_38 : decode cX7_goesOn 38 = .ok (.aload_n 0, 1) := by decide +kernel
theorem dX7_goesOn_39 : decode cX7_goesOn 39 = .ok (.getfield 33, 3) := by decide +kernel
theorem dX7_goesOn_42 : decode cX7_goesOn 42 = .ok (.iconst 1, 1) := by decide +kernel
theorem dX7_goesOn_43 : decode cX7_goesOn 43 = .ok (.isub, 1) := by decide +kernel
theorem dX7_goesOn_44 : decode cX7_goesOn 44 = .ok (.if_icmp .ne 7, 3) := by decide +kernel
theorem dX7_goesOn_47 : decode cX7_goesOn 47 = .ok (.iconst 1, 1) := by decide +kernel
theorem dX7_goesOn_48 : decode cX7_goesOn 48 = .ok (.goto 4, 3) := by decide +kernel
theorem dX7_goesOn_51 : decode cX7_goesOn 51 = .ok (.iconst 0, 1) := by decide +kernel
theorem dX7_goesOn_52 : decode cX7_goesOn 52 = .ok (.ireturn, 1) := by decide +kernel
theorem dX7_comesIn_0 : decode cX7_comesIn 0 = .ok (.aload_n 0, 1) := by decide +kernel
theorem dX7_comesIn_1 : decode cX7_comesIn 1 = .ok (.iload_n 1, 1) := by decide +kernel
theorem dX7_comesIn_2 : decode cX7_comesIn 2 = .ok (.iload_n 3, 1) := by decide +kernel
theorem dX7_comesIn_3 : decode cX7_comesIn 3 = .ok (.invokevirtual 139, 3) := by decide +kernel
theorem dX7_comesIn_6 : decode cX7_comesIn 6 = .ok (.iconst 0, 1) := by decide +kernel
theorem dX7_comesIn_7 : decode cX7_comesIn 7 = .ok (.istore 5, 2) := by decide +kernel
theorem dX7_comesIn_9 : decode cX7_comesIn 9 = .ok (.iload 5, 2) := by decide +kernel
theorem dX7_comesIn_11 : decode cX7_comesIn 11 = .ok (.iload_n 3, 1) := by decide +kernel
theorem dX7_comesIn_12 : decode cX7_comesIn 12 = .ok (.if_icmp .ge 41, 3) := by decide +kernel
theorem dX7_comesIn_15 : decode cX7_comesIn 15 = .ok (.aload_n 0, 1) := by decide +kernel
theorem dX7_comesIn_16 : decode cX7_comesIn 16 = .ok (.getfield 48, 3) := by decide +kernel
theorem dX7_comesIn_19 : decode cX7_comesIn 19 = .ok (.iload_n 1, 1) := by decide +kernel
theorem dX7_comesIn_20 : decode cX7_comesIn 20 = .ok (.iload 5, 2) := by decide +kernel
theorem dX7_comesIn_22 : decode cX7_comesIn 22 = .ok (.iadd, 1) := by decide +kernel
theorem dX7_comesIn_23 : decode cX7_comesIn 23 = .ok (.iconst 1, 1) := by decide +kernel
theorem dX7_comesIn_24 : decode cX7_comesIn 24 = .ok (.iload_n 2, 1) := by decide +kernel
theorem dX7_comesIn_25 : decode cX7_comesIn 25 = .ok (.iload 5, 2) := by decide +kernel
theorem dX7_comesIn_27 : decode cX7_comesIn 27 = .ok (.iadd, 1) := by decide +kernel
theorem dX7_comesIn_28 : decode cX7_comesIn 28 = .ok (.iload 5, 2) := by decide +kernel
theorem dX7_comesIn_30 : decode cX7_comesIn 30 = .ok (.ifCond .ne 12, 3) := by decide +kernel
theorem dX7_comesIn_33 : decode cX7_comesIn 33 = .ok (.iload 4, 2) := by decide +kernel
theorem dX7_comesIn_35 : decode cX7_comesIn 35 = .ok (.ifCond .ne 7, 3) := by decide +kernel
theorem dX7_comesIn_38 : decode cX7_comesIn 38 = .ok (.iconst 1, 1) := by decide +kernel
theorem dX7_comesIn_39 : decode cX7_comesIn 39 = .ok (.goto 4, 3) := by decide +kernel
theorem dX7_comesIn_42 : decode cX7_comesIn 42 = .ok (.iconst 0, 1) := by decide +kernel
theorem dX7_comesIn_43 : decode cX7_comesIn 43 = .ok (.invokestatic 126, 3) := by decide +kernel
theorem dX7_comesIn_46 : decode cX7_comesIn 46 = .ok (.iastore, 1) := by decide +kernel
theorem dX7_comesIn_47 : decode cX7_comesIn 47 = .ok (.iinc 5 1, 3) := by decide +kernel
theorem dX7_comesIn_50 : decode cX7_comesIn 50 = .ok (.goto (-41), 3) := by decide +kernel
theorem dX7_comesIn_53 : decode cX7_comesIn 53 = .ok (.aload_n 0, 1) := by decide +kernel
theorem dX7_comesIn_54 : decode cX7_comesIn 54 = .ok (.iload_n 1, 1) := by decide +kernel
theorem dX7_comesIn_55 : decode cX7_comesIn 55 = .ok (.iload_n 3, 1) := by decide +kernel
theorem dX7_comesIn_56 : decode cX7_comesIn 56 = .ok (.iadd, 1) := by decide +kernel
theorem dX7_comesIn_57 : decode cX7_comesIn 57 = .ok (.invokevirtual 143, 3) := by decide +kernel
theorem dX7_comesIn_60 : decode cX7_comesIn 60 = .ok (.aload_n 0, 1) := by decide +kernel
theorem dX7_comesIn_61 : decode cX7_comesIn 61 = .ok (.iload_n 1, 1) := by decide +kernel
theorem dX7_comesIn_62 : decode cX7_comesIn 62 = .ok (.iload_n 3, 1) := by decide +kernel
theorem dX7_comesIn_63 : decode cX7_comesIn 63 = .ok (.invokevirtual 147, 3) := by decide +kernel
theorem dX7_comesIn_66 : decode cX7_comesIn 66 = .ok (.return_, 1) := by decide +kernel
theorem dX7_insertsText_0 : decode cX7_insertsText 0 = .ok (.aload_n 0, 1) := by decide +kernel
theorem dX7_insertsText_1 : decode cX7_insertsText 1 = .ok (.iload_n 1, 1) := by decide +kernel
theorem dX7_insertsText_2 : decode cX7_insertsText 2 = .ok (.invokevirtual 150, 3) := by decide +kernel
theorem dX7_insertsText_5 : decode cX7_insertsText 5 = .ok (.istore_n 2, 1) := by decide +kernel
theorem dX7_insertsText_6 : decode cX7_insertsText 6 = .ok (.aload_n 0, 1) := by decide +kernel
theorem dX7_insertsText_7 : decode cX7_insertsText 7 = .ok (.getfield 33, 3) := by decide +kernel
theorem dX7_insertsText_10 : decode cX7_insertsText 10 = .ok (.istore_n 3, 1) := by decide +kernel
theorem dX7_insertsText_11 : decode cX7_insertsText 11 = .ok (.iconst 0, 1) := by decide +kernel
theorem dX7_insertsText_12 : decode cX7_insertsText 12 = .ok (.istore 4, 2) := by decide +kernel
theorem dX7_insertsText_14 : decode cX7_insertsText 14 = .ok (.iload 4, 2) := by decide +kernel
theorem dX7_insertsText_16 : decode cX7_insertsText 16 = .ok (.aload_n 0, 1) := by decide +kernel
theorem dX7_insertsText_17 : decode cX7_insertsText 17 = .ok (.getfield 25, 3) := by decide +kernel
theorem dX7_insertsText_20 : decode cX7_insertsText 20 = .ok (.if_icmp .ge 35, 3) := by decide +kernel
theorem dX7_insertsText_23 : decode cX7_insertsText 23 = .ok (.aload_n 0, 1) := by decide +kernel
theorem dX7_insertsText_24 : decode cX7_insertsText 24 = .ok (.getfield 39, 3) := by decide +kernel
theorem dX7_insertsText_27 : decode cX7_insertsText 27 = .ok (.aload_n 0, 1) := by decide +kernel
theorem dX7_insertsText_28 : decode cX7_insertsText 28 = .ok (.getfield 33, 3) := by decide +kernel
theorem dX7_insertsText_31 : decode cX7_insertsText 31 = .ok (.aload_n 0, 1) := by decide +kernel
theorem dX7_insertsText_32 : decode cX7_insertsText 32 = .ok (.getfield 17, 3) := by decide +kernel
theorem dX7_insertsText_35 : decode cX7_insertsText 35 = .ok (.iload 4, 2) := by decide +kernel
theorem dX7_insertsText_37 : decode cX7_insertsText 37 = .ok (.iaload, 1) := by decide +kernel
theorem dX7_insertsText_38 : decode cX7_insertsText 38 = .ok (.iastore, 1) := by decide +kernel
theorem dX7_insertsText_39 : decode cX7_insertsText 39 = .ok (.aload_n 0, 1) := by decide +kernel
theorem dX7_insertsText_40 : decode cX7_insertsText 40 = .ok (.dup, 1) := by decide +kernel
theorem dX7_insertsText_41 : decode cX7_insertsText 41 = .ok (.getfield 33, 3) := by decide +kernel
theorem dX7_insertsText_44 : decode cX7_insertsText 44 = .ok (.iconst 1, 1) := by decide +kernel
theorem dX7_insertsText_45 : decode cX7_insertsText 45 = .ok (.iadd, 1) := by decide +kernel
theorem dX7_insertsText_46 : decode cX7_insertsText 46 = .ok (.putfield 33, 3) := by decide +kernel
theorem dX7_insertsText_49 : decode cX7_insertsText 49 = .ok (.iinc 4 1, 3) := by decide +kernel
theorem dX7_insertsText_52 : decode cX7_insertsText 52 = .ok (.goto (-38), 3) := by decide +kernel
theorem dX7_insertsText_55 : decode cX7_insertsText 55 = .ok (.aload_n 0, 1) := by decide +kernel
theorem dX7_insertsText_56 : decode cX7_insertsText 56 = .ok (.iload_n 1, 1) := by decide +kernel
theorem dX7_insertsText_57 : decode cX7_insertsText 57 = .ok (.iload_n 3, 1) := by decide +kernel
theorem dX7_insertsText_58 : decode cX7_insertsText 58 = .ok (.aload_n 0, 1) := by decide +kernel
theorem dX7_insertsText_59 : decode cX7_insertsText 59 = .ok (.getfield 25, 3) := by decide +kernel
theorem dX7_insertsText_62 : decode cX7_insertsText 62 = .ok (.iload_n 2, 1) := by decide +kernel
theorem dX7_insertsText_63 : decode cX7_insertsText 63 = .ok (.invokevirtual 153, 3) := by decide +kernel
theorem dX7_insertsText_66 : decode cX7_insertsText 66 = .ok (.return_, 1) := by decide +kernel
theorem dX7_takesOut_0 : decode cX7_takesOut 0 = .ok (.iconst 0, 1) := by decide +kernel
theorem dX7_takesOut_1 : decode cX7_takesOut 1 = .ok (.istore_n 3, 1) := by decide +kernel
theorem dX7_takesOut_2 : decode cX7_takesOut 2 = .ok (.iload_n 1, 1) := by decide +kernel
theorem dX7_takesOut_3 : decode cX7_takesOut 3 = .ok (.istore 4, 2) := by decide +kernel
theorem dX7_takesOut_5 : decode cX7_takesOut 5 = .ok (.iload 4, 2) := by decide +kernel
theorem dX7_takesOut_7 : decode cX7_takesOut 7 = .ok (.iload_n 1, 1) := by decide +kernel
theorem dX7_takesOut_8 : decode cX7_takesOut 8 = .ok (.iload_n 2, 1) := by decide +kernel
theorem dX7_takesOut_9 : decode cX7_takesOut 9 = .ok (.iadd, 1) := by decide +kernel
theorem dX7_takesOut_10 : decode cX7_takesOut 10 = .ok (.if_icmp .ge 31, 3) := by decide +kernel
theorem dX7_takesOut_13 : decode cX7_takesOut 13 = .ok (.iload_n 3, 1) := by decide +kernel
theorem dX7_takesOut_14 : decode cX7_takesOut 14 = .ok (.aload_n 0, 1) := by decide +kernel
theorem dX7_takesOut_15 : decode cX7_takesOut 15 = .ok (.iload 4, 2) := by decide +kernel
theorem dX7_takesOut_17 : decode cX7_takesOut 17 = .ok (.invokevirtual 157, 3) := by decide +kernel
theorem dX7_takesOut_20 : decode cX7_takesOut 20 = .ok (.bipush 10, 2) := by decide +kernel
theorem dX7_takesOut_22 : decode cX7_takesOut 22 = .ok (.if_icmp .ne 7, 3) := by decide +kernel
theorem dX7_takesOut_25 : decode cX7_takesOut 25 = .ok (.iconst 1, 1) := by decide +kernel
theorem dX7_takesOut_26 : decode cX7_takesOut 26 = .ok (.goto 4, 3) := by decide +kernel
theorem dX7_takesOut_29 : decode cX7_takesOut 29 = .ok (.iconst 0, 1) := by decide +kernel
theorem dX7_takesOut_30 : decode cX7_takesOut 30 = .ok (.invokestatic 119, 3) := by decide +kernel
theorem dX7_takesOut_33 : decode cX7_takesOut 33 = .ok (.iadd, 1) := by decide +kernel
theorem dX7_takesOut_34 : decode cX7_takesOut 34 = .ok (.istore_n 3, 1) := by decide +kernel
theorem dX7_takesOut_35 : decode cX7_takesOut 35 = .ok (.iinc 4 1, 3) := by decide +kernel
theorem dX7_takesOut_38 : decode cX7_takesOut 38 = .ok (.goto (-33), 3) := by decide +kernel
theorem dX7_takesOut_41 : decode cX7_takesOut 41 = .ok (.aload_n 0, 1) := by decide +kernel
theorem dX7_takesOut_42 : decode cX7_takesOut 42 = .ok (.iload_n 1, 1) := by decide +kernel
theorem dX7_takesOut_43 : decode cX7_takesOut 43 = .ok (.iload_n 2, 1) := by decide +kernel
theorem dX7_takesOut_44 : decode cX7_takesOut 44 = .ok (.invokevirtual 160, 3) := by decide +kernel
theorem dX7_takesOut_47 : decode cX7_takesOut 47 = .ok (.aload_n 0, 1) := by decide +kernel
theorem dX7_takesOut_48 : decode cX7_takesOut 48 = .ok (.iload_n 1, 1) := by decide +kernel
theorem dX7_takesOut_49 : decode cX7_takesOut 49 = .ok (.invokevirtual 143, 3) := by decide +kernel
theorem dX7_takesOut_52 : decode cX7_takesOut 52 = .ok (.aload_n 0, 1) := by decide +kernel
theorem dX7_takesOut_53 : decode cX7_takesOut 53 = .ok (.iload_n 1, 1) := by decide +kernel
theorem dX7_takesOut_54 : decode cX7_takesOut 54 = .ok (.iload_n 2, 1) := by decide +kernel
theorem dX7_takesOut_55 : decode cX7_takesOut 55 = .ok (.invokevirtual 163, 3) := by decide +kernel
theorem dX7_takesOut_58 : decode cX7_takesOut 58 = .ok (.iload_n 3, 1) := by decide +kernel
theorem dX7_takesOut_59 : decode cX7_takesOut 59 = .ok (.ireturn, 1) := by decide +kernel
theorem dX7_laysOut_0 : decode cX7_laysOut 0 = .ok (.iconst 0, 1) := by decide +kernel
theorem dX7_laysOut_1 : decode cX7_laysOut 1 = .ok (.istore_n 3, 1) := by decide +kernel
theorem dX7_laysOut_2 : decode cX7_laysOut 2 = .ok (.iload_n 3, 1) := by decide +kernel
theorem dX7_laysOut_3 : decode cX7_laysOut 3 = .ok (.iload_n 2, 1) := by decide +kernel
theorem dX7_laysOut_4 : decode cX7_laysOut 4 = .ok (.if_icmp .ge 23, 3) := by decide +kernel
theorem dX7_laysOut_7 : decode cX7_laysOut 7 = .ok (.aload_n 0, 1) := by decide +kernel
theorem dX7_laysOut_8 : decode cX7_laysOut 8 = .ok (.getfield 57, 3) := by decide +kernel
theorem dX7_laysOut_11 : decode cX7_laysOut 11 = .ok (.iload_n 3, 1) := by decide +kernel
theorem dX7_laysOut_12 : decode cX7_laysOut 12 = .ok (.aload_n 0, 1) := by decide +kernel
theorem dX7_laysOut_13 : decode cX7_laysOut 13 = .ok (.getfield 48, 3) := by decide +kernel
theorem dX7_laysOut_16 : decode cX7_laysOut 16 = .ok (.iload_n 1, 1) := by decide +kernel
theorem dX7_laysOut_17 : decode cX7_laysOut 17 = .ok (.iload_n 3, 1) := by decide +kernel
theorem dX7_laysOut_18 : decode cX7_laysOut 18 = .ok (.iadd, 1) := by decide +kernel
theorem dX7_laysOut_19 : decode cX7_laysOut 19 = .ok (.iaload, 1) := by decide +kernel
theorem dX7_laysOut_20 : decode cX7_laysOut 20 = .ok (.iastore, 1) := by decide +kernel
theorem dX7_laysOut_21 : decode cX7_laysOut 21 = .ok (.iinc 3 1, 3) := by decide +kernel
theorem dX7_laysOut_24 : decode cX7_laysOut 24 = .ok (.goto (-22), 3) := by decide +kernel
theorem dX7_laysOut_27 : decode cX7_laysOut 27 = .ok (.return_, 1) := by decide +kernel
theorem dX7_laysIn_0 : decode cX7_laysIn 0 = .ok (.aload_n 0, 1) := by decide +kernel
theorem dX7_laysIn_1 : decode cX7_laysIn 1 = .ok (.iload_n 2, 1) := by decide +kernel
theorem dX7_laysIn_2 : decode cX7_laysIn 2 = .ok (.iload_n 1, 1) := by decide +kernel
theorem dX7_laysIn_3 : decode cX7_laysIn 3 = .ok (.invokevirtual 139, 3) := by decide +kernel
theorem dX7_laysIn_6 : decode cX7_laysIn 6 = .ok (.iconst 0, 1) := by decide +kernel
theorem dX7_laysIn_7 : decode cX7_laysIn 7 = .ok (.istore_n 3, 1) := by decide +kernel
theorem dX7_laysIn_8 : decode cX7_laysIn 8 = .ok (.iload_n 3, 1) := by decide +kernel
theorem dX7_laysIn_9 : decode cX7_laysIn 9 = .ok (.iload_n 1, 1) := by decide +kernel
theorem dX7_laysIn_10 : decode cX7_laysIn 10 = .ok (.if_icmp .ge 23, 3) := by decide +kernel
theorem dX7_laysIn_13 : decode cX7_laysIn 13 = .ok (.aload_n 0, 1) := by decide +kernel
theorem dX7_laysIn_14 : decode cX7_laysIn 14 = .ok (.getfield 48, 3) := by decide +kernel
theorem dX7_laysIn_17 : decode cX7_laysIn 17 = .ok (.iload_n 2, 1) := by decide +kernel
theorem dX7_laysIn_18 : decode cX7_laysIn 18 = .ok (.iload_n 3, 1) := by decide +kernel
theorem dX7_laysIn_19 : decode cX7_laysIn 19 = .ok (.iadd, 1) := by decide +kernel
theorem dX7_laysIn_20 : decode cX7_laysIn 20 = .ok (.aload_n 0, 1) := by decide +kernel
theorem dX7_laysIn_21 : decode cX7_laysIn 21 = .ok (.getfield 57, 3) := by decide +kernel
theorem dX7_laysIn_24 : decode cX7_laysIn 24 = .ok (.iload_n 3, 1) := by decide +kernel
theorem dX7_laysIn_25 : decode cX7_laysIn 25 = .ok (.iaload, 1) := by decide +kernel
theorem dX7_laysIn_26 : decode cX7_laysIn 26 = .ok (.iastore, 1) := by decide +kernel
theorem dX7_laysIn_27 : decode cX7_laysIn 27 = .ok (.iinc 3 1, 3) := by decide +kernel
theorem dX7_laysIn_30 : decode cX7_laysIn 30 = .ok (.goto (-22), 3) := by decide +kernel
theorem dX7_laysIn_33 : decode cX7_laysIn 33 = .ok (.aload_n 0, 1) := by decide +kernel
theorem dX7_laysIn_34 : decode cX7_laysIn 34 = .ok (.iload_n 2, 1) := by decide +kernel
theorem dX7_laysIn_35 : decode cX7_laysIn 35 = .ok (.invokevirtual 143, 3) := by decide +kernel
theorem dX7_laysIn_38 : decode cX7_laysIn 38 = .ok (.aload_n 0, 1) := by decide +kernel
theorem dX7_laysIn_39 : decode cX7_laysIn 39 = .ok (.iload_n 2, 1) := by decide +kernel
theorem dX7_laysIn_40 : decode cX7_laysIn 40 = .ok (.iload_n 1, 1) := by decide +kernel
theorem dX7_laysIn_41 : decode cX7_laysIn 41 = .ok (.iadd, 1) := by decide +kernel
theorem dX7_laysIn_42 : decode cX7_laysIn 42 = .ok (.invokevirtual 143, 3) := by decide +kernel
theorem dX7_laysIn_45 : decode cX7_laysIn 45 = .ok (.return_, 1) := by decide +kernel
theorem dX7_bookCopy_0 : decode cX7_bookCopy 0 = .ok (.aload_n 0, 1) := by decide +kernel
theorem dX7_bookCopy_1 : decode cX7_bookCopy 1 = .ok (.getfield 123, 3) := by decide +kernel
theorem dX7_bookCopy_4 : decode cX7_bookCopy 4 = .ok (.newarray .int, 2) := by decide +kernel
theorem dX7_bookCopy_6 : decode cX7_bookCopy 6 = .ok (.astore_n 1, 1) := by decide +kernel
theorem dX7_bookCopy_7 : decode cX7_bookCopy 7 = .ok (.iconst 0, 1) := by decide +kernel
theorem dX7_bookCopy_8 : decode cX7_bookCopy 8 = .ok (.istore_n 2, 1) := by decide +kernel
theorem dX7_bookCopy_9 : decode cX7_bookCopy 9 = .ok (.iload_n 2, 1) := by decide +kernel
theorem dX7_bookCopy_10 : decode cX7_bookCopy 10 = .ok (.aload_n 0, 1) := by decide +kernel
theorem dX7_bookCopy_11 : decode cX7_bookCopy 11 = .ok (.getfield 123, 3) := by decide +kernel
theorem dX7_bookCopy_14 : decode cX7_bookCopy 14 = .ok (.if_icmp .ge 18, 3) := by decide +kernel
theorem dX7_bookCopy_17 : decode cX7_bookCopy 17 = .ok (.aload_n 1, 1) := by decide +kernel
theorem dX7_bookCopy_18 : decode cX7_bookCopy 18 = .ok (.iload_n 2, 1) := by decide +kernel
theorem dX7_bookCopy_19 : decode cX7_bookCopy 19 = .ok (.aload_n 0, 1) := by decide +kernel
theorem dX7_bookCopy_20 : decode cX7_bookCopy 20 = .ok (.getfield 48, 3) := by decide +kernel
theorem dX7_bookCopy_23 : decode cX7_bookCopy 23 = .ok (.iload_n 2, 1) := by decide +kernel
theorem dX7_bookCopy_24 : decode cX7_bookCopy 24 = .ok (.iaload, 1) := by decide +kernel
theorem dX7_bookCopy_25 : decode cX7_bookCopy 25 = .ok (.iastore, 1) := by decide +kernel
theorem dX7_bookCopy_26 : decode cX7_bookCopy 26 = .ok (.iinc 2 1, 3) := by decide +kernel
theorem dX7_bookCopy_29 : decode cX7_bookCopy 29 = .ok (.goto (-20), 3) := by decide +kernel
theorem dX7_bookCopy_32 : decode cX7_bookCopy 32 = .ok (.aload_n 1, 1) := by decide +kernel
theorem dX7_bookCopy_33 : decode cX7_bookCopy 33 = .ok (.areturn, 1) := by decide +kernel
theorem dX7_marksCopy_0 : decode cX7_marksCopy 0 = .ok (.bipush 16, 2) := by decide +kernel
theorem dX7_marksCopy_2 : decode cX7_marksCopy 2 = .ok (.newarray .int, 2) := by decide +kernel
theorem dX7_marksCopy_4 : decode cX7_marksCopy 4 = .ok (.astore_n 1, 1) := by decide +kernel
theorem dX7_marksCopy_5 : decode cX7_marksCopy 5 = .ok (.iconst 0, 1) := by decide +kernel
theorem dX7_marksCopy_6 : decode cX7_marksCopy 6 = .ok (.istore_n 2, 1) := by decide +kernel
theorem dX7_marksCopy_7 : decode cX7_marksCopy 7 = .ok (.iload_n 2, 1) := by decide +kernel
theorem dX7_marksCopy_8 : decode cX7_marksCopy 8 = .ok (.bipush 8, 2) := by decide +kernel
theorem dX7_marksCopy_10 : decode cX7_marksCopy 10 = .ok (.if_icmp .ge 30, 3) := by decide +kernel
theorem dX7_marksCopy_13 : decode cX7_marksCopy 13 = .ok (.aload_n 1, 1) := by decide +kernel
theorem dX7_marksCopy_14 : decode cX7_marksCopy 14 = .ok (.iload_n 2, 1) := by decide +kernel
theorem dX7_marksCopy_15 : decode cX7_marksCopy 15 = .ok (.aload_n 0, 1) := by decide +kernel
theorem dX7_marksCopy_16 : decode cX7_marksCopy 16 = .ok (.getfield 51, 3) := by decide +kernel
theorem dX7_marksCopy_19 : decode cX7_marksCopy 19 = .ok (.iload_n 2, 1) := by decide +kernel
theorem dX7_marksCopy_20 : decode cX7_marksCopy 20 = .ok (.iaload, 1) := by decide +kernel
theorem dX7_marksCopy_21 : decode cX7_marksCopy 21 = .ok (.iastore, 1) := by decide +kernel
theorem dX7_marksCopy_22 : decode cX7_marksCopy 22 = .ok (.aload_n 1, 1) := by decide +kernel
theorem dX7_marksCopy_23 : decode cX7_marksCopy 23 = .ok (.bipush 8, 2) := by decide +kernel
theorem dX7_marksCopy_25 : decode cX7_marksCopy 25 = .ok (.iload_n 2, 1) := by decide +kernel
theorem dX7_marksCopy_26 : decode cX7_marksCopy 26 = .ok (.iadd, 1) := by decide +kernel
theorem dX7_marksCopy_27 : decode cX7_marksCopy 27 = .ok (.aload_n 0, 1) := by decide +kernel
theorem dX7_marksCopy_28 : decode cX7_marksCopy 28 = .ok (.getfield 54, 3) := by decide +kernel
theorem dX7_marksCopy_31 : decode cX7_marksCopy 31 = .ok (.iload_n 2, 1) := by decide +kernel
theorem dX7_marksCopy_32 : decode cX7_marksCopy 32 = .ok (.iaload, 1) := by decide +kernel
theorem dX7_marksCopy_33 : decode cX7_marksCopy 33 = .ok (.iastore, 1) := by decide +kernel
theorem dX7_marksCopy_34 : decode cX7_marksCopy 34 = .ok (.iinc 2 1, 3) := by decide +kernel
theorem dX7_marksCopy_37 : decode cX7_marksCopy 37 = .ok (.goto (-30), 3) := by decide +kernel
theorem dX7_marksCopy_40 : decode cX7_marksCopy 40 = .ok (.aload_n 1, 1) := by decide +kernel
theorem dX7_marksCopy_41 : decode cX7_marksCopy 41 = .ok (.areturn, 1) := by decide +kernel
theorem dX7_becomes_0 : decode cX7_becomes 0 = .ok (.aload_n 0, 1) := by decide +kernel
theorem dX7_becomes_1 : decode cX7_becomes 1 = .ok (.aload_n 1, 1) := by decide +kernel
theorem dX7_becomes_2 : decode cX7_becomes 2 = .ok (.arraylength, 1) := by decide +kernel
theorem dX7_becomes_3 : decode cX7_becomes 3 = .ok (.putfield 123, 3) := by decide +kernel
theorem dX7_becomes_6 : decode cX7_becomes 6 = .ok (.iconst 0, 1) := by decide +kernel
theorem dX7_becomes_7 : decode cX7_becomes 7 = .ok (.istore_n 3, 1) := by decide +kernel
theorem dX7_becomes_8 : decode cX7_becomes 8 = .ok (.iload_n 3, 1) := by decide +kernel
theorem dX7_becomes_9 : decode cX7_becomes 9 = .ok (.aload_n 0, 1) := by decide +kernel
theorem dX7_becomes_10 : decode cX7_becomes 10 = .ok (.getfield 123, 3) := by decide +kernel
theorem dX7_becomes_13 : decode cX7_becomes 13 = .ok (.if_icmp .ge 18, 3) := by decide +kernel
theorem dX7_becomes_16 : decode cX7_becomes 16 = .ok (.aload_n 0, 1) := by decide +kernel
theorem dX7_becomes_17 : decode cX7_becomes 17 = .ok (.getfield 48, 3) := by decide +kernel
theorem dX7_becomes_20 : decode cX7_becomes 20 = .ok (.iload_n 3, 1) := by decide +kernel
theorem dX7_becomes_21 : decode cX7_becomes 21 = .ok (.aload_n 1, 1) := by decide +kernel
theorem dX7_becomes_22 : decode cX7_becomes 22 = .ok (.iload_n 3, 1) := by decide +kernel
theorem dX7_becomes_23 : decode cX7_becomes 23 = .ok (.iaload, 1) := by decide +kernel
theorem dX7_becomes_24 : decode cX7_becomes 24 = .ok (.iastore, 1) := by decide +kernel
theorem dX7_becomes_25 : decode cX7_becomes 25 = .ok (.iinc 3 1, 3) := by decide +kernel
theorem dX7_becomes_28 : decode cX7_becomes 28 = .ok (.goto (-20), 3) := by decide +kernel
theorem dX7_becomes_31 : decode cX7_becomes 31 = .ok (.iconst 0, 1) := by decide +kernel
theorem dX7_becomes_32 : decode cX7_becomes 32 = .ok (.istore_n 3, 1) := by decide +kernel
theorem dX7_becomes_33 : decode cX7_becomes 33 = .ok (.iload_n 3, 1) := by decide +kernel
theorem dX7_becomes_34 : decode cX7_becomes 34 = .ok (.bipush 8, 2) := by decide +kernel
theorem dX7_becomes_36 : decode cX7_becomes 36 = .ok (.if_icmp .ge 30, 3) := by decide +kernel
theorem dX7_becomes_39 : decode cX7_becomes 39 = .ok (.aload_n 0, 1) := by decide +kernel
theorem dX7_becomes_40 : decode cX7_becomes 40 = .ok (.getfield 51, 3) := by decide +kernel
theorem dX7_becomes_43 : decode cX7_becomes 43 = .ok (.iload_n 3, 1) := by decide +kernel
theorem dX7_becomes_44 : decode cX7_becomes 44 = .ok (.aload_n 2, 1) := by decide +kernel
theorem dX7_becomes_45 : decode cX7_becomes 45 = .ok (.iload_n 3, 1) := by decide +kernel
theorem dX7_becomes_46 : decode cX7_becomes 46 = .ok (.iaload, 1) := by decide +kernel
theorem dX7_becomes_47 : decode cX7_becomes 47 = .ok (.iastore, 1) := by decide +kernel
theorem dX7_becomes_48 : decode cX7_becomes 48 = .ok (.aload_n 0, 1) := by decide +kernel
theorem dX7_becomes_49 : decode cX7_becomes 49 = .ok (.getfield 54, 3) := by decide +kernel
theorem dX7_becomes_52 : decode cX7_becomes 52 = .ok (.iload_n 3, 1) := by decide +kernel
theorem dX7_becomes_53 : decode cX7_becomes 53 = .ok (.aload_n 2, 1) := by decide +kernel
theorem dX7_becomes_54 : decode cX7_becomes 54 = .ok (.bipush 8, 2) := by decide +kernel
theorem dX7_becomes_56 : decode cX7_becomes 56 = .ok (.iload_n 3, 1) := by decide +kernel
theorem dX7_becomes_57 : decode cX7_becomes 57 = .ok (.iadd, 1) := by decide +kernel
theorem dX7_becomes_58 : decode cX7_becomes 58 = .ok (.iaload, 1) := by decide +kernel
theorem dX7_becomes_59 : decode cX7_becomes 59 = .ok (.iastore, 1) := by decide +kernel
theorem dX7_becomes_60 : decode cX7_becomes 60 = .ok (.iinc 3 1, 3) := by decide +kernel
theorem dX7_becomes_63 : decode cX7_becomes 63 = .ok (.goto (-30), 3) := by decide +kernel
theorem dX7_becomes_66 : decode cX7_becomes 66 = .ok (.return_, 1) := by decide +kernel
theorem dX7_keepsPast_0 : decode cX7_keepsPast 0 = .ok (.aload_n 0, 1) := by decide +kernel
theorem dX7_keepsPast_1 : decode cX7_keepsPast 1 = .ok (.getfield 166, 3) := by decide +kernel
theorem dX7_keepsPast_4 : decode cX7_keepsPast 4 = .ok (.bipush 30, 2) := by decide +kernel
theorem dX7_keepsPast_6 : decode cX7_keepsPast 6 = .ok (.if_icmp .ne 55, 3) := by decide +kernel
theorem dX7_keepsPast_9 : decode cX7_keepsPast 9 = .ok (.iconst 1, 1) := by decide +kernel
theorem dX7_keepsPast_10 : decode cX7_keepsPast 10 = .ok (.istore_n 1, 1) := by decide +kernel
theorem dX7_keepsPast_11 : decode cX7_keepsPast 11 = .ok (.iload_n 1, 1) := by decide +kernel
theorem dX7_keepsPast_12 : decode cX7_keepsPast 12 = .ok (.bipush 30, 2) := by decide +kernel
theorem dX7_keepsPast_14 : decode cX7_keepsPast 14 = .ok (.if_icmp .ge 37, 3) := by decide +kernel
theorem dX7_keepsPast_17 : decode cX7_keepsPast 17 = .ok (.aload_n 0, 1) := by decide +kernel
theorem dX7_keepsPast_18 : decode cX7_keepsPast 18 = .ok (.getfield 61, 3) := by decide +kernel
theorem dX7_keepsPast_21 : decode cX7_keepsPast 21 = .ok (.iload_n 1, 1) := by decide +kernel
theorem dX7_keepsPast_22 : decode cX7_keepsPast 22 = .ok (.iconst 1, 1) := by decide +kernel
theorem dX7_keepsPast_23 : decode cX7_keepsPast 23 = .ok (.isub, 1) := by decide +kernel
theorem dX7_keepsPast_24 : decode cX7_keepsPast 24 = .ok (.aload_n 0, 1) := by decide +kernel
theorem dX7_keepsPast_25 : decode cX7_keepsPast 25 = .ok (.getfield 61, 3) := by decide +kernel
theorem dX7_keepsPast_28 : decode cX7_keepsPast 28 = .ok (.iload_n 1, 1) := by decide +kernel
theorem dX7_keepsPast_29 : decode cX7_keepsPast 29 = .ok (.aaload, 1) := by decide +kernel
theorem dX7_keepsPast_30 : decode cX7_keepsPast 30 = .ok (.aastore, 1) := by decide +kernel
theorem dX7_keepsPast_31 : decode cX7_keepsPast 31 = .ok (.aload_n 0, 1) := by decide +kernel
theorem dX7_keepsPast_32 : decode cX7_keepsPast 32 = .ok (.getfield 65, 3) := by decide +kernel
theorem dX7_keepsPast_35 : decode cX7_keepsPast 35 = .ok (.iload_n 1, 1) := by decide +kernel
theorem dX7_keepsPast_36 : decode cX7_keepsPast 36 = .ok (.iconst 1, 1) := by decide +kernel
theorem dX7_keepsPast_37 : decode cX7_keepsPast 37 = .ok (.isub, 1) := by decide +kernel
theorem dX7_keepsPast_38 : decode cX7_keepsPast 38 = .ok (.aload_n 0, 1) := by decide +kernel
theorem dX7_keepsPast_39 : decode cX7_keepsPast 39 = .ok (.getfield 65, 3) := by decide +kernel
theorem dX7_keepsPast_42 : decode cX7_keepsPast 42 = .ok (.iload_n 1, 1) := by decide +kernel
theorem dX7_keepsPast_43 : decode cX7_keepsPast 43 = .ok (.aaload, 1) := by decide +kernel
theorem dX7_keepsPast_44 : decode cX7_keepsPast 44 = .ok (.aastore, 1) := by decide +kernel
theorem dX7_keepsPast_45 : decode cX7_keepsPast 45 = .ok (.iinc 1 1, 3) := by decide +kernel
theorem dX7_keepsPast_48 : decode cX7_keepsPast 48 = .ok (.goto (-37), 3) := by decide +kernel
theorem dX7_keepsPast_51 : decode cX7_keepsPast 51 = .ok (.aload_n 0, 1) := by decide +kernel
theorem dX7_keepsPast_52 : decode cX7_keepsPast 52 = .ok (.dup, 1) := by decide +kernel
theorem dX7_keepsPast_53 : decode cX7_keepsPast 53 = .ok (.getfield 166, 3) := by decide +kernel
theorem dX7_keepsPast_56 : decode cX7_keepsPast 56 = .ok (.iconst 1, 1) := by decide +kernel
theorem dX7_keepsPast_57 : decode cX7_keepsPast 57 = .ok (.isub, 1) := by decide +kernel
theorem dX7_keepsPast_58 : decode cX7_keepsPast 58 = .ok (.putfield 166, 3) := by decide +kernel
theorem dX7_keepsPast_61 : decode cX7_keepsPast 61 = .ok (.aload_n 0, 1) := by decide +kernel
theorem dX7_keepsPast_62 : decode cX7_keepsPast 62 = .ok (.getfield 61, 3) := by decide +kernel
theorem dX7_keepsPast_65 : decode cX7_keepsPast 65 = .ok (.aload_n 0, 1) := by decide +kernel
theorem dX7_keepsPast_66 : decode cX7_keepsPast 66 = .ok (.getfield 166, 3) := by decide +kernel
theorem dX7_keepsPast_69 : decode cX7_keepsPast 69 = .ok (.aload_n 0, 1) := by decide +kernel
theorem dX7_keepsPast_70 : decode cX7_keepsPast 70 = .ok (.invokevirtual 169, 3) := by decide +kernel
theorem dX7_keepsPast_73 : decode cX7_keepsPast 73 = .ok (.aastore, 1) := by decide +kernel
theorem dX7_keepsPast_74 : decode cX7_keepsPast 74 = .ok (.aload_n 0, 1) := by decide +kernel
theorem dX7_keepsPast_75 : decode cX7_keepsPast 75 = .ok (.getfield 65, 3) := by decide +kernel
theorem dX7_keepsPast_78 : decode cX7_keepsPast 78 = .ok (.aload_n 0, 1) := by decide +kernel
theorem dX7_keepsPast_79 : decode cX7_keepsPast 79 = .ok (.getfield 166, 3) := by decide +kernel
theorem dX7_keepsPast_82 : decode cX7_keepsPast 82 = .ok (.aload_n 0, 1) := by decide +kernel
theorem dX7_keepsPast_83 : decode cX7_keepsPast 83 = .ok (.invokevirtual 173, 3) := by decide +kernel
theorem dX7_keepsPast_86 : decode cX7_keepsPast 86 = .ok (.aastore, 1) := by decide +kernel
theorem dX7_keepsPast_87 : decode cX7_keepsPast 87 = .ok (.aload_n 0, 1) := by decide +kernel
theorem dX7_keepsPast_88 : decode cX7_keepsPast 88 = .ok (.dup, 1) := by decide +kernel
theorem dX7_keepsPast_89 : decode cX7_keepsPast 89 = .ok (.getfield 166, 3) := by decide +kernel
theorem dX7_keepsPast_92 : decode cX7_keepsPast 92 = .ok (.iconst 1, 1) := by decide +kernel
theorem dX7_keepsPast_93 : decode cX7_keepsPast 93 = .ok (.iadd, 1) := by decide +kernel
theorem dX7_keepsPast_94 : decode cX7_keepsPast 94 = .ok (.putfield 166, 3) := by decide +kernel
theorem dX7_keepsPast_97 : decode cX7_keepsPast 97 = .ok (.return_, 1) := by decide +kernel
theorem dX7_edits_0 : decode cX7_edits 0 = .ok (.aload_n 0, 1) := by decide +kernel
theorem dX7_edits_1 : decode cX7_edits 1 = .ok (.invokevirtual 176, 3) := by decide +kernel
theorem dX7_edits_4 : decode cX7_edits 4 = .ok (.aload_n 0, 1) := by decide +kernel
theorem dX7_edits_5 : decode cX7_edits 5 = .ok (.iconst 0, 1) := by decide +kernel
theorem dX7_edits_6 : decode cX7_edits 6 = .ok (.putfield 179, 3) := by decide +kernel
theorem dX7_edits_9 : decode cX7_edits 9 = .ok (.aload_n 0, 1) := by decide +kernel
theorem dX7_edits_10 : decode cX7_edits 10 = .ok (.bipush (-5), 2) := by decide +kernel
theorem dX7_edits_12 : decode cX7_edits 12 = .ok (.putfield 74, 3) := by decide +kernel
theorem dX7_edits_15 : decode cX7_edits 15 = .ok (.return_, 1) := by decide +kernel
theorem dX7_forgetsEdits_0 : decode cX7_forgetsEdits 0 = .ok (.aload_n 0, 1) := by decide +kernel
theorem dX7_forgetsEdits_1 : decode cX7_forgetsEdits 1 = .ok (.iconst 0, 1) := by decide +kernel
theorem dX7_forgetsEdits_2 : decode cX7_forgetsEdits 2 = .ok (.putfield 166, 3) := by decide +kernel
theorem dX7_forgetsEdits_5 : decode cX7_forgetsEdits 5 = .ok (.aload_n 0, 1) := by decide +kernel
theorem dX7_forgetsEdits_6 : decode cX7_forgetsEdits 6 = .ok (.iconst 0, 1) := by decide +kernel
theorem dX7_forgetsEdits_7 : decode cX7_forgetsEdits 7 = .ok (.putfield 179, 3) := by decide +kernel
theorem dX7_forgetsEdits_10 : decode cX7_forgetsEdits 10 = .ok (.aload_n 0, 1) := by decide +kernel
theorem dX7_forgetsEdits_11 : decode cX7_forgetsEdits 11 = .ok (.bipush (-5), 2) := by decide +kernel
theorem dX7_forgetsEdits_13 : decode cX7_forgetsEdits 13 = .ok (.putfield 74, 3) := by decide +kernel
theorem dX7_forgetsEdits_16 : decode cX7_forgetsEdits 16 = .ok (.return_, 1) := by decide +kernel
theorem dX7_opens_0 : decode cX7_opens 0 = .ok (.aload_n 0, 1) := by decide +kernel
theorem dX7_opens_1 : decode cX7_opens 1 = .ok (.iconst 0, 1) := by decide +kernel
theorem dX7_opens_2 : decode cX7_opens 2 = .ok (.putfield 1, 3) := by decide +kernel
theorem dX7_opens_5 : decode cX7_opens 5 = .ok (.aload_n 0, 1) := by decide +kernel
theorem dX7_opens_6 : decode cX7_opens 6 = .ok (.invokevirtual 182, 3) := by decide +kernel
theorem dX7_opens_9 : decode cX7_opens 9 = .ok (.pop, 1) := by decide +kernel
theorem dX7_opens_10 : decode cX7_opens 10 = .ok (.aload_n 0, 1) := by decide +kernel
theorem dX7_opens_11 : decode cX7_opens 11 = .ok (.invokevirtual 186, 3) := by decide +kernel
theorem dX7_opens_14 : decode cX7_opens 14 = .ok (.istore_n 2, 1) := by decide +kernel
theorem dX7_opens_15 : decode cX7_opens 15 = .ok (.iload_n 2, 1) := by decide +kernel
theorem dX7_opens_16 : decode cX7_opens 16 = .ok (.ifCond .ge 5, 3) := by decide +kernel
theorem dX7_opens_19 : decode cX7_opens 19 = .ok (.iload_n 2, 1) := by decide +kernel
theorem dX7_opens_20 : decode cX7_opens 20 = .ok (.ireturn, 1) := by decide +kernel
theorem dX7_opens_21 : decode cX7_opens 21 = .ok (.iload_n 1, 1) := by decide +kernel
theorem dX7_opens_22 : decode cX7_opens 22 = .ok (.i2l, 1) := by decide +kernel
theorem dX7_opens_23 : decode cX7_opens 23 = .ok (.lconst 1, 1) := by decide +kernel
theorem dX7_opens_24 : decode cX7_opens 24 = .ok (.ldc2_w 189, 3) := by decide +kernel
theorem dX7_opens_27 : decode cX7_opens 27 = .ok (.invokestatic 21, 3) := by decide +kernel
theorem dX7_opens_30 : decode cX7_opens 30 = .ok (.ifCond .ne 6, 3) := by decide +kernel
theorem dX7_opens_33 : decode cX7_opens 33 = .ok (.bipush (-100), 2) := by decide +kernel
theorem dX7_opens_35 : decode cX7_opens 35 = .ok (.ireturn, 1) := by decide +kernel
theorem dX7_opens_36 : decode cX7_opens 36 = .ok (.aload_n 0, 1) := by decide +kernel
theorem dX7_opens_37 : decode cX7_opens 37 = .ok (.iconst 0, 1) := by decide +kernel
theorem dX7_opens_38 : decode cX7_opens 38 = .ok (.putfield 30, 3) := by decide +kernel
theorem dX7_opens_41 : decode cX7_opens 41 = .ok (.aload_n 0, 1) := by decide +kernel
theorem dX7_opens_42 : decode cX7_opens 42 = .ok (.iconst 0, 1) := by decide +kernel
theorem dX7_opens_43 : decode cX7_opens 43 = .ok (.putfield 33, 3) := by decide +kernel
theorem dX7_opens_46 : decode cX7_opens 46 = .ok (.aload_n 0, 1) := by decide +kernel
theorem dX7_opens_47 : decode cX7_opens 47 = .ok (.iconst 0, 1) := by decide +kernel
theorem dX7_opens_48 : decode cX7_opens 48 = .ok (.putfield 123, 3) := by decide +kernel
theorem dX7_opens_51 : decode cX7_opens 51 = .ok (.iconst 0, 1) := by decide +kernel
theorem dX7_opens_52 : decode cX7_opens 52 = .ok (.istore_n 3, 1) := by decide +kernel
theorem dX7_opens_53 : decode cX7_opens 53 = .ok (.iload_n 3, 1) := by decide +kernel
theorem dX7_opens_54 : decode cX7_opens 54 = .ok (.iload_n 1, 1) := by decide +kernel
theorem dX7_opens_55 : decode cX7_opens 55 = .ok (.aload_n 0, 1) := by decide +kernel
theorem dX7_opens_56 : decode cX7_opens 56 = .ok (.getfield 25, 3) := by decide +kernel
theorem dX7_opens_59 : decode cX7_opens 59 = .ok (.imul, 1) := by decide +kernel
theorem dX7_opens_60 : decode cX7_opens 60 = .ok (.if_icmp .ge 46, 3) := by decide +kernel
theorem dX7_opens_63 : decode cX7_opens 63 = .ok (.aload_n 0, 1) := by decide +kernel
theorem dX7_opens_64 : decode cX7_opens 64 = .ok (.getfield 36, 3) := by decide +kernel
theorem dX7_opens_67 : decode cX7_opens 67 = .ok (.iload_n 3, 1) := by decide +kernel
theorem dX7_opens_68 : decode cX7_opens 68 = .ok (.aload_n 0, 1) := by decide +kernel
theorem dX7_opens_69 : decode cX7_opens 69 = .ok (.getfield 17, 3) := by decide +kernel
theorem dX7_opens_72 : decode cX7_opens 72 = .ok (.iload_n 3, 1) := by decide +kernel
theorem dX7_opens_73 : decode cX7_opens 73 = .ok (.aload_n 0, 1) := by decide +kernel
theorem dX7_opens_74 : decode cX7_opens 74 = .ok (.getfield 25, 3) := by decide +kernel
theorem dX7_opens_77 : decode cX7_opens 77 = .ok (.irem, 1) := by decide +kernel
theorem dX7_opens_78 : decode cX7_opens 78 = .ok (.iaload, 1) := by decide +kernel
theorem dX7_opens_79 : decode cX7_opens 79 = .ok (.iastore, 1) := by decide +kernel
theorem dX7_opens_80 : decode cX7_opens 80 = .ok (.aload_n 0, 1) := by decide +kernel
theorem dX7_opens_81 : decode cX7_opens 81 = .ok (.getfield 48, 3) := by decide +kernel
theorem dX7_opens_84 : decode cX7_opens 84 = .ok (.iload_n 3, 1) := by decide +kernel
theorem dX7_opens_85 : decode cX7_opens 85 = .ok (.iconst 0, 1) := by decide +kernel
theorem dX7_opens_86 : decode cX7_opens 86 = .ok (.iload_n 3, 1) := by decide +kernel
theorem dX7_opens_87 : decode cX7_opens 87 = .ok (.iload_n 3, 1) := by decide +kernel
theorem dX7_opens_88 : decode cX7_opens 88 = .ok (.ifCond .ne 7, 3) := by decide +kernel
theorem dX7_opens_91 : decode cX7_opens 91 = .ok (.iconst 1, 1) := by decide +kernel
theorem dX7_opens_92 : decode cX7_opens 92 = .ok (.goto 4, 3) := by decide +kernel
theorem dX7_opens_95 : decode cX7_opens 95 = .ok (.iconst 0, 1) := by decide +kernel
theorem dX7_opens_96 : decode cX7_opens 96 = .ok (.invokestatic 126, 3) := by decide +kernel
theorem dX7_opens_99 : decode cX7_opens 99 = .ok (.iastore, 1) := by decide +kernel
theorem dX7_opens_100 : decode cX7_opens 100 = .ok (.iinc 3 1, 3) := by decide +kernel
theorem dX7_opens_103 : decode cX7_opens 103 = .ok (.goto (-50), 3) := by decide +kernel
theorem dX7_opens_106 : decode cX7_opens 106 = .ok (.aload_n 0, 1) := by decide +kernel
theorem dX7_opens_107 : decode cX7_opens 107 = .ok (.iload_n 1, 1) := by decide +kernel
theorem dX7_opens_108 : decode cX7_opens 108 = .ok (.aload_n 0, 1) := by decide +kernel
theorem dX7_opens_109 : decode cX7_opens 109 = .ok (.getfield 25, 3) := by decide +kernel
theorem dX7_opens_112 : decode cX7_opens 112 = .ok (.imul, 1) := by decide +kernel
theorem dX7_opens_113 : decode cX7_opens 113 = .ok (.putfield 30, 3) := by decide +kernel
theorem dX7_opens_116 : decode cX7_opens 116 = .ok (.aload_n 0, 1) := by decide +kernel
theorem dX7_opens_117 : decode cX7_opens 117 = .ok (.aload_n 0, 1) := by decide +kernel
theorem dX7_opens_118 : decode cX7_opens 118 = .ok (.getfield 30, 3) := by decide +kernel
theorem dX7_opens_121 : decode cX7_opens 121 = .ok (.putfield 123, 3) := by decide +kernel
theorem dX7_opens_124 : decode cX7_opens 124 = .ok (.aload_n 0, 1) := by decide +kernel
theorem dX7_opens_125 : decode cX7_opens 125 = .ok (.invokevirtual 105, 3) := by decide +kernel
theorem dX7_opens_128 : decode cX7_opens 128 = .ok (.aload_n 0, 1) := by decide +kernel
theorem dX7_opens_129 : decode cX7_opens 129 = .ok (.invokevirtual 191, 3) := by decide +kernel
theorem dX7_opens_132 : decode cX7_opens 132 = .ok (.iconst 0, 1) := by decide +kernel
theorem dX7_opens_133 : decode cX7_opens 133 = .ok (.istore_n 3, 1) := by decide +kernel
theorem dX7_opens_134 : decode cX7_opens 134 = .ok (.iload_n 3, 1) := by decide +kernel
theorem dX7_opens_135 : decode cX7_opens 135 = .ok (.iconst 3, 1) := by decide +kernel
theorem dX7_opens_136 : decode cX7_opens 136 = .ok (.if_icmp .ge 16, 3) := by decide +kernel
theorem dX7_opens_139 : decode cX7_opens 139 = .ok (.aload_n 0, 1) := by decide +kernel
theorem dX7_opens_140 : decode cX7_opens 140 = .ok (.getfield 77, 3) := by decide +kernel
theorem dX7_opens_143 : decode cX7_opens 143 = .ok (.iload_n 3, 1) := by decide +kernel
theorem dX7_opens_144 : decode cX7_opens 144 = .ok (.aconst_null, 1) := by decide +kernel
theorem dX7_opens_145 : decode cX7_opens 145 = .ok (.aastore, 1) := by decide +kernel
theorem dX7_opens_146 : decode cX7_opens 146 = .ok (.iinc 3 1, 3) := by decide +kernel
theorem dX7_opens_149 : decode cX7_opens 149 = .ok (.goto (-15), 3) := by decide +kernel
theorem dX7_opens_152 : decode cX7_opens 152 = .ok (.aload_n 0, 1) := by decide +kernel
theorem dX7_opens_153 : decode cX7_opens 153 = .ok (.getfield 123, 3) := by decide +kernel
theorem dX7_opens_156 : decode cX7_opens 156 = .ok (.ireturn, 1) := by decide +kernel
theorem dX7_store_0 : decode cX7_store 0 = .ok (.aload_n 0, 1) := by decide +kernel
theorem dX7_store_1 : decode cX7_store 1 = .ok (.iconst 0, 1) := by decide +kernel
theorem dX7_store_2 : decode cX7_store 2 = .ok (.putfield 1, 3) := by decide +kernel
theorem dX7_store_5 : decode cX7_store 5 = .ok (.iload_n 1, 1) := by decide +kernel
theorem dX7_store_6 : decode cX7_store 6 = .ok (.i2l, 1) := by decide +kernel
theorem dX7_store_7 : decode cX7_store 7 = .ok (.lconst 0, 1) := by decide +kernel
theorem dX7_store_8 : decode cX7_store 8 = .ok (.lconst 1, 1) := by decide +kernel
theorem dX7_store_9 : decode cX7_store 9 = .ok (.invokestatic 21, 3) := by decide +kernel
theorem dX7_store_12 : decode cX7_store 12 = .ok (.ifCond .eq 15, 3) := by decide +kernel
theorem dX7_store_15 : decode cX7_store 15 = .ok (.iload_n 2, 1) := by decide +kernel
theorem dX7_store_16 : decode cX7_store 16 = .ok (.i2l, 1) := by decide +kernel
theorem dX7_store_17 : decode cX7_store 17 = .ok (.lconst 0, 1) := by decide +kernel
theorem dX7_store_18 : decode cX7_store 18 = .ok (.ldc2_w 194, 3) := by decide +kernel
theorem dX7_store_21 : decode cX7_store 21 = .ok (.invokestatic 21, 3) := by decide +kernel
theorem dX7_store_24 : decode cX7_store 24 = .ok (.ifCond .ne 8, 3) := by decide +kernel
theorem dX7_store_27 : decode cX7_store 27 = .ok (.aload_n 0, 1) := by decide +kernel
theorem dX7_store_28 : decode cX7_store 28 = .ok (.invokevirtual 196, 3) := by decide +kernel
theorem dX7_store_31 : decode cX7_store 31 = .ok (.ireturn, 1) := by decide +kernel
theorem dX7_store_32 : decode cX7_store 32 = .ok (.iconst 0, 1) := by decide +kernel
theorem dX7_store_33 : decode cX7_store 33 = .ok (.istore_n 3, 1) := by decide +kernel
theorem dX7_store_34 : decode cX7_store 34 = .ok (.iconst 0, 1) := by decide +kernel
theorem dX7_store_35 : decode cX7_store 35 = .ok (.istore 4, 2) := by decide +kernel
theorem dX7_store_37 : decode cX7_store 37 = .ok (.iload 4, 2) := by decide +kernel
theorem dX7_store_39 : decode cX7_store 39 = .ok (.aload_n 0, 1) := by decide +kernel
theorem dX7_store_40 : decode cX7_store 40 = .ok (.iload_n 1, 1) := by decide +kernel
theorem dX7_store_41 : decode cX7_store 41 = .ok (.invokevirtual 199, 3) := by decide +kernel
theorem dX7_store_44 : decode cX7_store 44 = .ok (.if_icmp .ge 32, 3) := by decide +kernel
theorem dX7_store_47 : decode cX7_store 47 = .ok (.iload_n 3, 1) := by decide +kernel
theorem dX7_store_48 : decode cX7_store 48 = .ok (.aload_n 0, 1) := by decide +kernel
theorem dX7_store_49 : decode cX7_store 49 = .ok (.iload_n 1, 1) := by decide +kernel
theorem dX7_store_50 : decode cX7_store 50 = .ok (.iload 4, 2) := by decide +kernel
theorem dX7_store_52 : decode cX7_store 52 = .ok (.invokevirtual 115, 3) := by decide +kernel
theorem dX7_store_55 : decode cX7_store 55 = .ok (.bipush 10, 2) := by decide +kernel
theorem dX7_store_57 : decode cX7_store 57 = .ok (.if_icmp .ne 7, 3) := by decide +kernel
theorem dX7_store_60 : decode cX7_store 60 = .ok (.iconst 1, 1) := by decide +kernel
theorem dX7_store_61 : decode cX7_store 61 = .ok (.goto 4, 3) := by decide +kernel
theorem dX7_store_64 : decode cX7_store 64 = .ok (.iconst 0, 1) := by decide +kernel
theorem dX7_store_65 : decode cX7_store 65 = .ok (.invokestatic 119, 3) := by decide +kernel
theorem dX7_store_68 : decode cX7_store 68 = .ok (.iadd, 1) := by decide +kernel
theorem dX7_store_69 : decode cX7_store 69 = .ok (.istore_n 3, 1) := by decide +kernel
theorem dX7_store_70 : decode cX7_store 70 = .ok (.iinc 4 1, 3) := by decide +kernel
theorem dX7_store_73 : decode cX7_store 73 = .ok (.goto (-36), 3) := by decide +kernel
theorem dX7_store_76 : decode cX7_store 76 = .ok (.iconst 0, 1) := by decide +kernel
theorem dX7_store_77 : decode cX7_store 77 = .ok (.istore 4, 2) := by decide +kernel
theorem dX7_store_79 : decode cX7_store 79 = .ok (.iconst 0, 1) := by decide +kernel
theorem dX7_store_80 : decode cX7_store 80 = .ok (.istore 5, 2) := by decide +kernel
theorem dX7_store_82 : decode cX7_store 82 = .ok (.iload 5, 2) := by decide +kernel
theorem dX7_store_84 : decode cX7_store 84 = .ok (.aload_n 0, 1) := by decide +kernel
theorem dX7_store_85 : decode cX7_store 85 = .ok (.getfield 123, 3) := by decide +kernel
theorem dX7_store_88 : decode cX7_store 88 = .ok (.if_icmp .ge 41, 3) := by decide +kernel
theorem dX7_store_91 : decode cX7_store 91 = .ok (.iload 4, 2) := by decide +kernel
theorem dX7_store_93 : decode cX7_store 93 = .ok (.aload_n 0, 1) := by decide +kernel
theorem dX7_store_94 : decode cX7_store 94 = .ok (.iload 5, 2) := by decide +kernel
theorem dX7_store_96 : decode cX7_store 96 = .ok (.invokevirtual 130, 3) := by decide +kernel
theorem dX7_store_99 : decode cX7_store 99 = .ok (.ifCond .eq 17, 3) := by decide +kernel
theorem dX7_store_102 : decode cX7_store 102 = .ok (.aload_n 0, 1) := by decide +kernel
theorem dX7_store_103 : decode cX7_store 103 = .ok (.iload 5, 2) := by decide +kernel
theorem dX7_store_105 : decode cX7_store 105 = .ok (.invokevirtual 108, 3) := by decide +kernel
theorem dX7_store_108 : decode cX7_store 108 = .ok (.iload_n 1, 1) := by decide +kernel
theorem dX7_store_109 : decode cX7_store 109 = .ok (.if_icmp .ne 7, 3) := by decide +kernel
theorem dX7_store_112 : decode cX7_store 112 = .ok (.iconst 1, 1) := by decide +kernel
theorem dX7_store_113 : decode cX7_store 113 = .ok (.goto 4, 3) := by decide +kernel
theorem dX7_store_116 : decode cX7_store 116 = .ok (.iconst 0, 1) := by decide +kernel
theorem dX7_store_117 : decode cX7_store 117 = .ok (.invokestatic 119, 3) := by decide +kernel
theorem dX7_store_120 : decode cX7_store 120 = .ok (.iadd, 1) := by decide +kernel
theorem dX7_store_121 : decode cX7_store 121 = .ok (.istore 4, 2) := by decide +kernel
theorem dX7_store_123 : decode cX7_store 123 = .ok (.iinc 5 1, 3) := by decide +kernel
theorem dX7_store_126 : decode cX7_store 126 = .ok (.goto (-44), 3) := by decide +kernel
theorem dX7_store_129 : decode cX7_store 129 = .ok (.iload_n 2, 1) := by decide +kernel
theorem dX7_store_130 : decode cX7_store 130 = .ok (.ifCond .ne 11, 3) := by decide +kernel
theorem dX7_store_133 : decode cX7_store 133 = .ok (.aload_n 0, 1) := by decide +kernel
theorem dX7_store_134 : decode cX7_store 134 = .ok (.iload_n 1, 1) := by decide +kernel
theorem dX7_store_135 : decode cX7_store 135 = .ok (.invokevirtual 199, 3) := by decide +kernel
theorem dX7_store_138 : decode cX7_store 138 = .ok (.goto 14, 3) := by decide +kernel
theorem dX7_store_141 : decode cX7_store 141 = .ok (.iload_n 2, 1) := by decide +kernel
theorem dX7_store_142 : decode cX7_store 142 = .ok (.iconst 1, 1) := by decide +kernel
theorem dX7_store_143 : decode cX7_store 143 = .ok (.if_icmp .ne 7, 3) := by decide +kernel
theorem dX7_store_146 : decode cX7_store 146 = .ok (.iload_n 3, 1) := by decide +kernel
theorem dX7_store_147 : decode cX7_store 147 = .ok (.goto 5, 3) := by decide +kernel
theorem dX7_store_150 : decode cX7_store 150 = .ok (.iload 4, 2) := by decide +kernel
theorem dX7_store_152 : decode cX7_store 152 = .ok (.ireturn, 1) := by decide +kernel
theorem dX7_inserts_0 : decode cX7_inserts 0 = .ok (.aload_n 0, 1) := by decide +kernel
theorem dX7_inserts_1 : decode cX7_inserts 1 = .ok (.iconst 0, 1) := by decide +kernel
theorem dX7_inserts_2 : decode cX7_inserts 2 = .ok (.putfield 1, 3) := by decide +kernel
theorem dX7_inserts_5 : decode cX7_inserts 5 = .ok (.aload_n 0, 1) := by decide +kernel
theorem dX7_inserts_6 : decode cX7_inserts 6 = .ok (.invokevirtual 182, 3) := by decide +kernel
theorem dX7_inserts_9 : decode cX7_inserts 9 = .ok (.pop, 1) := by decide +kernel
theorem dX7_inserts_10 : decode cX7_inserts 10 = .ok (.aload_n 0, 1) := by decide +kernel
theorem dX7_inserts_11 : decode cX7_inserts 11 = .ok (.invokevirtual 186, 3) := by decide +kernel
theorem dX7_inserts_14 : decode cX7_inserts 14 = .ok (.istore_n 2, 1) := by decide +kernel
theorem dX7_inserts_15 : decode cX7_inserts 15 = .ok (.iload_n 2, 1) := by decide +kernel
theorem dX7_inserts_16 : decode cX7_inserts 16 = .ok (.ifCond .ge 5, 3) := by decide +kernel
theorem dX7_inserts_19 : decode cX7_inserts 19 = .ok (.iload_n 2, 1) := by decide +kernel
theorem dX7_inserts_20 : decode cX7_inserts 20 = .ok (.ireturn, 1) := by decide +kernel
theorem dX7_inserts_21 : decode cX7_inserts 21 = .ok (.aload_n 0, 1) := by decide +kernel
theorem dX7_inserts_22 : decode cX7_inserts 22 = .ok (.iload_n 1, 1) := by decide +kernel
theorem dX7_inserts_23 : decode cX7_inserts 23 = .ok (.invokevirtual 202, 3) := by decide +kernel
theorem dX7_inserts_26 : decode cX7_inserts 26 = .ok (.ifCond .ne 6, 3) := by decide +kernel
theorem dX7_inserts_29 : decode cX7_inserts 29 = .ok (.bipush (-100), 2) := by decide +kernel
theorem dX7_inserts_31 : decode cX7_inserts 31 = .ok (.ireturn, 1) := by decide +kernel
theorem dX7_inserts_32 : decode cX7_inserts 32 = .ok (.aload_n 0, 1) := by decide +kernel
theorem dX7_inserts_33 : decode cX7_inserts 33 = .ok (.getfield 123, 3) := by decide +kernel
theorem dX7_inserts_36 : decode cX7_inserts 36 = .ok (.aload_n 0, 1) := by decide +kernel
theorem dX7_inserts_37 : decode cX7_inserts 37 = .ok (.getfield 25, 3) := by decide +kernel
theorem dX7_inserts_40 : decode cX7_inserts 40 = .ok (.iadd, 1) := by decide +kernel
theorem dX7_inserts_41 : decode cX7_inserts 41 = .ok (.sipush 3000, 3) := by decide +kernel
theorem dX7_inserts_44 : decode cX7_inserts 44 = .ok (.if_icmp .le 6, 3) := by decide +kernel
theorem dX7_inserts_47 : decode cX7_inserts 47 = .ok (.bipush (-101), 2) := by decide +kernel
theorem dX7_inserts_49 : decode cX7_inserts 49 = .ok (.ireturn, 1) := by decide +kernel
theorem dX7_inserts_50 : decode cX7_inserts 50 = .ok (.aload_n 0, 1) := by decide +kernel
theorem dX7_inserts_51 : decode cX7_inserts 51 = .ok (.getfield 33, 3) := by decide +kernel
theorem dX7_inserts_54 : decode cX7_inserts 54 = .ok (.aload_n 0, 1) := by decide +kernel
theorem dX7_inserts_55 : decode cX7_inserts 55 = .ok (.getfield 25, 3) := by decide +kernel
theorem dX7_inserts_58 : decode cX7_inserts 58 = .ok (.iadd, 1) := by decide +kernel
theorem dX7_inserts_59 : decode cX7_inserts 59 = .ok (.sipush 6000, 3) := by decide +kernel
theorem dX7_inserts_62 : decode cX7_inserts 62 = .ok (.if_icmp .le 6, 3) := by decide +kernel
theorem dX7_inserts_65 : decode cX7_inserts 65 = .ok (.bipush (-102), 2) := by decide +kernel
theorem dX7_inserts_67 : decode cX7_inserts 67 = .ok (.ireturn, 1) := by decide +kernel
theorem dX7_inserts_68 : decode cX7_inserts 68 = .ok (.aload_n 0, 1) := by decide +kernel
theorem dX7_inserts_69 : decode cX7_inserts 69 = .ok (.getfield 25, 3) := by decide +kernel
theorem dX7_inserts_72 : decode cX7_inserts 72 = .ok (.ifCond .le 12, 3) := by decide +kernel
theorem dX7_inserts_75 : decode cX7_inserts 75 = .ok (.aload_n 0, 1) := by decide +kernel
theorem dX7_inserts_76 : decode cX7_inserts 76 = .ok (.invokevirtual 205, 3) := by decide +kernel
theorem dX7_inserts_79 : decode cX7_inserts 79 = .ok (.aload_n 0, 1) := by decide +kernel
theorem dX7_inserts_80 : decode cX7_inserts 80 = .ok (.iload_n 1, 1) := by decide +kernel
theorem dX7_inserts_81 : decode cX7_inserts 81 = .ok (.invokevirtual 208, 3) := by decide +kernel
theorem dX7_inserts_84 : decode cX7_inserts 84 = .ok (.aload_n 0, 1) := by decide +kernel
theorem dX7_inserts_85 : decode cX7_inserts 85 = .ok (.getfield 123, 3) := by decide +kernel
theorem dX7_inserts_88 : decode cX7_inserts 88 = .ok (.ireturn, 1) := by decide +kernel
theorem dX7_typesIn_0 : decode cX7_typesIn 0 = .ok (.aload_n 0, 1) := by decide +kernel
theorem dX7_typesIn_1 : decode cX7_typesIn 1 = .ok (.iload_n 1, 1) := by decide +kernel
theorem dX7_typesIn_2 : decode cX7_typesIn 2 = .ok (.invokevirtual 202, 3) := by decide +kernel
theorem dX7_typesIn_5 : decode cX7_typesIn 5 = .ok (.ifCond .ne 6, 3) := by decide +kernel
theorem dX7_typesIn_8 : decode cX7_typesIn 8 = .ok (.bipush (-2), 2) := by decide +kernel
theorem dX7_typesIn_10 : decode cX7_typesIn 10 = .ok (.ireturn, 1) := by decide +kernel
theorem dX7_typesIn_11 : decode cX7_typesIn 11 = .ok (.aload_n 0, 1) := by decide +kernel
theorem dX7_typesIn_12 : decode cX7_typesIn 12 = .ok (.getfield 123, 3) := by decide +kernel
theorem dX7_typesIn_15 : decode cX7_typesIn 15 = .ok (.sipush 3000, 3) := by decide +kernel
theorem dX7_typesIn_18 : decode cX7_typesIn 18 = .ok (.if_icmp .ne 6, 3) := by decide +kernel
theorem dX7_typesIn_21 : decode cX7_typesIn 21 = .ok (.bipush (-3), 2) := by decide +kernel
theorem dX7_typesIn_23 : decode cX7_typesIn 23 = .ok (.ireturn, 1) := by decide +kernel
theorem dX7_typesIn_24 : decode cX7_typesIn 24 = .ok (.aload_n 0, 1) := by decide +kernel
theorem dX7_typesIn_25 : decode cX7_typesIn 25 = .ok (.getfield 33, 3) := by decide +kernel
theorem dX7_typesIn_28 : decode cX7_typesIn 28 = .ok (.sipush 6000, 3) := by decide +kernel
theorem dX7_typesIn_31 : decode cX7_typesIn 31 = .ok (.if_icmp .ne 6, 3) := by decide +kernel
theorem dX7_typesIn_34 : decode cX7_typesIn 34 = .ok (.bipush (-4), 2) := by decide +kernel
theorem dX7_typesIn_36 : decode cX7_typesIn 36 = .ok (.ireturn, 1) := by decide +kernel
theorem dX7_typesIn_37 : decode cX7_typesIn 37 = .ok (.aload_n 0, 1) := by decide +kernel
theorem dX7_typesIn_38 : decode cX7_typesIn 38 = .ok (.iload_n 1, 1) := by decide +kernel
theorem dX7_typesIn_39 : decode cX7_typesIn 39 = .ok (.invokevirtual 150, 3) := by decide +kernel
theorem dX7_typesIn_42 : decode cX7_typesIn 42 = .ok (.istore_n 3, 1) := by decide +kernel
theorem dX7_typesIn_43 : decode cX7_typesIn 43 = .ok (.aload_n 0, 1) := by decide +kernel
theorem dX7_typesIn_44 : decode cX7_typesIn 44 = .ok (.getfield 39, 3) := by decide +kernel
theorem dX7_typesIn_47 : decode cX7_typesIn 47 = .ok (.aload_n 0, 1) := by decide +kernel
theorem dX7_typesIn_48 : decode cX7_typesIn 48 = .ok (.getfield 33, 3) := by decide +kernel
theorem dX7_typesIn_51 : decode cX7_typesIn 51 = .ok (.iload_n 2, 1) := by decide +kernel
theorem dX7_typesIn_52 : decode cX7_typesIn 52 = .ok (.iastore, 1) := by decide +kernel
theorem dX7_typesIn_53 : decode cX7_typesIn 53 = .ok (.aload_n 0, 1) := by decide +kernel
theorem dX7_typesIn_54 : decode cX7_typesIn 54 = .ok (.dup, 1) := by decide +kernel
theorem dX7_typesIn_55 : decode cX7_typesIn 55 = .ok (.getfield 33, 3) := by decide +kernel
theorem dX7_typesIn_58 : decode cX7_typesIn 58 = .ok (.iconst 1, 1) := by decide +kernel
theorem dX7_typesIn_59 : decode cX7_typesIn 59 = .ok (.iadd, 1) := by decide +kernel
theorem dX7_typesIn_60 : decode cX7_typesIn 60 = .ok (.putfield 33, 3) := by decide +kernel
theorem dX7_typesIn_63 : decode cX7_typesIn 63 = .ok (.aload_n 0, 1) := by decide +kernel
theorem dX7_typesIn_64 : decode cX7_typesIn 64 = .ok (.iload_n 1, 1) := by decide +kernel
theorem dX7_typesIn_65 : decode cX7_typesIn 65 = .ok (.aload_n 0, 1) := by decide +kernel
theorem dX7_typesIn_66 : decode cX7_typesIn 66 = .ok (.getfield 33, 3) := by decide +kernel
theorem dX7_typesIn_69 : decode cX7_typesIn 69 = .ok (.iconst 1, 1) := by decide +kernel
theorem dX7_typesIn_70 : decode cX7_typesIn 70 = .ok (.isub, 1) := by decide +kernel
theorem dX7_typesIn_71 : decode cX7_typesIn 71 = .ok (.iconst 1, 1) := by decide +kernel
theorem dX7_typesIn_72 : decode cX7_typesIn 72 = .ok (.iload_n 3, 1) := by decide +kernel
theorem dX7_typesIn_73 : decode cX7_typesIn 73 = .ok (.invokevirtual 153, 3) := by decide +kernel
theorem dX7_typesIn_76 : decode cX7_typesIn 76 = .ok (.aload_n 0, 1) := by decide +kernel
theorem dX7_typesIn_77 : decode cX7_typesIn 77 = .ok (.getfield 123, 3) := by decide +kernel
theorem dX7_typesIn_80 : decode cX7_typesIn 80 = .ok (.ireturn, 1) := by decide +kernel
theorem dX7_type_0 : decode cX7_type 0 = .ok (.aload_n 0, 1) := by decide +kernel
theorem dX7_type_1 : decode cX7_type 1 = .ok (.iconst 0, 1) := by decide +kernel
theorem dX7_type_2 : decode cX7_type 2 = .ok (.putfield 1, 3) := by decide +kernel
theorem dX7_type_5 : decode cX7_type 5 = .ok (.aload_n 0, 1) := by decide +kernel
theorem dX7_type_6 : decode cX7_type 6 = .ok (.iload_n 1, 1) := by decide +kernel
theorem dX7_type_7 : decode cX7_type 7 = .ok (.iload_n 2, 1) := by decide +kernel
theorem dX7_type_8 : decode cX7_type 8 = .ok (.invokevirtual 211, 3) := by decide +kernel
theorem dX7_type_11 : decode cX7_type 11 = .ok (.ireturn, 1) := by decide +kernel
theorem dX7_typesOne_0 : decode cX7_typesOne 0 = .ok (.iload_n 2, 1) := by decide +kernel
theorem dX7_typesOne_1 : decode cX7_typesOne 1 = .ok (.i2l, 1) := by decide +kernel
theorem dX7_typesOne_2 : decode cX7_typesOne 2 = .ok (.lconst 1, 1) := by decide +kernel
theorem dX7_typesOne_3 : decode cX7_typesOne 3 = .ok (.ldc2_w 28, 3) := by decide +kernel
theorem dX7_typesOne_6 : decode cX7_typesOne 6 = .ok (.invokestatic 21, 3) := by decide +kernel
theorem dX7_typesOne_9 : decode cX7_typesOne 9 = .ok (.ifCond .ne 5, 3) := by decide +kernel
theorem dX7_typesOne_12 : decode cX7_typesOne 12 = .ok (.iconst (-1), 1) := by decide +kernel
theorem dX7_typesOne_13 : decode cX7_typesOne 13 = .ok (.ireturn, 1) := by decide +kernel
theorem dX7_typesOne_14 : decode cX7_typesOne 14 = .ok (.aload_n 0, 1) := by decide +kernel
theorem dX7_typesOne_15 : decode cX7_typesOne 15 = .ok (.iload_n 1, 1) := by decide +kernel
theorem dX7_typesOne_16 : decode cX7_typesOne 16 = .ok (.invokevirtual 202, 3) := by decide +kernel
theorem dX7_typesOne_19 : decode cX7_typesOne 19 = .ok (.ifCond .eq 27, 3) := by decide +kernel
theorem dX7_typesOne_22 : decode cX7_typesOne 22 = .ok (.aload_n 0, 1) := by decide +kernel
theorem dX7_typesOne_23 : decode cX7_typesOne 23 = .ok (.getfield 123, 3) := by decide +kernel
theorem dX7_typesOne_26 : decode cX7_typesOne 26 = .ok (.sipush 3000, 3) := by decide +kernel
theorem dX7_typesOne_29 : decode cX7_typesOne 29 = .ok (.if_icmp .ge 17, 3) := by decide +kernel
theorem dX7_typesOne_32 : decode cX7_typesOne 32 = .ok (.aload_n 0, 1) := by decide +kernel
theorem dX7_typesOne_33 : decode cX7_typesOne 33 = .ok (.getfield 33, 3) := by decide +kernel
theorem dX7_typesOne_36 : decode cX7_typesOne 36 = .ok (.sipush 6000, 3) := by decide +kernel
theorem dX7_typesOne_39 : decode cX7_typesOne 39 = .ok (.if_icmp .ge 7, 3) := by decide +kernel
theorem dX7_typesOne_42 : decode cX7_typesOne 42 = .ok (.iconst 1, 1) := by decide +kernel
theorem dX7_typesOne_43 : decode cX7_typesOne 43 = .ok (.goto 4, 3) := by decide +kernel
theorem dX7_typesOne_46 : decode cX7_typesOne 46 = .ok (.iconst 0, 1) := by decide +kernel
theorem dX7_typesOne_47 : decode cX7_typesOne 47 = .ok (.istore_n 3, 1) := by decide +kernel
theorem dX7_typesOne_48 : decode cX7_typesOne 48 = .ok (.iload_n 3, 1) := by decide +kernel
theorem dX7_typesOne_49 : decode cX7_typesOne 49 = .ok (.ifCond .eq 17, 3) := by decide +kernel
theorem dX7_typesOne_52 : decode cX7_typesOne 52 = .ok (.iload_n 1, 1) := by decide +kernel
theorem dX7_typesOne_53 : decode cX7_typesOne 53 = .ok (.aload_n 0, 1) := by decide +kernel
theorem dX7_typesOne_54 : decode cX7_typesOne 54 = .ok (.getfield 74, 3) := by decide +kernel
theorem dX7_typesOne_57 : decode cX7_typesOne 57 = .ok (.iconst 1, 1) := by decide +kernel
theorem dX7_typesOne_58 : decode cX7_typesOne 58 = .ok (.iadd, 1) := by decide +kernel
theorem dX7_typesOne_59 : decode cX7_typesOne 59 = .ok (.if_icmp .eq 7, 3) := by decide +kernel
theorem dX7_typesOne_62 : decode cX7_typesOne 62 = .ok (.aload_n 0, 1) := by decide +kernel
theorem dX7_typesOne_63 : decode cX7_typesOne 63 = .ok (.invokevirtual 205, 3) := by decide +kernel
theorem dX7_typesOne_66 : decode cX7_typesOne 66 = .ok (.aload_n 0, 1) := by decide +kernel
theorem dX7_typesOne_67 : decode cX7_typesOne 67 = .ok (.iload_n 1, 1) := by decide +kernel
theorem dX7_typesOne_68 : decode cX7_typesOne 68 = .ok (.iload_n 2, 1) := by decide +kernel
theorem dX7_typesOne_69 : decode cX7_typesOne 69 = .ok (.invokevirtual 214, 3) := by decide +kernel
theorem dX7_typesOne_72 : decode cX7_typesOne 72 = .ok (.istore 4, 2) := by decide +kernel
theorem dX7_typesOne_74 : decode cX7_typesOne 74 = .ok (.aload_n 0, 1) := by decide +kernel
theorem dX7_typesOne_75 : decode cX7_typesOne 75 = .ok (.iload_n 3, 1) := by decide +kernel
theorem dX7_typesOne_76 : decode cX7_typesOne 76 = .ok (.ifCond .eq 7, 3) := by decide +kernel
theorem dX7_typesOne_79 : decode cX7_typesOne 79 = .ok (.iload_n 1, 1) := by decide +kernel
theorem dX7_typesOne_80 : decode cX7_typesOne 80 = .ok (.goto 7, 3) := by decide +kernel
theorem dX7_typesOne_83 : decode cX7_typesOne 83 = .ok (.aload_n 0, 1) := by decide +kernel
theorem dX7_typesOne_84 : decode cX7_typesOne 84 = .ok (.getfield 74, 3) := by decide +kernel
theorem dX7_typesOne_87 : decode cX7_typesOne 87 = .ok (.putfield 74, 3) := by decide +kernel
theorem dX7_typesOne_90 : decode cX7_typesOne 90 = .ok (.iload 4, 2) := by decide +kernel
theorem dX7_typesOne_92 : decode cX7_typesOne 92 = .ok (.ireturn, 1) := by decide +kernel
theorem dX7_takesOne_0 : decode cX7_takesOne 0 = .ok (.iload_n 2, 1) := by decide +kernel
theorem dX7_takesOne_1 : decode cX7_takesOne 1 = .ok (.iconst 1, 1) := by decide +kernel
theorem dX7_takesOne_2 : decode cX7_takesOne 2 = .ok (.if_icmp .lt 7, 3) := by decide +kernel
theorem dX7_takesOne_5 : decode cX7_takesOne 5 = .ok (.iload_n 1, 1) := by decide +kernel
theorem dX7_takesOne_6 : decode cX7_takesOne 6 = .ok (.ifCond .ge 5, 3) := by decide +kernel
theorem dX7_takesOne_9 : decode cX7_takesOne 9 = .ok (.iconst (-1), 1) := by decide +kernel
theorem dX7_takesOne_10 : decode cX7_takesOne 10 = .ok (.ireturn, 1) := by decide +kernel
theorem dX7_takesOne_11 : decode cX7_takesOne 11 = .ok (.iload_n 1, 1) := by decide +kernel
theorem dX7_takesOne_12 : decode cX7_takesOne 12 = .ok (.i2l, 1) := by decide +kernel
theorem dX7_takesOne_13 : decode cX7_takesOne 13 = .ok (.iload_n 2, 1) := by decide +kernel
theorem dX7_takesOne_14 : decode cX7_takesOne 14 = .ok (.i2l, 1) := by decide +kernel
theorem dX7_takesOne_15 : decode cX7_takesOne 15 = .ok (.ladd, 1) := by decide +kernel
theorem dX7_takesOne_16 : decode cX7_takesOne 16 = .ok (.aload_n 0, 1) := by decide +kernel
theorem dX7_takesOne_17 : decode cX7_takesOne 17 = .ok (.getfield 123, 3) := by decide +kernel
theorem dX7_takesOne_20 : decode cX7_takesOne 20 = .ok (.i2l, 1) := by decide +kernel
theorem dX7_takesOne_21 : decode cX7_takesOne 21 = .ok (.lcmp, 1) := by decide +kernel
theorem dX7_takesOne_22 : decode cX7_takesOne 22 = .ok (.ifCond .le 6, 3) := by decide +kernel
theorem dX7_takesOne_25 : decode cX7_takesOne 25 = .ok (.bipush (-2), 2) := by decide +kernel
theorem dX7_takesOne_27 : decode cX7_takesOne 27 = .ok (.ireturn, 1) := by decide +kernel
theorem dX7_takesOne_28 : decode cX7_takesOne 28 = .ok (.aload_n 0, 1) := by decide +kernel
theorem dX7_takesOne_29 : decode cX7_takesOne 29 = .ok (.invokevirtual 205, 3) := by decide +kernel
theorem dX7_takesOne_32 : decode cX7_takesOne 32 = .ok (.aload_n 0, 1) := by decide +kernel
theorem dX7_takesOne_33 : decode cX7_takesOne 33 = .ok (.iload_n 1, 1) := by decide +kernel
theorem dX7_takesOne_34 : decode cX7_takesOne 34 = .ok (.iload_n 2, 1) := by decide +kernel
theorem dX7_takesOne_35 : decode cX7_takesOne 35 = .ok (.invokevirtual 217, 3) := by decide +kernel
theorem dX7_takesOne_38 : decode cX7_takesOne 38 = .ok (.ireturn, 1) := by decide +kernel
theorem dX7_takes_0 : decode cX7_takes 0 = .ok (.aload_n 0, 1) := by decide +kernel
theorem dX7_takes_1 : decode cX7_takes 1 = .ok (.iconst 0, 1) := by decide +kernel
theorem dX7_takes_2 : decode cX7_takes 2 = .ok (.putfield 1, 3) := by decide +kernel
theorem dX7_takes_5 : decode cX7_takes 5 = .ok (.aload_n 0, 1) := by decide +kernel
theorem dX7_takes_6 : decode cX7_takes 6 = .ok (.iload_n 1, 1) := by decide +kernel
theorem dX7_takes_7 : decode cX7_takes 7 = .ok (.iload_n 2, 1) := by decide +kernel
theorem dX7_takes_8 : decode cX7_takes 8 = .ok (.invokevirtual 220, 3) := by decide +kernel
theorem dX7_takes_11 : decode cX7_takes 11 = .ok (.ireturn, 1) := by decide +kernel
theorem dX7_puts_0 : decode cX7_puts 0 = .ok (.aload_n 0, 1) := by decide +kernel
theorem dX7_puts_1 : decode cX7_puts 1 = .ok (.iconst 0, 1) := by decide +kernel
theorem dX7_puts_2 : decode cX7_puts 2 = .ok (.putfield 1, 3) := by decide +kernel
theorem dX7_puts_5 : decode cX7_puts 5 = .ok (.aload_n 0, 1) := by decide +kernel
theorem dX7_puts_6 : decode cX7_puts 6 = .ok (.invokevirtual 182, 3) := by decide +kernel
theorem dX7_puts_9 : decode cX7_puts 9 = .ok (.pop, 1) := by decide +kernel
theorem dX7_puts_10 : decode cX7_puts 10 = .ok (.aload_n 0, 1) := by decide +kernel
theorem dX7_puts_11 : decode cX7_puts 11 = .ok (.invokevirtual 186, 3) := by decide +kernel
theorem dX7_puts_14 : decode cX7_puts 14 = .ok (.istore_n 3, 1) := by decide +kernel
theorem dX7_puts_15 : decode cX7_puts 15 = .ok (.iload_n 3, 1) := by decide +kernel
theorem dX7_puts_16 : decode cX7_puts 16 = .ok (.ifCond .ge 5, 3) := by decide +kernel
theorem dX7_puts_19 : decode cX7_puts 19 = .ok (.iload_n 3, 1) := by decide +kernel
theorem dX7_puts_20 : decode cX7_puts 20 = .ok (.ireturn, 1) := by decide +kernel
theorem dX7_puts_21 : decode cX7_puts 21 = .ok (.iload_n 2, 1) := by decide +kernel
theorem dX7_puts_22 : decode cX7_puts 22 = .ok (.ifCond .lt 21, 3) := by decide +kernel
theorem dX7_puts_25 : decode cX7_puts 25 = .ok (.iload_n 1, 1) := by decide +kernel
theorem dX7_puts_26 : decode cX7_puts 26 = .ok (.ifCond .lt 17, 3) := by decide +kernel
theorem dX7_puts_29 : decode cX7_puts 29 = .ok (.iload_n 1, 1) := by decide +kernel
theorem dX7_puts_30 : decode cX7_puts 30 = .ok (.i2l, 1) := by decide +kernel
theorem dX7_puts_31 : decode cX7_puts 31 = .ok (.iload_n 2, 1) := by decide +kernel
theorem dX7_puts_32 : decode cX7_puts 32 = .ok (.i2l, 1) := by decide +kernel
theorem dX7_puts_33 : decode cX7_puts 33 = .ok (.ladd, 1) := by decide +kernel
theorem dX7_puts_34 : decode cX7_puts 34 = .ok (.aload_n 0, 1) := by decide +kernel
theorem dX7_puts_35 : decode cX7_puts 35 = .ok (.getfield 123, 3) := by decide +kernel
theorem dX7_puts_38 : decode cX7_puts 38 = .ok (.i2l, 1) := by decide +kernel
theorem dX7_puts_39 : decode cX7_puts 39 = .ok (.lcmp, 1) := by decide +kernel
theorem dX7_puts_40 : decode cX7_puts 40 = .ok (.ifCond .le 6, 3) := by decide +kernel
theorem dX7_puts_43 : decode cX7_puts 43 = .ok (.bipush (-100), 2) := by decide +kernel
theorem dX7_puts_45 : decode cX7_puts 45 = .ok (.ireturn, 1) := by decide +kernel
theorem dX7_puts_46 : decode cX7_puts 46 = .ok (.aload_n 0, 1) := by decide +kernel
theorem dX7_puts_47 : decode cX7_puts 47 = .ok (.getfield 123, 3) := by decide +kernel
theorem dX7_puts_50 : decode cX7_puts 50 = .ok (.iload_n 2, 1) := by decide +kernel
theorem dX7_puts_51 : decode cX7_puts 51 = .ok (.isub, 1) := by decide +kernel
theorem dX7_puts_52 : decode cX7_puts 52 = .ok (.aload_n 0, 1) := by decide +kernel
theorem dX7_puts_53 : decode cX7_puts 53 = .ok (.getfield 25, 3) := by decide +kernel
theorem dX7_puts_56 : decode cX7_puts 56 = .ok (.iadd, 1) := by decide +kernel
theorem dX7_puts_57 : decode cX7_puts 57 = .ok (.sipush 3000, 3) := by decide +kernel
theorem dX7_puts_60 : decode cX7_puts 60 = .ok (.if_icmp .le 6, 3) := by decide +kernel
theorem dX7_puts_63 : decode cX7_puts 63 = .ok (.bipush (-101), 2) := by decide +kernel
theorem dX7_puts_65 : decode cX7_puts 65 = .ok (.ireturn, 1) := by decide +kernel
theorem dX7_puts_66 : decode cX7_puts 66 = .ok (.aload_n 0, 1) := by decide +kernel
theorem dX7_puts_67 : decode cX7_puts 67 = .ok (.getfield 33, 3) := by decide +kernel
theorem dX7_puts_70 : decode cX7_puts 70 = .ok (.aload_n 0, 1) := by decide +kernel
theorem dX7_puts_71 : decode cX7_puts 71 = .ok (.getfield 25, 3) := by decide +kernel
theorem dX7_puts_74 : decode cX7_puts 74 = .ok (.iadd, 1) := by decide +kernel
theorem dX7_puts_75 : decode cX7_puts 75 = .ok (.sipush 6000, 3) := by decide +kernel
theorem dX7_puts_78 : decode cX7_puts 78 = .ok (.if_icmp .le 6, 3) := by decide +kernel
theorem dX7_puts_81 : decode cX7_puts 81 = .ok (.bipush (-102), 2) := by decide +kernel
theorem dX7_puts_83 : decode cX7_puts 83 = .ok (.ireturn, 1) := by decide +kernel
theorem dX7_puts_84 : decode cX7_puts 84 = .ok (.iload_n 2, 1) := by decide +kernel
theorem dX7_puts_85 : decode cX7_puts 85 = .ok (.aload_n 0, 1) := by decide +kernel
theorem dX7_puts_86 : decode cX7_puts 86 = .ok (.getfield 25, 3) := by decide +kernel
theorem dX7_puts_89 : decode cX7_puts 89 = .ok (.iadd, 1) := by decide +kernel
theorem dX7_puts_90 : decode cX7_puts 90 = .ok (.ifCond .le 30, 3) := by decide +kernel
theorem dX7_puts_93 : decode cX7_puts 93 = .ok (.aload_n 0, 1) := by decide +kernel
theorem dX7_puts_94 : decode cX7_puts 94 = .ok (.invokevirtual 205, 3) := by decide +kernel
theorem dX7_puts_97 : decode cX7_puts 97 = .ok (.iload_n 2, 1) := by decide +kernel
theorem dX7_puts_98 : decode cX7_puts 98 = .ok (.ifCond .le 10, 3) := by decide +kernel
theorem dX7_puts_101 : decode cX7_puts 101 = .ok (.aload_n 0, 1) := by decide +kernel
theorem dX7_puts_102 : decode cX7_puts 102 = .ok (.iload_n 1, 1) := by decide +kernel
theorem dX7_puts_103 : decode cX7_puts 103 = .ok (.iload_n 2, 1) := by decide +kernel
theorem dX7_puts_104 : decode cX7_puts 104 = .ok (.invokevirtual 217, 3) := by decide +kernel
theorem dX7_puts_107 : decode cX7_puts 107 = .ok (.pop, 1) := by decide +kernel
theorem dX7_puts_108 : decode cX7_puts 108 = .ok (.aload_n 0, 1) := by decide +kernel
theorem dX7_puts_109 : decode cX7_puts 109 = .ok (.getfield 25, 3) := by decide +kernel
theorem dX7_puts_112 : decode cX7_puts 112 = .ok (.ifCond .le 8, 3) := by decide +kernel
theorem dX7_puts_115 : decode cX7_puts 115 = .ok (.aload_n 0, 1) := by decide +kernel
theorem dX7_puts_116 : decode cX7_puts 116 = .ok (.iload_n 1, 1) := by decide +kernel
theorem dX7_puts_117 : decode cX7_puts 117 = .ok (.invokevirtual 208, 3) := by decide +kernel
theorem dX7_puts_120 : decode cX7_puts 120 = .ok (.aload_n 0, 1) := by decide +kernel
theorem dX7_puts_121 : decode cX7_puts 121 = .ok (.getfield 123, 3) := by decide +kernel
theorem dX7_puts_124 : decode cX7_puts 124 = .ok (.ireturn, 1) := by decide +kernel
theorem dX7_laysOne_0 : decode cX7_laysOne 0 = .ok (.iload_n 2, 1) := by decide +kernel
theorem dX7_laysOne_1 : decode cX7_laysOne 1 = .ok (.iconst 1, 1) := by decide +kernel
theorem dX7_laysOne_2 : decode cX7_laysOne 2 = .ok (.if_icmp .lt 11, 3) := by decide +kernel
theorem dX7_laysOne_5 : decode cX7_laysOne 5 = .ok (.iload_n 1, 1) := by decide +kernel
theorem dX7_laysOne_6 : decode cX7_laysOne 6 = .ok (.ifCond .lt 7, 3) := by decide +kernel
theorem dX7_laysOne_9 : decode cX7_laysOne 9 = .ok (.iload_n 3, 1) := by decide +kernel
theorem dX7_laysOne_10 : decode cX7_laysOne 10 = .ok (.ifCond .ge 5, 3) := by decide +kernel
theorem dX7_laysOne_13 : decode cX7_laysOne 13 = .ok (.iconst (-1), 1) := by decide +kernel
theorem dX7_laysOne_14 : decode cX7_laysOne 14 = .ok (.ireturn, 1) := by decide +kernel
theorem dX7_laysOne_15 : decode cX7_laysOne 15 = .ok (.iload_n 1, 1) := by decide +kernel
theorem dX7_laysOne_16 : decode cX7_laysOne 16 = .ok (.i2l, 1) := by decide +kernel
theorem dX7_laysOne_17 : decode cX7_laysOne 17 = .ok (.iload_n 2, 1) := by decide +kernel
theorem dX7_laysOne_18 : decode cX7_laysOne 18 = .ok (.i2l, 1) := by decide +kernel
theorem dX7_laysOne_19 : decode cX7_laysOne 19 = .ok (.ladd, 1) := by decide +kernel
theorem dX7_laysOne_20 : decode cX7_laysOne 20 = .ok (.aload_n 0, 1) := by decide +kernel
theorem dX7_laysOne_21 : decode cX7_laysOne 21 = .ok (.getfield 123, 3) := by decide +kernel
theorem dX7_laysOne_24 : decode cX7_laysOne 24 = .ok (.i2l, 1) := by decide +kernel
theorem dX7_laysOne_25 : decode cX7_laysOne 25 = .ok (.lcmp, 1) := by decide +kernel
theorem dX7_laysOne_26 : decode cX7_laysOne 26 = .ok (.ifCond .gt 11, 3) := by decide +kernel
theorem dX7_laysOne_29 : decode cX7_laysOne 29 = .ok (.iload_n 3, 1) := by decide +kernel
theorem dX7_laysOne_30 : decode cX7_laysOne 30 = .ok (.aload_n 0, 1) := by decide +kernel
theorem dX7_laysOne_31 : decode cX7_laysOne 31 = .ok (.getfield 123, 3) := by decide +kernel
theorem dX7_laysOne_34 : decode cX7_laysOne 34 = .ok (.if_icmp .le 6, 3) := by decide +kernel
theorem dX7_laysOne_37 : decode cX7_laysOne 37 = .ok (.bipush (-2), 2) := by decide +kernel
theorem dX7_laysOne_39 : decode cX7_laysOne 39 = .ok (.ireturn, 1) := by decide +kernel
theorem dX7_laysOne_40 : decode cX7_laysOne 40 = .ok (.aload_n 0, 1) := by decide +kernel
theorem dX7_laysOne_41 : decode cX7_laysOne 41 = .ok (.getfield 123, 3) := by decide +kernel
theorem dX7_laysOne_44 : decode cX7_laysOne 44 = .ok (.iload_n 2, 1) := by decide +kernel
theorem dX7_laysOne_45 : decode cX7_laysOne 45 = .ok (.iadd, 1) := by decide +kernel
theorem dX7_laysOne_46 : decode cX7_laysOne 46 = .ok (.sipush 3000, 3) := by decide +kernel
theorem dX7_laysOne_49 : decode cX7_laysOne 49 = .ok (.if_icmp .le 6, 3) := by decide +kernel
theorem dX7_laysOne_52 : decode cX7_laysOne 52 = .ok (.bipush (-3), 2) := by decide +kernel
theorem dX7_laysOne_54 : decode cX7_laysOne 54 = .ok (.ireturn, 1) := by decide +kernel
theorem dX7_laysOne_55 : decode cX7_laysOne 55 = .ok (.aload_n 0, 1) := by decide +kernel
theorem dX7_laysOne_56 : decode cX7_laysOne 56 = .ok (.invokevirtual 205, 3) := by decide +kernel
theorem dX7_laysOne_59 : decode cX7_laysOne 59 = .ok (.aload_n 0, 1) := by decide +kernel
theorem dX7_laysOne_60 : decode cX7_laysOne 60 = .ok (.iload_n 1, 1) := by decide +kernel
theorem dX7_laysOne_61 : decode cX7_laysOne 61 = .ok (.iload_n 2, 1) := by decide +kernel
theorem dX7_laysOne_62 : decode cX7_laysOne 62 = .ok (.invokevirtual 223, 3) := by decide +kernel
theorem dX7_laysOne_65 : decode cX7_laysOne 65 = .ok (.aload_n 0, 1) := by decide +kernel
theorem dX7_laysOne_66 : decode cX7_laysOne 66 = .ok (.iload_n 2, 1) := by decide +kernel
theorem dX7_laysOne_67 : decode cX7_laysOne 67 = .ok (.iload_n 3, 1) := by decide +kernel
theorem dX7_laysOne_68 : decode cX7_laysOne 68 = .ok (.invokevirtual 226, 3) := by decide +kernel
theorem dX7_laysOne_71 : decode cX7_laysOne 71 = .ok (.aload_n 0, 1) := by decide +kernel
theorem dX7_laysOne_72 : decode cX7_laysOne 72 = .ok (.iload_n 3, 1) := by decide +kernel
theorem dX7_laysOne_73 : decode cX7_laysOne 73 = .ok (.iload_n 2, 1) := by decide +kernel
theorem dX7_laysOne_74 : decode cX7_laysOne 74 = .ok (.invokevirtual 147, 3) := by decide +kernel
theorem dX7_laysOne_77 : decode cX7_laysOne 77 = .ok (.aload_n 0, 1) := by decide +kernel
theorem dX7_laysOne_78 : decode cX7_laysOne 78 = .ok (.getfield 123, 3) := by decide +kernel
theorem dX7_laysOne_81 : decode cX7_laysOne 81 = .ok (.ireturn, 1) := by decide +kernel
theorem dX7_lays_0 : decode cX7_lays 0 = .ok (.aload_n 0, 1) := by decide +kernel
theorem dX7_lays_1 : decode cX7_lays 1 = .ok (.iconst 0, 1) := by decide +kernel
theorem dX7_lays_2 : decode cX7_lays 2 = .ok (.putfield 1, 3) := by decide +kernel
theorem dX7_lays_5 : decode cX7_lays 5 = .ok (.aload_n 0, 1) := by decide +kernel
theorem dX7_lays_6 : decode cX7_lays 6 = .ok (.iload_n 1, 1) := by decide +kernel
theorem dX7_lays_7 : decode cX7_lays 7 = .ok (.iload_n 2, 1) := by decide +kernel
theorem dX7_lays_8 : decode cX7_lays 8 = .ok (.iload_n 3, 1) := by decide +kernel
theorem dX7_lays_9 : decode cX7_lays 9 = .ok (.invokevirtual 229, 3) := by decide +kernel
theorem dX7_lays_12 : decode cX7_lays 12 = .ok (.ireturn, 1) := by decide +kernel
theorem dX7_movesOne_0 : decode cX7_movesOne 0 = .ok (.iload_n 2, 1) := by decide +kernel
theorem dX7_movesOne_1 : decode cX7_movesOne 1 = .ok (.iconst 1, 1) := by decide +kernel
theorem dX7_movesOne_2 : decode cX7_movesOne 2 = .ok (.if_icmp .lt 11, 3) := by decide +kernel
theorem dX7_movesOne_5 : decode cX7_movesOne 5 = .ok (.iload_n 1, 1) := by decide +kernel
theorem dX7_movesOne_6 : decode cX7_movesOne 6 = .ok (.ifCond .lt 7, 3) := by decide +kernel
theorem dX7_movesOne_9 : decode cX7_movesOne 9 = .ok (.iload_n 3, 1) := by decide +kernel
theorem dX7_movesOne_10 : decode cX7_movesOne 10 = .ok (.ifCond .ge 5, 3) := by decide +kernel
theorem dX7_movesOne_13 : decode cX7_movesOne 13 = .ok (.iconst (-1), 1) := by decide +kernel
theorem dX7_movesOne_14 : decode cX7_movesOne 14 = .ok (.ireturn, 1) := by decide +kernel
theorem dX7_movesOne_15 : decode cX7_movesOne 15 = .ok (.iload_n 1, 1) := by decide +kernel
theorem dX7_movesOne_16 : decode cX7_movesOne 16 = .ok (.i2l, 1) := by decide +kernel
theorem dX7_movesOne_17 : decode cX7_movesOne 17 = .ok (.iload_n 2, 1) := by decide +kernel
theorem dX7_movesOne_18 : decode cX7_movesOne 18 = .ok (.i2l, 1) := by decide +kernel
theorem dX7_movesOne_19 : decode cX7_movesOne 19 = .ok (.ladd, 1) := by decide +kernel
theorem dX7_movesOne_20 : decode cX7_movesOne 20 = .ok (.aload_n 0, 1) := by decide +kernel
theorem dX7_movesOne_21 : decode cX7_movesOne 21 = .ok (.getfield 123, 3) := by decide +kernel
theorem dX7_movesOne_24 : decode cX7_movesOne 24 = .ok (.i2l, 1) := by decide +kernel
theorem dX7_movesOne_25 : decode cX7_movesOne 25 = .ok (.lcmp, 1) := by decide +kernel
theorem dX7_movesOne_26 : decode cX7_movesOne 26 = .ok (.ifCond .gt 23, 3) := by decide +kernel
theorem dX7_movesOne_29 : decode cX7_movesOne 29 = .ok (.iload_n 3, 1) := by decide +kernel
theorem dX7_movesOne_30 : decode cX7_movesOne 30 = .ok (.aload_n 0, 1) := by decide +kernel
theorem dX7_movesOne_31 : decode cX7_movesOne 31 = .ok (.getfield 123, 3) := by decide +kernel
theorem dX7_movesOne_34 : decode cX7_movesOne 34 = .ok (.if_icmp .gt 15, 3) := by decide +kernel
theorem dX7_movesOne_37 : decode cX7_movesOne 37 = .ok (.iload_n 3, 1) := by decide +kernel
theorem dX7_movesOne_38 : decode cX7_movesOne 38 = .ok (.iload_n 1, 1) := by decide +kernel
theorem dX7_movesOne_39 : decode cX7_movesOne 39 = .ok (.if_icmp .le 13, 3) := by decide +kernel
theorem dX7_movesOne_42 : decode cX7_movesOne 42 = .ok (.iload_n 3, 1) := by decide +kernel
theorem dX7_movesOne_43 : decode cX7_movesOne 43 = .ok (.iload_n 1, 1) := by decide +kernel
theorem dX7_movesOne_44 : decode cX7_movesOne 44 = .ok (.iload_n 2, 1) := by decide +kernel
theorem dX7_movesOne_45 : decode cX7_movesOne 45 = .ok (.iadd, 1) := by decide +kernel
theorem dX7_movesOne_46 : decode cX7_movesOne 46 = .ok (.if_icmp .ge 6, 3) := by decide +kernel
theorem dX7_movesOne_49 : decode cX7_movesOne 49 = .ok (.bipush (-2), 2) := by decide +kernel
theorem dX7_movesOne_51 : decode cX7_movesOne 51 = .ok (.ireturn, 1) := by decide +kernel
theorem dX7_movesOne_52 : decode cX7_movesOne 52 = .ok (.aload_n 0, 1) := by decide +kernel
theorem dX7_movesOne_53 : decode cX7_movesOne 53 = .ok (.invokevirtual 205, 3) := by decide +kernel
theorem dX7_movesOne_56 : decode cX7_movesOne 56 = .ok (.iconst 0, 1) := by decide +kernel
theorem dX7_movesOne_57 : decode cX7_movesOne 57 = .ok (.istore 4, 2) := by decide +kernel
theorem dX7_movesOne_59 : decode cX7_movesOne 59 = .ok (.iload 4, 2) := by decide +kernel
theorem dX7_movesOne_61 : decode cX7_movesOne 61 = .ok (.bipush 8, 2) := by decide +kernel
theorem dX7_movesOne_63 : decode cX7_movesOne 63 = .ok (.if_icmp .ge 23, 3) := by decide +kernel
theorem dX7_movesOne_66 : decode cX7_movesOne 66 = .ok (.aload_n 0, 1) := by decide +kernel
theorem dX7_movesOne_67 : decode cX7_movesOne 67 = .ok (.getfield 83, 3) := by decide +kernel
theorem dX7_movesOne_70 : decode cX7_movesOne 70 = .ok (.iload 4, 2) := by decide +kernel
theorem dX7_movesOne_72 : decode cX7_movesOne 72 = .ok (.aload_n 0, 1) := by decide +kernel
theorem dX7_movesOne_73 : decode cX7_movesOne 73 = .ok (.getfield 51, 3) := by decide +kernel
theorem dX7_movesOne_76 : decode cX7_movesOne 76 = .ok (.iload 4, 2) := by decide +kernel
theorem dX7_movesOne_78 : decode cX7_movesOne 78 = .ok (.iaload, 1) := by decide +kernel
theorem dX7_movesOne_79 : decode cX7_movesOne 79 = .ok (.iastore, 1) := by decide +kernel
theorem dX7_movesOne_80 : decode cX7_movesOne 80 = .ok (.iinc 4 1, 3) := by decide +kernel
theorem dX7_movesOne_83 : decode cX7_movesOne 83 = .ok (.goto (-24), 3) := by decide +kernel
theorem dX7_movesOne_86 : decode cX7_movesOne 86 = .ok (.iload_n 3, 1) := by decide +kernel
theorem dX7_movesOne_87 : decode cX7_movesOne 87 = .ok (.iload_n 1, 1) := by decide +kernel
theorem dX7_movesOne_88 : decode cX7_movesOne 88 = .ok (.if_icmp .gt 7, 3) := by decide +kernel
theorem dX7_movesOne_91 : decode cX7_movesOne 91 = .ok (.iload_n 3, 1) := by decide +kernel
theorem dX7_movesOne_92 : decode cX7_movesOne 92 = .ok (.goto 6, 3) := by decide +kernel
theorem dX7_movesOne_95 : decode cX7_movesOne 95 = .ok (.iload_n 3, 1) := by decide +kernel
theorem dX7_movesOne_96 : decode cX7_movesOne 96 = .ok (.iload_n 2, 1) := by decide +kernel
theorem dX7_movesOne_97 : decode cX7_movesOne 97 = .ok (.isub, 1) := by decide +kernel
theorem dX7_movesOne_98 : decode cX7_movesOne 98 = .ok (.istore 4, 2) := by decide +kernel
theorem dX7_movesOne_100 : decode cX7_movesOne 100 = .ok (.aload_n 0, 1) := by decide +kernel
theorem dX7_movesOne_101 : decode cX7_movesOne 101 = .ok (.iload_n 1, 1) := by decide +kernel
theorem dX7_movesOne_102 : decode cX7_movesOne 102 = .ok (.iload_n 2, 1) := by decide +kernel
theorem dX7_movesOne_103 : decode cX7_movesOne 103 = .ok (.invokevirtual 223, 3) := by decide +kernel
theorem dX7_movesOne_106 : decode cX7_movesOne 106 = .ok (.aload_n 0, 1) := by decide +kernel
theorem dX7_movesOne_107 : decode cX7_movesOne 107 = .ok (.iload_n 1, 1) := by decide +kernel
theorem dX7_movesOne_108 : decode cX7_movesOne 108 = .ok (.iload_n 2, 1) := by decide +kernel
theorem dX7_movesOne_109 : decode cX7_movesOne 109 = .ok (.invokevirtual 160, 3) := by decide +kernel
theorem dX7_movesOne_112 : decode cX7_movesOne 112 = .ok (.aload_n 0, 1) := by decide +kernel
theorem dX7_movesOne_113 : decode cX7_movesOne 113 = .ok (.iload_n 1, 1) := by decide +kernel
theorem dX7_movesOne_114 : decode cX7_movesOne 114 = .ok (.invokevirtual 143, 3) := by decide +kernel
theorem dX7_movesOne_117 : decode cX7_movesOne 117 = .ok (.aload_n 0, 1) := by decide +kernel
theorem dX7_movesOne_118 : decode cX7_movesOne 118 = .ok (.iload_n 1, 1) := by decide +kernel
theorem dX7_movesOne_119 : decode cX7_movesOne 119 = .ok (.iload_n 2, 1) := by decide +kernel
theorem dX7_movesOne_120 : decode cX7_movesOne 120 = .ok (.invokevirtual 163, 3) := by decide +kernel
theorem dX7_movesOne_123 : decode cX7_movesOne 123 = .ok (.aload_n 0, 1) := by decide +kernel
theorem dX7_movesOne_124 : decode cX7_movesOne 124 = .ok (.iload_n 2, 1) := by decide +kernel
theorem dX7_movesOne_125 : decode cX7_movesOne 125 = .ok (.iload 4, 2) := by decide +kernel
theorem dX7_movesOne_127 : decode cX7_movesOne 127 = .ok (.invokevirtual 226, 3) := by decide +kernel
theorem dX7_movesOne_130 : decode cX7_movesOne 130 = .ok (.aload_n 0, 1) := by decide +kernel
theorem dX7_movesOne_131 : decode cX7_movesOne 131 = .ok (.iload 4, 2) := by decide +kernel
theorem dX7_movesOne_133 : decode cX7_movesOne 133 = .ok (.iload_n 2, 1) := by decide +kernel
theorem dX7_movesOne_134 : decode cX7_movesOne 134 = .ok (.invokevirtual 147, 3) := by decide +kernel
theorem dX7_movesOne_137 : decode cX7_movesOne 137 = .ok (.iconst 0, 1) := by decide +kernel
theorem dX7_movesOne_138 : decode cX7_movesOne 138 = .ok (.istore 5, 2) := by decide +kernel
theorem dX7_movesOne_140 : decode cX7_movesOne 140 = .ok (.iload 5, 2) := by decide +kernel
theorem dX7_movesOne_142 : decode cX7_movesOne 142 = .ok (.bipush 8, 2) := by decide +kernel
theorem dX7_movesOne_144 : decode cX7_movesOne 144 = .ok (.if_icmp .ge 62, 3) := by decide +kernel
theorem dX7_movesOne_147 : decode cX7_movesOne 147 = .ok (.aload_n 0, 1) := by decide +kernel
theorem dX7_movesOne_148 : decode cX7_movesOne 148 = .ok (.getfield 51, 3) := by decide +kernel
theorem dX7_movesOne_151 : decode cX7_movesOne 151 = .ok (.iload 5, 2) := by decide +kernel
theorem dX7_movesOne_153 : decode cX7_movesOne 153 = .ok (.aload_n 0, 1) := by decide +kernel
theorem dX7_movesOne_154 : decode cX7_movesOne 154 = .ok (.getfield 83, 3) := by decide +kernel
theorem dX7_movesOne_157 : decode cX7_movesOne 157 = .ok (.iload 5, 2) := by decide +kernel
theorem dX7_movesOne_159 : decode cX7_movesOne 159 = .ok (.iaload, 1) := by decide +kernel
theorem dX7_movesOne_160 : decode cX7_movesOne 160 = .ok (.iload_n 1, 1) := by decide +kernel
theorem dX7_movesOne_161 : decode cX7_movesOne 161 = .ok (.if_icmp .le 31, 3) := by decide +kernel
theorem dX7_movesOne_164 : decode cX7_movesOne 164 = .ok (.aload_n 0, 1) := by decide +kernel
theorem dX7_movesOne_165 : decode cX7_movesOne 165 = .ok (.getfield 83, 3) := by decide +kernel
theorem dX7_movesOne_168 : decode cX7_movesOne 168 = .ok (.iload 5, 2) := by decide +kernel
theorem dX7_movesOne_170 : decode cX7_movesOne 170 = .ok (.iaload, 1) := by decide +kernel
theorem dX7_movesOne_171 : decode cX7_movesOne 171 = .ok (.iload_n 1, 1) := by decide +kernel
theorem dX7_movesOne_172 : decode cX7_movesOne 172 = .ok (.iload_n 2, 1) := by decide +kernel
theorem dX7_movesOne_173 : decode cX7_movesOne 173 = .ok (.iadd, 1) := by decide +kernel
theorem dX7_movesOne_174 : decode cX7_movesOne 174 = .ok (.if_icmp .ge 18, 3) := by decide +kernel
theorem dX7_movesOne_177 : decode cX7_movesOne 177 = .ok (.iload 4, 2) := by decide +kernel
theorem dX7_movesOne_179 : decode cX7_movesOne 179 = .ok (.aload_n 0, 1) := by decide +kernel
theorem dX7_movesOne_180 : decode cX7_movesOne 180 = .ok (.getfield 83, 3) := by decide +kernel
theorem dX7_movesOne_183 : decode cX7_movesOne 183 = .ok (.iload 5, 2) := by decide +kernel
theorem dX7_movesOne_185 : decode cX7_movesOne 185 = .ok (.iaload, 1) := by decide +kernel
theorem dX7_movesOne_186 : decode cX7_movesOne 186 = .ok (.iadd, 1) := by decide +kernel
theorem dX7_movesOne_187 : decode cX7_movesOne 187 = .ok (.iload_n 1, 1) := by decide +kernel
theorem dX7_movesOne_188 : decode cX7_movesOne 188 = .ok (.isub, 1) := by decide +kernel
theorem dX7_movesOne_189 : decode cX7_movesOne 189 = .ok (.goto 10, 3) := by decide +kernel
theorem dX7_movesOne_192 : decode cX7_movesOne 192 = .ok (.aload_n 0, 1) := by decide +kernel
theorem dX7_movesOne_193 : decode cX7_movesOne 193 = .ok (.getfield 51, 3) := by decide +kernel
theorem dX7_movesOne_196 : decode cX7_movesOne 196 = .ok (.iload 5, 2) := by decide +kernel
theorem dX7_movesOne_198 : decode cX7_movesOne 198 = .ok (.iaload, 1) := by decide +kernel
theorem dX7_movesOne_199 : decode cX7_movesOne 199 = .ok (.iastore, 1) := by decide +kernel
theorem dX7_movesOne_200 : decode cX7_movesOne 200 = .ok (.iinc 5 1, 3) := by decide +kernel
theorem dX7_movesOne_203 : decode cX7_movesOne 203 = .ok (.goto (-63), 3) := by decide +kernel
theorem dX7_movesOne_206 : decode cX7_movesOne 206 = .ok (.iload 4, 2) := by decide +kernel
theorem dX7_movesOne_208 : decode cX7_movesOne 208 = .ok (.ireturn, 1) := by decide +kernel
theorem dX7_moves_0 : decode cX7_moves 0 = .ok (.aload_n 0, 1) := by decide +kernel
theorem dX7_moves_1 : decode cX7_moves 1 = .ok (.iconst 0, 1) := by decide +kernel
theorem dX7_moves_2 : decode cX7_moves 2 = .ok (.putfield 1, 3) := by decide +kernel
theorem dX7_moves_5 : decode cX7_moves 5 = .ok (.aload_n 0, 1) := by decide +kernel
theorem dX7_moves_6 : decode cX7_moves 6 = .ok (.iload_n 1, 1) := by decide +kernel
theorem dX7_moves_7 : decode cX7_moves 7 = .ok (.iload_n 2, 1) := by decide +kernel
theorem dX7_moves_8 : decode cX7_moves 8 = .ok (.iload_n 3, 1) := by decide +kernel
theorem dX7_moves_9 : decode cX7_moves 9 = .ok (.invokevirtual 233, 3) := by decide +kernel
theorem dX7_moves_12 : decode cX7_moves 12 = .ok (.ireturn, 1) := by decide +kernel
theorem dX7_isHealable_0 : decode cX7_isHealable 0 = .ok (.iload_n 1, 1) := by decide +kernel
theorem dX7_isHealable_1 : decode cX7_isHealable 1 = .ok (.ifCond .le 47, 3) := by decide +kernel
theorem dX7_isHealable_4 : decode cX7_isHealable 4 = .ok (.aload_n 0, 1) := by decide +kernel
theorem dX7_isHealable_5 : decode cX7_isHealable 5 = .ok (.iload_n 1, 1) := by decide +kernel
theorem dX7_isHealable_6 : decode cX7_isHealable 6 = .ok (.invokevirtual 130, 3) := by decide +kernel
theorem dX7_isHealable_9 : decode cX7_isHealable 9 = .ok (.ifCond .eq 39, 3) := by decide +kernel
theorem dX7_isHealable_12 : decode cX7_isHealable 12 = .ok (.aload_n 0, 1) := by decide +kernel
theorem dX7_isHealable_13 : decode cX7_isHealable 13 = .ok (.iload_n 1, 1) := by decide +kernel
theorem dX7_isHealable_14 : decode cX7_isHealable 14 = .ok (.invokevirtual 108, 3) := by decide +kernel
theorem dX7_isHealable_17 : decode cX7_isHealable 17 = .ok (.aload_n 0, 1) := by decide +kernel
theorem dX7_isHealable_18 : decode cX7_isHealable 18 = .ok (.iload_n 1, 1) := by decide +kernel
theorem dX7_isHealable_19 : decode cX7_isHealable 19 = .ok (.iconst 1, 1) := by decide +kernel
theorem dX7_isHealable_20 : decode cX7_isHealable 20 = .ok (.isub, 1) := by decide +kernel
theorem dX7_isHealable_21 : decode cX7_isHealable 21 = .ok (.invokevirtual 108, 3) := by decide +kernel
theorem dX7_isHealable_24 : decode cX7_isHealable 24 = .ok (.if_icmp .ne 24, 3) := by decide +kernel
theorem dX7_isHealable_27 : decode cX7_isHealable 27 = .ok (.aload_n 0, 1) := by decide +kernel
theorem dX7_isHealable_28 : decode cX7_isHealable 28 = .ok (.iload_n 1, 1) := by decide +kernel
theorem dX7_isHealable_29 : decode cX7_isHealable 29 = .ok (.invokevirtual 112, 3) := by decide +kernel
theorem dX7_isHealable_32 : decode cX7_isHealable 32 = .ok (.aload_n 0, 1) := by decide +kernel
theorem dX7_isHealable_33 : decode cX7_isHealable 33 = .ok (.iload_n 1, 1) := by decide +kernel
theorem dX7_isHealable_34 : decode cX7_isHealable 34 = .ok (.iconst 1, 1) := by decide +kernel
theorem dX7_isHealable_35 : decode cX7_isHealable 35 = .ok (.isub, 1) := by decide +kernel
theorem dX7_isHealable_36 : decode cX7_isHealable 36 = .ok (.invokevirtual 112, 3) := by decide +kernel
theorem dX7_isHealable_39 : decode cX7_isHealable 39 = .ok (.iconst 1, 1) := by decide +kernel
theorem dX7_isHealable_40 : decode cX7_isHealable 40 = .ok (.iadd, 1) := by decide +kernel
theorem dX7_isHealable_41 : decode cX7_isHealable 41 = .ok (.if_icmp .ne 7, 3) := by decide +kernel
theorem dX7_isHealable_44 : decode cX7_isHealable 44 = .ok (.iconst 1, 1) := by decide +kernel
theorem dX7_isHealable_45 : decode cX7_isHealable 45 = .ok (.goto 4, 3) := by decide +kernel
theorem dX7_isHealable_48 : decode cX7_isHealable 48 = .ok (.iconst 0, 1) := by decide +kernel
theorem dX7_isHealable_49 : decode cX7_isHealable 49 = .ok (.ireturn, 1) := by decide +kernel
theorem dX7_healables_0 : decode cX7_healables 0 = .ok (.iconst 0, 1) := by decide +kernel
theorem dX7_healables_1 : decode cX7_healables 1 = .ok (.istore_n 1, 1) := by decide +kernel
theorem dX7_healables_2 : decode cX7_healables 2 = .ok (.iconst 0, 1) := by decide +kernel
theorem dX7_healables_3 : decode cX7_healables 3 = .ok (.istore_n 2, 1) := by decide +kernel
theorem dX7_healables_4 : decode cX7_healables 4 = .ok (.iload_n 2, 1) := by decide +kernel
theorem dX7_healables_5 : decode cX7_healables 5 = .ok (.aload_n 0, 1) := by decide +kernel
theorem dX7_healables_6 : decode cX7_healables 6 = .ok (.getfield 123, 3) := by decide +kernel
theorem dX7_healables_9 : decode cX7_healables 9 = .ok (.if_icmp .ge 20, 3) := by decide +kernel
theorem dX7_healables_12 : decode cX7_healables 12 = .ok (.iload_n 1, 1) := by decide +kernel
theorem dX7_healables_13 : decode cX7_healables 13 = .ok (.aload_n 0, 1) := by decide +kernel
theorem dX7_healables_14 : decode cX7_healables 14 = .ok (.iload_n 2, 1) := by decide +kernel
theorem dX7_healables_15 : decode cX7_healables 15 = .ok (.invokevirtual 236, 3) := by decide +kernel
theorem dX7_healables_18 : decode cX7_healables 18 = .ok (.invokestatic 119, 3) := by decide +kernel
theorem dX7_healables_21 : decode cX7_healables 21 = .ok (.iadd, 1) := by decide +kernel
theorem dX7_healables_22 : decode cX7_healables 22 = .ok (.istore_n 1, 1) := by decide +kernel
theorem dX7_healables_23 : decode cX7_healables 23 = .ok (.iinc 2 1, 3) := by decide +kernel
theorem dX7_healables_26 : decode cX7_healables 26 = .ok (.goto (-22), 3) := by decide +kernel
theorem dX7_healables_29 : decode cX7_healables 29 = .ok (.iload_n 1, 1) := by decide +kernel
theorem dX7_healables_30 : decode cX7_healables 30 = .ok (.ireturn, 1) := by decide +kernel
theorem dX7_healsAll_0 : decode cX7_healsAll 0 = .ok (.aload_n 0, 1) := by decide +kernel
theorem dX7_healsAll_1 : decode cX7_healsAll 1 = .ok (.invokevirtual 239, 3) := by decide +kernel
theorem dX7_healsAll_4 : decode cX7_healsAll 4 = .ok (.istore_n 1, 1) := by decide +kernel
theorem dX7_healsAll_5 : decode cX7_healsAll 5 = .ok (.iload_n 1, 1) := by decide +kernel
theorem dX7_healsAll_6 : decode cX7_healsAll 6 = .ok (.ifCond .le 7, 3) := by decide +kernel
theorem dX7_healsAll_9 : decode cX7_healsAll 9 = .ok (.aload_n 0, 1) := by decide +kernel
theorem dX7_healsAll_10 : decode cX7_healsAll 10 = .ok (.invokevirtual 205, 3) := by decide +kernel
theorem dX7_healsAll_13 : decode cX7_healsAll 13 = .ok (.iconst 0, 1) := by decide +kernel
theorem dX7_healsAll_14 : decode cX7_healsAll 14 = .ok (.istore_n 2, 1) := by decide +kernel
theorem dX7_healsAll_15 : decode cX7_healsAll 15 = .ok (.iload_n 2, 1) := by decide +kernel
theorem dX7_healsAll_16 : decode cX7_healsAll 16 = .ok (.aload_n 0, 1) := by decide +kernel
theorem dX7_healsAll_17 : decode cX7_healsAll 17 = .ok (.getfield 123, 3) := by decide +kernel
theorem dX7_healsAll_20 : decode cX7_healsAll 20 = .ok (.if_icmp .ge 26, 3) := by decide +kernel
theorem dX7_healsAll_23 : decode cX7_healsAll 23 = .ok (.aload_n 0, 1) := by decide +kernel
theorem dX7_healsAll_24 : decode cX7_healsAll 24 = .ok (.getfield 48, 3) := by decide +kernel
theorem dX7_healsAll_27 : decode cX7_healsAll 27 = .ok (.iload_n 2, 1) := by decide +kernel
theorem dX7_healsAll_28 : decode cX7_healsAll 28 = .ok (.dup2, 1) := by decide +kernel
theorem dX7_healsAll_29 : decode cX7_healsAll 29 = .ok (.iaload, 1) := by decide +kernel
theorem dX7_healsAll_30 : decode cX7_healsAll 30 = .ok (.aload_n 0, 1) := by decide +kernel
theorem dX7_healsAll_31 : decode cX7_healsAll 31 = .ok (.iload_n 2, 1) := by decide +kernel
theorem dX7_healsAll_32 : decode cX7_healsAll 32 = .ok (.invokevirtual 236, 3) := by decide +kernel
theorem dX7_healsAll_35 : decode cX7_healsAll 35 = .ok (.invokestatic 119, 3) := by decide +kernel
theorem dX7_healsAll_38 : decode cX7_healsAll 38 = .ok (.isub, 1) := by decide +kernel
theorem dX7_healsAll_39 : decode cX7_healsAll 39 = .ok (.iastore, 1) := by decide +kernel
theorem dX7_healsAll_40 : decode cX7_healsAll 40 = .ok (.iinc 2 1, 3) := by decide +kernel
theorem dX7_healsAll_43 : decode cX7_healsAll 43 = .ok (.goto (-28), 3) := by decide +kernel
theorem dX7_healsAll_46 : decode cX7_healsAll 46 = .ok (.iload_n 1, 1) := by decide +kernel
theorem dX7_healsAll_47 : decode cX7_healsAll 47 = .ok (.ireturn, 1) := by decide +kernel
theorem dX7_heals_0 : decode cX7_heals 0 = .ok (.aload_n 0, 1) := by decide +kernel
theorem dX7_heals_1 : decode cX7_heals 1 = .ok (.iconst 0, 1) := by decide +kernel
theorem dX7_heals_2 : decode cX7_heals 2 = .ok (.putfield 1, 3) := by decide +kernel
theorem dX7_heals_5 : decode cX7_heals 5 = .ok (.aload_n 0, 1) := by decide +kernel
theorem dX7_heals_6 : decode cX7_heals 6 = .ok (.invokevirtual 242, 3) := by decide +kernel
theorem dX7_heals_9 : decode cX7_heals 9 = .ok (.ireturn, 1) := by decide +kernel
theorem dX7_cuts_0 : decode cX7_cuts 0 = .ok (.aload_n 0, 1) := by decide +kernel
theorem dX7_cuts_1 : decode cX7_cuts 1 = .ok (.iconst 0, 1) := by decide +kernel
theorem dX7_cuts_2 : decode cX7_cuts 2 = .ok (.putfield 1, 3) := by decide +kernel
theorem dX7_cuts_5 : decode cX7_cuts 5 = .ok (.iload_n 1, 1) := by decide +kernel
theorem dX7_cuts_6 : decode cX7_cuts 6 = .ok (.i2l, 1) := by decide +kernel
theorem dX7_cuts_7 : decode cX7_cuts 7 = .ok (.lconst 0, 1) := by decide +kernel
theorem dX7_cuts_8 : decode cX7_cuts 8 = .ok (.aload_n 0, 1) := by decide +kernel
theorem dX7_cuts_9 : decode cX7_cuts 9 = .ok (.invokevirtual 245, 3) := by decide +kernel
theorem dX7_cuts_12 : decode cX7_cuts 12 = .ok (.iconst 1, 1) := by decide +kernel
theorem dX7_cuts_13 : decode cX7_cuts 13 = .ok (.isub, 1) := by decide +kernel
theorem dX7_cuts_14 : decode cX7_cuts 14 = .ok (.i2l, 1) := by decide +kernel
theorem dX7_cuts_15 : decode cX7_cuts 15 = .ok (.invokestatic 21, 3) := by decide +kernel
theorem dX7_cuts_18 : decode cX7_cuts 18 = .ok (.ifCond .ne 5, 3) := by decide +kernel
theorem dX7_cuts_21 : decode cX7_cuts 21 = .ok (.iconst (-1), 1) := by decide +kernel
theorem dX7_cuts_22 : decode cX7_cuts 22 = .ok (.ireturn, 1) := by decide +kernel
theorem dX7_cuts_23 : decode cX7_cuts 23 = .ok (.aload_n 0, 1) := by decide +kernel
theorem dX7_cuts_24 : decode cX7_cuts 24 = .ok (.getfield 123, 3) := by decide +kernel
theorem dX7_cuts_27 : decode cX7_cuts 27 = .ok (.ifCond .ne 6, 3) := by decide +kernel
theorem dX7_cuts_30 : decode cX7_cuts 30 = .ok (.bipush (-2), 2) := by decide +kernel
theorem dX7_cuts_32 : decode cX7_cuts 32 = .ok (.ireturn, 1) := by decide +kernel
theorem dX7_cuts_33 : decode cX7_cuts 33 = .ok (.aload_n 0, 1) := by decide +kernel
theorem dX7_cuts_34 : decode cX7_cuts 34 = .ok (.iload_n 1, 1) := by decide +kernel
theorem dX7_cuts_35 : decode cX7_cuts 35 = .ok (.invokevirtual 248, 3) := by decide +kernel
theorem dX7_cuts_38 : decode cX7_cuts 38 = .ok (.istore_n 2, 1) := by decide +kernel
theorem dX7_cuts_39 : decode cX7_cuts 39 = .ok (.aload_n 0, 1) := by decide +kernel
theorem dX7_cuts_40 : decode cX7_cuts 40 = .ok (.iload_n 2, 1) := by decide +kernel
theorem dX7_cuts_41 : decode cX7_cuts 41 = .ok (.invokevirtual 251, 3) := by decide +kernel
theorem dX7_cuts_44 : decode cX7_cuts 44 = .ok (.istore_n 3, 1) := by decide +kernel
theorem dX7_cuts_45 : decode cX7_cuts 45 = .ok (.iload_n 3, 1) := by decide +kernel
theorem dX7_cuts_46 : decode cX7_cuts 46 = .ok (.aload_n 0, 1) := by decide +kernel
theorem dX7_cuts_47 : decode cX7_cuts 47 = .ok (.getfield 123, 3) := by decide +kernel
theorem dX7_cuts_50 : decode cX7_cuts 50 = .ok (.if_icmp .ne 7, 3) := by decide +kernel
theorem dX7_cuts_53 : decode cX7_cuts 53 = .ok (.iconst 1, 1) := by decide +kernel
theorem dX7_cuts_54 : decode cX7_cuts 54 = .ok (.goto 4, 3) := by decide +kernel
theorem dX7_cuts_57 : decode cX7_cuts 57 = .ok (.iconst 0, 1) := by decide +kernel
theorem dX7_cuts_58 : decode cX7_cuts 58 = .ok (.istore 4, 2) := by decide +kernel
theorem dX7_cuts_60 : decode cX7_cuts 60 = .ok (.iload 4, 2) := by decide +kernel
theorem dX7_cuts_62 : decode cX7_cuts 62 = .ok (.ifCond .eq 13, 3) := by decide +kernel
theorem dX7_cuts_65 : decode cX7_cuts 65 = .ok (.iload_n 2, 1) := by decide +kernel
theorem dX7_cuts_66 : decode cX7_cuts 66 = .ok (.ifCond .le 9, 3) := by decide +kernel
theorem dX7_cuts_69 : decode cX7_cuts 69 = .ok (.iload_n 2, 1) := by decide +kernel
theorem dX7_cuts_70 : decode cX7_cuts 70 = .ok (.iconst 1, 1) := by decide +kernel
theorem dX7_cuts_71 : decode cX7_cuts 71 = .ok (.isub, 1) := by decide +kernel
theorem dX7_cuts_72 : decode cX7_cuts 72 = .ok (.goto 4, 3) := by decide +kernel
theorem dX7_cuts_75 : decode cX7_cuts 75 = .ok (.iload_n 2, 1) := by decide +kernel
theorem dX7_cuts_76 : decode cX7_cuts 76 = .ok (.istore 5, 2) := by decide +kernel
theorem dX7_cuts_78 : decode cX7_cuts 78 = .ok (.iload 4, 2) := by decide +kernel
theorem dX7_cuts_80 : decode cX7_cuts 80 = .ok (.ifCond .eq 10, 3) := by decide +kernel
theorem dX7_cuts_83 : decode cX7_cuts 83 = .ok (.iload_n 3, 1) := by decide +kernel
theorem dX7_cuts_84 : decode cX7_cuts 84 = .ok (.iload 5, 2) := by decide +kernel
theorem dX7_cuts_86 : decode cX7_cuts 86 = .ok (.isub, 1) := by decide +kernel
theorem dX7_cuts_87 : decode cX7_cuts 87 = .ok (.goto 9, 3) := by decide +kernel
theorem dX7_cuts_90 : decode cX7_cuts 90 = .ok (.iload_n 3, 1) := by decide +kernel
theorem dX7_cuts_91 : decode cX7_cuts 91 = .ok (.iconst 1, 1) := by decide +kernel
theorem dX7_cuts_92 : decode cX7_cuts 92 = .ok (.iadd, 1) := by decide +kernel
theorem dX7_cuts_93 : decode cX7_cuts 93 = .ok (.iload 5, 2) := by decide +kernel
theorem dX7_cuts_95 : decode cX7_cuts 95 = .ok (.isub, 1) := by decide +kernel
theorem dX7_cuts_96 : decode cX7_cuts 96 = .ok (.istore 6, 2) := by decide +kernel
theorem dX7_cuts_98 : decode cX7_cuts 98 = .ok (.aload_n 0, 1) := by decide +kernel
theorem dX7_cuts_99 : decode cX7_cuts 99 = .ok (.invokevirtual 205, 3) := by decide +kernel
theorem dX7_cuts_102 : decode cX7_cuts 102 = .ok (.aload_n 0, 1) := by decide +kernel
theorem dX7_cuts_103 : decode cX7_cuts 103 = .ok (.iload 5, 2) := by decide +kernel
theorem dX7_cuts_105 : decode cX7_cuts 105 = .ok (.iload 6, 2) := by decide +kernel
theorem dX7_cuts_107 : decode cX7_cuts 107 = .ok (.invokevirtual 217, 3) := by decide +kernel
theorem dX7_cuts_110 : decode cX7_cuts 110 = .ok (.pop, 1) := by decide +kernel
theorem dX7_cuts_111 : decode cX7_cuts 111 = .ok (.iload 6, 2) := by decide +kernel
theorem dX7_cuts_113 : decode cX7_cuts 113 = .ok (.ireturn, 1) := by decide +kernel
theorem dX7_indents_0 : decode cX7_indents 0 = .ok (.aload_n 0, 1) := by decide +kernel
theorem dX7_indents_1 : decode cX7_indents 1 = .ok (.iconst 0, 1) := by decide +kernel
theorem dX7_indents_2 : decode cX7_indents 2 = .ok (.putfield 1, 3) := by decide +kernel
theorem dX7_indents_5 : decode cX7_indents 5 = .ok (.iload_n 3, 1) := by decide +kernel
theorem dX7_indents_6 : decode cX7_indents 6 = .ok (.i2l, 1) := by decide +kernel
theorem dX7_indents_7 : decode cX7_indents 7 = .ok (.lconst 1, 1) := by decide +kernel
theorem dX7_indents_8 : decode cX7_indents 8 = .ok (.ldc2_w 254, 3) := by decide +kernel
theorem dX7_indents_11 : decode cX7_indents 11 = .ok (.invokestatic 21, 3) := by decide +kernel
theorem dX7_indents_14 : decode cX7_indents 14 = .ok (.ifCond .ne 5, 3) := by decide +kernel
theorem dX7_indents_17 : decode cX7_indents 17 = .ok (.iconst (-1), 1) := by decide +kernel
theorem dX7_indents_18 : decode cX7_indents 18 = .ok (.ireturn, 1) := by decide +kernel
theorem dX7_indents_19 : decode cX7_indents 19 = .ok (.iload_n 1, 1) := by decide +kernel
theorem dX7_indents_20 : decode cX7_indents 20 = .ok (.ifCond .lt 16, 3) := by decide +kernel
theorem dX7_indents_23 : decode cX7_indents 23 = .ok (.iload_n 2, 1) := by decide +kernel
theorem dX7_indents_24 : decode cX7_indents 24 = .ok (.iload_n 1, 1) := by decide +kernel
theorem dX7_indents_25 : decode cX7_indents 25 = .ok (.if_icmp .lt 11, 3) := by decide +kernel
theorem dX7_indents_28 : decode cX7_indents 28 = .ok (.iload_n 2, 1) := by decide +kernel
theorem dX7_indents_29 : decode cX7_indents 29 = .ok (.aload_n 0, 1) := by decide +kernel
theorem dX7_indents_30 : decode cX7_indents 30 = .ok (.invokevirtual 245, 3) := by decide +kernel
theorem dX7_indents_33 : decode cX7_indents 33 = .ok (.if_icmp .lt 6, 3) := by decide +kernel
theorem dX7_indents_36 : decode cX7_indents 36 = .ok (.bipush (-2), 2) := by decide +kernel
theorem dX7_indents_38 : decode cX7_indents 38 = .ok (.ireturn, 1) := by decide +kernel
theorem dX7_indents_39 : decode cX7_indents 39 = .ok (.iload_n 2, 1) := by decide +kernel
theorem dX7_indents_40 : decode cX7_indents 40 = .ok (.iload_n 1, 1) := by decide +kernel
theorem dX7_indents_41 : decode cX7_indents 41 = .ok (.isub, 1) := by decide +kernel
theorem dX7_indents_42 : decode cX7_indents 42 = .ok (.iconst 1, 1) := by decide +kernel
theorem dX7_indents_43 : decode cX7_indents 43 = .ok (.iadd, 1) := by decide +kernel
theorem dX7_indents_44 : decode cX7_indents 44 = .ok (.iload_n 3, 1) := by decide +kernel
theorem dX7_indents_45 : decode cX7_indents 45 = .ok (.imul, 1) := by decide +kernel
theorem dX7_indents_46 : decode cX7_indents 46 = .ok (.istore 4, 2) := by decide +kernel
theorem dX7_indents_48 : decode cX7_indents 48 = .ok (.aload_n 0, 1) := by decide +kernel
theorem dX7_indents_49 : decode cX7_indents 49 = .ok (.getfield 123, 3) := by decide +kernel
theorem dX7_indents_52 : decode cX7_indents 52 = .ok (.iload 4, 2) := by decide +kernel
theorem dX7_indents_54 : decode cX7_indents 54 = .ok (.iadd, 1) := by decide +kernel
theorem dX7_indents_55 : decode cX7_indents 55 = .ok (.sipush 3000, 3) := by decide +kernel
theorem dX7_indents_58 : decode cX7_indents 58 = .ok (.if_icmp .le 6, 3) := by decide +kernel
theorem dX7_indents_61 : decode cX7_indents 61 = .ok (.bipush (-3), 2) := by decide +kernel
theorem dX7_indents_63 : decode cX7_indents 63 = .ok (.ireturn, 1) := by decide +kernel
theorem dX7_indents_64 : decode cX7_indents 64 = .ok (.aload_n 0, 1) := by decide +kernel
theorem dX7_indents_65 : decode cX7_indents 65 = .ok (.getfield 33, 3) := by decide +kernel
theorem dX7_indents_68 : decode cX7_indents 68 = .ok (.iload 4, 2) := by decide +kernel
theorem dX7_indents_70 : decode cX7_indents 70 = .ok (.iadd, 1) := by decide +kernel
theorem dX7_indents_71 : decode cX7_indents 71 = .ok (.sipush 6000, 3) := by decide +kernel
theorem dX7_indents_74 : decode cX7_indents 74 = .ok (.if_icmp .le 6, 3) := by decide +kernel
theorem dX7_indents_77 : decode cX7_indents 77 = .ok (.bipush (-4), 2) := by decide +kernel
theorem dX7_indents_79 : decode cX7_indents 79 = .ok (.ireturn, 1) := by decide +kernel
theorem dX7_indents_80 : decode cX7_indents 80 = .ok (.aload_n 0, 1) := by decide +kernel
theorem dX7_indents_81 : decode cX7_indents 81 = .ok (.invokevirtual 205, 3) := by decide +kernel
theorem dX7_indents_84 : decode cX7_indents 84 = .ok (.iload_n 2, 1) := by decide +kernel
theorem dX7_indents_85 : decode cX7_indents 85 = .ok (.istore 5, 2) := by decide +kernel
theorem dX7_indents_87 : decode cX7_indents 87 = .ok (.iload 5, 2) := by decide +kernel
theorem dX7_indents_89 : decode cX7_indents 89 = .ok (.iload_n 1, 1) := by decide +kernel
theorem dX7_indents_90 : decode cX7_indents 90 = .ok (.if_icmp .lt 76, 3) := by decide +kernel
theorem dX7_indents_93 : decode cX7_indents 93 = .ok (.aload_n 0, 1) := by decide +kernel
theorem dX7_indents_94 : decode cX7_indents 94 = .ok (.iload 5, 2) := by decide +kernel
theorem dX7_indents_96 : decode cX7_indents 96 = .ok (.invokevirtual 248, 3) := by decide +kernel
theorem dX7_indents_99 : decode cX7_indents 99 = .ok (.istore 6, 2) := by decide +kernel
theorem dX7_indents_101 : decode cX7_indents 101 = .ok (.aload_n 0, 1) := by decide +kernel
theorem dX7_indents_102 : decode cX7_indents 102 = .ok (.iload 6, 2) := by decide +kernel
theorem dX7_indents_104 : decode cX7_indents 104 = .ok (.invokevirtual 150, 3) := by decide +kernel
theorem dX7_indents_107 : decode cX7_indents 107 = .ok (.istore 7, 2) := by decide +kernel
theorem dX7_indents_109 : decode cX7_indents 109 = .ok (.iconst 0, 1) := by decide +kernel
theorem dX7_indents_110 : decode cX7_indents 110 = .ok (.istore 8, 2) := by decide +kernel
theorem dX7_indents_112 : decode cX7_indents 112 = .ok (.iload 8, 2) := by decide +kernel
theorem dX7_indents_114 : decode cX7_indents 114 = .ok (.iload_n 3, 1) := by decide +kernel
theorem dX7_indents_115 : decode cX7_indents 115 = .ok (.if_icmp .ge 30, 3) := by decide +kernel
theorem dX7_indents_118 : decode cX7_indents 118 = .ok (.aload_n 0, 1) := by decide +kernel
theorem dX7_indents_119 : decode cX7_indents 119 = .ok (.getfield 39, 3) := by decide +kernel
theorem dX7_indents_122 : decode cX7_indents 122 = .ok (.aload_n 0, 1) := by decide +kernel
theorem dX7_indents_123 : decode cX7_indents 123 = .ok (.getfield 33, 3) := by decide +kernel
theorem dX7_indents_126 : decode cX7_indents 126 = .ok (.bipush 32, 2) := by decide +kernel
theorem dX7_indents_128 : decode cX7_indents 128 = .ok (.iastore, 1) := by decide +kernel
theorem dX7_indents_129 : decode cX7_indents 129 = .ok (.aload_n 0, 1) := by decide +kernel
theorem dX7_indents_130 : decode cX7_indents 130 = .ok (.dup, 1) := by decide +kernel
theorem dX7_indents_131 : decode cX7_indents 131 = .ok (.getfield 33, 3) := by decide +kernel
theorem dX7_indents_134 : decode cX7_indents 134 = .ok (.iconst 1, 1) := by decide +kernel
theorem dX7_indents_135 : decode cX7_indents 135 = .ok (.iadd, 1) := by decide +kernel
theorem dX7_indents_136 : decode cX7_indents 136 = .ok (.putfield 33, 3) := by decide +kernel
theorem dX7_indents_139 : decode cX7_indents 139 = .ok (.iinc 8 1, 3) := by decide +kernel
theorem dX7_indents_142 : decode cX7_indents 142 = .ok (.goto (-30), 3) := by decide +kernel
theorem dX7_indents_145 : decode cX7_indents 145 = .ok (.aload_n 0, 1) := by decide +kernel
theorem dX7_indents_146 : decode cX7_indents 146 = .ok (.iload 6, 2) := by decide +kernel
theorem dX7_indents_148 : decode cX7_indents 148 = .ok (.aload_n 0, 1) := by decide +kernel
theorem dX7_indents_149 : decode cX7_indents 149 = .ok (.getfield 33, 3) := by decide +kernel
theorem dX7_indents_152 : decode cX7_indents 152 = .ok (.iload_n 3, 1) := by decide +kernel
theorem dX7_indents_153 : decode cX7_indents 153 = .ok (.isub, 1) := by decide +kernel
theorem dX7_indents_154 : decode cX7_indents 154 = .ok (.iload_n 3, 1) := by decide +kernel
theorem dX7_indents_155 : decode cX7_indents 155 = .ok (.iload 7, 2) := by decide +kernel
theorem dX7_indents_157 : decode cX7_indents 157 = .ok (.invokevirtual 153, 3) := by decide +kernel
theorem dX7_indents_160 : decode cX7_indents 160 = .ok (.iinc 5 (-1), 3) := by decide +kernel
theorem dX7_indents_163 : decode cX7_indents 163 = .ok (.goto (-76), 3) := by decide +kernel
theorem dX7_indents_166 : decode cX7_indents 166 = .ok (.aload_n 0, 1) := by decide +kernel
theorem dX7_indents_167 : decode cX7_indents 167 = .ok (.getfield 123, 3) := by decide +kernel
theorem dX7_indents_170 : decode cX7_indents 170 = .ok (.ireturn, 1) := by decide +kernel
theorem dX7_marks_0 : decode cX7_marks 0 = .ok (.aload_n 0, 1) := by decide +kernel
theorem dX7_marks_1 : decode cX7_marks 1 = .ok (.iconst 0, 1) := by decide +kernel
theorem dX7_marks_2 : decode cX7_marks 2 = .ok (.putfield 1, 3) := by decide +kernel
theorem dX7_marks_5 : decode cX7_marks 5 = .ok (.iload_n 1, 1) := by decide +kernel
theorem dX7_marks_6 : decode cX7_marks 6 = .ok (.i2l, 1) := by decide +kernel
theorem dX7_marks_7 : decode cX7_marks 7 = .ok (.lconst 0, 1) := by decide +kernel
theorem dX7_marks_8 : decode cX7_marks 8 = .ok (.ldc2_w 256, 3) := by decide +kernel
theorem dX7_marks_11 : decode cX7_marks 11 = .ok (.invokestatic 21, 3) := by decide +kernel
theorem dX7_marks_14 : decode cX7_marks 14 = .ok (.ifCond .eq 13, 3) := by decide +kernel
theorem dX7_marks_17 : decode cX7_marks 17 = .ok (.iload_n 3, 1) := by decide +kernel
theorem dX7_marks_18 : decode cX7_marks 18 = .ok (.i2l, 1) := by decide +kernel
theorem dX7_marks_19 : decode cX7_marks 19 = .ok (.lconst 0, 1) := by decide +kernel
theorem dX7_marks_20 : decode cX7_marks 20 = .ok (.lconst 1, 1) := by decide +kernel
theorem dX7_marks_21 : decode cX7_marks 21 = .ok (.invokestatic 21, 3) := by decide +kernel
theorem dX7_marks_24 : decode cX7_marks 24 = .ok (.ifCond .ne 6, 3) := by decide +kernel
theorem dX7_marks_27 : decode cX7_marks 27 = .ok (.bipush (-3), 2) := by decide +kernel
theorem dX7_marks_29 : decode cX7_marks 29 = .ok (.ireturn, 1) := by decide +kernel
theorem dX7_marks_30 : decode cX7_marks 30 = .ok (.iload_n 2, 1) := by decide +kernel
theorem dX7_marks_31 : decode cX7_marks 31 = .ok (.iconst (-1), 1) := by decide +kernel
theorem dX7_marks_32 : decode cX7_marks 32 = .ok (.if_icmp .eq 14, 3) := by decide +kernel
theorem dX7_marks_35 : decode cX7_marks 35 = .ok (.aload_n 0, 1) := by decide +kernel
theorem dX7_marks_36 : decode cX7_marks 36 = .ok (.iload_n 2, 1) := by decide +kernel
theorem dX7_marks_37 : decode cX7_marks 37 = .ok (.invokevirtual 202, 3) := by decide +kernel
theorem dX7_marks_40 : decode cX7_marks 40 = .ok (.ifCond .ne 6, 3) := by decide +kernel
theorem dX7_marks_43 : decode cX7_marks 43 = .ok (.bipush (-2), 2) := by decide +kernel
theorem dX7_marks_45 : decode cX7_marks 45 = .ok (.ireturn, 1) := by decide +kernel
theorem dX7_marks_46 : decode cX7_marks 46 = .ok (.aload_n 0, 1) := by decide +kernel
theorem dX7_marks_47 : decode cX7_marks 47 = .ok (.getfield 51, 3) := by decide +kernel
theorem dX7_marks_50 : decode cX7_marks 50 = .ok (.iload_n 1, 1) := by decide +kernel
theorem dX7_marks_51 : decode cX7_marks 51 = .ok (.iload_n 2, 1) := by decide +kernel
theorem dX7_marks_52 : decode cX7_marks 52 = .ok (.iastore, 1) := by decide +kernel
theorem dX7_marks_53 : decode cX7_marks 53 = .ok (.aload_n 0, 1) := by decide +kernel
theorem dX7_marks_54 : decode cX7_marks 54 = .ok (.getfield 54, 3) := by decide +kernel
theorem dX7_marks_57 : decode cX7_marks 57 = .ok (.iload_n 1, 1) := by decide +kernel
theorem dX7_marks_58 : decode cX7_marks 58 = .ok (.iload_n 3, 1) := by decide +kernel
theorem dX7_marks_59 : decode cX7_marks 59 = .ok (.iastore, 1) := by decide +kernel
theorem dX7_marks_60 : decode cX7_marks 60 = .ok (.aload_n 0, 1) := by decide +kernel
theorem dX7_marks_61 : decode cX7_marks 61 = .ok (.bipush (-5), 2) := by decide +kernel
theorem dX7_marks_63 : decode cX7_marks 63 = .ok (.putfield 74, 3) := by decide +kernel
theorem dX7_marks_66 : decode cX7_marks 66 = .ok (.iload_n 2, 1) := by decide +kernel
theorem dX7_marks_67 : decode cX7_marks 67 = .ok (.ireturn, 1) := by decide +kernel
theorem dX7_undoes_0 : decode cX7_undoes 0 = .ok (.aload_n 0, 1) := by decide +kernel
theorem dX7_undoes_1 : decode cX7_undoes 1 = .ok (.getfield 166, 3) := by decide +kernel
theorem dX7_undoes_4 : decode cX7_undoes 4 = .ok (.ifCond .ne 5, 3) := by decide +kernel
theorem dX7_undoes_7 : decode cX7_undoes 7 = .ok (.iconst (-1), 1) := by decide +kernel
theorem dX7_undoes_8 : decode cX7_undoes 8 = .ok (.ireturn, 1) := by decide +kernel
theorem dX7_undoes_9 : decode cX7_undoes 9 = .ok (.aload_n 0, 1) := by decide +kernel
theorem dX7_undoes_10 : decode cX7_undoes 10 = .ok (.getfield 68, 3) := by decide +kernel
theorem dX7_undoes_13 : decode cX7_undoes 13 = .ok (.aload_n 0, 1) := by decide +kernel
theorem dX7_undoes_14 : decode cX7_undoes 14 = .ok (.getfield 179, 3) := by decide +kernel
theorem dX7_undoes_17 : decode cX7_undoes 17 = .ok (.aload_n 0, 1) := by decide +kernel
theorem dX7_undoes_18 : decode cX7_undoes 18 = .ok (.invokevirtual 169, 3) := by decide +kernel
theorem dX7_undoes_21 : decode cX7_undoes 21 = .ok (.aastore, 1) := by decide +kernel
theorem dX7_undoes_22 : decode cX7_undoes 22 = .ok (.aload_n 0, 1) := by decide +kernel
theorem dX7_undoes_23 : decode cX7_undoes 23 = .ok (.getfield 71, 3) := by decide +kernel
theorem dX7_undoes_26 : decode cX7_undoes 26 = .ok (.aload_n 0, 1) := by decide +kernel
theorem dX7_undoes_27 : decode cX7_undoes 27 = .ok (.getfield 179, 3) := by decide +kernel
theorem dX7_undoes_30 : decode cX7_undoes 30 = .ok (.aload_n 0, 1) := by decide +kernel
theorem dX7_undoes_31 : decode cX7_undoes 31 = .ok (.invokevirtual 173, 3) := by decide +kernel
theorem dX7_undoes_34 : decode cX7_undoes 34 = .ok (.aastore, 1) := by decide +kernel
theorem dX7_undoes_35 : decode cX7_undoes 35 = .ok (.aload_n 0, 1) := by decide +kernel
theorem dX7_undoes_36 : decode cX7_undoes 36 = .ok (.dup, 1) := by decide +kernel
theorem dX7_undoes_37 : decode cX7_undoes 37 = .ok (.getfield 179, 3) := by decide +kernel
theorem dX7_undoes_40 : decode cX7_undoes 40 = .ok (.iconst 1, 1) := by decide +kernel
theorem dX7_undoes_41 : decode cX7_undoes 41 = .ok (.iadd, 1) := by decide +kernel
theorem dX7_undoes_42 : decode cX7_undoes 42 = .ok (.putfield 179, 3) := by decide +kernel
theorem dX7_undoes_45 : decode cX7_undoes 45 = .ok (.aload_n 0, 1) := by decide +kernel
theorem dX7_undoes_46 : decode cX7_undoes 46 = .ok (.dup, 1) := by decide +kernel
theorem dX7_undoes_47 : decode cX7_undoes 47 = .ok (.getfield 166, 3) := by decide +kernel
theorem dX7_undoes_50 : decode cX7_undoes 50 = .ok (.iconst 1, 1) := by decide +kernel
theorem dX7_undoes_51 : decode cX7_undoes 51 = .ok (.isub, 1) := by decide +kernel
theorem dX7_undoes_52 : decode cX7_undoes 52 = .ok (.putfield 166, 3) := by decide +kernel
theorem dX7_undoes_55 : decode cX7_undoes 55 = .ok (.aload_n 0, 1) := by decide +kernel
theorem dX7_undoes_56 : decode cX7_undoes 56 = .ok (.aload_n 0, 1) := by decide +kernel
theorem dX7_undoes_57 : decode cX7_undoes 57 = .ok (.getfield 61, 3) := by decide +kernel
theorem dX7_undoes_60 : decode cX7_undoes 60 = .ok (.aload_n 0, 1) := by decide +kernel
theorem dX7_undoes_61 : decode cX7_undoes 61 = .ok (.getfield 166, 3) := by decide +kernel
theorem dX7_undoes_64 : decode cX7_undoes 64 = .ok (.aaload, 1) := by decide +kernel
theorem dX7_undoes_65 : decode cX7_undoes 65 = .ok (.aload_n 0, 1) := by decide +kernel
theorem dX7_undoes_66 : decode cX7_undoes 66 = .ok (.getfield 65, 3) := by decide +kernel
theorem dX7_undoes_69 : decode cX7_undoes 69 = .ok (.aload_n 0, 1) := by decide +kernel
theorem dX7_undoes_70 : decode cX7_undoes 70 = .ok (.getfield 166, 3) := by decide +kernel
theorem dX7_undoes_73 : decode cX7_undoes 73 = .ok (.aaload, 1) := by decide +kernel
theorem dX7_undoes_74 : decode cX7_undoes 74 = .ok (.invokevirtual 258, 3) := by decide +kernel
theorem dX7_undoes_77 : decode cX7_undoes 77 = .ok (.aload_n 0, 1) := by decide +kernel
theorem dX7_undoes_78 : decode cX7_undoes 78 = .ok (.bipush (-5), 2) := by decide +kernel
theorem dX7_undoes_80 : decode cX7_undoes 80 = .ok (.putfield 74, 3) := by decide +kernel
theorem dX7_undoes_83 : decode cX7_undoes 83 = .ok (.aload_n 0, 1) := by decide +kernel
theorem dX7_undoes_84 : decode cX7_undoes 84 = .ok (.getfield 166, 3) := by decide +kernel
theorem dX7_undoes_87 : decode cX7_undoes 87 = .ok (.ireturn, 1) := by decide +kernel
theorem dX7_redoes_0 : decode cX7_redoes 0 = .ok (.aload_n 0, 1) := by decide +kernel
theorem dX7_redoes_1 : decode cX7_redoes 1 = .ok (.getfield 179, 3) := by decide +kernel
theorem dX7_redoes_4 : decode cX7_redoes 4 = .ok (.ifCond .ne 5, 3) := by decide +kernel
theorem dX7_redoes_7 : decode cX7_redoes 7 = .ok (.iconst (-1), 1) := by decide +kernel
theorem dX7_redoes_8 : decode cX7_redoes 8 = .ok (.ireturn, 1) := by decide +kernel
theorem dX7_redoes_9 : decode cX7_redoes 9 = .ok (.aload_n 0, 1) := by decide +kernel
theorem dX7_redoes_10 : decode cX7_redoes 10 = .ok (.invokevirtual 176, 3) := by decide +kernel
theorem dX7_redoes_13 : decode cX7_redoes 13 = .ok (.aload_n 0, 1) := by decide +kernel
theorem dX7_redoes_14 : decode cX7_redoes 14 = .ok (.dup, 1) := by decide +kernel
theorem dX7_redoes_15 : decode cX7_redoes 15 = .ok (.getfield 179, 3) := by decide +kernel
theorem dX7_redoes_18 : decode cX7_redoes 18 = .ok (.iconst 1, 1) := by decide +kernel
theorem dX7_redoes_19 : decode cX7_redoes 19 = .ok (.isub, 1) := by decide +kernel
theorem dX7_redoes_20 : decode cX7_redoes 20 = .ok (.putfield 179, 3) := by decide +kernel
theorem dX7_redoes_23 : decode cX7_redoes 23 = .ok (.aload_n 0, 1) := by decide +kernel
theorem dX7_redoes_24 : decode cX7_redoes 24 = .ok (.aload_n 0, 1) := by decide +kernel
theorem dX7_redoes_25 : decode cX7_redoes 25 = .ok (.getfield 68, 3) := by decide +kernel
theorem dX7_redoes_28 : decode cX7_redoes 28 = .ok (.aload_n 0, 1) := by decide +kernel
theorem dX7_redoes_29 : decode cX7_redoes 29 = .ok (.getfield 179, 3) := by decide +kernel
theorem dX7_redoes_32 : decode cX7_redoes 32 = .ok (.aaload, 1) := by decide +kernel
theorem dX7_redoes_33 : decode cX7_redoes 33 = .ok (.aload_n 0, 1) := by decide +kernel
theorem dX7_redoes_34 : decode cX7_redoes 34 = .ok (.getfield 71, 3) := by decide +kernel
theorem dX7_redoes_37 : decode cX7_redoes 37 = .ok (.aload_n 0, 1) := by decide +kernel
theorem dX7_redoes_38 : decode cX7_redoes 38 = .ok (.getfield 179, 3) := by decide +kernel
theorem dX7_redoes_41 : decode cX7_redoes 41 = .ok (.aaload, 1) := by decide +kernel
theorem dX7_redoes_42 : decode cX7_redoes 42 = .ok (.invokevirtual 258, 3) := by decide +kernel
theorem dX7_redoes_45 : decode cX7_redoes 45 = .ok (.aload_n 0, 1) := by decide +kernel
theorem dX7_redoes_46 : decode cX7_redoes 46 = .ok (.bipush (-5), 2) := by decide +kernel
theorem dX7_redoes_48 : decode cX7_redoes 48 = .ok (.putfield 74, 3) := by decide +kernel
theorem dX7_redoes_51 : decode cX7_redoes 51 = .ok (.aload_n 0, 1) := by decide +kernel
theorem dX7_redoes_52 : decode cX7_redoes 52 = .ok (.getfield 179, 3) := by decide +kernel
theorem dX7_redoes_55 : decode cX7_redoes 55 = .ok (.ireturn, 1) := by decide +kernel
theorem dX7_undo_0 : decode cX7_undo 0 = .ok (.aload_n 0, 1) := by decide +kernel
theorem dX7_undo_1 : decode cX7_undo 1 = .ok (.iconst 0, 1) := by decide +kernel
theorem dX7_undo_2 : decode cX7_undo 2 = .ok (.putfield 1, 3) := by decide +kernel
theorem dX7_undo_5 : decode cX7_undo 5 = .ok (.aload_n 0, 1) := by decide +kernel
theorem dX7_undo_6 : decode cX7_undo 6 = .ok (.invokevirtual 262, 3) := by decide +kernel
theorem dX7_undo_9 : decode cX7_undo 9 = .ok (.ireturn, 1) := by decide +kernel
theorem dX7_redo_0 : decode cX7_redo 0 = .ok (.aload_n 0, 1) := by decide +kernel
theorem dX7_redo_1 : decode cX7_redo 1 = .ok (.iconst 0, 1) := by decide +kernel
theorem dX7_redo_2 : decode cX7_redo 2 = .ok (.putfield 1, 3) := by decide +kernel
theorem dX7_redo_5 : decode cX7_redo 5 = .ok (.aload_n 0, 1) := by decide +kernel
theorem dX7_redo_6 : decode cX7_redo 6 = .ok (.invokevirtual 265, 3) := by decide +kernel
theorem dX7_redo_9 : decode cX7_redo 9 = .ok (.ireturn, 1) := by decide +kernel
theorem dX7_digits_0 : decode cX7_digits 0 = .ok (.iconst 0, 1) := by decide +kernel
theorem dX7_digits_1 : decode cX7_digits 1 = .ok (.istore_n 2, 1) := by decide +kernel
theorem dX7_digits_2 : decode cX7_digits 2 = .ok (.iconst 0, 1) := by decide +kernel
theorem dX7_digits_3 : decode cX7_digits 3 = .ok (.istore_n 3, 1) := by decide +kernel
theorem dX7_digits_4 : decode cX7_digits 4 = .ok (.iload_n 3, 1) := by decide +kernel
theorem dX7_digits_5 : decode cX7_digits 5 = .ok (.iload_n 1, 1) := by decide +kernel
theorem dX7_digits_6 : decode cX7_digits 6 = .ok (.if_icmp .ge 72, 3) := by decide +kernel
theorem dX7_digits_9 : decode cX7_digits 9 = .ok (.aload_n 0, 1) := by decide +kernel
theorem dX7_digits_10 : decode cX7_digits 10 = .ok (.getfield 268, 3) := by decide +kernel
theorem dX7_digits_13 : decode cX7_digits 13 = .ok (.aload_n 0, 1) := by decide +kernel
theorem dX7_digits_14 : decode cX7_digits 14 = .ok (.getfield 25, 3) := by decide +kernel
theorem dX7_digits_17 : decode cX7_digits 17 = .ok (.if_icmp .ge 25, 3) := by decide +kernel
theorem dX7_digits_20 : decode cX7_digits 20 = .ok (.aload_n 0, 1) := by decide +kernel
theorem dX7_digits_21 : decode cX7_digits 21 = .ok (.getfield 17, 3) := by decide +kernel
theorem dX7_digits_24 : decode cX7_digits 24 = .ok (.aload_n 0, 1) := by decide +kernel
theorem dX7_digits_25 : decode cX7_digits 25 = .ok (.getfield 268, 3) := by decide +kernel
theorem dX7_digits_28 : decode cX7_digits 28 = .ok (.iaload, 1) := by decide +kernel
theorem dX7_digits_29 : decode cX7_digits 29 = .ok (.i2l, 1) := by decide +kernel
theorem dX7_digits_30 : decode cX7_digits 30 = .ok (.ldc2_w 271, 3) := by decide +kernel
theorem dX7_digits_33 : decode cX7_digits 33 = .ok (.ldc2_w 273, 3) := by decide +kernel
theorem dX7_digits_36 : decode cX7_digits 36 = .ok (.invokestatic 21, 3) := by decide +kernel
theorem dX7_digits_39 : decode cX7_digits 39 = .ok (.ifCond .ne 5, 3) := by decide +kernel
theorem dX7_digits_42 : decode cX7_digits 42 = .ok (.iconst (-1), 1) := by decide +kernel
theorem dX7_digits_43 : decode cX7_digits 43 = .ok (.ireturn, 1) := by decide +kernel
theorem dX7_digits_44 : decode cX7_digits 44 = .ok (.bipush 10, 2) := by decide +kernel
theorem dX7_digits_46 : decode cX7_digits 46 = .ok (.iload_n 2, 1) := by decide +kernel
theorem dX7_digits_47 : decode cX7_digits 47 = .ok (.imul, 1) := by decide +kernel
theorem dX7_digits_48 : decode cX7_digits 48 = .ok (.aload_n 0, 1) := by decide +kernel
theorem dX7_digits_49 : decode cX7_digits 49 = .ok (.getfield 17, 3) := by decide +kernel
theorem dX7_digits_52 : decode cX7_digits 52 = .ok (.aload_n 0, 1) := by decide +kernel
theorem dX7_digits_53 : decode cX7_digits 53 = .ok (.getfield 268, 3) := by decide +kernel
theorem dX7_digits_56 : decode cX7_digits 56 = .ok (.iaload, 1) := by decide +kernel
theorem dX7_digits_57 : decode cX7_digits 57 = .ok (.iadd, 1) := by decide +kernel
theorem dX7_digits_58 : decode cX7_digits 58 = .ok (.bipush 48, 2) := by decide +kernel
theorem dX7_digits_60 : decode cX7_digits 60 = .ok (.isub, 1) := by decide +kernel
theorem dX7_digits_61 : decode cX7_digits 61 = .ok (.istore_n 2, 1) := by decide +kernel
theorem dX7_digits_62 : decode cX7_digits 62 = .ok (.aload_n 0, 1) := by decide +kernel
theorem dX7_digits_63 : decode cX7_digits 63 = .ok (.dup, 1) := by decide +kernel
theorem dX7_digits_64 : decode cX7_digits 64 = .ok (.getfield 268, 3) := by decide +kernel
theorem dX7_digits_67 : decode cX7_digits 67 = .ok (.iconst 1, 1) := by decide +kernel
theorem dX7_digits_68 : decode cX7_digits 68 = .ok (.iadd, 1) := by decide +kernel
theorem dX7_digits_69 : decode cX7_digits 69 = .ok (.putfield 268, 3) := by decide +kernel
theorem dX7_digits_72 : decode cX7_digits 72 = .ok (.iinc 3 1, 3) := by decide +kernel
theorem dX7_digits_75 : decode cX7_digits 75 = .ok (.goto (-71), 3) := by decide +kernel
theorem dX7_digits_78 : decode cX7_digits 78 = .ok (.iload_n 2, 1) := by decide +kernel
theorem dX7_digits_79 : decode cX7_digits 79 = .ok (.ireturn, 1) := by decide +kernel
theorem dX7_letter_0 : decode cX7_letter 0 = .ok (.aload_n 0, 1) := by decide +kernel
theorem dX7_letter_1 : decode cX7_letter 1 = .ok (.getfield 268, 3) := by decide +kernel
theorem dX7_letter_4 : decode cX7_letter 4 = .ok (.aload_n 0, 1) := by decide +kernel
theorem dX7_letter_5 : decode cX7_letter 5 = .ok (.getfield 25, 3) := by decide +kernel
theorem dX7_letter_8 : decode cX7_letter 8 = .ok (.if_icmp .ge 39, 3) := by decide +kernel
theorem dX7_letter_11 : decode cX7_letter 11 = .ok (.aload_n 0, 1) := by decide +kernel
theorem dX7_letter_12 : decode cX7_letter 12 = .ok (.getfield 17, 3) := by decide +kernel
theorem dX7_letter_15 : decode cX7_letter 15 = .ok (.aload_n 0, 1) := by decide +kernel
theorem dX7_letter_16 : decode cX7_letter 16 = .ok (.getfield 268, 3) := by decide +kernel
theorem dX7_letter_19 : decode cX7_letter 19 = .ok (.iaload, 1) := by decide +kernel
theorem dX7_letter_20 : decode cX7_letter 20 = .ok (.bipush 47, 2) := by decide +kernel
theorem dX7_letter_22 : decode cX7_letter 22 = .ok (.if_icmp .eq 27, 3) := by decide +kernel
theorem dX7_letter_25 : decode cX7_letter 25 = .ok (.aload_n 0, 1) := by decide +kernel
theorem dX7_letter_26 : decode cX7_letter 26 = .ok (.getfield 17, 3) := by decide +kernel
theorem dX7_letter_29 : decode cX7_letter 29 = .ok (.aload_n 0, 1) := by decide +kernel
theorem dX7_letter_30 : decode cX7_letter 30 = .ok (.getfield 268, 3) := by decide +kernel
theorem dX7_letter_33 : decode cX7_letter 33 = .ok (.iaload, 1) := by decide +kernel
theorem dX7_letter_34 : decode cX7_letter 34 = .ok (.i2l, 1) := by decide +kernel
theorem dX7_letter_35 : decode cX7_letter 35 = .ok (.ldc2_w 275, 3) := by decide +kernel
theorem dX7_letter_38 : decode cX7_letter 38 = .ok (.ldc2_w 277, 3) := by decide +kernel
theorem dX7_letter_41 : decode cX7_letter 41 = .ok (.invokestatic 21, 3) := by decide +kernel
theorem dX7_letter_44 : decode cX7_letter 44 = .ok (.ifCond .ne 5, 3) := by decide +kernel
theorem dX7_letter_47 : decode cX7_letter 47 = .ok (.iconst (-1), 1) := by decide +kernel
theorem dX7_letter_48 : decode cX7_letter 48 = .ok (.ireturn, 1) := by decide +kernel
theorem dX7_letter_49 : decode cX7_letter 49 = .ok (.aload_n 0, 1) := by decide +kernel
theorem dX7_letter_50 : decode cX7_letter 50 = .ok (.dup, 1) := by decide +kernel
theorem dX7_letter_51 : decode cX7_letter 51 = .ok (.getfield 268, 3) := by decide +kernel
theorem dX7_letter_54 : decode cX7_letter 54 = .ok (.iconst 1, 1) := by decide +kernel
theorem dX7_letter_55 : decode cX7_letter 55 = .ok (.iadd, 1) := by decide +kernel
theorem dX7_letter_56 : decode cX7_letter 56 = .ok (.putfield 268, 3) := by decide +kernel
theorem dX7_letter_59 : decode cX7_letter 59 = .ok (.aload_n 0, 1) := by decide +kernel
theorem dX7_letter_60 : decode cX7_letter 60 = .ok (.getfield 17, 3) := by decide +kernel
theorem dX7_letter_63 : decode cX7_letter 63 = .ok (.aload_n 0, 1) := by decide +kernel
theorem dX7_letter_64 : decode cX7_letter 64 = .ok (.getfield 268, 3) := by decide +kernel
theorem dX7_letter_67 : decode cX7_letter 67 = .ok (.iconst 1, 1) := by decide +kernel
theorem dX7_letter_68 : decode cX7_letter 68 = .ok (.isub, 1) := by decide +kernel
theorem dX7_letter_69 : decode cX7_letter 69 = .ok (.iaload, 1) := by decide +kernel
theorem dX7_letter_70 : decode cX7_letter 70 = .ok (.bipush 47, 2) := by decide +kernel
theorem dX7_letter_72 : decode cX7_letter 72 = .ok (.if_icmp .ne 8, 3) := by decide +kernel
theorem dX7_letter_75 : decode cX7_letter 75 = .ok (.bipush 10, 2) := by decide +kernel
theorem dX7_letter_77 : decode cX7_letter 77 = .ok (.goto 14, 3) := by decide +kernel
theorem dX7_letter_80 : decode cX7_letter 80 = .ok (.aload_n 0, 1) := by decide +kernel
theorem dX7_letter_81 : decode cX7_letter 81 = .ok (.getfield 17, 3) := by decide +kernel
theorem dX7_letter_84 : decode cX7_letter 84 = .ok (.aload_n 0, 1) := by decide +kernel
theorem dX7_letter_85 : decode cX7_letter 85 = .ok (.getfield 268, 3) := by decide +kernel
theorem dX7_letter_88 : decode cX7_letter 88 = .ok (.iconst 1, 1) := by decide +kernel
theorem dX7_letter_89 : decode cX7_letter 89 = .ok (.isub, 1) := by decide +kernel
theorem dX7_letter_90 : decode cX7_letter 90 = .ok (.iaload, 1) := by decide +kernel
theorem dX7_letter_91 : decode cX7_letter 91 = .ok (.ireturn, 1) := by decide +kernel
theorem dX7_readsAct_0 : decode cX7_readsAct 0 = .ok (.aload_n 0, 1) := by decide +kernel
theorem dX7_readsAct_1 : decode cX7_readsAct 1 = .ok (.getfield 17, 3) := by decide +kernel
theorem dX7_readsAct_4 : decode cX7_readsAct 4 = .ok (.aload_n 0, 1) := by decide +kernel
theorem dX7_readsAct_5 : decode cX7_readsAct 5 = .ok (.getfield 268, 3) := by decide +kernel
theorem dX7_readsAct_8 : decode cX7_readsAct 8 = .ok (.iaload, 1) := by decide +kernel
theorem dX7_readsAct_9 : decode cX7_readsAct 9 = .ok (.istore_n 1, 1) := by decide +kernel
theorem dX7_readsAct_10 : decode cX7_readsAct 10 = .ok (.iload_n 1, 1) := by decide +kernel
theorem dX7_readsAct_11 : decode cX7_readsAct 11 = .ok (.bipush 105, 2) := by decide +kernel
theorem dX7_readsAct_13 : decode cX7_readsAct 13 = .ok (.if_icmp .eq 41, 3) := by decide +kernel
theorem dX7_readsAct_16 : decode cX7_readsAct 16 = .ok (.iload_n 1, 1) := by decide +kernel
theorem dX7_readsAct_17 : decode cX7_readsAct 17 = .ok (.bipush 100, 2) := by decide +kernel
theorem dX7_readsAct_19 : decode cX7_readsAct 19 = .ok (.if_icmp .eq 35, 3) := by decide +kernel
theorem dX7_readsAct_22 : decode cX7_readsAct 22 = .ok (.iload_n 1, 1) := by decide +kernel
theorem dX7_readsAct_23 : decode cX7_readsAct 23 = .ok (.bipush 108, 2) := by decide +kernel
theorem dX7_readsAct_25 : decode cX7_readsAct 25 = .ok (.if_icmp .eq 29, 3) := by decide +kernel
theorem dX7_readsAct_28 : decode cX7_readsAct 28 = .ok (.iload_n 1, 1) := by decide +kernel
theorem dX7_readsAct_29 : decode cX7_readsAct 29 = .ok (.bipush 109, 2) := by decide +kernel
theorem dX7_readsAct_31 : decode cX7_readsAct 31 = .ok (.if_icmp .eq 23, 3) := by decide +kernel
theorem dX7_readsAct_34 : decode cX7_readsAct 34 = .ok (.iload_n 1, 1) := by decide +kernel
theorem dX7_readsAct_35 : decode cX7_readsAct 35 = .ok (.bipush 104, 2) := by decide +kernel
theorem dX7_readsAct_37 : decode cX7_readsAct 37 = .ok (.if_icmp .eq 17, 3) := by decide +kernel
theorem dX7_readsAct_40 : decode cX7_readsAct 40 = .ok (.iload_n 1, 1) := by decide +kernel
theorem dX7_readsAct_41 : decode cX7_readsAct 41 = .ok (.bipush 117, 2) := by decide +kernel
theorem dX7_readsAct_43 : decode cX7_readsAct 43 = .ok (.if_icmp .eq 11, 3) := by decide +kernel
theorem dX7_readsAct_46 : decode cX7_readsAct 46 = .ok (.iload_n 1, 1) := by decide +kernel
theorem dX7_readsAct_47 : decode cX7_readsAct 47 = .ok (.bipush 114, 2) := by decide +kernel
theorem dX7_readsAct_49 : decode cX7_readsAct 49 = .ok (.if_icmp .eq 5, 3) := by decide +kernel
theorem dX7_readsAct_52 : decode cX7_readsAct 52 = .ok (.iconst 0, 1) := by decide +kernel
theorem dX7_readsAct_53 : decode cX7_readsAct 53 = .ok (.ireturn, 1) := by decide +kernel
theorem dX7_readsAct_54 : decode cX7_readsAct 54 = .ok (.aload_n 0, 1) := by decide +kernel
theorem dX7_readsAct_55 : decode cX7_readsAct 55 = .ok (.dup, 1) := by decide +kernel
theorem dX7_readsAct_56 : decode cX7_readsAct 56 = .ok (.getfield 268, 3) := by decide +kernel
theorem dX7_readsAct_59 : decode cX7_readsAct 59 = .ok (.iconst 1, 1) := by decide +kernel
theorem dX7_readsAct_60 : decode cX7_readsAct 60 = .ok (.iadd, 1) := by decide +kernel
theorem dX7_readsAct_61 : decode cX7_readsAct 61 = .ok (.putfield 268, 3) := by decide +kernel
theorem dX7_readsAct_64 : decode cX7_readsAct 64 = .ok (.aload_n 0, 1) := by decide +kernel
theorem dX7_readsAct_65 : decode cX7_readsAct 65 = .ok (.getfield 86, 3) := by decide +kernel
theorem dX7_readsAct_68 : decode cX7_readsAct 68 = .ok (.aload_n 0, 1) := by decide +kernel
theorem dX7_readsAct_69 : decode cX7_readsAct 69 = .ok (.getfield 279, 3) := by decide +kernel
theorem dX7_readsAct_72 : decode cX7_readsAct 72 = .ok (.iload_n 1, 1) := by decide +kernel
theorem dX7_readsAct_73 : decode cX7_readsAct 73 = .ok (.iastore, 1) := by decide +kernel
theorem dX7_readsAct_74 : decode cX7_readsAct 74 = .ok (.aload_n 0, 1) := by decide +kernel
theorem dX7_readsAct_75 : decode cX7_readsAct 75 = .ok (.dup, 1) := by decide +kernel
theorem dX7_readsAct_76 : decode cX7_readsAct 76 = .ok (.getfield 279, 3) := by decide +kernel
theorem dX7_readsAct_79 : decode cX7_readsAct 79 = .ok (.iconst 1, 1) := by decide +kernel
theorem dX7_readsAct_80 : decode cX7_readsAct 80 = .ok (.iadd, 1) := by decide +kernel
theorem dX7_readsAct_81 : decode cX7_readsAct 81 = .ok (.putfield 279, 3) := by decide +kernel
theorem dX7_readsAct_84 : decode cX7_readsAct 84 = .ok (.iload_n 1, 1) := by decide +kernel
theorem dX7_readsAct_85 : decode cX7_readsAct 85 = .ok (.bipush 104, 2) := by decide +kernel
theorem dX7_readsAct_87 : decode cX7_readsAct 87 = .ok (.if_icmp .eq 15, 3) := by decide +kernel
theorem dX7_readsAct_90 : decode cX7_readsAct 90 = .ok (.iload_n 1, 1) := by decide +kernel
theorem dX7_readsAct_91 : decode cX7_readsAct 91 = .ok (.bipush 117, 2) := by decide +kernel
theorem dX7_readsAct_93 : decode cX7_readsAct 93 = .ok (.if_icmp .eq 9, 3) := by decide +kernel
theorem dX7_readsAct_96 : decode cX7_readsAct 96 = .ok (.iload_n 1, 1) := by decide +kernel
theorem dX7_readsAct_97 : decode cX7_readsAct 97 = .ok (.bipush 114, 2) := by decide +kernel
theorem dX7_readsAct_99 : decode cX7_readsAct 99 = .ok (.if_icmp .ne 5, 3) := by decide +kernel
theorem dX7_readsAct_102 : decode cX7_readsAct 102 = .ok (.iconst 1, 1) := by decide +kernel
theorem dX7_readsAct_103 : decode cX7_readsAct 103 = .ok (.ireturn, 1) := by decide +kernel
theorem dX7_readsAct_104 : decode cX7_readsAct 104 = .ok (.aload_n 0, 1) := by decide +kernel
theorem dX7_readsAct_105 : decode cX7_readsAct 105 = .ok (.getfield 279, 3) := by decide +kernel
theorem dX7_readsAct_108 : decode cX7_readsAct 108 = .ok (.iconst 1, 1) := by decide +kernel
theorem dX7_readsAct_109 : decode cX7_readsAct 109 = .ok (.isub, 1) := by decide +kernel
theorem dX7_readsAct_110 : decode cX7_readsAct 110 = .ok (.istore_n 2, 1) := by decide +kernel
theorem dX7_readsAct_111 : decode cX7_readsAct 111 = .ok (.aload_n 0, 1) := by decide +kernel
theorem dX7_readsAct_112 : decode cX7_readsAct 112 = .ok (.getfield 89, 3) := by decide +kernel
theorem dX7_readsAct_115 : decode cX7_readsAct 115 = .ok (.iload_n 2, 1) := by decide +kernel
theorem dX7_readsAct_116 : decode cX7_readsAct 116 = .ok (.aload_n 0, 1) := by decide +kernel
theorem dX7_readsAct_117 : decode cX7_readsAct 117 = .ok (.iconst 4, 1) := by decide +kernel
theorem dX7_readsAct_118 : decode cX7_readsAct 118 = .ok (.invokevirtual 282, 3) := by decide +kernel
theorem dX7_readsAct_121 : decode cX7_readsAct 121 = .ok (.iastore, 1) := by decide +kernel
theorem dX7_readsAct_122 : decode cX7_readsAct 122 = .ok (.aload_n 0, 1) := by decide +kernel
theorem dX7_readsAct_123 : decode cX7_readsAct 123 = .ok (.getfield 92, 3) := by decide +kernel
theorem dX7_readsAct_126 : decode cX7_readsAct 126 = .ok (.iload_n 2, 1) := by decide +kernel
theorem dX7_readsAct_127 : decode cX7_readsAct 127 = .ok (.aload_n 0, 1) := by decide +kernel
theorem dX7_readsAct_128 : decode cX7_readsAct 128 = .ok (.getfield 89, 3) := by decide +kernel
theorem dX7_readsAct_131 : decode cX7_readsAct 131 = .ok (.iload_n 2, 1) := by decide +kernel
theorem dX7_readsAct_132 : decode cX7_readsAct 132 = .ok (.iaload, 1) := by decide +kernel
theorem dX7_readsAct_133 : decode cX7_readsAct 133 = .ok (.ifCond .ge 7, 3) := by decide +kernel
theorem dX7_readsAct_136 : decode cX7_readsAct 136 = .ok (.iconst (-1), 1) := by decide +kernel
theorem dX7_readsAct_137 : decode cX7_readsAct 137 = .ok (.goto 21, 3) := by decide +kernel
theorem dX7_readsAct_140 : decode cX7_readsAct 140 = .ok (.iload_n 1, 1) := by decide +kernel
theorem dX7_readsAct_141 : decode cX7_readsAct 141 = .ok (.bipush 105, 2) := by decide +kernel
theorem dX7_readsAct_143 : decode cX7_readsAct 143 = .ok (.if_icmp .ne 10, 3) := by decide +kernel
theorem dX7_readsAct_146 : decode cX7_readsAct 146 = .ok (.aload_n 0, 1) := by decide +kernel
theorem dX7_readsAct_147 : decode cX7_readsAct 147 = .ok (.invokevirtual 285, 3) := by decide +kernel
theorem dX7_readsAct_150 : decode cX7_readsAct 150 = .ok (.goto 8, 3) := by decide +kernel
theorem dX7_readsAct_153 : decode cX7_readsAct 153 = .ok (.aload_n 0, 1) := by decide +kernel
theorem dX7_readsAct_154 : decode cX7_readsAct 154 = .ok (.iconst 2, 1) := by decide +kernel
theorem dX7_readsAct_155 : decode cX7_readsAct 155 = .ok (.invokevirtual 282, 3) := by decide +kernel
theorem dX7_readsAct_158 : decode cX7_readsAct 158 = .ok (.iastore, 1) := by decide +kernel
theorem dX7_readsAct_159 : decode cX7_readsAct 159 = .ok (.aload_n 0, 1) := by decide +kernel
theorem dX7_readsAct_160 : decode cX7_readsAct 160 = .ok (.getfield 92, 3) := by decide +kernel
theorem dX7_readsAct_163 : decode cX7_readsAct 163 = .ok (.iload_n 2, 1) := by decide +kernel
theorem dX7_readsAct_164 : decode cX7_readsAct 164 = .ok (.iaload, 1) := by decide +kernel
theorem dX7_readsAct_165 : decode cX7_readsAct 165 = .ok (.ifCond .lt 15, 3) := by decide +kernel
theorem dX7_readsAct_168 : decode cX7_readsAct 168 = .ok (.iload_n 1, 1) := by decide +kernel
theorem dX7_readsAct_169 : decode cX7_readsAct 169 = .ok (.bipush 105, 2) := by decide +kernel
theorem dX7_readsAct_171 : decode cX7_readsAct 171 = .ok (.if_icmp .eq 9, 3) := by decide +kernel
theorem dX7_readsAct_174 : decode cX7_readsAct 174 = .ok (.iload_n 1, 1) := by decide +kernel
theorem dX7_readsAct_175 : decode cX7_readsAct 175 = .ok (.bipush 100, 2) := by decide +kernel
theorem dX7_readsAct_177 : decode cX7_readsAct 177 = .ok (.if_icmp .ne 18, 3) := by decide +kernel
theorem dX7_readsAct_180 : decode cX7_readsAct 180 = .ok (.aload_n 0, 1) := by decide +kernel
theorem dX7_readsAct_181 : decode cX7_readsAct 181 = .ok (.getfield 92, 3) := by decide +kernel
theorem dX7_readsAct_184 : decode cX7_readsAct 184 = .ok (.iload_n 2, 1) := by decide +kernel
theorem dX7_readsAct_185 : decode cX7_readsAct 185 = .ok (.iaload, 1) := by decide +kernel
theorem dX7_readsAct_186 : decode cX7_readsAct 186 = .ok (.ifCond .lt 7, 3) := by decide +kernel
theorem dX7_readsAct_189 : decode cX7_readsAct 189 = .ok (.iconst 1, 1) := by decide +kernel
theorem dX7_readsAct_190 : decode cX7_readsAct 190 = .ok (.goto 4, 3) := by decide +kernel
theorem dX7_readsAct_193 : decode cX7_readsAct 193 = .ok (.iconst 0, 1) := by decide +kernel
theorem dX7_readsAct_194 : decode cX7_readsAct 194 = .ok (.ireturn, 1) := by decide +kernel
theorem dX7_readsAct_195 : decode cX7_readsAct 195 = .ok (.aload_n 0, 1) := by decide +kernel
theorem dX7_readsAct_196 : decode cX7_readsAct 196 = .ok (.getfield 95, 3) := by decide +kernel
theorem dX7_readsAct_199 : decode cX7_readsAct 199 = .ok (.iload_n 2, 1) := by decide +kernel
theorem dX7_readsAct_200 : decode cX7_readsAct 200 = .ok (.aload_n 0, 1) := by decide +kernel
theorem dX7_readsAct_201 : decode cX7_readsAct 201 = .ok (.iconst 4, 1) := by decide +kernel
theorem dX7_readsAct_202 : decode cX7_readsAct 202 = .ok (.invokevirtual 282, 3) := by decide +kernel
theorem dX7_readsAct_205 : decode cX7_readsAct 205 = .ok (.iastore, 1) := by decide +kernel
theorem dX7_readsAct_206 : decode cX7_readsAct 206 = .ok (.aload_n 0, 1) := by decide +kernel
theorem dX7_readsAct_207 : decode cX7_readsAct 207 = .ok (.getfield 95, 3) := by decide +kernel
theorem dX7_readsAct_210 : decode cX7_readsAct 210 = .ok (.iload_n 2, 1) := by decide +kernel
theorem dX7_readsAct_211 : decode cX7_readsAct 211 = .ok (.iaload, 1) := by decide +kernel
theorem dX7_readsAct_212 : decode cX7_readsAct 212 = .ok (.ifCond .lt 7, 3) := by decide +kernel
theorem dX7_readsAct_215 : decode cX7_readsAct 215 = .ok (.iconst 1, 1) := by decide +kernel
theorem dX7_readsAct_216 : decode cX7_readsAct 216 = .ok (.goto 4, 3) := by decide +kernel
theorem dX7_readsAct_219 : decode cX7_readsAct 219 = .ok (.iconst 0, 1) := by decide +kernel
theorem dX7_readsAct_220 : decode cX7_readsAct 220 = .ok (.ireturn, 1) := by decide +kernel
theorem dX7_does_0 : decode cX7_does 0 = .ok (.aload_n 0, 1) := by decide +kernel
theorem dX7_does_1 : decode cX7_does 1 = .ok (.getfield 86, 3) := by decide +kernel
theorem dX7_does_4 : decode cX7_does 4 = .ok (.iload_n 1, 1) := by decide +kernel
theorem dX7_does_5 : decode cX7_does 5 = .ok (.iaload, 1) := by decide +kernel
theorem dX7_does_6 : decode cX7_does 6 = .ok (.tableswitch 176 100 117 #[103, 176, 176, 176, 166, 86, 176, 176, 120, 143, 176, 176, 176, 176, 176, 176, 176, 171], 86) := by decide +kernel
theorem dX7_does_92 : decode cX7_does 92 = .ok (.aload_n 0, 1) := by decide +kernel
theorem dX7_does_93 : decode cX7_does 93 = .ok (.aload_n 0, 1) := by decide +kernel
theorem dX7_does_94 : decode cX7_does 94 = .ok (.getfield 89, 3) := by decide +kernel
theorem dX7_does_97 : decode cX7_does 97 = .ok (.iload_n 1, 1) := by decide +kernel
theorem dX7_does_98 : decode cX7_does 98 = .ok (.iaload, 1) := by decide +kernel
theorem dX7_does_99 : decode cX7_does 99 = .ok (.aload_n 0, 1) := by decide +kernel
theorem dX7_does_100 : decode cX7_does 100 = .ok (.getfield 92, 3) := by decide +kernel
theorem dX7_does_103 : decode cX7_does 103 = .ok (.iload_n 1, 1) := by decide +kernel
theorem dX7_does_104 : decode cX7_does 104 = .ok (.iaload, 1) := by decide +kernel
theorem dX7_does_105 : decode cX7_does 105 = .ok (.invokevirtual 211, 3) := by decide +kernel
theorem dX7_does_108 : decode cX7_does 108 = .ok (.ireturn, 1) := by decide +kernel
theorem dX7_does_109 : decode cX7_does 109 = .ok (.aload_n 0, 1) := by decide +kernel
theorem dX7_does_110 : decode cX7_does 110 = .ok (.aload_n 0, 1) := by decide +kernel
theorem dX7_does_111 : decode cX7_does 111 = .ok (.getfield 89, 3) := by decide +kernel
theorem dX7_does_114 : decode cX7_does 114 = .ok (.iload_n 1, 1) := by decide +kernel
theorem dX7_does_115 : decode cX7_does 115 = .ok (.iaload, 1) := by decide +kernel
theorem dX7_does_116 : decode cX7_does 116 = .ok (.aload_n 0, 1) := by decide +kernel
theorem dX7_does_117 : decode cX7_does 117 = .ok (.getfield 92, 3) := by decide +kernel
theorem dX7_does_120 : decode cX7_does 120 = .ok (.iload_n 1, 1) := by decide +kernel
theorem dX7_does_121 : decode cX7_does 121 = .ok (.iaload, 1) := by decide +kernel
theorem dX7_does_122 : decode cX7_does 122 = .ok (.invokevirtual 220, 3) := by decide +kernel
theorem dX7_does_125 : decode cX7_does 125 = .ok (.ireturn, 1) := by decide +kernel
theorem dX7_does_126 : decode cX7_does 126 = .ok (.aload_n 0, 1) := by decide +kernel
theorem dX7_does_127 : decode cX7_does 127 = .ok (.aload_n 0, 1) := by decide +kernel
theorem dX7_does_128 : decode cX7_does 128 = .ok (.getfield 89, 3) := by decide +kernel
theorem dX7_does_131 : decode cX7_does 131 = .ok (.iload_n 1, 1) := by decide +kernel
theorem dX7_does_132 : decode cX7_does 132 = .ok (.iaload, 1) := by decide +kernel
theorem dX7_does_133 : decode cX7_does 133 = .ok (.aload_n 0, 1) := by decide +kernel
theorem dX7_does_134 : decode cX7_does 134 = .ok (.getfield 92, 3) := by decide +kernel
theorem dX7_does_137 : decode cX7_does 137 = .ok (.iload_n 1, 1) := by decide +kernel
theorem dX7_does_138 : decode cX7_does 138 = .ok (.iaload, 1) := by decide +kernel
theorem dX7_does_139 : decode cX7_does 139 = .ok (.aload_n 0, 1) := by decide +kernel
theorem dX7_does_140 : decode cX7_does 140 = .ok (.getfield 95, 3) := by decide +kernel
theorem dX7_does_143 : decode cX7_does 143 = .ok (.iload_n 1, 1) := by decide +kernel
theorem dX7_does_144 : decode cX7_does 144 = .ok (.iaload, 1) := by decide +kernel
theorem dX7_does_145 : decode cX7_does 145 = .ok (.invokevirtual 229, 3) := by decide +kernel
theorem dX7_does_148 : decode cX7_does 148 = .ok (.ireturn, 1) := by decide +kernel
theorem dX7_does_149 : decode cX7_does 149 = .ok (.aload_n 0, 1) := by decide +kernel
theorem dX7_does_150 : decode cX7_does 150 = .ok (.aload_n 0, 1) := by decide +kernel
theorem dX7_does_151 : decode cX7_does 151 = .ok (.getfield 89, 3) := by decide +kernel
theorem dX7_does_154 : decode cX7_does 154 = .ok (.iload_n 1, 1) := by decide +kernel
theorem dX7_does_155 : decode cX7_does 155 = .ok (.iaload, 1) := by decide +kernel
theorem dX7_does_156 : decode cX7_does 156 = .ok (.aload_n 0, 1) := by decide +kernel
theorem dX7_does_157 : decode cX7_does 157 = .ok (.getfield 92, 3) := by decide +kernel
theorem dX7_does_160 : decode cX7_does 160 = .ok (.iload_n 1, 1) := by decide +kernel
theorem dX7_does_161 : decode cX7_does 161 = .ok (.iaload, 1) := by decide +kernel
theorem dX7_does_162 : decode cX7_does 162 = .ok (.aload_n 0, 1) := by decide +kernel
theorem dX7_does_163 : decode cX7_does 163 = .ok (.getfield 95, 3) := by decide +kernel
theorem dX7_does_166 : decode cX7_does 166 = .ok (.iload_n 1, 1) := by decide +kernel
theorem dX7_does_167 : decode cX7_does 167 = .ok (.iaload, 1) := by decide +kernel
theorem dX7_does_168 : decode cX7_does 168 = .ok (.invokevirtual 233, 3) := by decide +kernel
theorem dX7_does_171 : decode cX7_does 171 = .ok (.ireturn, 1) := by decide +kernel
theorem dX7_does_172 : decode cX7_does 172 = .ok (.aload_n 0, 1) := by decide +kernel
theorem dX7_does_173 : decode cX7_does 173 = .ok (.invokevirtual 242, 3) := by decide +kernel
theorem dX7_does_176 : decode cX7_does 176 = .ok (.ireturn, 1) := by decide +kernel
theorem dX7_does_177 : decode cX7_does 177 = .ok (.aload_n 0, 1) := by decide +kernel
theorem dX7_does_178 : decode cX7_does 178 = .ok (.invokevirtual 262, 3) := by decide +kernel
theorem dX7_does_181 : decode cX7_does 181 = .ok (.ireturn, 1) := by decide +kernel
theorem dX7_does_182 : decode cX7_does 182 = .ok (.aload_n 0, 1) := by decide +kernel
theorem dX7_does_183 : decode cX7_does 183 = .ok (.invokevirtual 265, 3) := by decide +kernel
theorem dX7_does_186 : decode cX7_does 186 = .ok (.ireturn, 1) := by decide +kernel
theorem dX7_day_0 : decode cX7_day 0 = .ok (.aload_n 0, 1) := by decide +kernel
theorem dX7_day_1 : decode cX7_day 1 = .ok (.iconst 0, 1) := by decide +kernel
theorem dX7_day_2 : decode cX7_day 2 = .ok (.putfield 1, 3) := by decide +kernel
theorem dX7_day_5 : decode cX7_day 5 = .ok (.aload_n 0, 1) := by decide +kernel
theorem dX7_day_6 : decode cX7_day 6 = .ok (.invokevirtual 182, 3) := by decide +kernel
theorem dX7_day_9 : decode cX7_day 9 = .ok (.pop, 1) := by decide +kernel
theorem dX7_day_10 : decode cX7_day 10 = .ok (.aload_n 0, 1) := by decide +kernel
theorem dX7_day_11 : decode cX7_day 11 = .ok (.iconst 0, 1) := by decide +kernel
theorem dX7_day_12 : decode cX7_day 12 = .ok (.putfield 279, 3) := by decide +kernel
theorem dX7_day_15 : decode cX7_day 15 = .ok (.aload_n 0, 1) := by decide +kernel
theorem dX7_day_16 : decode cX7_day 16 = .ok (.iconst 0, 1) := by decide +kernel
theorem dX7_day_17 : decode cX7_day 17 = .ok (.putfield 268, 3) := by decide +kernel
theorem dX7_day_20 : decode cX7_day 20 = .ok (.aload_n 0, 1) := by decide +kernel
theorem dX7_day_21 : decode cX7_day 21 = .ok (.getfield 268, 3) := by decide +kernel
theorem dX7_day_24 : decode cX7_day 24 = .ok (.aload_n 0, 1) := by decide +kernel
theorem dX7_day_25 : decode cX7_day 25 = .ok (.getfield 25, 3) := by decide +kernel
theorem dX7_day_28 : decode cX7_day 28 = .ok (.if_icmp .ge 17, 3) := by decide +kernel
theorem dX7_day_31 : decode cX7_day 31 = .ok (.aload_n 0, 1) := by decide +kernel
theorem dX7_day_32 : decode cX7_day 32 = .ok (.invokevirtual 288, 3) := by decide +kernel
theorem dX7_day_35 : decode cX7_day 35 = .ok (.ifCond .ne (-15), 3) := by decide +kernel
theorem dX7_day_38 : decode cX7_day 38 = .ok (.iconst (-1), 1) := by decide +kernel
theorem dX7_day_39 : decode cX7_day 39 = .ok (.aload_n 0, 1) := by decide +kernel
theorem dX7_day_40 : decode cX7_day 40 = .ok (.getfield 268, 3) := by decide +kernel
theorem dX7_day_43 : decode cX7_day 43 = .ok (.isub, 1) := by decide +kernel
theorem dX7_day_44 : decode cX7_day 44 = .ok (.ireturn, 1) := by decide +kernel
theorem dX7_day_45 : decode cX7_day 45 = .ok (.iconst 0, 1) := by decide +kernel
theorem dX7_day_46 : decode cX7_day 46 = .ok (.istore_n 1, 1) := by decide +kernel
theorem dX7_day_47 : decode cX7_day 47 = .ok (.iload_n 1, 1) := by decide +kernel
theorem dX7_day_48 : decode cX7_day 48 = .ok (.aload_n 0, 1) := by decide +kernel
theorem dX7_day_49 : decode cX7_day 49 = .ok (.getfield 279, 3) := by decide +kernel
theorem dX7_day_52 : decode cX7_day 52 = .ok (.if_icmp .ge 17, 3) := by decide +kernel
theorem dX7_day_55 : decode cX7_day 55 = .ok (.aload_n 0, 1) := by decide +kernel
theorem dX7_day_56 : decode cX7_day 56 = .ok (.iload_n 1, 1) := by decide +kernel
theorem dX7_day_57 : decode cX7_day 57 = .ok (.invokevirtual 292, 3) := by decide +kernel
theorem dX7_day_60 : decode cX7_day 60 = .ok (.ifCond .lt 9, 3) := by decide +kernel
theorem dX7_day_63 : decode cX7_day 63 = .ok (.iinc 1 1, 3) := by decide +kernel
theorem dX7_day_66 : decode cX7_day 66 = .ok (.goto (-19), 3) := by decide +kernel
theorem dX7_day_69 : decode cX7_day 69 = .ok (.aload_n 0, 1) := by decide +kernel
theorem dX7_day_70 : decode cX7_day 70 = .ok (.iconst 0, 1) := by decide +kernel
theorem dX7_day_71 : decode cX7_day 71 = .ok (.putfield 11, 3) := by decide +kernel
theorem dX7_day_74 : decode cX7_day 74 = .ok (.aload_n 0, 1) := by decide +kernel
theorem dX7_day_75 : decode cX7_day 75 = .ok (.iload_n 1, 1) := by decide +kernel
theorem dX7_day_76 : decode cX7_day 76 = .ok (.aload_n 0, 1) := by decide +kernel
theorem dX7_day_77 : decode cX7_day 77 = .ok (.getfield 279, 3) := by decide +kernel
theorem dX7_day_80 : decode cX7_day 80 = .ok (.if_icmp .ge 7, 3) := by decide +kernel
theorem dX7_day_83 : decode cX7_day 83 = .ok (.iconst 1, 1) := by decide +kernel
theorem dX7_day_84 : decode cX7_day 84 = .ok (.goto 4, 3) := by decide +kernel
theorem dX7_day_87 : decode cX7_day 87 = .ok (.iconst 0, 1) := by decide +kernel
theorem dX7_day_88 : decode cX7_day 88 = .ok (.invokestatic 119, 3) := by decide +kernel
theorem dX7_day_91 : decode cX7_day 91 = .ok (.i2l, 1) := by decide +kernel
theorem dX7_day_92 : decode cX7_day 92 = .ok (.invokevirtual 295, 3) := by decide +kernel
theorem dX7_day_95 : decode cX7_day 95 = .ok (.aload_n 0, 1) := by decide +kernel
theorem dX7_day_96 : decode cX7_day 96 = .ok (.aload_n 0, 1) := by decide +kernel
theorem dX7_day_97 : decode cX7_day 97 = .ok (.getfield 123, 3) := by decide +kernel
theorem dX7_day_100 : decode cX7_day 100 = .ok (.i2l, 1) := by decide +kernel
theorem dX7_day_101 : decode cX7_day 101 = .ok (.invokevirtual 295, 3) := by decide +kernel
theorem dX7_day_104 : decode cX7_day 104 = .ok (.iload_n 1, 1) := by decide +kernel
theorem dX7_day_105 : decode cX7_day 105 = .ok (.ireturn, 1) := by decide +kernel
theorem dX7_at_0 : decode cX7_at 0 = .ok (.aload_n 0, 1) := by decide +kernel
theorem dX7_at_1 : decode cX7_at 1 = .ok (.iconst 0, 1) := by decide +kernel
theorem dX7_at_2 : decode cX7_at 2 = .ok (.putfield 1, 3) := by decide +kernel
theorem dX7_at_5 : decode cX7_at 5 = .ok (.aload_n 0, 1) := by decide +kernel
theorem dX7_at_6 : decode cX7_at 6 = .ok (.iload_n 1, 1) := by decide +kernel
theorem dX7_at_7 : decode cX7_at 7 = .ok (.invokevirtual 299, 3) := by decide +kernel
theorem dX7_at_10 : decode cX7_at 10 = .ok (.ifCond .eq 11, 3) := by decide +kernel
theorem dX7_at_13 : decode cX7_at 13 = .ok (.aload_n 0, 1) := by decide +kernel
theorem dX7_at_14 : decode cX7_at 14 = .ok (.iload_n 1, 1) := by decide +kernel
theorem dX7_at_15 : decode cX7_at 15 = .ok (.invokevirtual 157, 3) := by decide +kernel
theorem dX7_at_18 : decode cX7_at 18 = .ok (.goto 4, 3) := by decide +kernel
theorem dX7_at_21 : decode cX7_at 21 = .ok (.iconst (-1), 1) := by decide +kernel
theorem dX7_at_22 : decode cX7_at 22 = .ok (.ireturn, 1) := by decide +kernel
theorem dX7_reads_0 : decode cX7_reads 0 = .ok (.aload_n 0, 1) := by decide +kernel
theorem dX7_reads_1 : decode cX7_reads 1 = .ok (.iconst 0, 1) := by decide +kernel
theorem dX7_reads_2 : decode cX7_reads 2 = .ok (.putfield 1, 3) := by decide +kernel
theorem dX7_reads_5 : decode cX7_reads 5 = .ok (.aload_n 0, 1) := by decide +kernel
theorem dX7_reads_6 : decode cX7_reads 6 = .ok (.iload_n 1, 1) := by decide +kernel
theorem dX7_reads_7 : decode cX7_reads 7 = .ok (.invokevirtual 202, 3) := by decide +kernel
theorem dX7_reads_10 : decode cX7_reads 10 = .ok (.ifCond .eq 15, 3) := by decide +kernel
theorem dX7_reads_13 : decode cX7_reads 13 = .ok (.iload_n 2, 1) := by decide +kernel
theorem dX7_reads_14 : decode cX7_reads 14 = .ok (.i2l, 1) := by decide +kernel
theorem dX7_reads_15 : decode cX7_reads 15 = .ok (.lconst 1, 1) := by decide +kernel
theorem dX7_reads_16 : decode cX7_reads 16 = .ok (.ldc2_w 302, 3) := by decide +kernel
theorem dX7_reads_19 : decode cX7_reads 19 = .ok (.invokestatic 21, 3) := by decide +kernel
theorem dX7_reads_22 : decode cX7_reads 22 = .ok (.ifCond .ne 5, 3) := by decide +kernel
theorem dX7_reads_25 : decode cX7_reads 25 = .ok (.iconst (-1), 1) := by decide +kernel
theorem dX7_reads_26 : decode cX7_reads 26 = .ok (.ireturn, 1) := by decide +kernel
theorem dX7_reads_27 : decode cX7_reads 27 = .ok (.aload_n 0, 1) := by decide +kernel
theorem dX7_reads_28 : decode cX7_reads 28 = .ok (.iconst 0, 1) := by decide +kernel
theorem dX7_reads_29 : decode cX7_reads 29 = .ok (.putfield 11, 3) := by decide +kernel
theorem dX7_reads_32 : decode cX7_reads 32 = .ok (.iload_n 1, 1) := by decide +kernel
theorem dX7_reads_33 : decode cX7_reads 33 = .ok (.istore_n 3, 1) := by decide +kernel
theorem dX7_reads_34 : decode cX7_reads 34 = .ok (.iload_n 3, 1) := by decide +kernel
theorem dX7_reads_35 : decode cX7_reads 35 = .ok (.iload_n 1, 1) := by decide +kernel
theorem dX7_reads_36 : decode cX7_reads 36 = .ok (.iload_n 2, 1) := by decide +kernel
theorem dX7_reads_37 : decode cX7_reads 37 = .ok (.iadd, 1) := by decide +kernel
theorem dX7_reads_38 : decode cX7_reads 38 = .ok (.if_icmp .ge 27, 3) := by decide +kernel
theorem dX7_reads_41 : decode cX7_reads 41 = .ok (.iload_n 3, 1) := by decide +kernel
theorem dX7_reads_42 : decode cX7_reads 42 = .ok (.aload_n 0, 1) := by decide +kernel
theorem dX7_reads_43 : decode cX7_reads 43 = .ok (.getfield 123, 3) := by decide +kernel
theorem dX7_reads_46 : decode cX7_reads 46 = .ok (.if_icmp .ge 19, 3) := by decide +kernel
theorem dX7_reads_49 : decode cX7_reads 49 = .ok (.aload_n 0, 1) := by decide +kernel
theorem dX7_reads_50 : decode cX7_reads 50 = .ok (.aload_n 0, 1) := by decide +kernel
theorem dX7_reads_51 : decode cX7_reads 51 = .ok (.iload_n 3, 1) := by decide +kernel
theorem dX7_reads_52 : decode cX7_reads 52 = .ok (.invokevirtual 157, 3) := by decide +kernel
theorem dX7_reads_55 : decode cX7_reads 55 = .ok (.i2l, 1) := by decide +kernel
theorem dX7_reads_56 : decode cX7_reads 56 = .ok (.invokevirtual 295, 3) := by decide +kernel
theorem dX7_reads_59 : decode cX7_reads 59 = .ok (.iinc 3 1, 3) := by decide +kernel
theorem dX7_reads_62 : decode cX7_reads 62 = .ok (.goto (-28), 3) := by decide +kernel
theorem dX7_reads_65 : decode cX7_reads 65 = .ok (.aload_n 0, 1) := by decide +kernel
theorem dX7_reads_66 : decode cX7_reads 66 = .ok (.getfield 11, 3) := by decide +kernel
theorem dX7_reads_69 : decode cX7_reads 69 = .ok (.ireturn, 1) := by decide +kernel
theorem dX7_breaksAhead_0 : decode cX7_breaksAhead 0 = .ok (.iconst 0, 1) := by decide +kernel
theorem dX7_breaksAhead_1 : decode cX7_breaksAhead 1 = .ok (.istore_n 2, 1) := by decide +kernel
theorem dX7_breaksAhead_2 : decode cX7_breaksAhead 2 = .ok (.iconst 0, 1) := by decide +kernel
theorem dX7_breaksAhead_3 : decode cX7_breaksAhead 3 = .ok (.istore_n 3, 1) := by decide +kernel
theorem dX7_breaksAhead_4 : decode cX7_breaksAhead 4 = .ok (.iload_n 3, 1) := by decide +kernel
theorem dX7_breaksAhead_5 : decode cX7_breaksAhead 5 = .ok (.iload_n 1, 1) := by decide +kernel
theorem dX7_breaksAhead_6 : decode cX7_breaksAhead 6 = .ok (.if_icmp .ge 30, 3) := by decide +kernel
theorem dX7_breaksAhead_9 : decode cX7_breaksAhead 9 = .ok (.iload_n 2, 1) := by decide +kernel
theorem dX7_breaksAhead_10 : decode cX7_breaksAhead 10 = .ok (.aload_n 0, 1) := by decide +kernel
theorem dX7_breaksAhead_11 : decode cX7_breaksAhead 11 = .ok (.iload_n 3, 1) := by decide +kernel
theorem dX7_breaksAhead_12 : decode cX7_breaksAhead 12 = .ok (.invokevirtual 157, 3) := by decide +kernel
theorem dX7_breaksAhead_15 : decode cX7_breaksAhead 15 = .ok (.bipush 10, 2) := by decide +kernel
theorem dX7_breaksAhead_17 : decode cX7_breaksAhead 17 = .ok (.if_icmp .ne 7, 3) := by decide +kernel
theorem dX7_breaksAhead_20 : decode cX7_breaksAhead 20 = .ok (.iconst 1, 1) := by decide +kernel
theorem dX7_breaksAhead_21 : decode cX7_breaksAhead 21 = .ok (.goto 4, 3) := by decide +kernel
theorem dX7_breaksAhead_24 : decode cX7_breaksAhead 24 = .ok (.iconst 0, 1) := by decide +kernel
theorem dX7_breaksAhead_25 : decode cX7_breaksAhead 25 = .ok (.invokestatic 119, 3) := by decide +kernel
theorem dX7_breaksAhead_28 : decode cX7_breaksAhead 28 = .ok (.iadd, 1) := by decide +kernel
theorem dX7_breaksAhead_29 : decode cX7_breaksAhead 29 = .ok (.istore_n 2, 1) := by decide +kernel
theorem dX7_breaksAhead_30 : decode cX7_breaksAhead 30 = .ok (.iinc 3 1, 3) := by decide +kernel
theorem dX7_breaksAhead_33 : decode cX7_breaksAhead 33 = .ok (.goto (-29), 3) := by decide +kernel
theorem dX7_breaksAhead_36 : decode cX7_breaksAhead 36 = .ok (.iload_n 2, 1) := by decide +kernel
theorem dX7_breaksAhead_37 : decode cX7_breaksAhead 37 = .ok (.ireturn, 1) := by decide +kernel
theorem dX7_lines_0 : decode cX7_lines 0 = .ok (.aload_n 0, 1) := by decide +kernel
theorem dX7_lines_1 : decode cX7_lines 1 = .ok (.aload_n 0, 1) := by decide +kernel
theorem dX7_lines_2 : decode cX7_lines 2 = .ok (.getfield 123, 3) := by decide +kernel
theorem dX7_lines_5 : decode cX7_lines 5 = .ok (.invokevirtual 304, 3) := by decide +kernel
theorem dX7_lines_8 : decode cX7_lines 8 = .ok (.iconst 1, 1) := by decide +kernel
theorem dX7_lines_9 : decode cX7_lines 9 = .ok (.iadd, 1) := by decide +kernel
theorem dX7_lines_10 : decode cX7_lines 10 = .ok (.ireturn, 1) := by decide +kernel
theorem dX7_startOf_0 : decode cX7_startOf 0 = .ok (.iconst 0, 1) := by decide +kernel
theorem dX7_startOf_1 : decode cX7_startOf 1 = .ok (.istore_n 2, 1) := by decide +kernel
theorem dX7_startOf_2 : decode cX7_startOf 2 = .ok (.iload_n 1, 1) := by decide +kernel
theorem dX7_startOf_3 : decode cX7_startOf 3 = .ok (.istore_n 3, 1) := by decide +kernel
theorem dX7_startOf_4 : decode cX7_startOf 4 = .ok (.iload_n 3, 1) := by decide +kernel
theorem dX7_startOf_5 : decode cX7_startOf 5 = .ok (.ifCond .le 30, 3) := by decide +kernel
theorem dX7_startOf_8 : decode cX7_startOf 8 = .ok (.iload_n 3, 1) := by decide +kernel
theorem dX7_startOf_9 : decode cX7_startOf 9 = .ok (.aload_n 0, 1) := by decide +kernel
theorem dX7_startOf_10 : decode cX7_startOf 10 = .ok (.iload_n 2, 1) := by decide +kernel
theorem dX7_startOf_11 : decode cX7_startOf 11 = .ok (.invokevirtual 157, 3) := by decide +kernel
theorem dX7_startOf_14 : decode cX7_startOf 14 = .ok (.bipush 10, 2) := by decide +kernel
theorem dX7_startOf_16 : decode cX7_startOf 16 = .ok (.if_icmp .ne 7, 3) := by decide +kernel
theorem dX7_startOf_19 : decode cX7_startOf 19 = .ok (.iconst 1, 1) := by decide +kernel
theorem dX7_startOf_20 : decode cX7_startOf 20 = .ok (.goto 4, 3) := by decide +kernel
theorem dX7_startOf_23 : decode cX7_startOf 23 = .ok (.iconst 0, 1) := by decide +kernel
theorem dX7_startOf_24 : decode cX7_startOf 24 = .ok (.invokestatic 119, 3) := by decide +kernel
theorem dX7_startOf_27 : decode cX7_startOf 27 = .ok (.isub, 1) := by decide +kernel
theorem dX7_startOf_28 : decode cX7_startOf 28 = .ok (.istore_n 3, 1) := by decide +kernel
theorem dX7_startOf_29 : decode cX7_startOf 29 = .ok (.iinc 2 1, 3) := by decide +kernel
theorem dX7_startOf_32 : decode cX7_startOf 32 = .ok (.goto (-28), 3) := by decide +kernel
theorem dX7_startOf_35 : decode cX7_startOf 35 = .ok (.iload_n 2, 1) := by decide +kernel
theorem dX7_startOf_36 : decode cX7_startOf 36 = .ok (.ireturn, 1) := by decide +kernel
theorem dX7_endFrom_0 : decode cX7_endFrom 0 = .ok (.iload_n 1, 1) := by decide +kernel
theorem dX7_endFrom_1 : decode cX7_endFrom 1 = .ok (.istore_n 2, 1) := by decide +kernel
theorem dX7_endFrom_2 : decode cX7_endFrom 2 = .ok (.iload_n 2, 1) := by decide +kernel
theorem dX7_endFrom_3 : decode cX7_endFrom 3 = .ok (.aload_n 0, 1) := by decide +kernel
theorem dX7_endFrom_4 : decode cX7_endFrom 4 = .ok (.getfield 123, 3) := by decide +kernel
theorem dX7_endFrom_7 : decode cX7_endFrom 7 = .ok (.if_icmp .ge 19, 3) := by decide +kernel
theorem dX7_endFrom_10 : decode cX7_endFrom 10 = .ok (.aload_n 0, 1) := by decide +kernel
theorem dX7_endFrom_11 : decode cX7_endFrom 11 = .ok (.iload_n 2, 1) := by decide +kernel
theorem dX7_endFrom_12 : decode cX7_endFrom 12 = .ok (.invokevirtual 157, 3) := by decide +kernel
theorem dX7_endFrom_15 : decode cX7_endFrom 15 = .ok (.bipush 10, 2) := by decide +kernel
theorem dX7_endFrom_17 : decode cX7_endFrom 17 = .ok (.if_icmp .eq 9, 3) := by decide +kernel
theorem dX7_endFrom_20 : decode cX7_endFrom 20 = .ok (.iinc 2 1, 3) := by decide +kernel
theorem dX7_endFrom_23 : decode cX7_endFrom 23 = .ok (.goto (-21), 3) := by decide +kernel
theorem dX7_endFrom_26 : decode cX7_endFrom 26 = .ok (.iload_n 2, 1) := by decide +kernel
theorem dX7_endFrom_27 : decode cX7_endFrom 27 = .ok (.ireturn, 1) := by decide +kernel
theorem dX7_line_0 : decode cX7_line 0 = .ok (.aload_n 0, 1) := by decide +kernel
theorem dX7_line_1 : decode cX7_line 1 = .ok (.iconst 0, 1) := by decide +kernel
theorem dX7_line_2 : decode cX7_line 2 = .ok (.putfield 1, 3) := by decide +kernel
theorem dX7_line_5 : decode cX7_line 5 = .ok (.aload_n 0, 1) := by decide +kernel
theorem dX7_line_6 : decode cX7_line 6 = .ok (.iload_n 1, 1) := by decide +kernel
theorem dX7_line_7 : decode cX7_line 7 = .ok (.invokevirtual 202, 3) := by decide +kernel
theorem dX7_line_10 : decode cX7_line 10 = .ok (.ifCond .ne 5, 3) := by decide +kernel
theorem dX7_line_13 : decode cX7_line 13 = .ok (.iconst (-1), 1) := by decide +kernel
theorem dX7_line_14 : decode cX7_line 14 = .ok (.ireturn, 1) := by decide +kernel
theorem dX7_line_15 : decode cX7_line 15 = .ok (.aload_n 0, 1) := by decide +kernel
theorem dX7_line_16 : decode cX7_line 16 = .ok (.iload_n 1, 1) := by decide +kernel
theorem dX7_line_17 : decode cX7_line 17 = .ok (.invokevirtual 304, 3) := by decide +kernel
theorem dX7_line_20 : decode cX7_line 20 = .ok (.istore_n 2, 1) := by decide +kernel
theorem dX7_line_21 : decode cX7_line 21 = .ok (.aload_n 0, 1) := by decide +kernel
theorem dX7_line_22 : decode cX7_line 22 = .ok (.iconst 0, 1) := by decide +kernel
theorem dX7_line_23 : decode cX7_line 23 = .ok (.putfield 11, 3) := by decide +kernel
theorem dX7_line_26 : decode cX7_line 26 = .ok (.aload_n 0, 1) := by decide +kernel
theorem dX7_line_27 : decode cX7_line 27 = .ok (.iload_n 1, 1) := by decide +kernel
theorem dX7_line_28 : decode cX7_line 28 = .ok (.aload_n 0, 1) := by decide +kernel
theorem dX7_line_29 : decode cX7_line 29 = .ok (.iload_n 2, 1) := by decide +kernel
theorem dX7_line_30 : decode cX7_line 30 = .ok (.invokevirtual 248, 3) := by decide +kernel
theorem dX7_line_33 : decode cX7_line 33 = .ok (.isub, 1) := by decide +kernel
theorem dX7_line_34 : decode cX7_line 34 = .ok (.i2l, 1) := by decide +kernel
theorem dX7_line_35 : decode cX7_line 35 = .ok (.invokevirtual 295, 3) := by decide +kernel
theorem dX7_line_38 : decode cX7_line 38 = .ok (.iload_n 2, 1) := by decide +kernel
theorem dX7_line_39 : decode cX7_line 39 = .ok (.ireturn, 1) := by decide +kernel
theorem dX7_starts_0 : decode cX7_starts 0 = .ok (.aload_n 0, 1) := by decide +kernel
theorem dX7_starts_1 : decode cX7_starts 1 = .ok (.iconst 0, 1) := by decide +kernel
theorem dX7_starts_2 : decode cX7_starts 2 = .ok (.putfield 1, 3) := by decide +kernel
theorem dX7_starts_5 : decode cX7_starts 5 = .ok (.iload_n 1, 1) := by decide +kernel
theorem dX7_starts_6 : decode cX7_starts 6 = .ok (.i2l, 1) := by decide +kernel
theorem dX7_starts_7 : decode cX7_starts 7 = .ok (.lconst 0, 1) := by decide +kernel
theorem dX7_starts_8 : decode cX7_starts 8 = .ok (.aload_n 0, 1) := by decide +kernel
theorem dX7_starts_9 : decode cX7_starts 9 = .ok (.invokevirtual 245, 3) := by decide +kernel
theorem dX7_starts_12 : decode cX7_starts 12 = .ok (.iconst 1, 1) := by decide +kernel
theorem dX7_starts_13 : decode cX7_starts 13 = .ok (.isub, 1) := by decide +kernel
theorem dX7_starts_14 : decode cX7_starts 14 = .ok (.i2l, 1) := by decide +kernel
theorem dX7_starts_15 : decode cX7_starts 15 = .ok (.invokestatic 21, 3) := by decide +kernel
theorem dX7_starts_18 : decode cX7_starts 18 = .ok (.ifCond .ne 5, 3) := by decide +kernel
theorem dX7_starts_21 : decode cX7_starts 21 = .ok (.iconst (-1), 1) := by decide +kernel
theorem dX7_starts_22 : decode cX7_starts 22 = .ok (.ireturn, 1) := by decide +kernel
theorem dX7_starts_23 : decode cX7_starts 23 = .ok (.aload_n 0, 1) := by decide +kernel
theorem dX7_starts_24 : decode cX7_starts 24 = .ok (.iload_n 1, 1) := by decide +kernel
theorem dX7_starts_25 : decode cX7_starts 25 = .ok (.invokevirtual 248, 3) := by decide +kernel
theorem dX7_starts_28 : decode cX7_starts 28 = .ok (.istore_n 2, 1) := by decide +kernel
theorem dX7_starts_29 : decode cX7_starts 29 = .ok (.aload_n 0, 1) := by decide +kernel
theorem dX7_starts_30 : decode cX7_starts 30 = .ok (.iconst 0, 1) := by decide +kernel
theorem dX7_starts_31 : decode cX7_starts 31 = .ok (.putfield 11, 3) := by decide +kernel
theorem dX7_starts_34 : decode cX7_starts 34 = .ok (.aload_n 0, 1) := by decide +kernel
theorem dX7_starts_35 : decode cX7_starts 35 = .ok (.aload_n 0, 1) := by decide +kernel
theorem dX7_starts_36 : decode cX7_starts 36 = .ok (.iload_n 2, 1) := by decide +kernel
theorem dX7_starts_37 : decode cX7_starts 37 = .ok (.invokevirtual 251, 3) := by decide +kernel
theorem dX7_starts_40 : decode cX7_starts 40 = .ok (.iload_n 2, 1) := by decide +kernel
theorem dX7_starts_41 : decode cX7_starts 41 = .ok (.isub, 1) := by decide +kernel
theorem dX7_starts_42 : decode cX7_starts 42 = .ok (.i2l, 1) := by decide +kernel
theorem dX7_starts_43 : decode cX7_starts 43 = .ok (.invokevirtual 295, 3) := by decide +kernel
theorem dX7_starts_46 : decode cX7_starts 46 = .ok (.iload_n 2, 1) := by decide +kernel
theorem dX7_starts_47 : decode cX7_starts 47 = .ok (.ireturn, 1) := by decide +kernel
theorem dX7_place_0 : decode cX7_place 0 = .ok (.aload_n 0, 1) := by decide +kernel
theorem dX7_place_1 : decode cX7_place 1 = .ok (.iconst 0, 1) := by decide +kernel
theorem dX7_place_2 : decode cX7_place 2 = .ok (.putfield 1, 3) := by decide +kernel
theorem dX7_place_5 : decode cX7_place 5 = .ok (.iload_n 1, 1) := by decide +kernel
theorem dX7_place_6 : decode cX7_place 6 = .ok (.i2l, 1) := by decide +kernel
theorem dX7_place_7 : decode cX7_place 7 = .ok (.lconst 0, 1) := by decide +kernel
theorem dX7_place_8 : decode cX7_place 8 = .ok (.aload_n 0, 1) := by decide +kernel
theorem dX7_place_9 : decode cX7_place 9 = .ok (.invokevirtual 245, 3) := by decide +kernel
theorem dX7_place_12 : decode cX7_place 12 = .ok (.iconst 1, 1) := by decide +kernel
theorem dX7_place_13 : decode cX7_place 13 = .ok (.isub, 1) := by decide +kernel
theorem dX7_place_14 : decode cX7_place 14 = .ok (.i2l, 1) := by decide +kernel
theorem dX7_place_15 : decode cX7_place 15 = .ok (.invokestatic 21, 3) := by decide +kernel
theorem dX7_place_18 : decode cX7_place 18 = .ok (.ifCond .eq 7, 3) := by decide +kernel
theorem dX7_place_21 : decode cX7_place 21 = .ok (.iload_n 2, 1) := by decide +kernel
theorem dX7_place_22 : decode cX7_place 22 = .ok (.ifCond .ge 5, 3) := by decide +kernel
theorem dX7_place_25 : decode cX7_place 25 = .ok (.iconst (-1), 1) := by decide +kernel
theorem dX7_place_26 : decode cX7_place 26 = .ok (.ireturn, 1) := by decide +kernel
theorem dX7_place_27 : decode cX7_place 27 = .ok (.aload_n 0, 1) := by decide +kernel
theorem dX7_place_28 : decode cX7_place 28 = .ok (.iload_n 1, 1) := by decide +kernel
theorem dX7_place_29 : decode cX7_place 29 = .ok (.invokevirtual 248, 3) := by decide +kernel
theorem dX7_place_32 : decode cX7_place 32 = .ok (.istore_n 3, 1) := by decide +kernel
theorem dX7_place_33 : decode cX7_place 33 = .ok (.iload_n 2, 1) := by decide +kernel
theorem dX7_place_34 : decode cX7_place 34 = .ok (.aload_n 0, 1) := by decide +kernel
theorem dX7_place_35 : decode cX7_place 35 = .ok (.iload_n 3, 1) := by decide +kernel
theorem dX7_place_36 : decode cX7_place 36 = .ok (.invokevirtual 251, 3) := by decide +kernel
theorem dX7_place_39 : decode cX7_place 39 = .ok (.iload_n 3, 1) := by decide +kernel
theorem dX7_place_40 : decode cX7_place 40 = .ok (.isub, 1) := by decide +kernel
theorem dX7_place_41 : decode cX7_place 41 = .ok (.invokestatic 134, 3) := by decide +kernel
theorem dX7_place_44 : decode cX7_place 44 = .ok (.istore 4, 2) := by decide +kernel
theorem dX7_place_46 : decode cX7_place 46 = .ok (.aload_n 0, 1) := by decide +kernel
theorem dX7_place_47 : decode cX7_place 47 = .ok (.iconst 0, 1) := by decide +kernel
theorem dX7_place_48 : decode cX7_place 48 = .ok (.putfield 11, 3) := by decide +kernel
theorem dX7_place_51 : decode cX7_place 51 = .ok (.aload_n 0, 1) := by decide +kernel
theorem dX7_place_52 : decode cX7_place 52 = .ok (.iload 4, 2) := by decide +kernel
theorem dX7_place_54 : decode cX7_place 54 = .ok (.i2l, 1) := by decide +kernel
theorem dX7_place_55 : decode cX7_place 55 = .ok (.invokevirtual 295, 3) := by decide +kernel
theorem dX7_place_58 : decode cX7_place 58 = .ok (.iload_n 3, 1) := by decide +kernel
theorem dX7_place_59 : decode cX7_place 59 = .ok (.iload 4, 2) := by decide +kernel
theorem dX7_place_61 : decode cX7_place 61 = .ok (.iadd, 1) := by decide +kernel
theorem dX7_place_62 : decode cX7_place 62 = .ok (.ireturn, 1) := by decide +kernel
theorem dX7_longest_0 : decode cX7_longest 0 = .ok (.aload_n 0, 1) := by decide +kernel
theorem dX7_longest_1 : decode cX7_longest 1 = .ok (.iconst 0, 1) := by decide +kernel
theorem dX7_longest_2 : decode cX7_longest 2 = .ok (.putfield 1, 3) := by decide +kernel
theorem dX7_longest_5 : decode cX7_longest 5 = .ok (.iconst 0, 1) := by decide +kernel
theorem dX7_longest_6 : decode cX7_longest 6 = .ok (.istore_n 1, 1) := by decide +kernel
theorem dX7_longest_7 : decode cX7_longest 7 = .ok (.iconst (-1), 1) := by decide +kernel
theorem dX7_longest_8 : decode cX7_longest 8 = .ok (.istore_n 2, 1) := by decide +kernel
theorem dX7_longest_9 : decode cX7_longest 9 = .ok (.iconst 0, 1) := by decide +kernel
theorem dX7_longest_10 : decode cX7_longest 10 = .ok (.istore_n 3, 1) := by decide +kernel
theorem dX7_longest_11 : decode cX7_longest 11 = .ok (.iconst 0, 1) := by decide +kernel
theorem dX7_longest_12 : decode cX7_longest 12 = .ok (.istore 4, 2) := by decide +kernel
theorem dX7_longest_14 : decode cX7_longest 14 = .ok (.iconst 0, 1) := by decide +kernel
theorem dX7_longest_15 : decode cX7_longest 15 = .ok (.istore 5, 2) := by decide +kernel
theorem dX7_longest_17 : decode cX7_longest 17 = .ok (.iload 5, 2) := by decide +kernel
theorem dX7_longest_19 : decode cX7_longest 19 = .ok (.aload_n 0, 1) := by decide +kernel
theorem dX7_longest_20 : decode cX7_longest 20 = .ok (.getfield 123, 3) := by decide +kernel
theorem dX7_longest_23 : decode cX7_longest 23 = .ok (.if_icmp .gt 65, 3) := by decide +kernel
theorem dX7_longest_26 : decode cX7_longest 26 = .ok (.aload_n 0, 1) := by decide +kernel
theorem dX7_longest_27 : decode cX7_longest 27 = .ok (.iload 5, 2) := by decide +kernel
theorem dX7_longest_29 : decode cX7_longest 29 = .ok (.invokevirtual 251, 3) := by decide +kernel
theorem dX7_longest_32 : decode cX7_longest 32 = .ok (.iload 5, 2) := by decide +kernel
theorem dX7_longest_34 : decode cX7_longest 34 = .ok (.isub, 1) := by decide +kernel
theorem dX7_longest_35 : decode cX7_longest 35 = .ok (.istore 6, 2) := by decide +kernel
theorem dX7_longest_37 : decode cX7_longest 37 = .ok (.iload_n 3, 1) := by decide +kernel
theorem dX7_longest_38 : decode cX7_longest 38 = .ok (.iload 6, 2) := by decide +kernel
theorem dX7_longest_40 : decode cX7_longest 40 = .ok (.ifCond .ne 7, 3) := by decide +kernel
theorem dX7_longest_43 : decode cX7_longest 43 = .ok (.iconst 1, 1) := by decide +kernel
theorem dX7_longest_44 : decode cX7_longest 44 = .ok (.goto 4, 3) := by decide +kernel
theorem dX7_longest_47 : decode cX7_longest 47 = .ok (.iconst 0, 1) := by decide +kernel
theorem dX7_longest_48 : decode cX7_longest 48 = .ok (.invokestatic 119, 3) := by decide +kernel
theorem dX7_longest_51 : decode cX7_longest 51 = .ok (.iadd, 1) := by decide +kernel
theorem dX7_longest_52 : decode cX7_longest 52 = .ok (.istore_n 3, 1) := by decide +kernel
theorem dX7_longest_53 : decode cX7_longest 53 = .ok (.iload 6, 2) := by decide +kernel
theorem dX7_longest_55 : decode cX7_longest 55 = .ok (.iload_n 2, 1) := by decide +kernel
theorem dX7_longest_56 : decode cX7_longest 56 = .ok (.if_icmp .le 8, 3) := by decide +kernel
theorem dX7_longest_59 : decode cX7_longest 59 = .ok (.iload 4, 2) := by decide +kernel
theorem dX7_longest_61 : decode cX7_longest 61 = .ok (.goto 4, 3) := by decide +kernel
theorem dX7_longest_64 : decode cX7_longest 64 = .ok (.iload_n 1, 1) := by decide +kernel
theorem dX7_longest_65 : decode cX7_longest 65 = .ok (.istore_n 1, 1) := by decide +kernel
theorem dX7_longest_66 : decode cX7_longest 66 = .ok (.iload_n 2, 1) := by decide +kernel
theorem dX7_longest_67 : decode cX7_longest 67 = .ok (.iload 6, 2) := by decide +kernel
theorem dX7_longest_69 : decode cX7_longest 69 = .ok (.invokestatic 307, 3) := by decide +kernel
theorem dX7_longest_72 : decode cX7_longest 72 = .ok (.istore_n 2, 1) := by decide +kernel
theorem dX7_longest_73 : decode cX7_longest 73 = .ok (.iinc 4 1, 3) := by decide +kernel
theorem dX7_longest_76 : decode cX7_longest 76 = .ok (.iload 5, 2) := by decide +kernel
theorem dX7_longest_78 : decode cX7_longest 78 = .ok (.iload 6, 2) := by decide +kernel
theorem dX7_longest_80 : decode cX7_longest 80 = .ok (.iconst 1, 1) := by decide +kernel
theorem dX7_longest_81 : decode cX7_longest 81 = .ok (.iadd, 1) := by decide +kernel
theorem dX7_longest_82 : decode cX7_longest 82 = .ok (.iadd, 1) := by decide +kernel
theorem dX7_longest_83 : decode cX7_longest 83 = .ok (.istore 5, 2) := by decide +kernel
theorem dX7_longest_85 : decode cX7_longest 85 = .ok (.goto (-68), 3) := by decide +kernel
theorem dX7_longest_88 : decode cX7_longest 88 = .ok (.aload_n 0, 1) := by decide +kernel
theorem dX7_longest_89 : decode cX7_longest 89 = .ok (.iconst 0, 1) := by decide +kernel
theorem dX7_longest_90 : decode cX7_longest 90 = .ok (.putfield 11, 3) := by decide +kernel
theorem dX7_longest_93 : decode cX7_longest 93 = .ok (.aload_n 0, 1) := by decide +kernel
theorem dX7_longest_94 : decode cX7_longest 94 = .ok (.iload_n 2, 1) := by decide +kernel
theorem dX7_longest_95 : decode cX7_longest 95 = .ok (.i2l, 1) := by decide +kernel
theorem dX7_longest_96 : decode cX7_longest 96 = .ok (.invokevirtual 295, 3) := by decide +kernel
theorem dX7_longest_99 : decode cX7_longest 99 = .ok (.aload_n 0, 1) := by decide +kernel
theorem dX7_longest_100 : decode cX7_longest 100 = .ok (.iload_n 3, 1) := by decide +kernel
theorem dX7_longest_101 : decode cX7_longest 101 = .ok (.i2l, 1) := by decide +kernel
theorem dX7_longest_102 : decode cX7_longest 102 = .ok (.invokevirtual 295, 3) := by decide +kernel
theorem dX7_longest_105 : decode cX7_longest 105 = .ok (.iload_n 1, 1) := by decide +kernel
theorem dX7_longest_106 : decode cX7_longest 106 = .ok (.ireturn, 1) := by decide +kernel
theorem dX7_mark_0 : decode cX7_mark 0 = .ok (.aload_n 0, 1) := by decide +kernel
theorem dX7_mark_1 : decode cX7_mark 1 = .ok (.iconst 0, 1) := by decide +kernel
theorem dX7_mark_2 : decode cX7_mark 2 = .ok (.putfield 1, 3) := by decide +kernel
theorem dX7_mark_5 : decode cX7_mark 5 = .ok (.iload_n 1, 1) := by decide +kernel
theorem dX7_mark_6 : decode cX7_mark 6 = .ok (.i2l, 1) := by decide +kernel
theorem dX7_mark_7 : decode cX7_mark 7 = .ok (.lconst 0, 1) := by decide +kernel
theorem dX7_mark_8 : decode cX7_mark 8 = .ok (.ldc2_w 256, 3) := by decide +kernel
theorem dX7_mark_11 : decode cX7_mark 11 = .ok (.invokestatic 21, 3) := by decide +kernel
theorem dX7_mark_14 : decode cX7_mark 14 = .ok (.ifCond .ne 5, 3) := by decide +kernel
theorem dX7_mark_17 : decode cX7_mark 17 = .ok (.iconst (-1), 1) := by decide +kernel
theorem dX7_mark_18 : decode cX7_mark 18 = .ok (.ireturn, 1) := by decide +kernel
theorem dX7_mark_19 : decode cX7_mark 19 = .ok (.aload_n 0, 1) := by decide +kernel
theorem dX7_mark_20 : decode cX7_mark 20 = .ok (.getfield 51, 3) := by decide +kernel
theorem dX7_mark_23 : decode cX7_mark 23 = .ok (.iload_n 1, 1) := by decide +kernel
theorem dX7_mark_24 : decode cX7_mark 24 = .ok (.iaload, 1) := by decide +kernel
theorem dX7_mark_25 : decode cX7_mark 25 = .ok (.iconst (-1), 1) := by decide +kernel
theorem dX7_mark_26 : decode cX7_mark 26 = .ok (.if_icmp .ne 8, 3) := by decide +kernel
theorem dX7_mark_29 : decode cX7_mark 29 = .ok (.bipush (-2), 2) := by decide +kernel
theorem dX7_mark_31 : decode cX7_mark 31 = .ok (.goto 9, 3) := by decide +kernel
theorem dX7_mark_34 : decode cX7_mark 34 = .ok (.aload_n 0, 1) := by decide +kernel
theorem dX7_mark_35 : decode cX7_mark 35 = .ok (.getfield 51, 3) := by decide +kernel
theorem dX7_mark_38 : decode cX7_mark 38 = .ok (.iload_n 1, 1) := by decide +kernel
theorem dX7_mark_39 : decode cX7_mark 39 = .ok (.iaload, 1) := by decide +kernel
theorem dX7_mark_40 : decode cX7_mark 40 = .ok (.ireturn, 1) := by decide +kernel
theorem dX7_between_0 : decode cX7_between 0 = .ok (.aload_n 0, 1) := by decide +kernel
theorem dX7_between_1 : decode cX7_between 1 = .ok (.iconst 0, 1) := by decide +kernel
theorem dX7_between_2 : decode cX7_between 2 = .ok (.putfield 1, 3) := by decide +kernel
theorem dX7_between_5 : decode cX7_between 5 = .ok (.iload_n 2, 1) := by decide +kernel
theorem dX7_between_6 : decode cX7_between 6 = .ok (.iload_n 1, 1) := by decide +kernel
theorem dX7_between_7 : decode cX7_between 7 = .ok (.if_icmp .ge 5, 3) := by decide +kernel
theorem dX7_between_10 : decode cX7_between 10 = .ok (.iconst (-1), 1) := by decide +kernel
theorem dX7_between_11 : decode cX7_between 11 = .ok (.ireturn, 1) := by decide +kernel
theorem dX7_between_12 : decode cX7_between 12 = .ok (.iconst 0, 1) := by decide +kernel
theorem dX7_between_13 : decode cX7_between 13 = .ok (.istore_n 3, 1) := by decide +kernel
theorem dX7_between_14 : decode cX7_between 14 = .ok (.iconst 0, 1) := by decide +kernel
theorem dX7_between_15 : decode cX7_between 15 = .ok (.istore 4, 2) := by decide +kernel
theorem dX7_between_17 : decode cX7_between 17 = .ok (.iload 4, 2) := by decide +kernel
theorem dX7_between_19 : decode cX7_between 19 = .ok (.bipush 8, 2) := by decide +kernel
theorem dX7_between_21 : decode cX7_between 21 = .ok (.if_icmp .ge 49, 3) := by decide +kernel
theorem dX7_between_24 : decode cX7_between 24 = .ok (.iload_n 3, 1) := by decide +kernel
theorem dX7_between_25 : decode cX7_between 25 = .ok (.aload_n 0, 1) := by decide +kernel
theorem dX7_between_26 : decode cX7_between 26 = .ok (.getfield 51, 3) := by decide +kernel
theorem dX7_between_29 : decode cX7_between 29 = .ok (.iload 4, 2) := by decide +kernel
theorem dX7_between_31 : decode cX7_between 31 = .ok (.iaload, 1) := by decide +kernel
theorem dX7_between_32 : decode cX7_between 32 = .ok (.iconst (-1), 1) := by decide +kernel
theorem dX7_between_33 : decode cX7_between 33 = .ok (.if_icmp .eq 28, 3) := by decide +kernel
theorem dX7_between_36 : decode cX7_between 36 = .ok (.aload_n 0, 1) := by decide +kernel
theorem dX7_between_37 : decode cX7_between 37 = .ok (.getfield 51, 3) := by decide +kernel
theorem dX7_between_40 : decode cX7_between 40 = .ok (.iload 4, 2) := by decide +kernel
theorem dX7_between_42 : decode cX7_between 42 = .ok (.iaload, 1) := by decide +kernel
theorem dX7_between_43 : decode cX7_between 43 = .ok (.i2l, 1) := by decide +kernel
theorem dX7_between_44 : decode cX7_between 44 = .ok (.iload_n 1, 1) := by decide +kernel
theorem dX7_between_45 : decode cX7_between 45 = .ok (.i2l, 1) := by decide +kernel
theorem dX7_between_46 : decode cX7_between 46 = .ok (.iload_n 2, 1) := by decide +kernel
theorem dX7_between_47 : decode cX7_between 47 = .ok (.i2l, 1) := by decide +kernel
theorem dX7_between_48 : decode cX7_between 48 = .ok (.invokestatic 21, 3) := by decide +kernel
theorem dX7_between_51 : decode cX7_between 51 = .ok (.ifCond .eq 10, 3) := by decide +kernel
theorem dX7_between_54 : decode cX7_between 54 = .ok (.iconst 1, 1) := by decide +kernel
theorem dX7_between_55 : decode cX7_between 55 = .ok (.iload 4, 2) := by decide +kernel
theorem dX7_between_57 : decode cX7_between 57 = .ok (.ishl, 1) := by decide +kernel
theorem dX7_between_58 : decode cX7_between 58 = .ok (.goto 4, 3) := by decide +kernel
theorem dX7_between_61 : decode cX7_between 61 = .ok (.iconst 0, 1) := by decide +kernel
theorem dX7_between_62 : decode cX7_between 62 = .ok (.ior, 1) := by decide +kernel
theorem dX7_between_63 : decode cX7_between 63 = .ok (.istore_n 3, 1) := by decide +kernel
theorem dX7_between_64 : decode cX7_between 64 = .ok (.iinc 4 1, 3) := by decide +kernel
theorem dX7_between_67 : decode cX7_between 67 = .ok (.goto (-50), 3) := by decide +kernel
theorem dX7_between_70 : decode cX7_between 70 = .ok (.aload_n 0, 1) := by decide +kernel
theorem dX7_between_71 : decode cX7_between 71 = .ok (.iconst 0, 1) := by decide +kernel
theorem dX7_between_72 : decode cX7_between 72 = .ok (.putfield 11, 3) := by decide +kernel
theorem dX7_between_75 : decode cX7_between 75 = .ok (.aload_n 0, 1) := by decide +kernel
theorem dX7_between_76 : decode cX7_between 76 = .ok (.iload_n 3, 1) := by decide +kernel
theorem dX7_between_77 : decode cX7_between 77 = .ok (.invokestatic 310, 3) := by decide +kernel
theorem dX7_between_80 : decode cX7_between 80 = .ok (.i2l, 1) := by decide +kernel
theorem dX7_between_81 : decode cX7_between 81 = .ok (.invokevirtual 295, 3) := by decide +kernel
theorem dX7_between_84 : decode cX7_between 84 = .ok (.iload_n 3, 1) := by decide +kernel
theorem dX7_between_85 : decode cX7_between 85 = .ok (.ireturn, 1) := by decide +kernel
theorem dX7_beginOf_0 : decode cX7_beginOf 0 = .ok (.iconst 0, 1) := by decide +kernel
theorem dX7_beginOf_1 : decode cX7_beginOf 1 = .ok (.istore_n 2, 1) := by decide +kernel
theorem dX7_beginOf_2 : decode cX7_beginOf 2 = .ok (.iload_n 1, 1) := by decide +kernel
theorem dX7_beginOf_3 : decode cX7_beginOf 3 = .ok (.istore_n 3, 1) := by decide +kernel
theorem dX7_beginOf_4 : decode cX7_beginOf 4 = .ok (.iload_n 3, 1) := by decide +kernel
theorem dX7_beginOf_5 : decode cX7_beginOf 5 = .ok (.ifCond .gt 11, 3) := by decide +kernel
theorem dX7_beginOf_8 : decode cX7_beginOf 8 = .ok (.aload_n 0, 1) := by decide +kernel
theorem dX7_beginOf_9 : decode cX7_beginOf 9 = .ok (.iload_n 2, 1) := by decide +kernel
theorem dX7_beginOf_10 : decode cX7_beginOf 10 = .ok (.invokevirtual 130, 3) := by decide +kernel
theorem dX7_beginOf_13 : decode cX7_beginOf 13 = .ok (.ifCond .ne 20, 3) := by decide +kernel
theorem dX7_beginOf_16 : decode cX7_beginOf 16 = .ok (.iload_n 3, 1) := by decide +kernel
theorem dX7_beginOf_17 : decode cX7_beginOf 17 = .ok (.aload_n 0, 1) := by decide +kernel
theorem dX7_beginOf_18 : decode cX7_beginOf 18 = .ok (.iload_n 2, 1) := by decide +kernel
theorem dX7_beginOf_19 : decode cX7_beginOf 19 = .ok (.invokevirtual 130, 3) := by decide +kernel
theorem dX7_beginOf_22 : decode cX7_beginOf 22 = .ok (.invokestatic 119, 3) := by decide +kernel
theorem dX7_beginOf_25 : decode cX7_beginOf 25 = .ok (.isub, 1) := by decide +kernel
theorem dX7_beginOf_26 : decode cX7_beginOf 26 = .ok (.istore_n 3, 1) := by decide +kernel
theorem dX7_beginOf_27 : decode cX7_beginOf 27 = .ok (.iinc 2 1, 3) := by decide +kernel
theorem dX7_beginOf_30 : decode cX7_beginOf 30 = .ok (.goto (-26), 3) := by decide +kernel
theorem dX7_beginOf_33 : decode cX7_beginOf 33 = .ok (.iload_n 2, 1) := by decide +kernel
theorem dX7_beginOf_34 : decode cX7_beginOf 34 = .ok (.ireturn, 1) := by decide +kernel
theorem dX7_endOf_0 : decode cX7_endOf 0 = .ok (.iload_n 1, 1) := by decide +kernel
theorem dX7_endOf_1 : decode cX7_endOf 1 = .ok (.iconst 1, 1) := by decide +kernel
theorem dX7_endOf_2 : decode cX7_endOf 2 = .ok (.iadd, 1) := by decide +kernel
theorem dX7_endOf_3 : decode cX7_endOf 3 = .ok (.istore_n 2, 1) := by decide +kernel
theorem dX7_endOf_4 : decode cX7_endOf 4 = .ok (.iload_n 2, 1) := by decide +kernel
theorem dX7_endOf_5 : decode cX7_endOf 5 = .ok (.aload_n 0, 1) := by decide +kernel
theorem dX7_endOf_6 : decode cX7_endOf 6 = .ok (.getfield 123, 3) := by decide +kernel
theorem dX7_endOf_9 : decode cX7_endOf 9 = .ok (.if_icmp .ge 17, 3) := by decide +kernel
theorem dX7_endOf_12 : decode cX7_endOf 12 = .ok (.aload_n 0, 1) := by decide +kernel
theorem dX7_endOf_13 : decode cX7_endOf 13 = .ok (.iload_n 2, 1) := by decide +kernel
theorem dX7_endOf_14 : decode cX7_endOf 14 = .ok (.invokevirtual 130, 3) := by decide +kernel
theorem dX7_endOf_17 : decode cX7_endOf 17 = .ok (.ifCond .ne 9, 3) := by decide +kernel
theorem dX7_endOf_20 : decode cX7_endOf 20 = .ok (.iinc 2 1, 3) := by decide +kernel
theorem dX7_endOf_23 : decode cX7_endOf 23 = .ok (.goto (-19), 3) := by decide +kernel
theorem dX7_endOf_26 : decode cX7_endOf 26 = .ok (.iload_n 2, 1) := by decide +kernel
theorem dX7_endOf_27 : decode cX7_endOf 27 = .ok (.ireturn, 1) := by decide +kernel
theorem dX7_piece_0 : decode cX7_piece 0 = .ok (.aload_n 0, 1) := by decide +kernel
theorem dX7_piece_1 : decode cX7_piece 1 = .ok (.iconst 0, 1) := by decide +kernel
theorem dX7_piece_2 : decode cX7_piece 2 = .ok (.putfield 1, 3) := by decide +kernel
theorem dX7_piece_5 : decode cX7_piece 5 = .ok (.iload_n 1, 1) := by decide +kernel
theorem dX7_piece_6 : decode cX7_piece 6 = .ok (.i2l, 1) := by decide +kernel
theorem dX7_piece_7 : decode cX7_piece 7 = .ok (.lconst 0, 1) := by decide +kernel
theorem dX7_piece_8 : decode cX7_piece 8 = .ok (.aload_n 0, 1) := by decide +kernel
theorem dX7_piece_9 : decode cX7_piece 9 = .ok (.invokevirtual 315, 3) := by decide +kernel
theorem dX7_piece_12 : decode cX7_piece 12 = .ok (.iconst 1, 1) := by decide +kernel
theorem dX7_piece_13 : decode cX7_piece 13 = .ok (.isub, 1) := by decide +kernel
theorem dX7_piece_14 : decode cX7_piece 14 = .ok (.i2l, 1) := by decide +kernel
theorem dX7_piece_15 : decode cX7_piece 15 = .ok (.invokestatic 21, 3) := by decide +kernel
theorem dX7_piece_18 : decode cX7_piece 18 = .ok (.ifCond .eq 15, 3) := by decide +kernel
theorem dX7_piece_21 : decode cX7_piece 21 = .ok (.iload_n 2, 1) := by decide +kernel
theorem dX7_piece_22 : decode cX7_piece 22 = .ok (.i2l, 1) := by decide +kernel
theorem dX7_piece_23 : decode cX7_piece 23 = .ok (.lconst 0, 1) := by decide +kernel
theorem dX7_piece_24 : decode cX7_piece 24 = .ok (.ldc2_w 318, 3) := by decide +kernel
theorem dX7_piece_27 : decode cX7_piece 27 = .ok (.invokestatic 21, 3) := by decide +kernel
theorem dX7_piece_30 : decode cX7_piece 30 = .ok (.ifCond .ne 8, 3) := by decide +kernel
theorem dX7_piece_33 : decode cX7_piece 33 = .ok (.aload_n 0, 1) := by decide +kernel
theorem dX7_piece_34 : decode cX7_piece 34 = .ok (.invokevirtual 196, 3) := by decide +kernel
theorem dX7_piece_37 : decode cX7_piece 37 = .ok (.ireturn, 1) := by decide +kernel
theorem dX7_piece_38 : decode cX7_piece 38 = .ok (.aload_n 0, 1) := by decide +kernel
theorem dX7_piece_39 : decode cX7_piece 39 = .ok (.iload_n 1, 1) := by decide +kernel
theorem dX7_piece_40 : decode cX7_piece 40 = .ok (.invokevirtual 320, 3) := by decide +kernel
theorem dX7_piece_43 : decode cX7_piece 43 = .ok (.istore_n 3, 1) := by decide +kernel
theorem dX7_piece_44 : decode cX7_piece 44 = .ok (.iload_n 2, 1) := by decide +kernel
theorem dX7_piece_45 : decode cX7_piece 45 = .ok (.tableswitch 67 0 3 #[31, 37, 43, 51], 31) := by decide +kernel
theorem dX7_piece_76 : decode cX7_piece 76 = .ok (.aload_n 0, 1) := by decide +kernel
theorem dX7_piece_77 : decode cX7_piece 77 = .ok (.iload_n 3, 1) := by decide +kernel
theorem dX7_piece_78 : decode cX7_piece 78 = .ok (.invokevirtual 108, 3) := by decide +kernel
theorem dX7_piece_81 : decode cX7_piece 81 = .ok (.ireturn, 1) := by decide +kernel
theorem dX7_piece_82 : decode cX7_piece 82 = .ok (.aload_n 0, 1) := by decide +kernel
theorem dX7_piece_83 : decode cX7_piece 83 = .ok (.iload_n 3, 1) := by decide +kernel
theorem dX7_piece_84 : decode cX7_piece 84 = .ok (.invokevirtual 112, 3) := by decide +kernel
theorem dX7_piece_87 : decode cX7_piece 87 = .ok (.ireturn, 1) := by decide +kernel
theorem dX7_piece_88 : decode cX7_piece 88 = .ok (.aload_n 0, 1) := by decide +kernel
theorem dX7_piece_89 : decode cX7_piece 89 = .ok (.iload_n 3, 1) := by decide +kernel
theorem dX7_piece_90 : decode cX7_piece 90 = .ok (.invokevirtual 323, 3) := by decide +kernel
theorem dX7_piece_93 : decode cX7_piece 93 = .ok (.iload_n 3, 1) := by decide +kernel
theorem dX7_piece_94 : decode cX7_piece 94 = .ok (.isub, 1) := by decide +kernel
theorem dX7_piece_95 : decode cX7_piece 95 = .ok (.ireturn, 1) := by decide +kernel
theorem dX7_piece_96 : decode cX7_piece 96 = .ok (.aload_n 0, 1) := by decide +kernel
theorem dX7_piece_97 : decode cX7_piece 97 = .ok (.aload_n 0, 1) := by decide +kernel
theorem dX7_piece_98 : decode cX7_piece 98 = .ok (.iload_n 3, 1) := by decide +kernel
theorem dX7_piece_99 : decode cX7_piece 99 = .ok (.invokevirtual 323, 3) := by decide +kernel
theorem dX7_piece_102 : decode cX7_piece 102 = .ok (.invokevirtual 304, 3) := by decide +kernel
theorem dX7_piece_105 : decode cX7_piece 105 = .ok (.aload_n 0, 1) := by decide +kernel
theorem dX7_piece_106 : decode cX7_piece 106 = .ok (.iload_n 3, 1) := by decide +kernel
theorem dX7_piece_107 : decode cX7_piece 107 = .ok (.invokevirtual 304, 3) := by decide +kernel
theorem dX7_piece_110 : decode cX7_piece 110 = .ok (.isub, 1) := by decide +kernel
theorem dX7_piece_111 : decode cX7_piece 111 = .ok (.ireturn, 1) := by decide +kernel
theorem dX7_piece_112 : decode cX7_piece 112 = .ok (.iload_n 3, 1) := by decide +kernel
theorem dX7_piece_113 : decode cX7_piece 113 = .ok (.ireturn, 1) := by decide +kernel
theorem dX7_beginningsTo_0 : decode cX7_beginningsTo 0 = .ok (.iconst 0, 1) := by decide +kernel
theorem dX7_beginningsTo_1 : decode cX7_beginningsTo 1 = .ok (.istore_n 2, 1) := by decide +kernel
theorem dX7_beginningsTo_2 : decode cX7_beginningsTo 2 = .ok (.iconst 0, 1) := by decide +kernel
theorem dX7_beginningsTo_3 : decode cX7_beginningsTo 3 = .ok (.istore_n 3, 1) := by decide +kernel
theorem dX7_beginningsTo_4 : decode cX7_beginningsTo 4 = .ok (.iload_n 3, 1) := by decide +kernel
theorem dX7_beginningsTo_5 : decode cX7_beginningsTo 5 = .ok (.iload_n 1, 1) := by decide +kernel
theorem dX7_beginningsTo_6 : decode cX7_beginningsTo 6 = .ok (.if_icmp .gt 20, 3) := by decide +kernel
theorem dX7_beginningsTo_9 : decode cX7_beginningsTo 9 = .ok (.iload_n 2, 1) := by decide +kernel
theorem dX7_beginningsTo_10 : decode cX7_beginningsTo 10 = .ok (.aload_n 0, 1) := by decide +kernel
theorem dX7_beginningsTo_11 : decode cX7_beginningsTo 11 = .ok (.iload_n 3, 1) := by decide +kernel
theorem dX7_beginningsTo_12 : decode cX7_beginningsTo 12 = .ok (.invokevirtual 130, 3) := by decide +kernel
theorem dX7_beginningsTo_15 : decode cX7_beginningsTo 15 = .ok (.invokestatic 119, 3) := by decide +kernel
theorem dX7_beginningsTo_18 : decode cX7_beginningsTo 18 = .ok (.iadd, 1) := by decide +kernel
theorem dX7_beginningsTo_19 : decode cX7_beginningsTo 19 = .ok (.istore_n 2, 1) := by decide +kernel
theorem dX7_beginningsTo_20 : decode cX7_beginningsTo 20 = .ok (.iinc 3 1, 3) := by decide +kernel
theorem dX7_beginningsTo_23 : decode cX7_beginningsTo 23 = .ok (.goto (-19), 3) := by decide +kernel
theorem dX7_beginningsTo_26 : decode cX7_beginningsTo 26 = .ok (.iload_n 2, 1) := by decide +kernel
theorem dX7_beginningsTo_27 : decode cX7_beginningsTo 27 = .ok (.ireturn, 1) := by decide +kernel
theorem dX7_shows_0 : decode cX7_shows 0 = .ok (.aload_n 0, 1) := by decide +kernel
theorem dX7_shows_1 : decode cX7_shows 1 = .ok (.iconst 0, 1) := by decide +kernel
theorem dX7_shows_2 : decode cX7_shows 2 = .ok (.putfield 1, 3) := by decide +kernel
theorem dX7_shows_5 : decode cX7_shows 5 = .ok (.aload_n 0, 1) := by decide +kernel
theorem dX7_shows_6 : decode cX7_shows 6 = .ok (.iload_n 1, 1) := by decide +kernel
theorem dX7_shows_7 : decode cX7_shows 7 = .ok (.invokevirtual 299, 3) := by decide +kernel
theorem dX7_shows_10 : decode cX7_shows 10 = .ok (.ifCond .ne 5, 3) := by decide +kernel
theorem dX7_shows_13 : decode cX7_shows 13 = .ok (.iconst (-1), 1) := by decide +kernel
theorem dX7_shows_14 : decode cX7_shows 14 = .ok (.ireturn, 1) := by decide +kernel
theorem dX7_shows_15 : decode cX7_shows 15 = .ok (.aload_n 0, 1) := by decide +kernel
theorem dX7_shows_16 : decode cX7_shows 16 = .ok (.iload_n 1, 1) := by decide +kernel
theorem dX7_shows_17 : decode cX7_shows 17 = .ok (.invokevirtual 326, 3) := by decide +kernel
theorem dX7_shows_20 : decode cX7_shows 20 = .ok (.iconst 1, 1) := by decide +kernel
theorem dX7_shows_21 : decode cX7_shows 21 = .ok (.isub, 1) := by decide +kernel
theorem dX7_shows_22 : decode cX7_shows 22 = .ok (.istore_n 2, 1) := by decide +kernel
theorem dX7_shows_23 : decode cX7_shows 23 = .ok (.aload_n 0, 1) := by decide +kernel
theorem dX7_shows_24 : decode cX7_shows 24 = .ok (.iconst 0, 1) := by decide +kernel
theorem dX7_shows_25 : decode cX7_shows 25 = .ok (.putfield 11, 3) := by decide +kernel
theorem dX7_shows_28 : decode cX7_shows 28 = .ok (.aload_n 0, 1) := by decide +kernel
theorem dX7_shows_29 : decode cX7_shows 29 = .ok (.iload_n 1, 1) := by decide +kernel
theorem dX7_shows_30 : decode cX7_shows 30 = .ok (.aload_n 0, 1) := by decide +kernel
theorem dX7_shows_31 : decode cX7_shows 31 = .ok (.iload_n 2, 1) := by decide +kernel
theorem dX7_shows_32 : decode cX7_shows 32 = .ok (.invokevirtual 320, 3) := by decide +kernel
theorem dX7_shows_35 : decode cX7_shows 35 = .ok (.isub, 1) := by decide +kernel
theorem dX7_shows_36 : decode cX7_shows 36 = .ok (.i2l, 1) := by decide +kernel
theorem dX7_shows_37 : decode cX7_shows 37 = .ok (.invokevirtual 295, 3) := by decide +kernel
theorem dX7_shows_40 : decode cX7_shows 40 = .ok (.aload_n 0, 1) := by decide +kernel
theorem dX7_shows_41 : decode cX7_shows 41 = .ok (.aload_n 0, 1) := by decide +kernel
theorem dX7_shows_42 : decode cX7_shows 42 = .ok (.iload_n 1, 1) := by decide +kernel
theorem dX7_shows_43 : decode cX7_shows 43 = .ok (.invokevirtual 108, 3) := by decide +kernel
theorem dX7_shows_46 : decode cX7_shows 46 = .ok (.i2l, 1) := by decide +kernel
theorem dX7_shows_47 : decode cX7_shows 47 = .ok (.invokevirtual 295, 3) := by decide +kernel
theorem dX7_shows_50 : decode cX7_shows 50 = .ok (.aload_n 0, 1) := by decide +kernel
theorem dX7_shows_51 : decode cX7_shows 51 = .ok (.aload_n 0, 1) := by decide +kernel
theorem dX7_shows_52 : decode cX7_shows 52 = .ok (.iload_n 1, 1) := by decide +kernel
theorem dX7_shows_53 : decode cX7_shows 53 = .ok (.invokevirtual 112, 3) := by decide +kernel
theorem dX7_shows_56 : decode cX7_shows 56 = .ok (.i2l, 1) := by decide +kernel
theorem dX7_shows_57 : decode cX7_shows 57 = .ok (.invokevirtual 295, 3) := by decide +kernel
theorem dX7_shows_60 : decode cX7_shows 60 = .ok (.iload_n 2, 1) := by decide +kernel
theorem dX7_shows_61 : decode cX7_shows 61 = .ok (.ireturn, 1) := by decide +kernel
theorem dX7_from_0 : decode cX7_from 0 = .ok (.aload_n 0, 1) := by decide +kernel
theorem dX7_from_1 : decode cX7_from 1 = .ok (.iconst 0, 1) := by decide +kernel
theorem dX7_from_2 : decode cX7_from 2 = .ok (.putfield 1, 3) := by decide +kernel
theorem dX7_from_5 : decode cX7_from 5 = .ok (.iload_n 1, 1) := by decide +kernel
theorem dX7_from_6 : decode cX7_from 6 = .ok (.i2l, 1) := by decide +kernel
theorem dX7_from_7 : decode cX7_from 7 = .ok (.lconst 0, 1) := by decide +kernel
theorem dX7_from_8 : decode cX7_from 8 = .ok (.lconst 1, 1) := by decide +kernel
theorem dX7_from_9 : decode cX7_from 9 = .ok (.invokestatic 21, 3) := by decide +kernel
theorem dX7_from_12 : decode cX7_from 12 = .ok (.ifCond .eq 20, 3) := by decide +kernel
theorem dX7_from_15 : decode cX7_from 15 = .ok (.iload_n 2, 1) := by decide +kernel
theorem dX7_from_16 : decode cX7_from 16 = .ok (.i2l, 1) := by decide +kernel
theorem dX7_from_17 : decode cX7_from 17 = .ok (.lconst 0, 1) := by decide +kernel
theorem dX7_from_18 : decode cX7_from 18 = .ok (.aload_n 0, 1) := by decide +kernel
theorem dX7_from_19 : decode cX7_from 19 = .ok (.iload_n 1, 1) := by decide +kernel
theorem dX7_from_20 : decode cX7_from 20 = .ok (.invokevirtual 199, 3) := by decide +kernel
theorem dX7_from_23 : decode cX7_from 23 = .ok (.iconst 1, 1) := by decide +kernel
theorem dX7_from_24 : decode cX7_from 24 = .ok (.isub, 1) := by decide +kernel
theorem dX7_from_25 : decode cX7_from 25 = .ok (.i2l, 1) := by decide +kernel
theorem dX7_from_26 : decode cX7_from 26 = .ok (.invokestatic 21, 3) := by decide +kernel
theorem dX7_from_29 : decode cX7_from 29 = .ok (.ifCond .ne 5, 3) := by decide +kernel
theorem dX7_from_32 : decode cX7_from 32 = .ok (.iconst (-1), 1) := by decide +kernel
theorem dX7_from_33 : decode cX7_from 33 = .ok (.ireturn, 1) := by decide +kernel
theorem dX7_from_34 : decode cX7_from 34 = .ok (.iconst 0, 1) := by decide +kernel
theorem dX7_from_35 : decode cX7_from 35 = .ok (.istore_n 3, 1) := by decide +kernel
theorem dX7_from_36 : decode cX7_from 36 = .ok (.aload_n 0, 1) := by decide +kernel
theorem dX7_from_37 : decode cX7_from 37 = .ok (.iconst 0, 1) := by decide +kernel
theorem dX7_from_38 : decode cX7_from 38 = .ok (.putfield 11, 3) := by decide +kernel
theorem dX7_from_41 : decode cX7_from 41 = .ok (.iconst 0, 1) := by decide +kernel
theorem dX7_from_42 : decode cX7_from 42 = .ok (.istore 4, 2) := by decide +kernel
theorem dX7_from_44 : decode cX7_from 44 = .ok (.iload 4, 2) := by decide +kernel
theorem dX7_from_46 : decode cX7_from 46 = .ok (.aload_n 0, 1) := by decide +kernel
theorem dX7_from_47 : decode cX7_from 47 = .ok (.getfield 123, 3) := by decide +kernel
theorem dX7_from_50 : decode cX7_from 50 = .ok (.if_icmp .ge 62, 3) := by decide +kernel
theorem dX7_from_53 : decode cX7_from 53 = .ok (.aload_n 0, 1) := by decide +kernel
theorem dX7_from_54 : decode cX7_from 54 = .ok (.iload 4, 2) := by decide +kernel
theorem dX7_from_56 : decode cX7_from 56 = .ok (.invokevirtual 108, 3) := by decide +kernel
theorem dX7_from_59 : decode cX7_from 59 = .ok (.iload_n 1, 1) := by decide +kernel
theorem dX7_from_60 : decode cX7_from 60 = .ok (.if_icmp .ne 17, 3) := by decide +kernel
theorem dX7_from_63 : decode cX7_from 63 = .ok (.aload_n 0, 1) := by decide +kernel
theorem dX7_from_64 : decode cX7_from 64 = .ok (.iload 4, 2) := by decide +kernel
theorem dX7_from_66 : decode cX7_from 66 = .ok (.invokevirtual 112, 3) := by decide +kernel
theorem dX7_from_69 : decode cX7_from 69 = .ok (.iload_n 2, 1) := by decide +kernel
theorem dX7_from_70 : decode cX7_from 70 = .ok (.if_icmp .ne 7, 3) := by decide +kernel
theorem dX7_from_73 : decode cX7_from 73 = .ok (.iconst 1, 1) := by decide +kernel
theorem dX7_from_74 : decode cX7_from 74 = .ok (.goto 4, 3) := by decide +kernel
theorem dX7_from_77 : decode cX7_from 77 = .ok (.iconst 0, 1) := by decide +kernel
theorem dX7_from_78 : decode cX7_from 78 = .ok (.istore 5, 2) := by decide +kernel
theorem dX7_from_80 : decode cX7_from 80 = .ok (.iload 5, 2) := by decide +kernel
theorem dX7_from_82 : decode cX7_from 82 = .ok (.ifCond .eq 16, 3) := by decide +kernel
theorem dX7_from_85 : decode cX7_from 85 = .ok (.iload_n 3, 1) := by decide +kernel
theorem dX7_from_86 : decode cX7_from 86 = .ok (.bipush 12, 2) := by decide +kernel
theorem dX7_from_88 : decode cX7_from 88 = .ok (.if_icmp .ge 10, 3) := by decide +kernel
theorem dX7_from_91 : decode cX7_from 91 = .ok (.aload_n 0, 1) := by decide +kernel
theorem dX7_from_92 : decode cX7_from 92 = .ok (.iload 4, 2) := by decide +kernel
theorem dX7_from_94 : decode cX7_from 94 = .ok (.i2l, 1) := by decide +kernel
theorem dX7_from_95 : decode cX7_from 95 = .ok (.invokevirtual 295, 3) := by decide +kernel
theorem dX7_from_98 : decode cX7_from 98 = .ok (.iload_n 3, 1) := by decide +kernel
theorem dX7_from_99 : decode cX7_from 99 = .ok (.iload 5, 2) := by decide +kernel
theorem dX7_from_101 : decode cX7_from 101 = .ok (.invokestatic 119, 3) := by decide +kernel
theorem dX7_from_104 : decode cX7_from 104 = .ok (.iadd, 1) := by decide +kernel
theorem dX7_from_105 : decode cX7_from 105 = .ok (.istore_n 3, 1) := by decide +kernel
theorem dX7_from_106 : decode cX7_from 106 = .ok (.iinc 4 1, 3) := by decide +kernel
theorem dX7_from_109 : decode cX7_from 109 = .ok (.goto (-65), 3) := by decide +kernel
theorem dX7_from_112 : decode cX7_from 112 = .ok (.iload_n 3, 1) := by decide +kernel
theorem dX7_from_113 : decode cX7_from 113 = .ok (.ireturn, 1) := by decide +kernel
theorem dX7_lost_0 : decode cX7_lost 0 = .ok (.aload_n 0, 1) := by decide +kernel
theorem dX7_lost_1 : decode cX7_lost 1 = .ok (.iconst 0, 1) := by decide +kernel
theorem dX7_lost_2 : decode cX7_lost 2 = .ok (.putfield 1, 3) := by decide +kernel
theorem dX7_lost_5 : decode cX7_lost 5 = .ok (.iload_n 1, 1) := by decide +kernel
theorem dX7_lost_6 : decode cX7_lost 6 = .ok (.i2l, 1) := by decide +kernel
theorem dX7_lost_7 : decode cX7_lost 7 = .ok (.lconst 0, 1) := by decide +kernel
theorem dX7_lost_8 : decode cX7_lost 8 = .ok (.lconst 1, 1) := by decide +kernel
theorem dX7_lost_9 : decode cX7_lost 9 = .ok (.invokestatic 21, 3) := by decide +kernel
theorem dX7_lost_12 : decode cX7_lost 12 = .ok (.ifCond .ne 5, 3) := by decide +kernel
theorem dX7_lost_15 : decode cX7_lost 15 = .ok (.iconst (-1), 1) := by decide +kernel
theorem dX7_lost_16 : decode cX7_lost 16 = .ok (.ireturn, 1) := by decide +kernel
theorem dX7_lost_17 : decode cX7_lost 17 = .ok (.iconst 0, 1) := by decide +kernel
theorem dX7_lost_18 : decode cX7_lost 18 = .ok (.istore_n 2, 1) := by decide +kernel
theorem dX7_lost_19 : decode cX7_lost 19 = .ok (.iload_n 2, 1) := by decide +kernel
theorem dX7_lost_20 : decode cX7_lost 20 = .ok (.aload_n 0, 1) := by decide +kernel
theorem dX7_lost_21 : decode cX7_lost 21 = .ok (.iload_n 1, 1) := by decide +kernel
theorem dX7_lost_22 : decode cX7_lost 22 = .ok (.invokevirtual 199, 3) := by decide +kernel
theorem dX7_lost_25 : decode cX7_lost 25 = .ok (.if_icmp .ge 16, 3) := by decide +kernel
theorem dX7_lost_28 : decode cX7_lost 28 = .ok (.aload_n 0, 1) := by decide +kernel
theorem dX7_lost_29 : decode cX7_lost 29 = .ok (.getfield 98, 3) := by decide +kernel
theorem dX7_lost_32 : decode cX7_lost 32 = .ok (.iload_n 2, 1) := by decide +kernel
theorem dX7_lost_33 : decode cX7_lost 33 = .ok (.iconst 0, 1) := by decide +kernel
theorem dX7_lost_34 : decode cX7_lost 34 = .ok (.bastore, 1) := by decide +kernel
theorem dX7_lost_35 : decode cX7_lost 35 = .ok (.iinc 2 1, 3) := by decide +kernel
theorem dX7_lost_38 : decode cX7_lost 38 = .ok (.goto (-19), 3) := by decide +kernel
theorem dX7_lost_41 : decode cX7_lost 41 = .ok (.iconst 0, 1) := by decide +kernel
theorem dX7_lost_42 : decode cX7_lost 42 = .ok (.istore_n 2, 1) := by decide +kernel
theorem dX7_lost_43 : decode cX7_lost 43 = .ok (.iload_n 2, 1) := by decide +kernel
theorem dX7_lost_44 : decode cX7_lost 44 = .ok (.aload_n 0, 1) := by decide +kernel
theorem dX7_lost_45 : decode cX7_lost 45 = .ok (.getfield 123, 3) := by decide +kernel
theorem dX7_lost_48 : decode cX7_lost 48 = .ok (.if_icmp .ge 29, 3) := by decide +kernel
theorem dX7_lost_51 : decode cX7_lost 51 = .ok (.aload_n 0, 1) := by decide +kernel
theorem dX7_lost_52 : decode cX7_lost 52 = .ok (.iload_n 2, 1) := by decide +kernel
theorem dX7_lost_53 : decode cX7_lost 53 = .ok (.invokevirtual 108, 3) := by decide +kernel
theorem dX7_lost_56 : decode cX7_lost 56 = .ok (.iload_n 1, 1) := by decide +kernel
theorem dX7_lost_57 : decode cX7_lost 57 = .ok (.if_icmp .ne 14, 3) := by decide +kernel
theorem dX7_lost_60 : decode cX7_lost 60 = .ok (.aload_n 0, 1) := by decide +kernel
theorem dX7_lost_61 : decode cX7_lost 61 = .ok (.getfield 98, 3) := by decide +kernel
theorem dX7_lost_64 : decode cX7_lost 64 = .ok (.aload_n 0, 1) := by decide +kernel
theorem dX7_lost_65 : decode cX7_lost 65 = .ok (.iload_n 2, 1) := by decide +kernel
theorem dX7_lost_66 : decode cX7_lost 66 = .ok (.invokevirtual 112, 3) := by decide +kernel
theorem dX7_lost_69 : decode cX7_lost 69 = .ok (.iconst 1, 1) := by decide +kernel
theorem dX7_lost_70 : decode cX7_lost 70 = .ok (.bastore, 1) := by decide +kernel
theorem dX7_lost_71 : decode cX7_lost 71 = .ok (.iinc 2 1, 3) := by decide +kernel
theorem dX7_lost_74 : decode cX7_lost 74 = .ok (.goto (-31), 3) := by decide +kernel
theorem dX7_lost_77 : decode cX7_lost 77 = .ok (.iconst 0, 1) := by decide +kernel
theorem dX7_lost_78 : decode cX7_lost 78 = .ok (.istore_n 2, 1) := by decide +kernel
theorem dX7_lost_79 : decode cX7_lost 79 = .ok (.aload_n 0, 1) := by decide +kernel
theorem dX7_lost_80 : decode cX7_lost 80 = .ok (.iconst 0, 1) := by decide +kernel
theorem dX7_lost_81 : decode cX7_lost 81 = .ok (.putfield 11, 3) := by decide +kernel
theorem dX7_lost_84 : decode cX7_lost 84 = .ok (.iconst 0, 1) := by decide +kernel
theorem dX7_lost_85 : decode cX7_lost 85 = .ok (.istore_n 3, 1) := by decide +kernel
theorem dX7_lost_86 : decode cX7_lost 86 = .ok (.iload_n 3, 1) := by decide +kernel
theorem dX7_lost_87 : decode cX7_lost 87 = .ok (.aload_n 0, 1) := by decide +kernel
theorem dX7_lost_88 : decode cX7_lost 88 = .ok (.iload_n 1, 1) := by decide +kernel
theorem dX7_lost_89 : decode cX7_lost 89 = .ok (.invokevirtual 199, 3) := by decide +kernel
theorem dX7_lost_92 : decode cX7_lost 92 = .ok (.if_icmp .ge 48, 3) := by decide +kernel
theorem dX7_lost_95 : decode cX7_lost 95 = .ok (.aload_n 0, 1) := by decide +kernel
theorem dX7_lost_96 : decode cX7_lost 96 = .ok (.getfield 98, 3) := by decide +kernel
theorem dX7_lost_99 : decode cX7_lost 99 = .ok (.iload_n 3, 1) := by decide +kernel
theorem dX7_lost_100 : decode cX7_lost 100 = .ok (.baload, 1) := by decide +kernel
theorem dX7_lost_101 : decode cX7_lost 101 = .ok (.ifCond .ne 13, 3) := by decide +kernel
theorem dX7_lost_104 : decode cX7_lost 104 = .ok (.iload_n 2, 1) := by decide +kernel
theorem dX7_lost_105 : decode cX7_lost 105 = .ok (.ifCond .ne 9, 3) := by decide +kernel
theorem dX7_lost_108 : decode cX7_lost 108 = .ok (.aload_n 0, 1) := by decide +kernel
theorem dX7_lost_109 : decode cX7_lost 109 = .ok (.iload_n 3, 1) := by decide +kernel
theorem dX7_lost_110 : decode cX7_lost 110 = .ok (.i2l, 1) := by decide +kernel
theorem dX7_lost_111 : decode cX7_lost 111 = .ok (.invokevirtual 295, 3) := by decide +kernel
theorem dX7_lost_114 : decode cX7_lost 114 = .ok (.iload_n 2, 1) := by decide +kernel
theorem dX7_lost_115 : decode cX7_lost 115 = .ok (.aload_n 0, 1) := by decide +kernel
theorem dX7_lost_116 : decode cX7_lost 116 = .ok (.getfield 98, 3) := by decide +kernel
theorem dX7_lost_119 : decode cX7_lost 119 = .ok (.iload_n 3, 1) := by decide +kernel
theorem dX7_lost_120 : decode cX7_lost 120 = .ok (.baload, 1) := by decide +kernel
theorem dX7_lost_121 : decode cX7_lost 121 = .ok (.ifCond .ne 7, 3) := by decide +kernel
theorem dX7_lost_124 : decode cX7_lost 124 = .ok (.iconst 1, 1) := by decide +kernel
theorem dX7_lost_125 : decode cX7_lost 125 = .ok (.goto 4, 3) := by decide +kernel
theorem dX7_lost_128 : decode cX7_lost 128 = .ok (.iconst 0, 1) := by decide +kernel
theorem dX7_lost_129 : decode cX7_lost 129 = .ok (.invokestatic 119, 3) := by decide +kernel
theorem dX7_lost_132 : decode cX7_lost 132 = .ok (.iadd, 1) := by decide +kernel
theorem dX7_lost_133 : decode cX7_lost 133 = .ok (.istore_n 2, 1) := by decide +kernel
theorem dX7_lost_134 : decode cX7_lost 134 = .ok (.iinc 3 1, 3) := by decide +kernel
theorem dX7_lost_137 : decode cX7_lost 137 = .ok (.goto (-51), 3) := by decide +kernel
theorem dX7_lost_140 : decode cX7_lost 140 = .ok (.iload_n 2, 1) := by decide +kernel
theorem dX7_lost_141 : decode cX7_lost 141 = .ok (.ireturn, 1) := by decide +kernel
theorem dX7_healable_0 : decode cX7_healable 0 = .ok (.aload_n 0, 1) := by decide +kernel
theorem dX7_healable_1 : decode cX7_healable 1 = .ok (.iconst 0, 1) := by decide +kernel
theorem dX7_healable_2 : decode cX7_healable 2 = .ok (.putfield 1, 3) := by decide +kernel
theorem dX7_healable_5 : decode cX7_healable 5 = .ok (.iconst (-1), 1) := by decide +kernel
theorem dX7_healable_6 : decode cX7_healable 6 = .ok (.istore_n 1, 1) := by decide +kernel
theorem dX7_healable_7 : decode cX7_healable 7 = .ok (.iconst 0, 1) := by decide +kernel
theorem dX7_healable_8 : decode cX7_healable 8 = .ok (.istore_n 2, 1) := by decide +kernel
theorem dX7_healable_9 : decode cX7_healable 9 = .ok (.iconst 0, 1) := by decide +kernel
theorem dX7_healable_10 : decode cX7_healable 10 = .ok (.istore_n 3, 1) := by decide +kernel
theorem dX7_healable_11 : decode cX7_healable 11 = .ok (.iconst 0, 1) := by decide +kernel
theorem dX7_healable_12 : decode cX7_healable 12 = .ok (.istore 4, 2) := by decide +kernel
theorem dX7_healable_14 : decode cX7_healable 14 = .ok (.iload 4, 2) := by decide +kernel
theorem dX7_healable_16 : decode cX7_healable 16 = .ok (.aload_n 0, 1) := by decide +kernel
theorem dX7_healable_17 : decode cX7_healable 17 = .ok (.getfield 123, 3) := by decide +kernel
theorem dX7_healable_20 : decode cX7_healable 20 = .ok (.if_icmp .ge 50, 3) := by decide +kernel
theorem dX7_healable_23 : decode cX7_healable 23 = .ok (.aload_n 0, 1) := by decide +kernel
theorem dX7_healable_24 : decode cX7_healable 24 = .ok (.iload 4, 2) := by decide +kernel
theorem dX7_healable_26 : decode cX7_healable 26 = .ok (.invokevirtual 323, 3) := by decide +kernel
theorem dX7_healable_29 : decode cX7_healable 29 = .ok (.iload 4, 2) := by decide +kernel
theorem dX7_healable_31 : decode cX7_healable 31 = .ok (.isub, 1) := by decide +kernel
theorem dX7_healable_32 : decode cX7_healable 32 = .ok (.iload_n 2, 1) := by decide +kernel
theorem dX7_healable_33 : decode cX7_healable 33 = .ok (.if_icmp .le 7, 3) := by decide +kernel
theorem dX7_healable_36 : decode cX7_healable 36 = .ok (.iload_n 3, 1) := by decide +kernel
theorem dX7_healable_37 : decode cX7_healable 37 = .ok (.goto 4, 3) := by decide +kernel
theorem dX7_healable_40 : decode cX7_healable 40 = .ok (.iload_n 1, 1) := by decide +kernel
theorem dX7_healable_41 : decode cX7_healable 41 = .ok (.istore_n 1, 1) := by decide +kernel
theorem dX7_healable_42 : decode cX7_healable 42 = .ok (.iload_n 2, 1) := by decide +kernel
theorem dX7_healable_43 : decode cX7_healable 43 = .ok (.aload_n 0, 1) := by decide +kernel
theorem dX7_healable_44 : decode cX7_healable 44 = .ok (.iload 4, 2) := by decide +kernel
theorem dX7_healable_46 : decode cX7_healable 46 = .ok (.invokevirtual 323, 3) := by decide +kernel
theorem dX7_healable_49 : decode cX7_healable 49 = .ok (.iload 4, 2) := by decide +kernel
theorem dX7_healable_51 : decode cX7_healable 51 = .ok (.isub, 1) := by decide +kernel
theorem dX7_healable_52 : decode cX7_healable 52 = .ok (.invokestatic 307, 3) := by decide +kernel
theorem dX7_healable_55 : decode cX7_healable 55 = .ok (.istore_n 2, 1) := by decide +kernel
theorem dX7_healable_56 : decode cX7_healable 56 = .ok (.iinc 3 1, 3) := by decide +kernel
theorem dX7_healable_59 : decode cX7_healable 59 = .ok (.aload_n 0, 1) := by decide +kernel
theorem dX7_healable_60 : decode cX7_healable 60 = .ok (.iload 4, 2) := by decide +kernel
theorem dX7_healable_62 : decode cX7_healable 62 = .ok (.invokevirtual 323, 3) := by decide +kernel
theorem dX7_healable_65 : decode cX7_healable 65 = .ok (.istore 4, 2) := by decide +kernel
theorem dX7_healable_67 : decode cX7_healable 67 = .ok (.goto (-53), 3) := by decide +kernel
theorem dX7_healable_70 : decode cX7_healable 70 = .ok (.aload_n 0, 1) := by decide +kernel
theorem dX7_healable_71 : decode cX7_healable 71 = .ok (.iconst 0, 1) := by decide +kernel
theorem dX7_healable_72 : decode cX7_healable 72 = .ok (.putfield 11, 3) := by decide +kernel
theorem dX7_healable_75 : decode cX7_healable 75 = .ok (.iload_n 1, 1) := by decide +kernel
theorem dX7_healable_76 : decode cX7_healable 76 = .ok (.ifCond .lt 9, 3) := by decide +kernel
theorem dX7_healable_79 : decode cX7_healable 79 = .ok (.aload_n 0, 1) := by decide +kernel
theorem dX7_healable_80 : decode cX7_healable 80 = .ok (.iload_n 1, 1) := by decide +kernel
theorem dX7_healable_81 : decode cX7_healable 81 = .ok (.i2l, 1) := by decide +kernel
theorem dX7_healable_82 : decode cX7_healable 82 = .ok (.invokevirtual 295, 3) := by decide +kernel
theorem dX7_healable_85 : decode cX7_healable 85 = .ok (.aload_n 0, 1) := by decide +kernel
theorem dX7_healable_86 : decode cX7_healable 86 = .ok (.invokevirtual 239, 3) := by decide +kernel
theorem dX7_healable_89 : decode cX7_healable 89 = .ok (.ireturn, 1) := by decide +kernel
theorem dX7_small_0 : decode cX7_small 0 = .ok (.iload_n 0, 1) := by decide +kernel
theorem dX7_small_1 : decode cX7_small 1 = .ok (.i2l, 1) := by decide +kernel
theorem dX7_small_2 : decode cX7_small 2 = .ok (.ldc2_w 329, 3) := by decide +kernel
theorem dX7_small_5 : decode cX7_small 5 = .ok (.ldc2_w 331, 3) := by decide +kernel
theorem dX7_small_8 : decode cX7_small 8 = .ok (.invokestatic 21, 3) := by decide +kernel
theorem dX7_small_11 : decode cX7_small 11 = .ok (.ifCond .eq 13, 3) := by decide +kernel
theorem dX7_small_14 : decode cX7_small 14 = .ok (.iload_n 0, 1) := by decide +kernel
theorem dX7_small_15 : decode cX7_small 15 = .ok (.bipush 97, 2) := by decide +kernel
theorem dX7_small_17 : decode cX7_small 17 = .ok (.iadd, 1) := by decide +kernel
theorem dX7_small_18 : decode cX7_small 18 = .ok (.bipush 65, 2) := by decide +kernel
theorem dX7_small_20 : decode cX7_small 20 = .ok (.isub, 1) := by decide +kernel
theorem dX7_small_21 : decode cX7_small 21 = .ok (.goto 4, 3) := by decide +kernel
theorem dX7_small_24 : decode cX7_small 24 = .ok (.iload_n 0, 1) := by decide +kernel
theorem dX7_small_25 : decode cX7_small 25 = .ok (.ireturn, 1) := by decide +kernel
theorem dX7_isLike_0 : decode cX7_isLike 0 = .ok (.iload_n 2, 1) := by decide +kernel
theorem dX7_isLike_1 : decode cX7_isLike 1 = .ok (.iconst 1, 1) := by decide +kernel
theorem dX7_isLike_2 : decode cX7_isLike 2 = .ok (.if_icmp .ne 21, 3) := by decide +kernel
theorem dX7_isLike_5 : decode cX7_isLike 5 = .ok (.iload_n 1, 1) := by decide +kernel
theorem dX7_isLike_6 : decode cX7_isLike 6 = .ok (.bipush 63, 2) := by decide +kernel
theorem dX7_isLike_8 : decode cX7_isLike 8 = .ok (.if_icmp .ne 15, 3) := by decide +kernel
theorem dX7_isLike_11 : decode cX7_isLike 11 = .ok (.iload_n 0, 1) := by decide +kernel
theorem dX7_isLike_12 : decode cX7_isLike 12 = .ok (.bipush 10, 2) := by decide +kernel
theorem dX7_isLike_14 : decode cX7_isLike 14 = .ok (.if_icmp .eq 7, 3) := by decide +kernel
theorem dX7_isLike_17 : decode cX7_isLike 17 = .ok (.iconst 1, 1) := by decide +kernel
theorem dX7_isLike_18 : decode cX7_isLike 18 = .ok (.goto 4, 3) := by decide +kernel
theorem dX7_isLike_21 : decode cX7_isLike 21 = .ok (.iconst 0, 1) := by decide +kernel
theorem dX7_isLike_22 : decode cX7_isLike 22 = .ok (.ireturn, 1) := by decide +kernel
theorem dX7_isLike_23 : decode cX7_isLike 23 = .ok (.iload_n 2, 1) := by decide +kernel
theorem dX7_isLike_24 : decode cX7_isLike 24 = .ok (.iconst 1, 1) := by decide +kernel
theorem dX7_isLike_25 : decode cX7_isLike 25 = .ok (.if_icmp .ne 21, 3) := by decide +kernel
theorem dX7_isLike_28 : decode cX7_isLike 28 = .ok (.iload_n 1, 1) := by decide +kernel
theorem dX7_isLike_29 : decode cX7_isLike 29 = .ok (.bipush 35, 2) := by decide +kernel
theorem dX7_isLike_31 : decode cX7_isLike 31 = .ok (.if_icmp .ne 15, 3) := by decide +kernel
theorem dX7_isLike_34 : decode cX7_isLike 34 = .ok (.iload_n 0, 1) := by decide +kernel
theorem dX7_isLike_35 : decode cX7_isLike 35 = .ok (.i2l, 1) := by decide +kernel
theorem dX7_isLike_36 : decode cX7_isLike 36 = .ok (.ldc2_w 271, 3) := by decide +kernel
theorem dX7_isLike_39 : decode cX7_isLike 39 = .ok (.ldc2_w 273, 3) := by decide +kernel
theorem dX7_isLike_42 : decode cX7_isLike 42 = .ok (.invokestatic 21, 3) := by decide +kernel
theorem dX7_isLike_45 : decode cX7_isLike 45 = .ok (.ireturn, 1) := by decide +kernel
theorem dX7_isLike_46 : decode cX7_isLike 46 = .ok (.iload_n 2, 1) := by decide +kernel
theorem dX7_isLike_47 : decode cX7_isLike 47 = .ok (.iconst 2, 1) := by decide +kernel
theorem dX7_isLike_48 : decode cX7_isLike 48 = .ok (.if_icmp .ne 22, 3) := by decide +kernel
theorem dX7_isLike_51 : decode cX7_isLike 51 = .ok (.iload_n 0, 1) := by decide +kernel
theorem dX7_isLike_52 : decode cX7_isLike 52 = .ok (.invokestatic 333, 3) := by decide +kernel
theorem dX7_isLike_55 : decode cX7_isLike 55 = .ok (.iload_n 1, 1) := by decide +kernel
theorem dX7_isLike_56 : decode cX7_isLike 56 = .ok (.invokestatic 333, 3) := by decide +kernel
theorem dX7_isLike_59 : decode cX7_isLike 59 = .ok (.if_icmp .ne 7, 3) := by decide +kernel
theorem dX7_isLike_62 : decode cX7_isLike 62 = .ok (.iconst 1, 1) := by decide +kernel
theorem dX7_isLike_63 : decode cX7_isLike 63 = .ok (.goto 17, 3) := by decide +kernel
theorem dX7_isLike_66 : decode cX7_isLike 66 = .ok (.iconst 0, 1) := by decide +kernel
theorem dX7_isLike_67 : decode cX7_isLike 67 = .ok (.goto 13, 3) := by decide +kernel
theorem dX7_isLike_70 : decode cX7_isLike 70 = .ok (.iload_n 0, 1) := by decide +kernel
theorem dX7_isLike_71 : decode cX7_isLike 71 = .ok (.iload_n 1, 1) := by decide +kernel
theorem dX7_isLike_72 : decode cX7_isLike 72 = .ok (.if_icmp .ne 7, 3) := by decide +kernel
theorem dX7_isLike_75 : decode cX7_isLike 75 = .ok (.iconst 1, 1) := by decide +kernel
theorem dX7_isLike_76 : decode cX7_isLike 76 = .ok (.goto 4, 3) := by decide +kernel
theorem dX7_isLike_79 : decode cX7_isLike 79 = .ok (.iconst 0, 1) := by decide +kernel
theorem dX7_isLike_80 : decode cX7_isLike 80 = .ok (.ireturn, 1) := by decide +kernel
theorem dX7_stands_0 : decode cX7_stands 0 = .ok (.iload_n 1, 1) := by decide +kernel
theorem dX7_stands_1 : decode cX7_stands 1 = .ok (.aload_n 0, 1) := by decide +kernel
theorem dX7_stands_2 : decode cX7_stands 2 = .ok (.getfield 25, 3) := by decide +kernel
theorem dX7_stands_5 : decode cX7_stands 5 = .ok (.iadd, 1) := by decide +kernel
theorem dX7_stands_6 : decode cX7_stands 6 = .ok (.aload_n 0, 1) := by decide +kernel
theorem dX7_stands_7 : decode cX7_stands 7 = .ok (.getfield 123, 3) := by decide +kernel
theorem dX7_stands_10 : decode cX7_stands 10 = .ok (.if_icmp .gt 7, 3) := by decide +kernel
theorem dX7_stands_13 : decode cX7_stands 13 = .ok (.iconst 1, 1) := by decide +kernel
theorem dX7_stands_14 : decode cX7_stands 14 = .ok (.goto 4, 3) := by decide +kernel
theorem dX7_stands_17 : decode cX7_stands 17 = .ok (.iconst 0, 1) := by decide +kernel
theorem dX7_stands_18 : decode cX7_stands 18 = .ok (.istore_n 3, 1) := by decide +kernel
theorem dX7_stands_19 : decode cX7_stands 19 = .ok (.iconst 0, 1) := by decide +kernel
theorem dX7_stands_20 : decode cX7_stands 20 = .ok (.istore 4, 2) := by decide +kernel
theorem dX7_stands_22 : decode cX7_stands 22 = .ok (.iload 4, 2) := by decide +kernel
theorem dX7_stands_24 : decode cX7_stands 24 = .ok (.aload_n 0, 1) := by decide +kernel
theorem dX7_stands_25 : decode cX7_stands 25 = .ok (.getfield 25, 3) := by decide +kernel
theorem dX7_stands_28 : decode cX7_stands 28 = .ok (.if_icmp .ge 33, 3) := by decide +kernel
theorem dX7_stands_31 : decode cX7_stands 31 = .ok (.iload_n 3, 1) := by decide +kernel
theorem dX7_stands_32 : decode cX7_stands 32 = .ok (.ifCond .eq 29, 3) := by decide +kernel
theorem dX7_stands_35 : decode cX7_stands 35 = .ok (.aload_n 0, 1) := by decide +kernel
theorem dX7_stands_36 : decode cX7_stands 36 = .ok (.iload_n 1, 1) := by decide +kernel
theorem dX7_stands_37 : decode cX7_stands 37 = .ok (.iload 4, 2) := by decide +kernel
theorem dX7_stands_39 : decode cX7_stands 39 = .ok (.iadd, 1) := by decide +kernel
theorem dX7_stands_40 : decode cX7_stands 40 = .ok (.invokevirtual 157, 3) := by decide +kernel
theorem dX7_stands_43 : decode cX7_stands 43 = .ok (.aload_n 0, 1) := by decide +kernel
theorem dX7_stands_44 : decode cX7_stands 44 = .ok (.getfield 17, 3) := by decide +kernel
theorem dX7_stands_47 : decode cX7_stands 47 = .ok (.iload 4, 2) := by decide +kernel
theorem dX7_stands_49 : decode cX7_stands 49 = .ok (.iaload, 1) := by decide +kernel
theorem dX7_stands_50 : decode cX7_stands 50 = .ok (.iload_n 2, 1) := by decide +kernel
theorem dX7_stands_51 : decode cX7_stands 51 = .ok (.invokestatic 336, 3) := by decide +kernel
theorem dX7_stands_54 : decode cX7_stands 54 = .ok (.istore_n 3, 1) := by decide +kernel
theorem dX7_stands_55 : decode cX7_stands 55 = .ok (.iinc 4 1, 3) := by decide +kernel
theorem dX7_stands_58 : decode cX7_stands 58 = .ok (.goto (-36), 3) := by decide +kernel
theorem dX7_stands_61 : decode cX7_stands 61 = .ok (.iload_n 3, 1) := by decide +kernel
theorem dX7_stands_62 : decode cX7_stands 62 = .ok (.ireturn, 1) := by decide +kernel
theorem dX7_found_0 : decode cX7_found 0 = .ok (.aload_n 0, 1) := by decide +kernel
theorem dX7_found_1 : decode cX7_found 1 = .ok (.iconst 0, 1) := by decide +kernel
theorem dX7_found_2 : decode cX7_found 2 = .ok (.putfield 11, 3) := by decide +kernel
theorem dX7_found_5 : decode cX7_found 5 = .ok (.aload_n 0, 1) := by decide +kernel
theorem dX7_found_6 : decode cX7_found 6 = .ok (.aload_n 0, 1) := by decide +kernel
theorem dX7_found_7 : decode cX7_found 7 = .ok (.iload_n 1, 1) := by decide +kernel
theorem dX7_found_8 : decode cX7_found 8 = .ok (.aload_n 0, 1) := by decide +kernel
theorem dX7_found_9 : decode cX7_found 9 = .ok (.getfield 25, 3) := by decide +kernel
theorem dX7_found_12 : decode cX7_found 12 = .ok (.iadd, 1) := by decide +kernel
theorem dX7_found_13 : decode cX7_found 13 = .ok (.iconst 1, 1) := by decide +kernel
theorem dX7_found_14 : decode cX7_found 14 = .ok (.isub, 1) := by decide +kernel
theorem dX7_found_15 : decode cX7_found 15 = .ok (.invokevirtual 326, 3) := by decide +kernel
theorem dX7_found_18 : decode cX7_found 18 = .ok (.aload_n 0, 1) := by decide +kernel
theorem dX7_found_19 : decode cX7_found 19 = .ok (.iload_n 1, 1) := by decide +kernel
theorem dX7_found_20 : decode cX7_found 20 = .ok (.invokevirtual 326, 3) := by decide +kernel
theorem dX7_found_23 : decode cX7_found 23 = .ok (.isub, 1) := by decide +kernel
theorem dX7_found_24 : decode cX7_found 24 = .ok (.iconst 1, 1) := by decide +kernel
theorem dX7_found_25 : decode cX7_found 25 = .ok (.iadd, 1) := by decide +kernel
theorem dX7_found_26 : decode cX7_found 26 = .ok (.i2l, 1) := by decide +kernel
theorem dX7_found_27 : decode cX7_found 27 = .ok (.invokevirtual 295, 3) := by decide +kernel
theorem dX7_found_30 : decode cX7_found 30 = .ok (.iload_n 1, 1) := by decide +kernel
theorem dX7_found_31 : decode cX7_found 31 = .ok (.ireturn, 1) := by decide +kernel
theorem dX7_findsBy_0 : decode cX7_findsBy 0 = .ok (.aload_n 0, 1) := by decide +kernel
theorem dX7_findsBy_1 : decode cX7_findsBy 1 = .ok (.iconst 0, 1) := by decide +kernel
theorem dX7_findsBy_2 : decode cX7_findsBy 2 = .ok (.putfield 1, 3) := by decide +kernel
theorem dX7_findsBy_5 : decode cX7_findsBy 5 = .ok (.aload_n 0, 1) := by decide +kernel
theorem dX7_findsBy_6 : decode cX7_findsBy 6 = .ok (.invokevirtual 182, 3) := by decide +kernel
theorem dX7_findsBy_9 : decode cX7_findsBy 9 = .ok (.ifCond .ne 6, 3) := by decide +kernel
theorem dX7_findsBy_12 : decode cX7_findsBy 12 = .ok (.bipush (-100), 2) := by decide +kernel
theorem dX7_findsBy_14 : decode cX7_findsBy 14 = .ok (.ireturn, 1) := by decide +kernel
theorem dX7_findsBy_15 : decode cX7_findsBy 15 = .ok (.aload_n 0, 1) := by decide +kernel
theorem dX7_findsBy_16 : decode cX7_findsBy 16 = .ok (.iload_n 1, 1) := by decide +kernel
theorem dX7_findsBy_17 : decode cX7_findsBy 17 = .ok (.invokevirtual 202, 3) := by decide +kernel
theorem dX7_findsBy_20 : decode cX7_findsBy 20 = .ok (.ifCond .ne 5, 3) := by decide +kernel
theorem dX7_findsBy_23 : decode cX7_findsBy 23 = .ok (.iconst (-1), 1) := by decide +kernel
theorem dX7_findsBy_24 : decode cX7_findsBy 24 = .ok (.ireturn, 1) := by decide +kernel
theorem dX7_findsBy_25 : decode cX7_findsBy 25 = .ok (.iload_n 1, 1) := by decide +kernel
theorem dX7_findsBy_26 : decode cX7_findsBy 26 = .ok (.istore_n 3, 1) := by decide +kernel
theorem dX7_findsBy_27 : decode cX7_findsBy 27 = .ok (.iload_n 3, 1) := by decide +kernel
theorem dX7_findsBy_28 : decode cX7_findsBy 28 = .ok (.aload_n 0, 1) := by decide +kernel
theorem dX7_findsBy_29 : decode cX7_findsBy 29 = .ok (.getfield 123, 3) := by decide +kernel
theorem dX7_findsBy_32 : decode cX7_findsBy 32 = .ok (.if_icmp .ge 24, 3) := by decide +kernel
theorem dX7_findsBy_35 : decode cX7_findsBy 35 = .ok (.aload_n 0, 1) := by decide +kernel
theorem dX7_findsBy_36 : decode cX7_findsBy 36 = .ok (.iload_n 3, 1) := by decide +kernel
theorem dX7_findsBy_37 : decode cX7_findsBy 37 = .ok (.iload_n 2, 1) := by decide +kernel
theorem dX7_findsBy_38 : decode cX7_findsBy 38 = .ok (.invokevirtual 340, 3) := by decide +kernel
theorem dX7_findsBy_41 : decode cX7_findsBy 41 = .ok (.ifCond .eq 9, 3) := by decide +kernel
theorem dX7_findsBy_44 : decode cX7_findsBy 44 = .ok (.aload_n 0, 1) := by decide +kernel
theorem dX7_findsBy_45 : decode cX7_findsBy 45 = .ok (.iload_n 3, 1) := by decide +kernel
theorem dX7_findsBy_46 : decode cX7_findsBy 46 = .ok (.invokevirtual 344, 3) := by decide +kernel
theorem dX7_findsBy_49 : decode cX7_findsBy 49 = .ok (.ireturn, 1) := by decide +kernel
theorem dX7_findsBy_50 : decode cX7_findsBy 50 = .ok (.iinc 3 1, 3) := by decide +kernel
theorem dX7_findsBy_53 : decode cX7_findsBy 53 = .ok (.goto (-26), 3) := by decide +kernel
theorem dX7_findsBy_56 : decode cX7_findsBy 56 = .ok (.bipush (-2), 2) := by decide +kernel
theorem dX7_findsBy_58 : decode cX7_findsBy 58 = .ok (.ireturn, 1) := by decide +kernel
theorem dX7_finds_0 : decode cX7_finds 0 = .ok (.aload_n 0, 1) := by decide +kernel
theorem dX7_finds_1 : decode cX7_finds 1 = .ok (.iload_n 1, 1) := by decide +kernel
theorem dX7_finds_2 : decode cX7_finds 2 = .ok (.iconst 0, 1) := by decide +kernel
theorem dX7_finds_3 : decode cX7_finds 3 = .ok (.invokevirtual 347, 3) := by decide +kernel
theorem dX7_finds_6 : decode cX7_finds 6 = .ok (.ireturn, 1) := by decide +kernel
theorem dX7_last_0 : decode cX7_last 0 = .ok (.aload_n 0, 1) := by decide +kernel
theorem dX7_last_1 : decode cX7_last 1 = .ok (.iconst 0, 1) := by decide +kernel
theorem dX7_last_2 : decode cX7_last 2 = .ok (.putfield 1, 3) := by decide +kernel
theorem dX7_last_5 : decode cX7_last 5 = .ok (.aload_n 0, 1) := by decide +kernel
theorem dX7_last_6 : decode cX7_last 6 = .ok (.invokevirtual 182, 3) := by decide +kernel
theorem dX7_last_9 : decode cX7_last 9 = .ok (.ifCond .ne 6, 3) := by decide +kernel
theorem dX7_last_12 : decode cX7_last 12 = .ok (.bipush (-100), 2) := by decide +kernel
theorem dX7_last_14 : decode cX7_last 14 = .ok (.ireturn, 1) := by decide +kernel
theorem dX7_last_15 : decode cX7_last 15 = .ok (.aload_n 0, 1) := by decide +kernel
theorem dX7_last_16 : decode cX7_last 16 = .ok (.iload_n 1, 1) := by decide +kernel
theorem dX7_last_17 : decode cX7_last 17 = .ok (.invokevirtual 202, 3) := by decide +kernel
theorem dX7_last_20 : decode cX7_last 20 = .ok (.ifCond .ne 5, 3) := by decide +kernel
theorem dX7_last_23 : decode cX7_last 23 = .ok (.iconst (-1), 1) := by decide +kernel
theorem dX7_last_24 : decode cX7_last 24 = .ok (.ireturn, 1) := by decide +kernel
theorem dX7_last_25 : decode cX7_last 25 = .ok (.iload_n 1, 1) := by decide +kernel
theorem dX7_last_26 : decode cX7_last 26 = .ok (.istore_n 2, 1) := by decide +kernel
theorem dX7_last_27 : decode cX7_last 27 = .ok (.iload_n 2, 1) := by decide +kernel
theorem dX7_last_28 : decode cX7_last 28 = .ok (.ifCond .lt 24, 3) := by decide +kernel
theorem dX7_last_31 : decode cX7_last 31 = .ok (.aload_n 0, 1) := by decide +kernel
theorem dX7_last_32 : decode cX7_last 32 = .ok (.iload_n 2, 1) := by decide +kernel
theorem dX7_last_33 : decode cX7_last 33 = .ok (.iconst 0, 1) := by decide +kernel
theorem dX7_last_34 : decode cX7_last 34 = .ok (.invokevirtual 340, 3) := by decide +kernel
theorem dX7_last_37 : decode cX7_last 37 = .ok (.ifCond .eq 9, 3) := by decide +kernel
theorem dX7_last_40 : decode cX7_last 40 = .ok (.aload_n 0, 1) := by decide +kernel
theorem dX7_last_41 : decode cX7_last 41 = .ok (.iload_n 2, 1) := by decide +kernel
theorem dX7_last_42 : decode cX7_last 42 = .ok (.invokevirtual 344, 3) := by decide +kernel
theorem dX7_last_45 : decode cX7_last 45 = .ok (.ireturn, 1) := by decide +kernel
theorem dX7_last_46 : decode cX7_last 46 = .ok (.iinc 2 (-1), 3) := by decide +kernel
theorem dX7_last_49 : decode cX7_last 49 = .ok (.goto (-22), 3) := by decide +kernel
theorem dX7_last_52 : decode cX7_last 52 = .ok (.bipush (-2), 2) := by decide +kernel
theorem dX7_last_54 : decode cX7_last 54 = .ok (.ireturn, 1) := by decide +kernel
theorem dX7_many_0 : decode cX7_many 0 = .ok (.aload_n 0, 1) := by decide +kernel
theorem dX7_many_1 : decode cX7_many 1 = .ok (.iconst 0, 1) := by decide +kernel
theorem dX7_many_2 : decode cX7_many 2 = .ok (.putfield 1, 3) := by decide +kernel
theorem dX7_many_5 : decode cX7_many 5 = .ok (.aload_n 0, 1) := by decide +kernel
theorem dX7_many_6 : decode cX7_many 6 = .ok (.invokevirtual 182, 3) := by decide +kernel
theorem dX7_many_9 : decode cX7_many 9 = .ok (.ifCond .ne 6, 3) := by decide +kernel
theorem dX7_many_12 : decode cX7_many 12 = .ok (.bipush (-100), 2) := by decide +kernel
theorem dX7_many_14 : decode cX7_many 14 = .ok (.ireturn, 1) := by decide +kernel
theorem dX7_many_15 : decode cX7_many 15 = .ok (.iconst 0, 1) := by decide +kernel
theorem dX7_many_16 : decode cX7_many 16 = .ok (.istore_n 1, 1) := by decide +kernel
theorem dX7_many_17 : decode cX7_many 17 = .ok (.iconst 0, 1) := by decide +kernel
theorem dX7_many_18 : decode cX7_many 18 = .ok (.istore_n 2, 1) := by decide +kernel
theorem dX7_many_19 : decode cX7_many 19 = .ok (.iconst 0, 1) := by decide +kernel
theorem dX7_many_20 : decode cX7_many 20 = .ok (.istore_n 3, 1) := by decide +kernel
theorem dX7_many_21 : decode cX7_many 21 = .ok (.iconst 0, 1) := by decide +kernel
theorem dX7_many_22 : decode cX7_many 22 = .ok (.istore 4, 2) := by decide +kernel
theorem dX7_many_24 : decode cX7_many 24 = .ok (.iconst 0, 1) := by decide +kernel
theorem dX7_many_25 : decode cX7_many 25 = .ok (.istore 5, 2) := by decide +kernel
theorem dX7_many_27 : decode cX7_many 27 = .ok (.iload 5, 2) := by decide +kernel
theorem dX7_many_29 : decode cX7_many 29 = .ok (.aload_n 0, 1) := by decide +kernel
theorem dX7_many_30 : decode cX7_many 30 = .ok (.getfield 123, 3) := by decide +kernel
theorem dX7_many_33 : decode cX7_many 33 = .ok (.if_icmp .ge 94, 3) := by decide +kernel
theorem dX7_many_36 : decode cX7_many 36 = .ok (.aload_n 0, 1) := by decide +kernel
theorem dX7_many_37 : decode cX7_many 37 = .ok (.iload 5, 2) := by decide +kernel
theorem dX7_many_39 : decode cX7_many 39 = .ok (.iconst 0, 1) := by decide +kernel
theorem dX7_many_40 : decode cX7_many 40 = .ok (.invokevirtual 340, 3) := by decide +kernel
theorem dX7_many_43 : decode cX7_many 43 = .ok (.ifCond .eq 78, 3) := by decide +kernel
theorem dX7_many_46 : decode cX7_many 46 = .ok (.iinc 1 1, 3) := by decide +kernel
theorem dX7_many_49 : decode cX7_many 49 = .ok (.iload_n 2, 1) := by decide +kernel
theorem dX7_many_50 : decode cX7_many 50 = .ok (.aload_n 0, 1) := by decide +kernel
theorem dX7_many_51 : decode cX7_many 51 = .ok (.iload 5, 2) := by decide +kernel
theorem dX7_many_53 : decode cX7_many 53 = .ok (.aload_n 0, 1) := by decide +kernel
theorem dX7_many_54 : decode cX7_many 54 = .ok (.getfield 25, 3) := by decide +kernel
theorem dX7_many_57 : decode cX7_many 57 = .ok (.iadd, 1) := by decide +kernel
theorem dX7_many_58 : decode cX7_many 58 = .ok (.iconst 1, 1) := by decide +kernel
theorem dX7_many_59 : decode cX7_many 59 = .ok (.isub, 1) := by decide +kernel
theorem dX7_many_60 : decode cX7_many 60 = .ok (.invokevirtual 326, 3) := by decide +kernel
theorem dX7_many_63 : decode cX7_many 63 = .ok (.aload_n 0, 1) := by decide +kernel
theorem dX7_many_64 : decode cX7_many 64 = .ok (.iload 5, 2) := by decide +kernel
theorem dX7_many_66 : decode cX7_many 66 = .ok (.invokevirtual 326, 3) := by decide +kernel
theorem dX7_many_69 : decode cX7_many 69 = .ok (.if_icmp .le 7, 3) := by decide +kernel
theorem dX7_many_72 : decode cX7_many 72 = .ok (.iconst 1, 1) := by decide +kernel
theorem dX7_many_73 : decode cX7_many 73 = .ok (.goto 4, 3) := by decide +kernel
theorem dX7_many_76 : decode cX7_many 76 = .ok (.iconst 0, 1) := by decide +kernel
theorem dX7_many_77 : decode cX7_many 77 = .ok (.invokestatic 119, 3) := by decide +kernel
theorem dX7_many_80 : decode cX7_many 80 = .ok (.iadd, 1) := by decide +kernel
theorem dX7_many_81 : decode cX7_many 81 = .ok (.istore_n 2, 1) := by decide +kernel
theorem dX7_many_82 : decode cX7_many 82 = .ok (.iload_n 3, 1) := by decide +kernel
theorem dX7_many_83 : decode cX7_many 83 = .ok (.iload 5, 2) := by decide +kernel
theorem dX7_many_85 : decode cX7_many 85 = .ok (.iload 4, 2) := by decide +kernel
theorem dX7_many_87 : decode cX7_many 87 = .ok (.if_icmp .lt 7, 3) := by decide +kernel
theorem dX7_many_90 : decode cX7_many 90 = .ok (.iconst 1, 1) := by decide +kernel
theorem dX7_many_91 : decode cX7_many 91 = .ok (.goto 4, 3) := by decide +kernel
theorem dX7_many_94 : decode cX7_many 94 = .ok (.iconst 0, 1) := by decide +kernel
theorem dX7_many_95 : decode cX7_many 95 = .ok (.invokestatic 119, 3) := by decide +kernel
theorem dX7_many_98 : decode cX7_many 98 = .ok (.iadd, 1) := by decide +kernel
theorem dX7_many_99 : decode cX7_many 99 = .ok (.istore_n 3, 1) := by decide +kernel
theorem dX7_many_100 : decode cX7_many 100 = .ok (.iload 5, 2) := by decide +kernel
theorem dX7_many_102 : decode cX7_many 102 = .ok (.iload 4, 2) := by decide +kernel
theorem dX7_many_104 : decode cX7_many 104 = .ok (.if_icmp .lt 13, 3) := by decide +kernel
theorem dX7_many_107 : decode cX7_many 107 = .ok (.iload 5, 2) := by decide +kernel
theorem dX7_many_109 : decode cX7_many 109 = .ok (.aload_n 0, 1) := by decide +kernel
theorem dX7_many_110 : decode cX7_many 110 = .ok (.getfield 25, 3) := by decide +kernel
theorem dX7_many_113 : decode cX7_many 113 = .ok (.iadd, 1) := by decide +kernel
theorem dX7_many_114 : decode cX7_many 114 = .ok (.goto 5, 3) := by decide +kernel
theorem dX7_many_117 : decode cX7_many 117 = .ok (.iload 4, 2) := by decide +kernel
theorem dX7_many_119 : decode cX7_many 119 = .ok (.istore 4, 2) := by decide +kernel
theorem dX7_many_121 : decode cX7_many 121 = .ok (.iinc 5 1, 3) := by decide +kernel
theorem dX7_many_124 : decode cX7_many 124 = .ok (.goto (-97), 3) := by decide +kernel
theorem dX7_many_127 : decode cX7_many 127 = .ok (.aload_n 0, 1) := by decide +kernel
theorem dX7_many_128 : decode cX7_many 128 = .ok (.iconst 0, 1) := by decide +kernel
theorem dX7_many_129 : decode cX7_many 129 = .ok (.putfield 11, 3) := by decide +kernel
theorem dX7_many_132 : decode cX7_many 132 = .ok (.aload_n 0, 1) := by decide +kernel
theorem dX7_many_133 : decode cX7_many 133 = .ok (.iload_n 2, 1) := by decide +kernel
theorem dX7_many_134 : decode cX7_many 134 = .ok (.i2l, 1) := by decide +kernel
theorem dX7_many_135 : decode cX7_many 135 = .ok (.invokevirtual 295, 3) := by decide +kernel
theorem dX7_many_138 : decode cX7_many 138 = .ok (.aload_n 0, 1) := by decide +kernel
theorem dX7_many_139 : decode cX7_many 139 = .ok (.iload_n 3, 1) := by decide +kernel
theorem dX7_many_140 : decode cX7_many 140 = .ok (.i2l, 1) := by decide +kernel
theorem dX7_many_141 : decode cX7_many 141 = .ok (.invokevirtual 295, 3) := by decide +kernel
theorem dX7_many_144 : decode cX7_many 144 = .ok (.iload_n 1, 1) := by decide +kernel
theorem dX7_many_145 : decode cX7_many 145 = .ok (.ireturn, 1) := by decide +kernel
theorem dX7_fits_0 : decode cX7_fits 0 = .ok (.aload_n 0, 1) := by decide +kernel
theorem dX7_fits_1 : decode cX7_fits 1 = .ok (.iload_n 1, 1) := by decide +kernel
theorem dX7_fits_2 : decode cX7_fits 2 = .ok (.iconst 1, 1) := by decide +kernel
theorem dX7_fits_3 : decode cX7_fits 3 = .ok (.invokevirtual 347, 3) := by decide +kernel
theorem dX7_fits_6 : decode cX7_fits 6 = .ok (.ireturn, 1) := by decide +kernel
theorem dX7_folds_0 : decode cX7_folds 0 = .ok (.aload_n 0, 1) := by decide +kernel
theorem dX7_folds_1 : decode cX7_folds 1 = .ok (.iload_n 1, 1) := by decide +kernel
theorem dX7_folds_2 : decode cX7_folds 2 = .ok (.iconst 2, 1) := by decide +kernel
theorem dX7_folds_3 : decode cX7_folds 3 = .ok (.invokevirtual 347, 3) := by decide +kernel
theorem dX7_folds_6 : decode cX7_folds 6 = .ok (.ireturn, 1) := by decide +kernel
theorem dX7_bracketOf_0 : decode cX7_bracketOf 0 = .ok (.iload_n 0, 1) := by decide +kernel
theorem dX7_bracketOf_1 : decode cX7_bracketOf 1 = .ok (.lookupswitch 71 #[(40, 59), (41, 61), (91, 63), (93, 65), (123, 67), (125, 69)], 59) := by decide +kernel
theorem dX7_bracketOf_60 : decode cX7_bracketOf 60 = .ok (.iconst 0, 1) := by decide +kernel
theorem dX7_bracketOf_61 : decode cX7_bracketOf 61 = .ok (.ireturn, 1) := by decide +kernel
theorem dX7_bracketOf_62 : decode cX7_bracketOf 62 = .ok (.iconst 1, 1) := by decide +kernel
theorem dX7_bracketOf_63 : decode cX7_bracketOf 63 = .ok (.ireturn, 1) := by decide +kernel
theorem dX7_bracketOf_64 : decode cX7_bracketOf 64 = .ok (.iconst 2, 1) := by decide +kernel
theorem dX7_bracketOf_65 : decode cX7_bracketOf 65 = .ok (.ireturn, 1) := by decide +kernel
theorem dX7_bracketOf_66 : decode cX7_bracketOf 66 = .ok (.iconst 3, 1) := by decide +kernel
theorem dX7_bracketOf_67 : decode cX7_bracketOf 67 = .ok (.ireturn, 1) := by decide +kernel
theorem dX7_bracketOf_68 : decode cX7_bracketOf 68 = .ok (.iconst 4, 1) := by decide +kernel
theorem dX7_bracketOf_69 : decode cX7_bracketOf 69 = .ok (.ireturn, 1) := by decide +kernel
theorem dX7_bracketOf_70 : decode cX7_bracketOf 70 = .ok (.iconst 5, 1) := by decide +kernel
theorem dX7_bracketOf_71 : decode cX7_bracketOf 71 = .ok (.ireturn, 1) := by decide +kernel
theorem dX7_bracketOf_72 : decode cX7_bracketOf 72 = .ok (.iconst (-1), 1) := by decide +kernel
theorem dX7_bracketOf_73 : decode cX7_bracketOf 73 = .ok (.ireturn, 1) := by decide +kernel
theorem dX7_pair_0 : decode cX7_pair 0 = .ok (.aload_n 0, 1) := by decide +kernel
theorem dX7_pair_1 : decode cX7_pair 1 = .ok (.iconst 0, 1) := by decide +kernel
theorem dX7_pair_2 : decode cX7_pair 2 = .ok (.putfield 1, 3) := by decide +kernel
theorem dX7_pair_5 : decode cX7_pair 5 = .ok (.aload_n 0, 1) := by decide +kernel
theorem dX7_pair_6 : decode cX7_pair 6 = .ok (.iload_n 1, 1) := by decide +kernel
theorem dX7_pair_7 : decode cX7_pair 7 = .ok (.invokevirtual 299, 3) := by decide +kernel
theorem dX7_pair_10 : decode cX7_pair 10 = .ok (.ifCond .ne 5, 3) := by decide +kernel
theorem dX7_pair_13 : decode cX7_pair 13 = .ok (.iconst (-1), 1) := by decide +kernel
theorem dX7_pair_14 : decode cX7_pair 14 = .ok (.ireturn, 1) := by decide +kernel
theorem dX7_pair_15 : decode cX7_pair 15 = .ok (.aload_n 0, 1) := by decide +kernel
theorem dX7_pair_16 : decode cX7_pair 16 = .ok (.iload_n 1, 1) := by decide +kernel
theorem dX7_pair_17 : decode cX7_pair 17 = .ok (.invokevirtual 157, 3) := by decide +kernel
theorem dX7_pair_20 : decode cX7_pair 20 = .ok (.invokestatic 350, 3) := by decide +kernel
theorem dX7_pair_23 : decode cX7_pair 23 = .ok (.istore_n 2, 1) := by decide +kernel
theorem dX7_pair_24 : decode cX7_pair 24 = .ok (.iload_n 2, 1) := by decide +kernel
theorem dX7_pair_25 : decode cX7_pair 25 = .ok (.ifCond .ge 6, 3) := by decide +kernel
theorem dX7_pair_28 : decode cX7_pair 28 = .ok (.bipush (-3), 2) := by decide +kernel
theorem dX7_pair_30 : decode cX7_pair 30 = .ok (.ireturn, 1) := by decide +kernel
theorem dX7_pair_31 : decode cX7_pair 31 = .ok (.iload_n 2, 1) := by decide +kernel
theorem dX7_pair_32 : decode cX7_pair 32 = .ok (.iconst 2, 1) := by decide +kernel
theorem dX7_pair_33 : decode cX7_pair 33 = .ok (.irem, 1) := by decide +kernel
theorem dX7_pair_34 : decode cX7_pair 34 = .ok (.ifCond .ne 7, 3) := by decide +kernel
theorem dX7_pair_37 : decode cX7_pair 37 = .ok (.iconst 1, 1) := by decide +kernel
theorem dX7_pair_38 : decode cX7_pair 38 = .ok (.goto 4, 3) := by decide +kernel
theorem dX7_pair_41 : decode cX7_pair 41 = .ok (.iconst (-1), 1) := by decide +kernel
theorem dX7_pair_42 : decode cX7_pair 42 = .ok (.istore_n 3, 1) := by decide +kernel
theorem dX7_pair_43 : decode cX7_pair 43 = .ok (.iconst 0, 1) := by decide +kernel
theorem dX7_pair_44 : decode cX7_pair 44 = .ok (.istore 4, 2) := by decide +kernel
theorem dX7_pair_46 : decode cX7_pair 46 = .ok (.iconst 0, 1) := by decide +kernel
theorem dX7_pair_47 : decode cX7_pair 47 = .ok (.istore 5, 2) := by decide +kernel
theorem dX7_pair_49 : decode cX7_pair 49 = .ok (.iload_n 1, 1) := by decide +kernel
theorem dX7_pair_50 : decode cX7_pair 50 = .ok (.istore 6, 2) := by decide +kernel
theorem dX7_pair_52 : decode cX7_pair 52 = .ok (.aload_n 0, 1) := by decide +kernel
theorem dX7_pair_53 : decode cX7_pair 53 = .ok (.iload 6, 2) := by decide +kernel
theorem dX7_pair_55 : decode cX7_pair 55 = .ok (.invokevirtual 299, 3) := by decide +kernel
theorem dX7_pair_58 : decode cX7_pair 58 = .ok (.ifCond .eq 85, 3) := by decide +kernel
theorem dX7_pair_61 : decode cX7_pair 61 = .ok (.aload_n 0, 1) := by decide +kernel
theorem dX7_pair_62 : decode cX7_pair 62 = .ok (.iload 6, 2) := by decide +kernel
theorem dX7_pair_64 : decode cX7_pair 64 = .ok (.invokevirtual 157, 3) := by decide +kernel
theorem dX7_pair_67 : decode cX7_pair 67 = .ok (.invokestatic 350, 3) := by decide +kernel
theorem dX7_pair_70 : decode cX7_pair 70 = .ok (.istore 7, 2) := by decide +kernel
theorem dX7_pair_72 : decode cX7_pair 72 = .ok (.iload 7, 2) := by decide +kernel
theorem dX7_pair_74 : decode cX7_pair 74 = .ok (.ifCond .lt 60, 3) := by decide +kernel
theorem dX7_pair_77 : decode cX7_pair 77 = .ok (.iload 7, 2) := by decide +kernel
theorem dX7_pair_79 : decode cX7_pair 79 = .ok (.iconst 2, 1) := by decide +kernel
theorem dX7_pair_80 : decode cX7_pair 80 = .ok (.idiv, 1) := by decide +kernel
theorem dX7_pair_81 : decode cX7_pair 81 = .ok (.iload_n 2, 1) := by decide +kernel
theorem dX7_pair_82 : decode cX7_pair 82 = .ok (.iconst 2, 1) := by decide +kernel
theorem dX7_pair_83 : decode cX7_pair 83 = .ok (.idiv, 1) := by decide +kernel
theorem dX7_pair_84 : decode cX7_pair 84 = .ok (.if_icmp .ne 50, 3) := by decide +kernel
theorem dX7_pair_87 : decode cX7_pair 87 = .ok (.iload 4, 2) := by decide +kernel
theorem dX7_pair_89 : decode cX7_pair 89 = .ok (.iload 7, 2) := by decide +kernel
theorem dX7_pair_91 : decode cX7_pair 91 = .ok (.iload_n 2, 1) := by decide +kernel
theorem dX7_pair_92 : decode cX7_pair 92 = .ok (.if_icmp .ne 7, 3) := by decide +kernel
theorem dX7_pair_95 : decode cX7_pair 95 = .ok (.iconst 1, 1) := by decide +kernel
theorem dX7_pair_96 : decode cX7_pair 96 = .ok (.goto 4, 3) := by decide +kernel
theorem dX7_pair_99 : decode cX7_pair 99 = .ok (.iconst (-1), 1) := by decide +kernel
theorem dX7_pair_100 : decode cX7_pair 100 = .ok (.iadd, 1) := by decide +kernel
theorem dX7_pair_101 : decode cX7_pair 101 = .ok (.istore 4, 2) := by decide +kernel
theorem dX7_pair_103 : decode cX7_pair 103 = .ok (.iload 5, 2) := by decide +kernel
theorem dX7_pair_105 : decode cX7_pair 105 = .ok (.iload 4, 2) := by decide +kernel
theorem dX7_pair_107 : decode cX7_pair 107 = .ok (.invokestatic 307, 3) := by decide +kernel
theorem dX7_pair_110 : decode cX7_pair 110 = .ok (.istore 5, 2) := by decide +kernel
theorem dX7_pair_112 : decode cX7_pair 112 = .ok (.iload 4, 2) := by decide +kernel
theorem dX7_pair_114 : decode cX7_pair 114 = .ok (.ifCond .ne 20, 3) := by decide +kernel
theorem dX7_pair_117 : decode cX7_pair 117 = .ok (.aload_n 0, 1) := by decide +kernel
theorem dX7_pair_118 : decode cX7_pair 118 = .ok (.iconst 0, 1) := by decide +kernel
theorem dX7_pair_119 : decode cX7_pair 119 = .ok (.putfield 11, 3) := by decide +kernel
theorem dX7_pair_122 : decode cX7_pair 122 = .ok (.aload_n 0, 1) := by decide +kernel
theorem dX7_pair_123 : decode cX7_pair 123 = .ok (.iload 5, 2) := by decide +kernel
theorem dX7_pair_125 : decode cX7_pair 125 = .ok (.iconst 1, 1) := by decide +kernel
theorem dX7_pair_126 : decode cX7_pair 126 = .ok (.isub, 1) := by decide +kernel
theorem dX7_pair_127 : decode cX7_pair 127 = .ok (.i2l, 1) := by decide +kernel
theorem dX7_pair_128 : decode cX7_pair 128 = .ok (.invokevirtual 295, 3) := by decide +kernel
theorem dX7_pair_131 : decode cX7_pair 131 = .ok (.iload 6, 2) := by decide +kernel
theorem dX7_pair_133 : decode cX7_pair 133 = .ok (.ireturn, 1) := by decide +kernel
theorem dX7_pair_134 : decode cX7_pair 134 = .ok (.iload 6, 2) := by decide +kernel
theorem dX7_pair_136 : decode cX7_pair 136 = .ok (.iload_n 3, 1) := by decide +kernel
theorem dX7_pair_137 : decode cX7_pair 137 = .ok (.iadd, 1) := by decide +kernel
theorem dX7_pair_138 : decode cX7_pair 138 = .ok (.istore 6, 2) := by decide +kernel
theorem dX7_pair_140 : decode cX7_pair 140 = .ok (.goto (-88), 3) := by decide +kernel
theorem dX7_pair_143 : decode cX7_pair 143 = .ok (.bipush (-2), 2) := by decide +kernel
theorem dX7_pair_145 : decode cX7_pair 145 = .ok (.ireturn, 1) := by decide +kernel
theorem dX7_nested_0 : decode cX7_nested 0 = .ok (.aload_n 0, 1) := by decide +kernel
theorem dX7_nested_1 : decode cX7_nested 1 = .ok (.iconst 0, 1) := by decide +kernel
theorem dX7_nested_2 : decode cX7_nested 2 = .ok (.putfield 1, 3) := by decide +kernel
theorem dX7_nested_5 : decode cX7_nested 5 = .ok (.iconst 0, 1) := by decide +kernel
theorem dX7_nested_6 : decode cX7_nested 6 = .ok (.istore_n 1, 1) := by decide +kernel
theorem dX7_nested_7 : decode cX7_nested 7 = .ok (.iconst 0, 1) := by decide +kernel
theorem dX7_nested_8 : decode cX7_nested 8 = .ok (.istore_n 2, 1) := by decide +kernel
theorem dX7_nested_9 : decode cX7_nested 9 = .ok (.iconst 0, 1) := by decide +kernel
theorem dX7_nested_10 : decode cX7_nested 10 = .ok (.istore_n 3, 1) := by decide +kernel
theorem dX7_nested_11 : decode cX7_nested 11 = .ok (.iload_n 3, 1) := by decide +kernel
theorem dX7_nested_12 : decode cX7_nested 12 = .ok (.aload_n 0, 1) := by decide +kernel
theorem dX7_nested_13 : decode cX7_nested 13 = .ok (.getfield 123, 3) := by decide +kernel
theorem dX7_nested_16 : decode cX7_nested 16 = .ok (.if_icmp .ge 97, 3) := by decide +kernel
theorem dX7_nested_19 : decode cX7_nested 19 = .ok (.aload_n 0, 1) := by decide +kernel
theorem dX7_nested_20 : decode cX7_nested 20 = .ok (.iload_n 3, 1) := by decide +kernel
theorem dX7_nested_21 : decode cX7_nested 21 = .ok (.invokevirtual 157, 3) := by decide +kernel
theorem dX7_nested_24 : decode cX7_nested 24 = .ok (.invokestatic 350, 3) := by decide +kernel
theorem dX7_nested_27 : decode cX7_nested 27 = .ok (.istore 4, 2) := by decide +kernel
theorem dX7_nested_29 : decode cX7_nested 29 = .ok (.iload 4, 2) := by decide +kernel
theorem dX7_nested_31 : decode cX7_nested 31 = .ok (.ifCond .lt 29, 3) := by decide +kernel
theorem dX7_nested_34 : decode cX7_nested 34 = .ok (.iload 4, 2) := by decide +kernel
theorem dX7_nested_36 : decode cX7_nested 36 = .ok (.iconst 2, 1) := by decide +kernel
theorem dX7_nested_37 : decode cX7_nested 37 = .ok (.irem, 1) := by decide +kernel
theorem dX7_nested_38 : decode cX7_nested 38 = .ok (.ifCond .ne 22, 3) := by decide +kernel
theorem dX7_nested_41 : decode cX7_nested 41 = .ok (.aload_n 0, 1) := by decide +kernel
theorem dX7_nested_42 : decode cX7_nested 42 = .ok (.getfield 102, 3) := by decide +kernel
theorem dX7_nested_45 : decode cX7_nested 45 = .ok (.iload_n 1, 1) := by decide +kernel
theorem dX7_nested_46 : decode cX7_nested 46 = .ok (.iload_n 3, 1) := by decide +kernel
theorem dX7_nested_47 : decode cX7_nested 47 = .ok (.iastore, 1) := by decide +kernel
theorem dX7_nested_48 : decode cX7_nested 48 = .ok (.iinc 1 1, 3) := by decide +kernel
theorem dX7_nested_51 : decode cX7_nested 51 = .ok (.iload_n 2, 1) := by decide +kernel
theorem dX7_nested_52 : decode cX7_nested 52 = .ok (.iload_n 1, 1) := by decide +kernel
theorem dX7_nested_53 : decode cX7_nested 53 = .ok (.invokestatic 307, 3) := by decide +kernel
theorem dX7_nested_56 : decode cX7_nested 56 = .ok (.istore_n 2, 1) := by decide +kernel
theorem dX7_nested_57 : decode cX7_nested 57 = .ok (.goto 50, 3) := by decide +kernel
theorem dX7_nested_60 : decode cX7_nested 60 = .ok (.iload 4, 2) := by decide +kernel
theorem dX7_nested_62 : decode cX7_nested 62 = .ok (.ifCond .lt 45, 3) := by decide +kernel
theorem dX7_nested_65 : decode cX7_nested 65 = .ok (.iload_n 1, 1) := by decide +kernel
theorem dX7_nested_66 : decode cX7_nested 66 = .ok (.ifCond .eq 25, 3) := by decide +kernel
theorem dX7_nested_69 : decode cX7_nested 69 = .ok (.aload_n 0, 1) := by decide +kernel
theorem dX7_nested_70 : decode cX7_nested 70 = .ok (.aload_n 0, 1) := by decide +kernel
theorem dX7_nested_71 : decode cX7_nested 71 = .ok (.getfield 102, 3) := by decide +kernel
theorem dX7_nested_74 : decode cX7_nested 74 = .ok (.iload_n 1, 1) := by decide +kernel
theorem dX7_nested_75 : decode cX7_nested 75 = .ok (.iconst 1, 1) := by decide +kernel
theorem dX7_nested_76 : decode cX7_nested 76 = .ok (.isub, 1) := by decide +kernel
theorem dX7_nested_77 : decode cX7_nested 77 = .ok (.iaload, 1) := by decide +kernel
theorem dX7_nested_78 : decode cX7_nested 78 = .ok (.invokevirtual 157, 3) := by decide +kernel
theorem dX7_nested_81 : decode cX7_nested 81 = .ok (.invokestatic 350, 3) := by decide +kernel
theorem dX7_nested_84 : decode cX7_nested 84 = .ok (.iload 4, 2) := by decide +kernel
theorem dX7_nested_86 : decode cX7_nested 86 = .ok (.iconst 1, 1) := by decide +kernel
theorem dX7_nested_87 : decode cX7_nested 87 = .ok (.isub, 1) := by decide +kernel
theorem dX7_nested_88 : decode cX7_nested 88 = .ok (.if_icmp .eq 16, 3) := by decide +kernel
theorem dX7_nested_91 : decode cX7_nested 91 = .ok (.aload_n 0, 1) := by decide +kernel
theorem dX7_nested_92 : decode cX7_nested 92 = .ok (.iconst 0, 1) := by decide +kernel
theorem dX7_nested_93 : decode cX7_nested 93 = .ok (.putfield 11, 3) := by decide +kernel
theorem dX7_nested_96 : decode cX7_nested 96 = .ok (.aload_n 0, 1) := by decide +kernel
theorem dX7_nested_97 : decode cX7_nested 97 = .ok (.iload_n 2, 1) := by decide +kernel
theorem dX7_nested_98 : decode cX7_nested 98 = .ok (.i2l, 1) := by decide +kernel
theorem dX7_nested_99 : decode cX7_nested 99 = .ok (.invokevirtual 295, 3) := by decide +kernel
theorem dX7_nested_102 : decode cX7_nested 102 = .ok (.iload_n 3, 1) := by decide +kernel
theorem dX7_nested_103 : decode cX7_nested 103 = .ok (.ireturn, 1) := by decide +kernel
theorem dX7_nested_104 : decode cX7_nested 104 = .ok (.iinc 1 (-1), 3) := by decide +kernel
theorem dX7_nested_107 : decode cX7_nested 107 = .ok (.iinc 3 1, 3) := by decide +kernel
theorem dX7_nested_110 : decode cX7_nested 110 = .ok (.goto (-99), 3) := by decide +kernel
theorem dX7_nested_113 : decode cX7_nested 113 = .ok (.iload_n 1, 1) := by decide +kernel
theorem dX7_nested_114 : decode cX7_nested 114 = .ok (.ifCond .ne 6, 3) := by decide +kernel
theorem dX7_nested_117 : decode cX7_nested 117 = .ok (.bipush (-2), 2) := by decide +kernel
theorem dX7_nested_119 : decode cX7_nested 119 = .ok (.ireturn, 1) := by decide +kernel
theorem dX7_nested_120 : decode cX7_nested 120 = .ok (.aload_n 0, 1) := by decide +kernel
theorem dX7_nested_121 : decode cX7_nested 121 = .ok (.iconst 0, 1) := by decide +kernel
theorem dX7_nested_122 : decode cX7_nested 122 = .ok (.putfield 11, 3) := by decide +kernel
theorem dX7_nested_125 : decode cX7_nested 125 = .ok (.aload_n 0, 1) := by decide +kernel
theorem dX7_nested_126 : decode cX7_nested 126 = .ok (.iload_n 2, 1) := by decide +kernel
theorem dX7_nested_127 : decode cX7_nested 127 = .ok (.i2l, 1) := by decide +kernel
theorem dX7_nested_128 : decode cX7_nested 128 = .ok (.invokevirtual 295, 3) := by decide +kernel
theorem dX7_nested_131 : decode cX7_nested 131 = .ok (.aload_n 0, 1) := by decide +kernel
theorem dX7_nested_132 : decode cX7_nested 132 = .ok (.getfield 102, 3) := by decide +kernel
theorem dX7_nested_135 : decode cX7_nested 135 = .ok (.iconst 0, 1) := by decide +kernel
theorem dX7_nested_136 : decode cX7_nested 136 = .ok (.iaload, 1) := by decide +kernel
theorem dX7_nested_137 : decode cX7_nested 137 = .ok (.ireturn, 1) := by decide +kernel
theorem dX7_alikeFrom_0 : decode cX7_alikeFrom 0 = .ok (.iconst 0, 1) := by decide +kernel
theorem dX7_alikeFrom_1 : decode cX7_alikeFrom 1 = .ok (.istore_n 3, 1) := by decide +kernel
theorem dX7_alikeFrom_2 : decode cX7_alikeFrom 2 = .ok (.aload_n 0, 1) := by decide +kernel
theorem dX7_alikeFrom_3 : decode cX7_alikeFrom 3 = .ok (.iload_n 1, 1) := by decide +kernel
theorem dX7_alikeFrom_4 : decode cX7_alikeFrom 4 = .ok (.iload_n 3, 1) := by decide +kernel
theorem dX7_alikeFrom_5 : decode cX7_alikeFrom 5 = .ok (.iadd, 1) := by decide +kernel
theorem dX7_alikeFrom_6 : decode cX7_alikeFrom 6 = .ok (.invokevirtual 299, 3) := by decide +kernel
theorem dX7_alikeFrom_9 : decode cX7_alikeFrom 9 = .ok (.ifCond .eq 36, 3) := by decide +kernel
theorem dX7_alikeFrom_12 : decode cX7_alikeFrom 12 = .ok (.aload_n 0, 1) := by decide +kernel
theorem dX7_alikeFrom_13 : decode cX7_alikeFrom 13 = .ok (.iload_n 2, 1) := by decide +kernel
theorem dX7_alikeFrom_14 : decode cX7_alikeFrom 14 = .ok (.iload_n 3, 1) := by decide +kernel
theorem dX7_alikeFrom_15 : decode cX7_alikeFrom 15 = .ok (.iadd, 1) := by decide +kernel
theorem dX7_alikeFrom_16 : decode cX7_alikeFrom 16 = .ok (.invokevirtual 299, 3) := by decide +kernel
theorem dX7_alikeFrom_19 : decode cX7_alikeFrom 19 = .ok (.ifCond .eq 26, 3) := by decide +kernel
theorem dX7_alikeFrom_22 : decode cX7_alikeFrom 22 = .ok (.aload_n 0, 1) := by decide +kernel
theorem dX7_alikeFrom_23 : decode cX7_alikeFrom 23 = .ok (.iload_n 1, 1) := by decide +kernel
theorem dX7_alikeFrom_24 : decode cX7_alikeFrom 24 = .ok (.iload_n 3, 1) := by decide +kernel
theorem dX7_alikeFrom_25 : decode cX7_alikeFrom 25 = .ok (.iadd, 1) := by decide +kernel
theorem dX7_alikeFrom_26 : decode cX7_alikeFrom 26 = .ok (.invokevirtual 157, 3) := by decide +kernel
theorem dX7_alikeFrom_29 : decode cX7_alikeFrom 29 = .ok (.aload_n 0, 1) := by decide +kernel
theorem dX7_alikeFrom_30 : decode cX7_alikeFrom 30 = .ok (.iload_n 2, 1) := by decide +kernel
theorem dX7_alikeFrom_31 : decode cX7_alikeFrom 31 = .ok (.iload_n 3, 1) := by decide +kernel
theorem dX7_alikeFrom_32 : decode cX7_alikeFrom 32 = .ok (.iadd, 1) := by decide +kernel
theorem dX7_alikeFrom_33 : decode cX7_alikeFrom 33 = .ok (.invokevirtual 157, 3) := by decide +kernel
theorem dX7_alikeFrom_36 : decode cX7_alikeFrom 36 = .ok (.if_icmp .ne 9, 3) := by decide +kernel
theorem dX7_alikeFrom_39 : decode cX7_alikeFrom 39 = .ok (.iinc 3 1, 3) := by decide +kernel
theorem dX7_alikeFrom_42 : decode cX7_alikeFrom 42 = .ok (.goto (-40), 3) := by decide +kernel
theorem dX7_alikeFrom_45 : decode cX7_alikeFrom 45 = .ok (.iload_n 3, 1) := by decide +kernel
theorem dX7_alikeFrom_46 : decode cX7_alikeFrom 46 = .ok (.ireturn, 1) := by decide +kernel
theorem dX7_before_0 : decode cX7_before 0 = .ok (.aload_n 0, 1) := by decide +kernel
theorem dX7_before_1 : decode cX7_before 1 = .ok (.iconst 0, 1) := by decide +kernel
theorem dX7_before_2 : decode cX7_before 2 = .ok (.putfield 1, 3) := by decide +kernel
theorem dX7_before_5 : decode cX7_before 5 = .ok (.aload_n 0, 1) := by decide +kernel
theorem dX7_before_6 : decode cX7_before 6 = .ok (.iload_n 1, 1) := by decide +kernel
theorem dX7_before_7 : decode cX7_before 7 = .ok (.invokevirtual 299, 3) := by decide +kernel
theorem dX7_before_10 : decode cX7_before 10 = .ok (.ifCond .ne 5, 3) := by decide +kernel
theorem dX7_before_13 : decode cX7_before 13 = .ok (.iconst (-1), 1) := by decide +kernel
theorem dX7_before_14 : decode cX7_before 14 = .ok (.ireturn, 1) := by decide +kernel
theorem dX7_before_15 : decode cX7_before 15 = .ok (.iconst 0, 1) := by decide +kernel
theorem dX7_before_16 : decode cX7_before 16 = .ok (.istore_n 2, 1) := by decide +kernel
theorem dX7_before_17 : decode cX7_before 17 = .ok (.aload_n 0, 1) := by decide +kernel
theorem dX7_before_18 : decode cX7_before 18 = .ok (.iconst 0, 1) := by decide +kernel
theorem dX7_before_19 : decode cX7_before 19 = .ok (.putfield 11, 3) := by decide +kernel
theorem dX7_before_22 : decode cX7_before 22 = .ok (.iconst 0, 1) := by decide +kernel
theorem dX7_before_23 : decode cX7_before 23 = .ok (.istore_n 3, 1) := by decide +kernel
theorem dX7_before_24 : decode cX7_before 24 = .ok (.iload_n 3, 1) := by decide +kernel
theorem dX7_before_25 : decode cX7_before 25 = .ok (.iload_n 1, 1) := by decide +kernel
theorem dX7_before_26 : decode cX7_before 26 = .ok (.if_icmp .ge 37, 3) := by decide +kernel
theorem dX7_before_29 : decode cX7_before 29 = .ok (.aload_n 0, 1) := by decide +kernel
theorem dX7_before_30 : decode cX7_before 30 = .ok (.iload_n 1, 1) := by decide +kernel
theorem dX7_before_31 : decode cX7_before 31 = .ok (.iload_n 3, 1) := by decide +kernel
theorem dX7_before_32 : decode cX7_before 32 = .ok (.invokevirtual 353, 3) := by decide +kernel
theorem dX7_before_35 : decode cX7_before 35 = .ok (.istore 4, 2) := by decide +kernel
theorem dX7_before_37 : decode cX7_before 37 = .ok (.iload 4, 2) := by decide +kernel
theorem dX7_before_39 : decode cX7_before 39 = .ok (.iload_n 2, 1) := by decide +kernel
theorem dX7_before_40 : decode cX7_before 40 = .ok (.if_icmp .le 17, 3) := by decide +kernel
theorem dX7_before_43 : decode cX7_before 43 = .ok (.iload 4, 2) := by decide +kernel
theorem dX7_before_45 : decode cX7_before 45 = .ok (.istore_n 2, 1) := by decide +kernel
theorem dX7_before_46 : decode cX7_before 46 = .ok (.aload_n 0, 1) := by decide +kernel
theorem dX7_before_47 : decode cX7_before 47 = .ok (.iconst 0, 1) := by decide +kernel
theorem dX7_before_48 : decode cX7_before 48 = .ok (.putfield 11, 3) := by decide +kernel
theorem dX7_before_51 : decode cX7_before 51 = .ok (.aload_n 0, 1) := by decide +kernel
theorem dX7_before_52 : decode cX7_before 52 = .ok (.iload_n 3, 1) := by decide +kernel
theorem dX7_before_53 : decode cX7_before 53 = .ok (.i2l, 1) := by decide +kernel
theorem dX7_before_54 : decode cX7_before 54 = .ok (.invokevirtual 295, 3) := by decide +kernel
theorem dX7_before_57 : decode cX7_before 57 = .ok (.iinc 3 1, 3) := by decide +kernel
theorem dX7_before_60 : decode cX7_before 60 = .ok (.goto (-36), 3) := by decide +kernel
theorem dX7_before_63 : decode cX7_before 63 = .ok (.iload_n 2, 1) := by decide +kernel
theorem dX7_before_64 : decode cX7_before 64 = .ok (.ireturn, 1) := by decide +kernel
theorem dX7_isOfWord_0 : decode cX7_isOfWord 0 = .ok (.aload_n 0, 1) := by decide +kernel
theorem dX7_isOfWord_1 : decode cX7_isOfWord 1 = .ok (.iload_n 1, 1) := by decide +kernel
theorem dX7_isOfWord_2 : decode cX7_isOfWord 2 = .ok (.invokevirtual 299, 3) := by decide +kernel
theorem dX7_isOfWord_5 : decode cX7_isOfWord 5 = .ok (.ifCond .ne 5, 3) := by decide +kernel
theorem dX7_isOfWord_8 : decode cX7_isOfWord 8 = .ok (.iconst 0, 1) := by decide +kernel
theorem dX7_isOfWord_9 : decode cX7_isOfWord 9 = .ok (.ireturn, 1) := by decide +kernel
theorem dX7_isOfWord_10 : decode cX7_isOfWord 10 = .ok (.aload_n 0, 1) := by decide +kernel
theorem dX7_isOfWord_11 : decode cX7_isOfWord 11 = .ok (.iload_n 1, 1) := by decide +kernel
theorem dX7_isOfWord_12 : decode cX7_isOfWord 12 = .ok (.invokevirtual 157, 3) := by decide +kernel
theorem dX7_isOfWord_15 : decode cX7_isOfWord 15 = .ok (.invokestatic 333, 3) := by decide +kernel
theorem dX7_isOfWord_18 : decode cX7_isOfWord 18 = .ok (.istore_n 2, 1) := by decide +kernel
theorem dX7_isOfWord_19 : decode cX7_isOfWord 19 = .ok (.iload_n 2, 1) := by decide +kernel
theorem dX7_isOfWord_20 : decode cX7_isOfWord 20 = .ok (.i2l, 1) := by decide +kernel
theorem dX7_isOfWord_21 : decode cX7_isOfWord 21 = .ok (.ldc2_w 275, 3) := by decide +kernel
theorem dX7_isOfWord_24 : decode cX7_isOfWord 24 = .ok (.ldc2_w 277, 3) := by decide +kernel
theorem dX7_isOfWord_27 : decode cX7_isOfWord 27 = .ok (.invokestatic 21, 3) := by decide +kernel
theorem dX7_isOfWord_30 : decode cX7_isOfWord 30 = .ok (.ifCond .ne 17, 3) := by decide +kernel
theorem dX7_isOfWord_33 : decode cX7_isOfWord 33 = .ok (.iload_n 2, 1) := by decide +kernel
theorem dX7_isOfWord_34 : decode cX7_isOfWord 34 = .ok (.i2l, 1) := by decide +kernel
theorem dX7_isOfWord_35 : decode cX7_isOfWord 35 = .ok (.ldc2_w 271, 3) := by decide +kernel
theorem dX7_isOfWord_38 : decode cX7_isOfWord 38 = .ok (.ldc2_w 273, 3) := by decide +kernel
theorem dX7_isOfWord_41 : decode cX7_isOfWord 41 = .ok (.invokestatic 21, 3) := by decide +kernel
theorem dX7_isOfWord_44 : decode cX7_isOfWord 44 = .ok (.ifCond .eq 7, 3) := by decide +kernel
theorem dX7_isOfWord_47 : decode cX7_isOfWord 47 = .ok (.iconst 1, 1) := by decide +kernel
theorem dX7_isOfWord_48 : decode cX7_isOfWord 48 = .ok (.goto 4, 3) := by decide +kernel
theorem dX7_isOfWord_51 : decode cX7_isOfWord 51 = .ok (.iconst 0, 1) := by decide +kernel
theorem dX7_isOfWord_52 : decode cX7_isOfWord 52 = .ok (.ireturn, 1) := by decide +kernel
theorem dX7_endOfWord_0 : decode cX7_endOfWord 0 = .ok (.iload_n 1, 1) := by decide +kernel
theorem dX7_endOfWord_1 : decode cX7_endOfWord 1 = .ok (.istore_n 2, 1) := by decide +kernel
theorem dX7_endOfWord_2 : decode cX7_endOfWord 2 = .ok (.aload_n 0, 1) := by decide +kernel
theorem dX7_endOfWord_3 : decode cX7_endOfWord 3 = .ok (.iload_n 2, 1) := by decide +kernel
theorem dX7_endOfWord_4 : decode cX7_endOfWord 4 = .ok (.invokevirtual 356, 3) := by decide +kernel
theorem dX7_endOfWord_7 : decode cX7_endOfWord 7 = .ok (.ifCond .eq 9, 3) := by decide +kernel
theorem dX7_endOfWord_10 : decode cX7_endOfWord 10 = .ok (.iinc 2 1, 3) := by decide +kernel
theorem dX7_endOfWord_13 : decode cX7_endOfWord 13 = .ok (.goto (-11), 3) := by decide +kernel
theorem dX7_endOfWord_16 : decode cX7_endOfWord 16 = .ok (.iload_n 2, 1) := by decide +kernel
theorem dX7_endOfWord_17 : decode cX7_endOfWord 17 = .ok (.ireturn, 1) := by decide +kernel
theorem dX7_word_0 : decode cX7_word 0 = .ok (.aload_n 0, 1) := by decide +kernel
theorem dX7_word_1 : decode cX7_word 1 = .ok (.iconst 0, 1) := by decide +kernel
theorem dX7_word_2 : decode cX7_word 2 = .ok (.putfield 1, 3) := by decide +kernel
theorem dX7_word_5 : decode cX7_word 5 = .ok (.aload_n 0, 1) := by decide +kernel
theorem dX7_word_6 : decode cX7_word 6 = .ok (.iload_n 1, 1) := by decide +kernel
theorem dX7_word_7 : decode cX7_word 7 = .ok (.invokevirtual 202, 3) := by decide +kernel
theorem dX7_word_10 : decode cX7_word 10 = .ok (.ifCond .ne 5, 3) := by decide +kernel
theorem dX7_word_13 : decode cX7_word 13 = .ok (.iconst (-1), 1) := by decide +kernel
theorem dX7_word_14 : decode cX7_word 14 = .ok (.ireturn, 1) := by decide +kernel
theorem dX7_word_15 : decode cX7_word 15 = .ok (.aload_n 0, 1) := by decide +kernel
theorem dX7_word_16 : decode cX7_word 16 = .ok (.iload_n 1, 1) := by decide +kernel
theorem dX7_word_17 : decode cX7_word 17 = .ok (.invokevirtual 356, 3) := by decide +kernel
theorem dX7_word_20 : decode cX7_word 20 = .ok (.ifCond .eq 7, 3) := by decide +kernel
theorem dX7_word_23 : decode cX7_word 23 = .ok (.iload_n 1, 1) := by decide +kernel
theorem dX7_word_24 : decode cX7_word 24 = .ok (.goto 6, 3) := by decide +kernel
theorem dX7_word_27 : decode cX7_word 27 = .ok (.iload_n 1, 1) := by decide +kernel
theorem dX7_word_28 : decode cX7_word 28 = .ok (.iconst 1, 1) := by decide +kernel
theorem dX7_word_29 : decode cX7_word 29 = .ok (.isub, 1) := by decide +kernel
theorem dX7_word_30 : decode cX7_word 30 = .ok (.istore_n 2, 1) := by decide +kernel
theorem dX7_word_31 : decode cX7_word 31 = .ok (.aload_n 0, 1) := by decide +kernel
theorem dX7_word_32 : decode cX7_word 32 = .ok (.iload_n 2, 1) := by decide +kernel
theorem dX7_word_33 : decode cX7_word 33 = .ok (.invokevirtual 356, 3) := by decide +kernel
theorem dX7_word_36 : decode cX7_word 36 = .ok (.ifCond .ne 6, 3) := by decide +kernel
theorem dX7_word_39 : decode cX7_word 39 = .ok (.bipush (-2), 2) := by decide +kernel
theorem dX7_word_41 : decode cX7_word 41 = .ok (.ireturn, 1) := by decide +kernel
theorem dX7_word_42 : decode cX7_word 42 = .ok (.aload_n 0, 1) := by decide +kernel
theorem dX7_word_43 : decode cX7_word 43 = .ok (.iload_n 2, 1) := by decide +kernel
theorem dX7_word_44 : decode cX7_word 44 = .ok (.iconst 1, 1) := by decide +kernel
theorem dX7_word_45 : decode cX7_word 45 = .ok (.isub, 1) := by decide +kernel
theorem dX7_word_46 : decode cX7_word 46 = .ok (.invokevirtual 356, 3) := by decide +kernel
theorem dX7_word_49 : decode cX7_word 49 = .ok (.ifCond .eq 9, 3) := by decide +kernel
theorem dX7_word_52 : decode cX7_word 52 = .ok (.iinc 2 (-1), 3) := by decide +kernel
theorem dX7_word_55 : decode cX7_word 55 = .ok (.goto (-13), 3) := by decide +kernel
theorem dX7_word_58 : decode cX7_word 58 = .ok (.aload_n 0, 1) := by decide +kernel
theorem dX7_word_59 : decode cX7_word 59 = .ok (.iconst 0, 1) := by decide +kernel
theorem dX7_word_60 : decode cX7_word 60 = .ok (.putfield 11, 3) := by decide +kernel
theorem dX7_word_63 : decode cX7_word 63 = .ok (.aload_n 0, 1) := by decide +kernel
theorem dX7_word_64 : decode cX7_word 64 = .ok (.aload_n 0, 1) := by decide +kernel
theorem dX7_word_65 : decode cX7_word 65 = .ok (.iload_n 2, 1) := by decide +kernel
theorem dX7_word_66 : decode cX7_word 66 = .ok (.invokevirtual 359, 3) := by decide +kernel
theorem dX7_word_69 : decode cX7_word 69 = .ok (.i2l, 1) := by decide +kernel
theorem dX7_word_70 : decode cX7_word 70 = .ok (.invokevirtual 295, 3) := by decide +kernel
theorem dX7_word_73 : decode cX7_word 73 = .ok (.iload_n 2, 1) := by decide +kernel
theorem dX7_word_74 : decode cX7_word 74 = .ok (.ireturn, 1) := by decide +kernel
theorem dX7_words_0 : decode cX7_words 0 = .ok (.aload_n 0, 1) := by decide +kernel
theorem dX7_words_1 : decode cX7_words 1 = .ok (.iconst 0, 1) := by decide +kernel
theorem dX7_words_2 : decode cX7_words 2 = .ok (.putfield 1, 3) := by decide +kernel
theorem dX7_words_5 : decode cX7_words 5 = .ok (.iconst 0, 1) := by decide +kernel
theorem dX7_words_6 : decode cX7_words 6 = .ok (.istore_n 1, 1) := by decide +kernel
theorem dX7_words_7 : decode cX7_words 7 = .ok (.iconst (-1), 1) := by decide +kernel
theorem dX7_words_8 : decode cX7_words 8 = .ok (.istore_n 2, 1) := by decide +kernel
theorem dX7_words_9 : decode cX7_words 9 = .ok (.iconst 0, 1) := by decide +kernel
theorem dX7_words_10 : decode cX7_words 10 = .ok (.istore_n 3, 1) := by decide +kernel
theorem dX7_words_11 : decode cX7_words 11 = .ok (.iconst 0, 1) := by decide +kernel
theorem dX7_words_12 : decode cX7_words 12 = .ok (.istore 4, 2) := by decide +kernel
theorem dX7_words_14 : decode cX7_words 14 = .ok (.iload 4, 2) := by decide +kernel
theorem dX7_words_16 : decode cX7_words 16 = .ok (.aload_n 0, 1) := by decide +kernel
theorem dX7_words_17 : decode cX7_words 17 = .ok (.getfield 123, 3) := by decide +kernel
theorem dX7_words_20 : decode cX7_words 20 = .ok (.if_icmp .ge 63, 3) := by decide +kernel
theorem dX7_words_23 : decode cX7_words 23 = .ok (.aload_n 0, 1) := by decide +kernel
theorem dX7_words_24 : decode cX7_words 24 = .ok (.iload 4, 2) := by decide +kernel
theorem dX7_words_26 : decode cX7_words 26 = .ok (.invokevirtual 356, 3) := by decide +kernel
theorem dX7_words_29 : decode cX7_words 29 = .ok (.ifCond .eq 48, 3) := by decide +kernel
theorem dX7_words_32 : decode cX7_words 32 = .ok (.aload_n 0, 1) := by decide +kernel
theorem dX7_words_33 : decode cX7_words 33 = .ok (.iload 4, 2) := by decide +kernel
theorem dX7_words_35 : decode cX7_words 35 = .ok (.iconst 1, 1) := by decide +kernel
theorem dX7_words_36 : decode cX7_words 36 = .ok (.isub, 1) := by decide +kernel
theorem dX7_words_37 : decode cX7_words 37 = .ok (.invokevirtual 356, 3) := by decide +kernel
theorem dX7_words_40 : decode cX7_words 40 = .ok (.ifCond .ne 37, 3) := by decide +kernel
theorem dX7_words_43 : decode cX7_words 43 = .ok (.iinc 1 1, 3) := by decide +kernel
theorem dX7_words_46 : decode cX7_words 46 = .ok (.aload_n 0, 1) := by decide +kernel
theorem dX7_words_47 : decode cX7_words 47 = .ok (.iload 4, 2) := by decide +kernel
theorem dX7_words_49 : decode cX7_words 49 = .ok (.invokevirtual 359, 3) := by decide +kernel
theorem dX7_words_52 : decode cX7_words 52 = .ok (.iload 4, 2) := by decide +kernel
theorem dX7_words_54 : decode cX7_words 54 = .ok (.isub, 1) := by decide +kernel
theorem dX7_words_55 : decode cX7_words 55 = .ok (.istore 5, 2) := by decide +kernel
theorem dX7_words_57 : decode cX7_words 57 = .ok (.iload 5, 2) := by decide +kernel
theorem dX7_words_59 : decode cX7_words 59 = .ok (.iload_n 3, 1) := by decide +kernel
theorem dX7_words_60 : decode cX7_words 60 = .ok (.if_icmp .le 8, 3) := by decide +kernel
theorem dX7_words_63 : decode cX7_words 63 = .ok (.iload 4, 2) := by decide +kernel
theorem dX7_words_65 : decode cX7_words 65 = .ok (.goto 4, 3) := by decide +kernel
theorem dX7_words_68 : decode cX7_words 68 = .ok (.iload_n 2, 1) := by decide +kernel
theorem dX7_words_69 : decode cX7_words 69 = .ok (.istore_n 2, 1) := by decide +kernel
theorem dX7_words_70 : decode cX7_words 70 = .ok (.iload_n 3, 1) := by decide +kernel
theorem dX7_words_71 : decode cX7_words 71 = .ok (.iload 5, 2) := by decide +kernel
theorem dX7_words_73 : decode cX7_words 73 = .ok (.invokestatic 307, 3) := by decide +kernel
theorem dX7_words_76 : decode cX7_words 76 = .ok (.istore_n 3, 1) := by decide +kernel
theorem dX7_words_77 : decode cX7_words 77 = .ok (.iinc 4 1, 3) := by decide +kernel
theorem dX7_words_80 : decode cX7_words 80 = .ok (.goto (-66), 3) := by decide +kernel
theorem dX7_words_83 : decode cX7_words 83 = .ok (.aload_n 0, 1) := by decide +kernel
theorem dX7_words_84 : decode cX7_words 84 = .ok (.iconst 0, 1) := by decide +kernel
theorem dX7_words_85 : decode cX7_words 85 = .ok (.putfield 11, 3) := by decide +kernel
theorem dX7_words_88 : decode cX7_words 88 = .ok (.iload_n 1, 1) := by decide +kernel
theorem dX7_words_89 : decode cX7_words 89 = .ok (.ifCond .le 15, 3) := by decide +kernel
theorem dX7_words_92 : decode cX7_words 92 = .ok (.aload_n 0, 1) := by decide +kernel
theorem dX7_words_93 : decode cX7_words 93 = .ok (.iload_n 3, 1) := by decide +kernel
theorem dX7_words_94 : decode cX7_words 94 = .ok (.i2l, 1) := by decide +kernel
theorem dX7_words_95 : decode cX7_words 95 = .ok (.invokevirtual 295, 3) := by decide +kernel
theorem dX7_words_98 : decode cX7_words 98 = .ok (.aload_n 0, 1) := by decide +kernel
theorem dX7_words_99 : decode cX7_words 99 = .ok (.iload_n 2, 1) := by decide +kernel
theorem dX7_words_100 : decode cX7_words 100 = .ok (.i2l, 1) := by decide +kernel
theorem dX7_words_101 : decode cX7_words 101 = .ok (.invokevirtual 295, 3) := by decide +kernel
theorem dX7_words_104 : decode cX7_words 104 = .ok (.iload_n 1, 1) := by decide +kernel
theorem dX7_words_105 : decode cX7_words 105 = .ok (.ireturn, 1) := by decide +kernel
theorem dX7_rowEnd_0 : decode cX7_rowEnd 0 = .ok (.iload_n 2, 1) := by decide +kernel
theorem dX7_rowEnd_1 : decode cX7_rowEnd 1 = .ok (.iload_n 1, 1) := by decide +kernel
theorem dX7_rowEnd_2 : decode cX7_rowEnd 2 = .ok (.isub, 1) := by decide +kernel
theorem dX7_rowEnd_3 : decode cX7_rowEnd 3 = .ok (.iload_n 3, 1) := by decide +kernel
theorem dX7_rowEnd_4 : decode cX7_rowEnd 4 = .ok (.if_icmp .gt 5, 3) := by decide +kernel
theorem dX7_rowEnd_7 : decode cX7_rowEnd 7 = .ok (.iload_n 2, 1) := by decide +kernel
theorem dX7_rowEnd_8 : decode cX7_rowEnd 8 = .ok (.ireturn, 1) := by decide +kernel
theorem dX7_rowEnd_9 : decode cX7_rowEnd 9 = .ok (.iload_n 1, 1) := by decide +kernel
theorem dX7_rowEnd_10 : decode cX7_rowEnd 10 = .ok (.iload_n 3, 1) := by decide +kernel
theorem dX7_rowEnd_11 : decode cX7_rowEnd 11 = .ok (.iadd, 1) := by decide +kernel
theorem dX7_rowEnd_12 : decode cX7_rowEnd 12 = .ok (.istore 4, 2) := by decide +kernel
theorem dX7_rowEnd_14 : decode cX7_rowEnd 14 = .ok (.iload 4, 2) := by decide +kernel
theorem dX7_rowEnd_16 : decode cX7_rowEnd 16 = .ok (.iload_n 1, 1) := by decide +kernel
theorem dX7_rowEnd_17 : decode cX7_rowEnd 17 = .ok (.if_icmp .le 25, 3) := by decide +kernel
theorem dX7_rowEnd_20 : decode cX7_rowEnd 20 = .ok (.aload_n 0, 1) := by decide +kernel
theorem dX7_rowEnd_21 : decode cX7_rowEnd 21 = .ok (.iload 4, 2) := by decide +kernel
theorem dX7_rowEnd_23 : decode cX7_rowEnd 23 = .ok (.iconst 1, 1) := by decide +kernel
theorem dX7_rowEnd_24 : decode cX7_rowEnd 24 = .ok (.isub, 1) := by decide +kernel
theorem dX7_rowEnd_25 : decode cX7_rowEnd 25 = .ok (.invokevirtual 157, 3) := by decide +kernel
theorem dX7_rowEnd_28 : decode cX7_rowEnd 28 = .ok (.bipush 32, 2) := by decide +kernel
theorem dX7_rowEnd_30 : decode cX7_rowEnd 30 = .ok (.if_icmp .ne 6, 3) := by decide +kernel
theorem dX7_rowEnd_33 : decode cX7_rowEnd 33 = .ok (.iload 4, 2) := by decide +kernel
theorem dX7_rowEnd_35 : decode cX7_rowEnd 35 = .ok (.ireturn, 1) := by decide +kernel
theorem dX7_rowEnd_36 : decode cX7_rowEnd 36 = .ok (.iinc 4 (-1), 3) := by decide +kernel
theorem dX7_rowEnd_39 : decode cX7_rowEnd 39 = .ok (.goto (-25), 3) := by decide +kernel
theorem dX7_rowEnd_42 : decode cX7_rowEnd 42 = .ok (.iload_n 1, 1) := by decide +kernel
theorem dX7_rowEnd_43 : decode cX7_rowEnd 43 = .ok (.iload_n 3, 1) := by decide +kernel
theorem dX7_rowEnd_44 : decode cX7_rowEnd 44 = .ok (.iadd, 1) := by decide +kernel
theorem dX7_rowEnd_45 : decode cX7_rowEnd 45 = .ok (.ireturn, 1) := by decide +kernel
theorem dX7_rows_0 : decode cX7_rows 0 = .ok (.aload_n 0, 1) := by decide +kernel
theorem dX7_rows_1 : decode cX7_rows 1 = .ok (.iconst 0, 1) := by decide +kernel
theorem dX7_rows_2 : decode cX7_rows 2 = .ok (.putfield 1, 3) := by decide +kernel
theorem dX7_rows_5 : decode cX7_rows 5 = .ok (.iload_n 1, 1) := by decide +kernel
theorem dX7_rows_6 : decode cX7_rows 6 = .ok (.i2l, 1) := by decide +kernel
theorem dX7_rows_7 : decode cX7_rows 7 = .ok (.lconst 1, 1) := by decide +kernel
theorem dX7_rows_8 : decode cX7_rows 8 = .ok (.ldc2_w 362, 3) := by decide +kernel
theorem dX7_rows_11 : decode cX7_rows 11 = .ok (.invokestatic 21, 3) := by decide +kernel
theorem dX7_rows_14 : decode cX7_rows 14 = .ok (.ifCond .ne 5, 3) := by decide +kernel
theorem dX7_rows_17 : decode cX7_rows 17 = .ok (.iconst (-1), 1) := by decide +kernel
theorem dX7_rows_18 : decode cX7_rows 18 = .ok (.ireturn, 1) := by decide +kernel
theorem dX7_rows_19 : decode cX7_rows 19 = .ok (.iconst 0, 1) := by decide +kernel
theorem dX7_rows_20 : decode cX7_rows 20 = .ok (.istore_n 2, 1) := by decide +kernel
theorem dX7_rows_21 : decode cX7_rows 21 = .ok (.iconst 0, 1) := by decide +kernel
theorem dX7_rows_22 : decode cX7_rows 22 = .ok (.istore_n 3, 1) := by decide +kernel
theorem dX7_rows_23 : decode cX7_rows 23 = .ok (.iconst 0, 1) := by decide +kernel
theorem dX7_rows_24 : decode cX7_rows 24 = .ok (.istore 4, 2) := by decide +kernel
theorem dX7_rows_26 : decode cX7_rows 26 = .ok (.iload 4, 2) := by decide +kernel
theorem dX7_rows_28 : decode cX7_rows 28 = .ok (.aload_n 0, 1) := by decide +kernel
theorem dX7_rows_29 : decode cX7_rows 29 = .ok (.getfield 123, 3) := by decide +kernel
theorem dX7_rows_32 : decode cX7_rows 32 = .ok (.if_icmp .gt 70, 3) := by decide +kernel
theorem dX7_rows_35 : decode cX7_rows 35 = .ok (.aload_n 0, 1) := by decide +kernel
theorem dX7_rows_36 : decode cX7_rows 36 = .ok (.iload 4, 2) := by decide +kernel
theorem dX7_rows_38 : decode cX7_rows 38 = .ok (.invokevirtual 251, 3) := by decide +kernel
theorem dX7_rows_41 : decode cX7_rows 41 = .ok (.istore 5, 2) := by decide +kernel
theorem dX7_rows_43 : decode cX7_rows 43 = .ok (.iconst 1, 1) := by decide +kernel
theorem dX7_rows_44 : decode cX7_rows 44 = .ok (.istore 6, 2) := by decide +kernel
theorem dX7_rows_46 : decode cX7_rows 46 = .ok (.iload 6, 2) := by decide +kernel
theorem dX7_rows_48 : decode cX7_rows 48 = .ok (.ifCond .eq 48, 3) := by decide +kernel
theorem dX7_rows_51 : decode cX7_rows 51 = .ok (.aload_n 0, 1) := by decide +kernel
theorem dX7_rows_52 : decode cX7_rows 52 = .ok (.iload 4, 2) := by decide +kernel
theorem dX7_rows_54 : decode cX7_rows 54 = .ok (.iload 5, 2) := by decide +kernel
theorem dX7_rows_56 : decode cX7_rows 56 = .ok (.iload_n 1, 1) := by decide +kernel
theorem dX7_rows_57 : decode cX7_rows 57 = .ok (.invokevirtual 364, 3) := by decide +kernel
theorem dX7_rows_60 : decode cX7_rows 60 = .ok (.istore 7, 2) := by decide +kernel
theorem dX7_rows_62 : decode cX7_rows 62 = .ok (.iinc 2 1, 3) := by decide +kernel
theorem dX7_rows_65 : decode cX7_rows 65 = .ok (.iload_n 3, 1) := by decide +kernel
theorem dX7_rows_66 : decode cX7_rows 66 = .ok (.iload 7, 2) := by decide +kernel
theorem dX7_rows_68 : decode cX7_rows 68 = .ok (.iload 4, 2) := by decide +kernel
theorem dX7_rows_70 : decode cX7_rows 70 = .ok (.isub, 1) := by decide +kernel
theorem dX7_rows_71 : decode cX7_rows 71 = .ok (.invokestatic 307, 3) := by decide +kernel
theorem dX7_rows_74 : decode cX7_rows 74 = .ok (.istore_n 3, 1) := by decide +kernel
theorem dX7_rows_75 : decode cX7_rows 75 = .ok (.iload 7, 2) := by decide +kernel
theorem dX7_rows_77 : decode cX7_rows 77 = .ok (.istore 4, 2) := by decide +kernel
theorem dX7_rows_79 : decode cX7_rows 79 = .ok (.iload 4, 2) := by decide +kernel
theorem dX7_rows_81 : decode cX7_rows 81 = .ok (.iload 5, 2) := by decide +kernel
theorem dX7_rows_83 : decode cX7_rows 83 = .ok (.if_icmp .ge 7, 3) := by decide +kernel
theorem dX7_rows_86 : decode cX7_rows 86 = .ok (.iconst 1, 1) := by decide +kernel
theorem dX7_rows_87 : decode cX7_rows 87 = .ok (.goto 4, 3) := by decide +kernel
theorem dX7_rows_90 : decode cX7_rows 90 = .ok (.iconst 0, 1) := by decide +kernel
theorem dX7_rows_91 : decode cX7_rows 91 = .ok (.istore 6, 2) := by decide +kernel
theorem dX7_rows_93 : decode cX7_rows 93 = .ok (.goto (-47), 3) := by decide +kernel
theorem dX7_rows_96 : decode cX7_rows 96 = .ok (.iinc 4 1, 3) := by decide +kernel
theorem dX7_rows_99 : decode cX7_rows 99 = .ok (.goto (-73), 3) := by decide +kernel
theorem dX7_rows_102 : decode cX7_rows 102 = .ok (.aload_n 0, 1) := by decide +kernel
theorem dX7_rows_103 : decode cX7_rows 103 = .ok (.iconst 0, 1) := by decide +kernel
theorem dX7_rows_104 : decode cX7_rows 104 = .ok (.putfield 11, 3) := by decide +kernel
theorem dX7_rows_107 : decode cX7_rows 107 = .ok (.aload_n 0, 1) := by decide +kernel
theorem dX7_rows_108 : decode cX7_rows 108 = .ok (.iload_n 3, 1) := by decide +kernel
theorem dX7_rows_109 : decode cX7_rows 109 = .ok (.i2l, 1) := by decide +kernel
theorem dX7_rows_110 : decode cX7_rows 110 = .ok (.invokevirtual 295, 3) := by decide +kernel
theorem dX7_rows_113 : decode cX7_rows 113 = .ok (.iload_n 2, 1) := by decide +kernel
theorem dX7_rows_114 : decode cX7_rows 114 = .ok (.ireturn, 1) := by decide +kernel
theorem dX7_tally_0 : decode cX7_tally 0 = .ok (.aload_n 0, 1) := by decide +kernel
theorem dX7_tally_1 : decode cX7_tally 1 = .ok (.iconst 0, 1) := by decide +kernel
theorem dX7_tally_2 : decode cX7_tally 2 = .ok (.putfield 1, 3) := by decide +kernel
theorem dX7_tally_5 : decode cX7_tally 5 = .ok (.iload_n 1, 1) := by decide +kernel
theorem dX7_tally_6 : decode cX7_tally 6 = .ok (.i2l, 1) := by decide +kernel
theorem dX7_tally_7 : decode cX7_tally 7 = .ok (.lconst 1, 1) := by decide +kernel
theorem dX7_tally_8 : decode cX7_tally 8 = .ok (.ldc2_w 28, 3) := by decide +kernel
theorem dX7_tally_11 : decode cX7_tally 11 = .ok (.invokestatic 21, 3) := by decide +kernel
theorem dX7_tally_14 : decode cX7_tally 14 = .ok (.ifCond .ne 5, 3) := by decide +kernel
theorem dX7_tally_17 : decode cX7_tally 17 = .ok (.iconst (-1), 1) := by decide +kernel
theorem dX7_tally_18 : decode cX7_tally 18 = .ok (.ireturn, 1) := by decide +kernel
theorem dX7_tally_19 : decode cX7_tally 19 = .ok (.iconst 0, 1) := by decide +kernel
theorem dX7_tally_20 : decode cX7_tally 20 = .ok (.istore_n 2, 1) := by decide +kernel
theorem dX7_tally_21 : decode cX7_tally 21 = .ok (.iconst 0, 1) := by decide +kernel
theorem dX7_tally_22 : decode cX7_tally 22 = .ok (.istore_n 3, 1) := by decide +kernel
theorem dX7_tally_23 : decode cX7_tally 23 = .ok (.iconst 0, 1) := by decide +kernel
theorem dX7_tally_24 : decode cX7_tally 24 = .ok (.istore 4, 2) := by decide +kernel
theorem dX7_tally_26 : decode cX7_tally 26 = .ok (.iconst 0, 1) := by decide +kernel
theorem dX7_tally_27 : decode cX7_tally 27 = .ok (.istore 5, 2) := by decide +kernel
theorem dX7_tally_29 : decode cX7_tally 29 = .ok (.iload 5, 2) := by decide +kernel
theorem dX7_tally_31 : decode cX7_tally 31 = .ok (.aload_n 0, 1) := by decide +kernel
theorem dX7_tally_32 : decode cX7_tally 32 = .ok (.getfield 123, 3) := by decide +kernel
theorem dX7_tally_35 : decode cX7_tally 35 = .ok (.if_icmp .ge 64, 3) := by decide +kernel
theorem dX7_tally_38 : decode cX7_tally 38 = .ok (.aload_n 0, 1) := by decide +kernel
theorem dX7_tally_39 : decode cX7_tally 39 = .ok (.iload 5, 2) := by decide +kernel
theorem dX7_tally_41 : decode cX7_tally 41 = .ok (.invokevirtual 157, 3) := by decide +kernel
theorem dX7_tally_44 : decode cX7_tally 44 = .ok (.iload_n 1, 1) := by decide +kernel
theorem dX7_tally_45 : decode cX7_tally 45 = .ok (.if_icmp .ne 7, 3) := by decide +kernel
theorem dX7_tally_48 : decode cX7_tally 48 = .ok (.iconst 1, 1) := by decide +kernel
theorem dX7_tally_49 : decode cX7_tally 49 = .ok (.goto 4, 3) := by decide +kernel
theorem dX7_tally_52 : decode cX7_tally 52 = .ok (.iconst 0, 1) := by decide +kernel
theorem dX7_tally_53 : decode cX7_tally 53 = .ok (.istore 6, 2) := by decide +kernel
theorem dX7_tally_55 : decode cX7_tally 55 = .ok (.iload 6, 2) := by decide +kernel
theorem dX7_tally_57 : decode cX7_tally 57 = .ok (.ifCond .eq 12, 3) := by decide +kernel
theorem dX7_tally_60 : decode cX7_tally 60 = .ok (.iload_n 2, 1) := by decide +kernel
theorem dX7_tally_61 : decode cX7_tally 61 = .ok (.ifCond .ne 8, 3) := by decide +kernel
theorem dX7_tally_64 : decode cX7_tally 64 = .ok (.iload 5, 2) := by decide +kernel
theorem dX7_tally_66 : decode cX7_tally 66 = .ok (.goto 4, 3) := by decide +kernel
theorem dX7_tally_69 : decode cX7_tally 69 = .ok (.iload_n 3, 1) := by decide +kernel
theorem dX7_tally_70 : decode cX7_tally 70 = .ok (.istore_n 3, 1) := by decide +kernel
theorem dX7_tally_71 : decode cX7_tally 71 = .ok (.iload 6, 2) := by decide +kernel
theorem dX7_tally_73 : decode cX7_tally 73 = .ok (.ifCond .eq 8, 3) := by decide +kernel
theorem dX7_tally_76 : decode cX7_tally 76 = .ok (.iload 5, 2) := by decide +kernel
theorem dX7_tally_78 : decode cX7_tally 78 = .ok (.goto 5, 3) := by decide +kernel
theorem dX7_tally_81 : decode cX7_tally 81 = .ok (.iload 4, 2) := by decide +kernel
theorem dX7_tally_83 : decode cX7_tally 83 = .ok (.istore 4, 2) := by decide +kernel
theorem dX7_tally_85 : decode cX7_tally 85 = .ok (.iload_n 2, 1) := by decide +kernel
theorem dX7_tally_86 : decode cX7_tally 86 = .ok (.iload 6, 2) := by decide +kernel
theorem dX7_tally_88 : decode cX7_tally 88 = .ok (.invokestatic 119, 3) := by decide +kernel
theorem dX7_tally_91 : decode cX7_tally 91 = .ok (.iadd, 1) := by decide +kernel
theorem dX7_tally_92 : decode cX7_tally 92 = .ok (.istore_n 2, 1) := by decide +kernel
theorem dX7_tally_93 : decode cX7_tally 93 = .ok (.iinc 5 1, 3) := by decide +kernel
theorem dX7_tally_96 : decode cX7_tally 96 = .ok (.goto (-67), 3) := by decide +kernel
theorem dX7_tally_99 : decode cX7_tally 99 = .ok (.aload_n 0, 1) := by decide +kernel
theorem dX7_tally_100 : decode cX7_tally 100 = .ok (.iconst 0, 1) := by decide +kernel
theorem dX7_tally_101 : decode cX7_tally 101 = .ok (.putfield 11, 3) := by decide +kernel
theorem dX7_tally_104 : decode cX7_tally 104 = .ok (.iload_n 2, 1) := by decide +kernel
theorem dX7_tally_105 : decode cX7_tally 105 = .ok (.ifCond .le 16, 3) := by decide +kernel
theorem dX7_tally_108 : decode cX7_tally 108 = .ok (.aload_n 0, 1) := by decide +kernel
theorem dX7_tally_109 : decode cX7_tally 109 = .ok (.iload_n 3, 1) := by decide +kernel
theorem dX7_tally_110 : decode cX7_tally 110 = .ok (.i2l, 1) := by decide +kernel
theorem dX7_tally_111 : decode cX7_tally 111 = .ok (.invokevirtual 295, 3) := by decide +kernel
theorem dX7_tally_114 : decode cX7_tally 114 = .ok (.aload_n 0, 1) := by decide +kernel
theorem dX7_tally_115 : decode cX7_tally 115 = .ok (.iload 4, 2) := by decide +kernel
theorem dX7_tally_117 : decode cX7_tally 117 = .ok (.i2l, 1) := by decide +kernel
theorem dX7_tally_118 : decode cX7_tally 118 = .ok (.invokevirtual 295, 3) := by decide +kernel
theorem dX7_tally_121 : decode cX7_tally 121 = .ok (.iload_n 2, 1) := by decide +kernel
theorem dX7_tally_122 : decode cX7_tally 122 = .ok (.ireturn, 1) := by decide +kernel
theorem dX7_alike_0 : decode cX7_alike 0 = .ok (.aload_n 0, 1) := by decide +kernel
theorem dX7_alike_1 : decode cX7_alike 1 = .ok (.iconst 0, 1) := by decide +kernel
theorem dX7_alike_2 : decode cX7_alike 2 = .ok (.putfield 1, 3) := by decide +kernel
theorem dX7_alike_5 : decode cX7_alike 5 = .ok (.aload_n 0, 1) := by decide +kernel
theorem dX7_alike_6 : decode cX7_alike 6 = .ok (.iload_n 1, 1) := by decide +kernel
theorem dX7_alike_7 : decode cX7_alike 7 = .ok (.invokevirtual 202, 3) := by decide +kernel
theorem dX7_alike_10 : decode cX7_alike 10 = .ok (.ifCond .eq 11, 3) := by decide +kernel
theorem dX7_alike_13 : decode cX7_alike 13 = .ok (.aload_n 0, 1) := by decide +kernel
theorem dX7_alike_14 : decode cX7_alike 14 = .ok (.iload_n 2, 1) := by decide +kernel
theorem dX7_alike_15 : decode cX7_alike 15 = .ok (.invokevirtual 202, 3) := by decide +kernel
theorem dX7_alike_18 : decode cX7_alike 18 = .ok (.ifCond .ne 5, 3) := by decide +kernel
theorem dX7_alike_21 : decode cX7_alike 21 = .ok (.iconst (-1), 1) := by decide +kernel
theorem dX7_alike_22 : decode cX7_alike 22 = .ok (.ireturn, 1) := by decide +kernel
theorem dX7_alike_23 : decode cX7_alike 23 = .ok (.aload_n 0, 1) := by decide +kernel
theorem dX7_alike_24 : decode cX7_alike 24 = .ok (.iload_n 1, 1) := by decide +kernel
theorem dX7_alike_25 : decode cX7_alike 25 = .ok (.iload_n 2, 1) := by decide +kernel
theorem dX7_alike_26 : decode cX7_alike 26 = .ok (.invokevirtual 353, 3) := by decide +kernel
theorem dX7_alike_29 : decode cX7_alike 29 = .ok (.istore_n 3, 1) := by decide +kernel
theorem dX7_alike_30 : decode cX7_alike 30 = .ok (.aload_n 0, 1) := by decide +kernel
theorem dX7_alike_31 : decode cX7_alike 31 = .ok (.iconst 0, 1) := by decide +kernel
theorem dX7_alike_32 : decode cX7_alike 32 = .ok (.putfield 11, 3) := by decide +kernel
theorem dX7_alike_35 : decode cX7_alike 35 = .ok (.aload_n 0, 1) := by decide +kernel
theorem dX7_alike_36 : decode cX7_alike 36 = .ok (.aload_n 0, 1) := by decide +kernel
theorem dX7_alike_37 : decode cX7_alike 37 = .ok (.iload_n 1, 1) := by decide +kernel
theorem dX7_alike_38 : decode cX7_alike 38 = .ok (.iload_n 3, 1) := by decide +kernel
theorem dX7_alike_39 : decode cX7_alike 39 = .ok (.iadd, 1) := by decide +kernel
theorem dX7_alike_40 : decode cX7_alike 40 = .ok (.invokevirtual 299, 3) := by decide +kernel
theorem dX7_alike_43 : decode cX7_alike 43 = .ok (.ifCond .eq 14, 3) := by decide +kernel
theorem dX7_alike_46 : decode cX7_alike 46 = .ok (.aload_n 0, 1) := by decide +kernel
theorem dX7_alike_47 : decode cX7_alike 47 = .ok (.iload_n 1, 1) := by decide +kernel
theorem dX7_alike_48 : decode cX7_alike 48 = .ok (.iload_n 3, 1) := by decide +kernel
theorem dX7_alike_49 : decode cX7_alike 49 = .ok (.iadd, 1) := by decide +kernel
theorem dX7_alike_50 : decode cX7_alike 50 = .ok (.invokevirtual 157, 3) := by decide +kernel
theorem dX7_alike_53 : decode cX7_alike 53 = .ok (.i2l, 1) := by decide +kernel
theorem dX7_alike_54 : decode cX7_alike 54 = .ok (.goto 4, 3) := by decide +kernel
theorem dX7_alike_57 : decode cX7_alike 57 = .ok (.lconst 0, 1) := by decide +kernel
theorem dX7_alike_58 : decode cX7_alike 58 = .ok (.invokevirtual 295, 3) := by decide +kernel
theorem dX7_alike_61 : decode cX7_alike 61 = .ok (.aload_n 0, 1) := by decide +kernel
theorem dX7_alike_62 : decode cX7_alike 62 = .ok (.aload_n 0, 1) := by decide +kernel
theorem dX7_alike_63 : decode cX7_alike 63 = .ok (.iload_n 2, 1) := by decide +kernel
theorem dX7_alike_64 : decode cX7_alike 64 = .ok (.iload_n 3, 1) := by decide +kernel
theorem dX7_alike_65 : decode cX7_alike 65 = .ok (.iadd, 1) := by decide +kernel
theorem dX7_alike_66 : decode cX7_alike 66 = .ok (.invokevirtual 299, 3) := by decide +kernel
theorem dX7_alike_69 : decode cX7_alike 69 = .ok (.ifCond .eq 14, 3) := by decide +kernel
theorem dX7_alike_72 : decode cX7_alike 72 = .ok (.aload_n 0, 1) := by decide +kernel
theorem dX7_alike_73 : decode cX7_alike 73 = .ok (.iload_n 2, 1) := by decide +kernel
theorem dX7_alike_74 : decode cX7_alike 74 = .ok (.iload_n 3, 1) := by decide +kernel
theorem dX7_alike_75 : decode cX7_alike 75 = .ok (.iadd, 1) := by decide +kernel
theorem dX7_alike_76 : decode cX7_alike 76 = .ok (.invokevirtual 157, 3) := by decide +kernel
theorem dX7_alike_79 : decode cX7_alike 79 = .ok (.i2l, 1) := by decide +kernel
theorem dX7_alike_80 : decode cX7_alike 80 = .ok (.goto 4, 3) := by decide +kernel
theorem dX7_alike_83 : decode cX7_alike 83 = .ok (.lconst 0, 1) := by decide +kernel
theorem dX7_alike_84 : decode cX7_alike 84 = .ok (.invokevirtual 295, 3) := by decide +kernel
theorem dX7_alike_87 : decode cX7_alike 87 = .ok (.iload_n 3, 1) := by decide +kernel
theorem dX7_alike_88 : decode cX7_alike 88 = .ok (.ireturn, 1) := by decide +kernel
theorem dX7_sumOf_0 : decode cX7_sumOf 0 = .ok (.bipush 7, 2) := by decide +kernel
theorem dX7_sumOf_2 : decode cX7_sumOf 2 = .ok (.istore_n 3, 1) := by decide +kernel
theorem dX7_sumOf_3 : decode cX7_sumOf 3 = .ok (.iload_n 1, 1) := by decide +kernel
theorem dX7_sumOf_4 : decode cX7_sumOf 4 = .ok (.istore 4, 2) := by decide +kernel
theorem dX7_sumOf_6 : decode cX7_sumOf 6 = .ok (.iload 4, 2) := by decide +kernel
theorem dX7_sumOf_8 : decode cX7_sumOf 8 = .ok (.iload_n 1, 1) := by decide +kernel
theorem dX7_sumOf_9 : decode cX7_sumOf 9 = .ok (.iload_n 2, 1) := by decide +kernel
theorem dX7_sumOf_10 : decode cX7_sumOf 10 = .ok (.iadd, 1) := by decide +kernel
theorem dX7_sumOf_11 : decode cX7_sumOf 11 = .ok (.if_icmp .ge 21, 3) := by decide +kernel
theorem dX7_sumOf_14 : decode cX7_sumOf 14 = .ok (.bipush 31, 2) := by decide +kernel
theorem dX7_sumOf_16 : decode cX7_sumOf 16 = .ok (.iload_n 3, 1) := by decide +kernel
theorem dX7_sumOf_17 : decode cX7_sumOf 17 = .ok (.imul, 1) := by decide +kernel
theorem dX7_sumOf_18 : decode cX7_sumOf 18 = .ok (.aload_n 0, 1) := by decide +kernel
theorem dX7_sumOf_19 : decode cX7_sumOf 19 = .ok (.iload 4, 2) := by decide +kernel
theorem dX7_sumOf_21 : decode cX7_sumOf 21 = .ok (.invokevirtual 157, 3) := by decide +kernel
theorem dX7_sumOf_24 : decode cX7_sumOf 24 = .ok (.iadd, 1) := by decide +kernel
theorem dX7_sumOf_25 : decode cX7_sumOf 25 = .ok (.istore_n 3, 1) := by decide +kernel
theorem dX7_sumOf_26 : decode cX7_sumOf 26 = .ok (.iinc 4 1, 3) := by decide +kernel
theorem dX7_sumOf_29 : decode cX7_sumOf 29 = .ok (.goto (-23), 3) := by decide +kernel
theorem dX7_sumOf_32 : decode cX7_sumOf 32 = .ok (.iload_n 3, 1) := by decide +kernel
theorem dX7_sumOf_33 : decode cX7_sumOf 33 = .ok (.ireturn, 1) := by decide +kernel
theorem dX7_sum_0 : decode cX7_sum 0 = .ok (.aload_n 0, 1) := by decide +kernel
theorem dX7_sum_1 : decode cX7_sum 1 = .ok (.iconst 0, 1) := by decide +kernel
theorem dX7_sum_2 : decode cX7_sum 2 = .ok (.putfield 1, 3) := by decide +kernel
theorem dX7_sum_5 : decode cX7_sum 5 = .ok (.iload_n 1, 1) := by decide +kernel
theorem dX7_sum_6 : decode cX7_sum 6 = .ok (.ifCond .lt 7, 3) := by decide +kernel
theorem dX7_sum_9 : decode cX7_sum 9 = .ok (.iload_n 2, 1) := by decide +kernel
theorem dX7_sum_10 : decode cX7_sum 10 = .ok (.ifCond .ge 5, 3) := by decide +kernel
theorem dX7_sum_13 : decode cX7_sum 13 = .ok (.iconst (-1), 1) := by decide +kernel
theorem dX7_sum_14 : decode cX7_sum 14 = .ok (.ireturn, 1) := by decide +kernel
theorem dX7_sum_15 : decode cX7_sum 15 = .ok (.iload_n 1, 1) := by decide +kernel
theorem dX7_sum_16 : decode cX7_sum 16 = .ok (.i2l, 1) := by decide +kernel
theorem dX7_sum_17 : decode cX7_sum 17 = .ok (.iload_n 2, 1) := by decide +kernel
theorem dX7_sum_18 : decode cX7_sum 18 = .ok (.i2l, 1) := by decide +kernel
theorem dX7_sum_19 : decode cX7_sum 19 = .ok (.ladd, 1) := by decide +kernel
theorem dX7_sum_20 : decode cX7_sum 20 = .ok (.aload_n 0, 1) := by decide +kernel
theorem dX7_sum_21 : decode cX7_sum 21 = .ok (.getfield 123, 3) := by decide +kernel
theorem dX7_sum_24 : decode cX7_sum 24 = .ok (.i2l, 1) := by decide +kernel
theorem dX7_sum_25 : decode cX7_sum 25 = .ok (.lcmp, 1) := by decide +kernel
theorem dX7_sum_26 : decode cX7_sum 26 = .ok (.ifCond .le 6, 3) := by decide +kernel
theorem dX7_sum_29 : decode cX7_sum 29 = .ok (.bipush (-2), 2) := by decide +kernel
theorem dX7_sum_31 : decode cX7_sum 31 = .ok (.ireturn, 1) := by decide +kernel
theorem dX7_sum_32 : decode cX7_sum 32 = .ok (.aload_n 0, 1) := by decide +kernel
theorem dX7_sum_33 : decode cX7_sum 33 = .ok (.iconst 0, 1) := by decide +kernel
theorem dX7_sum_34 : decode cX7_sum 34 = .ok (.putfield 11, 3) := by decide +kernel
theorem dX7_sum_37 : decode cX7_sum 37 = .ok (.aload_n 0, 1) := by decide +kernel
theorem dX7_sum_38 : decode cX7_sum 38 = .ok (.aload_n 0, 1) := by decide +kernel
theorem dX7_sum_39 : decode cX7_sum 39 = .ok (.iload_n 1, 1) := by decide +kernel
theorem dX7_sum_40 : decode cX7_sum 40 = .ok (.iload_n 2, 1) := by decide +kernel
theorem dX7_sum_41 : decode cX7_sum 41 = .ok (.invokevirtual 367, 3) := by decide +kernel
theorem dX7_sum_44 : decode cX7_sum 44 = .ok (.i2l, 1) := by decide +kernel
theorem dX7_sum_45 : decode cX7_sum 45 = .ok (.invokevirtual 295, 3) := by decide +kernel
theorem dX7_sum_48 : decode cX7_sum 48 = .ok (.iconst 0, 1) := by decide +kernel
theorem dX7_sum_49 : decode cX7_sum 49 = .ok (.ireturn, 1) := by decide +kernel
theorem dX7_signOf_0 : decode cX7_signOf 0 = .ok (.aload_n 0, 1) := by decide +kernel
theorem dX7_signOf_1 : decode cX7_signOf 1 = .ok (.iload_n 1, 1) := by decide +kernel
theorem dX7_signOf_2 : decode cX7_signOf 2 = .ok (.iconst 2, 1) := by decide +kernel
theorem dX7_signOf_3 : decode cX7_signOf 3 = .ok (.idiv, 1) := by decide +kernel
theorem dX7_signOf_4 : decode cX7_signOf 4 = .ok (.sipush 8192, 3) := by decide +kernel
theorem dX7_signOf_7 : decode cX7_signOf 7 = .ok (.idiv, 1) := by decide +kernel
theorem dX7_signOf_8 : decode cX7_signOf 8 = .ok (.iload_n 1, 1) := by decide +kernel
theorem dX7_signOf_9 : decode cX7_signOf 9 = .ok (.iconst 2, 1) := by decide +kernel
theorem dX7_signOf_10 : decode cX7_signOf 10 = .ok (.idiv, 1) := by decide +kernel
theorem dX7_signOf_11 : decode cX7_signOf 11 = .ok (.sipush 8192, 3) := by decide +kernel
theorem dX7_signOf_14 : decode cX7_signOf 14 = .ok (.irem, 1) := by decide +kernel
theorem dX7_signOf_15 : decode cX7_signOf 15 = .ok (.invokevirtual 115, 3) := by decide +kernel
theorem dX7_signOf_18 : decode cX7_signOf 18 = .ok (.ireturn, 1) := by decide +kernel
theorem dX7_differs_0 : decode cX7_differs 0 = .ok (.aload_n 0, 1) := by decide +kernel
theorem dX7_differs_1 : decode cX7_differs 1 = .ok (.iconst 0, 1) := by decide +kernel
theorem dX7_differs_2 : decode cX7_differs 2 = .ok (.putfield 1, 3) := by decide +kernel
theorem dX7_differs_5 : decode cX7_differs 5 = .ok (.iload_n 1, 1) := by decide +kernel
theorem dX7_differs_6 : decode cX7_differs 6 = .ok (.i2l, 1) := by decide +kernel
theorem dX7_differs_7 : decode cX7_differs 7 = .ok (.lconst 0, 1) := by decide +kernel
theorem dX7_differs_8 : decode cX7_differs 8 = .ok (.aload_n 0, 1) := by decide +kernel
theorem dX7_differs_9 : decode cX7_differs 9 = .ok (.getfield 166, 3) := by decide +kernel
theorem dX7_differs_12 : decode cX7_differs 12 = .ok (.i2l, 1) := by decide +kernel
theorem dX7_differs_13 : decode cX7_differs 13 = .ok (.invokestatic 21, 3) := by decide +kernel
theorem dX7_differs_16 : decode cX7_differs 16 = .ok (.ifCond .ne 5, 3) := by decide +kernel
theorem dX7_differs_19 : decode cX7_differs 19 = .ok (.iconst (-1), 1) := by decide +kernel
theorem dX7_differs_20 : decode cX7_differs 20 = .ok (.ireturn, 1) := by decide +kernel
theorem dX7_differs_21 : decode cX7_differs 21 = .ok (.iload_n 1, 1) := by decide +kernel
theorem dX7_differs_22 : decode cX7_differs 22 = .ok (.ifCond .ne 10, 3) := by decide +kernel
theorem dX7_differs_25 : decode cX7_differs 25 = .ok (.aload_n 0, 1) := by decide +kernel
theorem dX7_differs_26 : decode cX7_differs 26 = .ok (.getfield 48, 3) := by decide +kernel
theorem dX7_differs_29 : decode cX7_differs 29 = .ok (.goto 14, 3) := by decide +kernel
theorem dX7_differs_32 : decode cX7_differs 32 = .ok (.aload_n 0, 1) := by decide +kernel
theorem dX7_differs_33 : decode cX7_differs 33 = .ok (.getfield 61, 3) := by decide +kernel
theorem dX7_differs_36 : decode cX7_differs 36 = .ok (.aload_n 0, 1) := by decide +kernel
theorem dX7_differs_37 : decode cX7_differs 37 = .ok (.getfield 166, 3) := by decide +kernel
theorem dX7_differs_40 : decode cX7_differs 40 = .ok (.iload_n 1, 1) := by decide +kernel
theorem dX7_differs_41 : decode cX7_differs 41 = .ok (.isub, 1) := by decide +kernel
theorem dX7_differs_42 : decode cX7_differs 42 = .ok (.aaload, 1) := by decide +kernel
theorem dX7_differs_43 : decode cX7_differs 43 = .ok (.astore_n 2, 1) := by decide +kernel
theorem dX7_differs_44 : decode cX7_differs 44 = .ok (.iload_n 1, 1) := by decide +kernel
theorem dX7_differs_45 : decode cX7_differs 45 = .ok (.ifCond .ne 10, 3) := by decide +kernel
theorem dX7_differs_48 : decode cX7_differs 48 = .ok (.aload_n 0, 1) := by decide +kernel
theorem dX7_differs_49 : decode cX7_differs 49 = .ok (.getfield 123, 3) := by decide +kernel
theorem dX7_differs_52 : decode cX7_differs 52 = .ok (.goto 5, 3) := by decide +kernel
theorem dX7_differs_55 : decode cX7_differs 55 = .ok (.aload_n 2, 1) := by decide +kernel
theorem dX7_differs_56 : decode cX7_differs 56 = .ok (.arraylength, 1) := by decide +kernel
theorem dX7_differs_57 : decode cX7_differs 57 = .ok (.istore_n 3, 1) := by decide +kernel
theorem dX7_differs_58 : decode cX7_differs 58 = .ok (.aload_n 0, 1) := by decide +kernel
theorem dX7_differs_59 : decode cX7_differs 59 = .ok (.getfield 123, 3) := by decide +kernel
theorem dX7_differs_62 : decode cX7_differs 62 = .ok (.iload_n 3, 1) := by decide +kernel
theorem dX7_differs_63 : decode cX7_differs 63 = .ok (.invokestatic 134, 3) := by decide +kernel
theorem dX7_differs_66 : decode cX7_differs 66 = .ok (.istore 4, 2) := by decide +kernel
theorem dX7_differs_68 : decode cX7_differs 68 = .ok (.iconst 0, 1) := by decide +kernel
theorem dX7_differs_69 : decode cX7_differs 69 = .ok (.istore 5, 2) := by decide +kernel
theorem dX7_differs_71 : decode cX7_differs 71 = .ok (.iload 5, 2) := by decide +kernel
theorem dX7_differs_73 : decode cX7_differs 73 = .ok (.iload 4, 2) := by decide +kernel
theorem dX7_differs_75 : decode cX7_differs 75 = .ok (.if_icmp .ge 26, 3) := by decide +kernel
theorem dX7_differs_78 : decode cX7_differs 78 = .ok (.aload_n 0, 1) := by decide +kernel
theorem dX7_differs_79 : decode cX7_differs 79 = .ok (.iload 5, 2) := by decide +kernel
theorem dX7_differs_81 : decode cX7_differs 81 = .ok (.invokevirtual 157, 3) := by decide +kernel
theorem dX7_differs_84 : decode cX7_differs 84 = .ok (.aload_n 0, 1) := by decide +kernel
theorem dX7_differs_85 : decode cX7_differs 85 = .ok (.aload_n 2, 1) := by decide +kernel
theorem dX7_differs_86 : decode cX7_differs 86 = .ok (.iload 5, 2) := by decide +kernel
theorem dX7_differs_88 : decode cX7_differs 88 = .ok (.iaload, 1) := by decide +kernel
theorem dX7_differs_89 : decode cX7_differs 89 = .ok (.invokevirtual 370, 3) := by decide +kernel
theorem dX7_differs_92 : decode cX7_differs 92 = .ok (.if_icmp .ne 9, 3) := by decide +kernel
theorem dX7_differs_95 : decode cX7_differs 95 = .ok (.iinc 5 1, 3) := by decide +kernel
theorem dX7_differs_98 : decode cX7_differs 98 = .ok (.goto (-27), 3) := by decide +kernel
theorem dX7_differs_101 : decode cX7_differs 101 = .ok (.iconst 0, 1) := by decide +kernel
theorem dX7_differs_102 : decode cX7_differs 102 = .ok (.istore 6, 2) := by decide +kernel
theorem dX7_differs_104 : decode cX7_differs 104 = .ok (.iload 5, 2) := by decide +kernel
theorem dX7_differs_106 : decode cX7_differs 106 = .ok (.iload 6, 2) := by decide +kernel
theorem dX7_differs_108 : decode cX7_differs 108 = .ok (.iadd, 1) := by decide +kernel
theorem dX7_differs_109 : decode cX7_differs 109 = .ok (.iload 4, 2) := by decide +kernel
theorem dX7_differs_111 : decode cX7_differs 111 = .ok (.if_icmp .ge 37, 3) := by decide +kernel
theorem dX7_differs_114 : decode cX7_differs 114 = .ok (.aload_n 0, 1) := by decide +kernel
theorem dX7_differs_115 : decode cX7_differs 115 = .ok (.aload_n 0, 1) := by decide +kernel
theorem dX7_differs_116 : decode cX7_differs 116 = .ok (.getfield 123, 3) := by decide +kernel
theorem dX7_differs_119 : decode cX7_differs 119 = .ok (.iconst 1, 1) := by decide +kernel
theorem dX7_differs_120 : decode cX7_differs 120 = .ok (.isub, 1) := by decide +kernel
theorem dX7_differs_121 : decode cX7_differs 121 = .ok (.iload 6, 2) := by decide +kernel
theorem dX7_differs_123 : decode cX7_differs 123 = .ok (.isub, 1) := by decide +kernel
theorem dX7_differs_124 : decode cX7_differs 124 = .ok (.invokevirtual 157, 3) := by decide +kernel
theorem dX7_differs_127 : decode cX7_differs 127 = .ok (.aload_n 0, 1) := by decide +kernel
theorem dX7_differs_128 : decode cX7_differs 128 = .ok (.aload_n 2, 1) := by decide +kernel
theorem dX7_differs_129 : decode cX7_differs 129 = .ok (.iload_n 3, 1) := by decide +kernel
theorem dX7_differs_130 : decode cX7_differs 130 = .ok (.iconst 1, 1) := by decide +kernel
theorem dX7_differs_131 : decode cX7_differs 131 = .ok (.isub, 1) := by decide +kernel
theorem dX7_differs_132 : decode cX7_differs 132 = .ok (.iload 6, 2) := by decide +kernel
theorem dX7_differs_134 : decode cX7_differs 134 = .ok (.isub, 1) := by decide +kernel
theorem dX7_differs_135 : decode cX7_differs 135 = .ok (.iaload, 1) := by decide +kernel
theorem dX7_differs_136 : decode cX7_differs 136 = .ok (.invokevirtual 370, 3) := by decide +kernel
theorem dX7_differs_139 : decode cX7_differs 139 = .ok (.if_icmp .ne 9, 3) := by decide +kernel
theorem dX7_differs_142 : decode cX7_differs 142 = .ok (.iinc 6 1, 3) := by decide +kernel
theorem dX7_differs_145 : decode cX7_differs 145 = .ok (.goto (-41), 3) := by decide +kernel
theorem dX7_differs_148 : decode cX7_differs 148 = .ok (.aload_n 0, 1) := by decide +kernel
theorem dX7_differs_149 : decode cX7_differs 149 = .ok (.iconst 0, 1) := by decide +kernel
theorem dX7_differs_150 : decode cX7_differs 150 = .ok (.putfield 11, 3) := by decide +kernel
theorem dX7_differs_153 : decode cX7_differs 153 = .ok (.aload_n 0, 1) := by decide +kernel
theorem dX7_differs_154 : decode cX7_differs 154 = .ok (.aload_n 0, 1) := by decide +kernel
theorem dX7_differs_155 : decode cX7_differs 155 = .ok (.getfield 123, 3) := by decide +kernel
theorem dX7_differs_158 : decode cX7_differs 158 = .ok (.iload 5, 2) := by decide +kernel
theorem dX7_differs_160 : decode cX7_differs 160 = .ok (.isub, 1) := by decide +kernel
theorem dX7_differs_161 : decode cX7_differs 161 = .ok (.iload 6, 2) := by decide +kernel
theorem dX7_differs_163 : decode cX7_differs 163 = .ok (.isub, 1) := by decide +kernel
theorem dX7_differs_164 : decode cX7_differs 164 = .ok (.i2l, 1) := by decide +kernel
theorem dX7_differs_165 : decode cX7_differs 165 = .ok (.invokevirtual 295, 3) := by decide +kernel
theorem dX7_differs_168 : decode cX7_differs 168 = .ok (.aload_n 0, 1) := by decide +kernel
theorem dX7_differs_169 : decode cX7_differs 169 = .ok (.iload_n 3, 1) := by decide +kernel
theorem dX7_differs_170 : decode cX7_differs 170 = .ok (.iload 5, 2) := by decide +kernel
theorem dX7_differs_172 : decode cX7_differs 172 = .ok (.isub, 1) := by decide +kernel
theorem dX7_differs_173 : decode cX7_differs 173 = .ok (.iload 6, 2) := by decide +kernel
theorem dX7_differs_175 : decode cX7_differs 175 = .ok (.isub, 1) := by decide +kernel
theorem dX7_differs_176 : decode cX7_differs 176 = .ok (.i2l, 1) := by decide +kernel
theorem dX7_differs_177 : decode cX7_differs 177 = .ok (.invokevirtual 295, 3) := by decide +kernel
theorem dX7_differs_180 : decode cX7_differs 180 = .ok (.iload 5, 2) := by decide +kernel
theorem dX7_differs_182 : decode cX7_differs 182 = .ok (.ireturn, 1) := by decide +kernel
theorem dX7_draws_0 : decode cX7_draws 0 = .ok (.aload_n 0, 1) := by decide +kernel
theorem dX7_draws_1 : decode cX7_draws 1 = .ok (.aload_n 0, 1) := by decide +kernel
theorem dX7_draws_2 : decode cX7_draws 2 = .ok (.getfield 373, 3) := by decide +kernel
theorem dX7_draws_5 : decode cX7_draws 5 = .ok (.ldc_w 376, 3) := by decide +kernel
theorem dX7_draws_8 : decode cX7_draws 8 = .ok (.imul, 1) := by decide +kernel
theorem dX7_draws_9 : decode cX7_draws 9 = .ok (.sipush 12345, 3) := by decide +kernel
theorem dX7_draws_12 : decode cX7_draws 12 = .ok (.iadd, 1) := by decide +kernel
theorem dX7_draws_13 : decode cX7_draws 13 = .ok (.putfield 373, 3) := by decide +kernel
theorem dX7_draws_16 : decode cX7_draws 16 = .ok (.aload_n 0, 1) := by decide +kernel
theorem dX7_draws_17 : decode cX7_draws 17 = .ok (.getfield 373, 3) := by decide +kernel
theorem dX7_draws_20 : decode cX7_draws 20 = .ok (.bipush 16, 2) := by decide +kernel
theorem dX7_draws_22 : decode cX7_draws 22 = .ok (.iushr, 1) := by decide +kernel
theorem dX7_draws_23 : decode cX7_draws 23 = .ok (.iload_n 1, 1) := by decide +kernel
theorem dX7_draws_24 : decode cX7_draws 24 = .ok (.irem, 1) := by decide +kernel
theorem dX7_draws_25 : decode cX7_draws 25 = .ok (.ireturn, 1) := by decide +kernel
theorem dX7_drawnEdit_0 : decode cX7_drawnEdit 0 = .ok (.aload_n 0, 1) := by decide +kernel
theorem dX7_drawnEdit_1 : decode cX7_drawnEdit 1 = .ok (.iconst 4, 1) := by decide +kernel
theorem dX7_drawnEdit_2 : decode cX7_drawnEdit 2 = .ok (.invokevirtual 377, 3) := by decide +kernel
theorem dX7_drawnEdit_5 : decode cX7_drawnEdit 5 = .ok (.istore_n 1, 1) := by decide +kernel
theorem dX7_drawnEdit_6 : decode cX7_drawnEdit 6 = .ok (.iload_n 1, 1) := by decide +kernel
theorem dX7_drawnEdit_7 : decode cX7_drawnEdit 7 = .ok (.iconst 2, 1) := by decide +kernel
theorem dX7_drawnEdit_8 : decode cX7_drawnEdit 8 = .ok (.if_icmp .ge 32, 3) := by decide +kernel
theorem dX7_drawnEdit_11 : decode cX7_drawnEdit 11 = .ok (.bipush 97, 2) := by decide +kernel
theorem dX7_drawnEdit_13 : decode cX7_drawnEdit 13 = .ok (.aload_n 0, 1) := by decide +kernel
theorem dX7_drawnEdit_14 : decode cX7_drawnEdit 14 = .ok (.bipush 26, 2) := by decide +kernel
theorem dX7_drawnEdit_16 : decode cX7_drawnEdit 16 = .ok (.invokevirtual 377, 3) := by decide +kernel
theorem dX7_drawnEdit_19 : decode cX7_drawnEdit 19 = .ok (.iadd, 1) := by decide +kernel
theorem dX7_drawnEdit_20 : decode cX7_drawnEdit 20 = .ok (.istore_n 2, 1) := by decide +kernel
theorem dX7_drawnEdit_21 : decode cX7_drawnEdit 21 = .ok (.aload_n 0, 1) := by decide +kernel
theorem dX7_drawnEdit_22 : decode cX7_drawnEdit 22 = .ok (.aload_n 0, 1) := by decide +kernel
theorem dX7_drawnEdit_23 : decode cX7_drawnEdit 23 = .ok (.aload_n 0, 1) := by decide +kernel
theorem dX7_drawnEdit_24 : decode cX7_drawnEdit 24 = .ok (.getfield 123, 3) := by decide +kernel
theorem dX7_drawnEdit_27 : decode cX7_drawnEdit 27 = .ok (.iconst 1, 1) := by decide +kernel
theorem dX7_drawnEdit_28 : decode cX7_drawnEdit 28 = .ok (.iadd, 1) := by decide +kernel
theorem dX7_drawnEdit_29 : decode cX7_drawnEdit 29 = .ok (.invokevirtual 377, 3) := by decide +kernel
theorem dX7_drawnEdit_32 : decode cX7_drawnEdit 32 = .ok (.iload_n 2, 1) := by decide +kernel
theorem dX7_drawnEdit_33 : decode cX7_drawnEdit 33 = .ok (.invokevirtual 214, 3) := by decide +kernel
theorem dX7_drawnEdit_36 : decode cX7_drawnEdit 36 = .ok (.pop, 1) := by decide +kernel
theorem dX7_drawnEdit_37 : decode cX7_drawnEdit 37 = .ok (.goto 56, 3) := by decide +kernel
theorem dX7_drawnEdit_40 : decode cX7_drawnEdit 40 = .ok (.aload_n 0, 1) := by decide +kernel
theorem dX7_drawnEdit_41 : decode cX7_drawnEdit 41 = .ok (.getfield 123, 3) := by decide +kernel
theorem dX7_drawnEdit_44 : decode cX7_drawnEdit 44 = .ok (.ifCond .le 49, 3) := by decide +kernel
theorem dX7_drawnEdit_47 : decode cX7_drawnEdit 47 = .ok (.aload_n 0, 1) := by decide +kernel
theorem dX7_drawnEdit_48 : decode cX7_drawnEdit 48 = .ok (.aload_n 0, 1) := by decide +kernel
theorem dX7_drawnEdit_49 : decode cX7_drawnEdit 49 = .ok (.getfield 123, 3) := by decide +kernel
theorem dX7_drawnEdit_52 : decode cX7_drawnEdit 52 = .ok (.invokevirtual 377, 3) := by decide +kernel
theorem dX7_drawnEdit_55 : decode cX7_drawnEdit 55 = .ok (.istore_n 2, 1) := by decide +kernel
theorem dX7_drawnEdit_56 : decode cX7_drawnEdit 56 = .ok (.iload_n 1, 1) := by decide +kernel
theorem dX7_drawnEdit_57 : decode cX7_drawnEdit 57 = .ok (.iconst 2, 1) := by decide +kernel
theorem dX7_drawnEdit_58 : decode cX7_drawnEdit 58 = .ok (.if_icmp .ne 13, 3) := by decide +kernel
theorem dX7_drawnEdit_61 : decode cX7_drawnEdit 61 = .ok (.aload_n 0, 1) := by decide +kernel
theorem dX7_drawnEdit_62 : decode cX7_drawnEdit 62 = .ok (.iload_n 2, 1) := by decide +kernel
theorem dX7_drawnEdit_63 : decode cX7_drawnEdit 63 = .ok (.iconst 1, 1) := by decide +kernel
theorem dX7_drawnEdit_64 : decode cX7_drawnEdit 64 = .ok (.invokevirtual 217, 3) := by decide +kernel
theorem dX7_drawnEdit_67 : decode cX7_drawnEdit 67 = .ok (.pop, 1) := by decide +kernel
theorem dX7_drawnEdit_68 : decode cX7_drawnEdit 68 = .ok (.goto 25, 3) := by decide +kernel
theorem dX7_drawnEdit_71 : decode cX7_drawnEdit 71 = .ok (.aload_n 0, 1) := by decide +kernel
theorem dX7_drawnEdit_72 : decode cX7_drawnEdit 72 = .ok (.getfield 123, 3) := by decide +kernel
theorem dX7_drawnEdit_75 : decode cX7_drawnEdit 75 = .ok (.sipush 3000, 3) := by decide +kernel
theorem dX7_drawnEdit_78 : decode cX7_drawnEdit 78 = .ok (.if_icmp .ge 15, 3) := by decide +kernel
theorem dX7_drawnEdit_81 : decode cX7_drawnEdit 81 = .ok (.aload_n 0, 1) := by decide +kernel
theorem dX7_drawnEdit_82 : decode cX7_drawnEdit 82 = .ok (.iload_n 2, 1) := by decide +kernel
theorem dX7_drawnEdit_83 : decode cX7_drawnEdit 83 = .ok (.iconst 1, 1) := by decide +kernel
theorem dX7_drawnEdit_84 : decode cX7_drawnEdit 84 = .ok (.invokevirtual 223, 3) := by decide +kernel
theorem dX7_drawnEdit_87 : decode cX7_drawnEdit 87 = .ok (.aload_n 0, 1) := by decide +kernel
theorem dX7_drawnEdit_88 : decode cX7_drawnEdit 88 = .ok (.iconst 1, 1) := by decide +kernel
theorem dX7_drawnEdit_89 : decode cX7_drawnEdit 89 = .ok (.iconst 0, 1) := by decide +kernel
theorem dX7_drawnEdit_90 : decode cX7_drawnEdit 90 = .ok (.invokevirtual 226, 3) := by decide +kernel
theorem dX7_drawnEdit_93 : decode cX7_drawnEdit 93 = .ok (.return_, 1) := by decide +kernel
theorem dX7_years_0 : decode cX7_years 0 = .ok (.aload_n 0, 1) := by decide +kernel
theorem dX7_years_1 : decode cX7_years 1 = .ok (.iconst 0, 1) := by decide +kernel
theorem dX7_years_2 : decode cX7_years 2 = .ok (.putfield 1, 3) := by decide +kernel
theorem dX7_years_5 : decode cX7_years 5 = .ok (.iload_n 2, 1) := by decide +kernel
theorem dX7_years_6 : decode cX7_years 6 = .ok (.i2l, 1) := by decide +kernel
theorem dX7_years_7 : decode cX7_years 7 = .ok (.lconst 1, 1) := by decide +kernel
theorem dX7_years_8 : decode cX7_years 8 = .ok (.ldc2_w 380, 3) := by decide +kernel
theorem dX7_years_11 : decode cX7_years 11 = .ok (.invokestatic 21, 3) := by decide +kernel
theorem dX7_years_14 : decode cX7_years 14 = .ok (.ifCond .ne 5, 3) := by decide +kernel
theorem dX7_years_17 : decode cX7_years 17 = .ok (.iconst (-1), 1) := by decide +kernel
theorem dX7_years_18 : decode cX7_years 18 = .ok (.ireturn, 1) := by decide +kernel
theorem dX7_years_19 : decode cX7_years 19 = .ok (.aload_n 0, 1) := by decide +kernel
theorem dX7_years_20 : decode cX7_years 20 = .ok (.invokevirtual 169, 3) := by decide +kernel
theorem dX7_years_23 : decode cX7_years 23 = .ok (.astore_n 3, 1) := by decide +kernel
theorem dX7_years_24 : decode cX7_years 24 = .ok (.aload_n 0, 1) := by decide +kernel
theorem dX7_years_25 : decode cX7_years 25 = .ok (.invokevirtual 173, 3) := by decide +kernel
theorem dX7_years_28 : decode cX7_years 28 = .ok (.astore 4, 2) := by decide +kernel
theorem dX7_years_30 : decode cX7_years 30 = .ok (.aload_n 0, 1) := by decide +kernel
theorem dX7_years_31 : decode cX7_years 31 = .ok (.getfield 33, 3) := by decide +kernel
theorem dX7_years_34 : decode cX7_years 34 = .ok (.istore 5, 2) := by decide +kernel
theorem dX7_years_36 : decode cX7_years 36 = .ok (.aload_n 0, 1) := by decide +kernel
theorem dX7_years_37 : decode cX7_years 37 = .ok (.iload_n 1, 1) := by decide +kernel
theorem dX7_years_38 : decode cX7_years 38 = .ok (.putfield 373, 3) := by decide +kernel
theorem dX7_years_41 : decode cX7_years 41 = .ok (.iconst 0, 1) := by decide +kernel
theorem dX7_years_42 : decode cX7_years 42 = .ok (.istore 6, 2) := by decide +kernel
theorem dX7_years_44 : decode cX7_years 44 = .ok (.iload 6, 2) := by decide +kernel
theorem dX7_years_46 : decode cX7_years 46 = .ok (.iload_n 2, 1) := by decide +kernel
theorem dX7_years_47 : decode cX7_years 47 = .ok (.if_icmp .ge 13, 3) := by decide +kernel
theorem dX7_years_50 : decode cX7_years 50 = .ok (.aload_n 0, 1) := by decide +kernel
theorem dX7_years_51 : decode cX7_years 51 = .ok (.invokevirtual 382, 3) := by decide +kernel
theorem dX7_years_54 : decode cX7_years 54 = .ok (.iinc 6 1, 3) := by decide +kernel
theorem dX7_years_57 : decode cX7_years 57 = .ok (.goto (-13), 3) := by decide +kernel
theorem dX7_years_60 : decode cX7_years 60 = .ok (.aload_n 0, 1) := by decide +kernel
theorem dX7_years_61 : decode cX7_years 61 = .ok (.getfield 123, 3) := by decide +kernel
theorem dX7_years_64 : decode cX7_years 64 = .ok (.istore 6, 2) := by decide +kernel
theorem dX7_years_66 : decode cX7_years 66 = .ok (.aload_n 0, 1) := by decide +kernel
theorem dX7_years_67 : decode cX7_years 67 = .ok (.iconst 0, 1) := by decide +kernel
theorem dX7_years_68 : decode cX7_years 68 = .ok (.putfield 11, 3) := by decide +kernel
theorem dX7_years_71 : decode cX7_years 71 = .ok (.aload_n 0, 1) := by decide +kernel
theorem dX7_years_72 : decode cX7_years 72 = .ok (.aload_n 0, 1) := by decide +kernel
theorem dX7_years_73 : decode cX7_years 73 = .ok (.iconst 0, 1) := by decide +kernel
theorem dX7_years_74 : decode cX7_years 74 = .ok (.aload_n 0, 1) := by decide +kernel
theorem dX7_years_75 : decode cX7_years 75 = .ok (.getfield 123, 3) := by decide +kernel
theorem dX7_years_78 : decode cX7_years 78 = .ok (.invokevirtual 367, 3) := by decide +kernel
theorem dX7_years_81 : decode cX7_years 81 = .ok (.i2l, 1) := by decide +kernel
theorem dX7_years_82 : decode cX7_years 82 = .ok (.invokevirtual 295, 3) := by decide +kernel
theorem dX7_years_85 : decode cX7_years 85 = .ok (.aload_n 0, 1) := by decide +kernel
theorem dX7_years_86 : decode cX7_years 86 = .ok (.aload_n 0, 1) := by decide +kernel
theorem dX7_years_87 : decode cX7_years 87 = .ok (.invokevirtual 315, 3) := by decide +kernel
theorem dX7_years_90 : decode cX7_years 90 = .ok (.i2l, 1) := by decide +kernel
theorem dX7_years_91 : decode cX7_years 91 = .ok (.invokevirtual 295, 3) := by decide +kernel
theorem dX7_years_94 : decode cX7_years 94 = .ok (.aload_n 0, 1) := by decide +kernel
theorem dX7_years_95 : decode cX7_years 95 = .ok (.aload_n 0, 1) := by decide +kernel
theorem dX7_years_96 : decode cX7_years 96 = .ok (.getfield 33, 3) := by decide +kernel
theorem dX7_years_99 : decode cX7_years 99 = .ok (.i2l, 1) := by decide +kernel
theorem dX7_years_100 : decode cX7_years 100 = .ok (.invokevirtual 295, 3) := by decide +kernel
theorem dX7_years_103 : decode cX7_years 103 = .ok (.aload_n 0, 1) := by decide +kernel
theorem dX7_years_104 : decode cX7_years 104 = .ok (.aload_n 3, 1) := by decide +kernel
theorem dX7_years_105 : decode cX7_years 105 = .ok (.aload 4, 2) := by decide +kernel
theorem dX7_years_107 : decode cX7_years 107 = .ok (.invokevirtual 258, 3) := by decide +kernel
theorem dX7_years_110 : decode cX7_years 110 = .ok (.aload_n 0, 1) := by decide +kernel
theorem dX7_years_111 : decode cX7_years 111 = .ok (.iload 5, 2) := by decide +kernel
theorem dX7_years_113 : decode cX7_years 113 = .ok (.putfield 33, 3) := by decide +kernel
theorem dX7_years_116 : decode cX7_years 116 = .ok (.iload 6, 2) := by decide +kernel
theorem dX7_years_118 : decode cX7_years 118 = .ok (.ireturn, 1) := by decide +kernel
theorem dX7_keep_0 : decode cX7_keep 0 = .ok (.aload_n 0, 1) := by decide +kernel
theorem dX7_keep_1 : decode cX7_keep 1 = .ok (.iconst 0, 1) := by decide +kernel
theorem dX7_keep_2 : decode cX7_keep 2 = .ok (.putfield 1, 3) := by decide +kernel
theorem dX7_keep_5 : decode cX7_keep 5 = .ok (.iload_n 1, 1) := by decide +kernel
theorem dX7_keep_6 : decode cX7_keep 6 = .ok (.i2l, 1) := by decide +kernel
theorem dX7_keep_7 : decode cX7_keep 7 = .ok (.lconst 0, 1) := by decide +kernel
theorem dX7_keep_8 : decode cX7_keep 8 = .ok (.ldc2_w 194, 3) := by decide +kernel
theorem dX7_keep_11 : decode cX7_keep 11 = .ok (.invokestatic 21, 3) := by decide +kernel
theorem dX7_keep_14 : decode cX7_keep 14 = .ok (.ifCond .ne 5, 3) := by decide +kernel
theorem dX7_keep_17 : decode cX7_keep 17 = .ok (.iconst 0, 1) := by decide +kernel
theorem dX7_keep_18 : decode cX7_keep 18 = .ok (.ireturn, 1) := by decide +kernel
theorem dX7_keep_19 : decode cX7_keep 19 = .ok (.aload_n 0, 1) := by decide +kernel
theorem dX7_keep_20 : decode cX7_keep 20 = .ok (.getfield 77, 3) := by decide +kernel
theorem dX7_keep_23 : decode cX7_keep 23 = .ok (.iload_n 1, 1) := by decide +kernel
theorem dX7_keep_24 : decode cX7_keep 24 = .ok (.aload_n 0, 1) := by decide +kernel
theorem dX7_keep_25 : decode cX7_keep 25 = .ok (.invokevirtual 169, 3) := by decide +kernel
theorem dX7_keep_28 : decode cX7_keep 28 = .ok (.aastore, 1) := by decide +kernel
theorem dX7_keep_29 : decode cX7_keep 29 = .ok (.aload_n 0, 1) := by decide +kernel
theorem dX7_keep_30 : decode cX7_keep 30 = .ok (.getfield 80, 3) := by decide +kernel
theorem dX7_keep_33 : decode cX7_keep 33 = .ok (.iload_n 1, 1) := by decide +kernel
theorem dX7_keep_34 : decode cX7_keep 34 = .ok (.aload_n 0, 1) := by decide +kernel
theorem dX7_keep_35 : decode cX7_keep 35 = .ok (.invokevirtual 173, 3) := by decide +kernel
theorem dX7_keep_38 : decode cX7_keep 38 = .ok (.aastore, 1) := by decide +kernel
theorem dX7_keep_39 : decode cX7_keep 39 = .ok (.iconst 1, 1) := by decide +kernel
theorem dX7_keep_40 : decode cX7_keep 40 = .ok (.ireturn, 1) := by decide +kernel
theorem dX7_again_0 : decode cX7_again 0 = .ok (.aload_n 0, 1) := by decide +kernel
theorem dX7_again_1 : decode cX7_again 1 = .ok (.iconst 0, 1) := by decide +kernel
theorem dX7_again_2 : decode cX7_again 2 = .ok (.putfield 1, 3) := by decide +kernel
theorem dX7_again_5 : decode cX7_again 5 = .ok (.iload_n 1, 1) := by decide +kernel
theorem dX7_again_6 : decode cX7_again 6 = .ok (.i2l, 1) := by decide +kernel
theorem dX7_again_7 : decode cX7_again 7 = .ok (.lconst 0, 1) := by decide +kernel
theorem dX7_again_8 : decode cX7_again 8 = .ok (.ldc2_w 194, 3) := by decide +kernel
theorem dX7_again_11 : decode cX7_again 11 = .ok (.invokestatic 21, 3) := by decide +kernel
theorem dX7_again_14 : decode cX7_again 14 = .ok (.ifCond .eq 12, 3) := by decide +kernel
theorem dX7_again_17 : decode cX7_again 17 = .ok (.aload_n 0, 1) := by decide +kernel
theorem dX7_again_18 : decode cX7_again 18 = .ok (.getfield 77, 3) := by decide +kernel
theorem dX7_again_21 : decode cX7_again 21 = .ok (.iload_n 1, 1) := by decide +kernel
theorem dX7_again_22 : decode cX7_again 22 = .ok (.aaload, 1) := by decide +kernel
theorem dX7_again_23 : decode cX7_again 23 = .ok (.ifnonnull 5, 3) := by decide +kernel
theorem dX7_again_26 : decode cX7_again 26 = .ok (.iconst 0, 1) := by decide +kernel
theorem dX7_again_27 : decode cX7_again 27 = .ok (.ireturn, 1) := by decide +kernel
theorem dX7_again_28 : decode cX7_again 28 = .ok (.aload_n 0, 1) := by decide +kernel
theorem dX7_again_29 : decode cX7_again 29 = .ok (.aload_n 0, 1) := by decide +kernel
theorem dX7_again_30 : decode cX7_again 30 = .ok (.getfield 77, 3) := by decide +kernel
theorem dX7_again_33 : decode cX7_again 33 = .ok (.iload_n 1, 1) := by decide +kernel
theorem dX7_again_34 : decode cX7_again 34 = .ok (.aaload, 1) := by decide +kernel
theorem dX7_again_35 : decode cX7_again 35 = .ok (.aload_n 0, 1) := by decide +kernel
theorem dX7_again_36 : decode cX7_again 36 = .ok (.getfield 80, 3) := by decide +kernel
theorem dX7_again_39 : decode cX7_again 39 = .ok (.iload_n 1, 1) := by decide +kernel
theorem dX7_again_40 : decode cX7_again 40 = .ok (.aaload, 1) := by decide +kernel
theorem dX7_again_41 : decode cX7_again 41 = .ok (.invokevirtual 258, 3) := by decide +kernel
theorem dX7_again_44 : decode cX7_again 44 = .ok (.aload_n 0, 1) := by decide +kernel
theorem dX7_again_45 : decode cX7_again 45 = .ok (.invokevirtual 191, 3) := by decide +kernel
theorem dX7_again_48 : decode cX7_again 48 = .ok (.iconst 1, 1) := by decide +kernel
theorem dX7_again_49 : decode cX7_again 49 = .ok (.ireturn, 1) := by decide +kernel
theorem dX7_count_0 : decode cX7_count 0 = .ok (.aload_n 0, 1) := by decide +kernel
theorem dX7_count_1 : decode cX7_count 1 = .ok (.iconst 0, 1) := by decide +kernel
theorem dX7_count_2 : decode cX7_count 2 = .ok (.putfield 1, 3) := by decide +kernel
theorem dX7_count_5 : decode cX7_count 5 = .ok (.iconst 0, 1) := by decide +kernel
theorem dX7_count_6 : decode cX7_count 6 = .ok (.istore_n 2, 1) := by decide +kernel
theorem dX7_count_7 : decode cX7_count 7 = .ok (.iconst 0, 1) := by decide +kernel
theorem dX7_count_8 : decode cX7_count 8 = .ok (.istore_n 3, 1) := by decide +kernel
theorem dX7_count_9 : decode cX7_count 9 = .ok (.iload_n 3, 1) := by decide +kernel
theorem dX7_count_10 : decode cX7_count 10 = .ok (.bipush 8, 2) := by decide +kernel
theorem dX7_count_12 : decode cX7_count 12 = .ok (.if_icmp .ge 29, 3) := by decide +kernel
theorem dX7_count_15 : decode cX7_count 15 = .ok (.iload_n 2, 1) := by decide +kernel
theorem dX7_count_16 : decode cX7_count 16 = .ok (.aload_n 0, 1) := by decide +kernel
theorem dX7_count_17 : decode cX7_count 17 = .ok (.getfield 51, 3) := by decide +kernel
theorem dX7_count_20 : decode cX7_count 20 = .ok (.iload_n 3, 1) := by decide +kernel
theorem dX7_count_21 : decode cX7_count 21 = .ok (.iaload, 1) := by decide +kernel
theorem dX7_count_22 : decode cX7_count 22 = .ok (.iconst (-1), 1) := by decide +kernel
theorem dX7_count_23 : decode cX7_count 23 = .ok (.if_icmp .eq 9, 3) := by decide +kernel
theorem dX7_count_26 : decode cX7_count 26 = .ok (.iconst 1, 1) := by decide +kernel
theorem dX7_count_27 : decode cX7_count 27 = .ok (.iload_n 3, 1) := by decide +kernel
theorem dX7_count_28 : decode cX7_count 28 = .ok (.ishl, 1) := by decide +kernel
theorem dX7_count_29 : decode cX7_count 29 = .ok (.goto 4, 3) := by decide +kernel
theorem dX7_count_32 : decode cX7_count 32 = .ok (.iconst 0, 1) := by decide +kernel
theorem dX7_count_33 : decode cX7_count 33 = .ok (.ior, 1) := by decide +kernel
theorem dX7_count_34 : decode cX7_count 34 = .ok (.istore_n 2, 1) := by decide +kernel
theorem dX7_count_35 : decode cX7_count 35 = .ok (.iinc 3 1, 3) := by decide +kernel
theorem dX7_count_38 : decode cX7_count 38 = .ok (.goto (-29), 3) := by decide +kernel
theorem dX7_count_41 : decode cX7_count 41 = .ok (.iload_n 1, 1) := by decide +kernel
theorem dX7_count_42 : decode cX7_count 42 = .ok (.tableswitch 92 0 8 #[50, 55, 60, 65, 70, 75, 80, 82, 87], 50) := by decide +kernel
theorem dX7_count_92 : decode cX7_count 92 = .ok (.aload_n 0, 1) := by decide +kernel
theorem dX7_count_93 : decode cX7_count 93 = .ok (.getfield 123, 3) := by decide +kernel
theorem dX7_count_96 : decode cX7_count 96 = .ok (.ireturn, 1) := by decide +kernel
theorem dX7_count_97 : decode cX7_count 97 = .ok (.aload_n 0, 1) := by decide +kernel
theorem dX7_count_98 : decode cX7_count 98 = .ok (.invokevirtual 245, 3) := by decide +kernel
theorem dX7_count_101 : decode cX7_count 101 = .ok (.ireturn, 1) := by decide +kernel
theorem dX7_count_102 : decode cX7_count 102 = .ok (.aload_n 0, 1) := by decide +kernel
theorem dX7_count_103 : decode cX7_count 103 = .ok (.invokevirtual 315, 3) := by decide +kernel
theorem dX7_count_106 : decode cX7_count 106 = .ok (.ireturn, 1) := by decide +kernel
theorem dX7_count_107 : decode cX7_count 107 = .ok (.aload_n 0, 1) := by decide +kernel
theorem dX7_count_108 : decode cX7_count 108 = .ok (.getfield 33, 3) := by decide +kernel
theorem dX7_count_111 : decode cX7_count 111 = .ok (.ireturn, 1) := by decide +kernel
theorem dX7_count_112 : decode cX7_count 112 = .ok (.aload_n 0, 1) := by decide +kernel
theorem dX7_count_113 : decode cX7_count 113 = .ok (.getfield 166, 3) := by decide +kernel
theorem dX7_count_116 : decode cX7_count 116 = .ok (.ireturn, 1) := by decide +kernel
theorem dX7_count_117 : decode cX7_count 117 = .ok (.aload_n 0, 1) := by decide +kernel
theorem dX7_count_118 : decode cX7_count 118 = .ok (.getfield 179, 3) := by decide +kernel
theorem dX7_count_121 : decode cX7_count 121 = .ok (.ireturn, 1) := by decide +kernel
theorem dX7_count_122 : decode cX7_count 122 = .ok (.iload_n 2, 1) := by decide +kernel
theorem dX7_count_123 : decode cX7_count 123 = .ok (.ireturn, 1) := by decide +kernel
theorem dX7_count_124 : decode cX7_count 124 = .ok (.aload_n 0, 1) := by decide +kernel
theorem dX7_count_125 : decode cX7_count 125 = .ok (.getfield 11, 3) := by decide +kernel
theorem dX7_count_128 : decode cX7_count 128 = .ok (.ireturn, 1) := by decide +kernel
theorem dX7_count_129 : decode cX7_count 129 = .ok (.aload_n 0, 1) := by decide +kernel
theorem dX7_count_130 : decode cX7_count 130 = .ok (.getfield 14, 3) := by decide +kernel
theorem dX7_count_133 : decode cX7_count 133 = .ok (.ireturn, 1) := by decide +kernel
theorem dX7_count_134 : decode cX7_count 134 = .ok (.bipush (-100), 2) := by decide +kernel
theorem dX7_count_136 : decode cX7_count 136 = .ok (.ireturn, 1) := by decide +kernel
theorem dX7_row_0 : decode cX7_row 0 = .ok (.aload_n 0, 1) := by decide +kernel
theorem dX7_row_1 : decode cX7_row 1 = .ok (.iconst 0, 1) := by decide +kernel
theorem dX7_row_2 : decode cX7_row 2 = .ok (.putfield 1, 3) := by decide +kernel
theorem dX7_row_5 : decode cX7_row 5 = .ok (.iload_n 1, 1) := by decide +kernel
theorem dX7_row_6 : decode cX7_row 6 = .ok (.i2l, 1) := by decide +kernel
theorem dX7_row_7 : decode cX7_row 7 = .ok (.lconst 0, 1) := by decide +kernel
theorem dX7_row_8 : decode cX7_row 8 = .ok (.aload_n 0, 1) := by decide +kernel
theorem dX7_row_9 : decode cX7_row 9 = .ok (.getfield 11, 3) := by decide +kernel
theorem dX7_row_12 : decode cX7_row 12 = .ok (.iconst 1, 1) := by decide +kernel
theorem dX7_row_13 : decode cX7_row 13 = .ok (.isub, 1) := by decide +kernel
theorem dX7_row_14 : decode cX7_row 14 = .ok (.i2l, 1) := by decide +kernel
theorem dX7_row_15 : decode cX7_row 15 = .ok (.invokestatic 21, 3) := by decide +kernel
theorem dX7_row_18 : decode cX7_row 18 = .ok (.ifCond .ne 10, 3) := by decide +kernel
theorem dX7_row_21 : decode cX7_row 21 = .ok (.aload_n 0, 1) := by decide +kernel
theorem dX7_row_22 : decode cX7_row 22 = .ok (.iconst 1, 1) := by decide +kernel
theorem dX7_row_23 : decode cX7_row 23 = .ok (.putfield 1, 3) := by decide +kernel
theorem dX7_row_26 : decode cX7_row 26 = .ok (.lconst 0, 1) := by decide +kernel
theorem dX7_row_27 : decode cX7_row 27 = .ok (.lreturn, 1) := by decide +kernel
theorem dX7_row_28 : decode cX7_row 28 = .ok (.aload_n 0, 1) := by decide +kernel
theorem dX7_row_29 : decode cX7_row 29 = .ok (.getfield 7, 3) := by decide +kernel
theorem dX7_row_32 : decode cX7_row 32 = .ok (.iload_n 1, 1) := by decide +kernel
theorem dX7_row_33 : decode cX7_row 33 = .ok (.laload, 1) := by decide +kernel
theorem dX7_row_34 : decode cX7_row 34 = .ok (.lreturn, 1) := by decide +kernel
