theorem dX6_init_0 : decode cX6_init 0 = .ok (.aload_n 0, 1) := by decide +kernel
theorem dX6_init_1 : decode cX6_init 1 = .ok (.invokespecial 3, 3) := by decide +kernel
theorem dX6_init_4 : decode cX6_init 4 = .ok (.aload_n 0, 1) := by decide +kernel
theorem dX6_init_5 : decode cX6_init 5 = .ok (.bipush 80, 2) := by decide +kernel
theorem dX6_init_7 : decode cX6_init 7 = .ok (.newarray .int, 2) := by decide +kernel
theorem dX6_init_9 : decode cX6_init 9 = .ok (.putfield 9, 3) := by decide +kernel
theorem dX6_init_12 : decode cX6_init 12 = .ok (.aload_n 0, 1) := by decide +kernel
theorem dX6_init_13 : decode cX6_init 13 = .ok (.new 13, 3) := by decide +kernel
theorem dX6_init_16 : decode cX6_init 16 = .ok (.dup, 1) := by decide +kernel
theorem dX6_init_17 : decode cX6_init 17 = .ok (.invokespecial 15, 3) := by decide +kernel
theorem dX6_init_20 : decode cX6_init 20 = .ok (.putfield 16, 3) := by decide +kernel
theorem dX6_init_23 : decode cX6_init 23 = .ok (.aload_n 0, 1) := by decide +kernel
theorem dX6_init_24 : decode cX6_init 24 = .ok (.new 20, 3) := by decide +kernel
theorem dX6_init_27 : decode cX6_init 27 = .ok (.dup, 1) := by decide +kernel
theorem dX6_init_28 : decode cX6_init 28 = .ok (.invokespecial 22, 3) := by decide +kernel
theorem dX6_init_31 : decode cX6_init 31 = .ok (.putfield 23, 3) := by decide +kernel
theorem dX6_init_34 : decode cX6_init 34 = .ok (.aload_n 0, 1) := by decide +kernel
theorem dX6_init_35 : decode cX6_init 35 = .ok (.new 27, 3) := by decide +kernel
theorem dX6_init_38 : decode cX6_init 38 = .ok (.dup, 1) := by decide +kernel
theorem dX6_init_39 : decode cX6_init 39 = .ok (.invokespecial 29, 3) := by decide +kernel
theorem dX6_init_42 : decode cX6_init 42 = .ok (.putfield 30, 3) := by decide +kernel
theorem dX6_init_45 : decode cX6_init 45 = .ok (.aload_n 0, 1) := by decide +kernel
theorem dX6_init_46 : decode cX6_init 46 = .ok (.iconst 3, 1) := by decide +kernel
theorem dX6_init_47 : decode cX6_init 47 = .ok (.anewarray 34, 3) := by decide +kernel
theorem dX6_init_50 : decode cX6_init 50 = .ok (.putfield 36, 3) := by decide +kernel
theorem dX6_init_53 : decode cX6_init 53 = .ok (.aload_n 0, 1) := by decide +kernel
theorem dX6_init_54 : decode cX6_init 54 = .ok (.iconst 3, 1) := by decide +kernel
theorem dX6_init_55 : decode cX6_init 55 = .ok (.newarray .boolean, 2) := by decide +kernel
theorem dX6_init_57 : decode cX6_init 57 = .ok (.putfield 40, 3) := by decide +kernel
theorem dX6_init_60 : decode cX6_init 60 = .ok (.aload_n 0, 1) := by decide +kernel
theorem dX6_init_61 : decode cX6_init 61 = .ok (.new 34, 3) := by decide +kernel
theorem dX6_init_64 : decode cX6_init 64 = .ok (.dup, 1) := by decide +kernel
theorem dX6_init_65 : decode cX6_init 65 = .ok (.invokespecial 44, 3) := by decide +kernel
theorem dX6_init_68 : decode cX6_init 68 = .ok (.putfield 45, 3) := by decide +kernel
theorem dX6_init_71 : decode cX6_init 71 = .ok (.aload_n 0, 1) := by decide +kernel
theorem dX6_init_72 : decode cX6_init 72 = .ok (.new 34, 3) := by decide +kernel
theorem dX6_init_75 : decode cX6_init 75 = .ok (.dup, 1) := by decide +kernel
theorem dX6_init_76 : decode cX6_init 76 = .ok (.invokespecial 44, 3) := by decide +kernel
theorem dX6_init_79 : decode cX6_init 79 = .ok (.putfield 49, 3) := by decide +kernel
theorem dX6_init_82 : decode cX6_init 82 = .ok (.aload_n 0, 1) := by decide +kernel
theorem dX6_init_83 : decode cX6_init 83 = .ok (.new 52, 3) := by decide +kernel
theorem dX6_init_86 : decode cX6_init 86 = .ok (.dup, 1) := by decide +kernel
theorem dX6_init_87 : decode cX6_init 87 = .ok (.invokespecial 54, 3) := by decide +kernel
theorem dX6_init_90 : decode cX6_init 90 = .ok (.putfield 55, 3) := by decide +kernel
theorem dX6_init_93 : decode cX6_init 93 = .ok (.aload_n 0, 1) := by decide +kernel
theorem dX6_init_94 : decode cX6_init 94 = .ok (.new 52, 3) := by decide +kernel
theorem dX6_init_97 : decode cX6_init 97 = .ok (.dup, 1) := by decide +kernel
theorem dX6_init_98 : decode cX6_init 98 = .ok (.invokespecial 54, 3) := by decide +kernel
theorem dX6_init_101 : decode cX6_init 101 = .ok (.putfield 59, 3) := by decide +kernel
theorem dX6_init_104 : decode cX6_init 104 = .ok (.aload_n 0, 1) := by decide +kernel
theorem dX6_init_105 : decode cX6_init 105 = .ok (.sipush 6000, 3) := by decide +kernel
theorem dX6_init_108 : decode cX6_init 108 = .ok (.newarray .int, 2) := by decide +kernel
theorem dX6_init_110 : decode cX6_init 110 = .ok (.putfield 62, 3) := by decide +kernel
theorem dX6_init_113 : decode cX6_init 113 = .ok (.aload_n 0, 1) := by decide +kernel
theorem dX6_init_114 : decode cX6_init 114 = .ok (.iconst (-1), 1) := by decide +kernel
theorem dX6_init_115 : decode cX6_init 115 = .ok (.putfield 65, 3) := by decide +kernel
theorem dX6_init_118 : decode cX6_init 118 = .ok (.return_, 1) := by decide +kernel
theorem dX6_sign_0 : decode cX6_sign 0 = .ok (.aload_n 0, 1) := by decide +kernel
theorem dX6_sign_1 : decode cX6_sign 1 = .ok (.getfield 69, 3) := by decide +kernel
theorem dX6_sign_4 : decode cX6_sign 4 = .ok (.iconst 4, 1) := by decide +kernel
theorem dX6_sign_5 : decode cX6_sign 5 = .ok (.iadd, 1) := by decide +kernel
theorem dX6_sign_6 : decode cX6_sign 6 = .ok (.bipush 80, 2) := by decide +kernel
theorem dX6_sign_8 : decode cX6_sign 8 = .ok (.if_icmp .le 5, 3) := by decide +kernel
theorem dX6_sign_11 : decode cX6_sign 11 = .ok (.iconst (-1), 1) := by decide +kernel
theorem dX6_sign_12 : decode cX6_sign 12 = .ok (.ireturn, 1) := by decide +kernel
theorem dX6_sign_13 : decode cX6_sign 13 = .ok (.bipush 24, 2) := by decide +kernel
theorem dX6_sign_15 : decode cX6_sign 15 = .ok (.istore_n 2, 1) := by decide +kernel
theorem dX6_sign_16 : decode cX6_sign 16 = .ok (.iload_n 2, 1) := by decide +kernel
theorem dX6_sign_17 : decode cX6_sign 17 = .ok (.ifCond .lt 35, 3) := by decide +kernel
theorem dX6_sign_20 : decode cX6_sign 20 = .ok (.aload_n 0, 1) := by decide +kernel
theorem dX6_sign_21 : decode cX6_sign 21 = .ok (.getfield 9, 3) := by decide +kernel
theorem dX6_sign_24 : decode cX6_sign 24 = .ok (.aload_n 0, 1) := by decide +kernel
theorem dX6_sign_25 : decode cX6_sign 25 = .ok (.getfield 69, 3) := by decide +kernel
theorem dX6_sign_28 : decode cX6_sign 28 = .ok (.iload_n 1, 1) := by decide +kernel
theorem dX6_sign_29 : decode cX6_sign 29 = .ok (.iload_n 2, 1) := by decide +kernel
theorem dX6_sign_30 : decode cX6_sign 30 = .ok (.iushr, 1) := by decide +kernel
theorem dX6_sign_31 : decode cX6_sign 31 = .ok (.sipush 255, 3) := by decide +kernel
theorem dX6_sign_34 : decode cX6_sign 34 = .ok (.iand, 1) := by decide +kernel
theorem dX6_sign_35 : decode cX6_sign 35 = .ok (.iastore, 1) := by decide +kernel
theorem dX6_sign_36 : decode cX6_sign 36 = .ok (.aload_n 0, 1) := by decide +kernel
theorem dX6_sign_37 : decode cX6_sign 37 = .ok (.dup, 1) := by decide +kernel
theorem dX6_sign_38 : decode cX6_sign 38 = .ok (.getfield 69, 3) := by decide +kernel
theorem dX6_sign_41 : decode cX6_sign 41 = .ok (.iconst 1, 1) := by decide +kernel
theorem dX6_sign_42 : decode cX6_sign 42 = .ok (.iadd, 1) := by decide +kernel
theorem dX6_sign_43 : decode cX6_sign 43 = .ok (.putfield 69, 3) := by decide +kernel
theorem dX6_sign_46 : decode cX6_sign 46 = .ok (.iinc 2 (-8), 3) := by decide +kernel
theorem dX6_sign_49 : decode cX6_sign 49 = .ok (.goto (-33), 3) := by decide +kernel
theorem dX6_sign_52 : decode cX6_sign 52 = .ok (.aload_n 0, 1) := by decide +kernel
theorem dX6_sign_53 : decode cX6_sign 53 = .ok (.getfield 69, 3) := by decide +kernel
theorem dX6_sign_56 : decode cX6_sign 56 = .ok (.ireturn, 1) := by decide +kernel
theorem dX6_end_0 : decode cX6_end 0 = .ok (.iload_n 1, 1) := by decide +kernel
theorem dX6_end_1 : decode cX6_end 1 = .ok (.ifCond .lt 11, 3) := by decide +kernel
theorem dX6_end_4 : decode cX6_end 4 = .ok (.iload_n 1, 1) := by decide +kernel
theorem dX6_end_5 : decode cX6_end 5 = .ok (.aload_n 0, 1) := by decide +kernel
theorem dX6_end_6 : decode cX6_end 6 = .ok (.getfield 69, 3) := by decide +kernel
theorem dX6_end_9 : decode cX6_end 9 = .ok (.if_icmp .le 5, 3) := by decide +kernel
theorem dX6_end_12 : decode cX6_end 12 = .ok (.iconst 0, 1) := by decide +kernel
theorem dX6_end_13 : decode cX6_end 13 = .ok (.ireturn, 1) := by decide +kernel
theorem dX6_end_14 : decode cX6_end 14 = .ok (.aload_n 0, 1) := by decide +kernel
theorem dX6_end_15 : decode cX6_end 15 = .ok (.iload_n 1, 1) := by decide +kernel
theorem dX6_end_16 : decode cX6_end 16 = .ok (.putfield 69, 3) := by decide +kernel
theorem dX6_end_19 : decode cX6_end 19 = .ok (.iconst 1, 1) := by decide +kernel
theorem dX6_end_20 : decode cX6_end 20 = .ok (.ireturn, 1) := by decide +kernel
theorem dX6_opens_0 : decode cX6_opens 0 = .ok (.aload_n 0, 1) := by decide +kernel
theorem dX6_opens_1 : decode cX6_opens 1 = .ok (.invokevirtual 72, 3) := by decide +kernel
theorem dX6_opens_4 : decode cX6_opens 4 = .ok (.istore_n 2, 1) := by decide +kernel
theorem dX6_opens_5 : decode cX6_opens 5 = .ok (.aload_n 0, 1) := by decide +kernel
theorem dX6_opens_6 : decode cX6_opens 6 = .ok (.iload_n 2, 1) := by decide +kernel
theorem dX6_opens_7 : decode cX6_opens 7 = .ok (.invokevirtual 76, 3) := by decide +kernel
theorem dX6_opens_10 : decode cX6_opens 10 = .ok (.istore_n 3, 1) := by decide +kernel
theorem dX6_opens_11 : decode cX6_opens 11 = .ok (.iload_n 3, 1) := by decide +kernel
theorem dX6_opens_12 : decode cX6_opens 12 = .ok (.iconst (-1), 1) := by decide +kernel
theorem dX6_opens_13 : decode cX6_opens 13 = .ok (.if_icmp .eq 7, 3) := by decide +kernel
theorem dX6_opens_16 : decode cX6_opens 16 = .ok (.iconst (-1), 1) := by decide +kernel
theorem dX6_opens_17 : decode cX6_opens 17 = .ok (.iload_n 3, 1) := by decide +kernel
theorem dX6_opens_18 : decode cX6_opens 18 = .ok (.isub, 1) := by decide +kernel
theorem dX6_opens_19 : decode cX6_opens 19 = .ok (.ireturn, 1) := by decide +kernel
theorem dX6_opens_20 : decode cX6_opens 20 = .ok (.iload_n 1, 1) := by decide +kernel
theorem dX6_opens_21 : decode cX6_opens 21 = .ok (.iconst 1, 1) := by decide +kernel
theorem dX6_opens_22 : decode cX6_opens 22 = .ok (.if_icmp .lt 9, 3) := by decide +kernel
theorem dX6_opens_25 : decode cX6_opens 25 = .ok (.iload_n 1, 1) := by decide +kernel
theorem dX6_opens_26 : decode cX6_opens 26 = .ok (.bipush 20, 2) := by decide +kernel
theorem dX6_opens_28 : decode cX6_opens 28 = .ok (.if_icmp .le 6, 3) := by decide +kernel
theorem dX6_opens_31 : decode cX6_opens 31 = .ok (.bipush (-100), 2) := by decide +kernel
theorem dX6_opens_33 : decode cX6_opens 33 = .ok (.ireturn, 1) := by decide +kernel
theorem dX6_opens_34 : decode cX6_opens 34 = .ok (.aload_n 0, 1) := by decide +kernel
theorem dX6_opens_35 : decode cX6_opens 35 = .ok (.getfield 23, 3) := by decide +kernel
theorem dX6_opens_38 : decode cX6_opens 38 = .ok (.aload_n 0, 1) := by decide +kernel
theorem dX6_opens_39 : decode cX6_opens 39 = .ok (.getfield 9, 3) := by decide +kernel
theorem dX6_opens_42 : decode cX6_opens 42 = .ok (.iload_n 2, 1) := by decide +kernel
theorem dX6_opens_43 : decode cX6_opens 43 = .ok (.iload_n 1, 1) := by decide +kernel
theorem dX6_opens_44 : decode cX6_opens 44 = .ok (.invokevirtual 80, 3) := by decide +kernel
theorem dX6_opens_47 : decode cX6_opens 47 = .ok (.aload_n 0, 1) := by decide +kernel
theorem dX6_opens_48 : decode cX6_opens 48 = .ok (.getfield 30, 3) := by decide +kernel
theorem dX6_opens_51 : decode cX6_opens 51 = .ok (.invokevirtual 84, 3) := by decide +kernel
theorem dX6_opens_54 : decode cX6_opens 54 = .ok (.astore 4, 2) := by decide +kernel
theorem dX6_opens_56 : decode cX6_opens 56 = .ok (.aload 4, 2) := by decide +kernel
theorem dX6_opens_58 : decode cX6_opens 58 = .ok (.invokevirtual 88, 3) := by decide +kernel
theorem dX6_opens_61 : decode cX6_opens 61 = .ok (.aload_n 0, 1) := by decide +kernel
theorem dX6_opens_62 : decode cX6_opens 62 = .ok (.getfield 23, 3) := by decide +kernel
theorem dX6_opens_65 : decode cX6_opens 65 = .ok (.getfield 91, 3) := by decide +kernel
theorem dX6_opens_68 : decode cX6_opens 68 = .ok (.ifCond .le 16, 3) := by decide +kernel
theorem dX6_opens_71 : decode cX6_opens 71 = .ok (.aload 4, 2) := by decide +kernel
theorem dX6_opens_73 : decode cX6_opens 73 = .ok (.iconst 0, 1) := by decide +kernel
theorem dX6_opens_74 : decode cX6_opens 74 = .ok (.aload_n 0, 1) := by decide +kernel
theorem dX6_opens_75 : decode cX6_opens 75 = .ok (.getfield 23, 3) := by decide +kernel
theorem dX6_opens_78 : decode cX6_opens 78 = .ok (.getfield 91, 3) := by decide +kernel
theorem dX6_opens_81 : decode cX6_opens 81 = .ok (.invokevirtual 94, 3) := by decide +kernel
theorem dX6_opens_84 : decode cX6_opens 84 = .ok (.iconst 0, 1) := by decide +kernel
theorem dX6_opens_85 : decode cX6_opens 85 = .ok (.istore 5, 2) := by decide +kernel
theorem dX6_opens_87 : decode cX6_opens 87 = .ok (.iload 5, 2) := by decide +kernel
theorem dX6_opens_89 : decode cX6_opens 89 = .ok (.iconst 3, 1) := by decide +kernel
theorem dX6_opens_90 : decode cX6_opens 90 = .ok (.if_icmp .ge 17, 3) := by decide +kernel
theorem dX6_opens_93 : decode cX6_opens 93 = .ok (.aload_n 0, 1) := by decide +kernel
theorem dX6_opens_94 : decode cX6_opens 94 = .ok (.getfield 40, 3) := by decide +kernel
theorem dX6_opens_97 : decode cX6_opens 97 = .ok (.iload 5, 2) := by decide +kernel
theorem dX6_opens_99 : decode cX6_opens 99 = .ok (.iconst 0, 1) := by decide +kernel
theorem dX6_opens_100 : decode cX6_opens 100 = .ok (.bastore, 1) := by decide +kernel
theorem dX6_opens_101 : decode cX6_opens 101 = .ok (.iinc 5 1, 3) := by decide +kernel
theorem dX6_opens_104 : decode cX6_opens 104 = .ok (.goto (-17), 3) := by decide +kernel
theorem dX6_opens_107 : decode cX6_opens 107 = .ok (.aload_n 0, 1) := by decide +kernel
theorem dX6_opens_108 : decode cX6_opens 108 = .ok (.getfield 30, 3) := by decide +kernel
theorem dX6_opens_111 : decode cX6_opens 111 = .ok (.invokevirtual 98, 3) := by decide +kernel
theorem dX6_opens_114 : decode cX6_opens 114 = .ok (.aload_n 0, 1) := by decide +kernel
theorem dX6_opens_115 : decode cX6_opens 115 = .ok (.invokevirtual 101, 3) := by decide +kernel
theorem dX6_opens_118 : decode cX6_opens 118 = .ok (.aload 4, 2) := by decide +kernel
theorem dX6_opens_120 : decode cX6_opens 120 = .ok (.getfield 104, 3) := by decide +kernel
theorem dX6_opens_123 : decode cX6_opens 123 = .ok (.ireturn, 1) := by decide +kernel
theorem dX6_store_0 : decode cX6_store 0 = .ok (.iload_n 1, 1) := by decide +kernel
theorem dX6_store_1 : decode cX6_store 1 = .ok (.ifCond .lt 17, 3) := by decide +kernel
theorem dX6_store_4 : decode cX6_store 4 = .ok (.iload_n 1, 1) := by decide +kernel
theorem dX6_store_5 : decode cX6_store 5 = .ok (.iconst 1, 1) := by decide +kernel
theorem dX6_store_6 : decode cX6_store 6 = .ok (.if_icmp .gt 12, 3) := by decide +kernel
theorem dX6_store_9 : decode cX6_store 9 = .ok (.iload_n 2, 1) := by decide +kernel
theorem dX6_store_10 : decode cX6_store 10 = .ok (.ifCond .lt 8, 3) := by decide +kernel
theorem dX6_store_13 : decode cX6_store 13 = .ok (.iload_n 2, 1) := by decide +kernel
theorem dX6_store_14 : decode cX6_store 14 = .ok (.iconst 2, 1) := by decide +kernel
theorem dX6_store_15 : decode cX6_store 15 = .ok (.if_icmp .le 13, 3) := by decide +kernel
theorem dX6_store_18 : decode cX6_store 18 = .ok (.new 107, 3) := by decide +kernel
theorem dX6_store_21 : decode cX6_store 21 = .ok (.dup, 1) := by decide +kernel
theorem dX6_store_22 : decode cX6_store 22 = .ok (.ldc 109, 2) := by decide +kernel
theorem dX6_store_24 : decode cX6_store 24 = .ok (.invokespecial 111, 3) := by decide +kernel
theorem dX6_store_27 : decode cX6_store 27 = .ok (.athrow, 1) := by decide +kernel
theorem dX6_store_28 : decode cX6_store 28 = .ok (.iload_n 2, 1) := by decide +kernel
theorem dX6_store_29 : decode cX6_store 29 = .ok (.ifCond .ne 12, 3) := by decide +kernel
theorem dX6_store_32 : decode cX6_store 32 = .ok (.aload_n 0, 1) := by decide +kernel
theorem dX6_store_33 : decode cX6_store 33 = .ok (.getfield 23, 3) := by decide +kernel
theorem dX6_store_36 : decode cX6_store 36 = .ok (.iload_n 1, 1) := by decide +kernel
theorem dX6_store_37 : decode cX6_store 37 = .ok (.invokevirtual 114, 3) := by decide +kernel
theorem dX6_store_40 : decode cX6_store 40 = .ok (.ireturn, 1) := by decide +kernel
theorem dX6_store_41 : decode cX6_store 41 = .ok (.iload_n 2, 1) := by decide +kernel
theorem dX6_store_42 : decode cX6_store 42 = .ok (.iconst 1, 1) := by decide +kernel
theorem dX6_store_43 : decode cX6_store 43 = .ok (.if_icmp .ne 23, 3) := by decide +kernel
theorem dX6_store_46 : decode cX6_store 46 = .ok (.aload_n 0, 1) := by decide +kernel
theorem dX6_store_47 : decode cX6_store 47 = .ok (.getfield 23, 3) := by decide +kernel
theorem dX6_store_50 : decode cX6_store 50 = .ok (.iload_n 1, 1) := by decide +kernel
theorem dX6_store_51 : decode cX6_store 51 = .ok (.invokestatic 117, 3) := by decide +kernel
theorem dX6_store_54 : decode cX6_store 54 = .ok (.aload_n 0, 1) := by decide +kernel
theorem dX6_store_55 : decode cX6_store 55 = .ok (.getfield 23, 3) := by decide +kernel
theorem dX6_store_58 : decode cX6_store 58 = .ok (.iload_n 1, 1) := by decide +kernel
theorem dX6_store_59 : decode cX6_store 59 = .ok (.invokevirtual 114, 3) := by decide +kernel
theorem dX6_store_62 : decode cX6_store 62 = .ok (.invokevirtual 120, 3) := by decide +kernel
theorem dX6_store_65 : decode cX6_store 65 = .ok (.ireturn, 1) := by decide +kernel
theorem dX6_store_66 : decode cX6_store 66 = .ok (.aload_n 0, 1) := by decide +kernel
theorem dX6_store_67 : decode cX6_store 67 = .ok (.getfield 30, 3) := by decide +kernel
theorem dX6_store_70 : decode cX6_store 70 = .ok (.invokevirtual 84, 3) := by decide +kernel
theorem dX6_store_73 : decode cX6_store 73 = .ok (.iload_n 1, 1) := by decide +kernel
theorem dX6_store_74 : decode cX6_store 74 = .ok (.invokevirtual 124, 3) := by decide +kernel
theorem dX6_store_77 : decode cX6_store 77 = .ok (.ireturn, 1) := by decide +kernel
theorem dX6_inserts_0 : decode cX6_inserts 0 = .ok (.aload_n 0, 1) := by decide +kernel
theorem dX6_inserts_1 : decode cX6_inserts 1 = .ok (.invokevirtual 72, 3) := by decide +kernel
theorem dX6_inserts_4 : decode cX6_inserts 4 = .ok (.istore_n 2, 1) := by decide +kernel
theorem dX6_inserts_5 : decode cX6_inserts 5 = .ok (.aload_n 0, 1) := by decide +kernel
theorem dX6_inserts_6 : decode cX6_inserts 6 = .ok (.iload_n 2, 1) := by decide +kernel
theorem dX6_inserts_7 : decode cX6_inserts 7 = .ok (.invokevirtual 76, 3) := by decide +kernel
theorem dX6_inserts_10 : decode cX6_inserts 10 = .ok (.istore_n 3, 1) := by decide +kernel
theorem dX6_inserts_11 : decode cX6_inserts 11 = .ok (.iload_n 3, 1) := by decide +kernel
theorem dX6_inserts_12 : decode cX6_inserts 12 = .ok (.iconst (-1), 1) := by decide +kernel
theorem dX6_inserts_13 : decode cX6_inserts 13 = .ok (.if_icmp .eq 7, 3) := by decide +kernel
theorem dX6_inserts_16 : decode cX6_inserts 16 = .ok (.iconst (-1), 1) := by decide +kernel
theorem dX6_inserts_17 : decode cX6_inserts 17 = .ok (.iload_n 3, 1) := by decide +kernel
theorem dX6_inserts_18 : decode cX6_inserts 18 = .ok (.isub, 1) := by decide +kernel
theorem dX6_inserts_19 : decode cX6_inserts 19 = .ok (.ireturn, 1) := by decide +kernel
theorem dX6_inserts_20 : decode cX6_inserts 20 = .ok (.aload_n 0, 1) := by decide +kernel
theorem dX6_inserts_21 : decode cX6_inserts 21 = .ok (.iload_n 1, 1) := by decide +kernel
theorem dX6_inserts_22 : decode cX6_inserts 22 = .ok (.iconst 0, 1) := by decide +kernel
theorem dX6_inserts_23 : decode cX6_inserts 23 = .ok (.iload_n 2, 1) := by decide +kernel
theorem dX6_inserts_24 : decode cX6_inserts 24 = .ok (.invokevirtual 127, 3) := by decide +kernel
theorem dX6_inserts_27 : decode cX6_inserts 27 = .ok (.ireturn, 1) := by decide +kernel
theorem dX6_type_0 : decode cX6_type 0 = .ok (.iload_n 2, 1) := by decide +kernel
theorem dX6_type_1 : decode cX6_type 1 = .ok (.invokestatic 131, 3) := by decide +kernel
theorem dX6_type_4 : decode cX6_type 4 = .ok (.ifCond .ne 5, 3) := by decide +kernel
theorem dX6_type_7 : decode cX6_type 7 = .ok (.iconst (-1), 1) := by decide +kernel
theorem dX6_type_8 : decode cX6_type 8 = .ok (.ireturn, 1) := by decide +kernel
theorem dX6_type_9 : decode cX6_type 9 = .ok (.aload_n 0, 1) := by decide +kernel
theorem dX6_type_10 : decode cX6_type 10 = .ok (.getfield 30, 3) := by decide +kernel
theorem dX6_type_13 : decode cX6_type 13 = .ok (.invokevirtual 84, 3) := by decide +kernel
theorem dX6_type_16 : decode cX6_type 16 = .ok (.astore_n 3, 1) := by decide +kernel
theorem dX6_type_17 : decode cX6_type 17 = .ok (.iload_n 1, 1) := by decide +kernel
theorem dX6_type_18 : decode cX6_type 18 = .ok (.ifCond .lt 11, 3) := by decide +kernel
theorem dX6_type_21 : decode cX6_type 21 = .ok (.iload_n 1, 1) := by decide +kernel
theorem dX6_type_22 : decode cX6_type 22 = .ok (.aload_n 3, 1) := by decide +kernel
theorem dX6_type_23 : decode cX6_type 23 = .ok (.getfield 104, 3) := by decide +kernel
theorem dX6_type_26 : decode cX6_type 26 = .ok (.if_icmp .le 6, 3) := by decide +kernel
theorem dX6_type_29 : decode cX6_type 29 = .ok (.bipush (-2), 2) := by decide +kernel
theorem dX6_type_31 : decode cX6_type 31 = .ok (.ireturn, 1) := by decide +kernel
theorem dX6_type_32 : decode cX6_type 32 = .ok (.aload_n 3, 1) := by decide +kernel
theorem dX6_type_33 : decode cX6_type 33 = .ok (.getfield 104, 3) := by decide +kernel
theorem dX6_type_36 : decode cX6_type 36 = .ok (.sipush 3000, 3) := by decide +kernel
theorem dX6_type_39 : decode cX6_type 39 = .ok (.if_icmp .lt 6, 3) := by decide +kernel
theorem dX6_type_42 : decode cX6_type 42 = .ok (.bipush (-3), 2) := by decide +kernel
theorem dX6_type_44 : decode cX6_type 44 = .ok (.ireturn, 1) := by decide +kernel
theorem dX6_type_45 : decode cX6_type 45 = .ok (.aload_n 0, 1) := by decide +kernel
theorem dX6_type_46 : decode cX6_type 46 = .ok (.getfield 23, 3) := by decide +kernel
theorem dX6_type_49 : decode cX6_type 49 = .ok (.getfield 135, 3) := by decide +kernel
theorem dX6_type_52 : decode cX6_type 52 = .ok (.sipush 6000, 3) := by decide +kernel
theorem dX6_type_55 : decode cX6_type 55 = .ok (.if_icmp .lt 6, 3) := by decide +kernel
theorem dX6_type_58 : decode cX6_type 58 = .ok (.bipush (-4), 2) := by decide +kernel
theorem dX6_type_60 : decode cX6_type 60 = .ok (.ireturn, 1) := by decide +kernel
theorem dX6_type_61 : decode cX6_type 61 = .ok (.iload_n 1, 1) := by decide +kernel
theorem dX6_type_62 : decode cX6_type 62 = .ok (.aload_n 0, 1) := by decide +kernel
theorem dX6_type_63 : decode cX6_type 63 = .ok (.getfield 65, 3) := by decide +kernel
theorem dX6_type_66 : decode cX6_type 66 = .ok (.if_icmp .eq 8, 3) := by decide +kernel
theorem dX6_type_69 : decode cX6_type 69 = .ok (.aload_n 0, 1) := by decide +kernel
theorem dX6_type_70 : decode cX6_type 70 = .ok (.invokevirtual 138, 3) := by decide +kernel
theorem dX6_type_73 : decode cX6_type 73 = .ok (.astore_n 3, 1) := by decide +kernel
theorem dX6_type_74 : decode cX6_type 74 = .ok (.aload_n 3, 1) := by decide +kernel
theorem dX6_type_75 : decode cX6_type 75 = .ok (.iload_n 1, 1) := by decide +kernel
theorem dX6_type_76 : decode cX6_type 76 = .ok (.aload_n 0, 1) := by decide +kernel
theorem dX6_type_77 : decode cX6_type 77 = .ok (.getfield 23, 3) := by decide +kernel
theorem dX6_type_80 : decode cX6_type 80 = .ok (.invokevirtual 141, 3) := by decide +kernel
theorem dX6_type_83 : decode cX6_type 83 = .ok (.iconst 1, 1) := by decide +kernel
theorem dX6_type_84 : decode cX6_type 84 = .ok (.invokevirtual 144, 3) := by decide +kernel
theorem dX6_type_87 : decode cX6_type 87 = .ok (.aload_n 0, 1) := by decide +kernel
theorem dX6_type_88 : decode cX6_type 88 = .ok (.getfield 23, 3) := by decide +kernel
theorem dX6_type_91 : decode cX6_type 91 = .ok (.iload_n 2, 1) := by decide +kernel
theorem dX6_type_92 : decode cX6_type 92 = .ok (.invokevirtual 148, 3) := by decide +kernel
theorem dX6_type_95 : decode cX6_type 95 = .ok (.aload_n 0, 1) := by decide +kernel
theorem dX6_type_96 : decode cX6_type 96 = .ok (.iload_n 1, 1) := by decide +kernel
theorem dX6_type_97 : decode cX6_type 97 = .ok (.iconst 1, 1) := by decide +kernel
theorem dX6_type_98 : decode cX6_type 98 = .ok (.iadd, 1) := by decide +kernel
theorem dX6_type_99 : decode cX6_type 99 = .ok (.putfield 65, 3) := by decide +kernel
theorem dX6_type_102 : decode cX6_type 102 = .ok (.aload_n 0, 1) := by decide +kernel
theorem dX6_type_103 : decode cX6_type 103 = .ok (.iconst 1, 1) := by decide +kernel
theorem dX6_type_104 : decode cX6_type 104 = .ok (.putfield 152, 3) := by decide +kernel
theorem dX6_type_107 : decode cX6_type 107 = .ok (.aload_n 3, 1) := by decide +kernel
theorem dX6_type_108 : decode cX6_type 108 = .ok (.getfield 104, 3) := by decide +kernel
theorem dX6_type_111 : decode cX6_type 111 = .ok (.ireturn, 1) := by decide +kernel
theorem dX6_takes_0 : decode cX6_takes 0 = .ok (.iload_n 2, 1) := by decide +kernel
theorem dX6_takes_1 : decode cX6_takes 1 = .ok (.iconst 1, 1) := by decide +kernel
theorem dX6_takes_2 : decode cX6_takes 2 = .ok (.if_icmp .lt 7, 3) := by decide +kernel
theorem dX6_takes_5 : decode cX6_takes 5 = .ok (.iload_n 1, 1) := by decide +kernel
theorem dX6_takes_6 : decode cX6_takes 6 = .ok (.ifCond .ge 5, 3) := by decide +kernel
theorem dX6_takes_9 : decode cX6_takes 9 = .ok (.iconst (-1), 1) := by decide +kernel
theorem dX6_takes_10 : decode cX6_takes 10 = .ok (.ireturn, 1) := by decide +kernel
theorem dX6_takes_11 : decode cX6_takes 11 = .ok (.aload_n 0, 1) := by decide +kernel
theorem dX6_takes_12 : decode cX6_takes 12 = .ok (.iload_n 1, 1) := by decide +kernel
theorem dX6_takes_13 : decode cX6_takes 13 = .ok (.iload_n 2, 1) := by decide +kernel
theorem dX6_takes_14 : decode cX6_takes 14 = .ok (.invokevirtual 156, 3) := by decide +kernel
theorem dX6_takes_17 : decode cX6_takes 17 = .ok (.ifCond .ne 6, 3) := by decide +kernel
theorem dX6_takes_20 : decode cX6_takes 20 = .ok (.bipush (-2), 2) := by decide +kernel
theorem dX6_takes_22 : decode cX6_takes 22 = .ok (.ireturn, 1) := by decide +kernel
theorem dX6_takes_23 : decode cX6_takes 23 = .ok (.aload_n 0, 1) := by decide +kernel
theorem dX6_takes_24 : decode cX6_takes 24 = .ok (.invokevirtual 160, 3) := by decide +kernel
theorem dX6_takes_27 : decode cX6_takes 27 = .ok (.iload_n 1, 1) := by decide +kernel
theorem dX6_takes_28 : decode cX6_takes 28 = .ok (.iload_n 1, 1) := by decide +kernel
theorem dX6_takes_29 : decode cX6_takes 29 = .ok (.iload_n 2, 1) := by decide +kernel
theorem dX6_takes_30 : decode cX6_takes 30 = .ok (.iadd, 1) := by decide +kernel
theorem dX6_takes_31 : decode cX6_takes 31 = .ok (.invokevirtual 164, 3) := by decide +kernel
theorem dX6_takes_34 : decode cX6_takes 34 = .ok (.istore_n 3, 1) := by decide +kernel
theorem dX6_takes_35 : decode cX6_takes 35 = .ok (.aload_n 0, 1) := by decide +kernel
theorem dX6_takes_36 : decode cX6_takes 36 = .ok (.invokevirtual 138, 3) := by decide +kernel
theorem dX6_takes_39 : decode cX6_takes 39 = .ok (.iload_n 1, 1) := by decide +kernel
theorem dX6_takes_40 : decode cX6_takes 40 = .ok (.iload_n 2, 1) := by decide +kernel
theorem dX6_takes_41 : decode cX6_takes 41 = .ok (.invokevirtual 165, 3) := by decide +kernel
theorem dX6_takes_44 : decode cX6_takes 44 = .ok (.iload_n 3, 1) := by decide +kernel
theorem dX6_takes_45 : decode cX6_takes 45 = .ok (.ireturn, 1) := by decide +kernel
theorem dX6_puts_0 : decode cX6_puts 0 = .ok (.aload_n 0, 1) := by decide +kernel
theorem dX6_puts_1 : decode cX6_puts 1 = .ok (.invokevirtual 72, 3) := by decide +kernel
theorem dX6_puts_4 : decode cX6_puts 4 = .ok (.istore_n 3, 1) := by decide +kernel
theorem dX6_puts_5 : decode cX6_puts 5 = .ok (.aload_n 0, 1) := by decide +kernel
theorem dX6_puts_6 : decode cX6_puts 6 = .ok (.iload_n 3, 1) := by decide +kernel
theorem dX6_puts_7 : decode cX6_puts 7 = .ok (.invokevirtual 76, 3) := by decide +kernel
theorem dX6_puts_10 : decode cX6_puts 10 = .ok (.istore 4, 2) := by decide +kernel
theorem dX6_puts_12 : decode cX6_puts 12 = .ok (.iload 4, 2) := by decide +kernel
theorem dX6_puts_14 : decode cX6_puts 14 = .ok (.iconst (-1), 1) := by decide +kernel
theorem dX6_puts_15 : decode cX6_puts 15 = .ok (.if_icmp .eq 8, 3) := by decide +kernel
theorem dX6_puts_18 : decode cX6_puts 18 = .ok (.iconst (-1), 1) := by decide +kernel
theorem dX6_puts_19 : decode cX6_puts 19 = .ok (.iload 4, 2) := by decide +kernel
theorem dX6_puts_21 : decode cX6_puts 21 = .ok (.isub, 1) := by decide +kernel
theorem dX6_puts_22 : decode cX6_puts 22 = .ok (.ireturn, 1) := by decide +kernel
theorem dX6_puts_23 : decode cX6_puts 23 = .ok (.aload_n 0, 1) := by decide +kernel
theorem dX6_puts_24 : decode cX6_puts 24 = .ok (.iload_n 1, 1) := by decide +kernel
theorem dX6_puts_25 : decode cX6_puts 25 = .ok (.iload_n 2, 1) := by decide +kernel
theorem dX6_puts_26 : decode cX6_puts 26 = .ok (.iload_n 3, 1) := by decide +kernel
theorem dX6_puts_27 : decode cX6_puts 27 = .ok (.invokevirtual 127, 3) := by decide +kernel
theorem dX6_puts_30 : decode cX6_puts 30 = .ok (.ireturn, 1) := by decide +kernel
theorem dX6_lays_0 : decode cX6_lays 0 = .ok (.iload_n 2, 1) := by decide +kernel
theorem dX6_lays_1 : decode cX6_lays 1 = .ok (.iconst 1, 1) := by decide +kernel
theorem dX6_lays_2 : decode cX6_lays 2 = .ok (.if_icmp .lt 11, 3) := by decide +kernel
theorem dX6_lays_5 : decode cX6_lays 5 = .ok (.iload_n 1, 1) := by decide +kernel
theorem dX6_lays_6 : decode cX6_lays 6 = .ok (.ifCond .lt 7, 3) := by decide +kernel
theorem dX6_lays_9 : decode cX6_lays 9 = .ok (.iload_n 3, 1) := by decide +kernel
theorem dX6_lays_10 : decode cX6_lays 10 = .ok (.ifCond .ge 5, 3) := by decide +kernel
theorem dX6_lays_13 : decode cX6_lays 13 = .ok (.iconst (-1), 1) := by decide +kernel
theorem dX6_lays_14 : decode cX6_lays 14 = .ok (.ireturn, 1) := by decide +kernel
theorem dX6_lays_15 : decode cX6_lays 15 = .ok (.aload_n 0, 1) := by decide +kernel
theorem dX6_lays_16 : decode cX6_lays 16 = .ok (.iload_n 1, 1) := by decide +kernel
theorem dX6_lays_17 : decode cX6_lays 17 = .ok (.iload_n 2, 1) := by decide +kernel
theorem dX6_lays_18 : decode cX6_lays 18 = .ok (.invokevirtual 156, 3) := by decide +kernel
theorem dX6_lays_21 : decode cX6_lays 21 = .ok (.ifCond .eq 11, 3) := by decide +kernel
theorem dX6_lays_24 : decode cX6_lays 24 = .ok (.aload_n 0, 1) := by decide +kernel
theorem dX6_lays_25 : decode cX6_lays 25 = .ok (.iload_n 3, 1) := by decide +kernel
theorem dX6_lays_26 : decode cX6_lays 26 = .ok (.invokevirtual 168, 3) := by decide +kernel
theorem dX6_lays_29 : decode cX6_lays 29 = .ok (.ifCond .ne 6, 3) := by decide +kernel
theorem dX6_lays_32 : decode cX6_lays 32 = .ok (.bipush (-2), 2) := by decide +kernel
theorem dX6_lays_34 : decode cX6_lays 34 = .ok (.ireturn, 1) := by decide +kernel
theorem dX6_lays_35 : decode cX6_lays 35 = .ok (.aload_n 0, 1) := by decide +kernel
theorem dX6_lays_36 : decode cX6_lays 36 = .ok (.getfield 30, 3) := by decide +kernel
theorem dX6_lays_39 : decode cX6_lays 39 = .ok (.invokevirtual 84, 3) := by decide +kernel
theorem dX6_lays_42 : decode cX6_lays 42 = .ok (.getfield 104, 3) := by decide +kernel
theorem dX6_lays_45 : decode cX6_lays 45 = .ok (.iload_n 2, 1) := by decide +kernel
theorem dX6_lays_46 : decode cX6_lays 46 = .ok (.iadd, 1) := by decide +kernel
theorem dX6_lays_47 : decode cX6_lays 47 = .ok (.sipush 3000, 3) := by decide +kernel
theorem dX6_lays_50 : decode cX6_lays 50 = .ok (.if_icmp .le 6, 3) := by decide +kernel
theorem dX6_lays_53 : decode cX6_lays 53 = .ok (.bipush (-3), 2) := by decide +kernel
theorem dX6_lays_55 : decode cX6_lays 55 = .ok (.ireturn, 1) := by decide +kernel
theorem dX6_lays_56 : decode cX6_lays 56 = .ok (.aload_n 0, 1) := by decide +kernel
theorem dX6_lays_57 : decode cX6_lays 57 = .ok (.invokevirtual 138, 3) := by decide +kernel
theorem dX6_lays_60 : decode cX6_lays 60 = .ok (.astore 4, 2) := by decide +kernel
theorem dX6_lays_62 : decode cX6_lays 62 = .ok (.aload 4, 2) := by decide +kernel
theorem dX6_lays_64 : decode cX6_lays 64 = .ok (.iload_n 1, 1) := by decide +kernel
theorem dX6_lays_65 : decode cX6_lays 65 = .ok (.iload_n 2, 1) := by decide +kernel
theorem dX6_lays_66 : decode cX6_lays 66 = .ok (.iload_n 3, 1) := by decide +kernel
theorem dX6_lays_67 : decode cX6_lays 67 = .ok (.aload_n 0, 1) := by decide +kernel
theorem dX6_lays_68 : decode cX6_lays 68 = .ok (.getfield 45, 3) := by decide +kernel
theorem dX6_lays_71 : decode cX6_lays 71 = .ok (.invokevirtual 171, 3) := by decide +kernel
theorem dX6_lays_74 : decode cX6_lays 74 = .ok (.aload 4, 2) := by decide +kernel
theorem dX6_lays_76 : decode cX6_lays 76 = .ok (.getfield 104, 3) := by decide +kernel
theorem dX6_lays_79 : decode cX6_lays 79 = .ok (.ireturn, 1) := by decide +kernel
theorem dX6_moves_0 : decode cX6_moves 0 = .ok (.iload_n 2, 1) := by decide +kernel
theorem dX6_moves_1 : decode cX6_moves 1 = .ok (.iconst 1, 1) := by decide +kernel
theorem dX6_moves_2 : decode cX6_moves 2 = .ok (.if_icmp .lt 11, 3) := by decide +kernel
theorem dX6_moves_5 : decode cX6_moves 5 = .ok (.iload_n 1, 1) := by decide +kernel
theorem dX6_moves_6 : decode cX6_moves 6 = .ok (.ifCond .lt 7, 3) := by decide +kernel
theorem dX6_moves_9 : decode cX6_moves 9 = .ok (.iload_n 3, 1) := by decide +kernel
theorem dX6_moves_10 : decode cX6_moves 10 = .ok (.ifCond .ge 5, 3) := by decide +kernel
theorem dX6_moves_13 : decode cX6_moves 13 = .ok (.iconst (-1), 1) := by decide +kernel
theorem dX6_moves_14 : decode cX6_moves 14 = .ok (.ireturn, 1) := by decide +kernel
theorem dX6_moves_15 : decode cX6_moves 15 = .ok (.aload_n 0, 1) := by decide +kernel
theorem dX6_moves_16 : decode cX6_moves 16 = .ok (.iload_n 1, 1) := by decide +kernel
theorem dX6_moves_17 : decode cX6_moves 17 = .ok (.iload_n 2, 1) := by decide +kernel
theorem dX6_moves_18 : decode cX6_moves 18 = .ok (.invokevirtual 156, 3) := by decide +kernel
theorem dX6_moves_21 : decode cX6_moves 21 = .ok (.ifCond .eq 23, 3) := by decide +kernel
theorem dX6_moves_24 : decode cX6_moves 24 = .ok (.aload_n 0, 1) := by decide +kernel
theorem dX6_moves_25 : decode cX6_moves 25 = .ok (.iload_n 3, 1) := by decide +kernel
theorem dX6_moves_26 : decode cX6_moves 26 = .ok (.invokevirtual 168, 3) := by decide +kernel
theorem dX6_moves_29 : decode cX6_moves 29 = .ok (.ifCond .eq 15, 3) := by decide +kernel
theorem dX6_moves_32 : decode cX6_moves 32 = .ok (.iload_n 3, 1) := by decide +kernel
theorem dX6_moves_33 : decode cX6_moves 33 = .ok (.iload_n 1, 1) := by decide +kernel
theorem dX6_moves_34 : decode cX6_moves 34 = .ok (.if_icmp .le 13, 3) := by decide +kernel
theorem dX6_moves_37 : decode cX6_moves 37 = .ok (.iload_n 3, 1) := by decide +kernel
theorem dX6_moves_38 : decode cX6_moves 38 = .ok (.iload_n 1, 1) := by decide +kernel
theorem dX6_moves_39 : decode cX6_moves 39 = .ok (.iload_n 2, 1) := by decide +kernel
theorem dX6_moves_40 : decode cX6_moves 40 = .ok (.iadd, 1) := by decide +kernel
theorem dX6_moves_41 : decode cX6_moves 41 = .ok (.if_icmp .ge 6, 3) := by decide +kernel
theorem dX6_moves_44 : decode cX6_moves 44 = .ok (.bipush (-2), 2) := by decide +kernel
theorem dX6_moves_46 : decode cX6_moves 46 = .ok (.ireturn, 1) := by decide +kernel
theorem dX6_moves_47 : decode cX6_moves 47 = .ok (.iload_n 3, 1) := by decide +kernel
theorem dX6_moves_48 : decode cX6_moves 48 = .ok (.iload_n 1, 1) := by decide +kernel
theorem dX6_moves_49 : decode cX6_moves 49 = .ok (.if_icmp .gt 7, 3) := by decide +kernel
theorem dX6_moves_52 : decode cX6_moves 52 = .ok (.iload_n 3, 1) := by decide +kernel
theorem dX6_moves_53 : decode cX6_moves 53 = .ok (.goto 6, 3) := by decide +kernel
theorem dX6_moves_56 : decode cX6_moves 56 = .ok (.iload_n 3, 1) := by decide +kernel
theorem dX6_moves_57 : decode cX6_moves 57 = .ok (.iload_n 2, 1) := by decide +kernel
theorem dX6_moves_58 : decode cX6_moves 58 = .ok (.isub, 1) := by decide +kernel
theorem dX6_moves_59 : decode cX6_moves 59 = .ok (.istore 4, 2) := by decide +kernel
theorem dX6_moves_61 : decode cX6_moves 61 = .ok (.aload_n 0, 1) := by decide +kernel
theorem dX6_moves_62 : decode cX6_moves 62 = .ok (.invokevirtual 138, 3) := by decide +kernel
theorem dX6_moves_65 : decode cX6_moves 65 = .ok (.iload_n 1, 1) := by decide +kernel
theorem dX6_moves_66 : decode cX6_moves 66 = .ok (.iload_n 2, 1) := by decide +kernel
theorem dX6_moves_67 : decode cX6_moves 67 = .ok (.iload 4, 2) := by decide +kernel
theorem dX6_moves_69 : decode cX6_moves 69 = .ok (.aload_n 0, 1) := by decide +kernel
theorem dX6_moves_70 : decode cX6_moves 70 = .ok (.getfield 45, 3) := by decide +kernel
theorem dX6_moves_73 : decode cX6_moves 73 = .ok (.invokevirtual 175, 3) := by decide +kernel
theorem dX6_moves_76 : decode cX6_moves 76 = .ok (.iload 4, 2) := by decide +kernel
theorem dX6_moves_78 : decode cX6_moves 78 = .ok (.ireturn, 1) := by decide +kernel
theorem dX6_cuts_0 : decode cX6_cuts 0 = .ok (.aload_n 0, 1) := by decide +kernel
theorem dX6_cuts_1 : decode cX6_cuts 1 = .ok (.invokevirtual 160, 3) := by decide +kernel
theorem dX6_cuts_4 : decode cX6_cuts 4 = .ok (.astore_n 2, 1) := by decide +kernel
theorem dX6_cuts_5 : decode cX6_cuts 5 = .ok (.aload_n 2, 1) := by decide +kernel
theorem dX6_cuts_6 : decode cX6_cuts 6 = .ok (.iload_n 1, 1) := by decide +kernel
theorem dX6_cuts_7 : decode cX6_cuts 7 = .ok (.invokevirtual 178, 3) := by decide +kernel
theorem dX6_cuts_10 : decode cX6_cuts 10 = .ok (.istore_n 3, 1) := by decide +kernel
theorem dX6_cuts_11 : decode cX6_cuts 11 = .ok (.iload_n 3, 1) := by decide +kernel
theorem dX6_cuts_12 : decode cX6_cuts 12 = .ok (.iconst (-1), 1) := by decide +kernel
theorem dX6_cuts_13 : decode cX6_cuts 13 = .ok (.if_icmp .ne 5, 3) := by decide +kernel
theorem dX6_cuts_16 : decode cX6_cuts 16 = .ok (.iconst (-1), 1) := by decide +kernel
theorem dX6_cuts_17 : decode cX6_cuts 17 = .ok (.ireturn, 1) := by decide +kernel
theorem dX6_cuts_18 : decode cX6_cuts 18 = .ok (.aload_n 2, 1) := by decide +kernel
theorem dX6_cuts_19 : decode cX6_cuts 19 = .ok (.getfield 181, 3) := by decide +kernel
theorem dX6_cuts_22 : decode cX6_cuts 22 = .ok (.ifCond .ne 6, 3) := by decide +kernel
theorem dX6_cuts_25 : decode cX6_cuts 25 = .ok (.bipush (-2), 2) := by decide +kernel
theorem dX6_cuts_27 : decode cX6_cuts 27 = .ok (.ireturn, 1) := by decide +kernel
theorem dX6_cuts_28 : decode cX6_cuts 28 = .ok (.aload_n 2, 1) := by decide +kernel
theorem dX6_cuts_29 : decode cX6_cuts 29 = .ok (.iload_n 3, 1) := by decide +kernel
theorem dX6_cuts_30 : decode cX6_cuts 30 = .ok (.invokevirtual 184, 3) := by decide +kernel
theorem dX6_cuts_33 : decode cX6_cuts 33 = .ok (.istore 4, 2) := by decide +kernel
theorem dX6_cuts_35 : decode cX6_cuts 35 = .ok (.iload 4, 2) := by decide +kernel
theorem dX6_cuts_37 : decode cX6_cuts 37 = .ok (.aload_n 2, 1) := by decide +kernel
theorem dX6_cuts_38 : decode cX6_cuts 38 = .ok (.getfield 181, 3) := by decide +kernel
theorem dX6_cuts_41 : decode cX6_cuts 41 = .ok (.if_icmp .ge 9, 3) := by decide +kernel
theorem dX6_cuts_44 : decode cX6_cuts 44 = .ok (.iinc 4 1, 3) := by decide +kernel
theorem dX6_cuts_47 : decode cX6_cuts 47 = .ok (.goto 10, 3) := by decide +kernel
theorem dX6_cuts_50 : decode cX6_cuts 50 = .ok (.iload_n 3, 1) := by decide +kernel
theorem dX6_cuts_51 : decode cX6_cuts 51 = .ok (.ifCond .le 6, 3) := by decide +kernel
theorem dX6_cuts_54 : decode cX6_cuts 54 = .ok (.iinc 3 (-1), 3) := by decide +kernel
theorem dX6_cuts_57 : decode cX6_cuts 57 = .ok (.aload_n 0, 1) := by decide +kernel
theorem dX6_cuts_58 : decode cX6_cuts 58 = .ok (.invokevirtual 138, 3) := by decide +kernel
theorem dX6_cuts_61 : decode cX6_cuts 61 = .ok (.iload_n 3, 1) := by decide +kernel
theorem dX6_cuts_62 : decode cX6_cuts 62 = .ok (.iload 4, 2) := by decide +kernel
theorem dX6_cuts_64 : decode cX6_cuts 64 = .ok (.iload_n 3, 1) := by decide +kernel
theorem dX6_cuts_65 : decode cX6_cuts 65 = .ok (.isub, 1) := by decide +kernel
theorem dX6_cuts_66 : decode cX6_cuts 66 = .ok (.invokevirtual 165, 3) := by decide +kernel
theorem dX6_cuts_69 : decode cX6_cuts 69 = .ok (.iload 4, 2) := by decide +kernel
theorem dX6_cuts_71 : decode cX6_cuts 71 = .ok (.iload_n 3, 1) := by decide +kernel
theorem dX6_cuts_72 : decode cX6_cuts 72 = .ok (.isub, 1) := by decide +kernel
theorem dX6_cuts_73 : decode cX6_cuts 73 = .ok (.ireturn, 1) := by decide +kernel
theorem dX6_indents_0 : decode cX6_indents 0 = .ok (.iload_n 3, 1) := by decide +kernel
theorem dX6_indents_1 : decode cX6_indents 1 = .ok (.iconst 1, 1) := by decide +kernel
theorem dX6_indents_2 : decode cX6_indents 2 = .ok (.if_icmp .lt 9, 3) := by decide +kernel
theorem dX6_indents_5 : decode cX6_indents 5 = .ok (.iload_n 3, 1) := by decide +kernel
theorem dX6_indents_6 : decode cX6_indents 6 = .ok (.bipush 8, 2) := by decide +kernel
theorem dX6_indents_8 : decode cX6_indents 8 = .ok (.if_icmp .le 5, 3) := by decide +kernel
theorem dX6_indents_11 : decode cX6_indents 11 = .ok (.iconst (-1), 1) := by decide +kernel
theorem dX6_indents_12 : decode cX6_indents 12 = .ok (.ireturn, 1) := by decide +kernel
theorem dX6_indents_13 : decode cX6_indents 13 = .ok (.aload_n 0, 1) := by decide +kernel
theorem dX6_indents_14 : decode cX6_indents 14 = .ok (.invokevirtual 160, 3) := by decide +kernel
theorem dX6_indents_17 : decode cX6_indents 17 = .ok (.astore 4, 2) := by decide +kernel
theorem dX6_indents_19 : decode cX6_indents 19 = .ok (.aload 4, 2) := by decide +kernel
theorem dX6_indents_21 : decode cX6_indents 21 = .ok (.iload_n 2, 1) := by decide +kernel
theorem dX6_indents_22 : decode cX6_indents 22 = .ok (.invokevirtual 178, 3) := by decide +kernel
theorem dX6_indents_25 : decode cX6_indents 25 = .ok (.istore 5, 2) := by decide +kernel
theorem dX6_indents_27 : decode cX6_indents 27 = .ok (.iload_n 1, 1) := by decide +kernel
theorem dX6_indents_28 : decode cX6_indents 28 = .ok (.ifCond .lt 14, 3) := by decide +kernel
theorem dX6_indents_31 : decode cX6_indents 31 = .ok (.iload_n 2, 1) := by decide +kernel
theorem dX6_indents_32 : decode cX6_indents 32 = .ok (.iload_n 1, 1) := by decide +kernel
theorem dX6_indents_33 : decode cX6_indents 33 = .ok (.if_icmp .lt 9, 3) := by decide +kernel
theorem dX6_indents_36 : decode cX6_indents 36 = .ok (.iload 5, 2) := by decide +kernel
theorem dX6_indents_38 : decode cX6_indents 38 = .ok (.iconst (-1), 1) := by decide +kernel
theorem dX6_indents_39 : decode cX6_indents 39 = .ok (.if_icmp .ne 6, 3) := by decide +kernel
theorem dX6_indents_42 : decode cX6_indents 42 = .ok (.bipush (-2), 2) := by decide +kernel
theorem dX6_indents_44 : decode cX6_indents 44 = .ok (.ireturn, 1) := by decide +kernel
theorem dX6_indents_45 : decode cX6_indents 45 = .ok (.iload_n 2, 1) := by decide +kernel
theorem dX6_indents_46 : decode cX6_indents 46 = .ok (.iload_n 1, 1) := by decide +kernel
theorem dX6_indents_47 : decode cX6_indents 47 = .ok (.isub, 1) := by decide +kernel
theorem dX6_indents_48 : decode cX6_indents 48 = .ok (.iconst 1, 1) := by decide +kernel
theorem dX6_indents_49 : decode cX6_indents 49 = .ok (.iadd, 1) := by decide +kernel
theorem dX6_indents_50 : decode cX6_indents 50 = .ok (.iload_n 3, 1) := by decide +kernel
theorem dX6_indents_51 : decode cX6_indents 51 = .ok (.imul, 1) := by decide +kernel
theorem dX6_indents_52 : decode cX6_indents 52 = .ok (.istore 6, 2) := by decide +kernel
theorem dX6_indents_54 : decode cX6_indents 54 = .ok (.aload 4, 2) := by decide +kernel
theorem dX6_indents_56 : decode cX6_indents 56 = .ok (.getfield 181, 3) := by decide +kernel
theorem dX6_indents_59 : decode cX6_indents 59 = .ok (.iload 6, 2) := by decide +kernel
theorem dX6_indents_61 : decode cX6_indents 61 = .ok (.iadd, 1) := by decide +kernel
theorem dX6_indents_62 : decode cX6_indents 62 = .ok (.sipush 3000, 3) := by decide +kernel
theorem dX6_indents_65 : decode cX6_indents 65 = .ok (.if_icmp .le 6, 3) := by decide +kernel
theorem dX6_indents_68 : decode cX6_indents 68 = .ok (.bipush (-3), 2) := by decide +kernel
theorem dX6_indents_70 : decode cX6_indents 70 = .ok (.ireturn, 1) := by decide +kernel
theorem dX6_indents_71 : decode cX6_indents 71 = .ok (.aload_n 0, 1) := by decide +kernel
theorem dX6_indents_72 : decode cX6_indents 72 = .ok (.getfield 23, 3) := by decide +kernel
theorem dX6_indents_75 : decode cX6_indents 75 = .ok (.getfield 135, 3) := by decide +kernel
theorem dX6_indents_78 : decode cX6_indents 78 = .ok (.iload 6, 2) := by decide +kernel
theorem dX6_indents_80 : decode cX6_indents 80 = .ok (.iadd, 1) := by decide +kernel
theorem dX6_indents_81 : decode cX6_indents 81 = .ok (.sipush 6000, 3) := by decide +kernel
theorem dX6_indents_84 : decode cX6_indents 84 = .ok (.if_icmp .le 6, 3) := by decide +kernel
theorem dX6_indents_87 : decode cX6_indents 87 = .ok (.bipush (-4), 2) := by decide +kernel
theorem dX6_indents_89 : decode cX6_indents 89 = .ok (.ireturn, 1) := by decide +kernel
theorem dX6_indents_90 : decode cX6_indents 90 = .ok (.aload_n 0, 1) := by decide +kernel
theorem dX6_indents_91 : decode cX6_indents 91 = .ok (.invokevirtual 138, 3) := by decide +kernel
theorem dX6_indents_94 : decode cX6_indents 94 = .ok (.astore 7, 2) := by decide +kernel
theorem dX6_indents_96 : decode cX6_indents 96 = .ok (.iload_n 2, 1) := by decide +kernel
theorem dX6_indents_97 : decode cX6_indents 97 = .ok (.istore 8, 2) := by decide +kernel
theorem dX6_indents_99 : decode cX6_indents 99 = .ok (.iload 8, 2) := by decide +kernel
theorem dX6_indents_101 : decode cX6_indents 101 = .ok (.iload_n 1, 1) := by decide +kernel
theorem dX6_indents_102 : decode cX6_indents 102 = .ok (.if_icmp .lt 43, 3) := by decide +kernel
theorem dX6_indents_105 : decode cX6_indents 105 = .ok (.aload 7, 2) := by decide +kernel
theorem dX6_indents_107 : decode cX6_indents 107 = .ok (.iload 5, 2) := by decide +kernel
theorem dX6_indents_109 : decode cX6_indents 109 = .ok (.aload_n 0, 1) := by decide +kernel
theorem dX6_indents_110 : decode cX6_indents 110 = .ok (.getfield 23, 3) := by decide +kernel
theorem dX6_indents_113 : decode cX6_indents 113 = .ok (.invokevirtual 141, 3) := by decide +kernel
theorem dX6_indents_116 : decode cX6_indents 116 = .ok (.iload_n 3, 1) := by decide +kernel
theorem dX6_indents_117 : decode cX6_indents 117 = .ok (.invokevirtual 144, 3) := by decide +kernel
theorem dX6_indents_120 : decode cX6_indents 120 = .ok (.aload_n 0, 1) := by decide +kernel
theorem dX6_indents_121 : decode cX6_indents 121 = .ok (.getfield 23, 3) := by decide +kernel
theorem dX6_indents_124 : decode cX6_indents 124 = .ok (.iload_n 3, 1) := by decide +kernel
theorem dX6_indents_125 : decode cX6_indents 125 = .ok (.invokevirtual 187, 3) := by decide +kernel
theorem dX6_indents_128 : decode cX6_indents 128 = .ok (.aload 4, 2) := by decide +kernel
theorem dX6_indents_130 : decode cX6_indents 130 = .ok (.iload 5, 2) := by decide +kernel
theorem dX6_indents_132 : decode cX6_indents 132 = .ok (.iconst 1, 1) := by decide +kernel
theorem dX6_indents_133 : decode cX6_indents 133 = .ok (.isub, 1) := by decide +kernel
theorem dX6_indents_134 : decode cX6_indents 134 = .ok (.invokevirtual 190, 3) := by decide +kernel
theorem dX6_indents_137 : decode cX6_indents 137 = .ok (.istore 5, 2) := by decide +kernel
theorem dX6_indents_139 : decode cX6_indents 139 = .ok (.iinc 8 (-1), 3) := by decide +kernel
theorem dX6_indents_142 : decode cX6_indents 142 = .ok (.goto (-43), 3) := by decide +kernel
theorem dX6_indents_145 : decode cX6_indents 145 = .ok (.aload 7, 2) := by decide +kernel
theorem dX6_indents_147 : decode cX6_indents 147 = .ok (.getfield 104, 3) := by decide +kernel
theorem dX6_indents_150 : decode cX6_indents 150 = .ok (.ireturn, 1) := by decide +kernel
theorem dX6_heals_0 : decode cX6_heals 0 = .ok (.aload_n 0, 1) := by decide +kernel
theorem dX6_heals_1 : decode cX6_heals 1 = .ok (.getfield 30, 3) := by decide +kernel
theorem dX6_heals_4 : decode cX6_heals 4 = .ok (.invokevirtual 84, 3) := by decide +kernel
theorem dX6_heals_7 : decode cX6_heals 7 = .ok (.invokevirtual 193, 3) := by decide +kernel
theorem dX6_heals_10 : decode cX6_heals 10 = .ok (.ifCond .ne 5, 3) := by decide +kernel
theorem dX6_heals_13 : decode cX6_heals 13 = .ok (.iconst 0, 1) := by decide +kernel
theorem dX6_heals_14 : decode cX6_heals 14 = .ok (.ireturn, 1) := by decide +kernel
theorem dX6_heals_15 : decode cX6_heals 15 = .ok (.aload_n 0, 1) := by decide +kernel
theorem dX6_heals_16 : decode cX6_heals 16 = .ok (.invokevirtual 138, 3) := by decide +kernel
theorem dX6_heals_19 : decode cX6_heals 19 = .ok (.invokevirtual 196, 3) := by decide +kernel
theorem dX6_heals_22 : decode cX6_heals 22 = .ok (.ireturn, 1) := by decide +kernel
theorem dX6_marks_0 : decode cX6_marks 0 = .ok (.iload_n 1, 1) := by decide +kernel
theorem dX6_marks_1 : decode cX6_marks 1 = .ok (.ifCond .lt 18, 3) := by decide +kernel
theorem dX6_marks_4 : decode cX6_marks 4 = .ok (.iload_n 1, 1) := by decide +kernel
theorem dX6_marks_5 : decode cX6_marks 5 = .ok (.bipush 8, 2) := by decide +kernel
theorem dX6_marks_7 : decode cX6_marks 7 = .ok (.if_icmp .ge 12, 3) := by decide +kernel
theorem dX6_marks_10 : decode cX6_marks 10 = .ok (.iload_n 3, 1) := by decide +kernel
theorem dX6_marks_11 : decode cX6_marks 11 = .ok (.ifCond .lt 8, 3) := by decide +kernel
theorem dX6_marks_14 : decode cX6_marks 14 = .ok (.iload_n 3, 1) := by decide +kernel
theorem dX6_marks_15 : decode cX6_marks 15 = .ok (.iconst 1, 1) := by decide +kernel
theorem dX6_marks_16 : decode cX6_marks 16 = .ok (.if_icmp .le 6, 3) := by decide +kernel
theorem dX6_marks_19 : decode cX6_marks 19 = .ok (.bipush (-3), 2) := by decide +kernel
theorem dX6_marks_21 : decode cX6_marks 21 = .ok (.ireturn, 1) := by decide +kernel
theorem dX6_marks_22 : decode cX6_marks 22 = .ok (.iload_n 2, 1) := by decide +kernel
theorem dX6_marks_23 : decode cX6_marks 23 = .ok (.iconst (-1), 1) := by decide +kernel
theorem dX6_marks_24 : decode cX6_marks 24 = .ok (.if_icmp .eq 14, 3) := by decide +kernel
theorem dX6_marks_27 : decode cX6_marks 27 = .ok (.aload_n 0, 1) := by decide +kernel
theorem dX6_marks_28 : decode cX6_marks 28 = .ok (.iload_n 2, 1) := by decide +kernel
theorem dX6_marks_29 : decode cX6_marks 29 = .ok (.invokevirtual 168, 3) := by decide +kernel
theorem dX6_marks_32 : decode cX6_marks 32 = .ok (.ifCond .ne 6, 3) := by decide +kernel
theorem dX6_marks_35 : decode cX6_marks 35 = .ok (.bipush (-2), 2) := by decide +kernel
theorem dX6_marks_37 : decode cX6_marks 37 = .ok (.ireturn, 1) := by decide +kernel
theorem dX6_marks_38 : decode cX6_marks 38 = .ok (.aload_n 0, 1) := by decide +kernel
theorem dX6_marks_39 : decode cX6_marks 39 = .ok (.getfield 30, 3) := by decide +kernel
theorem dX6_marks_42 : decode cX6_marks 42 = .ok (.invokevirtual 84, 3) := by decide +kernel
theorem dX6_marks_45 : decode cX6_marks 45 = .ok (.iload_n 1, 1) := by decide +kernel
theorem dX6_marks_46 : decode cX6_marks 46 = .ok (.iload_n 2, 1) := by decide +kernel
theorem dX6_marks_47 : decode cX6_marks 47 = .ok (.iload_n 3, 1) := by decide +kernel
theorem dX6_marks_48 : decode cX6_marks 48 = .ok (.iconst 1, 1) := by decide +kernel
theorem dX6_marks_49 : decode cX6_marks 49 = .ok (.if_icmp .ne 7, 3) := by decide +kernel
theorem dX6_marks_52 : decode cX6_marks 52 = .ok (.iconst 1, 1) := by decide +kernel
theorem dX6_marks_53 : decode cX6_marks 53 = .ok (.goto 4, 3) := by decide +kernel
theorem dX6_marks_56 : decode cX6_marks 56 = .ok (.iconst 0, 1) := by decide +kernel
theorem dX6_marks_57 : decode cX6_marks 57 = .ok (.invokevirtual 199, 3) := by decide +kernel
theorem dX6_marks_60 : decode cX6_marks 60 = .ok (.aload_n 0, 1) := by decide +kernel
theorem dX6_marks_61 : decode cX6_marks 61 = .ok (.iconst (-1), 1) := by decide +kernel
theorem dX6_marks_62 : decode cX6_marks 62 = .ok (.putfield 65, 3) := by decide +kernel
theorem dX6_marks_65 : decode cX6_marks 65 = .ok (.iload_n 2, 1) := by decide +kernel
theorem dX6_marks_66 : decode cX6_marks 66 = .ok (.ireturn, 1) := by decide +kernel
theorem dX6_day_0 : decode cX6_day 0 = .ok (.aload_n 0, 1) := by decide +kernel
theorem dX6_day_1 : decode cX6_day 1 = .ok (.invokevirtual 72, 3) := by decide +kernel
theorem dX6_day_4 : decode cX6_day 4 = .ok (.istore_n 1, 1) := by decide +kernel
theorem dX6_day_5 : decode cX6_day 5 = .ok (.aload_n 0, 1) := by decide +kernel
theorem dX6_day_6 : decode cX6_day 6 = .ok (.iload_n 1, 1) := by decide +kernel
theorem dX6_day_7 : decode cX6_day 7 = .ok (.invokevirtual 203, 3) := by decide +kernel
theorem dX6_day_10 : decode cX6_day 10 = .ok (.istore_n 2, 1) := by decide +kernel
theorem dX6_day_11 : decode cX6_day 11 = .ok (.iload_n 2, 1) := by decide +kernel
theorem dX6_day_12 : decode cX6_day 12 = .ok (.iconst (-1), 1) := by decide +kernel
theorem dX6_day_13 : decode cX6_day 13 = .ok (.if_icmp .eq 7, 3) := by decide +kernel
theorem dX6_day_16 : decode cX6_day 16 = .ok (.iconst (-1), 1) := by decide +kernel
theorem dX6_day_17 : decode cX6_day 17 = .ok (.iload_n 2, 1) := by decide +kernel
theorem dX6_day_18 : decode cX6_day 18 = .ok (.isub, 1) := by decide +kernel
theorem dX6_day_19 : decode cX6_day 19 = .ok (.ireturn, 1) := by decide +kernel
theorem dX6_day_20 : decode cX6_day 20 = .ok (.iconst 0, 1) := by decide +kernel
theorem dX6_day_21 : decode cX6_day 21 = .ok (.istore_n 3, 1) := by decide +kernel
theorem dX6_day_22 : decode cX6_day 22 = .ok (.iconst 0, 1) := by decide +kernel
theorem dX6_day_23 : decode cX6_day 23 = .ok (.istore 4, 2) := by decide +kernel
theorem dX6_day_25 : decode cX6_day 25 = .ok (.iconst 0, 1) := by decide +kernel
theorem dX6_day_26 : decode cX6_day 26 = .ok (.istore 5, 2) := by decide +kernel
theorem dX6_day_28 : decode cX6_day 28 = .ok (.iload 5, 2) := by decide +kernel
theorem dX6_day_30 : decode cX6_day 30 = .ok (.iload_n 1, 1) := by decide +kernel
theorem dX6_day_31 : decode cX6_day 31 = .ok (.if_icmp .ge 48, 3) := by decide +kernel
theorem dX6_day_34 : decode cX6_day 34 = .ok (.iload 4, 2) := by decide +kernel
theorem dX6_day_36 : decode cX6_day 36 = .ok (.ifCond .ne 43, 3) := by decide +kernel
theorem dX6_day_39 : decode cX6_day 39 = .ok (.aload_n 0, 1) := by decide +kernel
theorem dX6_day_40 : decode cX6_day 40 = .ok (.iload 5, 2) := by decide +kernel
theorem dX6_day_42 : decode cX6_day 42 = .ok (.invokevirtual 206, 3) := by decide +kernel
theorem dX6_day_45 : decode cX6_day 45 = .ok (.ifCond .ge 9, 3) := by decide +kernel
theorem dX6_day_48 : decode cX6_day 48 = .ok (.iconst 1, 1) := by decide +kernel
theorem dX6_day_49 : decode cX6_day 49 = .ok (.istore 4, 2) := by decide +kernel
theorem dX6_day_51 : decode cX6_day 51 = .ok (.goto 6, 3) := by decide +kernel
theorem dX6_day_54 : decode cX6_day 54 = .ok (.iinc 3 1, 3) := by decide +kernel
theorem dX6_day_57 : decode cX6_day 57 = .ok (.iload 5, 2) := by decide +kernel
theorem dX6_day_59 : decode cX6_day 59 = .ok (.iconst 1, 1) := by decide +kernel
theorem dX6_day_60 : decode cX6_day 60 = .ok (.aload_n 0, 1) := by decide +kernel
theorem dX6_day_61 : decode cX6_day 61 = .ok (.getfield 9, 3) := by decide +kernel
theorem dX6_day_64 : decode cX6_day 64 = .ok (.iload 5, 2) := by decide +kernel
theorem dX6_day_66 : decode cX6_day 66 = .ok (.iaload, 1) := by decide +kernel
theorem dX6_day_67 : decode cX6_day 67 = .ok (.invokestatic 209, 3) := by decide +kernel
theorem dX6_day_70 : decode cX6_day 70 = .ok (.invokestatic 212, 3) := by decide +kernel
theorem dX6_day_73 : decode cX6_day 73 = .ok (.iadd, 1) := by decide +kernel
theorem dX6_day_74 : decode cX6_day 74 = .ok (.istore 5, 2) := by decide +kernel
theorem dX6_day_76 : decode cX6_day 76 = .ok (.goto (-48), 3) := by decide +kernel
theorem dX6_day_79 : decode cX6_day 79 = .ok (.aload_n 0, 1) := by decide +kernel
theorem dX6_day_80 : decode cX6_day 80 = .ok (.getfield 16, 3) := by decide +kernel
theorem dX6_day_83 : decode cX6_day 83 = .ok (.iload 4, 2) := by decide +kernel
theorem dX6_day_85 : decode cX6_day 85 = .ok (.i2l, 1) := by decide +kernel
theorem dX6_day_86 : decode cX6_day 86 = .ok (.aload_n 0, 1) := by decide +kernel
theorem dX6_day_87 : decode cX6_day 87 = .ok (.getfield 30, 3) := by decide +kernel
theorem dX6_day_90 : decode cX6_day 90 = .ok (.invokevirtual 84, 3) := by decide +kernel
theorem dX6_day_93 : decode cX6_day 93 = .ok (.getfield 104, 3) := by decide +kernel
theorem dX6_day_96 : decode cX6_day 96 = .ok (.i2l, 1) := by decide +kernel
theorem dX6_day_97 : decode cX6_day 97 = .ok (.invokevirtual 217, 3) := by decide +kernel
theorem dX6_day_100 : decode cX6_day 100 = .ok (.iload_n 3, 1) := by decide +kernel
theorem dX6_day_101 : decode cX6_day 101 = .ok (.ireturn, 1) := by decide +kernel
theorem dX6_undo_0 : decode cX6_undo 0 = .ok (.aload_n 0, 1) := by decide +kernel
theorem dX6_undo_1 : decode cX6_undo 1 = .ok (.getfield 30, 3) := by decide +kernel
theorem dX6_undo_4 : decode cX6_undo 4 = .ok (.getfield 221, 3) := by decide +kernel
theorem dX6_undo_7 : decode cX6_undo 7 = .ok (.iconst 1, 1) := by decide +kernel
theorem dX6_undo_8 : decode cX6_undo 8 = .ok (.if_icmp .ge 5, 3) := by decide +kernel
theorem dX6_undo_11 : decode cX6_undo 11 = .ok (.iconst (-1), 1) := by decide +kernel
theorem dX6_undo_12 : decode cX6_undo 12 = .ok (.ireturn, 1) := by decide +kernel
theorem dX6_undo_13 : decode cX6_undo 13 = .ok (.aload_n 0, 1) := by decide +kernel
theorem dX6_undo_14 : decode cX6_undo 14 = .ok (.getfield 30, 3) := by decide +kernel
theorem dX6_undo_17 : decode cX6_undo 17 = .ok (.invokevirtual 224, 3) := by decide +kernel
theorem dX6_undo_20 : decode cX6_undo 20 = .ok (.aload_n 0, 1) := by decide +kernel
theorem dX6_undo_21 : decode cX6_undo 21 = .ok (.invokevirtual 101, 3) := by decide +kernel
theorem dX6_undo_24 : decode cX6_undo 24 = .ok (.aload_n 0, 1) := by decide +kernel
theorem dX6_undo_25 : decode cX6_undo 25 = .ok (.getfield 30, 3) := by decide +kernel
theorem dX6_undo_28 : decode cX6_undo 28 = .ok (.getfield 221, 3) := by decide +kernel
theorem dX6_undo_31 : decode cX6_undo 31 = .ok (.ireturn, 1) := by decide +kernel
theorem dX6_redo_0 : decode cX6_redo 0 = .ok (.aload_n 0, 1) := by decide +kernel
theorem dX6_redo_1 : decode cX6_redo 1 = .ok (.getfield 30, 3) := by decide +kernel
theorem dX6_redo_4 : decode cX6_redo 4 = .ok (.getfield 227, 3) := by decide +kernel
theorem dX6_redo_7 : decode cX6_redo 7 = .ok (.iconst 1, 1) := by decide +kernel
theorem dX6_redo_8 : decode cX6_redo 8 = .ok (.if_icmp .ge 5, 3) := by decide +kernel
theorem dX6_redo_11 : decode cX6_redo 11 = .ok (.iconst (-1), 1) := by decide +kernel
theorem dX6_redo_12 : decode cX6_redo 12 = .ok (.ireturn, 1) := by decide +kernel
theorem dX6_redo_13 : decode cX6_redo 13 = .ok (.aload_n 0, 1) := by decide +kernel
theorem dX6_redo_14 : decode cX6_redo 14 = .ok (.getfield 30, 3) := by decide +kernel
theorem dX6_redo_17 : decode cX6_redo 17 = .ok (.invokevirtual 230, 3) := by decide +kernel
theorem dX6_redo_20 : decode cX6_redo 20 = .ok (.aload_n 0, 1) := by decide +kernel
theorem dX6_redo_21 : decode cX6_redo 21 = .ok (.invokevirtual 101, 3) := by decide +kernel
theorem dX6_redo_24 : decode cX6_redo 24 = .ok (.aload_n 0, 1) := by decide +kernel
theorem dX6_redo_25 : decode cX6_redo 25 = .ok (.getfield 30, 3) := by decide +kernel
theorem dX6_redo_28 : decode cX6_redo 28 = .ok (.getfield 227, 3) := by decide +kernel
theorem dX6_redo_31 : decode cX6_redo 31 = .ok (.ireturn, 1) := by decide +kernel
theorem dX6_at_0 : decode cX6_at 0 = .ok (.aload_n 0, 1) := by decide +kernel
theorem dX6_at_1 : decode cX6_at 1 = .ok (.invokevirtual 160, 3) := by decide +kernel
theorem dX6_at_4 : decode cX6_at 4 = .ok (.astore_n 2, 1) := by decide +kernel
theorem dX6_at_5 : decode cX6_at 5 = .ok (.aload_n 2, 1) := by decide +kernel
theorem dX6_at_6 : decode cX6_at 6 = .ok (.iload_n 1, 1) := by decide +kernel
theorem dX6_at_7 : decode cX6_at 7 = .ok (.invokevirtual 233, 3) := by decide +kernel
theorem dX6_at_10 : decode cX6_at 10 = .ok (.ifCond .eq 11, 3) := by decide +kernel
theorem dX6_at_13 : decode cX6_at 13 = .ok (.aload_n 2, 1) := by decide +kernel
theorem dX6_at_14 : decode cX6_at 14 = .ok (.iload_n 1, 1) := by decide +kernel
theorem dX6_at_15 : decode cX6_at 15 = .ok (.invokevirtual 236, 3) := by decide +kernel
theorem dX6_at_18 : decode cX6_at 18 = .ok (.goto 4, 3) := by decide +kernel
theorem dX6_at_21 : decode cX6_at 21 = .ok (.iconst (-1), 1) := by decide +kernel
theorem dX6_at_22 : decode cX6_at 22 = .ok (.ireturn, 1) := by decide +kernel
theorem dX6_reads_0 : decode cX6_reads 0 = .ok (.aload_n 0, 1) := by decide +kernel
theorem dX6_reads_1 : decode cX6_reads 1 = .ok (.iload_n 1, 1) := by decide +kernel
theorem dX6_reads_2 : decode cX6_reads 2 = .ok (.invokevirtual 168, 3) := by decide +kernel
theorem dX6_reads_5 : decode cX6_reads 5 = .ok (.ifCond .eq 14, 3) := by decide +kernel
theorem dX6_reads_8 : decode cX6_reads 8 = .ok (.iload_n 2, 1) := by decide +kernel
theorem dX6_reads_9 : decode cX6_reads 9 = .ok (.iconst 1, 1) := by decide +kernel
theorem dX6_reads_10 : decode cX6_reads 10 = .ok (.if_icmp .lt 9, 3) := by decide +kernel
theorem dX6_reads_13 : decode cX6_reads 13 = .ok (.iload_n 2, 1) := by decide +kernel
theorem dX6_reads_14 : decode cX6_reads 14 = .ok (.bipush 16, 2) := by decide +kernel
theorem dX6_reads_16 : decode cX6_reads 16 = .ok (.if_icmp .le 5, 3) := by decide +kernel
theorem dX6_reads_19 : decode cX6_reads 19 = .ok (.iconst (-1), 1) := by decide +kernel
theorem dX6_reads_20 : decode cX6_reads 20 = .ok (.ireturn, 1) := by decide +kernel
theorem dX6_reads_21 : decode cX6_reads 21 = .ok (.aload_n 0, 1) := by decide +kernel
theorem dX6_reads_22 : decode cX6_reads 22 = .ok (.invokevirtual 160, 3) := by decide +kernel
theorem dX6_reads_25 : decode cX6_reads 25 = .ok (.astore_n 3, 1) := by decide +kernel
theorem dX6_reads_26 : decode cX6_reads 26 = .ok (.iload_n 2, 1) := by decide +kernel
theorem dX6_reads_27 : decode cX6_reads 27 = .ok (.aload_n 3, 1) := by decide +kernel
theorem dX6_reads_28 : decode cX6_reads 28 = .ok (.getfield 181, 3) := by decide +kernel
theorem dX6_reads_31 : decode cX6_reads 31 = .ok (.iload_n 1, 1) := by decide +kernel
theorem dX6_reads_32 : decode cX6_reads 32 = .ok (.isub, 1) := by decide +kernel
theorem dX6_reads_33 : decode cX6_reads 33 = .ok (.invokestatic 239, 3) := by decide +kernel
theorem dX6_reads_36 : decode cX6_reads 36 = .ok (.istore 4, 2) := by decide +kernel
theorem dX6_reads_38 : decode cX6_reads 38 = .ok (.aload_n 0, 1) := by decide +kernel
theorem dX6_reads_39 : decode cX6_reads 39 = .ok (.getfield 16, 3) := by decide +kernel
theorem dX6_reads_42 : decode cX6_reads 42 = .ok (.invokevirtual 242, 3) := by decide +kernel
theorem dX6_reads_45 : decode cX6_reads 45 = .ok (.iconst 0, 1) := by decide +kernel
theorem dX6_reads_46 : decode cX6_reads 46 = .ok (.istore 5, 2) := by decide +kernel
theorem dX6_reads_48 : decode cX6_reads 48 = .ok (.iload 5, 2) := by decide +kernel
theorem dX6_reads_50 : decode cX6_reads 50 = .ok (.iload 4, 2) := by decide +kernel
theorem dX6_reads_52 : decode cX6_reads 52 = .ok (.if_icmp .ge 25, 3) := by decide +kernel
theorem dX6_reads_55 : decode cX6_reads 55 = .ok (.aload_n 0, 1) := by decide +kernel
theorem dX6_reads_56 : decode cX6_reads 56 = .ok (.getfield 16, 3) := by decide +kernel
theorem dX6_reads_59 : decode cX6_reads 59 = .ok (.aload_n 3, 1) := by decide +kernel
theorem dX6_reads_60 : decode cX6_reads 60 = .ok (.iload_n 1, 1) := by decide +kernel
theorem dX6_reads_61 : decode cX6_reads 61 = .ok (.iload 5, 2) := by decide +kernel
theorem dX6_reads_63 : decode cX6_reads 63 = .ok (.iadd, 1) := by decide +kernel
theorem dX6_reads_64 : decode cX6_reads 64 = .ok (.invokevirtual 236, 3) := by decide +kernel
theorem dX6_reads_67 : decode cX6_reads 67 = .ok (.i2l, 1) := by decide +kernel
theorem dX6_reads_68 : decode cX6_reads 68 = .ok (.invokevirtual 243, 3) := by decide +kernel
theorem dX6_reads_71 : decode cX6_reads 71 = .ok (.iinc 5 1, 3) := by decide +kernel
theorem dX6_reads_74 : decode cX6_reads 74 = .ok (.goto (-26), 3) := by decide +kernel
theorem dX6_reads_77 : decode cX6_reads 77 = .ok (.iload 4, 2) := by decide +kernel
theorem dX6_reads_79 : decode cX6_reads 79 = .ok (.ireturn, 1) := by decide +kernel
theorem dX6_line_0 : decode cX6_line 0 = .ok (.aload_n 0, 1) := by decide +kernel
theorem dX6_line_1 : decode cX6_line 1 = .ok (.iload_n 1, 1) := by decide +kernel
theorem dX6_line_2 : decode cX6_line 2 = .ok (.invokevirtual 168, 3) := by decide +kernel
theorem dX6_line_5 : decode cX6_line 5 = .ok (.ifCond .ne 5, 3) := by decide +kernel
theorem dX6_line_8 : decode cX6_line 8 = .ok (.iconst (-1), 1) := by decide +kernel
theorem dX6_line_9 : decode cX6_line 9 = .ok (.ireturn, 1) := by decide +kernel
theorem dX6_line_10 : decode cX6_line 10 = .ok (.aload_n 0, 1) := by decide +kernel
theorem dX6_line_11 : decode cX6_line 11 = .ok (.invokevirtual 160, 3) := by decide +kernel
theorem dX6_line_14 : decode cX6_line 14 = .ok (.astore_n 2, 1) := by decide +kernel
theorem dX6_line_15 : decode cX6_line 15 = .ok (.aload_n 0, 1) := by decide +kernel
theorem dX6_line_16 : decode cX6_line 16 = .ok (.getfield 16, 3) := by decide +kernel
theorem dX6_line_19 : decode cX6_line 19 = .ok (.iload_n 1, 1) := by decide +kernel
theorem dX6_line_20 : decode cX6_line 20 = .ok (.aload_n 2, 1) := by decide +kernel
theorem dX6_line_21 : decode cX6_line 21 = .ok (.iload_n 1, 1) := by decide +kernel
theorem dX6_line_22 : decode cX6_line 22 = .ok (.invokevirtual 190, 3) := by decide +kernel
theorem dX6_line_25 : decode cX6_line 25 = .ok (.isub, 1) := by decide +kernel
theorem dX6_line_26 : decode cX6_line 26 = .ok (.i2l, 1) := by decide +kernel
theorem dX6_line_27 : decode cX6_line 27 = .ok (.invokevirtual 246, 3) := by decide +kernel
theorem dX6_line_30 : decode cX6_line 30 = .ok (.aload_n 2, 1) := by decide +kernel
theorem dX6_line_31 : decode cX6_line 31 = .ok (.iconst 0, 1) := by decide +kernel
theorem dX6_line_32 : decode cX6_line 32 = .ok (.iload_n 1, 1) := by decide +kernel
theorem dX6_line_33 : decode cX6_line 33 = .ok (.invokevirtual 164, 3) := by decide +kernel
theorem dX6_line_36 : decode cX6_line 36 = .ok (.ireturn, 1) := by decide +kernel
theorem dX6_starts_0 : decode cX6_starts 0 = .ok (.aload_n 0, 1) := by decide +kernel
theorem dX6_starts_1 : decode cX6_starts 1 = .ok (.invokevirtual 160, 3) := by decide +kernel
theorem dX6_starts_4 : decode cX6_starts 4 = .ok (.astore_n 2, 1) := by decide +kernel
theorem dX6_starts_5 : decode cX6_starts 5 = .ok (.aload_n 2, 1) := by decide +kernel
theorem dX6_starts_6 : decode cX6_starts 6 = .ok (.iload_n 1, 1) := by decide +kernel
theorem dX6_starts_7 : decode cX6_starts 7 = .ok (.invokevirtual 178, 3) := by decide +kernel
theorem dX6_starts_10 : decode cX6_starts 10 = .ok (.istore_n 3, 1) := by decide +kernel
theorem dX6_starts_11 : decode cX6_starts 11 = .ok (.iload_n 3, 1) := by decide +kernel
theorem dX6_starts_12 : decode cX6_starts 12 = .ok (.iconst (-1), 1) := by decide +kernel
theorem dX6_starts_13 : decode cX6_starts 13 = .ok (.if_icmp .ne 5, 3) := by decide +kernel
theorem dX6_starts_16 : decode cX6_starts 16 = .ok (.iconst (-1), 1) := by decide +kernel
theorem dX6_starts_17 : decode cX6_starts 17 = .ok (.ireturn, 1) := by decide +kernel
theorem dX6_starts_18 : decode cX6_starts 18 = .ok (.aload_n 0, 1) := by decide +kernel
theorem dX6_starts_19 : decode cX6_starts 19 = .ok (.getfield 16, 3) := by decide +kernel
theorem dX6_starts_22 : decode cX6_starts 22 = .ok (.aload_n 2, 1) := by decide +kernel
theorem dX6_starts_23 : decode cX6_starts 23 = .ok (.iload_n 3, 1) := by decide +kernel
theorem dX6_starts_24 : decode cX6_starts 24 = .ok (.invokevirtual 184, 3) := by decide +kernel
theorem dX6_starts_27 : decode cX6_starts 27 = .ok (.iload_n 3, 1) := by decide +kernel
theorem dX6_starts_28 : decode cX6_starts 28 = .ok (.isub, 1) := by decide +kernel
theorem dX6_starts_29 : decode cX6_starts 29 = .ok (.i2l, 1) := by decide +kernel
theorem dX6_starts_30 : decode cX6_starts 30 = .ok (.invokevirtual 246, 3) := by decide +kernel
theorem dX6_starts_33 : decode cX6_starts 33 = .ok (.iload_n 3, 1) := by decide +kernel
theorem dX6_starts_34 : decode cX6_starts 34 = .ok (.ireturn, 1) := by decide +kernel
theorem dX6_place_0 : decode cX6_place 0 = .ok (.aload_n 0, 1) := by decide +kernel
theorem dX6_place_1 : decode cX6_place 1 = .ok (.invokevirtual 160, 3) := by decide +kernel
theorem dX6_place_4 : decode cX6_place 4 = .ok (.astore_n 3, 1) := by decide +kernel
theorem dX6_place_5 : decode cX6_place 5 = .ok (.aload_n 3, 1) := by decide +kernel
theorem dX6_place_6 : decode cX6_place 6 = .ok (.iload_n 1, 1) := by decide +kernel
theorem dX6_place_7 : decode cX6_place 7 = .ok (.invokevirtual 178, 3) := by decide +kernel
theorem dX6_place_10 : decode cX6_place 10 = .ok (.istore 4, 2) := by decide +kernel
theorem dX6_place_12 : decode cX6_place 12 = .ok (.iload 4, 2) := by decide +kernel
theorem dX6_place_14 : decode cX6_place 14 = .ok (.iconst (-1), 1) := by decide +kernel
theorem dX6_place_15 : decode cX6_place 15 = .ok (.if_icmp .eq 7, 3) := by decide +kernel
theorem dX6_place_18 : decode cX6_place 18 = .ok (.iload_n 2, 1) := by decide +kernel
theorem dX6_place_19 : decode cX6_place 19 = .ok (.ifCond .ge 5, 3) := by decide +kernel
theorem dX6_place_22 : decode cX6_place 22 = .ok (.iconst (-1), 1) := by decide +kernel
theorem dX6_place_23 : decode cX6_place 23 = .ok (.ireturn, 1) := by decide +kernel
theorem dX6_place_24 : decode cX6_place 24 = .ok (.iload_n 2, 1) := by decide +kernel
theorem dX6_place_25 : decode cX6_place 25 = .ok (.aload_n 3, 1) := by decide +kernel
theorem dX6_place_26 : decode cX6_place 26 = .ok (.iload 4, 2) := by decide +kernel
theorem dX6_place_28 : decode cX6_place 28 = .ok (.invokevirtual 184, 3) := by decide +kernel
theorem dX6_place_31 : decode cX6_place 31 = .ok (.iload 4, 2) := by decide +kernel
theorem dX6_place_33 : decode cX6_place 33 = .ok (.isub, 1) := by decide +kernel
theorem dX6_place_34 : decode cX6_place 34 = .ok (.invokestatic 239, 3) := by decide +kernel
theorem dX6_place_37 : decode cX6_place 37 = .ok (.istore 5, 2) := by decide +kernel
theorem dX6_place_39 : decode cX6_place 39 = .ok (.aload_n 0, 1) := by decide +kernel
theorem dX6_place_40 : decode cX6_place 40 = .ok (.getfield 16, 3) := by decide +kernel
theorem dX6_place_43 : decode cX6_place 43 = .ok (.iload 5, 2) := by decide +kernel
theorem dX6_place_45 : decode cX6_place 45 = .ok (.i2l, 1) := by decide +kernel
theorem dX6_place_46 : decode cX6_place 46 = .ok (.invokevirtual 246, 3) := by decide +kernel
theorem dX6_place_49 : decode cX6_place 49 = .ok (.iload 4, 2) := by decide +kernel
theorem dX6_place_51 : decode cX6_place 51 = .ok (.iload 5, 2) := by decide +kernel
theorem dX6_place_53 : decode cX6_place 53 = .ok (.iadd, 1) := by decide +kernel
theorem dX6_place_54 : decode cX6_place 54 = .ok (.ireturn, 1) := by decide +kernel
theorem dX6_longest_0 : decode cX6_longest 0 = .ok (.aload_n 0, 1) := by decide +kernel
theorem dX6_longest_1 : decode cX6_longest 1 = .ok (.invokevirtual 160, 3) := by decide +kernel
theorem dX6_longest_4 : decode cX6_longest 4 = .ok (.astore_n 1, 1) := by decide +kernel
theorem dX6_longest_5 : decode cX6_longest 5 = .ok (.iconst 0, 1) := by decide +kernel
theorem dX6_longest_6 : decode cX6_longest 6 = .ok (.istore_n 2, 1) := by decide +kernel
theorem dX6_longest_7 : decode cX6_longest 7 = .ok (.iconst (-1), 1) := by decide +kernel
theorem dX6_longest_8 : decode cX6_longest 8 = .ok (.istore_n 3, 1) := by decide +kernel
theorem dX6_longest_9 : decode cX6_longest 9 = .ok (.iconst 0, 1) := by decide +kernel
theorem dX6_longest_10 : decode cX6_longest 10 = .ok (.istore 4, 2) := by decide +kernel
theorem dX6_longest_12 : decode cX6_longest 12 = .ok (.iconst 0, 1) := by decide +kernel
theorem dX6_longest_13 : decode cX6_longest 13 = .ok (.istore 5, 2) := by decide +kernel
theorem dX6_longest_15 : decode cX6_longest 15 = .ok (.iconst 0, 1) := by decide +kernel
theorem dX6_longest_16 : decode cX6_longest 16 = .ok (.istore 6, 2) := by decide +kernel
theorem dX6_longest_18 : decode cX6_longest 18 = .ok (.iconst 0, 1) := by decide +kernel
theorem dX6_longest_19 : decode cX6_longest 19 = .ok (.istore 7, 2) := by decide +kernel
theorem dX6_longest_21 : decode cX6_longest 21 = .ok (.iload 7, 2) := by decide +kernel
theorem dX6_longest_23 : decode cX6_longest 23 = .ok (.aload_n 1, 1) := by decide +kernel
theorem dX6_longest_24 : decode cX6_longest 24 = .ok (.getfield 181, 3) := by decide +kernel
theorem dX6_longest_27 : decode cX6_longest 27 = .ok (.if_icmp .gt 66, 3) := by decide +kernel
theorem dX6_longest_30 : decode cX6_longest 30 = .ok (.iload 7, 2) := by decide +kernel
theorem dX6_longest_32 : decode cX6_longest 32 = .ok (.aload_n 1, 1) := by decide +kernel
theorem dX6_longest_33 : decode cX6_longest 33 = .ok (.getfield 181, 3) := by decide +kernel
theorem dX6_longest_36 : decode cX6_longest 36 = .ok (.if_icmp .eq 14, 3) := by decide +kernel
theorem dX6_longest_39 : decode cX6_longest 39 = .ok (.aload_n 1, 1) := by decide +kernel
theorem dX6_longest_40 : decode cX6_longest 40 = .ok (.iload 7, 2) := by decide +kernel
theorem dX6_longest_42 : decode cX6_longest 42 = .ok (.invokevirtual 236, 3) := by decide +kernel
theorem dX6_longest_45 : decode cX6_longest 45 = .ok (.bipush 10, 2) := by decide +kernel
theorem dX6_longest_47 : decode cX6_longest 47 = .ok (.if_icmp .ne 40, 3) := by decide +kernel
theorem dX6_longest_50 : decode cX6_longest 50 = .ok (.iload 7, 2) := by decide +kernel
theorem dX6_longest_52 : decode cX6_longest 52 = .ok (.iload 6, 2) := by decide +kernel
theorem dX6_longest_54 : decode cX6_longest 54 = .ok (.isub, 1) := by decide +kernel
theorem dX6_longest_55 : decode cX6_longest 55 = .ok (.iload_n 3, 1) := by decide +kernel
theorem dX6_longest_56 : decode cX6_longest 56 = .ok (.if_icmp .le 12, 3) := by decide +kernel
theorem dX6_longest_59 : decode cX6_longest 59 = .ok (.iload 7, 2) := by decide +kernel
theorem dX6_longest_61 : decode cX6_longest 61 = .ok (.iload 6, 2) := by decide +kernel
theorem dX6_longest_63 : decode cX6_longest 63 = .ok (.isub, 1) := by decide +kernel
theorem dX6_longest_64 : decode cX6_longest 64 = .ok (.istore_n 3, 1) := by decide +kernel
theorem dX6_longest_65 : decode cX6_longest 65 = .ok (.iload 5, 2) := by decide +kernel
theorem dX6_longest_67 : decode cX6_longest 67 = .ok (.istore_n 2, 1) := by decide +kernel
theorem dX6_longest_68 : decode cX6_longest 68 = .ok (.iload 7, 2) := by decide +kernel
theorem dX6_longest_70 : decode cX6_longest 70 = .ok (.iload 6, 2) := by decide +kernel
theorem dX6_longest_72 : decode cX6_longest 72 = .ok (.if_icmp .ne 6, 3) := by decide +kernel
theorem dX6_longest_75 : decode cX6_longest 75 = .ok (.iinc 4 1, 3) := by decide +kernel
theorem dX6_longest_78 : decode cX6_longest 78 = .ok (.iload 7, 2) := by decide +kernel
theorem dX6_longest_80 : decode cX6_longest 80 = .ok (.iconst 1, 1) := by decide +kernel
theorem dX6_longest_81 : decode cX6_longest 81 = .ok (.iadd, 1) := by decide +kernel
theorem dX6_longest_82 : decode cX6_longest 82 = .ok (.istore 6, 2) := by decide +kernel
theorem dX6_longest_84 : decode cX6_longest 84 = .ok (.iinc 5 1, 3) := by decide +kernel
theorem dX6_longest_87 : decode cX6_longest 87 = .ok (.iinc 7 1, 3) := by decide +kernel
theorem dX6_longest_90 : decode cX6_longest 90 = .ok (.goto (-69), 3) := by decide +kernel
theorem dX6_longest_93 : decode cX6_longest 93 = .ok (.aload_n 0, 1) := by decide +kernel
theorem dX6_longest_94 : decode cX6_longest 94 = .ok (.getfield 16, 3) := by decide +kernel
theorem dX6_longest_97 : decode cX6_longest 97 = .ok (.iload_n 3, 1) := by decide +kernel
theorem dX6_longest_98 : decode cX6_longest 98 = .ok (.i2l, 1) := by decide +kernel
theorem dX6_longest_99 : decode cX6_longest 99 = .ok (.iload 4, 2) := by decide +kernel
theorem dX6_longest_101 : decode cX6_longest 101 = .ok (.i2l, 1) := by decide +kernel
theorem dX6_longest_102 : decode cX6_longest 102 = .ok (.invokevirtual 217, 3) := by decide +kernel
theorem dX6_longest_105 : decode cX6_longest 105 = .ok (.iload_n 2, 1) := by decide +kernel
theorem dX6_longest_106 : decode cX6_longest 106 = .ok (.ireturn, 1) := by decide +kernel
theorem dX6_mark_0 : decode cX6_mark 0 = .ok (.iload_n 1, 1) := by decide +kernel
theorem dX6_mark_1 : decode cX6_mark 1 = .ok (.ifCond .lt 9, 3) := by decide +kernel
theorem dX6_mark_4 : decode cX6_mark 4 = .ok (.iload_n 1, 1) := by decide +kernel
theorem dX6_mark_5 : decode cX6_mark 5 = .ok (.bipush 8, 2) := by decide +kernel
theorem dX6_mark_7 : decode cX6_mark 7 = .ok (.if_icmp .lt 5, 3) := by decide +kernel
theorem dX6_mark_10 : decode cX6_mark 10 = .ok (.iconst (-1), 1) := by decide +kernel
theorem dX6_mark_11 : decode cX6_mark 11 = .ok (.ireturn, 1) := by decide +kernel
theorem dX6_mark_12 : decode cX6_mark 12 = .ok (.aload_n 0, 1) := by decide +kernel
theorem dX6_mark_13 : decode cX6_mark 13 = .ok (.getfield 30, 3) := by decide +kernel
theorem dX6_mark_16 : decode cX6_mark 16 = .ok (.invokevirtual 84, 3) := by decide +kernel
theorem dX6_mark_19 : decode cX6_mark 19 = .ok (.getfield 248, 3) := by decide +kernel
theorem dX6_mark_22 : decode cX6_mark 22 = .ok (.iload_n 1, 1) := by decide +kernel
theorem dX6_mark_23 : decode cX6_mark 23 = .ok (.iaload, 1) := by decide +kernel
theorem dX6_mark_24 : decode cX6_mark 24 = .ok (.istore_n 2, 1) := by decide +kernel
theorem dX6_mark_25 : decode cX6_mark 25 = .ok (.iload_n 2, 1) := by decide +kernel
theorem dX6_mark_26 : decode cX6_mark 26 = .ok (.iconst (-1), 1) := by decide +kernel
theorem dX6_mark_27 : decode cX6_mark 27 = .ok (.if_icmp .ne 8, 3) := by decide +kernel
theorem dX6_mark_30 : decode cX6_mark 30 = .ok (.bipush (-2), 2) := by decide +kernel
theorem dX6_mark_32 : decode cX6_mark 32 = .ok (.goto 4, 3) := by decide +kernel
theorem dX6_mark_35 : decode cX6_mark 35 = .ok (.iload_n 2, 1) := by decide +kernel
theorem dX6_mark_36 : decode cX6_mark 36 = .ok (.ireturn, 1) := by decide +kernel
theorem dX6_between_0 : decode cX6_between 0 = .ok (.iload_n 2, 1) := by decide +kernel
theorem dX6_between_1 : decode cX6_between 1 = .ok (.iload_n 1, 1) := by decide +kernel
theorem dX6_between_2 : decode cX6_between 2 = .ok (.if_icmp .ge 5, 3) := by decide +kernel
theorem dX6_between_5 : decode cX6_between 5 = .ok (.iconst (-1), 1) := by decide +kernel
theorem dX6_between_6 : decode cX6_between 6 = .ok (.ireturn, 1) := by decide +kernel
theorem dX6_between_7 : decode cX6_between 7 = .ok (.aload_n 0, 1) := by decide +kernel
theorem dX6_between_8 : decode cX6_between 8 = .ok (.getfield 30, 3) := by decide +kernel
theorem dX6_between_11 : decode cX6_between 11 = .ok (.invokevirtual 84, 3) := by decide +kernel
theorem dX6_between_14 : decode cX6_between 14 = .ok (.iload_n 1, 1) := by decide +kernel
theorem dX6_between_15 : decode cX6_between 15 = .ok (.iconst 0, 1) := by decide +kernel
theorem dX6_between_16 : decode cX6_between 16 = .ok (.invokestatic 212, 3) := by decide +kernel
theorem dX6_between_19 : decode cX6_between 19 = .ok (.iload_n 2, 1) := by decide +kernel
theorem dX6_between_20 : decode cX6_between 20 = .ok (.invokevirtual 251, 3) := by decide +kernel
theorem dX6_between_23 : decode cX6_between 23 = .ok (.istore_n 3, 1) := by decide +kernel
theorem dX6_between_24 : decode cX6_between 24 = .ok (.aload_n 0, 1) := by decide +kernel
theorem dX6_between_25 : decode cX6_between 25 = .ok (.getfield 16, 3) := by decide +kernel
theorem dX6_between_28 : decode cX6_between 28 = .ok (.iload_n 3, 1) := by decide +kernel
theorem dX6_between_29 : decode cX6_between 29 = .ok (.invokestatic 254, 3) := by decide +kernel
theorem dX6_between_32 : decode cX6_between 32 = .ok (.i2l, 1) := by decide +kernel
theorem dX6_between_33 : decode cX6_between 33 = .ok (.invokevirtual 246, 3) := by decide +kernel
theorem dX6_between_36 : decode cX6_between 36 = .ok (.iload_n 3, 1) := by decide +kernel
theorem dX6_between_37 : decode cX6_between 37 = .ok (.ireturn, 1) := by decide +kernel
theorem dX6_piece_0 : decode cX6_piece 0 = .ok (.aload_n 0, 1) := by decide +kernel
theorem dX6_piece_1 : decode cX6_piece 1 = .ok (.getfield 30, 3) := by decide +kernel
theorem dX6_piece_4 : decode cX6_piece 4 = .ok (.invokevirtual 84, 3) := by decide +kernel
theorem dX6_piece_7 : decode cX6_piece 7 = .ok (.astore_n 3, 1) := by decide +kernel
theorem dX6_piece_8 : decode cX6_piece 8 = .ok (.iload_n 1, 1) := by decide +kernel
theorem dX6_piece_9 : decode cX6_piece 9 = .ok (.ifCond .lt 20, 3) := by decide +kernel
theorem dX6_piece_12 : decode cX6_piece 12 = .ok (.iload_n 1, 1) := by decide +kernel
theorem dX6_piece_13 : decode cX6_piece 13 = .ok (.aload_n 3, 1) := by decide +kernel
theorem dX6_piece_14 : decode cX6_piece 14 = .ok (.getfield 259, 3) := by decide +kernel
theorem dX6_piece_17 : decode cX6_piece 17 = .ok (.if_icmp .ge 12, 3) := by decide +kernel
theorem dX6_piece_20 : decode cX6_piece 20 = .ok (.iload_n 2, 1) := by decide +kernel
theorem dX6_piece_21 : decode cX6_piece 21 = .ok (.ifCond .lt 8, 3) := by decide +kernel
theorem dX6_piece_24 : decode cX6_piece 24 = .ok (.iload_n 2, 1) := by decide +kernel
theorem dX6_piece_25 : decode cX6_piece 25 = .ok (.iconst 4, 1) := by decide +kernel
theorem dX6_piece_26 : decode cX6_piece 26 = .ok (.if_icmp .le 14, 3) := by decide +kernel
theorem dX6_piece_29 : decode cX6_piece 29 = .ok (.new 107, 3) := by decide +kernel
theorem dX6_piece_32 : decode cX6_piece 32 = .ok (.dup, 1) := by decide +kernel
theorem dX6_piece_33 : decode cX6_piece 33 = .ok (.ldc_w 262, 3) := by decide +kernel
theorem dX6_piece_36 : decode cX6_piece 36 = .ok (.invokespecial 111, 3) := by decide +kernel
theorem dX6_piece_39 : decode cX6_piece 39 = .ok (.athrow, 1) := by decide +kernel
theorem dX6_piece_40 : decode cX6_piece 40 = .ok (.iload_n 2, 1) := by decide +kernel
theorem dX6_piece_41 : decode cX6_piece 41 = .ok (.tableswitch 78 0 3 #[31, 41, 51, 58], 31) := by decide +kernel
theorem dX6_piece_72 : decode cX6_piece 72 = .ok (.aload_n 3, 1) := by decide +kernel
theorem dX6_piece_73 : decode cX6_piece 73 = .ok (.getfield 264, 3) := by decide +kernel
theorem dX6_piece_76 : decode cX6_piece 76 = .ok (.iload_n 1, 1) := by decide +kernel
theorem dX6_piece_77 : decode cX6_piece 77 = .ok (.iaload, 1) := by decide +kernel
theorem dX6_piece_78 : decode cX6_piece 78 = .ok (.invokestatic 267, 3) := by decide +kernel
theorem dX6_piece_81 : decode cX6_piece 81 = .ok (.ireturn, 1) := by decide +kernel
theorem dX6_piece_82 : decode cX6_piece 82 = .ok (.aload_n 3, 1) := by decide +kernel
theorem dX6_piece_83 : decode cX6_piece 83 = .ok (.getfield 264, 3) := by decide +kernel
theorem dX6_piece_86 : decode cX6_piece 86 = .ok (.iload_n 1, 1) := by decide +kernel
theorem dX6_piece_87 : decode cX6_piece 87 = .ok (.iaload, 1) := by decide +kernel
theorem dX6_piece_88 : decode cX6_piece 88 = .ok (.invokestatic 270, 3) := by decide +kernel
theorem dX6_piece_91 : decode cX6_piece 91 = .ok (.ireturn, 1) := by decide +kernel
theorem dX6_piece_92 : decode cX6_piece 92 = .ok (.aload_n 3, 1) := by decide +kernel
theorem dX6_piece_93 : decode cX6_piece 93 = .ok (.getfield 273, 3) := by decide +kernel
theorem dX6_piece_96 : decode cX6_piece 96 = .ok (.iload_n 1, 1) := by decide +kernel
theorem dX6_piece_97 : decode cX6_piece 97 = .ok (.iaload, 1) := by decide +kernel
theorem dX6_piece_98 : decode cX6_piece 98 = .ok (.ireturn, 1) := by decide +kernel
theorem dX6_piece_99 : decode cX6_piece 99 = .ok (.aload_n 0, 1) := by decide +kernel
theorem dX6_piece_100 : decode cX6_piece 100 = .ok (.getfield 23, 3) := by decide +kernel
theorem dX6_piece_103 : decode cX6_piece 103 = .ok (.aload_n 3, 1) := by decide +kernel
theorem dX6_piece_104 : decode cX6_piece 104 = .ok (.getfield 264, 3) := by decide +kernel
theorem dX6_piece_107 : decode cX6_piece 107 = .ok (.iload_n 1, 1) := by decide +kernel
theorem dX6_piece_108 : decode cX6_piece 108 = .ok (.iaload, 1) := by decide +kernel
theorem dX6_piece_109 : decode cX6_piece 109 = .ok (.aload_n 3, 1) := by decide +kernel
theorem dX6_piece_110 : decode cX6_piece 110 = .ok (.getfield 273, 3) := by decide +kernel
theorem dX6_piece_113 : decode cX6_piece 113 = .ok (.iload_n 1, 1) := by decide +kernel
theorem dX6_piece_114 : decode cX6_piece 114 = .ok (.iaload, 1) := by decide +kernel
theorem dX6_piece_115 : decode cX6_piece 115 = .ok (.invokevirtual 120, 3) := by decide +kernel
theorem dX6_piece_118 : decode cX6_piece 118 = .ok (.ireturn, 1) := by decide +kernel
theorem dX6_piece_119 : decode cX6_piece 119 = .ok (.aload_n 3, 1) := by decide +kernel
theorem dX6_piece_120 : decode cX6_piece 120 = .ok (.iload_n 1, 1) := by decide +kernel
theorem dX6_piece_121 : decode cX6_piece 121 = .ok (.invokevirtual 276, 3) := by decide +kernel
theorem dX6_piece_124 : decode cX6_piece 124 = .ok (.ireturn, 1) := by decide +kernel
theorem dX6_shows_0 : decode cX6_shows 0 = .ok (.aload_n 0, 1) := by decide +kernel
theorem dX6_shows_1 : decode cX6_shows 1 = .ok (.invokevirtual 160, 3) := by decide +kernel
theorem dX6_shows_4 : decode cX6_shows 4 = .ok (.astore_n 2, 1) := by decide +kernel
theorem dX6_shows_5 : decode cX6_shows 5 = .ok (.aload_n 2, 1) := by decide +kernel
theorem dX6_shows_6 : decode cX6_shows 6 = .ok (.iload_n 1, 1) := by decide +kernel
theorem dX6_shows_7 : decode cX6_shows 7 = .ok (.invokevirtual 233, 3) := by decide +kernel
theorem dX6_shows_10 : decode cX6_shows 10 = .ok (.ifCond .ne 5, 3) := by decide +kernel
theorem dX6_shows_13 : decode cX6_shows 13 = .ok (.iconst (-1), 1) := by decide +kernel
theorem dX6_shows_14 : decode cX6_shows 14 = .ok (.ireturn, 1) := by decide +kernel
theorem dX6_shows_15 : decode cX6_shows 15 = .ok (.aload_n 0, 1) := by decide +kernel
theorem dX6_shows_16 : decode cX6_shows 16 = .ok (.getfield 30, 3) := by decide +kernel
theorem dX6_shows_19 : decode cX6_shows 19 = .ok (.invokevirtual 84, 3) := by decide +kernel
theorem dX6_shows_22 : decode cX6_shows 22 = .ok (.astore_n 3, 1) := by decide +kernel
theorem dX6_shows_23 : decode cX6_shows 23 = .ok (.aload_n 2, 1) := by decide +kernel
theorem dX6_shows_24 : decode cX6_shows 24 = .ok (.iload_n 1, 1) := by decide +kernel
theorem dX6_shows_25 : decode cX6_shows 25 = .ok (.invokevirtual 279, 3) := by decide +kernel
theorem dX6_shows_28 : decode cX6_shows 28 = .ok (.istore 4, 2) := by decide +kernel
theorem dX6_shows_30 : decode cX6_shows 30 = .ok (.iload_n 1, 1) := by decide +kernel
theorem dX6_shows_31 : decode cX6_shows 31 = .ok (.aload_n 3, 1) := by decide +kernel
theorem dX6_shows_32 : decode cX6_shows 32 = .ok (.iload 4, 2) := by decide +kernel
theorem dX6_shows_34 : decode cX6_shows 34 = .ok (.invokevirtual 276, 3) := by decide +kernel
theorem dX6_shows_37 : decode cX6_shows 37 = .ok (.isub, 1) := by decide +kernel
theorem dX6_shows_38 : decode cX6_shows 38 = .ok (.istore 5, 2) := by decide +kernel
theorem dX6_shows_40 : decode cX6_shows 40 = .ok (.aload_n 3, 1) := by decide +kernel
theorem dX6_shows_41 : decode cX6_shows 41 = .ok (.getfield 264, 3) := by decide +kernel
theorem dX6_shows_44 : decode cX6_shows 44 = .ok (.iload 4, 2) := by decide +kernel
theorem dX6_shows_46 : decode cX6_shows 46 = .ok (.iaload, 1) := by decide +kernel
theorem dX6_shows_47 : decode cX6_shows 47 = .ok (.istore 6, 2) := by decide +kernel
theorem dX6_shows_49 : decode cX6_shows 49 = .ok (.aload_n 0, 1) := by decide +kernel
theorem dX6_shows_50 : decode cX6_shows 50 = .ok (.getfield 16, 3) := by decide +kernel
theorem dX6_shows_53 : decode cX6_shows 53 = .ok (.iload 5, 2) := by decide +kernel
theorem dX6_shows_55 : decode cX6_shows 55 = .ok (.i2l, 1) := by decide +kernel
theorem dX6_shows_56 : decode cX6_shows 56 = .ok (.iload 6, 2) := by decide +kernel
theorem dX6_shows_58 : decode cX6_shows 58 = .ok (.invokestatic 267, 3) := by decide +kernel
theorem dX6_shows_61 : decode cX6_shows 61 = .ok (.i2l, 1) := by decide +kernel
theorem dX6_shows_62 : decode cX6_shows 62 = .ok (.iload 6, 2) := by decide +kernel
theorem dX6_shows_64 : decode cX6_shows 64 = .ok (.invokestatic 270, 3) := by decide +kernel
theorem dX6_shows_67 : decode cX6_shows 67 = .ok (.iload 5, 2) := by decide +kernel
theorem dX6_shows_69 : decode cX6_shows 69 = .ok (.iadd, 1) := by decide +kernel
theorem dX6_shows_70 : decode cX6_shows 70 = .ok (.i2l, 1) := by decide +kernel
theorem dX6_shows_71 : decode cX6_shows 71 = .ok (.invokevirtual 282, 3) := by decide +kernel
theorem dX6_shows_74 : decode cX6_shows 74 = .ok (.iload 4, 2) := by decide +kernel
theorem dX6_shows_76 : decode cX6_shows 76 = .ok (.ireturn, 1) := by decide +kernel
theorem dX6_from_0 : decode cX6_from 0 = .ok (.iload_n 1, 1) := by decide +kernel
theorem dX6_from_1 : decode cX6_from 1 = .ok (.ifCond .lt 24, 3) := by decide +kernel
theorem dX6_from_4 : decode cX6_from 4 = .ok (.iload_n 1, 1) := by decide +kernel
theorem dX6_from_5 : decode cX6_from 5 = .ok (.iconst 1, 1) := by decide +kernel
theorem dX6_from_6 : decode cX6_from 6 = .ok (.if_icmp .gt 19, 3) := by decide +kernel
theorem dX6_from_9 : decode cX6_from 9 = .ok (.iload_n 2, 1) := by decide +kernel
theorem dX6_from_10 : decode cX6_from 10 = .ok (.ifCond .lt 15, 3) := by decide +kernel
theorem dX6_from_13 : decode cX6_from 13 = .ok (.iload_n 2, 1) := by decide +kernel
theorem dX6_from_14 : decode cX6_from 14 = .ok (.aload_n 0, 1) := by decide +kernel
theorem dX6_from_15 : decode cX6_from 15 = .ok (.getfield 23, 3) := by decide +kernel
theorem dX6_from_18 : decode cX6_from 18 = .ok (.iload_n 1, 1) := by decide +kernel
theorem dX6_from_19 : decode cX6_from 19 = .ok (.invokevirtual 114, 3) := by decide +kernel
theorem dX6_from_22 : decode cX6_from 22 = .ok (.if_icmp .lt 5, 3) := by decide +kernel
theorem dX6_from_25 : decode cX6_from 25 = .ok (.iconst (-1), 1) := by decide +kernel
theorem dX6_from_26 : decode cX6_from 26 = .ok (.ireturn, 1) := by decide +kernel
theorem dX6_from_27 : decode cX6_from 27 = .ok (.aload_n 0, 1) := by decide +kernel
theorem dX6_from_28 : decode cX6_from 28 = .ok (.getfield 30, 3) := by decide +kernel
theorem dX6_from_31 : decode cX6_from 31 = .ok (.invokevirtual 84, 3) := by decide +kernel
theorem dX6_from_34 : decode cX6_from 34 = .ok (.astore_n 3, 1) := by decide +kernel
theorem dX6_from_35 : decode cX6_from 35 = .ok (.iload_n 1, 1) := by decide +kernel
theorem dX6_from_36 : decode cX6_from 36 = .ok (.invokestatic 117, 3) := by decide +kernel
theorem dX6_from_39 : decode cX6_from 39 = .ok (.iload_n 2, 1) := by decide +kernel
theorem dX6_from_40 : decode cX6_from 40 = .ok (.iadd, 1) := by decide +kernel
theorem dX6_from_41 : decode cX6_from 41 = .ok (.istore 4, 2) := by decide +kernel
theorem dX6_from_43 : decode cX6_from 43 = .ok (.iconst 0, 1) := by decide +kernel
theorem dX6_from_44 : decode cX6_from 44 = .ok (.istore 5, 2) := by decide +kernel
theorem dX6_from_46 : decode cX6_from 46 = .ok (.iconst 0, 1) := by decide +kernel
theorem dX6_from_47 : decode cX6_from 47 = .ok (.istore 6, 2) := by decide +kernel
theorem dX6_from_49 : decode cX6_from 49 = .ok (.aload_n 0, 1) := by decide +kernel
theorem dX6_from_50 : decode cX6_from 50 = .ok (.getfield 16, 3) := by decide +kernel
theorem dX6_from_53 : decode cX6_from 53 = .ok (.invokevirtual 242, 3) := by decide +kernel
theorem dX6_from_56 : decode cX6_from 56 = .ok (.iconst 0, 1) := by decide +kernel
theorem dX6_from_57 : decode cX6_from 57 = .ok (.istore 7, 2) := by decide +kernel
theorem dX6_from_59 : decode cX6_from 59 = .ok (.iload 7, 2) := by decide +kernel
theorem dX6_from_61 : decode cX6_from 61 = .ok (.aload_n 3, 1) := by decide +kernel
theorem dX6_from_62 : decode cX6_from 62 = .ok (.getfield 259, 3) := by decide +kernel
theorem dX6_from_65 : decode cX6_from 65 = .ok (.if_icmp .ge 73, 3) := by decide +kernel
theorem dX6_from_68 : decode cX6_from 68 = .ok (.iload 4, 2) := by decide +kernel
theorem dX6_from_70 : decode cX6_from 70 = .ok (.aload_n 3, 1) := by decide +kernel
theorem dX6_from_71 : decode cX6_from 71 = .ok (.getfield 264, 3) := by decide +kernel
theorem dX6_from_74 : decode cX6_from 74 = .ok (.iload 7, 2) := by decide +kernel
theorem dX6_from_76 : decode cX6_from 76 = .ok (.iaload, 1) := by decide +kernel
theorem dX6_from_77 : decode cX6_from 77 = .ok (.isub, 1) := by decide +kernel
theorem dX6_from_78 : decode cX6_from 78 = .ok (.istore 8, 2) := by decide +kernel
theorem dX6_from_80 : decode cX6_from 80 = .ok (.iload 8, 2) := by decide +kernel
theorem dX6_from_82 : decode cX6_from 82 = .ok (.ifCond .lt 38, 3) := by decide +kernel
theorem dX6_from_85 : decode cX6_from 85 = .ok (.iload 8, 2) := by decide +kernel
theorem dX6_from_87 : decode cX6_from 87 = .ok (.aload_n 3, 1) := by decide +kernel
theorem dX6_from_88 : decode cX6_from 88 = .ok (.getfield 273, 3) := by decide +kernel
theorem dX6_from_91 : decode cX6_from 91 = .ok (.iload 7, 2) := by decide +kernel
theorem dX6_from_93 : decode cX6_from 93 = .ok (.iaload, 1) := by decide +kernel
theorem dX6_from_94 : decode cX6_from 94 = .ok (.if_icmp .ge 26, 3) := by decide +kernel
theorem dX6_from_97 : decode cX6_from 97 = .ok (.iload 5, 2) := by decide +kernel
theorem dX6_from_99 : decode cX6_from 99 = .ok (.bipush 12, 2) := by decide +kernel
theorem dX6_from_101 : decode cX6_from 101 = .ok (.if_icmp .ge 16, 3) := by decide +kernel
theorem dX6_from_104 : decode cX6_from 104 = .ok (.aload_n 0, 1) := by decide +kernel
theorem dX6_from_105 : decode cX6_from 105 = .ok (.getfield 16, 3) := by decide +kernel
theorem dX6_from_108 : decode cX6_from 108 = .ok (.iload 6, 2) := by decide +kernel
theorem dX6_from_110 : decode cX6_from 110 = .ok (.iload 8, 2) := by decide +kernel
theorem dX6_from_112 : decode cX6_from 112 = .ok (.iadd, 1) := by decide +kernel
theorem dX6_from_113 : decode cX6_from 113 = .ok (.i2l, 1) := by decide +kernel
theorem dX6_from_114 : decode cX6_from 114 = .ok (.invokevirtual 243, 3) := by decide +kernel
theorem dX6_from_117 : decode cX6_from 117 = .ok (.iinc 5 1, 3) := by decide +kernel
theorem dX6_from_120 : decode cX6_from 120 = .ok (.iload 6, 2) := by decide +kernel
theorem dX6_from_122 : decode cX6_from 122 = .ok (.aload_n 3, 1) := by decide +kernel
theorem dX6_from_123 : decode cX6_from 123 = .ok (.getfield 273, 3) := by decide +kernel
theorem dX6_from_126 : decode cX6_from 126 = .ok (.iload 7, 2) := by decide +kernel
theorem dX6_from_128 : decode cX6_from 128 = .ok (.iaload, 1) := by decide +kernel
theorem dX6_from_129 : decode cX6_from 129 = .ok (.iadd, 1) := by decide +kernel
theorem dX6_from_130 : decode cX6_from 130 = .ok (.istore 6, 2) := by decide +kernel
theorem dX6_from_132 : decode cX6_from 132 = .ok (.iinc 7 1, 3) := by decide +kernel
theorem dX6_from_135 : decode cX6_from 135 = .ok (.goto (-76), 3) := by decide +kernel
theorem dX6_from_138 : decode cX6_from 138 = .ok (.iload 5, 2) := by decide +kernel
theorem dX6_from_140 : decode cX6_from 140 = .ok (.ireturn, 1) := by decide +kernel
theorem dX6_lost_0 : decode cX6_lost 0 = .ok (.iload_n 1, 1) := by decide +kernel
theorem dX6_lost_1 : decode cX6_lost 1 = .ok (.ifCond .lt 8, 3) := by decide +kernel
theorem dX6_lost_4 : decode cX6_lost 4 = .ok (.iload_n 1, 1) := by decide +kernel
theorem dX6_lost_5 : decode cX6_lost 5 = .ok (.iconst 1, 1) := by decide +kernel
theorem dX6_lost_6 : decode cX6_lost 6 = .ok (.if_icmp .le 5, 3) := by decide +kernel
theorem dX6_lost_9 : decode cX6_lost 9 = .ok (.iconst (-1), 1) := by decide +kernel
theorem dX6_lost_10 : decode cX6_lost 10 = .ok (.ireturn, 1) := by decide +kernel
theorem dX6_lost_11 : decode cX6_lost 11 = .ok (.aload_n 0, 1) := by decide +kernel
theorem dX6_lost_12 : decode cX6_lost 12 = .ok (.getfield 23, 3) := by decide +kernel
theorem dX6_lost_15 : decode cX6_lost 15 = .ok (.iload_n 1, 1) := by decide +kernel
theorem dX6_lost_16 : decode cX6_lost 16 = .ok (.invokevirtual 114, 3) := by decide +kernel
theorem dX6_lost_19 : decode cX6_lost 19 = .ok (.istore_n 2, 1) := by decide +kernel
theorem dX6_lost_20 : decode cX6_lost 20 = .ok (.aload_n 0, 1) := by decide +kernel
theorem dX6_lost_21 : decode cX6_lost 21 = .ok (.iload_n 1, 1) := by decide +kernel
theorem dX6_lost_22 : decode cX6_lost 22 = .ok (.iload_n 2, 1) := by decide +kernel
theorem dX6_lost_23 : decode cX6_lost 23 = .ok (.invokevirtual 285, 3) := by decide +kernel
theorem dX6_lost_26 : decode cX6_lost 26 = .ok (.iconst 0, 1) := by decide +kernel
theorem dX6_lost_27 : decode cX6_lost 27 = .ok (.istore_n 3, 1) := by decide +kernel
theorem dX6_lost_28 : decode cX6_lost 28 = .ok (.aload_n 0, 1) := by decide +kernel
theorem dX6_lost_29 : decode cX6_lost 29 = .ok (.getfield 16, 3) := by decide +kernel
theorem dX6_lost_32 : decode cX6_lost 32 = .ok (.invokevirtual 242, 3) := by decide +kernel
theorem dX6_lost_35 : decode cX6_lost 35 = .ok (.iconst 0, 1) := by decide +kernel
theorem dX6_lost_36 : decode cX6_lost 36 = .ok (.istore 4, 2) := by decide +kernel
theorem dX6_lost_38 : decode cX6_lost 38 = .ok (.iload 4, 2) := by decide +kernel
theorem dX6_lost_40 : decode cX6_lost 40 = .ok (.iload_n 2, 1) := by decide +kernel
theorem dX6_lost_41 : decode cX6_lost 41 = .ok (.if_icmp .ge 36, 3) := by decide +kernel
theorem dX6_lost_44 : decode cX6_lost 44 = .ok (.aload_n 0, 1) := by decide +kernel
theorem dX6_lost_45 : decode cX6_lost 45 = .ok (.getfield 62, 3) := by decide +kernel
theorem dX6_lost_48 : decode cX6_lost 48 = .ok (.iload 4, 2) := by decide +kernel
theorem dX6_lost_50 : decode cX6_lost 50 = .ok (.iaload, 1) := by decide +kernel
theorem dX6_lost_51 : decode cX6_lost 51 = .ok (.ifCond .ne 20, 3) := by decide +kernel
theorem dX6_lost_54 : decode cX6_lost 54 = .ok (.iload_n 3, 1) := by decide +kernel
theorem dX6_lost_55 : decode cX6_lost 55 = .ok (.ifCond .ne 13, 3) := by decide +kernel
theorem dX6_lost_58 : decode cX6_lost 58 = .ok (.aload_n 0, 1) := by decide +kernel
theorem dX6_lost_59 : decode cX6_lost 59 = .ok (.getfield 16, 3) := by decide +kernel
theorem dX6_lost_62 : decode cX6_lost 62 = .ok (.iload 4, 2) := by decide +kernel
theorem dX6_lost_64 : decode cX6_lost 64 = .ok (.i2l, 1) := by decide +kernel
theorem dX6_lost_65 : decode cX6_lost 65 = .ok (.invokevirtual 243, 3) := by decide +kernel
theorem dX6_lost_68 : decode cX6_lost 68 = .ok (.iinc 3 1, 3) := by decide +kernel
theorem dX6_lost_71 : decode cX6_lost 71 = .ok (.iinc 4 1, 3) := by decide +kernel
theorem dX6_lost_74 : decode cX6_lost 74 = .ok (.goto (-36), 3) := by decide +kernel
theorem dX6_lost_77 : decode cX6_lost 77 = .ok (.iload_n 3, 1) := by decide +kernel
theorem dX6_lost_78 : decode cX6_lost 78 = .ok (.ireturn, 1) := by decide +kernel
theorem dX6_healable_0 : decode cX6_healable 0 = .ok (.aload_n 0, 1) := by decide +kernel
theorem dX6_healable_1 : decode cX6_healable 1 = .ok (.getfield 30, 3) := by decide +kernel
theorem dX6_healable_4 : decode cX6_healable 4 = .ok (.invokevirtual 84, 3) := by decide +kernel
theorem dX6_healable_7 : decode cX6_healable 7 = .ok (.astore_n 1, 1) := by decide +kernel
theorem dX6_healable_8 : decode cX6_healable 8 = .ok (.iconst (-1), 1) := by decide +kernel
theorem dX6_healable_9 : decode cX6_healable 9 = .ok (.istore_n 2, 1) := by decide +kernel
theorem dX6_healable_10 : decode cX6_healable 10 = .ok (.iconst 0, 1) := by decide +kernel
theorem dX6_healable_11 : decode cX6_healable 11 = .ok (.istore_n 3, 1) := by decide +kernel
theorem dX6_healable_12 : decode cX6_healable 12 = .ok (.iload_n 3, 1) := by decide +kernel
theorem dX6_healable_13 : decode cX6_healable 13 = .ok (.aload_n 1, 1) := by decide +kernel
theorem dX6_healable_14 : decode cX6_healable 14 = .ok (.getfield 259, 3) := by decide +kernel
theorem dX6_healable_17 : decode cX6_healable 17 = .ok (.if_icmp .ge 31, 3) := by decide +kernel
theorem dX6_healable_20 : decode cX6_healable 20 = .ok (.iload_n 2, 1) := by decide +kernel
theorem dX6_healable_21 : decode cX6_healable 21 = .ok (.iconst (-1), 1) := by decide +kernel
theorem dX6_healable_22 : decode cX6_healable 22 = .ok (.if_icmp .eq 18, 3) := by decide +kernel
theorem dX6_healable_25 : decode cX6_healable 25 = .ok (.aload_n 1, 1) := by decide +kernel
theorem dX6_healable_26 : decode cX6_healable 26 = .ok (.getfield 273, 3) := by decide +kernel
theorem dX6_healable_29 : decode cX6_healable 29 = .ok (.iload_n 3, 1) := by decide +kernel
theorem dX6_healable_30 : decode cX6_healable 30 = .ok (.iaload, 1) := by decide +kernel
theorem dX6_healable_31 : decode cX6_healable 31 = .ok (.aload_n 1, 1) := by decide +kernel
theorem dX6_healable_32 : decode cX6_healable 32 = .ok (.getfield 273, 3) := by decide +kernel
theorem dX6_healable_35 : decode cX6_healable 35 = .ok (.iload_n 2, 1) := by decide +kernel
theorem dX6_healable_36 : decode cX6_healable 36 = .ok (.iaload, 1) := by decide +kernel
theorem dX6_healable_37 : decode cX6_healable 37 = .ok (.if_icmp .le 5, 3) := by decide +kernel
theorem dX6_healable_40 : decode cX6_healable 40 = .ok (.iload_n 3, 1) := by decide +kernel
theorem dX6_healable_41 : decode cX6_healable 41 = .ok (.istore_n 2, 1) := by decide +kernel
theorem dX6_healable_42 : decode cX6_healable 42 = .ok (.iinc 3 1, 3) := by decide +kernel
theorem dX6_healable_45 : decode cX6_healable 45 = .ok (.goto (-33), 3) := by decide +kernel
theorem dX6_healable_48 : decode cX6_healable 48 = .ok (.aload_n 0, 1) := by decide +kernel
theorem dX6_healable_49 : decode cX6_healable 49 = .ok (.getfield 16, 3) := by decide +kernel
theorem dX6_healable_52 : decode cX6_healable 52 = .ok (.invokevirtual 242, 3) := by decide +kernel
theorem dX6_healable_55 : decode cX6_healable 55 = .ok (.iload_n 2, 1) := by decide +kernel
theorem dX6_healable_56 : decode cX6_healable 56 = .ok (.iconst (-1), 1) := by decide +kernel
theorem dX6_healable_57 : decode cX6_healable 57 = .ok (.if_icmp .eq 12, 3) := by decide +kernel
theorem dX6_healable_60 : decode cX6_healable 60 = .ok (.aload_n 0, 1) := by decide +kernel
theorem dX6_healable_61 : decode cX6_healable 61 = .ok (.getfield 16, 3) := by decide +kernel
theorem dX6_healable_64 : decode cX6_healable 64 = .ok (.iload_n 2, 1) := by decide +kernel
theorem dX6_healable_65 : decode cX6_healable 65 = .ok (.i2l, 1) := by decide +kernel
theorem dX6_healable_66 : decode cX6_healable 66 = .ok (.invokevirtual 243, 3) := by decide +kernel
theorem dX6_healable_69 : decode cX6_healable 69 = .ok (.aload_n 1, 1) := by decide +kernel
theorem dX6_healable_70 : decode cX6_healable 70 = .ok (.invokevirtual 193, 3) := by decide +kernel
theorem dX6_healable_73 : decode cX6_healable 73 = .ok (.ireturn, 1) := by decide +kernel
theorem dX6_finds_0 : decode cX6_finds 0 = .ok (.aload_n 0, 1) := by decide +kernel
theorem dX6_finds_1 : decode cX6_finds 1 = .ok (.iload_n 1, 1) := by decide +kernel
theorem dX6_finds_2 : decode cX6_finds 2 = .ok (.iconst 0, 1) := by decide +kernel
theorem dX6_finds_3 : decode cX6_finds 3 = .ok (.invokevirtual 288, 3) := by decide +kernel
theorem dX6_finds_6 : decode cX6_finds 6 = .ok (.ireturn, 1) := by decide +kernel
theorem dX6_last_0 : decode cX6_last 0 = .ok (.aload_n 0, 1) := by decide +kernel
theorem dX6_last_1 : decode cX6_last 1 = .ok (.invokevirtual 72, 3) := by decide +kernel
theorem dX6_last_4 : decode cX6_last 4 = .ok (.istore_n 2, 1) := by decide +kernel
theorem dX6_last_5 : decode cX6_last 5 = .ok (.iload_n 2, 1) := by decide +kernel
theorem dX6_last_6 : decode cX6_last 6 = .ok (.ifCond .ne 6, 3) := by decide +kernel
theorem dX6_last_9 : decode cX6_last 9 = .ok (.bipush (-100), 2) := by decide +kernel
theorem dX6_last_11 : decode cX6_last 11 = .ok (.ireturn, 1) := by decide +kernel
theorem dX6_last_12 : decode cX6_last 12 = .ok (.aload_n 0, 1) := by decide +kernel
theorem dX6_last_13 : decode cX6_last 13 = .ok (.iload_n 1, 1) := by decide +kernel
theorem dX6_last_14 : decode cX6_last 14 = .ok (.invokevirtual 168, 3) := by decide +kernel
theorem dX6_last_17 : decode cX6_last 17 = .ok (.ifCond .ne 5, 3) := by decide +kernel
theorem dX6_last_20 : decode cX6_last 20 = .ok (.iconst (-1), 1) := by decide +kernel
theorem dX6_last_21 : decode cX6_last 21 = .ok (.ireturn, 1) := by decide +kernel
theorem dX6_last_22 : decode cX6_last 22 = .ok (.iload_n 1, 1) := by decide +kernel
theorem dX6_last_23 : decode cX6_last 23 = .ok (.aload_n 0, 1) := by decide +kernel
theorem dX6_last_24 : decode cX6_last 24 = .ok (.invokevirtual 160, 3) := by decide +kernel
theorem dX6_last_27 : decode cX6_last 27 = .ok (.getfield 181, 3) := by decide +kernel
theorem dX6_last_30 : decode cX6_last 30 = .ok (.iload_n 2, 1) := by decide +kernel
theorem dX6_last_31 : decode cX6_last 31 = .ok (.isub, 1) := by decide +kernel
theorem dX6_last_32 : decode cX6_last 32 = .ok (.invokestatic 239, 3) := by decide +kernel
theorem dX6_last_35 : decode cX6_last 35 = .ok (.istore_n 3, 1) := by decide +kernel
theorem dX6_last_36 : decode cX6_last 36 = .ok (.iload_n 3, 1) := by decide +kernel
theorem dX6_last_37 : decode cX6_last 37 = .ok (.ifCond .lt 38, 3) := by decide +kernel
theorem dX6_last_40 : decode cX6_last 40 = .ok (.aload_n 0, 1) := by decide +kernel
theorem dX6_last_41 : decode cX6_last 41 = .ok (.iload_n 3, 1) := by decide +kernel
theorem dX6_last_42 : decode cX6_last 42 = .ok (.iload_n 2, 1) := by decide +kernel
theorem dX6_last_43 : decode cX6_last 43 = .ok (.iconst 0, 1) := by decide +kernel
theorem dX6_last_44 : decode cX6_last 44 = .ok (.invokevirtual 291, 3) := by decide +kernel
theorem dX6_last_47 : decode cX6_last 47 = .ok (.ifCond .eq 22, 3) := by decide +kernel
theorem dX6_last_50 : decode cX6_last 50 = .ok (.aload_n 0, 1) := by decide +kernel
theorem dX6_last_51 : decode cX6_last 51 = .ok (.getfield 16, 3) := by decide +kernel
theorem dX6_last_54 : decode cX6_last 54 = .ok (.aload_n 0, 1) := by decide +kernel
theorem dX6_last_55 : decode cX6_last 55 = .ok (.getfield 55, 3) := by decide +kernel
theorem dX6_last_58 : decode cX6_last 58 = .ok (.iload_n 3, 1) := by decide +kernel
theorem dX6_last_59 : decode cX6_last 59 = .ok (.iload_n 2, 1) := by decide +kernel
theorem dX6_last_60 : decode cX6_last 60 = .ok (.invokevirtual 295, 3) := by decide +kernel
theorem dX6_last_63 : decode cX6_last 63 = .ok (.i2l, 1) := by decide +kernel
theorem dX6_last_64 : decode cX6_last 64 = .ok (.invokevirtual 246, 3) := by decide +kernel
theorem dX6_last_67 : decode cX6_last 67 = .ok (.iload_n 3, 1) := by decide +kernel
theorem dX6_last_68 : decode cX6_last 68 = .ok (.ireturn, 1) := by decide +kernel
theorem dX6_last_69 : decode cX6_last 69 = .ok (.iinc 3 (-1), 3) := by decide +kernel
theorem dX6_last_72 : decode cX6_last 72 = .ok (.goto (-36), 3) := by decide +kernel
theorem dX6_last_75 : decode cX6_last 75 = .ok (.bipush (-2), 2) := by decide +kernel
theorem dX6_last_77 : decode cX6_last 77 = .ok (.ireturn, 1) := by decide +kernel
theorem dX6_many_0 : decode cX6_many 0 = .ok (.aload_n 0, 1) := by decide +kernel
theorem dX6_many_1 : decode cX6_many 1 = .ok (.invokevirtual 72, 3) := by decide +kernel
theorem dX6_many_4 : decode cX6_many 4 = .ok (.istore_n 1, 1) := by decide +kernel
theorem dX6_many_5 : decode cX6_many 5 = .ok (.iload_n 1, 1) := by decide +kernel
theorem dX6_many_6 : decode cX6_many 6 = .ok (.ifCond .ne 6, 3) := by decide +kernel
theorem dX6_many_9 : decode cX6_many 9 = .ok (.bipush (-100), 2) := by decide +kernel
theorem dX6_many_11 : decode cX6_many 11 = .ok (.ireturn, 1) := by decide +kernel
theorem dX6_many_12 : decode cX6_many 12 = .ok (.aload_n 0, 1) := by decide +kernel
theorem dX6_many_13 : decode cX6_many 13 = .ok (.invokevirtual 160, 3) := by decide +kernel
theorem dX6_many_16 : decode cX6_many 16 = .ok (.astore_n 2, 1) := by decide +kernel
theorem dX6_many_17 : decode cX6_many 17 = .ok (.iconst 0, 1) := by decide +kernel
theorem dX6_many_18 : decode cX6_many 18 = .ok (.istore_n 3, 1) := by decide +kernel
theorem dX6_many_19 : decode cX6_many 19 = .ok (.iconst 0, 1) := by decide +kernel
theorem dX6_many_20 : decode cX6_many 20 = .ok (.istore 4, 2) := by decide +kernel
theorem dX6_many_22 : decode cX6_many 22 = .ok (.iconst 0, 1) := by decide +kernel
theorem dX6_many_23 : decode cX6_many 23 = .ok (.istore 5, 2) := by decide +kernel
theorem dX6_many_25 : decode cX6_many 25 = .ok (.iconst 0, 1) := by decide +kernel
theorem dX6_many_26 : decode cX6_many 26 = .ok (.istore 6, 2) := by decide +kernel
theorem dX6_many_28 : decode cX6_many 28 = .ok (.iconst 0, 1) := by decide +kernel
theorem dX6_many_29 : decode cX6_many 29 = .ok (.istore 7, 2) := by decide +kernel
theorem dX6_many_31 : decode cX6_many 31 = .ok (.iload 7, 2) := by decide +kernel
theorem dX6_many_33 : decode cX6_many 33 = .ok (.aload_n 2, 1) := by decide +kernel
theorem dX6_many_34 : decode cX6_many 34 = .ok (.getfield 181, 3) := by decide +kernel
theorem dX6_many_37 : decode cX6_many 37 = .ok (.iload_n 1, 1) := by decide +kernel
theorem dX6_many_38 : decode cX6_many 38 = .ok (.isub, 1) := by decide +kernel
theorem dX6_many_39 : decode cX6_many 39 = .ok (.if_icmp .gt 53, 3) := by decide +kernel
theorem dX6_many_42 : decode cX6_many 42 = .ok (.aload_n 0, 1) := by decide +kernel
theorem dX6_many_43 : decode cX6_many 43 = .ok (.iload 7, 2) := by decide +kernel
theorem dX6_many_45 : decode cX6_many 45 = .ok (.iload_n 1, 1) := by decide +kernel
theorem dX6_many_46 : decode cX6_many 46 = .ok (.iconst 0, 1) := by decide +kernel
theorem dX6_many_47 : decode cX6_many 47 = .ok (.invokevirtual 291, 3) := by decide +kernel
theorem dX6_many_50 : decode cX6_many 50 = .ok (.ifCond .eq 36, 3) := by decide +kernel
theorem dX6_many_53 : decode cX6_many 53 = .ok (.iinc 3 1, 3) := by decide +kernel
theorem dX6_many_56 : decode cX6_many 56 = .ok (.aload_n 2, 1) := by decide +kernel
theorem dX6_many_57 : decode cX6_many 57 = .ok (.iload 7, 2) := by decide +kernel
theorem dX6_many_59 : decode cX6_many 59 = .ok (.iload_n 1, 1) := by decide +kernel
theorem dX6_many_60 : decode cX6_many 60 = .ok (.invokevirtual 295, 3) := by decide +kernel
theorem dX6_many_63 : decode cX6_many 63 = .ok (.iconst 1, 1) := by decide +kernel
theorem dX6_many_64 : decode cX6_many 64 = .ok (.if_icmp .le 6, 3) := by decide +kernel
theorem dX6_many_67 : decode cX6_many 67 = .ok (.iinc 4 1, 3) := by decide +kernel
theorem dX6_many_70 : decode cX6_many 70 = .ok (.iload 7, 2) := by decide +kernel
theorem dX6_many_72 : decode cX6_many 72 = .ok (.iload 6, 2) := by decide +kernel
theorem dX6_many_74 : decode cX6_many 74 = .ok (.if_icmp .lt 12, 3) := by decide +kernel
theorem dX6_many_77 : decode cX6_many 77 = .ok (.iinc 5 1, 3) := by decide +kernel
theorem dX6_many_80 : decode cX6_many 80 = .ok (.iload 7, 2) := by decide +kernel
theorem dX6_many_82 : decode cX6_many 82 = .ok (.iload_n 1, 1) := by decide +kernel
theorem dX6_many_83 : decode cX6_many 83 = .ok (.iadd, 1) := by decide +kernel
theorem dX6_many_84 : decode cX6_many 84 = .ok (.istore 6, 2) := by decide +kernel
theorem dX6_many_86 : decode cX6_many 86 = .ok (.iinc 7 1, 3) := by decide +kernel
theorem dX6_many_89 : decode cX6_many 89 = .ok (.goto (-58), 3) := by decide +kernel
theorem dX6_many_92 : decode cX6_many 92 = .ok (.aload_n 0, 1) := by decide +kernel
theorem dX6_many_93 : decode cX6_many 93 = .ok (.getfield 16, 3) := by decide +kernel
theorem dX6_many_96 : decode cX6_many 96 = .ok (.iload 4, 2) := by decide +kernel
theorem dX6_many_98 : decode cX6_many 98 = .ok (.i2l, 1) := by decide +kernel
theorem dX6_many_99 : decode cX6_many 99 = .ok (.iload 5, 2) := by decide +kernel
theorem dX6_many_101 : decode cX6_many 101 = .ok (.i2l, 1) := by decide +kernel
theorem dX6_many_102 : decode cX6_many 102 = .ok (.invokevirtual 217, 3) := by decide +kernel
theorem dX6_many_105 : decode cX6_many 105 = .ok (.iload_n 3, 1) := by decide +kernel
theorem dX6_many_106 : decode cX6_many 106 = .ok (.ireturn, 1) := by decide +kernel
theorem dX6_fits_0 : decode cX6_fits 0 = .ok (.aload_n 0, 1) := by decide +kernel
theorem dX6_fits_1 : decode cX6_fits 1 = .ok (.iload_n 1, 1) := by decide +kernel
theorem dX6_fits_2 : decode cX6_fits 2 = .ok (.iconst 1, 1) := by decide +kernel
theorem dX6_fits_3 : decode cX6_fits 3 = .ok (.invokevirtual 288, 3) := by decide +kernel
theorem dX6_fits_6 : decode cX6_fits 6 = .ok (.ireturn, 1) := by decide +kernel
theorem dX6_folds_0 : decode cX6_folds 0 = .ok (.aload_n 0, 1) := by decide +kernel
theorem dX6_folds_1 : decode cX6_folds 1 = .ok (.iload_n 1, 1) := by decide +kernel
theorem dX6_folds_2 : decode cX6_folds 2 = .ok (.iconst 2, 1) := by decide +kernel
theorem dX6_folds_3 : decode cX6_folds 3 = .ok (.invokevirtual 288, 3) := by decide +kernel
theorem dX6_folds_6 : decode cX6_folds 6 = .ok (.ireturn, 1) := by decide +kernel
theorem dX6_pair_0 : decode cX6_pair 0 = .ok (.aload_n 0, 1) := by decide +kernel
theorem dX6_pair_1 : decode cX6_pair 1 = .ok (.invokevirtual 160, 3) := by decide +kernel
theorem dX6_pair_4 : decode cX6_pair 4 = .ok (.astore_n 2, 1) := by decide +kernel
theorem dX6_pair_5 : decode cX6_pair 5 = .ok (.aload_n 2, 1) := by decide +kernel
theorem dX6_pair_6 : decode cX6_pair 6 = .ok (.iload_n 1, 1) := by decide +kernel
theorem dX6_pair_7 : decode cX6_pair 7 = .ok (.invokevirtual 233, 3) := by decide +kernel
theorem dX6_pair_10 : decode cX6_pair 10 = .ok (.ifCond .ne 5, 3) := by decide +kernel
theorem dX6_pair_13 : decode cX6_pair 13 = .ok (.iconst (-1), 1) := by decide +kernel
theorem dX6_pair_14 : decode cX6_pair 14 = .ok (.ireturn, 1) := by decide +kernel
theorem dX6_pair_15 : decode cX6_pair 15 = .ok (.aload_n 2, 1) := by decide +kernel
theorem dX6_pair_16 : decode cX6_pair 16 = .ok (.iload_n 1, 1) := by decide +kernel
theorem dX6_pair_17 : decode cX6_pair 17 = .ok (.invokevirtual 236, 3) := by decide +kernel
theorem dX6_pair_20 : decode cX6_pair 20 = .ok (.istore_n 3, 1) := by decide +kernel
theorem dX6_pair_21 : decode cX6_pair 21 = .ok (.iload_n 3, 1) := by decide +kernel
theorem dX6_pair_22 : decode cX6_pair 22 = .ok (.invokestatic 298, 3) := by decide +kernel
theorem dX6_pair_25 : decode cX6_pair 25 = .ok (.istore 4, 2) := by decide +kernel
theorem dX6_pair_27 : decode cX6_pair 27 = .ok (.iload 4, 2) := by decide +kernel
theorem dX6_pair_29 : decode cX6_pair 29 = .ok (.ifCond .ne 6, 3) := by decide +kernel
theorem dX6_pair_32 : decode cX6_pair 32 = .ok (.bipush (-3), 2) := by decide +kernel
theorem dX6_pair_34 : decode cX6_pair 34 = .ok (.ireturn, 1) := by decide +kernel
theorem dX6_pair_35 : decode cX6_pair 35 = .ok (.iload_n 3, 1) := by decide +kernel
theorem dX6_pair_36 : decode cX6_pair 36 = .ok (.invokestatic 301, 3) := by decide +kernel
theorem dX6_pair_39 : decode cX6_pair 39 = .ok (.ifCond .eq 7, 3) := by decide +kernel
theorem dX6_pair_42 : decode cX6_pair 42 = .ok (.iconst 1, 1) := by decide +kernel
theorem dX6_pair_43 : decode cX6_pair 43 = .ok (.goto 4, 3) := by decide +kernel
theorem dX6_pair_46 : decode cX6_pair 46 = .ok (.iconst (-1), 1) := by decide +kernel
theorem dX6_pair_47 : decode cX6_pair 47 = .ok (.istore 5, 2) := by decide +kernel
theorem dX6_pair_49 : decode cX6_pair 49 = .ok (.iconst 0, 1) := by decide +kernel
theorem dX6_pair_50 : decode cX6_pair 50 = .ok (.istore 6, 2) := by decide +kernel
theorem dX6_pair_52 : decode cX6_pair 52 = .ok (.iconst 0, 1) := by decide +kernel
theorem dX6_pair_53 : decode cX6_pair 53 = .ok (.istore 7, 2) := by decide +kernel
theorem dX6_pair_55 : decode cX6_pair 55 = .ok (.iload_n 1, 1) := by decide +kernel
theorem dX6_pair_56 : decode cX6_pair 56 = .ok (.istore 8, 2) := by decide +kernel
theorem dX6_pair_58 : decode cX6_pair 58 = .ok (.iload 8, 2) := by decide +kernel
theorem dX6_pair_60 : decode cX6_pair 60 = .ok (.ifCond .lt 81, 3) := by decide +kernel
theorem dX6_pair_63 : decode cX6_pair 63 = .ok (.iload 8, 2) := by decide +kernel
theorem dX6_pair_65 : decode cX6_pair 65 = .ok (.aload_n 2, 1) := by decide +kernel
theorem dX6_pair_66 : decode cX6_pair 66 = .ok (.getfield 181, 3) := by decide +kernel
theorem dX6_pair_69 : decode cX6_pair 69 = .ok (.if_icmp .ge 72, 3) := by decide +kernel
theorem dX6_pair_72 : decode cX6_pair 72 = .ok (.aload_n 2, 1) := by decide +kernel
theorem dX6_pair_73 : decode cX6_pair 73 = .ok (.iload 8, 2) := by decide +kernel
theorem dX6_pair_75 : decode cX6_pair 75 = .ok (.invokevirtual 236, 3) := by decide +kernel
theorem dX6_pair_78 : decode cX6_pair 78 = .ok (.istore 9, 2) := by decide +kernel
theorem dX6_pair_80 : decode cX6_pair 80 = .ok (.iload 9, 2) := by decide +kernel
theorem dX6_pair_82 : decode cX6_pair 82 = .ok (.iload_n 3, 1) := by decide +kernel
theorem dX6_pair_83 : decode cX6_pair 83 = .ok (.if_icmp .ne 18, 3) := by decide +kernel
theorem dX6_pair_86 : decode cX6_pair 86 = .ok (.iinc 6 1, 3) := by decide +kernel
theorem dX6_pair_89 : decode cX6_pair 89 = .ok (.iload 7, 2) := by decide +kernel
theorem dX6_pair_91 : decode cX6_pair 91 = .ok (.iload 6, 2) := by decide +kernel
theorem dX6_pair_93 : decode cX6_pair 93 = .ok (.invokestatic 212, 3) := by decide +kernel
theorem dX6_pair_96 : decode cX6_pair 96 = .ok (.istore 7, 2) := by decide +kernel
theorem dX6_pair_98 : decode cX6_pair 98 = .ok (.goto 33, 3) := by decide +kernel
theorem dX6_pair_101 : decode cX6_pair 101 = .ok (.iload 9, 2) := by decide +kernel
theorem dX6_pair_103 : decode cX6_pair 103 = .ok (.iload 4, 2) := by decide +kernel
theorem dX6_pair_105 : decode cX6_pair 105 = .ok (.if_icmp .ne 26, 3) := by decide +kernel
theorem dX6_pair_108 : decode cX6_pair 108 = .ok (.iinc 6 (-1), 3) := by decide +kernel
theorem dX6_pair_111 : decode cX6_pair 111 = .ok (.iload 6, 2) := by decide +kernel
theorem dX6_pair_113 : decode cX6_pair 113 = .ok (.ifCond .ne 18, 3) := by decide +kernel
theorem dX6_pair_116 : decode cX6_pair 116 = .ok (.aload_n 0, 1) := by decide +kernel
theorem dX6_pair_117 : decode cX6_pair 117 = .ok (.getfield 16, 3) := by decide +kernel
theorem dX6_pair_120 : decode cX6_pair 120 = .ok (.iload 7, 2) := by decide +kernel
theorem dX6_pair_122 : decode cX6_pair 122 = .ok (.iconst 1, 1) := by decide +kernel
theorem dX6_pair_123 : decode cX6_pair 123 = .ok (.isub, 1) := by decide +kernel
theorem dX6_pair_124 : decode cX6_pair 124 = .ok (.i2l, 1) := by decide +kernel
theorem dX6_pair_125 : decode cX6_pair 125 = .ok (.invokevirtual 246, 3) := by decide +kernel
theorem dX6_pair_128 : decode cX6_pair 128 = .ok (.iload 8, 2) := by decide +kernel
theorem dX6_pair_130 : decode cX6_pair 130 = .ok (.ireturn, 1) := by decide +kernel
theorem dX6_pair_131 : decode cX6_pair 131 = .ok (.iload 8, 2) := by decide +kernel
theorem dX6_pair_133 : decode cX6_pair 133 = .ok (.iload 5, 2) := by decide +kernel
theorem dX6_pair_135 : decode cX6_pair 135 = .ok (.iadd, 1) := by decide +kernel
theorem dX6_pair_136 : decode cX6_pair 136 = .ok (.istore 8, 2) := by decide +kernel
theorem dX6_pair_138 : decode cX6_pair 138 = .ok (.goto (-80), 3) := by decide +kernel
theorem dX6_pair_141 : decode cX6_pair 141 = .ok (.bipush (-2), 2) := by decide +kernel
theorem dX6_pair_143 : decode cX6_pair 143 = .ok (.ireturn, 1) := by decide +kernel
theorem dX6_nested_0 : decode cX6_nested 0 = .ok (.aload_n 0, 1) := by decide +kernel
theorem dX6_nested_1 : decode cX6_nested 1 = .ok (.invokevirtual 160, 3) := by decide +kernel
theorem dX6_nested_4 : decode cX6_nested 4 = .ok (.astore_n 1, 1) := by decide +kernel
theorem dX6_nested_5 : decode cX6_nested 5 = .ok (.iconst 0, 1) := by decide +kernel
theorem dX6_nested_6 : decode cX6_nested 6 = .ok (.istore_n 2, 1) := by decide +kernel
theorem dX6_nested_7 : decode cX6_nested 7 = .ok (.iconst 0, 1) := by decide +kernel
theorem dX6_nested_8 : decode cX6_nested 8 = .ok (.istore_n 3, 1) := by decide +kernel
theorem dX6_nested_9 : decode cX6_nested 9 = .ok (.iconst 0, 1) := by decide +kernel
theorem dX6_nested_10 : decode cX6_nested 10 = .ok (.istore 4, 2) := by decide +kernel
theorem dX6_nested_12 : decode cX6_nested 12 = .ok (.iload 4, 2) := by decide +kernel
theorem dX6_nested_14 : decode cX6_nested 14 = .ok (.aload_n 1, 1) := by decide +kernel
theorem dX6_nested_15 : decode cX6_nested 15 = .ok (.getfield 181, 3) := by decide +kernel
theorem dX6_nested_18 : decode cX6_nested 18 = .ok (.if_icmp .ge 99, 3) := by decide +kernel
theorem dX6_nested_21 : decode cX6_nested 21 = .ok (.aload_n 1, 1) := by decide +kernel
theorem dX6_nested_22 : decode cX6_nested 22 = .ok (.iload 4, 2) := by decide +kernel
theorem dX6_nested_24 : decode cX6_nested 24 = .ok (.invokevirtual 236, 3) := by decide +kernel
theorem dX6_nested_27 : decode cX6_nested 27 = .ok (.istore 5, 2) := by decide +kernel
theorem dX6_nested_29 : decode cX6_nested 29 = .ok (.iload 5, 2) := by decide +kernel
theorem dX6_nested_31 : decode cX6_nested 31 = .ok (.invokestatic 298, 3) := by decide +kernel
theorem dX6_nested_34 : decode cX6_nested 34 = .ok (.istore 6, 2) := by decide +kernel
theorem dX6_nested_36 : decode cX6_nested 36 = .ok (.iload 6, 2) := by decide +kernel
theorem dX6_nested_38 : decode cX6_nested 38 = .ok (.ifCond .ne 6, 3) := by decide +kernel
theorem dX6_nested_41 : decode cX6_nested 41 = .ok (.goto 70, 3) := by decide +kernel
theorem dX6_nested_44 : decode cX6_nested 44 = .ok (.iload 5, 2) := by decide +kernel
theorem dX6_nested_46 : decode cX6_nested 46 = .ok (.invokestatic 301, 3) := by decide +kernel
theorem dX6_nested_49 : decode cX6_nested 49 = .ok (.ifCond .eq 23, 3) := by decide +kernel
theorem dX6_nested_52 : decode cX6_nested 52 = .ok (.aload_n 0, 1) := by decide +kernel
theorem dX6_nested_53 : decode cX6_nested 53 = .ok (.getfield 62, 3) := by decide +kernel
theorem dX6_nested_56 : decode cX6_nested 56 = .ok (.iload_n 2, 1) := by decide +kernel
theorem dX6_nested_57 : decode cX6_nested 57 = .ok (.iload 4, 2) := by decide +kernel
theorem dX6_nested_59 : decode cX6_nested 59 = .ok (.iastore, 1) := by decide +kernel
theorem dX6_nested_60 : decode cX6_nested 60 = .ok (.iinc 2 1, 3) := by decide +kernel
theorem dX6_nested_63 : decode cX6_nested 63 = .ok (.iload_n 3, 1) := by decide +kernel
theorem dX6_nested_64 : decode cX6_nested 64 = .ok (.iload_n 2, 1) := by decide +kernel
theorem dX6_nested_65 : decode cX6_nested 65 = .ok (.invokestatic 212, 3) := by decide +kernel
theorem dX6_nested_68 : decode cX6_nested 68 = .ok (.istore_n 3, 1) := by decide +kernel
theorem dX6_nested_69 : decode cX6_nested 69 = .ok (.goto 42, 3) := by decide +kernel
theorem dX6_nested_72 : decode cX6_nested 72 = .ok (.iload_n 2, 1) := by decide +kernel
theorem dX6_nested_73 : decode cX6_nested 73 = .ok (.ifCond .le 26, 3) := by decide +kernel
theorem dX6_nested_76 : decode cX6_nested 76 = .ok (.aload_n 1, 1) := by decide +kernel
theorem dX6_nested_77 : decode cX6_nested 77 = .ok (.aload_n 0, 1) := by decide +kernel
theorem dX6_nested_78 : decode cX6_nested 78 = .ok (.getfield 62, 3) := by decide +kernel
theorem dX6_nested_81 : decode cX6_nested 81 = .ok (.iload_n 2, 1) := by decide +kernel
theorem dX6_nested_82 : decode cX6_nested 82 = .ok (.iconst 1, 1) := by decide +kernel
theorem dX6_nested_83 : decode cX6_nested 83 = .ok (.isub, 1) := by decide +kernel
theorem dX6_nested_84 : decode cX6_nested 84 = .ok (.iaload, 1) := by decide +kernel
theorem dX6_nested_85 : decode cX6_nested 85 = .ok (.invokevirtual 236, 3) := by decide +kernel
theorem dX6_nested_88 : decode cX6_nested 88 = .ok (.iload 6, 2) := by decide +kernel
theorem dX6_nested_90 : decode cX6_nested 90 = .ok (.if_icmp .ne 9, 3) := by decide +kernel
theorem dX6_nested_93 : decode cX6_nested 93 = .ok (.iinc 2 (-1), 3) := by decide +kernel
theorem dX6_nested_96 : decode cX6_nested 96 = .ok (.goto 15, 3) := by decide +kernel
theorem dX6_nested_99 : decode cX6_nested 99 = .ok (.aload_n 0, 1) := by decide +kernel
theorem dX6_nested_100 : decode cX6_nested 100 = .ok (.getfield 16, 3) := by decide +kernel
theorem dX6_nested_103 : decode cX6_nested 103 = .ok (.iload_n 3, 1) := by decide +kernel
theorem dX6_nested_104 : decode cX6_nested 104 = .ok (.i2l, 1) := by decide +kernel
theorem dX6_nested_105 : decode cX6_nested 105 = .ok (.invokevirtual 246, 3) := by decide +kernel
theorem dX6_nested_108 : decode cX6_nested 108 = .ok (.iload 4, 2) := by decide +kernel
theorem dX6_nested_110 : decode cX6_nested 110 = .ok (.ireturn, 1) := by decide +kernel
theorem dX6_nested_111 : decode cX6_nested 111 = .ok (.iinc 4 1, 3) := by decide +kernel
theorem dX6_nested_114 : decode cX6_nested 114 = .ok (.goto (-102), 3) := by decide +kernel
theorem dX6_nested_117 : decode cX6_nested 117 = .ok (.iload_n 2, 1) := by decide +kernel
theorem dX6_nested_118 : decode cX6_nested 118 = .ok (.ifCond .ne 6, 3) := by decide +kernel
theorem dX6_nested_121 : decode cX6_nested 121 = .ok (.bipush (-2), 2) := by decide +kernel
theorem dX6_nested_123 : decode cX6_nested 123 = .ok (.ireturn, 1) := by decide +kernel
theorem dX6_nested_124 : decode cX6_nested 124 = .ok (.aload_n 0, 1) := by decide +kernel
theorem dX6_nested_125 : decode cX6_nested 125 = .ok (.getfield 16, 3) := by decide +kernel
theorem dX6_nested_128 : decode cX6_nested 128 = .ok (.iload_n 3, 1) := by decide +kernel
theorem dX6_nested_129 : decode cX6_nested 129 = .ok (.i2l, 1) := by decide +kernel
theorem dX6_nested_130 : decode cX6_nested 130 = .ok (.invokevirtual 246, 3) := by decide +kernel
theorem dX6_nested_133 : decode cX6_nested 133 = .ok (.aload_n 0, 1) := by decide +kernel
theorem dX6_nested_134 : decode cX6_nested 134 = .ok (.getfield 62, 3) := by decide +kernel
theorem dX6_nested_137 : decode cX6_nested 137 = .ok (.iconst 0, 1) := by decide +kernel
theorem dX6_nested_138 : decode cX6_nested 138 = .ok (.iaload, 1) := by decide +kernel
theorem dX6_nested_139 : decode cX6_nested 139 = .ok (.ireturn, 1) := by decide +kernel
theorem dX6_before_0 : decode cX6_before 0 = .ok (.aload_n 0, 1) := by decide +kernel
theorem dX6_before_1 : decode cX6_before 1 = .ok (.invokevirtual 160, 3) := by decide +kernel
theorem dX6_before_4 : decode cX6_before 4 = .ok (.astore_n 2, 1) := by decide +kernel
theorem dX6_before_5 : decode cX6_before 5 = .ok (.aload_n 2, 1) := by decide +kernel
theorem dX6_before_6 : decode cX6_before 6 = .ok (.iload_n 1, 1) := by decide +kernel
theorem dX6_before_7 : decode cX6_before 7 = .ok (.invokevirtual 233, 3) := by decide +kernel
theorem dX6_before_10 : decode cX6_before 10 = .ok (.ifCond .ne 5, 3) := by decide +kernel
theorem dX6_before_13 : decode cX6_before 13 = .ok (.iconst (-1), 1) := by decide +kernel
theorem dX6_before_14 : decode cX6_before 14 = .ok (.ireturn, 1) := by decide +kernel
theorem dX6_before_15 : decode cX6_before 15 = .ok (.aload_n 2, 1) := by decide +kernel
theorem dX6_before_16 : decode cX6_before 16 = .ok (.iload_n 1, 1) := by decide +kernel
theorem dX6_before_17 : decode cX6_before 17 = .ok (.aload_n 0, 1) := by decide +kernel
theorem dX6_before_18 : decode cX6_before 18 = .ok (.getfield 62, 3) := by decide +kernel
theorem dX6_before_21 : decode cX6_before 21 = .ok (.invokevirtual 304, 3) := by decide +kernel
theorem dX6_before_24 : decode cX6_before 24 = .ok (.iconst 0, 1) := by decide +kernel
theorem dX6_before_25 : decode cX6_before 25 = .ok (.istore_n 3, 1) := by decide +kernel
theorem dX6_before_26 : decode cX6_before 26 = .ok (.iconst 0, 1) := by decide +kernel
theorem dX6_before_27 : decode cX6_before 27 = .ok (.istore 4, 2) := by decide +kernel
theorem dX6_before_29 : decode cX6_before 29 = .ok (.iconst 0, 1) := by decide +kernel
theorem dX6_before_30 : decode cX6_before 30 = .ok (.istore 5, 2) := by decide +kernel
theorem dX6_before_32 : decode cX6_before 32 = .ok (.iconst 0, 1) := by decide +kernel
theorem dX6_before_33 : decode cX6_before 33 = .ok (.istore 6, 2) := by decide +kernel
theorem dX6_before_35 : decode cX6_before 35 = .ok (.iload 6, 2) := by decide +kernel
theorem dX6_before_37 : decode cX6_before 37 = .ok (.aload_n 2, 1) := by decide +kernel
theorem dX6_before_38 : decode cX6_before 38 = .ok (.getfield 181, 3) := by decide +kernel
theorem dX6_before_41 : decode cX6_before 41 = .ok (.if_icmp .ge 70, 3) := by decide +kernel
theorem dX6_before_44 : decode cX6_before 44 = .ok (.iload_n 1, 1) := by decide +kernel
theorem dX6_before_45 : decode cX6_before 45 = .ok (.iload 5, 2) := by decide +kernel
theorem dX6_before_47 : decode cX6_before 47 = .ok (.iadd, 1) := by decide +kernel
theorem dX6_before_48 : decode cX6_before 48 = .ok (.aload_n 2, 1) := by decide +kernel
theorem dX6_before_49 : decode cX6_before 49 = .ok (.getfield 181, 3) := by decide +kernel
theorem dX6_before_52 : decode cX6_before 52 = .ok (.if_icmp .ge 59, 3) := by decide +kernel
theorem dX6_before_55 : decode cX6_before 55 = .ok (.aload_n 2, 1) := by decide +kernel
theorem dX6_before_56 : decode cX6_before 56 = .ok (.iload_n 1, 1) := by decide +kernel
theorem dX6_before_57 : decode cX6_before 57 = .ok (.iload 5, 2) := by decide +kernel
theorem dX6_before_59 : decode cX6_before 59 = .ok (.aload_n 2, 1) := by decide +kernel
theorem dX6_before_60 : decode cX6_before 60 = .ok (.iload 6, 2) := by decide +kernel
theorem dX6_before_62 : decode cX6_before 62 = .ok (.invokevirtual 236, 3) := by decide +kernel
theorem dX6_before_65 : decode cX6_before 65 = .ok (.aload_n 0, 1) := by decide +kernel
theorem dX6_before_66 : decode cX6_before 66 = .ok (.getfield 62, 3) := by decide +kernel
theorem dX6_before_69 : decode cX6_before 69 = .ok (.invokevirtual 308, 3) := by decide +kernel
theorem dX6_before_72 : decode cX6_before 72 = .ok (.istore 5, 2) := by decide +kernel
theorem dX6_before_74 : decode cX6_before 74 = .ok (.iload 6, 2) := by decide +kernel
theorem dX6_before_76 : decode cX6_before 76 = .ok (.iconst 1, 1) := by decide +kernel
theorem dX6_before_77 : decode cX6_before 77 = .ok (.iadd, 1) := by decide +kernel
theorem dX6_before_78 : decode cX6_before 78 = .ok (.iload 5, 2) := by decide +kernel
theorem dX6_before_80 : decode cX6_before 80 = .ok (.isub, 1) := by decide +kernel
theorem dX6_before_81 : decode cX6_before 81 = .ok (.istore 7, 2) := by decide +kernel
theorem dX6_before_83 : decode cX6_before 83 = .ok (.iload 7, 2) := by decide +kernel
theorem dX6_before_85 : decode cX6_before 85 = .ok (.iload_n 1, 1) := by decide +kernel
theorem dX6_before_86 : decode cX6_before 86 = .ok (.if_icmp .lt 6, 3) := by decide +kernel
theorem dX6_before_89 : decode cX6_before 89 = .ok (.goto 22, 3) := by decide +kernel
theorem dX6_before_92 : decode cX6_before 92 = .ok (.iload 5, 2) := by decide +kernel
theorem dX6_before_94 : decode cX6_before 94 = .ok (.iload_n 3, 1) := by decide +kernel
theorem dX6_before_95 : decode cX6_before 95 = .ok (.if_icmp .le 10, 3) := by decide +kernel
theorem dX6_before_98 : decode cX6_before 98 = .ok (.iload 5, 2) := by decide +kernel
theorem dX6_before_100 : decode cX6_before 100 = .ok (.istore_n 3, 1) := by decide +kernel
theorem dX6_before_101 : decode cX6_before 101 = .ok (.iload 7, 2) := by decide +kernel
theorem dX6_before_103 : decode cX6_before 103 = .ok (.istore 4, 2) := by decide +kernel
theorem dX6_before_105 : decode cX6_before 105 = .ok (.iinc 6 1, 3) := by decide +kernel
theorem dX6_before_108 : decode cX6_before 108 = .ok (.goto (-73), 3) := by decide +kernel
theorem dX6_before_111 : decode cX6_before 111 = .ok (.aload_n 0, 1) := by decide +kernel
theorem dX6_before_112 : decode cX6_before 112 = .ok (.getfield 16, 3) := by decide +kernel
theorem dX6_before_115 : decode cX6_before 115 = .ok (.invokevirtual 242, 3) := by decide +kernel
theorem dX6_before_118 : decode cX6_before 118 = .ok (.iload_n 3, 1) := by decide +kernel
theorem dX6_before_119 : decode cX6_before 119 = .ok (.ifCond .le 13, 3) := by decide +kernel
theorem dX6_before_122 : decode cX6_before 122 = .ok (.aload_n 0, 1) := by decide +kernel
theorem dX6_before_123 : decode cX6_before 123 = .ok (.getfield 16, 3) := by decide +kernel
theorem dX6_before_126 : decode cX6_before 126 = .ok (.iload 4, 2) := by decide +kernel
theorem dX6_before_128 : decode cX6_before 128 = .ok (.i2l, 1) := by decide +kernel
theorem dX6_before_129 : decode cX6_before 129 = .ok (.invokevirtual 243, 3) := by decide +kernel
theorem dX6_before_132 : decode cX6_before 132 = .ok (.iload_n 3, 1) := by decide +kernel
theorem dX6_before_133 : decode cX6_before 133 = .ok (.ireturn, 1) := by decide +kernel
theorem dX6_word_0 : decode cX6_word 0 = .ok (.aload_n 0, 1) := by decide +kernel
theorem dX6_word_1 : decode cX6_word 1 = .ok (.iload_n 1, 1) := by decide +kernel
theorem dX6_word_2 : decode cX6_word 2 = .ok (.invokevirtual 168, 3) := by decide +kernel
theorem dX6_word_5 : decode cX6_word 5 = .ok (.ifCond .ne 5, 3) := by decide +kernel
theorem dX6_word_8 : decode cX6_word 8 = .ok (.iconst (-1), 1) := by decide +kernel
theorem dX6_word_9 : decode cX6_word 9 = .ok (.ireturn, 1) := by decide +kernel
theorem dX6_word_10 : decode cX6_word 10 = .ok (.aload_n 0, 1) := by decide +kernel
theorem dX6_word_11 : decode cX6_word 11 = .ok (.invokevirtual 160, 3) := by decide +kernel
theorem dX6_word_14 : decode cX6_word 14 = .ok (.astore_n 2, 1) := by decide +kernel
theorem dX6_word_15 : decode cX6_word 15 = .ok (.aload_n 2, 1) := by decide +kernel
theorem dX6_word_16 : decode cX6_word 16 = .ok (.iload_n 1, 1) := by decide +kernel
theorem dX6_word_17 : decode cX6_word 17 = .ok (.invokevirtual 236, 3) := by decide +kernel
theorem dX6_word_20 : decode cX6_word 20 = .ok (.invokestatic 312, 3) := by decide +kernel
theorem dX6_word_23 : decode cX6_word 23 = .ok (.ifCond .eq 7, 3) := by decide +kernel
theorem dX6_word_26 : decode cX6_word 26 = .ok (.iload_n 1, 1) := by decide +kernel
theorem dX6_word_27 : decode cX6_word 27 = .ok (.goto 6, 3) := by decide +kernel
theorem dX6_word_30 : decode cX6_word 30 = .ok (.iload_n 1, 1) := by decide +kernel
theorem dX6_word_31 : decode cX6_word 31 = .ok (.iconst 1, 1) := by decide +kernel
theorem dX6_word_32 : decode cX6_word 32 = .ok (.isub, 1) := by decide +kernel
theorem dX6_word_33 : decode cX6_word 33 = .ok (.istore_n 3, 1) := by decide +kernel
theorem dX6_word_34 : decode cX6_word 34 = .ok (.aload_n 2, 1) := by decide +kernel
theorem dX6_word_35 : decode cX6_word 35 = .ok (.iload_n 3, 1) := by decide +kernel
theorem dX6_word_36 : decode cX6_word 36 = .ok (.invokevirtual 236, 3) := by decide +kernel
theorem dX6_word_39 : decode cX6_word 39 = .ok (.invokestatic 312, 3) := by decide +kernel
theorem dX6_word_42 : decode cX6_word 42 = .ok (.ifCond .ne 6, 3) := by decide +kernel
theorem dX6_word_45 : decode cX6_word 45 = .ok (.bipush (-2), 2) := by decide +kernel
theorem dX6_word_47 : decode cX6_word 47 = .ok (.ireturn, 1) := by decide +kernel
theorem dX6_word_48 : decode cX6_word 48 = .ok (.iload_n 3, 1) := by decide +kernel
theorem dX6_word_49 : decode cX6_word 49 = .ok (.istore 4, 2) := by decide +kernel
theorem dX6_word_51 : decode cX6_word 51 = .ok (.iload 4, 2) := by decide +kernel
theorem dX6_word_53 : decode cX6_word 53 = .ok (.ifCond .le 23, 3) := by decide +kernel
theorem dX6_word_56 : decode cX6_word 56 = .ok (.aload_n 2, 1) := by decide +kernel
theorem dX6_word_57 : decode cX6_word 57 = .ok (.iload 4, 2) := by decide +kernel
theorem dX6_word_59 : decode cX6_word 59 = .ok (.iconst 1, 1) := by decide +kernel
theorem dX6_word_60 : decode cX6_word 60 = .ok (.isub, 1) := by decide +kernel
theorem dX6_word_61 : decode cX6_word 61 = .ok (.invokevirtual 236, 3) := by decide +kernel
theorem dX6_word_64 : decode cX6_word 64 = .ok (.invokestatic 312, 3) := by decide +kernel
theorem dX6_word_67 : decode cX6_word 67 = .ok (.ifCond .eq 9, 3) := by decide +kernel
theorem dX6_word_70 : decode cX6_word 70 = .ok (.iinc 4 (-1), 3) := by decide +kernel
theorem dX6_word_73 : decode cX6_word 73 = .ok (.goto (-22), 3) := by decide +kernel
theorem dX6_word_76 : decode cX6_word 76 = .ok (.aload_n 0, 1) := by decide +kernel
theorem dX6_word_77 : decode cX6_word 77 = .ok (.getfield 16, 3) := by decide +kernel
theorem dX6_word_80 : decode cX6_word 80 = .ok (.aload_n 2, 1) := by decide +kernel
theorem dX6_word_81 : decode cX6_word 81 = .ok (.iload_n 3, 1) := by decide +kernel
theorem dX6_word_82 : decode cX6_word 82 = .ok (.invokevirtual 315, 3) := by decide +kernel
theorem dX6_word_85 : decode cX6_word 85 = .ok (.i2l, 1) := by decide +kernel
theorem dX6_word_86 : decode cX6_word 86 = .ok (.invokevirtual 246, 3) := by decide +kernel
theorem dX6_word_89 : decode cX6_word 89 = .ok (.iload 4, 2) := by decide +kernel
theorem dX6_word_91 : decode cX6_word 91 = .ok (.ireturn, 1) := by decide +kernel
theorem dX6_words_0 : decode cX6_words 0 = .ok (.aload_n 0, 1) := by decide +kernel
theorem dX6_words_1 : decode cX6_words 1 = .ok (.invokevirtual 160, 3) := by decide +kernel
theorem dX6_words_4 : decode cX6_words 4 = .ok (.astore_n 1, 1) := by decide +kernel
theorem dX6_words_5 : decode cX6_words 5 = .ok (.iconst 0, 1) := by decide +kernel
theorem dX6_words_6 : decode cX6_words 6 = .ok (.istore_n 2, 1) := by decide +kernel
theorem dX6_words_7 : decode cX6_words 7 = .ok (.iconst 0, 1) := by decide +kernel
theorem dX6_words_8 : decode cX6_words 8 = .ok (.istore_n 3, 1) := by decide +kernel
theorem dX6_words_9 : decode cX6_words 9 = .ok (.iconst 0, 1) := by decide +kernel
theorem dX6_words_10 : decode cX6_words 10 = .ok (.istore 4, 2) := by decide +kernel
theorem dX6_words_12 : decode cX6_words 12 = .ok (.iconst 0, 1) := by decide +kernel
theorem dX6_words_13 : decode cX6_words 13 = .ok (.istore 5, 2) := by decide +kernel
theorem dX6_words_15 : decode cX6_words 15 = .ok (.iload 5, 2) := by decide +kernel
theorem dX6_words_17 : decode cX6_words 17 = .ok (.aload_n 1, 1) := by decide +kernel
theorem dX6_words_18 : decode cX6_words 18 = .ok (.getfield 181, 3) := by decide +kernel
theorem dX6_words_21 : decode cX6_words 21 = .ok (.if_icmp .ge 50, 3) := by decide +kernel
theorem dX6_words_24 : decode cX6_words 24 = .ok (.aload_n 1, 1) := by decide +kernel
theorem dX6_words_25 : decode cX6_words 25 = .ok (.iload 5, 2) := by decide +kernel
theorem dX6_words_27 : decode cX6_words 27 = .ok (.invokevirtual 315, 3) := by decide +kernel
theorem dX6_words_30 : decode cX6_words 30 = .ok (.istore 6, 2) := by decide +kernel
theorem dX6_words_32 : decode cX6_words 32 = .ok (.iload 6, 2) := by decide +kernel
theorem dX6_words_34 : decode cX6_words 34 = .ok (.iload 5, 2) := by decide +kernel
theorem dX6_words_36 : decode cX6_words 36 = .ok (.if_icmp .le 29, 3) := by decide +kernel
theorem dX6_words_39 : decode cX6_words 39 = .ok (.iinc 2 1, 3) := by decide +kernel
theorem dX6_words_42 : decode cX6_words 42 = .ok (.iload 6, 2) := by decide +kernel
theorem dX6_words_44 : decode cX6_words 44 = .ok (.iload 5, 2) := by decide +kernel
theorem dX6_words_46 : decode cX6_words 46 = .ok (.isub, 1) := by decide +kernel
theorem dX6_words_47 : decode cX6_words 47 = .ok (.iload_n 3, 1) := by decide +kernel
theorem dX6_words_48 : decode cX6_words 48 = .ok (.if_icmp .le 13, 3) := by decide +kernel
theorem dX6_words_51 : decode cX6_words 51 = .ok (.iload 6, 2) := by decide +kernel
theorem dX6_words_53 : decode cX6_words 53 = .ok (.iload 5, 2) := by decide +kernel
theorem dX6_words_55 : decode cX6_words 55 = .ok (.isub, 1) := by decide +kernel
theorem dX6_words_56 : decode cX6_words 56 = .ok (.istore_n 3, 1) := by decide +kernel
theorem dX6_words_57 : decode cX6_words 57 = .ok (.iload 5, 2) := by decide +kernel
theorem dX6_words_59 : decode cX6_words 59 = .ok (.istore 4, 2) := by decide +kernel
theorem dX6_words_61 : decode cX6_words 61 = .ok (.iload 6, 2) := by decide +kernel
theorem dX6_words_63 : decode cX6_words 63 = .ok (.istore 5, 2) := by decide +kernel
theorem dX6_words_65 : decode cX6_words 65 = .ok (.iinc 5 1, 3) := by decide +kernel
theorem dX6_words_68 : decode cX6_words 68 = .ok (.goto (-53), 3) := by decide +kernel
theorem dX6_words_71 : decode cX6_words 71 = .ok (.aload_n 0, 1) := by decide +kernel
theorem dX6_words_72 : decode cX6_words 72 = .ok (.getfield 16, 3) := by decide +kernel
theorem dX6_words_75 : decode cX6_words 75 = .ok (.invokevirtual 242, 3) := by decide +kernel
theorem dX6_words_78 : decode cX6_words 78 = .ok (.iload_n 2, 1) := by decide +kernel
theorem dX6_words_79 : decode cX6_words 79 = .ok (.ifCond .le 15, 3) := by decide +kernel
theorem dX6_words_82 : decode cX6_words 82 = .ok (.aload_n 0, 1) := by decide +kernel
theorem dX6_words_83 : decode cX6_words 83 = .ok (.getfield 16, 3) := by decide +kernel
theorem dX6_words_86 : decode cX6_words 86 = .ok (.iload_n 3, 1) := by decide +kernel
theorem dX6_words_87 : decode cX6_words 87 = .ok (.i2l, 1) := by decide +kernel
theorem dX6_words_88 : decode cX6_words 88 = .ok (.iload 4, 2) := by decide +kernel
theorem dX6_words_90 : decode cX6_words 90 = .ok (.i2l, 1) := by decide +kernel
theorem dX6_words_91 : decode cX6_words 91 = .ok (.invokevirtual 217, 3) := by decide +kernel
theorem dX6_words_94 : decode cX6_words 94 = .ok (.iload_n 2, 1) := by decide +kernel
theorem dX6_words_95 : decode cX6_words 95 = .ok (.ireturn, 1) := by decide +kernel
theorem dX6_rows_0 : decode cX6_rows 0 = .ok (.iload_n 1, 1) := by decide +kernel
theorem dX6_rows_1 : decode cX6_rows 1 = .ok (.iconst 1, 1) := by decide +kernel
theorem dX6_rows_2 : decode cX6_rows 2 = .ok (.if_icmp .lt 9, 3) := by decide +kernel
theorem dX6_rows_5 : decode cX6_rows 5 = .ok (.iload_n 1, 1) := by decide +kernel
theorem dX6_rows_6 : decode cX6_rows 6 = .ok (.bipush 80, 2) := by decide +kernel
theorem dX6_rows_8 : decode cX6_rows 8 = .ok (.if_icmp .le 5, 3) := by decide +kernel
theorem dX6_rows_11 : decode cX6_rows 11 = .ok (.iconst (-1), 1) := by decide +kernel
theorem dX6_rows_12 : decode cX6_rows 12 = .ok (.ireturn, 1) := by decide +kernel
theorem dX6_rows_13 : decode cX6_rows 13 = .ok (.aload_n 0, 1) := by decide +kernel
theorem dX6_rows_14 : decode cX6_rows 14 = .ok (.invokevirtual 160, 3) := by decide +kernel
theorem dX6_rows_17 : decode cX6_rows 17 = .ok (.astore_n 2, 1) := by decide +kernel
theorem dX6_rows_18 : decode cX6_rows 18 = .ok (.iconst 0, 1) := by decide +kernel
theorem dX6_rows_19 : decode cX6_rows 19 = .ok (.istore_n 3, 1) := by decide +kernel
theorem dX6_rows_20 : decode cX6_rows 20 = .ok (.iconst 0, 1) := by decide +kernel
theorem dX6_rows_21 : decode cX6_rows 21 = .ok (.istore 4, 2) := by decide +kernel
theorem dX6_rows_23 : decode cX6_rows 23 = .ok (.iconst 0, 1) := by decide +kernel
theorem dX6_rows_24 : decode cX6_rows 24 = .ok (.istore 5, 2) := by decide +kernel
theorem dX6_rows_26 : decode cX6_rows 26 = .ok (.iload 5, 2) := by decide +kernel
theorem dX6_rows_28 : decode cX6_rows 28 = .ok (.aload_n 2, 1) := by decide +kernel
theorem dX6_rows_29 : decode cX6_rows 29 = .ok (.getfield 181, 3) := by decide +kernel
theorem dX6_rows_32 : decode cX6_rows 32 = .ok (.if_icmp .gt 80, 3) := by decide +kernel
theorem dX6_rows_35 : decode cX6_rows 35 = .ok (.aload_n 2, 1) := by decide +kernel
theorem dX6_rows_36 : decode cX6_rows 36 = .ok (.iload 5, 2) := by decide +kernel
theorem dX6_rows_38 : decode cX6_rows 38 = .ok (.iload_n 1, 1) := by decide +kernel
theorem dX6_rows_39 : decode cX6_rows 39 = .ok (.invokevirtual 318, 3) := by decide +kernel
theorem dX6_rows_42 : decode cX6_rows 42 = .ok (.istore 6, 2) := by decide +kernel
theorem dX6_rows_44 : decode cX6_rows 44 = .ok (.iinc 3 1, 3) := by decide +kernel
theorem dX6_rows_47 : decode cX6_rows 47 = .ok (.iload 4, 2) := by decide +kernel
theorem dX6_rows_49 : decode cX6_rows 49 = .ok (.iload 6, 2) := by decide +kernel
theorem dX6_rows_51 : decode cX6_rows 51 = .ok (.iload 5, 2) := by decide +kernel
theorem dX6_rows_53 : decode cX6_rows 53 = .ok (.isub, 1) := by decide +kernel
theorem dX6_rows_54 : decode cX6_rows 54 = .ok (.invokestatic 212, 3) := by decide +kernel
theorem dX6_rows_57 : decode cX6_rows 57 = .ok (.istore 4, 2) := by decide +kernel
theorem dX6_rows_59 : decode cX6_rows 59 = .ok (.iload 6, 2) := by decide +kernel
theorem dX6_rows_61 : decode cX6_rows 61 = .ok (.iload 5, 2) := by decide +kernel
theorem dX6_rows_63 : decode cX6_rows 63 = .ok (.if_icmp .eq 23, 3) := by decide +kernel
theorem dX6_rows_66 : decode cX6_rows 66 = .ok (.iload 6, 2) := by decide +kernel
theorem dX6_rows_68 : decode cX6_rows 68 = .ok (.aload_n 2, 1) := by decide +kernel
theorem dX6_rows_69 : decode cX6_rows 69 = .ok (.getfield 181, 3) := by decide +kernel
theorem dX6_rows_72 : decode cX6_rows 72 = .ok (.if_icmp .eq 14, 3) := by decide +kernel
theorem dX6_rows_75 : decode cX6_rows 75 = .ok (.aload_n 2, 1) := by decide +kernel
theorem dX6_rows_76 : decode cX6_rows 76 = .ok (.iload 6, 2) := by decide +kernel
theorem dX6_rows_78 : decode cX6_rows 78 = .ok (.invokevirtual 236, 3) := by decide +kernel
theorem dX6_rows_81 : decode cX6_rows 81 = .ok (.bipush 10, 2) := by decide +kernel
theorem dX6_rows_83 : decode cX6_rows 83 = .ok (.if_icmp .ne 7, 3) := by decide +kernel
theorem dX6_rows_86 : decode cX6_rows 86 = .ok (.iconst 1, 1) := by decide +kernel
theorem dX6_rows_87 : decode cX6_rows 87 = .ok (.goto 4, 3) := by decide +kernel
theorem dX6_rows_90 : decode cX6_rows 90 = .ok (.iconst 0, 1) := by decide +kernel
theorem dX6_rows_91 : decode cX6_rows 91 = .ok (.istore 7, 2) := by decide +kernel
theorem dX6_rows_93 : decode cX6_rows 93 = .ok (.iload 7, 2) := by decide +kernel
theorem dX6_rows_95 : decode cX6_rows 95 = .ok (.ifCond .eq 10, 3) := by decide +kernel
theorem dX6_rows_98 : decode cX6_rows 98 = .ok (.iload 6, 2) := by decide +kernel
theorem dX6_rows_100 : decode cX6_rows 100 = .ok (.iconst 1, 1) := by decide +kernel
theorem dX6_rows_101 : decode cX6_rows 101 = .ok (.iadd, 1) := by decide +kernel
theorem dX6_rows_102 : decode cX6_rows 102 = .ok (.goto 5, 3) := by decide +kernel
theorem dX6_rows_105 : decode cX6_rows 105 = .ok (.iload 6, 2) := by decide +kernel
theorem dX6_rows_107 : decode cX6_rows 107 = .ok (.istore 5, 2) := by decide +kernel
theorem dX6_rows_109 : decode cX6_rows 109 = .ok (.goto (-83), 3) := by decide +kernel
theorem dX6_rows_112 : decode cX6_rows 112 = .ok (.aload_n 0, 1) := by decide +kernel
theorem dX6_rows_113 : decode cX6_rows 113 = .ok (.getfield 16, 3) := by decide +kernel
theorem dX6_rows_116 : decode cX6_rows 116 = .ok (.iload 4, 2) := by decide +kernel
theorem dX6_rows_118 : decode cX6_rows 118 = .ok (.i2l, 1) := by decide +kernel
theorem dX6_rows_119 : decode cX6_rows 119 = .ok (.invokevirtual 246, 3) := by decide +kernel
theorem dX6_rows_122 : decode cX6_rows 122 = .ok (.iload_n 3, 1) := by decide +kernel
theorem dX6_rows_123 : decode cX6_rows 123 = .ok (.ireturn, 1) := by decide +kernel
theorem dX6_tally_0 : decode cX6_tally 0 = .ok (.iload_n 1, 1) := by decide +kernel
theorem dX6_tally_1 : decode cX6_tally 1 = .ok (.invokestatic 131, 3) := by decide +kernel
theorem dX6_tally_4 : decode cX6_tally 4 = .ok (.ifCond .ne 5, 3) := by decide +kernel
theorem dX6_tally_7 : decode cX6_tally 7 = .ok (.iconst (-1), 1) := by decide +kernel
theorem dX6_tally_8 : decode cX6_tally 8 = .ok (.ireturn, 1) := by decide +kernel
theorem dX6_tally_9 : decode cX6_tally 9 = .ok (.aload_n 0, 1) := by decide +kernel
theorem dX6_tally_10 : decode cX6_tally 10 = .ok (.invokevirtual 160, 3) := by decide +kernel
theorem dX6_tally_13 : decode cX6_tally 13 = .ok (.astore_n 2, 1) := by decide +kernel
theorem dX6_tally_14 : decode cX6_tally 14 = .ok (.iconst 0, 1) := by decide +kernel
theorem dX6_tally_15 : decode cX6_tally 15 = .ok (.istore_n 3, 1) := by decide +kernel
theorem dX6_tally_16 : decode cX6_tally 16 = .ok (.iconst 0, 1) := by decide +kernel
theorem dX6_tally_17 : decode cX6_tally 17 = .ok (.istore 4, 2) := by decide +kernel
theorem dX6_tally_19 : decode cX6_tally 19 = .ok (.iconst 0, 1) := by decide +kernel
theorem dX6_tally_20 : decode cX6_tally 20 = .ok (.istore 5, 2) := by decide +kernel
theorem dX6_tally_22 : decode cX6_tally 22 = .ok (.iconst 0, 1) := by decide +kernel
theorem dX6_tally_23 : decode cX6_tally 23 = .ok (.istore 6, 2) := by decide +kernel
theorem dX6_tally_25 : decode cX6_tally 25 = .ok (.iload 6, 2) := by decide +kernel
theorem dX6_tally_27 : decode cX6_tally 27 = .ok (.aload_n 2, 1) := by decide +kernel
theorem dX6_tally_28 : decode cX6_tally 28 = .ok (.getfield 181, 3) := by decide +kernel
theorem dX6_tally_31 : decode cX6_tally 31 = .ok (.if_icmp .ge 39, 3) := by decide +kernel
theorem dX6_tally_34 : decode cX6_tally 34 = .ok (.aload_n 2, 1) := by decide +kernel
theorem dX6_tally_35 : decode cX6_tally 35 = .ok (.iload 6, 2) := by decide +kernel
theorem dX6_tally_37 : decode cX6_tally 37 = .ok (.invokevirtual 236, 3) := by decide +kernel
theorem dX6_tally_40 : decode cX6_tally 40 = .ok (.iload_n 1, 1) := by decide +kernel
theorem dX6_tally_41 : decode cX6_tally 41 = .ok (.if_icmp .ne 23, 3) := by decide +kernel
theorem dX6_tally_44 : decode cX6_tally 44 = .ok (.iload_n 3, 1) := by decide +kernel
theorem dX6_tally_45 : decode cX6_tally 45 = .ok (.ifCond .ne 8, 3) := by decide +kernel
theorem dX6_tally_48 : decode cX6_tally 48 = .ok (.iload 6, 2) := by decide +kernel
theorem dX6_tally_50 : decode cX6_tally 50 = .ok (.goto 5, 3) := by decide +kernel
theorem dX6_tally_53 : decode cX6_tally 53 = .ok (.iload 4, 2) := by decide +kernel
theorem dX6_tally_55 : decode cX6_tally 55 = .ok (.istore 4, 2) := by decide +kernel
theorem dX6_tally_57 : decode cX6_tally 57 = .ok (.iload 6, 2) := by decide +kernel
theorem dX6_tally_59 : decode cX6_tally 59 = .ok (.istore 5, 2) := by decide +kernel
theorem dX6_tally_61 : decode cX6_tally 61 = .ok (.iinc 3 1, 3) := by decide +kernel
theorem dX6_tally_64 : decode cX6_tally 64 = .ok (.iinc 6 1, 3) := by decide +kernel
theorem dX6_tally_67 : decode cX6_tally 67 = .ok (.goto (-42), 3) := by decide +kernel
theorem dX6_tally_70 : decode cX6_tally 70 = .ok (.aload_n 0, 1) := by decide +kernel
theorem dX6_tally_71 : decode cX6_tally 71 = .ok (.getfield 16, 3) := by decide +kernel
theorem dX6_tally_74 : decode cX6_tally 74 = .ok (.invokevirtual 242, 3) := by decide +kernel
theorem dX6_tally_77 : decode cX6_tally 77 = .ok (.iload_n 3, 1) := by decide +kernel
theorem dX6_tally_78 : decode cX6_tally 78 = .ok (.ifCond .le 16, 3) := by decide +kernel
theorem dX6_tally_81 : decode cX6_tally 81 = .ok (.aload_n 0, 1) := by decide +kernel
theorem dX6_tally_82 : decode cX6_tally 82 = .ok (.getfield 16, 3) := by decide +kernel
theorem dX6_tally_85 : decode cX6_tally 85 = .ok (.iload 4, 2) := by decide +kernel
theorem dX6_tally_87 : decode cX6_tally 87 = .ok (.i2l, 1) := by decide +kernel
theorem dX6_tally_88 : decode cX6_tally 88 = .ok (.iload 5, 2) := by decide +kernel
theorem dX6_tally_90 : decode cX6_tally 90 = .ok (.i2l, 1) := by decide +kernel
theorem dX6_tally_91 : decode cX6_tally 91 = .ok (.invokevirtual 217, 3) := by decide +kernel
theorem dX6_tally_94 : decode cX6_tally 94 = .ok (.iload_n 3, 1) := by decide +kernel
theorem dX6_tally_95 : decode cX6_tally 95 = .ok (.ireturn, 1) := by decide +kernel
theorem dX6_alike_0 : decode cX6_alike 0 = .ok (.aload_n 0, 1) := by decide +kernel
theorem dX6_alike_1 : decode cX6_alike 1 = .ok (.iload_n 1, 1) := by decide +kernel
theorem dX6_alike_2 : decode cX6_alike 2 = .ok (.invokevirtual 168, 3) := by decide +kernel
theorem dX6_alike_5 : decode cX6_alike 5 = .ok (.ifCond .eq 11, 3) := by decide +kernel
theorem dX6_alike_8 : decode cX6_alike 8 = .ok (.aload_n 0, 1) := by decide +kernel
theorem dX6_alike_9 : decode cX6_alike 9 = .ok (.iload_n 2, 1) := by decide +kernel
theorem dX6_alike_10 : decode cX6_alike 10 = .ok (.invokevirtual 168, 3) := by decide +kernel
theorem dX6_alike_13 : decode cX6_alike 13 = .ok (.ifCond .ne 5, 3) := by decide +kernel
theorem dX6_alike_16 : decode cX6_alike 16 = .ok (.iconst (-1), 1) := by decide +kernel
theorem dX6_alike_17 : decode cX6_alike 17 = .ok (.ireturn, 1) := by decide +kernel
theorem dX6_alike_18 : decode cX6_alike 18 = .ok (.aload_n 0, 1) := by decide +kernel
theorem dX6_alike_19 : decode cX6_alike 19 = .ok (.invokevirtual 160, 3) := by decide +kernel
theorem dX6_alike_22 : decode cX6_alike 22 = .ok (.astore_n 3, 1) := by decide +kernel
theorem dX6_alike_23 : decode cX6_alike 23 = .ok (.iconst 0, 1) := by decide +kernel
theorem dX6_alike_24 : decode cX6_alike 24 = .ok (.istore 4, 2) := by decide +kernel
theorem dX6_alike_26 : decode cX6_alike 26 = .ok (.aload_n 3, 1) := by decide +kernel
theorem dX6_alike_27 : decode cX6_alike 27 = .ok (.iload_n 1, 1) := by decide +kernel
theorem dX6_alike_28 : decode cX6_alike 28 = .ok (.iload 4, 2) := by decide +kernel
theorem dX6_alike_30 : decode cX6_alike 30 = .ok (.iadd, 1) := by decide +kernel
theorem dX6_alike_31 : decode cX6_alike 31 = .ok (.invokevirtual 233, 3) := by decide +kernel
theorem dX6_alike_34 : decode cX6_alike 34 = .ok (.ifCond .eq 39, 3) := by decide +kernel
theorem dX6_alike_37 : decode cX6_alike 37 = .ok (.aload_n 3, 1) := by decide +kernel
theorem dX6_alike_38 : decode cX6_alike 38 = .ok (.iload_n 2, 1) := by decide +kernel
theorem dX6_alike_39 : decode cX6_alike 39 = .ok (.iload 4, 2) := by decide +kernel
theorem dX6_alike_41 : decode cX6_alike 41 = .ok (.iadd, 1) := by decide +kernel
theorem dX6_alike_42 : decode cX6_alike 42 = .ok (.invokevirtual 233, 3) := by decide +kernel
theorem dX6_alike_45 : decode cX6_alike 45 = .ok (.ifCond .eq 28, 3) := by decide +kernel
theorem dX6_alike_48 : decode cX6_alike 48 = .ok (.aload_n 3, 1) := by decide +kernel
theorem dX6_alike_49 : decode cX6_alike 49 = .ok (.iload_n 1, 1) := by decide +kernel
theorem dX6_alike_50 : decode cX6_alike 50 = .ok (.iload 4, 2) := by decide +kernel
theorem dX6_alike_52 : decode cX6_alike 52 = .ok (.iadd, 1) := by decide +kernel
theorem dX6_alike_53 : decode cX6_alike 53 = .ok (.invokevirtual 236, 3) := by decide +kernel
theorem dX6_alike_56 : decode cX6_alike 56 = .ok (.aload_n 3, 1) := by decide +kernel
theorem dX6_alike_57 : decode cX6_alike 57 = .ok (.iload_n 2, 1) := by decide +kernel
theorem dX6_alike_58 : decode cX6_alike 58 = .ok (.iload 4, 2) := by decide +kernel
theorem dX6_alike_60 : decode cX6_alike 60 = .ok (.iadd, 1) := by decide +kernel
theorem dX6_alike_61 : decode cX6_alike 61 = .ok (.invokevirtual 236, 3) := by decide +kernel
theorem dX6_alike_64 : decode cX6_alike 64 = .ok (.if_icmp .ne 9, 3) := by decide +kernel
theorem dX6_alike_67 : decode cX6_alike 67 = .ok (.iinc 4 1, 3) := by decide +kernel
theorem dX6_alike_70 : decode cX6_alike 70 = .ok (.goto (-44), 3) := by decide +kernel
theorem dX6_alike_73 : decode cX6_alike 73 = .ok (.aload_n 0, 1) := by decide +kernel
theorem dX6_alike_74 : decode cX6_alike 74 = .ok (.getfield 16, 3) := by decide +kernel
theorem dX6_alike_77 : decode cX6_alike 77 = .ok (.aload_n 3, 1) := by decide +kernel
theorem dX6_alike_78 : decode cX6_alike 78 = .ok (.iload_n 1, 1) := by decide +kernel
theorem dX6_alike_79 : decode cX6_alike 79 = .ok (.iload 4, 2) := by decide +kernel
theorem dX6_alike_81 : decode cX6_alike 81 = .ok (.iadd, 1) := by decide +kernel
theorem dX6_alike_82 : decode cX6_alike 82 = .ok (.invokevirtual 236, 3) := by decide +kernel
theorem dX6_alike_85 : decode cX6_alike 85 = .ok (.i2l, 1) := by decide +kernel
theorem dX6_alike_86 : decode cX6_alike 86 = .ok (.aload_n 3, 1) := by decide +kernel
theorem dX6_alike_87 : decode cX6_alike 87 = .ok (.iload_n 2, 1) := by decide +kernel
theorem dX6_alike_88 : decode cX6_alike 88 = .ok (.iload 4, 2) := by decide +kernel
theorem dX6_alike_90 : decode cX6_alike 90 = .ok (.iadd, 1) := by decide +kernel
theorem dX6_alike_91 : decode cX6_alike 91 = .ok (.invokevirtual 236, 3) := by decide +kernel
theorem dX6_alike_94 : decode cX6_alike 94 = .ok (.i2l, 1) := by decide +kernel
theorem dX6_alike_95 : decode cX6_alike 95 = .ok (.invokevirtual 217, 3) := by decide +kernel
theorem dX6_alike_98 : decode cX6_alike 98 = .ok (.iload 4, 2) := by decide +kernel
theorem dX6_alike_100 : decode cX6_alike 100 = .ok (.ireturn, 1) := by decide +kernel
theorem dX6_sum_0 : decode cX6_sum 0 = .ok (.iload_n 2, 1) := by decide +kernel
theorem dX6_sum_1 : decode cX6_sum 1 = .ok (.ifCond .lt 7, 3) := by decide +kernel
theorem dX6_sum_4 : decode cX6_sum 4 = .ok (.iload_n 1, 1) := by decide +kernel
theorem dX6_sum_5 : decode cX6_sum 5 = .ok (.ifCond .ge 5, 3) := by decide +kernel
theorem dX6_sum_8 : decode cX6_sum 8 = .ok (.iconst (-1), 1) := by decide +kernel
theorem dX6_sum_9 : decode cX6_sum 9 = .ok (.ireturn, 1) := by decide +kernel
theorem dX6_sum_10 : decode cX6_sum 10 = .ok (.aload_n 0, 1) := by decide +kernel
theorem dX6_sum_11 : decode cX6_sum 11 = .ok (.iload_n 1, 1) := by decide +kernel
theorem dX6_sum_12 : decode cX6_sum 12 = .ok (.iload_n 2, 1) := by decide +kernel
theorem dX6_sum_13 : decode cX6_sum 13 = .ok (.invokevirtual 156, 3) := by decide +kernel
theorem dX6_sum_16 : decode cX6_sum 16 = .ok (.ifCond .ne 6, 3) := by decide +kernel
theorem dX6_sum_19 : decode cX6_sum 19 = .ok (.bipush (-2), 2) := by decide +kernel
theorem dX6_sum_21 : decode cX6_sum 21 = .ok (.ireturn, 1) := by decide +kernel
theorem dX6_sum_22 : decode cX6_sum 22 = .ok (.aload_n 0, 1) := by decide +kernel
theorem dX6_sum_23 : decode cX6_sum 23 = .ok (.getfield 16, 3) := by decide +kernel
theorem dX6_sum_26 : decode cX6_sum 26 = .ok (.aload_n 0, 1) := by decide +kernel
theorem dX6_sum_27 : decode cX6_sum 27 = .ok (.invokevirtual 160, 3) := by decide +kernel
theorem dX6_sum_30 : decode cX6_sum 30 = .ok (.iload_n 1, 1) := by decide +kernel
theorem dX6_sum_31 : decode cX6_sum 31 = .ok (.iload_n 1, 1) := by decide +kernel
theorem dX6_sum_32 : decode cX6_sum 32 = .ok (.iload_n 2, 1) := by decide +kernel
theorem dX6_sum_33 : decode cX6_sum 33 = .ok (.iadd, 1) := by decide +kernel
theorem dX6_sum_34 : decode cX6_sum 34 = .ok (.invokevirtual 321, 3) := by decide +kernel
theorem dX6_sum_37 : decode cX6_sum 37 = .ok (.i2l, 1) := by decide +kernel
theorem dX6_sum_38 : decode cX6_sum 38 = .ok (.invokevirtual 246, 3) := by decide +kernel
theorem dX6_sum_41 : decode cX6_sum 41 = .ok (.iconst 0, 1) := by decide +kernel
theorem dX6_sum_42 : decode cX6_sum 42 = .ok (.ireturn, 1) := by decide +kernel
theorem dX6_differs_0 : decode cX6_differs 0 = .ok (.iload_n 1, 1) := by decide +kernel
theorem dX6_differs_1 : decode cX6_differs 1 = .ok (.ifCond .lt 14, 3) := by decide +kernel
theorem dX6_differs_4 : decode cX6_differs 4 = .ok (.iload_n 1, 1) := by decide +kernel
theorem dX6_differs_5 : decode cX6_differs 5 = .ok (.aload_n 0, 1) := by decide +kernel
theorem dX6_differs_6 : decode cX6_differs 6 = .ok (.getfield 30, 3) := by decide +kernel
theorem dX6_differs_9 : decode cX6_differs 9 = .ok (.getfield 221, 3) := by decide +kernel
theorem dX6_differs_12 : decode cX6_differs 12 = .ok (.if_icmp .le 5, 3) := by decide +kernel
theorem dX6_differs_15 : decode cX6_differs 15 = .ok (.iconst (-1), 1) := by decide +kernel
theorem dX6_differs_16 : decode cX6_differs 16 = .ok (.ireturn, 1) := by decide +kernel
theorem dX6_differs_17 : decode cX6_differs 17 = .ok (.aload_n 0, 1) := by decide +kernel
theorem dX6_differs_18 : decode cX6_differs 18 = .ok (.invokevirtual 160, 3) := by decide +kernel
theorem dX6_differs_21 : decode cX6_differs 21 = .ok (.astore_n 2, 1) := by decide +kernel
theorem dX6_differs_22 : decode cX6_differs 22 = .ok (.aload_n 0, 1) := by decide +kernel
theorem dX6_differs_23 : decode cX6_differs 23 = .ok (.getfield 59, 3) := by decide +kernel
theorem dX6_differs_26 : decode cX6_differs 26 = .ok (.astore_n 3, 1) := by decide +kernel
theorem dX6_differs_27 : decode cX6_differs 27 = .ok (.aload_n 3, 1) := by decide +kernel
theorem dX6_differs_28 : decode cX6_differs 28 = .ok (.aload_n 0, 1) := by decide +kernel
theorem dX6_differs_29 : decode cX6_differs 29 = .ok (.getfield 30, 3) := by decide +kernel
theorem dX6_differs_32 : decode cX6_differs 32 = .ok (.iload_n 1, 1) := by decide +kernel
theorem dX6_differs_33 : decode cX6_differs 33 = .ok (.invokevirtual 324, 3) := by decide +kernel
theorem dX6_differs_36 : decode cX6_differs 36 = .ok (.aload_n 0, 1) := by decide +kernel
theorem dX6_differs_37 : decode cX6_differs 37 = .ok (.getfield 23, 3) := by decide +kernel
theorem dX6_differs_40 : decode cX6_differs 40 = .ok (.invokevirtual 328, 3) := by decide +kernel
theorem dX6_differs_43 : decode cX6_differs 43 = .ok (.aload_n 2, 1) := by decide +kernel
theorem dX6_differs_44 : decode cX6_differs 44 = .ok (.getfield 181, 3) := by decide +kernel
theorem dX6_differs_47 : decode cX6_differs 47 = .ok (.aload_n 3, 1) := by decide +kernel
theorem dX6_differs_48 : decode cX6_differs 48 = .ok (.getfield 181, 3) := by decide +kernel
theorem dX6_differs_51 : decode cX6_differs 51 = .ok (.invokestatic 239, 3) := by decide +kernel
theorem dX6_differs_54 : decode cX6_differs 54 = .ok (.istore 4, 2) := by decide +kernel
theorem dX6_differs_56 : decode cX6_differs 56 = .ok (.iconst 0, 1) := by decide +kernel
theorem dX6_differs_57 : decode cX6_differs 57 = .ok (.istore 5, 2) := by decide +kernel
theorem dX6_differs_59 : decode cX6_differs 59 = .ok (.iload 5, 2) := by decide +kernel
theorem dX6_differs_61 : decode cX6_differs 61 = .ok (.iload 4, 2) := by decide +kernel
theorem dX6_differs_63 : decode cX6_differs 63 = .ok (.if_icmp .ge 24, 3) := by decide +kernel
theorem dX6_differs_66 : decode cX6_differs 66 = .ok (.aload_n 2, 1) := by decide +kernel
theorem dX6_differs_67 : decode cX6_differs 67 = .ok (.iload 5, 2) := by decide +kernel
theorem dX6_differs_69 : decode cX6_differs 69 = .ok (.invokevirtual 236, 3) := by decide +kernel
theorem dX6_differs_72 : decode cX6_differs 72 = .ok (.aload_n 3, 1) := by decide +kernel
theorem dX6_differs_73 : decode cX6_differs 73 = .ok (.iload 5, 2) := by decide +kernel
theorem dX6_differs_75 : decode cX6_differs 75 = .ok (.invokevirtual 236, 3) := by decide +kernel
theorem dX6_differs_78 : decode cX6_differs 78 = .ok (.if_icmp .ne 9, 3) := by decide +kernel
theorem dX6_differs_81 : decode cX6_differs 81 = .ok (.iinc 5 1, 3) := by decide +kernel
theorem dX6_differs_84 : decode cX6_differs 84 = .ok (.goto (-25), 3) := by decide +kernel
theorem dX6_differs_87 : decode cX6_differs 87 = .ok (.iconst 0, 1) := by decide +kernel
theorem dX6_differs_88 : decode cX6_differs 88 = .ok (.istore 6, 2) := by decide +kernel
theorem dX6_differs_90 : decode cX6_differs 90 = .ok (.iload 6, 2) := by decide +kernel
theorem dX6_differs_92 : decode cX6_differs 92 = .ok (.iload 4, 2) := by decide +kernel
theorem dX6_differs_94 : decode cX6_differs 94 = .ok (.iload 5, 2) := by decide +kernel
theorem dX6_differs_96 : decode cX6_differs 96 = .ok (.isub, 1) := by decide +kernel
theorem dX6_differs_97 : decode cX6_differs 97 = .ok (.if_icmp .ge 38, 3) := by decide +kernel
theorem dX6_differs_100 : decode cX6_differs 100 = .ok (.aload_n 2, 1) := by decide +kernel
theorem dX6_differs_101 : decode cX6_differs 101 = .ok (.aload_n 2, 1) := by decide +kernel
theorem dX6_differs_102 : decode cX6_differs 102 = .ok (.getfield 181, 3) := by decide +kernel
theorem dX6_differs_105 : decode cX6_differs 105 = .ok (.iconst 1, 1) := by decide +kernel
theorem dX6_differs_106 : decode cX6_differs 106 = .ok (.isub, 1) := by decide +kernel
theorem dX6_differs_107 : decode cX6_differs 107 = .ok (.iload 6, 2) := by decide +kernel
theorem dX6_differs_109 : decode cX6_differs 109 = .ok (.isub, 1) := by decide +kernel
theorem dX6_differs_110 : decode cX6_differs 110 = .ok (.invokevirtual 236, 3) := by decide +kernel
theorem dX6_differs_113 : decode cX6_differs 113 = .ok (.aload_n 3, 1) := by decide +kernel
theorem dX6_differs_114 : decode cX6_differs 114 = .ok (.aload_n 3, 1) := by decide +kernel
theorem dX6_differs_115 : decode cX6_differs 115 = .ok (.getfield 181, 3) := by decide +kernel
theorem dX6_differs_118 : decode cX6_differs 118 = .ok (.iconst 1, 1) := by decide +kernel
theorem dX6_differs_119 : decode cX6_differs 119 = .ok (.isub, 1) := by decide +kernel
theorem dX6_differs_120 : decode cX6_differs 120 = .ok (.iload 6, 2) := by decide +kernel
theorem dX6_differs_122 : decode cX6_differs 122 = .ok (.isub, 1) := by decide +kernel
theorem dX6_differs_123 : decode cX6_differs 123 = .ok (.invokevirtual 236, 3) := by decide +kernel
theorem dX6_differs_126 : decode cX6_differs 126 = .ok (.if_icmp .ne 9, 3) := by decide +kernel
theorem dX6_differs_129 : decode cX6_differs 129 = .ok (.iinc 6 1, 3) := by decide +kernel
theorem dX6_differs_132 : decode cX6_differs 132 = .ok (.goto (-42), 3) := by decide +kernel
theorem dX6_differs_135 : decode cX6_differs 135 = .ok (.aload_n 0, 1) := by decide +kernel
theorem dX6_differs_136 : decode cX6_differs 136 = .ok (.getfield 16, 3) := by decide +kernel
theorem dX6_differs_139 : decode cX6_differs 139 = .ok (.aload_n 2, 1) := by decide +kernel
theorem dX6_differs_140 : decode cX6_differs 140 = .ok (.getfield 181, 3) := by decide +kernel
theorem dX6_differs_143 : decode cX6_differs 143 = .ok (.iload 5, 2) := by decide +kernel
theorem dX6_differs_145 : decode cX6_differs 145 = .ok (.isub, 1) := by decide +kernel
theorem dX6_differs_146 : decode cX6_differs 146 = .ok (.iload 6, 2) := by decide +kernel
theorem dX6_differs_148 : decode cX6_differs 148 = .ok (.isub, 1) := by decide +kernel
theorem dX6_differs_149 : decode cX6_differs 149 = .ok (.i2l, 1) := by decide +kernel
theorem dX6_differs_150 : decode cX6_differs 150 = .ok (.aload_n 3, 1) := by decide +kernel
theorem dX6_differs_151 : decode cX6_differs 151 = .ok (.getfield 181, 3) := by decide +kernel
theorem dX6_differs_154 : decode cX6_differs 154 = .ok (.iload 5, 2) := by decide +kernel
theorem dX6_differs_156 : decode cX6_differs 156 = .ok (.isub, 1) := by decide +kernel
theorem dX6_differs_157 : decode cX6_differs 157 = .ok (.iload 6, 2) := by decide +kernel
theorem dX6_differs_159 : decode cX6_differs 159 = .ok (.isub, 1) := by decide +kernel
theorem dX6_differs_160 : decode cX6_differs 160 = .ok (.i2l, 1) := by decide +kernel
theorem dX6_differs_161 : decode cX6_differs 161 = .ok (.invokevirtual 217, 3) := by decide +kernel
theorem dX6_differs_164 : decode cX6_differs 164 = .ok (.iload 5, 2) := by decide +kernel
theorem dX6_differs_166 : decode cX6_differs 166 = .ok (.ireturn, 1) := by decide +kernel
theorem dX6_years_0 : decode cX6_years 0 = .ok (.iload_n 2, 1) := by decide +kernel
theorem dX6_years_1 : decode cX6_years 1 = .ok (.iconst 1, 1) := by decide +kernel
theorem dX6_years_2 : decode cX6_years 2 = .ok (.if_icmp .lt 9, 3) := by decide +kernel
theorem dX6_years_5 : decode cX6_years 5 = .ok (.iload_n 2, 1) := by decide +kernel
theorem dX6_years_6 : decode cX6_years 6 = .ok (.bipush 40, 2) := by decide +kernel
theorem dX6_years_8 : decode cX6_years 8 = .ok (.if_icmp .le 5, 3) := by decide +kernel
theorem dX6_years_11 : decode cX6_years 11 = .ok (.iconst (-1), 1) := by decide +kernel
theorem dX6_years_12 : decode cX6_years 12 = .ok (.ireturn, 1) := by decide +kernel
theorem dX6_years_13 : decode cX6_years 13 = .ok (.aload_n 0, 1) := by decide +kernel
theorem dX6_years_14 : decode cX6_years 14 = .ok (.getfield 23, 3) := by decide +kernel
theorem dX6_years_17 : decode cX6_years 17 = .ok (.getfield 135, 3) := by decide +kernel
theorem dX6_years_20 : decode cX6_years 20 = .ok (.istore_n 3, 1) := by decide +kernel
theorem dX6_years_21 : decode cX6_years 21 = .ok (.aload_n 0, 1) := by decide +kernel
theorem dX6_years_22 : decode cX6_years 22 = .ok (.getfield 49, 3) := by decide +kernel
theorem dX6_years_25 : decode cX6_years 25 = .ok (.aload_n 0, 1) := by decide +kernel
theorem dX6_years_26 : decode cX6_years 26 = .ok (.getfield 30, 3) := by decide +kernel
theorem dX6_years_29 : decode cX6_years 29 = .ok (.invokevirtual 84, 3) := by decide +kernel
theorem dX6_years_32 : decode cX6_years 32 = .ok (.invokevirtual 331, 3) := by decide +kernel
theorem dX6_years_35 : decode cX6_years 35 = .ok (.new 335, 3) := by decide +kernel
theorem dX6_years_38 : decode cX6_years 38 = .ok (.dup, 1) := by decide +kernel
theorem dX6_years_39 : decode cX6_years 39 = .ok (.iload_n 1, 1) := by decide +kernel
theorem dX6_years_40 : decode cX6_years 40 = .ok (.invokespecial 337, 3) := by decide +kernel
theorem dX6_years_43 : decode cX6_years 43 = .ok (.astore 4, 2) := by decide +kernel
theorem dX6_years_45 : decode cX6_years 45 = .ok (.iconst 0, 1) := by decide +kernel
theorem dX6_years_46 : decode cX6_years 46 = .ok (.istore 5, 2) := by decide +kernel
theorem dX6_years_48 : decode cX6_years 48 = .ok (.iload 5, 2) := by decide +kernel
theorem dX6_years_50 : decode cX6_years 50 = .ok (.iload_n 2, 1) := by decide +kernel
theorem dX6_years_51 : decode cX6_years 51 = .ok (.if_icmp .ge 15, 3) := by decide +kernel
theorem dX6_years_54 : decode cX6_years 54 = .ok (.aload_n 0, 1) := by decide +kernel
theorem dX6_years_55 : decode cX6_years 55 = .ok (.aload 4, 2) := by decide +kernel
theorem dX6_years_57 : decode cX6_years 57 = .ok (.invokevirtual 339, 3) := by decide +kernel
theorem dX6_years_60 : decode cX6_years 60 = .ok (.iinc 5 1, 3) := by decide +kernel
theorem dX6_years_63 : decode cX6_years 63 = .ok (.goto (-15), 3) := by decide +kernel
theorem dX6_years_66 : decode cX6_years 66 = .ok (.aload_n 0, 1) := by decide +kernel
theorem dX6_years_67 : decode cX6_years 67 = .ok (.getfield 59, 3) := by decide +kernel
theorem dX6_years_70 : decode cX6_years 70 = .ok (.aload_n 0, 1) := by decide +kernel
theorem dX6_years_71 : decode cX6_years 71 = .ok (.getfield 49, 3) := by decide +kernel
theorem dX6_years_74 : decode cX6_years 74 = .ok (.aload_n 0, 1) := by decide +kernel
theorem dX6_years_75 : decode cX6_years 75 = .ok (.getfield 23, 3) := by decide +kernel
theorem dX6_years_78 : decode cX6_years 78 = .ok (.invokevirtual 328, 3) := by decide +kernel
theorem dX6_years_81 : decode cX6_years 81 = .ok (.aload_n 0, 1) := by decide +kernel
theorem dX6_years_82 : decode cX6_years 82 = .ok (.getfield 16, 3) := by decide +kernel
theorem dX6_years_85 : decode cX6_years 85 = .ok (.aload_n 0, 1) := by decide +kernel
theorem dX6_years_86 : decode cX6_years 86 = .ok (.getfield 59, 3) := by decide +kernel
theorem dX6_years_89 : decode cX6_years 89 = .ok (.iconst 0, 1) := by decide +kernel
theorem dX6_years_90 : decode cX6_years 90 = .ok (.aload_n 0, 1) := by decide +kernel
theorem dX6_years_91 : decode cX6_years 91 = .ok (.getfield 59, 3) := by decide +kernel
theorem dX6_years_94 : decode cX6_years 94 = .ok (.getfield 181, 3) := by decide +kernel
theorem dX6_years_97 : decode cX6_years 97 = .ok (.invokevirtual 321, 3) := by decide +kernel
theorem dX6_years_100 : decode cX6_years 100 = .ok (.i2l, 1) := by decide +kernel
theorem dX6_years_101 : decode cX6_years 101 = .ok (.aload_n 0, 1) := by decide +kernel
theorem dX6_years_102 : decode cX6_years 102 = .ok (.getfield 49, 3) := by decide +kernel
theorem dX6_years_105 : decode cX6_years 105 = .ok (.getfield 259, 3) := by decide +kernel
theorem dX6_years_108 : decode cX6_years 108 = .ok (.i2l, 1) := by decide +kernel
theorem dX6_years_109 : decode cX6_years 109 = .ok (.aload_n 0, 1) := by decide +kernel
theorem dX6_years_110 : decode cX6_years 110 = .ok (.getfield 23, 3) := by decide +kernel
theorem dX6_years_113 : decode cX6_years 113 = .ok (.getfield 135, 3) := by decide +kernel
theorem dX6_years_116 : decode cX6_years 116 = .ok (.i2l, 1) := by decide +kernel
theorem dX6_years_117 : decode cX6_years 117 = .ok (.invokevirtual 282, 3) := by decide +kernel
theorem dX6_years_120 : decode cX6_years 120 = .ok (.aload_n 0, 1) := by decide +kernel
theorem dX6_years_121 : decode cX6_years 121 = .ok (.getfield 23, 3) := by decide +kernel
theorem dX6_years_124 : decode cX6_years 124 = .ok (.iload_n 3, 1) := by decide +kernel
theorem dX6_years_125 : decode cX6_years 125 = .ok (.putfield 135, 3) := by decide +kernel
theorem dX6_years_128 : decode cX6_years 128 = .ok (.aload_n 0, 1) := by decide +kernel
theorem dX6_years_129 : decode cX6_years 129 = .ok (.getfield 49, 3) := by decide +kernel
theorem dX6_years_132 : decode cX6_years 132 = .ok (.getfield 104, 3) := by decide +kernel
theorem dX6_years_135 : decode cX6_years 135 = .ok (.ireturn, 1) := by decide +kernel
theorem dX6_keep_0 : decode cX6_keep 0 = .ok (.iload_n 1, 1) := by decide +kernel
theorem dX6_keep_1 : decode cX6_keep 1 = .ok (.ifCond .lt 8, 3) := by decide +kernel
theorem dX6_keep_4 : decode cX6_keep 4 = .ok (.iload_n 1, 1) := by decide +kernel
theorem dX6_keep_5 : decode cX6_keep 5 = .ok (.iconst 3, 1) := by decide +kernel
theorem dX6_keep_6 : decode cX6_keep 6 = .ok (.if_icmp .lt 5, 3) := by decide +kernel
theorem dX6_keep_9 : decode cX6_keep 9 = .ok (.iconst 0, 1) := by decide +kernel
theorem dX6_keep_10 : decode cX6_keep 10 = .ok (.ireturn, 1) := by decide +kernel
theorem dX6_keep_11 : decode cX6_keep 11 = .ok (.aload_n 0, 1) := by decide +kernel
theorem dX6_keep_12 : decode cX6_keep 12 = .ok (.getfield 36, 3) := by decide +kernel
theorem dX6_keep_15 : decode cX6_keep 15 = .ok (.iload_n 1, 1) := by decide +kernel
theorem dX6_keep_16 : decode cX6_keep 16 = .ok (.aaload, 1) := by decide +kernel
theorem dX6_keep_17 : decode cX6_keep 17 = .ok (.astore_n 2, 1) := by decide +kernel
theorem dX6_keep_18 : decode cX6_keep 18 = .ok (.aload_n 2, 1) := by decide +kernel
theorem dX6_keep_19 : decode cX6_keep 19 = .ok (.ifnonnull 18, 3) := by decide +kernel
theorem dX6_keep_22 : decode cX6_keep 22 = .ok (.new 34, 3) := by decide +kernel
theorem dX6_keep_25 : decode cX6_keep 25 = .ok (.dup, 1) := by decide +kernel
theorem dX6_keep_26 : decode cX6_keep 26 = .ok (.invokespecial 44, 3) := by decide +kernel
theorem dX6_keep_29 : decode cX6_keep 29 = .ok (.astore_n 2, 1) := by decide +kernel
theorem dX6_keep_30 : decode cX6_keep 30 = .ok (.aload_n 0, 1) := by decide +kernel
theorem dX6_keep_31 : decode cX6_keep 31 = .ok (.getfield 36, 3) := by decide +kernel
theorem dX6_keep_34 : decode cX6_keep 34 = .ok (.iload_n 1, 1) := by decide +kernel
theorem dX6_keep_35 : decode cX6_keep 35 = .ok (.aload_n 2, 1) := by decide +kernel
theorem dX6_keep_36 : decode cX6_keep 36 = .ok (.aastore, 1) := by decide +kernel
theorem dX6_keep_37 : decode cX6_keep 37 = .ok (.aload_n 2, 1) := by decide +kernel
theorem dX6_keep_38 : decode cX6_keep 38 = .ok (.aload_n 0, 1) := by decide +kernel
theorem dX6_keep_39 : decode cX6_keep 39 = .ok (.getfield 30, 3) := by decide +kernel
theorem dX6_keep_42 : decode cX6_keep 42 = .ok (.invokevirtual 84, 3) := by decide +kernel
theorem dX6_keep_45 : decode cX6_keep 45 = .ok (.invokevirtual 331, 3) := by decide +kernel
theorem dX6_keep_48 : decode cX6_keep 48 = .ok (.aload_n 0, 1) := by decide +kernel
theorem dX6_keep_49 : decode cX6_keep 49 = .ok (.getfield 40, 3) := by decide +kernel
theorem dX6_keep_52 : decode cX6_keep 52 = .ok (.iload_n 1, 1) := by decide +kernel
theorem dX6_keep_53 : decode cX6_keep 53 = .ok (.iconst 1, 1) := by decide +kernel
theorem dX6_keep_54 : decode cX6_keep 54 = .ok (.bastore, 1) := by decide +kernel
theorem dX6_keep_55 : decode cX6_keep 55 = .ok (.iconst 1, 1) := by decide +kernel
theorem dX6_keep_56 : decode cX6_keep 56 = .ok (.ireturn, 1) := by decide +kernel
theorem dX6_again_0 : decode cX6_again 0 = .ok (.iload_n 1, 1) := by decide +kernel
theorem dX6_again_1 : decode cX6_again 1 = .ok (.ifCond .lt 17, 3) := by decide +kernel
theorem dX6_again_4 : decode cX6_again 4 = .ok (.iload_n 1, 1) := by decide +kernel
theorem dX6_again_5 : decode cX6_again 5 = .ok (.iconst 3, 1) := by decide +kernel
theorem dX6_again_6 : decode cX6_again 6 = .ok (.if_icmp .ge 12, 3) := by decide +kernel
theorem dX6_again_9 : decode cX6_again 9 = .ok (.aload_n 0, 1) := by decide +kernel
theorem dX6_again_10 : decode cX6_again 10 = .ok (.getfield 40, 3) := by decide +kernel
theorem dX6_again_13 : decode cX6_again 13 = .ok (.iload_n 1, 1) := by decide +kernel
theorem dX6_again_14 : decode cX6_again 14 = .ok (.baload, 1) := by decide +kernel
theorem dX6_again_15 : decode cX6_again 15 = .ok (.ifCond .ne 5, 3) := by decide +kernel
theorem dX6_again_18 : decode cX6_again 18 = .ok (.iconst 0, 1) := by decide +kernel
theorem dX6_again_19 : decode cX6_again 19 = .ok (.ireturn, 1) := by decide +kernel
theorem dX6_again_20 : decode cX6_again 20 = .ok (.aload_n 0, 1) := by decide +kernel
theorem dX6_again_21 : decode cX6_again 21 = .ok (.getfield 36, 3) := by decide +kernel
theorem dX6_again_24 : decode cX6_again 24 = .ok (.iload_n 1, 1) := by decide +kernel
theorem dX6_again_25 : decode cX6_again 25 = .ok (.aaload, 1) := by decide +kernel
theorem dX6_again_26 : decode cX6_again 26 = .ok (.astore_n 2, 1) := by decide +kernel
theorem dX6_again_27 : decode cX6_again 27 = .ok (.aload_n 2, 1) := by decide +kernel
theorem dX6_again_28 : decode cX6_again 28 = .ok (.ifnonnull 5, 3) := by decide +kernel
theorem dX6_again_31 : decode cX6_again 31 = .ok (.iconst 0, 1) := by decide +kernel
theorem dX6_again_32 : decode cX6_again 32 = .ok (.ireturn, 1) := by decide +kernel
theorem dX6_again_33 : decode cX6_again 33 = .ok (.aload_n 0, 1) := by decide +kernel
theorem dX6_again_34 : decode cX6_again 34 = .ok (.getfield 30, 3) := by decide +kernel
theorem dX6_again_37 : decode cX6_again 37 = .ok (.invokevirtual 84, 3) := by decide +kernel
theorem dX6_again_40 : decode cX6_again 40 = .ok (.aload_n 2, 1) := by decide +kernel
theorem dX6_again_41 : decode cX6_again 41 = .ok (.invokevirtual 331, 3) := by decide +kernel
theorem dX6_again_44 : decode cX6_again 44 = .ok (.aload_n 0, 1) := by decide +kernel
theorem dX6_again_45 : decode cX6_again 45 = .ok (.getfield 30, 3) := by decide +kernel
theorem dX6_again_48 : decode cX6_again 48 = .ok (.invokevirtual 98, 3) := by decide +kernel
theorem dX6_again_51 : decode cX6_again 51 = .ok (.aload_n 0, 1) := by decide +kernel
theorem dX6_again_52 : decode cX6_again 52 = .ok (.invokevirtual 101, 3) := by decide +kernel
theorem dX6_again_55 : decode cX6_again 55 = .ok (.iconst 1, 1) := by decide +kernel
theorem dX6_again_56 : decode cX6_again 56 = .ok (.ireturn, 1) := by decide +kernel
theorem dX6_count_0 : decode cX6_count 0 = .ok (.aload_n 0, 1) := by decide +kernel
theorem dX6_count_1 : decode cX6_count 1 = .ok (.getfield 30, 3) := by decide +kernel
theorem dX6_count_4 : decode cX6_count 4 = .ok (.invokevirtual 84, 3) := by decide +kernel
theorem dX6_count_7 : decode cX6_count 7 = .ok (.astore_n 2, 1) := by decide +kernel
theorem dX6_count_8 : decode cX6_count 8 = .ok (.iload_n 1, 1) := by decide +kernel
theorem dX6_count_9 : decode cX6_count 9 = .ok (.tableswitch 123 0 8 #[51, 56, 71, 76, 84, 92, 100, 110, 118], 51) := by decide +kernel
theorem dX6_count_60 : decode cX6_count 60 = .ok (.aload_n 2, 1) := by decide +kernel
theorem dX6_count_61 : decode cX6_count 61 = .ok (.getfield 104, 3) := by decide +kernel
theorem dX6_count_64 : decode cX6_count 64 = .ok (.ireturn, 1) := by decide +kernel
theorem dX6_count_65 : decode cX6_count 65 = .ok (.aload_n 0, 1) := by decide +kernel
theorem dX6_count_66 : decode cX6_count 66 = .ok (.invokevirtual 160, 3) := by decide +kernel
theorem dX6_count_69 : decode cX6_count 69 = .ok (.iconst 0, 1) := by decide +kernel
theorem dX6_count_70 : decode cX6_count 70 = .ok (.aload_n 2, 1) := by decide +kernel
theorem dX6_count_71 : decode cX6_count 71 = .ok (.getfield 104, 3) := by decide +kernel
theorem dX6_count_74 : decode cX6_count 74 = .ok (.invokevirtual 164, 3) := by decide +kernel
theorem dX6_count_77 : decode cX6_count 77 = .ok (.iconst 1, 1) := by decide +kernel
theorem dX6_count_78 : decode cX6_count 78 = .ok (.iadd, 1) := by decide +kernel
theorem dX6_count_79 : decode cX6_count 79 = .ok (.ireturn, 1) := by decide +kernel
theorem dX6_count_80 : decode cX6_count 80 = .ok (.aload_n 2, 1) := by decide +kernel
theorem dX6_count_81 : decode cX6_count 81 = .ok (.getfield 259, 3) := by decide +kernel
theorem dX6_count_84 : decode cX6_count 84 = .ok (.ireturn, 1) := by decide +kernel
theorem dX6_count_85 : decode cX6_count 85 = .ok (.aload_n 0, 1) := by decide +kernel
theorem dX6_count_86 : decode cX6_count 86 = .ok (.getfield 23, 3) := by decide +kernel
theorem dX6_count_89 : decode cX6_count 89 = .ok (.getfield 135, 3) := by decide +kernel
theorem dX6_count_92 : decode cX6_count 92 = .ok (.ireturn, 1) := by decide +kernel
theorem dX6_count_93 : decode cX6_count 93 = .ok (.aload_n 0, 1) := by decide +kernel
theorem dX6_count_94 : decode cX6_count 94 = .ok (.getfield 30, 3) := by decide +kernel
theorem dX6_count_97 : decode cX6_count 97 = .ok (.getfield 221, 3) := by decide +kernel
theorem dX6_count_100 : decode cX6_count 100 = .ok (.ireturn, 1) := by decide +kernel
theorem dX6_count_101 : decode cX6_count 101 = .ok (.aload_n 0, 1) := by decide +kernel
theorem dX6_count_102 : decode cX6_count 102 = .ok (.getfield 30, 3) := by decide +kernel
theorem dX6_count_105 : decode cX6_count 105 = .ok (.getfield 227, 3) := by decide +kernel
theorem dX6_count_108 : decode cX6_count 108 = .ok (.ireturn, 1) := by decide +kernel
theorem dX6_count_109 : decode cX6_count 109 = .ok (.aload_n 2, 1) := by decide +kernel
theorem dX6_count_110 : decode cX6_count 110 = .ok (.iconst 0, 1) := by decide +kernel
theorem dX6_count_111 : decode cX6_count 111 = .ok (.aload_n 2, 1) := by decide +kernel
theorem dX6_count_112 : decode cX6_count 112 = .ok (.getfield 104, 3) := by decide +kernel
theorem dX6_count_115 : decode cX6_count 115 = .ok (.invokevirtual 251, 3) := by decide +kernel
theorem dX6_count_118 : decode cX6_count 118 = .ok (.ireturn, 1) := by decide +kernel
theorem dX6_count_119 : decode cX6_count 119 = .ok (.aload_n 0, 1) := by decide +kernel
theorem dX6_count_120 : decode cX6_count 120 = .ok (.getfield 16, 3) := by decide +kernel
theorem dX6_count_123 : decode cX6_count 123 = .ok (.getfield 343, 3) := by decide +kernel
theorem dX6_count_126 : decode cX6_count 126 = .ok (.ireturn, 1) := by decide +kernel
theorem dX6_count_127 : decode cX6_count 127 = .ok (.aload_n 0, 1) := by decide +kernel
theorem dX6_count_128 : decode cX6_count 128 = .ok (.getfield 69, 3) := by decide +kernel
theorem dX6_count_131 : decode cX6_count 131 = .ok (.ireturn, 1) := by decide +kernel
theorem dX6_count_132 : decode cX6_count 132 = .ok (.bipush (-100), 2) := by decide +kernel
theorem dX6_count_134 : decode cX6_count 134 = .ok (.ireturn, 1) := by decide +kernel
theorem dX6_row_0 : decode cX6_row 0 = .ok (.iload_n 1, 1) := by decide +kernel
theorem dX6_row_1 : decode cX6_row 1 = .ok (.ifCond .lt 14, 3) := by decide +kernel
theorem dX6_row_4 : decode cX6_row 4 = .ok (.iload_n 1, 1) := by decide +kernel
theorem dX6_row_5 : decode cX6_row 5 = .ok (.aload_n 0, 1) := by decide +kernel
theorem dX6_row_6 : decode cX6_row 6 = .ok (.getfield 16, 3) := by decide +kernel
theorem dX6_row_9 : decode cX6_row 9 = .ok (.getfield 343, 3) := by decide +kernel
theorem dX6_row_12 : decode cX6_row 12 = .ok (.if_icmp .lt 14, 3) := by decide +kernel
theorem dX6_row_15 : decode cX6_row 15 = .ok (.new 107, 3) := by decide +kernel
theorem dX6_row_18 : decode cX6_row 18 = .ok (.dup, 1) := by decide +kernel
theorem dX6_row_19 : decode cX6_row 19 = .ok (.ldc_w 344, 3) := by decide +kernel
theorem dX6_row_22 : decode cX6_row 22 = .ok (.invokespecial 111, 3) := by decide +kernel
theorem dX6_row_25 : decode cX6_row 25 = .ok (.athrow, 1) := by decide +kernel
theorem dX6_row_26 : decode cX6_row 26 = .ok (.aload_n 0, 1) := by decide +kernel
theorem dX6_row_27 : decode cX6_row 27 = .ok (.getfield 16, 3) := by decide +kernel
theorem dX6_row_30 : decode cX6_row 30 = .ok (.getfield 346, 3) := by decide +kernel
theorem dX6_row_33 : decode cX6_row 33 = .ok (.iload_n 1, 1) := by decide +kernel
theorem dX6_row_34 : decode cX6_row 34 = .ok (.laload, 1) := by decide +kernel
theorem dX6_row_35 : decode cX6_row 35 = .ok (.lreturn, 1) := by decide +kernel
theorem dX6_readText_0 : decode cX6_readText 0 = .ok (.aload_n 0, 1) := by decide +kernel
theorem dX6_readText_1 : decode cX6_readText 1 = .ok (.getfield 69, 3) := by decide +kernel
theorem dX6_readText_4 : decode cX6_readText 4 = .ok (.istore_n 1, 1) := by decide +kernel
theorem dX6_readText_5 : decode cX6_readText 5 = .ok (.aload_n 0, 1) := by decide +kernel
theorem dX6_readText_6 : decode cX6_readText 6 = .ok (.iconst 0, 1) := by decide +kernel
theorem dX6_readText_7 : decode cX6_readText 7 = .ok (.putfield 69, 3) := by decide +kernel
theorem dX6_readText_10 : decode cX6_readText 10 = .ok (.iload_n 1, 1) := by decide +kernel
theorem dX6_readText_11 : decode cX6_readText 11 = .ok (.ireturn, 1) := by decide +kernel
theorem dX6_firstThatIsNone_0 : decode cX6_firstThatIsNone 0 = .ok (.iconst 0, 1) := by decide +kernel
theorem dX6_firstThatIsNone_1 : decode cX6_firstThatIsNone 1 = .ok (.istore_n 2, 1) := by decide +kernel
theorem dX6_firstThatIsNone_2 : decode cX6_firstThatIsNone 2 = .ok (.iload_n 2, 1) := by decide +kernel
theorem dX6_firstThatIsNone_3 : decode cX6_firstThatIsNone 3 = .ok (.iload_n 1, 1) := by decide +kernel
theorem dX6_firstThatIsNone_4 : decode cX6_firstThatIsNone 4 = .ok (.if_icmp .ge 32, 3) := by decide +kernel
theorem dX6_firstThatIsNone_7 : decode cX6_firstThatIsNone 7 = .ok (.iload_n 2, 1) := by decide +kernel
theorem dX6_firstThatIsNone_8 : decode cX6_firstThatIsNone 8 = .ok (.aload_n 0, 1) := by decide +kernel
theorem dX6_firstThatIsNone_9 : decode cX6_firstThatIsNone 9 = .ok (.getfield 9, 3) := by decide +kernel
theorem dX6_firstThatIsNone_12 : decode cX6_firstThatIsNone 12 = .ok (.arraylength, 1) := by decide +kernel
theorem dX6_firstThatIsNone_13 : decode cX6_firstThatIsNone 13 = .ok (.if_icmp .ge 23, 3) := by decide +kernel
theorem dX6_firstThatIsNone_16 : decode cX6_firstThatIsNone 16 = .ok (.aload_n 0, 1) := by decide +kernel
theorem dX6_firstThatIsNone_17 : decode cX6_firstThatIsNone 17 = .ok (.getfield 9, 3) := by decide +kernel
theorem dX6_firstThatIsNone_20 : decode cX6_firstThatIsNone 20 = .ok (.iload_n 2, 1) := by decide +kernel
theorem dX6_firstThatIsNone_21 : decode cX6_firstThatIsNone 21 = .ok (.iaload, 1) := by decide +kernel
theorem dX6_firstThatIsNone_22 : decode cX6_firstThatIsNone 22 = .ok (.invokestatic 131, 3) := by decide +kernel
theorem dX6_firstThatIsNone_25 : decode cX6_firstThatIsNone 25 = .ok (.ifCond .ne 5, 3) := by decide +kernel
theorem dX6_firstThatIsNone_28 : decode cX6_firstThatIsNone 28 = .ok (.iload_n 2, 1) := by decide +kernel
theorem dX6_firstThatIsNone_29 : decode cX6_firstThatIsNone 29 = .ok (.ireturn, 1) := by decide +kernel
theorem dX6_firstThatIsNone_30 : decode cX6_firstThatIsNone 30 = .ok (.iinc 2 1, 3) := by decide +kernel
theorem dX6_firstThatIsNone_33 : decode cX6_firstThatIsNone 33 = .ok (.goto (-31), 3) := by decide +kernel
theorem dX6_firstThatIsNone_36 : decode cX6_firstThatIsNone 36 = .ok (.iconst (-1), 1) := by decide +kernel
theorem dX6_firstThatIsNone_37 : decode cX6_firstThatIsNone 37 = .ok (.ireturn, 1) := by decide +kernel
theorem dX6_isPlace_0 : decode cX6_isPlace 0 = .ok (.iload_n 1, 1) := by decide +kernel
theorem dX6_isPlace_1 : decode cX6_isPlace 1 = .ok (.ifCond .lt 21, 3) := by decide +kernel
theorem dX6_isPlace_4 : decode cX6_isPlace 4 = .ok (.iload_n 1, 1) := by decide +kernel
theorem dX6_isPlace_5 : decode cX6_isPlace 5 = .ok (.aload_n 0, 1) := by decide +kernel
theorem dX6_isPlace_6 : decode cX6_isPlace 6 = .ok (.getfield 30, 3) := by decide +kernel
theorem dX6_isPlace_9 : decode cX6_isPlace 9 = .ok (.invokevirtual 84, 3) := by decide +kernel
theorem dX6_isPlace_12 : decode cX6_isPlace 12 = .ok (.getfield 104, 3) := by decide +kernel
theorem dX6_isPlace_15 : decode cX6_isPlace 15 = .ok (.if_icmp .gt 7, 3) := by decide +kernel
theorem dX6_isPlace_18 : decode cX6_isPlace 18 = .ok (.iconst 1, 1) := by decide +kernel
theorem dX6_isPlace_19 : decode cX6_isPlace 19 = .ok (.goto 4, 3) := by decide +kernel
theorem dX6_isPlace_22 : decode cX6_isPlace 22 = .ok (.iconst 0, 1) := by decide +kernel
theorem dX6_isPlace_23 : decode cX6_isPlace 23 = .ok (.ireturn, 1) := by decide +kernel
theorem dX6_hasSigns_0 : decode cX6_hasSigns 0 = .ok (.iload_n 1, 1) := by decide +kernel
theorem dX6_hasSigns_1 : decode cX6_hasSigns 1 = .ok (.ifCond .lt 27, 3) := by decide +kernel
theorem dX6_hasSigns_4 : decode cX6_hasSigns 4 = .ok (.iload_n 2, 1) := by decide +kernel
theorem dX6_hasSigns_5 : decode cX6_hasSigns 5 = .ok (.ifCond .lt 23, 3) := by decide +kernel
theorem dX6_hasSigns_8 : decode cX6_hasSigns 8 = .ok (.iload_n 1, 1) := by decide +kernel
theorem dX6_hasSigns_9 : decode cX6_hasSigns 9 = .ok (.aload_n 0, 1) := by decide +kernel
theorem dX6_hasSigns_10 : decode cX6_hasSigns 10 = .ok (.getfield 30, 3) := by decide +kernel
theorem dX6_hasSigns_13 : decode cX6_hasSigns 13 = .ok (.invokevirtual 84, 3) := by decide +kernel
theorem dX6_hasSigns_16 : decode cX6_hasSigns 16 = .ok (.getfield 104, 3) := by decide +kernel
theorem dX6_hasSigns_19 : decode cX6_hasSigns 19 = .ok (.iload_n 2, 1) := by decide +kernel
theorem dX6_hasSigns_20 : decode cX6_hasSigns 20 = .ok (.isub, 1) := by decide +kernel
theorem dX6_hasSigns_21 : decode cX6_hasSigns 21 = .ok (.if_icmp .gt 7, 3) := by decide +kernel
theorem dX6_hasSigns_24 : decode cX6_hasSigns 24 = .ok (.iconst 1, 1) := by decide +kernel
theorem dX6_hasSigns_25 : decode cX6_hasSigns 25 = .ok (.goto 4, 3) := by decide +kernel
theorem dX6_hasSigns_28 : decode cX6_hasSigns 28 = .ok (.iconst 0, 1) := by decide +kernel
theorem dX6_hasSigns_29 : decode cX6_hasSigns 29 = .ok (.ireturn, 1) := by decide +kernel
theorem dX6_shownPage_0 : decode cX6_shownPage 0 = .ok (.aload_n 0, 1) := by decide +kernel
theorem dX6_shownPage_1 : decode cX6_shownPage 1 = .ok (.getfield 152, 3) := by decide +kernel
theorem dX6_shownPage_4 : decode cX6_shownPage 4 = .ok (.ifCond .eq 26, 3) := by decide +kernel
theorem dX6_shownPage_7 : decode cX6_shownPage 7 = .ok (.aload_n 0, 1) := by decide +kernel
theorem dX6_shownPage_8 : decode cX6_shownPage 8 = .ok (.getfield 55, 3) := by decide +kernel
theorem dX6_shownPage_11 : decode cX6_shownPage 11 = .ok (.aload_n 0, 1) := by decide +kernel
theorem dX6_shownPage_12 : decode cX6_shownPage 12 = .ok (.getfield 30, 3) := by decide +kernel
theorem dX6_shownPage_15 : decode cX6_shownPage 15 = .ok (.invokevirtual 84, 3) := by decide +kernel
theorem dX6_shownPage_18 : decode cX6_shownPage 18 = .ok (.aload_n 0, 1) := by decide +kernel
theorem dX6_shownPage_19 : decode cX6_shownPage 19 = .ok (.getfield 23, 3) := by decide +kernel
theorem dX6_shownPage_22 : decode cX6_shownPage 22 = .ok (.invokevirtual 328, 3) := by decide +kernel
theorem dX6_shownPage_25 : decode cX6_shownPage 25 = .ok (.aload_n 0, 1) := by decide +kernel
theorem dX6_shownPage_26 : decode cX6_shownPage 26 = .ok (.iconst 0, 1) := by decide +kernel
theorem dX6_shownPage_27 : decode cX6_shownPage 27 = .ok (.putfield 152, 3) := by decide +kernel
theorem dX6_shownPage_30 : decode cX6_shownPage 30 = .ok (.aload_n 0, 1) := by decide +kernel
theorem dX6_shownPage_31 : decode cX6_shownPage 31 = .ok (.getfield 55, 3) := by decide +kernel
theorem dX6_shownPage_34 : decode cX6_shownPage 34 = .ok (.areturn, 1) := by decide +kernel
theorem dX6_beginEdit_0 : decode cX6_beginEdit 0 = .ok (.aload_n 0, 1) := by decide +kernel
theorem dX6_beginEdit_1 : decode cX6_beginEdit 1 = .ok (.invokevirtual 101, 3) := by decide +kernel
theorem dX6_beginEdit_4 : decode cX6_beginEdit 4 = .ok (.aload_n 0, 1) := by decide +kernel
theorem dX6_beginEdit_5 : decode cX6_beginEdit 5 = .ok (.getfield 30, 3) := by decide +kernel
theorem dX6_beginEdit_8 : decode cX6_beginEdit 8 = .ok (.invokevirtual 350, 3) := by decide +kernel
theorem dX6_beginEdit_11 : decode cX6_beginEdit 11 = .ok (.areturn, 1) := by decide +kernel
theorem dX6_bookIsOther_0 : decode cX6_bookIsOther 0 = .ok (.aload_n 0, 1) := by decide +kernel
theorem dX6_bookIsOther_1 : decode cX6_bookIsOther 1 = .ok (.iconst (-1), 1) := by decide +kernel
theorem dX6_bookIsOther_2 : decode cX6_bookIsOther 2 = .ok (.putfield 65, 3) := by decide +kernel
theorem dX6_bookIsOther_5 : decode cX6_bookIsOther 5 = .ok (.aload_n 0, 1) := by decide +kernel
theorem dX6_bookIsOther_6 : decode cX6_bookIsOther 6 = .ok (.iconst 1, 1) := by decide +kernel
theorem dX6_bookIsOther_7 : decode cX6_bookIsOther 7 = .ok (.putfield 152, 3) := by decide +kernel
theorem dX6_bookIsOther_10 : decode cX6_bookIsOther 10 = .ok (.return_, 1) := by decide +kernel
theorem dX6_putInPlace_0 : decode cX6_putInPlace 0 = .ok (.aload_n 0, 1) := by decide +kernel
theorem dX6_putInPlace_1 : decode cX6_putInPlace 1 = .ok (.iload_n 1, 1) := by decide +kernel
theorem dX6_putInPlace_2 : decode cX6_putInPlace 2 = .ok (.iload_n 2, 1) := by decide +kernel
theorem dX6_putInPlace_3 : decode cX6_putInPlace 3 = .ok (.invokevirtual 156, 3) := by decide +kernel
theorem dX6_putInPlace_6 : decode cX6_putInPlace 6 = .ok (.ifCond .ne 6, 3) := by decide +kernel
theorem dX6_putInPlace_9 : decode cX6_putInPlace 9 = .ok (.bipush (-100), 2) := by decide +kernel
theorem dX6_putInPlace_11 : decode cX6_putInPlace 11 = .ok (.ireturn, 1) := by decide +kernel
theorem dX6_putInPlace_12 : decode cX6_putInPlace 12 = .ok (.aload_n 0, 1) := by decide +kernel
theorem dX6_putInPlace_13 : decode cX6_putInPlace 13 = .ok (.getfield 30, 3) := by decide +kernel
theorem dX6_putInPlace_16 : decode cX6_putInPlace 16 = .ok (.invokevirtual 84, 3) := by decide +kernel
theorem dX6_putInPlace_19 : decode cX6_putInPlace 19 = .ok (.getfield 104, 3) := by decide +kernel
theorem dX6_putInPlace_22 : decode cX6_putInPlace 22 = .ok (.istore 4, 2) := by decide +kernel
theorem dX6_putInPlace_24 : decode cX6_putInPlace 24 = .ok (.iload 4, 2) := by decide +kernel
theorem dX6_putInPlace_26 : decode cX6_putInPlace 26 = .ok (.iload_n 2, 1) := by decide +kernel
theorem dX6_putInPlace_27 : decode cX6_putInPlace 27 = .ok (.isub, 1) := by decide +kernel
theorem dX6_putInPlace_28 : decode cX6_putInPlace 28 = .ok (.iload_n 3, 1) := by decide +kernel
theorem dX6_putInPlace_29 : decode cX6_putInPlace 29 = .ok (.iadd, 1) := by decide +kernel
theorem dX6_putInPlace_30 : decode cX6_putInPlace 30 = .ok (.sipush 3000, 3) := by decide +kernel
theorem dX6_putInPlace_33 : decode cX6_putInPlace 33 = .ok (.if_icmp .le 6, 3) := by decide +kernel
theorem dX6_putInPlace_36 : decode cX6_putInPlace 36 = .ok (.bipush (-101), 2) := by decide +kernel
theorem dX6_putInPlace_38 : decode cX6_putInPlace 38 = .ok (.ireturn, 1) := by decide +kernel
theorem dX6_putInPlace_39 : decode cX6_putInPlace 39 = .ok (.aload_n 0, 1) := by decide +kernel
theorem dX6_putInPlace_40 : decode cX6_putInPlace 40 = .ok (.getfield 23, 3) := by decide +kernel
theorem dX6_putInPlace_43 : decode cX6_putInPlace 43 = .ok (.getfield 135, 3) := by decide +kernel
theorem dX6_putInPlace_46 : decode cX6_putInPlace 46 = .ok (.iload_n 3, 1) := by decide +kernel
theorem dX6_putInPlace_47 : decode cX6_putInPlace 47 = .ok (.iadd, 1) := by decide +kernel
theorem dX6_putInPlace_48 : decode cX6_putInPlace 48 = .ok (.sipush 6000, 3) := by decide +kernel
theorem dX6_putInPlace_51 : decode cX6_putInPlace 51 = .ok (.if_icmp .le 6, 3) := by decide +kernel
theorem dX6_putInPlace_54 : decode cX6_putInPlace 54 = .ok (.bipush (-102), 2) := by decide +kernel
theorem dX6_putInPlace_56 : decode cX6_putInPlace 56 = .ok (.ireturn, 1) := by decide +kernel
theorem dX6_putInPlace_57 : decode cX6_putInPlace 57 = .ok (.iload_n 2, 1) := by decide +kernel
theorem dX6_putInPlace_58 : decode cX6_putInPlace 58 = .ok (.ifCond .ne 10, 3) := by decide +kernel
theorem dX6_putInPlace_61 : decode cX6_putInPlace 61 = .ok (.iload_n 3, 1) := by decide +kernel
theorem dX6_putInPlace_62 : decode cX6_putInPlace 62 = .ok (.ifCond .ne 6, 3) := by decide +kernel
theorem dX6_putInPlace_65 : decode cX6_putInPlace 65 = .ok (.iload 4, 2) := by decide +kernel
theorem dX6_putInPlace_67 : decode cX6_putInPlace 67 = .ok (.ireturn, 1) := by decide +kernel
theorem dX6_putInPlace_68 : decode cX6_putInPlace 68 = .ok (.aload_n 0, 1) := by decide +kernel
theorem dX6_putInPlace_69 : decode cX6_putInPlace 69 = .ok (.invokevirtual 138, 3) := by decide +kernel
theorem dX6_putInPlace_72 : decode cX6_putInPlace 72 = .ok (.astore 5, 2) := by decide +kernel
theorem dX6_putInPlace_74 : decode cX6_putInPlace 74 = .ok (.iload_n 2, 1) := by decide +kernel
theorem dX6_putInPlace_75 : decode cX6_putInPlace 75 = .ok (.ifCond .le 10, 3) := by decide +kernel
theorem dX6_putInPlace_78 : decode cX6_putInPlace 78 = .ok (.aload 5, 2) := by decide +kernel
theorem dX6_putInPlace_80 : decode cX6_putInPlace 80 = .ok (.iload_n 1, 1) := by decide +kernel
theorem dX6_putInPlace_81 : decode cX6_putInPlace 81 = .ok (.iload_n 2, 1) := by decide +kernel
theorem dX6_putInPlace_82 : decode cX6_putInPlace 82 = .ok (.invokevirtual 165, 3) := by decide +kernel
theorem dX6_putInPlace_85 : decode cX6_putInPlace 85 = .ok (.iload_n 3, 1) := by decide +kernel
theorem dX6_putInPlace_86 : decode cX6_putInPlace 86 = .ok (.ifCond .le 29, 3) := by decide +kernel
theorem dX6_putInPlace_89 : decode cX6_putInPlace 89 = .ok (.aload 5, 2) := by decide +kernel
theorem dX6_putInPlace_91 : decode cX6_putInPlace 91 = .ok (.iload_n 1, 1) := by decide +kernel
theorem dX6_putInPlace_92 : decode cX6_putInPlace 92 = .ok (.aload_n 0, 1) := by decide +kernel
theorem dX6_putInPlace_93 : decode cX6_putInPlace 93 = .ok (.getfield 23, 3) := by decide +kernel
theorem dX6_putInPlace_96 : decode cX6_putInPlace 96 = .ok (.invokevirtual 141, 3) := by decide +kernel
theorem dX6_putInPlace_99 : decode cX6_putInPlace 99 = .ok (.iload_n 3, 1) := by decide +kernel
theorem dX6_putInPlace_100 : decode cX6_putInPlace 100 = .ok (.invokevirtual 144, 3) := by decide +kernel
theorem dX6_putInPlace_103 : decode cX6_putInPlace 103 = .ok (.aload_n 0, 1) := by decide +kernel
theorem dX6_putInPlace_104 : decode cX6_putInPlace 104 = .ok (.getfield 23, 3) := by decide +kernel
theorem dX6_putInPlace_107 : decode cX6_putInPlace 107 = .ok (.aload_n 0, 1) := by decide +kernel
theorem dX6_putInPlace_108 : decode cX6_putInPlace 108 = .ok (.getfield 9, 3) := by decide +kernel
theorem dX6_putInPlace_111 : decode cX6_putInPlace 111 = .ok (.iload_n 3, 1) := by decide +kernel
theorem dX6_putInPlace_112 : decode cX6_putInPlace 112 = .ok (.invokevirtual 351, 3) := by decide +kernel
theorem dX6_putInPlace_115 : decode cX6_putInPlace 115 = .ok (.aload 5, 2) := by decide +kernel
theorem dX6_putInPlace_117 : decode cX6_putInPlace 117 = .ok (.getfield 104, 3) := by decide +kernel
theorem dX6_putInPlace_120 : decode cX6_putInPlace 120 = .ok (.ireturn, 1) := by decide +kernel
theorem dX6_faultOfDay_0 : decode cX6_faultOfDay 0 = .ok (.iconst 0, 1) := by decide +kernel
theorem dX6_faultOfDay_1 : decode cX6_faultOfDay 1 = .ok (.istore_n 2, 1) := by decide +kernel
theorem dX6_faultOfDay_2 : decode cX6_faultOfDay 2 = .ok (.iload_n 2, 1) := by decide +kernel
theorem dX6_faultOfDay_3 : decode cX6_faultOfDay 3 = .ok (.iload_n 1, 1) := by decide +kernel
theorem dX6_faultOfDay_4 : decode cX6_faultOfDay 4 = .ok (.if_icmp .ge 80, 3) := by decide +kernel
theorem dX6_faultOfDay_7 : decode cX6_faultOfDay 7 = .ok (.aload_n 0, 1) := by decide +kernel
theorem dX6_faultOfDay_8 : decode cX6_faultOfDay 8 = .ok (.getfield 9, 3) := by decide +kernel
theorem dX6_faultOfDay_11 : decode cX6_faultOfDay 11 = .ok (.iload_n 2, 1) := by decide +kernel
theorem dX6_faultOfDay_12 : decode cX6_faultOfDay 12 = .ok (.iaload, 1) := by decide +kernel
theorem dX6_faultOfDay_13 : decode cX6_faultOfDay 13 = .ok (.istore_n 3, 1) := by decide +kernel
theorem dX6_faultOfDay_14 : decode cX6_faultOfDay 14 = .ok (.iload_n 3, 1) := by decide +kernel
theorem dX6_faultOfDay_15 : decode cX6_faultOfDay 15 = .ok (.invokestatic 209, 3) := by decide +kernel
theorem dX6_faultOfDay_18 : decode cX6_faultOfDay 18 = .ok (.istore 4, 2) := by decide +kernel
theorem dX6_faultOfDay_20 : decode cX6_faultOfDay 20 = .ok (.iload 4, 2) := by decide +kernel
theorem dX6_faultOfDay_22 : decode cX6_faultOfDay 22 = .ok (.ifCond .ne 5, 3) := by decide +kernel
theorem dX6_faultOfDay_25 : decode cX6_faultOfDay 25 = .ok (.iload_n 2, 1) := by decide +kernel
theorem dX6_faultOfDay_26 : decode cX6_faultOfDay 26 = .ok (.ireturn, 1) := by decide +kernel
theorem dX6_faultOfDay_27 : decode cX6_faultOfDay 27 = .ok (.iconst 1, 1) := by decide +kernel
theorem dX6_faultOfDay_28 : decode cX6_faultOfDay 28 = .ok (.istore 5, 2) := by decide +kernel
theorem dX6_faultOfDay_30 : decode cX6_faultOfDay 30 = .ok (.iload 5, 2) := by decide +kernel
theorem dX6_faultOfDay_32 : decode cX6_faultOfDay 32 = .ok (.iload 4, 2) := by decide +kernel
theorem dX6_faultOfDay_34 : decode cX6_faultOfDay 34 = .ok (.if_icmp .ge 42, 3) := by decide +kernel
theorem dX6_faultOfDay_37 : decode cX6_faultOfDay 37 = .ok (.iload_n 2, 1) := by decide +kernel
theorem dX6_faultOfDay_38 : decode cX6_faultOfDay 38 = .ok (.iload 5, 2) := by decide +kernel
theorem dX6_faultOfDay_40 : decode cX6_faultOfDay 40 = .ok (.iadd, 1) := by decide +kernel
theorem dX6_faultOfDay_41 : decode cX6_faultOfDay 41 = .ok (.iload_n 1, 1) := by decide +kernel
theorem dX6_faultOfDay_42 : decode cX6_faultOfDay 42 = .ok (.if_icmp .lt 5, 3) := by decide +kernel
theorem dX6_faultOfDay_45 : decode cX6_faultOfDay 45 = .ok (.iload_n 1, 1) := by decide +kernel
theorem dX6_faultOfDay_46 : decode cX6_faultOfDay 46 = .ok (.ireturn, 1) := by decide +kernel
theorem dX6_faultOfDay_47 : decode cX6_faultOfDay 47 = .ok (.iload_n 3, 1) := by decide +kernel
theorem dX6_faultOfDay_48 : decode cX6_faultOfDay 48 = .ok (.iload 5, 2) := by decide +kernel
theorem dX6_faultOfDay_50 : decode cX6_faultOfDay 50 = .ok (.aload_n 0, 1) := by decide +kernel
theorem dX6_faultOfDay_51 : decode cX6_faultOfDay 51 = .ok (.getfield 9, 3) := by decide +kernel
theorem dX6_faultOfDay_54 : decode cX6_faultOfDay 54 = .ok (.iload_n 2, 1) := by decide +kernel
theorem dX6_faultOfDay_55 : decode cX6_faultOfDay 55 = .ok (.iload 5, 2) := by decide +kernel
theorem dX6_faultOfDay_57 : decode cX6_faultOfDay 57 = .ok (.iadd, 1) := by decide +kernel
theorem dX6_faultOfDay_58 : decode cX6_faultOfDay 58 = .ok (.iaload, 1) := by decide +kernel
theorem dX6_faultOfDay_59 : decode cX6_faultOfDay 59 = .ok (.invokestatic 355, 3) := by decide +kernel
theorem dX6_faultOfDay_62 : decode cX6_faultOfDay 62 = .ok (.ifCond .ne 8, 3) := by decide +kernel
theorem dX6_faultOfDay_65 : decode cX6_faultOfDay 65 = .ok (.iload_n 2, 1) := by decide +kernel
theorem dX6_faultOfDay_66 : decode cX6_faultOfDay 66 = .ok (.iload 5, 2) := by decide +kernel
theorem dX6_faultOfDay_68 : decode cX6_faultOfDay 68 = .ok (.iadd, 1) := by decide +kernel
theorem dX6_faultOfDay_69 : decode cX6_faultOfDay 69 = .ok (.ireturn, 1) := by decide +kernel
theorem dX6_faultOfDay_70 : decode cX6_faultOfDay 70 = .ok (.iinc 5 1, 3) := by decide +kernel
theorem dX6_faultOfDay_73 : decode cX6_faultOfDay 73 = .ok (.goto (-43), 3) := by decide +kernel
theorem dX6_faultOfDay_76 : decode cX6_faultOfDay 76 = .ok (.iload_n 2, 1) := by decide +kernel
theorem dX6_faultOfDay_77 : decode cX6_faultOfDay 77 = .ok (.iload 4, 2) := by decide +kernel
theorem dX6_faultOfDay_79 : decode cX6_faultOfDay 79 = .ok (.iadd, 1) := by decide +kernel
theorem dX6_faultOfDay_80 : decode cX6_faultOfDay 80 = .ok (.istore_n 2, 1) := by decide +kernel
theorem dX6_faultOfDay_81 : decode cX6_faultOfDay 81 = .ok (.goto (-79), 3) := by decide +kernel
theorem dX6_faultOfDay_84 : decode cX6_faultOfDay 84 = .ok (.iconst (-1), 1) := by decide +kernel
theorem dX6_faultOfDay_85 : decode cX6_faultOfDay 85 = .ok (.ireturn, 1) := by decide +kernel
theorem dX6_doAct_0 : decode cX6_doAct 0 = .ok (.aload_n 0, 1) := by decide +kernel
theorem dX6_doAct_1 : decode cX6_doAct 1 = .ok (.getfield 9, 3) := by decide +kernel
theorem dX6_doAct_4 : decode cX6_doAct 4 = .ok (.iload_n 1, 1) := by decide +kernel
theorem dX6_doAct_5 : decode cX6_doAct 5 = .ok (.iaload, 1) := by decide +kernel
theorem dX6_doAct_6 : decode cX6_doAct 6 = .ok (.tableswitch 226 100 117 #[135, 226, 226, 226, 216, 86, 226, 226, 156, 186, 226, 226, 226, 226, 226, 226, 226, 221], 86) := by decide +kernel
theorem dX6_doAct_92 : decode cX6_doAct 92 = .ok (.iload_n 1, 1) := by decide +kernel
theorem dX6_doAct_93 : decode cX6_doAct 93 = .ok (.iconst 5, 1) := by decide +kernel
theorem dX6_doAct_94 : decode cX6_doAct 94 = .ok (.iadd, 1) := by decide +kernel
theorem dX6_doAct_95 : decode cX6_doAct 95 = .ok (.aload_n 0, 1) := by decide +kernel
theorem dX6_doAct_96 : decode cX6_doAct 96 = .ok (.getfield 9, 3) := by decide +kernel
theorem dX6_doAct_99 : decode cX6_doAct 99 = .ok (.arraylength, 1) := by decide +kernel
theorem dX6_doAct_100 : decode cX6_doAct 100 = .ok (.if_icmp .ge 14, 3) := by decide +kernel
theorem dX6_doAct_103 : decode cX6_doAct 103 = .ok (.aload_n 0, 1) := by decide +kernel
theorem dX6_doAct_104 : decode cX6_doAct 104 = .ok (.getfield 9, 3) := by decide +kernel
theorem dX6_doAct_107 : decode cX6_doAct 107 = .ok (.iload_n 1, 1) := by decide +kernel
theorem dX6_doAct_108 : decode cX6_doAct 108 = .ok (.iconst 5, 1) := by decide +kernel
theorem dX6_doAct_109 : decode cX6_doAct 109 = .ok (.iadd, 1) := by decide +kernel
theorem dX6_doAct_110 : decode cX6_doAct 110 = .ok (.iaload, 1) := by decide +kernel
theorem dX6_doAct_111 : decode cX6_doAct 111 = .ok (.goto 4, 3) := by decide +kernel
theorem dX6_doAct_114 : decode cX6_doAct 114 = .ok (.iconst 0, 1) := by decide +kernel
theorem dX6_doAct_115 : decode cX6_doAct 115 = .ok (.istore_n 2, 1) := by decide +kernel
theorem dX6_doAct_116 : decode cX6_doAct 116 = .ok (.aload_n 0, 1) := by decide +kernel
theorem dX6_doAct_117 : decode cX6_doAct 117 = .ok (.aload_n 0, 1) := by decide +kernel
theorem dX6_doAct_118 : decode cX6_doAct 118 = .ok (.iload_n 1, 1) := by decide +kernel
theorem dX6_doAct_119 : decode cX6_doAct 119 = .ok (.iconst 1, 1) := by decide +kernel
theorem dX6_doAct_120 : decode cX6_doAct 120 = .ok (.iadd, 1) := by decide +kernel
theorem dX6_doAct_121 : decode cX6_doAct 121 = .ok (.iconst 4, 1) := by decide +kernel
theorem dX6_doAct_122 : decode cX6_doAct 122 = .ok (.invokevirtual 358, 3) := by decide +kernel
theorem dX6_doAct_125 : decode cX6_doAct 125 = .ok (.iload_n 2, 1) := by decide +kernel
theorem dX6_doAct_126 : decode cX6_doAct 126 = .ok (.bipush 47, 2) := by decide +kernel
theorem dX6_doAct_128 : decode cX6_doAct 128 = .ok (.if_icmp .ne 8, 3) := by decide +kernel
theorem dX6_doAct_131 : decode cX6_doAct 131 = .ok (.bipush 10, 2) := by decide +kernel
theorem dX6_doAct_133 : decode cX6_doAct 133 = .ok (.goto 4, 3) := by decide +kernel
theorem dX6_doAct_136 : decode cX6_doAct 136 = .ok (.iload_n 2, 1) := by decide +kernel
theorem dX6_doAct_137 : decode cX6_doAct 137 = .ok (.invokevirtual 361, 3) := by decide +kernel
theorem dX6_doAct_140 : decode cX6_doAct 140 = .ok (.ireturn, 1) := by decide +kernel
theorem dX6_doAct_141 : decode cX6_doAct 141 = .ok (.aload_n 0, 1) := by decide +kernel
theorem dX6_doAct_142 : decode cX6_doAct 142 = .ok (.aload_n 0, 1) := by decide +kernel
theorem dX6_doAct_143 : decode cX6_doAct 143 = .ok (.iload_n 1, 1) := by decide +kernel
theorem dX6_doAct_144 : decode cX6_doAct 144 = .ok (.iconst 1, 1) := by decide +kernel
theorem dX6_doAct_145 : decode cX6_doAct 145 = .ok (.iadd, 1) := by decide +kernel
theorem dX6_doAct_146 : decode cX6_doAct 146 = .ok (.iconst 4, 1) := by decide +kernel
theorem dX6_doAct_147 : decode cX6_doAct 147 = .ok (.invokevirtual 358, 3) := by decide +kernel
theorem dX6_doAct_150 : decode cX6_doAct 150 = .ok (.aload_n 0, 1) := by decide +kernel
theorem dX6_doAct_151 : decode cX6_doAct 151 = .ok (.iload_n 1, 1) := by decide +kernel
theorem dX6_doAct_152 : decode cX6_doAct 152 = .ok (.iconst 5, 1) := by decide +kernel
theorem dX6_doAct_153 : decode cX6_doAct 153 = .ok (.iadd, 1) := by decide +kernel
theorem dX6_doAct_154 : decode cX6_doAct 154 = .ok (.iconst 2, 1) := by decide +kernel
theorem dX6_doAct_155 : decode cX6_doAct 155 = .ok (.invokevirtual 358, 3) := by decide +kernel
theorem dX6_doAct_158 : decode cX6_doAct 158 = .ok (.invokevirtual 364, 3) := by decide +kernel
theorem dX6_doAct_161 : decode cX6_doAct 161 = .ok (.ireturn, 1) := by decide +kernel
theorem dX6_doAct_162 : decode cX6_doAct 162 = .ok (.aload_n 0, 1) := by decide +kernel
theorem dX6_doAct_163 : decode cX6_doAct 163 = .ok (.aload_n 0, 1) := by decide +kernel
theorem dX6_doAct_164 : decode cX6_doAct 164 = .ok (.iload_n 1, 1) := by decide +kernel
theorem dX6_doAct_165 : decode cX6_doAct 165 = .ok (.iconst 1, 1) := by decide +kernel
theorem dX6_doAct_166 : decode cX6_doAct 166 = .ok (.iadd, 1) := by decide +kernel
theorem dX6_doAct_167 : decode cX6_doAct 167 = .ok (.iconst 4, 1) := by decide +kernel
theorem dX6_doAct_168 : decode cX6_doAct 168 = .ok (.invokevirtual 358, 3) := by decide +kernel
theorem dX6_doAct_171 : decode cX6_doAct 171 = .ok (.aload_n 0, 1) := by decide +kernel
theorem dX6_doAct_172 : decode cX6_doAct 172 = .ok (.iload_n 1, 1) := by decide +kernel
theorem dX6_doAct_173 : decode cX6_doAct 173 = .ok (.iconst 5, 1) := by decide +kernel
theorem dX6_doAct_174 : decode cX6_doAct 174 = .ok (.iadd, 1) := by decide +kernel
theorem dX6_doAct_175 : decode cX6_doAct 175 = .ok (.iconst 2, 1) := by decide +kernel
theorem dX6_doAct_176 : decode cX6_doAct 176 = .ok (.invokevirtual 358, 3) := by decide +kernel
theorem dX6_doAct_179 : decode cX6_doAct 179 = .ok (.aload_n 0, 1) := by decide +kernel
theorem dX6_doAct_180 : decode cX6_doAct 180 = .ok (.iload_n 1, 1) := by decide +kernel
theorem dX6_doAct_181 : decode cX6_doAct 181 = .ok (.bipush 7, 2) := by decide +kernel
theorem dX6_doAct_183 : decode cX6_doAct 183 = .ok (.iadd, 1) := by decide +kernel
theorem dX6_doAct_184 : decode cX6_doAct 184 = .ok (.iconst 4, 1) := by decide +kernel
theorem dX6_doAct_185 : decode cX6_doAct 185 = .ok (.invokevirtual 358, 3) := by decide +kernel
theorem dX6_doAct_188 : decode cX6_doAct 188 = .ok (.invokevirtual 367, 3) := by decide +kernel
theorem dX6_doAct_191 : decode cX6_doAct 191 = .ok (.ireturn, 1) := by decide +kernel
theorem dX6_doAct_192 : decode cX6_doAct 192 = .ok (.aload_n 0, 1) := by decide +kernel
theorem dX6_doAct_193 : decode cX6_doAct 193 = .ok (.aload_n 0, 1) := by decide +kernel
theorem dX6_doAct_194 : decode cX6_doAct 194 = .ok (.iload_n 1, 1) := by decide +kernel
theorem dX6_doAct_195 : decode cX6_doAct 195 = .ok (.iconst 1, 1) := by decide +kernel
theorem dX6_doAct_196 : decode cX6_doAct 196 = .ok (.iadd, 1) := by decide +kernel
theorem dX6_doAct_197 : decode cX6_doAct 197 = .ok (.iconst 4, 1) := by decide +kernel
theorem dX6_doAct_198 : decode cX6_doAct 198 = .ok (.invokevirtual 358, 3) := by decide +kernel
theorem dX6_doAct_201 : decode cX6_doAct 201 = .ok (.aload_n 0, 1) := by decide +kernel
theorem dX6_doAct_202 : decode cX6_doAct 202 = .ok (.iload_n 1, 1) := by decide +kernel
theorem dX6_doAct_203 : decode cX6_doAct 203 = .ok (.iconst 5, 1) := by decide +kernel
theorem dX6_doAct_204 : decode cX6_doAct 204 = .ok (.iadd, 1) := by decide +kernel
theorem dX6_doAct_205 : decode cX6_doAct 205 = .ok (.iconst 2, 1) := by decide +kernel
theorem dX6_doAct_206 : decode cX6_doAct 206 = .ok (.invokevirtual 358, 3) := by decide +kernel
theorem dX6_doAct_209 : decode cX6_doAct 209 = .ok (.aload_n 0, 1) := by decide +kernel
theorem dX6_doAct_210 : decode cX6_doAct 210 = .ok (.iload_n 1, 1) := by decide +kernel
theorem dX6_doAct_211 : decode cX6_doAct 211 = .ok (.bipush 7, 2) := by decide +kernel
theorem dX6_doAct_213 : decode cX6_doAct 213 = .ok (.iadd, 1) := by decide +kernel
theorem dX6_doAct_214 : decode cX6_doAct 214 = .ok (.iconst 4, 1) := by decide +kernel
theorem dX6_doAct_215 : decode cX6_doAct 215 = .ok (.invokevirtual 358, 3) := by decide +kernel
theorem dX6_doAct_218 : decode cX6_doAct 218 = .ok (.invokevirtual 370, 3) := by decide +kernel
theorem dX6_doAct_221 : decode cX6_doAct 221 = .ok (.ireturn, 1) := by decide +kernel
theorem dX6_doAct_222 : decode cX6_doAct 222 = .ok (.aload_n 0, 1) := by decide +kernel
theorem dX6_doAct_223 : decode cX6_doAct 223 = .ok (.invokevirtual 373, 3) := by decide +kernel
theorem dX6_doAct_226 : decode cX6_doAct 226 = .ok (.ireturn, 1) := by decide +kernel
theorem dX6_doAct_227 : decode cX6_doAct 227 = .ok (.aload_n 0, 1) := by decide +kernel
theorem dX6_doAct_228 : decode cX6_doAct 228 = .ok (.invokevirtual 376, 3) := by decide +kernel
theorem dX6_doAct_231 : decode cX6_doAct 231 = .ok (.ireturn, 1) := by decide +kernel
theorem dX6_doAct_232 : decode cX6_doAct 232 = .ok (.aload_n 0, 1) := by decide +kernel
theorem dX6_doAct_233 : decode cX6_doAct 233 = .ok (.invokevirtual 379, 3) := by decide +kernel
theorem dX6_doAct_236 : decode cX6_doAct 236 = .ok (.ireturn, 1) := by decide +kernel
theorem dX6_numberAt_0 : decode cX6_numberAt 0 = .ok (.iconst 0, 1) := by decide +kernel
theorem dX6_numberAt_1 : decode cX6_numberAt 1 = .ok (.istore_n 3, 1) := by decide +kernel
theorem dX6_numberAt_2 : decode cX6_numberAt 2 = .ok (.iload_n 1, 1) := by decide +kernel
theorem dX6_numberAt_3 : decode cX6_numberAt 3 = .ok (.istore 4, 2) := by decide +kernel
theorem dX6_numberAt_5 : decode cX6_numberAt 5 = .ok (.iload 4, 2) := by decide +kernel
theorem dX6_numberAt_7 : decode cX6_numberAt 7 = .ok (.iload_n 1, 1) := by decide +kernel
theorem dX6_numberAt_8 : decode cX6_numberAt 8 = .ok (.iload_n 2, 1) := by decide +kernel
theorem dX6_numberAt_9 : decode cX6_numberAt 9 = .ok (.iadd, 1) := by decide +kernel
theorem dX6_numberAt_10 : decode cX6_numberAt 10 = .ok (.if_icmp .ge 35, 3) := by decide +kernel
theorem dX6_numberAt_13 : decode cX6_numberAt 13 = .ok (.iload 4, 2) := by decide +kernel
theorem dX6_numberAt_15 : decode cX6_numberAt 15 = .ok (.aload_n 0, 1) := by decide +kernel
theorem dX6_numberAt_16 : decode cX6_numberAt 16 = .ok (.getfield 9, 3) := by decide +kernel
theorem dX6_numberAt_19 : decode cX6_numberAt 19 = .ok (.arraylength, 1) := by decide +kernel
theorem dX6_numberAt_20 : decode cX6_numberAt 20 = .ok (.if_icmp .ge 25, 3) := by decide +kernel
theorem dX6_numberAt_23 : decode cX6_numberAt 23 = .ok (.iload_n 3, 1) := by decide +kernel
theorem dX6_numberAt_24 : decode cX6_numberAt 24 = .ok (.bipush 10, 2) := by decide +kernel
theorem dX6_numberAt_26 : decode cX6_numberAt 26 = .ok (.imul, 1) := by decide +kernel
theorem dX6_numberAt_27 : decode cX6_numberAt 27 = .ok (.aload_n 0, 1) := by decide +kernel
theorem dX6_numberAt_28 : decode cX6_numberAt 28 = .ok (.getfield 9, 3) := by decide +kernel
theorem dX6_numberAt_31 : decode cX6_numberAt 31 = .ok (.iload 4, 2) := by decide +kernel
theorem dX6_numberAt_33 : decode cX6_numberAt 33 = .ok (.iaload, 1) := by decide +kernel
theorem dX6_numberAt_34 : decode cX6_numberAt 34 = .ok (.iadd, 1) := by decide +kernel
theorem dX6_numberAt_35 : decode cX6_numberAt 35 = .ok (.bipush 48, 2) := by decide +kernel
theorem dX6_numberAt_37 : decode cX6_numberAt 37 = .ok (.isub, 1) := by decide +kernel
theorem dX6_numberAt_38 : decode cX6_numberAt 38 = .ok (.istore_n 3, 1) := by decide +kernel
theorem dX6_numberAt_39 : decode cX6_numberAt 39 = .ok (.iinc 4 1, 3) := by decide +kernel
theorem dX6_numberAt_42 : decode cX6_numberAt 42 = .ok (.goto (-37), 3) := by decide +kernel
theorem dX6_numberAt_45 : decode cX6_numberAt 45 = .ok (.iload_n 3, 1) := by decide +kernel
theorem dX6_numberAt_46 : decode cX6_numberAt 46 = .ok (.ireturn, 1) := by decide +kernel
theorem dX6_countShown_0 : decode cX6_countShown 0 = .ok (.aload_n 0, 1) := by decide +kernel
theorem dX6_countShown_1 : decode cX6_countShown 1 = .ok (.getfield 30, 3) := by decide +kernel
theorem dX6_countShown_4 : decode cX6_countShown 4 = .ok (.invokevirtual 84, 3) := by decide +kernel
theorem dX6_countShown_7 : decode cX6_countShown 7 = .ok (.astore_n 3, 1) := by decide +kernel
theorem dX6_countShown_8 : decode cX6_countShown 8 = .ok (.aload_n 0, 1) := by decide +kernel
theorem dX6_countShown_9 : decode cX6_countShown 9 = .ok (.getfield 62, 3) := by decide +kernel
theorem dX6_countShown_12 : decode cX6_countShown 12 = .ok (.iconst 0, 1) := by decide +kernel
theorem dX6_countShown_13 : decode cX6_countShown 13 = .ok (.invokestatic 382, 3) := by decide +kernel
theorem dX6_countShown_16 : decode cX6_countShown 16 = .ok (.iconst 0, 1) := by decide +kernel
theorem dX6_countShown_17 : decode cX6_countShown 17 = .ok (.istore 4, 2) := by decide +kernel
theorem dX6_countShown_19 : decode cX6_countShown 19 = .ok (.iload 4, 2) := by decide +kernel
theorem dX6_countShown_21 : decode cX6_countShown 21 = .ok (.aload_n 3, 1) := by decide +kernel
theorem dX6_countShown_22 : decode cX6_countShown 22 = .ok (.getfield 259, 3) := by decide +kernel
theorem dX6_countShown_25 : decode cX6_countShown 25 = .ok (.if_icmp .ge 77, 3) := by decide +kernel
theorem dX6_countShown_28 : decode cX6_countShown 28 = .ok (.aload_n 3, 1) := by decide +kernel
theorem dX6_countShown_29 : decode cX6_countShown 29 = .ok (.getfield 264, 3) := by decide +kernel
theorem dX6_countShown_32 : decode cX6_countShown 32 = .ok (.iload 4, 2) := by decide +kernel
theorem dX6_countShown_34 : decode cX6_countShown 34 = .ok (.iaload, 1) := by decide +kernel
theorem dX6_countShown_35 : decode cX6_countShown 35 = .ok (.invokestatic 267, 3) := by decide +kernel
theorem dX6_countShown_38 : decode cX6_countShown 38 = .ok (.iload_n 1, 1) := by decide +kernel
theorem dX6_countShown_39 : decode cX6_countShown 39 = .ok (.if_icmp .ne 57, 3) := by decide +kernel
theorem dX6_countShown_42 : decode cX6_countShown 42 = .ok (.aload_n 3, 1) := by decide +kernel
theorem dX6_countShown_43 : decode cX6_countShown 43 = .ok (.getfield 264, 3) := by decide +kernel
theorem dX6_countShown_46 : decode cX6_countShown 46 = .ok (.iload 4, 2) := by decide +kernel
theorem dX6_countShown_48 : decode cX6_countShown 48 = .ok (.iaload, 1) := by decide +kernel
theorem dX6_countShown_49 : decode cX6_countShown 49 = .ok (.invokestatic 270, 3) := by decide +kernel
theorem dX6_countShown_52 : decode cX6_countShown 52 = .ok (.istore 5, 2) := by decide +kernel
theorem dX6_countShown_54 : decode cX6_countShown 54 = .ok (.iload 5, 2) := by decide +kernel
theorem dX6_countShown_56 : decode cX6_countShown 56 = .ok (.istore 6, 2) := by decide +kernel
theorem dX6_countShown_58 : decode cX6_countShown 58 = .ok (.iload 6, 2) := by decide +kernel
theorem dX6_countShown_60 : decode cX6_countShown 60 = .ok (.iload 5, 2) := by decide +kernel
theorem dX6_countShown_62 : decode cX6_countShown 62 = .ok (.aload_n 3, 1) := by decide +kernel
theorem dX6_countShown_63 : decode cX6_countShown 63 = .ok (.getfield 273, 3) := by decide +kernel
theorem dX6_countShown_66 : decode cX6_countShown 66 = .ok (.iload 4, 2) := by decide +kernel
theorem dX6_countShown_68 : decode cX6_countShown 68 = .ok (.iaload, 1) := by decide +kernel
theorem dX6_countShown_69 : decode cX6_countShown 69 = .ok (.iadd, 1) := by decide +kernel
theorem dX6_countShown_70 : decode cX6_countShown 70 = .ok (.if_icmp .ge 26, 3) := by decide +kernel
theorem dX6_countShown_73 : decode cX6_countShown 73 = .ok (.iload 6, 2) := by decide +kernel
theorem dX6_countShown_75 : decode cX6_countShown 75 = .ok (.iload_n 2, 1) := by decide +kernel
theorem dX6_countShown_76 : decode cX6_countShown 76 = .ok (.if_icmp .ge 20, 3) := by decide +kernel
theorem dX6_countShown_79 : decode cX6_countShown 79 = .ok (.aload_n 0, 1) := by decide +kernel
theorem dX6_countShown_80 : decode cX6_countShown 80 = .ok (.getfield 62, 3) := by decide +kernel
theorem dX6_countShown_83 : decode cX6_countShown 83 = .ok (.iload 6, 2) := by decide +kernel
theorem dX6_countShown_85 : decode cX6_countShown 85 = .ok (.dup2, 1) := by decide +kernel
theorem dX6_countShown_86 : decode cX6_countShown 86 = .ok (.iaload, 1) := by decide +kernel
theorem dX6_countShown_87 : decode cX6_countShown 87 = .ok (.iconst 1, 1) := by decide +kernel
theorem dX6_countShown_88 : decode cX6_countShown 88 = .ok (.iadd, 1) := by decide +kernel
theorem dX6_countShown_89 : decode cX6_countShown 89 = .ok (.iastore, 1) := by decide +kernel
theorem dX6_countShown_90 : decode cX6_countShown 90 = .ok (.iinc 6 1, 3) := by decide +kernel
theorem dX6_countShown_93 : decode cX6_countShown 93 = .ok (.goto (-35), 3) := by decide +kernel
theorem dX6_countShown_96 : decode cX6_countShown 96 = .ok (.iinc 4 1, 3) := by decide +kernel
theorem dX6_countShown_99 : decode cX6_countShown 99 = .ok (.goto (-80), 3) := by decide +kernel
theorem dX6_countShown_102 : decode cX6_countShown 102 = .ok (.return_, 1) := by decide +kernel
theorem dX6_firstFrom_0 : decode cX6_firstFrom 0 = .ok (.aload_n 0, 1) := by decide +kernel
theorem dX6_firstFrom_1 : decode cX6_firstFrom 1 = .ok (.invokevirtual 72, 3) := by decide +kernel
theorem dX6_firstFrom_4 : decode cX6_firstFrom 4 = .ok (.istore_n 3, 1) := by decide +kernel
theorem dX6_firstFrom_5 : decode cX6_firstFrom 5 = .ok (.iload_n 3, 1) := by decide +kernel
theorem dX6_firstFrom_6 : decode cX6_firstFrom 6 = .ok (.ifCond .ne 6, 3) := by decide +kernel
theorem dX6_firstFrom_9 : decode cX6_firstFrom 9 = .ok (.bipush (-100), 2) := by decide +kernel
theorem dX6_firstFrom_11 : decode cX6_firstFrom 11 = .ok (.ireturn, 1) := by decide +kernel
theorem dX6_firstFrom_12 : decode cX6_firstFrom 12 = .ok (.aload_n 0, 1) := by decide +kernel
theorem dX6_firstFrom_13 : decode cX6_firstFrom 13 = .ok (.iload_n 1, 1) := by decide +kernel
theorem dX6_firstFrom_14 : decode cX6_firstFrom 14 = .ok (.invokevirtual 168, 3) := by decide +kernel
theorem dX6_firstFrom_17 : decode cX6_firstFrom 17 = .ok (.ifCond .ne 5, 3) := by decide +kernel
theorem dX6_firstFrom_20 : decode cX6_firstFrom 20 = .ok (.iconst (-1), 1) := by decide +kernel
theorem dX6_firstFrom_21 : decode cX6_firstFrom 21 = .ok (.ireturn, 1) := by decide +kernel
theorem dX6_firstFrom_22 : decode cX6_firstFrom 22 = .ok (.aload_n 0, 1) := by decide +kernel
theorem dX6_firstFrom_23 : decode cX6_firstFrom 23 = .ok (.invokevirtual 160, 3) := by decide +kernel
theorem dX6_firstFrom_26 : decode cX6_firstFrom 26 = .ok (.astore 4, 2) := by decide +kernel
theorem dX6_firstFrom_28 : decode cX6_firstFrom 28 = .ok (.iload_n 1, 1) := by decide +kernel
theorem dX6_firstFrom_29 : decode cX6_firstFrom 29 = .ok (.istore 5, 2) := by decide +kernel
theorem dX6_firstFrom_31 : decode cX6_firstFrom 31 = .ok (.iload 5, 2) := by decide +kernel
theorem dX6_firstFrom_33 : decode cX6_firstFrom 33 = .ok (.aload 4, 2) := by decide +kernel
theorem dX6_firstFrom_35 : decode cX6_firstFrom 35 = .ok (.getfield 181, 3) := by decide +kernel
theorem dX6_firstFrom_38 : decode cX6_firstFrom 38 = .ok (.iload_n 3, 1) := by decide +kernel
theorem dX6_firstFrom_39 : decode cX6_firstFrom 39 = .ok (.isub, 1) := by decide +kernel
theorem dX6_firstFrom_40 : decode cX6_firstFrom 40 = .ok (.if_icmp .gt 39, 3) := by decide +kernel
theorem dX6_firstFrom_43 : decode cX6_firstFrom 43 = .ok (.aload_n 0, 1) := by decide +kernel
theorem dX6_firstFrom_44 : decode cX6_firstFrom 44 = .ok (.iload 5, 2) := by decide +kernel
theorem dX6_firstFrom_46 : decode cX6_firstFrom 46 = .ok (.iload_n 3, 1) := by decide +kernel
theorem dX6_firstFrom_47 : decode cX6_firstFrom 47 = .ok (.iload_n 2, 1) := by decide +kernel
theorem dX6_firstFrom_48 : decode cX6_firstFrom 48 = .ok (.invokevirtual 291, 3) := by decide +kernel
theorem dX6_firstFrom_51 : decode cX6_firstFrom 51 = .ok (.ifCond .eq 22, 3) := by decide +kernel
theorem dX6_firstFrom_54 : decode cX6_firstFrom 54 = .ok (.aload_n 0, 1) := by decide +kernel
theorem dX6_firstFrom_55 : decode cX6_firstFrom 55 = .ok (.getfield 16, 3) := by decide +kernel
theorem dX6_firstFrom_58 : decode cX6_firstFrom 58 = .ok (.aload 4, 2) := by decide +kernel
theorem dX6_firstFrom_60 : decode cX6_firstFrom 60 = .ok (.iload 5, 2) := by decide +kernel
theorem dX6_firstFrom_62 : decode cX6_firstFrom 62 = .ok (.iload_n 3, 1) := by decide +kernel
theorem dX6_firstFrom_63 : decode cX6_firstFrom 63 = .ok (.invokevirtual 295, 3) := by decide +kernel
theorem dX6_firstFrom_66 : decode cX6_firstFrom 66 = .ok (.i2l, 1) := by decide +kernel
theorem dX6_firstFrom_67 : decode cX6_firstFrom 67 = .ok (.invokevirtual 246, 3) := by decide +kernel
theorem dX6_firstFrom_70 : decode cX6_firstFrom 70 = .ok (.iload 5, 2) := by decide +kernel
theorem dX6_firstFrom_72 : decode cX6_firstFrom 72 = .ok (.ireturn, 1) := by decide +kernel
theorem dX6_firstFrom_73 : decode cX6_firstFrom 73 = .ok (.iinc 5 1, 3) := by decide +kernel
theorem dX6_firstFrom_76 : decode cX6_firstFrom 76 = .ok (.goto (-45), 3) := by decide +kernel
theorem dX6_firstFrom_79 : decode cX6_firstFrom 79 = .ok (.bipush (-2), 2) := by decide +kernel
theorem dX6_firstFrom_81 : decode cX6_firstFrom 81 = .ok (.ireturn, 1) := by decide +kernel
theorem dX6_standsAt_0 : decode cX6_standsAt 0 = .ok (.iconst 0, 1) := by decide +kernel
theorem dX6_standsAt_1 : decode cX6_standsAt 1 = .ok (.istore 4, 2) := by decide +kernel
theorem dX6_standsAt_3 : decode cX6_standsAt 3 = .ok (.iload 4, 2) := by decide +kernel
theorem dX6_standsAt_5 : decode cX6_standsAt 5 = .ok (.iload_n 2, 1) := by decide +kernel
theorem dX6_standsAt_6 : decode cX6_standsAt 6 = .ok (.if_icmp .ge 46, 3) := by decide +kernel
theorem dX6_standsAt_9 : decode cX6_standsAt 9 = .ok (.iload 4, 2) := by decide +kernel
theorem dX6_standsAt_11 : decode cX6_standsAt 11 = .ok (.aload_n 0, 1) := by decide +kernel
theorem dX6_standsAt_12 : decode cX6_standsAt 12 = .ok (.getfield 9, 3) := by decide +kernel
theorem dX6_standsAt_15 : decode cX6_standsAt 15 = .ok (.arraylength, 1) := by decide +kernel
theorem dX6_standsAt_16 : decode cX6_standsAt 16 = .ok (.if_icmp .ge 36, 3) := by decide +kernel
theorem dX6_standsAt_19 : decode cX6_standsAt 19 = .ok (.aload_n 0, 1) := by decide +kernel
theorem dX6_standsAt_20 : decode cX6_standsAt 20 = .ok (.getfield 9, 3) := by decide +kernel
theorem dX6_standsAt_23 : decode cX6_standsAt 23 = .ok (.iload 4, 2) := by decide +kernel
theorem dX6_standsAt_25 : decode cX6_standsAt 25 = .ok (.iaload, 1) := by decide +kernel
theorem dX6_standsAt_26 : decode cX6_standsAt 26 = .ok (.aload_n 0, 1) := by decide +kernel
theorem dX6_standsAt_27 : decode cX6_standsAt 27 = .ok (.getfield 55, 3) := by decide +kernel
theorem dX6_standsAt_30 : decode cX6_standsAt 30 = .ok (.iload_n 1, 1) := by decide +kernel
theorem dX6_standsAt_31 : decode cX6_standsAt 31 = .ok (.iload 4, 2) := by decide +kernel
theorem dX6_standsAt_33 : decode cX6_standsAt 33 = .ok (.iadd, 1) := by decide +kernel
theorem dX6_standsAt_34 : decode cX6_standsAt 34 = .ok (.invokevirtual 236, 3) := by decide +kernel
theorem dX6_standsAt_37 : decode cX6_standsAt 37 = .ok (.iload_n 3, 1) := by decide +kernel
theorem dX6_standsAt_38 : decode cX6_standsAt 38 = .ok (.invokestatic 387, 3) := by decide +kernel
theorem dX6_standsAt_41 : decode cX6_standsAt 41 = .ok (.ifCond .ne 5, 3) := by decide +kernel
theorem dX6_standsAt_44 : decode cX6_standsAt 44 = .ok (.iconst 0, 1) := by decide +kernel
theorem dX6_standsAt_45 : decode cX6_standsAt 45 = .ok (.ireturn, 1) := by decide +kernel
theorem dX6_standsAt_46 : decode cX6_standsAt 46 = .ok (.iinc 4 1, 3) := by decide +kernel
theorem dX6_standsAt_49 : decode cX6_standsAt 49 = .ok (.goto (-46), 3) := by decide +kernel
theorem dX6_standsAt_52 : decode cX6_standsAt 52 = .ok (.iconst 1, 1) := by decide +kernel
theorem dX6_standsAt_53 : decode cX6_standsAt 53 = .ok (.ireturn, 1) := by decide +kernel
theorem dX6_doDrawnEdit_0 : decode cX6_doDrawnEdit 0 = .ok (.aload_n 1, 1) := by decide +kernel
theorem dX6_doDrawnEdit_1 : decode cX6_doDrawnEdit 1 = .ok (.iconst 4, 1) := by decide +kernel
theorem dX6_doDrawnEdit_2 : decode cX6_doDrawnEdit 2 = .ok (.invokevirtual 390, 3) := by decide +kernel
theorem dX6_doDrawnEdit_5 : decode cX6_doDrawnEdit 5 = .ok (.istore_n 2, 1) := by decide +kernel
theorem dX6_doDrawnEdit_6 : decode cX6_doDrawnEdit 6 = .ok (.iload_n 2, 1) := by decide +kernel
theorem dX6_doDrawnEdit_7 : decode cX6_doDrawnEdit 7 = .ok (.iconst 2, 1) := by decide +kernel
theorem dX6_doDrawnEdit_8 : decode cX6_doDrawnEdit 8 = .ok (.if_icmp .ge 82, 3) := by decide +kernel
theorem dX6_doDrawnEdit_11 : decode cX6_doDrawnEdit 11 = .ok (.aload_n 1, 1) := by decide +kernel
theorem dX6_doDrawnEdit_12 : decode cX6_doDrawnEdit 12 = .ok (.bipush 26, 2) := by decide +kernel
theorem dX6_doDrawnEdit_14 : decode cX6_doDrawnEdit 14 = .ok (.invokevirtual 390, 3) := by decide +kernel
theorem dX6_doDrawnEdit_17 : decode cX6_doDrawnEdit 17 = .ok (.bipush 97, 2) := by decide +kernel
theorem dX6_doDrawnEdit_19 : decode cX6_doDrawnEdit 19 = .ok (.iadd, 1) := by decide +kernel
theorem dX6_doDrawnEdit_20 : decode cX6_doDrawnEdit 20 = .ok (.istore_n 3, 1) := by decide +kernel
theorem dX6_doDrawnEdit_21 : decode cX6_doDrawnEdit 21 = .ok (.aload_n 1, 1) := by decide +kernel
theorem dX6_doDrawnEdit_22 : decode cX6_doDrawnEdit 22 = .ok (.aload_n 0, 1) := by decide +kernel
theorem dX6_doDrawnEdit_23 : decode cX6_doDrawnEdit 23 = .ok (.getfield 49, 3) := by decide +kernel
theorem dX6_doDrawnEdit_26 : decode cX6_doDrawnEdit 26 = .ok (.getfield 104, 3) := by decide +kernel
theorem dX6_doDrawnEdit_29 : decode cX6_doDrawnEdit 29 = .ok (.iconst 1, 1) := by decide +kernel
theorem dX6_doDrawnEdit_30 : decode cX6_doDrawnEdit 30 = .ok (.iadd, 1) := by decide +kernel
theorem dX6_doDrawnEdit_31 : decode cX6_doDrawnEdit 31 = .ok (.invokevirtual 390, 3) := by decide +kernel
theorem dX6_doDrawnEdit_34 : decode cX6_doDrawnEdit 34 = .ok (.istore 4, 2) := by decide +kernel
theorem dX6_doDrawnEdit_36 : decode cX6_doDrawnEdit 36 = .ok (.aload_n 0, 1) := by decide +kernel
theorem dX6_doDrawnEdit_37 : decode cX6_doDrawnEdit 37 = .ok (.getfield 49, 3) := by decide +kernel
theorem dX6_doDrawnEdit_40 : decode cX6_doDrawnEdit 40 = .ok (.getfield 104, 3) := by decide +kernel
theorem dX6_doDrawnEdit_43 : decode cX6_doDrawnEdit 43 = .ok (.sipush 3000, 3) := by decide +kernel
theorem dX6_doDrawnEdit_46 : decode cX6_doDrawnEdit 46 = .ok (.if_icmp .ge 41, 3) := by decide +kernel
theorem dX6_doDrawnEdit_49 : decode cX6_doDrawnEdit 49 = .ok (.aload_n 0, 1) := by decide +kernel
theorem dX6_doDrawnEdit_50 : decode cX6_doDrawnEdit 50 = .ok (.getfield 23, 3) := by decide +kernel
theorem dX6_doDrawnEdit_53 : decode cX6_doDrawnEdit 53 = .ok (.getfield 135, 3) := by decide +kernel
theorem dX6_doDrawnEdit_56 : decode cX6_doDrawnEdit 56 = .ok (.sipush 6000, 3) := by decide +kernel
theorem dX6_doDrawnEdit_59 : decode cX6_doDrawnEdit 59 = .ok (.if_icmp .ge 28, 3) := by decide +kernel
theorem dX6_doDrawnEdit_62 : decode cX6_doDrawnEdit 62 = .ok (.aload_n 0, 1) := by decide +kernel
theorem dX6_doDrawnEdit_63 : decode cX6_doDrawnEdit 63 = .ok (.getfield 49, 3) := by decide +kernel
theorem dX6_doDrawnEdit_66 : decode cX6_doDrawnEdit 66 = .ok (.iload 4, 2) := by decide +kernel
theorem dX6_doDrawnEdit_68 : decode cX6_doDrawnEdit 68 = .ok (.aload_n 0, 1) := by decide +kernel
theorem dX6_doDrawnEdit_69 : decode cX6_doDrawnEdit 69 = .ok (.getfield 23, 3) := by decide +kernel
theorem dX6_doDrawnEdit_72 : decode cX6_doDrawnEdit 72 = .ok (.invokevirtual 141, 3) := by decide +kernel
theorem dX6_doDrawnEdit_75 : decode cX6_doDrawnEdit 75 = .ok (.iconst 1, 1) := by decide +kernel
theorem dX6_doDrawnEdit_76 : decode cX6_doDrawnEdit 76 = .ok (.invokevirtual 144, 3) := by decide +kernel
theorem dX6_doDrawnEdit_79 : decode cX6_doDrawnEdit 79 = .ok (.aload_n 0, 1) := by decide +kernel
theorem dX6_doDrawnEdit_80 : decode cX6_doDrawnEdit 80 = .ok (.getfield 23, 3) := by decide +kernel
theorem dX6_doDrawnEdit_83 : decode cX6_doDrawnEdit 83 = .ok (.iload_n 3, 1) := by decide +kernel
theorem dX6_doDrawnEdit_84 : decode cX6_doDrawnEdit 84 = .ok (.invokevirtual 148, 3) := by decide +kernel
theorem dX6_doDrawnEdit_87 : decode cX6_doDrawnEdit 87 = .ok (.goto 69, 3) := by decide +kernel
theorem dX6_doDrawnEdit_90 : decode cX6_doDrawnEdit 90 = .ok (.aload_n 0, 1) := by decide +kernel
theorem dX6_doDrawnEdit_91 : decode cX6_doDrawnEdit 91 = .ok (.getfield 49, 3) := by decide +kernel
theorem dX6_doDrawnEdit_94 : decode cX6_doDrawnEdit 94 = .ok (.getfield 104, 3) := by decide +kernel
theorem dX6_doDrawnEdit_97 : decode cX6_doDrawnEdit 97 = .ok (.ifCond .le 59, 3) := by decide +kernel
theorem dX6_doDrawnEdit_100 : decode cX6_doDrawnEdit 100 = .ok (.aload_n 1, 1) := by decide +kernel
theorem dX6_doDrawnEdit_101 : decode cX6_doDrawnEdit 101 = .ok (.aload_n 0, 1) := by decide +kernel
theorem dX6_doDrawnEdit_102 : decode cX6_doDrawnEdit 102 = .ok (.getfield 49, 3) := by decide +kernel
theorem dX6_doDrawnEdit_105 : decode cX6_doDrawnEdit 105 = .ok (.getfield 104, 3) := by decide +kernel
theorem dX6_doDrawnEdit_108 : decode cX6_doDrawnEdit 108 = .ok (.invokevirtual 390, 3) := by decide +kernel
theorem dX6_doDrawnEdit_111 : decode cX6_doDrawnEdit 111 = .ok (.istore_n 3, 1) := by decide +kernel
theorem dX6_doDrawnEdit_112 : decode cX6_doDrawnEdit 112 = .ok (.iload_n 2, 1) := by decide +kernel
theorem dX6_doDrawnEdit_113 : decode cX6_doDrawnEdit 113 = .ok (.iconst 2, 1) := by decide +kernel
theorem dX6_doDrawnEdit_114 : decode cX6_doDrawnEdit 114 = .ok (.if_icmp .ne 15, 3) := by decide +kernel
theorem dX6_doDrawnEdit_117 : decode cX6_doDrawnEdit 117 = .ok (.aload_n 0, 1) := by decide +kernel
theorem dX6_doDrawnEdit_118 : decode cX6_doDrawnEdit 118 = .ok (.getfield 49, 3) := by decide +kernel
theorem dX6_doDrawnEdit_121 : decode cX6_doDrawnEdit 121 = .ok (.iload_n 3, 1) := by decide +kernel
theorem dX6_doDrawnEdit_122 : decode cX6_doDrawnEdit 122 = .ok (.iconst 1, 1) := by decide +kernel
theorem dX6_doDrawnEdit_123 : decode cX6_doDrawnEdit 123 = .ok (.invokevirtual 165, 3) := by decide +kernel
theorem dX6_doDrawnEdit_126 : decode cX6_doDrawnEdit 126 = .ok (.goto 30, 3) := by decide +kernel
theorem dX6_doDrawnEdit_129 : decode cX6_doDrawnEdit 129 = .ok (.aload_n 0, 1) := by decide +kernel
theorem dX6_doDrawnEdit_130 : decode cX6_doDrawnEdit 130 = .ok (.getfield 49, 3) := by decide +kernel
theorem dX6_doDrawnEdit_133 : decode cX6_doDrawnEdit 133 = .ok (.getfield 104, 3) := by decide +kernel
theorem dX6_doDrawnEdit_136 : decode cX6_doDrawnEdit 136 = .ok (.sipush 3000, 3) := by decide +kernel
theorem dX6_doDrawnEdit_139 : decode cX6_doDrawnEdit 139 = .ok (.if_icmp .ge 17, 3) := by decide +kernel
theorem dX6_doDrawnEdit_142 : decode cX6_doDrawnEdit 142 = .ok (.aload_n 0, 1) := by decide +kernel
theorem dX6_doDrawnEdit_143 : decode cX6_doDrawnEdit 143 = .ok (.getfield 49, 3) := by decide +kernel
theorem dX6_doDrawnEdit_146 : decode cX6_doDrawnEdit 146 = .ok (.iload_n 3, 1) := by decide +kernel
theorem dX6_doDrawnEdit_147 : decode cX6_doDrawnEdit 147 = .ok (.iconst 1, 1) := by decide +kernel
theorem dX6_doDrawnEdit_148 : decode cX6_doDrawnEdit 148 = .ok (.iconst 0, 1) := by decide +kernel
theorem dX6_doDrawnEdit_149 : decode cX6_doDrawnEdit 149 = .ok (.aload_n 0, 1) := by decide +kernel
theorem dX6_doDrawnEdit_150 : decode cX6_doDrawnEdit 150 = .ok (.getfield 45, 3) := by decide +kernel
theorem dX6_doDrawnEdit_153 : decode cX6_doDrawnEdit 153 = .ok (.invokevirtual 171, 3) := by decide +kernel
theorem dX6_doDrawnEdit_156 : decode cX6_doDrawnEdit 156 = .ok (.return_, 1) := by decide +kernel
theorem dX6_isSign_0 : decode cX6_isSign 0 = .ok (.iload_n 0, 1) := by decide +kernel
theorem dX6_isSign_1 : decode cX6_isSign 1 = .ok (.iconst 1, 1) := by decide +kernel
theorem dX6_isSign_2 : decode cX6_isSign 2 = .ok (.if_icmp .lt 13, 3) := by decide +kernel
theorem dX6_isSign_5 : decode cX6_isSign 5 = .ok (.iload_n 0, 1) := by decide +kernel
theorem dX6_isSign_6 : decode cX6_isSign 6 = .ok (.bipush 127, 2) := by decide +kernel
theorem dX6_isSign_8 : decode cX6_isSign 8 = .ok (.if_icmp .gt 7, 3) := by decide +kernel
theorem dX6_isSign_11 : decode cX6_isSign 11 = .ok (.iconst 1, 1) := by decide +kernel
theorem dX6_isSign_12 : decode cX6_isSign 12 = .ok (.goto 4, 3) := by decide +kernel
theorem dX6_isSign_15 : decode cX6_isSign 15 = .ok (.iconst 0, 1) := by decide +kernel
theorem dX6_isSign_16 : decode cX6_isSign 16 = .ok (.ireturn, 1) := by decide +kernel
theorem dX6_isDigit_0 : decode cX6_isDigit 0 = .ok (.iload_n 0, 1) := by decide +kernel
theorem dX6_isDigit_1 : decode cX6_isDigit 1 = .ok (.bipush 48, 2) := by decide +kernel
theorem dX6_isDigit_3 : decode cX6_isDigit 3 = .ok (.if_icmp .lt 13, 3) := by decide +kernel
theorem dX6_isDigit_6 : decode cX6_isDigit 6 = .ok (.iload_n 0, 1) := by decide +kernel
theorem dX6_isDigit_7 : decode cX6_isDigit 7 = .ok (.bipush 57, 2) := by decide +kernel
theorem dX6_isDigit_9 : decode cX6_isDigit 9 = .ok (.if_icmp .gt 7, 3) := by decide +kernel
theorem dX6_isDigit_12 : decode cX6_isDigit 12 = .ok (.iconst 1, 1) := by decide +kernel
theorem dX6_isDigit_13 : decode cX6_isDigit 13 = .ok (.goto 4, 3) := by decide +kernel
theorem dX6_isDigit_16 : decode cX6_isDigit 16 = .ok (.iconst 0, 1) := by decide +kernel
theorem dX6_isDigit_17 : decode cX6_isDigit 17 = .ok (.ireturn, 1) := by decide +kernel
theorem dX6_isSmall_0 : decode cX6_isSmall 0 = .ok (.iload_n 0, 1) := by decide +kernel
theorem dX6_isSmall_1 : decode cX6_isSmall 1 = .ok (.bipush 97, 2) := by decide +kernel
theorem dX6_isSmall_3 : decode cX6_isSmall 3 = .ok (.if_icmp .lt 13, 3) := by decide +kernel
theorem dX6_isSmall_6 : decode cX6_isSmall 6 = .ok (.iload_n 0, 1) := by decide +kernel
theorem dX6_isSmall_7 : decode cX6_isSmall 7 = .ok (.bipush 122, 2) := by decide +kernel
theorem dX6_isSmall_9 : decode cX6_isSmall 9 = .ok (.if_icmp .gt 7, 3) := by decide +kernel
theorem dX6_isSmall_12 : decode cX6_isSmall 12 = .ok (.iconst 1, 1) := by decide +kernel
theorem dX6_isSmall_13 : decode cX6_isSmall 13 = .ok (.goto 4, 3) := by decide +kernel
theorem dX6_isSmall_16 : decode cX6_isSmall 16 = .ok (.iconst 0, 1) := by decide +kernel
theorem dX6_isSmall_17 : decode cX6_isSmall 17 = .ok (.ireturn, 1) := by decide +kernel
theorem dX6_isCapital_0 : decode cX6_isCapital 0 = .ok (.iload_n 0, 1) := by decide +kernel
theorem dX6_isCapital_1 : decode cX6_isCapital 1 = .ok (.bipush 65, 2) := by decide +kernel
theorem dX6_isCapital_3 : decode cX6_isCapital 3 = .ok (.if_icmp .lt 13, 3) := by decide +kernel
theorem dX6_isCapital_6 : decode cX6_isCapital 6 = .ok (.iload_n 0, 1) := by decide +kernel
theorem dX6_isCapital_7 : decode cX6_isCapital 7 = .ok (.bipush 90, 2) := by decide +kernel
theorem dX6_isCapital_9 : decode cX6_isCapital 9 = .ok (.if_icmp .gt 7, 3) := by decide +kernel
theorem dX6_isCapital_12 : decode cX6_isCapital 12 = .ok (.iconst 1, 1) := by decide +kernel
theorem dX6_isCapital_13 : decode cX6_isCapital 13 = .ok (.goto 4, 3) := by decide +kernel
theorem dX6_isCapital_16 : decode cX6_isCapital 16 = .ok (.iconst 0, 1) := by decide +kernel
theorem dX6_isCapital_17 : decode cX6_isCapital 17 = .ok (.ireturn, 1) := by decide +kernel
theorem dX6_isOfWord_0 : decode cX6_isOfWord 0 = .ok (.iload_n 0, 1) := by decide +kernel
theorem dX6_isOfWord_1 : decode cX6_isOfWord 1 = .ok (.invokestatic 393, 3) := by decide +kernel
theorem dX6_isOfWord_4 : decode cX6_isOfWord 4 = .ok (.ifCond .ne 17, 3) := by decide +kernel
theorem dX6_isOfWord_7 : decode cX6_isOfWord 7 = .ok (.iload_n 0, 1) := by decide +kernel
theorem dX6_isOfWord_8 : decode cX6_isOfWord 8 = .ok (.invokestatic 396, 3) := by decide +kernel
theorem dX6_isOfWord_11 : decode cX6_isOfWord 11 = .ok (.ifCond .ne 10, 3) := by decide +kernel
theorem dX6_isOfWord_14 : decode cX6_isOfWord 14 = .ok (.iload_n 0, 1) := by decide +kernel
theorem dX6_isOfWord_15 : decode cX6_isOfWord 15 = .ok (.invokestatic 399, 3) := by decide +kernel
theorem dX6_isOfWord_18 : decode cX6_isOfWord 18 = .ok (.ifCond .eq 7, 3) := by decide +kernel
theorem dX6_isOfWord_21 : decode cX6_isOfWord 21 = .ok (.iconst 1, 1) := by decide +kernel
theorem dX6_isOfWord_22 : decode cX6_isOfWord 22 = .ok (.goto 4, 3) := by decide +kernel
theorem dX6_isOfWord_25 : decode cX6_isOfWord 25 = .ok (.iconst 0, 1) := by decide +kernel
theorem dX6_isOfWord_26 : decode cX6_isOfWord 26 = .ok (.ireturn, 1) := by decide +kernel
theorem dX6_small_0 : decode cX6_small 0 = .ok (.iload_n 0, 1) := by decide +kernel
theorem dX6_small_1 : decode cX6_small 1 = .ok (.invokestatic 396, 3) := by decide +kernel
theorem dX6_small_4 : decode cX6_small 4 = .ok (.ifCond .eq 13, 3) := by decide +kernel
theorem dX6_small_7 : decode cX6_small 7 = .ok (.iload_n 0, 1) := by decide +kernel
theorem dX6_small_8 : decode cX6_small 8 = .ok (.bipush 65, 2) := by decide +kernel
theorem dX6_small_10 : decode cX6_small 10 = .ok (.isub, 1) := by decide +kernel
theorem dX6_small_11 : decode cX6_small 11 = .ok (.bipush 97, 2) := by decide +kernel
theorem dX6_small_13 : decode cX6_small 13 = .ok (.iadd, 1) := by decide +kernel
theorem dX6_small_14 : decode cX6_small 14 = .ok (.goto 4, 3) := by decide +kernel
theorem dX6_small_17 : decode cX6_small 17 = .ok (.iload_n 0, 1) := by decide +kernel
theorem dX6_small_18 : decode cX6_small 18 = .ok (.ireturn, 1) := by decide +kernel
theorem dX6_isAlike_0 : decode cX6_isAlike 0 = .ok (.iload_n 2, 1) := by decide +kernel
theorem dX6_isAlike_1 : decode cX6_isAlike 1 = .ok (.iconst 1, 1) := by decide +kernel
theorem dX6_isAlike_2 : decode cX6_isAlike 2 = .ok (.if_icmp .ne 28, 3) := by decide +kernel
theorem dX6_isAlike_5 : decode cX6_isAlike 5 = .ok (.iload_n 0, 1) := by decide +kernel
theorem dX6_isAlike_6 : decode cX6_isAlike 6 = .ok (.bipush 63, 2) := by decide +kernel
theorem dX6_isAlike_8 : decode cX6_isAlike 8 = .ok (.if_icmp .ne 22, 3) := by decide +kernel
theorem dX6_isAlike_11 : decode cX6_isAlike 11 = .ok (.iload_n 1, 1) := by decide +kernel
theorem dX6_isAlike_12 : decode cX6_isAlike 12 = .ok (.invokestatic 131, 3) := by decide +kernel
theorem dX6_isAlike_15 : decode cX6_isAlike 15 = .ok (.ifCond .eq 13, 3) := by decide +kernel
theorem dX6_isAlike_18 : decode cX6_isAlike 18 = .ok (.iload_n 1, 1) := by decide +kernel
theorem dX6_isAlike_19 : decode cX6_isAlike 19 = .ok (.bipush 10, 2) := by decide +kernel
theorem dX6_isAlike_21 : decode cX6_isAlike 21 = .ok (.if_icmp .eq 7, 3) := by decide +kernel
theorem dX6_isAlike_24 : decode cX6_isAlike 24 = .ok (.iconst 1, 1) := by decide +kernel
theorem dX6_isAlike_25 : decode cX6_isAlike 25 = .ok (.goto 4, 3) := by decide +kernel
theorem dX6_isAlike_28 : decode cX6_isAlike 28 = .ok (.iconst 0, 1) := by decide +kernel
theorem dX6_isAlike_29 : decode cX6_isAlike 29 = .ok (.ireturn, 1) := by decide +kernel
theorem dX6_isAlike_30 : decode cX6_isAlike 30 = .ok (.iload_n 2, 1) := by decide +kernel
theorem dX6_isAlike_31 : decode cX6_isAlike 31 = .ok (.iconst 1, 1) := by decide +kernel
theorem dX6_isAlike_32 : decode cX6_isAlike 32 = .ok (.if_icmp .ne 14, 3) := by decide +kernel
theorem dX6_isAlike_35 : decode cX6_isAlike 35 = .ok (.iload_n 0, 1) := by decide +kernel
theorem dX6_isAlike_36 : decode cX6_isAlike 36 = .ok (.bipush 35, 2) := by decide +kernel
theorem dX6_isAlike_38 : decode cX6_isAlike 38 = .ok (.if_icmp .ne 8, 3) := by decide +kernel
theorem dX6_isAlike_41 : decode cX6_isAlike 41 = .ok (.iload_n 1, 1) := by decide +kernel
theorem dX6_isAlike_42 : decode cX6_isAlike 42 = .ok (.invokestatic 399, 3) := by decide +kernel
theorem dX6_isAlike_45 : decode cX6_isAlike 45 = .ok (.ireturn, 1) := by decide +kernel
theorem dX6_isAlike_46 : decode cX6_isAlike 46 = .ok (.iload_n 2, 1) := by decide +kernel
theorem dX6_isAlike_47 : decode cX6_isAlike 47 = .ok (.iconst 2, 1) := by decide +kernel
theorem dX6_isAlike_48 : decode cX6_isAlike 48 = .ok (.if_icmp .ne 27, 3) := by decide +kernel
theorem dX6_isAlike_51 : decode cX6_isAlike 51 = .ok (.iload_n 1, 1) := by decide +kernel
theorem dX6_isAlike_52 : decode cX6_isAlike 52 = .ok (.invokestatic 131, 3) := by decide +kernel
theorem dX6_isAlike_55 : decode cX6_isAlike 55 = .ok (.ifCond .eq 18, 3) := by decide +kernel
theorem dX6_isAlike_58 : decode cX6_isAlike 58 = .ok (.iload_n 0, 1) := by decide +kernel
theorem dX6_isAlike_59 : decode cX6_isAlike 59 = .ok (.invokestatic 402, 3) := by decide +kernel
theorem dX6_isAlike_62 : decode cX6_isAlike 62 = .ok (.iload_n 1, 1) := by decide +kernel
theorem dX6_isAlike_63 : decode cX6_isAlike 63 = .ok (.invokestatic 402, 3) := by decide +kernel
theorem dX6_isAlike_66 : decode cX6_isAlike 66 = .ok (.if_icmp .ne 7, 3) := by decide +kernel
theorem dX6_isAlike_69 : decode cX6_isAlike 69 = .ok (.iconst 1, 1) := by decide +kernel
theorem dX6_isAlike_70 : decode cX6_isAlike 70 = .ok (.goto 4, 3) := by decide +kernel
theorem dX6_isAlike_73 : decode cX6_isAlike 73 = .ok (.iconst 0, 1) := by decide +kernel
theorem dX6_isAlike_74 : decode cX6_isAlike 74 = .ok (.ireturn, 1) := by decide +kernel
theorem dX6_isAlike_75 : decode cX6_isAlike 75 = .ok (.iload_n 1, 1) := by decide +kernel
theorem dX6_isAlike_76 : decode cX6_isAlike 76 = .ok (.invokestatic 131, 3) := by decide +kernel
theorem dX6_isAlike_79 : decode cX6_isAlike 79 = .ok (.ifCond .eq 12, 3) := by decide +kernel
theorem dX6_isAlike_82 : decode cX6_isAlike 82 = .ok (.iload_n 0, 1) := by decide +kernel
theorem dX6_isAlike_83 : decode cX6_isAlike 83 = .ok (.iload_n 1, 1) := by decide +kernel
theorem dX6_isAlike_84 : decode cX6_isAlike 84 = .ok (.if_icmp .ne 7, 3) := by decide +kernel
theorem dX6_isAlike_87 : decode cX6_isAlike 87 = .ok (.iconst 1, 1) := by decide +kernel
theorem dX6_isAlike_88 : decode cX6_isAlike 88 = .ok (.goto 4, 3) := by decide +kernel
theorem dX6_isAlike_91 : decode cX6_isAlike 91 = .ok (.iconst 0, 1) := by decide +kernel
theorem dX6_isAlike_92 : decode cX6_isAlike 92 = .ok (.ireturn, 1) := by decide +kernel
theorem dX6_opensPair_0 : decode cX6_opensPair 0 = .ok (.iload_n 0, 1) := by decide +kernel
theorem dX6_opensPair_1 : decode cX6_opensPair 1 = .ok (.bipush 40, 2) := by decide +kernel
theorem dX6_opensPair_3 : decode cX6_opensPair 3 = .ok (.if_icmp .eq 15, 3) := by decide +kernel
theorem dX6_opensPair_6 : decode cX6_opensPair 6 = .ok (.iload_n 0, 1) := by decide +kernel
theorem dX6_opensPair_7 : decode cX6_opensPair 7 = .ok (.bipush 91, 2) := by decide +kernel
theorem dX6_opensPair_9 : decode cX6_opensPair 9 = .ok (.if_icmp .eq 9, 3) := by decide +kernel
theorem dX6_opensPair_12 : decode cX6_opensPair 12 = .ok (.iload_n 0, 1) := by decide +kernel
theorem dX6_opensPair_13 : decode cX6_opensPair 13 = .ok (.bipush 123, 2) := by decide +kernel
theorem dX6_opensPair_15 : decode cX6_opensPair 15 = .ok (.if_icmp .ne 7, 3) := by decide +kernel
theorem dX6_opensPair_18 : decode cX6_opensPair 18 = .ok (.iconst 1, 1) := by decide +kernel
theorem dX6_opensPair_19 : decode cX6_opensPair 19 = .ok (.goto 4, 3) := by decide +kernel
theorem dX6_opensPair_22 : decode cX6_opensPair 22 = .ok (.iconst 0, 1) := by decide +kernel
theorem dX6_opensPair_23 : decode cX6_opensPair 23 = .ok (.ireturn, 1) := by decide +kernel
theorem dX6_partnerOf_0 : decode cX6_partnerOf 0 = .ok (.iload_n 0, 1) := by decide +kernel
theorem dX6_partnerOf_1 : decode cX6_partnerOf 1 = .ok (.lookupswitch 77 #[(40, 59), (41, 62), (91, 65), (93, 68), (123, 71), (125, 74)], 59) := by decide +kernel
theorem dX6_partnerOf_60 : decode cX6_partnerOf 60 = .ok (.bipush 41, 2) := by decide +kernel
theorem dX6_partnerOf_62 : decode cX6_partnerOf 62 = .ok (.ireturn, 1) := by decide +kernel
theorem dX6_partnerOf_63 : decode cX6_partnerOf 63 = .ok (.bipush 40, 2) := by decide +kernel
theorem dX6_partnerOf_65 : decode cX6_partnerOf 65 = .ok (.ireturn, 1) := by decide +kernel
theorem dX6_partnerOf_66 : decode cX6_partnerOf 66 = .ok (.bipush 93, 2) := by decide +kernel
theorem dX6_partnerOf_68 : decode cX6_partnerOf 68 = .ok (.ireturn, 1) := by decide +kernel
theorem dX6_partnerOf_69 : decode cX6_partnerOf 69 = .ok (.bipush 91, 2) := by decide +kernel
theorem dX6_partnerOf_71 : decode cX6_partnerOf 71 = .ok (.ireturn, 1) := by decide +kernel
theorem dX6_partnerOf_72 : decode cX6_partnerOf 72 = .ok (.bipush 125, 2) := by decide +kernel
theorem dX6_partnerOf_74 : decode cX6_partnerOf 74 = .ok (.ireturn, 1) := by decide +kernel
theorem dX6_partnerOf_75 : decode cX6_partnerOf 75 = .ok (.bipush 123, 2) := by decide +kernel
theorem dX6_partnerOf_77 : decode cX6_partnerOf 77 = .ok (.ireturn, 1) := by decide +kernel
theorem dX6_partnerOf_78 : decode cX6_partnerOf 78 = .ok (.iconst 0, 1) := by decide +kernel
theorem dX6_partnerOf_79 : decode cX6_partnerOf 79 = .ok (.ireturn, 1) := by decide +kernel
theorem dX6_lengthOfAct_0 : decode cX6_lengthOfAct 0 = .ok (.iload_n 0, 1) := by decide +kernel
theorem dX6_lengthOfAct_1 : decode cX6_lengthOfAct 1 = .ok (.tableswitch 98 100 117 #[90, 98, 98, 98, 96, 87, 98, 98, 93, 93, 98, 98, 98, 98, 96, 98, 98, 96], 87) := by decide +kernel
theorem dX6_lengthOfAct_88 : decode cX6_lengthOfAct 88 = .ok (.bipush 6, 2) := by decide +kernel
theorem dX6_lengthOfAct_90 : decode cX6_lengthOfAct 90 = .ok (.ireturn, 1) := by decide +kernel
theorem dX6_lengthOfAct_91 : decode cX6_lengthOfAct 91 = .ok (.bipush 7, 2) := by decide +kernel
theorem dX6_lengthOfAct_93 : decode cX6_lengthOfAct 93 = .ok (.ireturn, 1) := by decide +kernel
theorem dX6_lengthOfAct_94 : decode cX6_lengthOfAct 94 = .ok (.bipush 11, 2) := by decide +kernel
theorem dX6_lengthOfAct_96 : decode cX6_lengthOfAct 96 = .ok (.ireturn, 1) := by decide +kernel
theorem dX6_lengthOfAct_97 : decode cX6_lengthOfAct 97 = .ok (.iconst 1, 1) := by decide +kernel
theorem dX6_lengthOfAct_98 : decode cX6_lengthOfAct 98 = .ok (.ireturn, 1) := by decide +kernel
theorem dX6_lengthOfAct_99 : decode cX6_lengthOfAct 99 = .ok (.iconst 0, 1) := by decide +kernel
theorem dX6_lengthOfAct_100 : decode cX6_lengthOfAct 100 = .ok (.ireturn, 1) := by decide +kernel
theorem dX6_mayStand_0 : decode cX6_mayStand 0 = .ok (.iload_n 0, 1) := by decide +kernel
theorem dX6_mayStand_1 : decode cX6_mayStand 1 = .ok (.bipush 105, 2) := by decide +kernel
theorem dX6_mayStand_3 : decode cX6_mayStand 3 = .ok (.if_icmp .ne 27, 3) := by decide +kernel
theorem dX6_mayStand_6 : decode cX6_mayStand 6 = .ok (.iload_n 1, 1) := by decide +kernel
theorem dX6_mayStand_7 : decode cX6_mayStand 7 = .ok (.iconst 5, 1) := by decide +kernel
theorem dX6_mayStand_8 : decode cX6_mayStand 8 = .ok (.if_icmp .ne 22, 3) := by decide +kernel
theorem dX6_mayStand_11 : decode cX6_mayStand 11 = .ok (.iload_n 2, 1) := by decide +kernel
theorem dX6_mayStand_12 : decode cX6_mayStand 12 = .ok (.invokestatic 393, 3) := by decide +kernel
theorem dX6_mayStand_15 : decode cX6_mayStand 15 = .ok (.ifCond .ne 9, 3) := by decide +kernel
theorem dX6_mayStand_18 : decode cX6_mayStand 18 = .ok (.iload_n 2, 1) := by decide +kernel
theorem dX6_mayStand_19 : decode cX6_mayStand 19 = .ok (.bipush 47, 2) := by decide +kernel
theorem dX6_mayStand_21 : decode cX6_mayStand 21 = .ok (.if_icmp .ne 7, 3) := by decide +kernel
theorem dX6_mayStand_24 : decode cX6_mayStand 24 = .ok (.iconst 1, 1) := by decide +kernel
theorem dX6_mayStand_25 : decode cX6_mayStand 25 = .ok (.goto 4, 3) := by decide +kernel
theorem dX6_mayStand_28 : decode cX6_mayStand 28 = .ok (.iconst 0, 1) := by decide +kernel
theorem dX6_mayStand_29 : decode cX6_mayStand 29 = .ok (.ireturn, 1) := by decide +kernel
theorem dX6_mayStand_30 : decode cX6_mayStand 30 = .ok (.iload_n 2, 1) := by decide +kernel
theorem dX6_mayStand_31 : decode cX6_mayStand 31 = .ok (.invokestatic 399, 3) := by decide +kernel
theorem dX6_mayStand_34 : decode cX6_mayStand 34 = .ok (.ireturn, 1) := by decide +kernel
theorem dX6_baseOf_0 : decode cX6_baseOf 0 = .ok (.iload_n 0, 1) := by decide +kernel
theorem dX6_baseOf_1 : decode cX6_baseOf 1 = .ok (.ifCond .ne 7, 3) := by decide +kernel
theorem dX6_baseOf_4 : decode cX6_baseOf 4 = .ok (.iconst 0, 1) := by decide +kernel
theorem dX6_baseOf_5 : decode cX6_baseOf 5 = .ok (.goto 6, 3) := by decide +kernel
theorem dX6_baseOf_8 : decode cX6_baseOf 8 = .ok (.sipush 1600, 3) := by decide +kernel
theorem dX6_baseOf_11 : decode cX6_baseOf 11 = .ok (.ireturn, 1) := by decide +kernel
theorem dX6_storeOf_0 : decode cX6_storeOf 0 = .ok (.iload_n 0, 1) := by decide +kernel
theorem dX6_storeOf_1 : decode cX6_storeOf 1 = .ok (.sipush 1600, 3) := by decide +kernel
theorem dX6_storeOf_4 : decode cX6_storeOf 4 = .ok (.if_icmp .ge 7, 3) := by decide +kernel
theorem dX6_storeOf_7 : decode cX6_storeOf 7 = .ok (.iconst 0, 1) := by decide +kernel
theorem dX6_storeOf_8 : decode cX6_storeOf 8 = .ok (.goto 4, 3) := by decide +kernel
theorem dX6_storeOf_11 : decode cX6_storeOf 11 = .ok (.iconst 1, 1) := by decide +kernel
theorem dX6_storeOf_12 : decode cX6_storeOf 12 = .ok (.ireturn, 1) := by decide +kernel
theorem dX6_placeInStore_0 : decode cX6_placeInStore 0 = .ok (.iload_n 0, 1) := by decide +kernel
theorem dX6_placeInStore_1 : decode cX6_placeInStore 1 = .ok (.iload_n 0, 1) := by decide +kernel
theorem dX6_placeInStore_2 : decode cX6_placeInStore 2 = .ok (.invokestatic 267, 3) := by decide +kernel
theorem dX6_placeInStore_5 : decode cX6_placeInStore 5 = .ok (.invokestatic 117, 3) := by decide +kernel
theorem dX6_placeInStore_8 : decode cX6_placeInStore 8 = .ok (.isub, 1) := by decide +kernel
theorem dX6_placeInStore_9 : decode cX6_placeInStore 9 = .ok (.ireturn, 1) := by decide +kernel
