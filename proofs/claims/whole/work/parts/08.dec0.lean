theorem dX0_init_0 : decode cX0_init 0 = .ok (.aload_n 0, 1) := by decide +kernel
theorem dX0_init_1 : decode cX0_init 1 = .ok (.invokespecial 1, 3) := by decide +kernel
theorem dX0_init_4 : decode cX0_init 4 = .ok (.aload_n 0, 1) := by decide +kernel
theorem dX0_init_5 : decode cX0_init 5 = .ok (.iload_n 1, 1) := by decide +kernel
theorem dX0_init_6 : decode cX0_init 6 = .ok (.putfield 7, 3) := by decide +kernel
theorem dX0_init_9 : decode cX0_init 9 = .ok (.return_, 1) := by decide +kernel
theorem dX0_draw_0 : decode cX0_draw 0 = .ok (.aload_n 0, 1) := by decide +kernel
theorem dX0_draw_1 : decode cX0_draw 1 = .ok (.aload_n 0, 1) := by decide +kernel
theorem dX0_draw_2 : decode cX0_draw 2 = .ok (.getfield 7, 3) := by decide +kernel
theorem dX0_draw_5 : decode cX0_draw 5 = .ok (.ldc 13, 2) := by decide +kernel
theorem dX0_draw_7 : decode cX0_draw 7 = .ok (.imul, 1) := by decide +kernel
theorem dX0_draw_8 : decode cX0_draw 8 = .ok (.sipush 12345, 3) := by decide +kernel
theorem dX0_draw_11 : decode cX0_draw 11 = .ok (.iadd, 1) := by decide +kernel
theorem dX0_draw_12 : decode cX0_draw 12 = .ok (.putfield 7, 3) := by decide +kernel
theorem dX0_draw_15 : decode cX0_draw 15 = .ok (.iload_n 1, 1) := by decide +kernel
theorem dX0_draw_16 : decode cX0_draw 16 = .ok (.iconst 1, 1) := by decide +kernel
theorem dX0_draw_17 : decode cX0_draw 17 = .ok (.if_icmp .ge 7, 3) := by decide +kernel
theorem dX0_draw_20 : decode cX0_draw 20 = .ok (.iconst 0, 1) := by decide +kernel
theorem dX0_draw_21 : decode cX0_draw 21 = .ok (.goto 12, 3) := by decide +kernel
theorem dX0_draw_24 : decode cX0_draw 24 = .ok (.aload_n 0, 1) := by decide +kernel
theorem dX0_draw_25 : decode cX0_draw 25 = .ok (.getfield 7, 3) := by decide +kernel
theorem dX0_draw_28 : decode cX0_draw 28 = .ok (.bipush 16, 2) := by decide +kernel
theorem dX0_draw_30 : decode cX0_draw 30 = .ok (.iushr, 1) := by decide +kernel
theorem dX0_draw_31 : decode cX0_draw 31 = .ok (.iload_n 1, 1) := by decide +kernel
theorem dX0_draw_32 : decode cX0_draw 32 = .ok (.irem, 1) := by decide +kernel
theorem dX0_draw_33 : decode cX0_draw 33 = .ok (.ireturn, 1) := by decide +kernel
theorem dX1_init_0 : decode cX1_init 0 = .ok (.aload_n 0, 1) := by decide +kernel
theorem dX1_init_1 : decode cX1_init 1 = .ok (.invokespecial 3, 3) := by decide +kernel
theorem dX1_init_4 : decode cX1_init 4 = .ok (.aload_n 0, 1) := by decide +kernel
theorem dX1_init_5 : decode cX1_init 5 = .ok (.bipush 31, 2) := by decide +kernel
theorem dX1_init_7 : decode cX1_init 7 = .ok (.anewarray 9, 3) := by decide +kernel
theorem dX1_init_10 : decode cX1_init 10 = .ok (.putfield 11, 3) := by decide +kernel
theorem dX1_init_13 : decode cX1_init 13 = .ok (.return_, 1) := by decide +kernel
theorem dX1_current_0 : decode cX1_current 0 = .ok (.aload_n 0, 1) := by decide +kernel
theorem dX1_current_1 : decode cX1_current 1 = .ok (.iconst 0, 1) := by decide +kernel
theorem dX1_current_2 : decode cX1_current 2 = .ok (.invokevirtual 17, 3) := by decide +kernel
theorem dX1_current_5 : decode cX1_current 5 = .ok (.areturn, 1) := by decide +kernel
theorem dX1_ago_0 : decode cX1_ago 0 = .ok (.aload_n 0, 1) := by decide +kernel
theorem dX1_ago_1 : decode cX1_ago 1 = .ok (.getfield 21, 3) := by decide +kernel
theorem dX1_ago_4 : decode cX1_ago 4 = .ok (.iload_n 1, 1) := by decide +kernel
theorem dX1_ago_5 : decode cX1_ago 5 = .ok (.isub, 1) := by decide +kernel
theorem dX1_ago_6 : decode cX1_ago 6 = .ok (.bipush 31, 2) := by decide +kernel
theorem dX1_ago_8 : decode cX1_ago 8 = .ok (.invokestatic 25, 3) := by decide +kernel
theorem dX1_ago_11 : decode cX1_ago 11 = .ok (.istore_n 2, 1) := by decide +kernel
theorem dX1_ago_12 : decode cX1_ago 12 = .ok (.aload_n 0, 1) := by decide +kernel
theorem dX1_ago_13 : decode cX1_ago 13 = .ok (.getfield 11, 3) := by decide +kernel
theorem dX1_ago_16 : decode cX1_ago 16 = .ok (.iload_n 2, 1) := by decide +kernel
theorem dX1_ago_17 : decode cX1_ago 17 = .ok (.aaload, 1) := by decide +kernel
theorem dX1_ago_18 : decode cX1_ago 18 = .ok (.ifnonnull 16, 3) := by decide +kernel
theorem dX1_ago_21 : decode cX1_ago 21 = .ok (.aload_n 0, 1) := by decide +kernel
theorem dX1_ago_22 : decode cX1_ago 22 = .ok (.getfield 11, 3) := by decide +kernel
theorem dX1_ago_25 : decode cX1_ago 25 = .ok (.iload_n 2, 1) := by decide +kernel
theorem dX1_ago_26 : decode cX1_ago 26 = .ok (.new 9, 3) := by decide +kernel
theorem dX1_ago_29 : decode cX1_ago 29 = .ok (.dup, 1) := by decide +kernel
theorem dX1_ago_30 : decode cX1_ago 30 = .ok (.invokespecial 31, 3) := by decide +kernel
theorem dX1_ago_33 : decode cX1_ago 33 = .ok (.aastore, 1) := by decide +kernel
theorem dX1_ago_34 : decode cX1_ago 34 = .ok (.aload_n 0, 1) := by decide +kernel
theorem dX1_ago_35 : decode cX1_ago 35 = .ok (.getfield 11, 3) := by decide +kernel
theorem dX1_ago_38 : decode cX1_ago 38 = .ok (.iload_n 2, 1) := by decide +kernel
theorem dX1_ago_39 : decode cX1_ago 39 = .ok (.aaload, 1) := by decide +kernel
theorem dX1_ago_40 : decode cX1_ago 40 = .ok (.areturn, 1) := by decide +kernel
theorem dX1_beginEdit_0 : decode cX1_beginEdit 0 = .ok (.aload_n 0, 1) := by decide +kernel
theorem dX1_beginEdit_1 : decode cX1_beginEdit 1 = .ok (.iconst 0, 1) := by decide +kernel
theorem dX1_beginEdit_2 : decode cX1_beginEdit 2 = .ok (.invokevirtual 17, 3) := by decide +kernel
theorem dX1_beginEdit_5 : decode cX1_beginEdit 5 = .ok (.astore_n 1, 1) := by decide +kernel
theorem dX1_beginEdit_6 : decode cX1_beginEdit 6 = .ok (.aload_n 0, 1) := by decide +kernel
theorem dX1_beginEdit_7 : decode cX1_beginEdit 7 = .ok (.aload_n 0, 1) := by decide +kernel
theorem dX1_beginEdit_8 : decode cX1_beginEdit 8 = .ok (.getfield 21, 3) := by decide +kernel
theorem dX1_beginEdit_11 : decode cX1_beginEdit 11 = .ok (.iconst 1, 1) := by decide +kernel
theorem dX1_beginEdit_12 : decode cX1_beginEdit 12 = .ok (.iadd, 1) := by decide +kernel
theorem dX1_beginEdit_13 : decode cX1_beginEdit 13 = .ok (.bipush 31, 2) := by decide +kernel
theorem dX1_beginEdit_15 : decode cX1_beginEdit 15 = .ok (.irem, 1) := by decide +kernel
theorem dX1_beginEdit_16 : decode cX1_beginEdit 16 = .ok (.putfield 21, 3) := by decide +kernel
theorem dX1_beginEdit_19 : decode cX1_beginEdit 19 = .ok (.aload_n 0, 1) := by decide +kernel
theorem dX1_beginEdit_20 : decode cX1_beginEdit 20 = .ok (.aload_n 0, 1) := by decide +kernel
theorem dX1_beginEdit_21 : decode cX1_beginEdit 21 = .ok (.getfield 32, 3) := by decide +kernel
theorem dX1_beginEdit_24 : decode cX1_beginEdit 24 = .ok (.iconst 1, 1) := by decide +kernel
theorem dX1_beginEdit_25 : decode cX1_beginEdit 25 = .ok (.iadd, 1) := by decide +kernel
theorem dX1_beginEdit_26 : decode cX1_beginEdit 26 = .ok (.bipush 30, 2) := by decide +kernel
theorem dX1_beginEdit_28 : decode cX1_beginEdit 28 = .ok (.invokestatic 35, 3) := by decide +kernel
theorem dX1_beginEdit_31 : decode cX1_beginEdit 31 = .ok (.putfield 32, 3) := by decide +kernel
theorem dX1_beginEdit_34 : decode cX1_beginEdit 34 = .ok (.aload_n 0, 1) := by decide +kernel
theorem dX1_beginEdit_35 : decode cX1_beginEdit 35 = .ok (.iconst 0, 1) := by decide +kernel
theorem dX1_beginEdit_36 : decode cX1_beginEdit 36 = .ok (.putfield 38, 3) := by decide +kernel
theorem dX1_beginEdit_39 : decode cX1_beginEdit 39 = .ok (.aload_n 0, 1) := by decide +kernel
theorem dX1_beginEdit_40 : decode cX1_beginEdit 40 = .ok (.iconst 0, 1) := by decide +kernel
theorem dX1_beginEdit_41 : decode cX1_beginEdit 41 = .ok (.invokevirtual 17, 3) := by decide +kernel
theorem dX1_beginEdit_44 : decode cX1_beginEdit 44 = .ok (.astore_n 2, 1) := by decide +kernel
theorem dX1_beginEdit_45 : decode cX1_beginEdit 45 = .ok (.aload_n 2, 1) := by decide +kernel
theorem dX1_beginEdit_46 : decode cX1_beginEdit 46 = .ok (.aload_n 1, 1) := by decide +kernel
theorem dX1_beginEdit_47 : decode cX1_beginEdit 47 = .ok (.invokevirtual 41, 3) := by decide +kernel
theorem dX1_beginEdit_50 : decode cX1_beginEdit 50 = .ok (.aload_n 2, 1) := by decide +kernel
theorem dX1_beginEdit_51 : decode cX1_beginEdit 51 = .ok (.areturn, 1) := by decide +kernel
theorem dX1_goBack_0 : decode cX1_goBack 0 = .ok (.aload_n 0, 1) := by decide +kernel
theorem dX1_goBack_1 : decode cX1_goBack 1 = .ok (.aload_n 0, 1) := by decide +kernel
theorem dX1_goBack_2 : decode cX1_goBack 2 = .ok (.getfield 21, 3) := by decide +kernel
theorem dX1_goBack_5 : decode cX1_goBack 5 = .ok (.iconst 1, 1) := by decide +kernel
theorem dX1_goBack_6 : decode cX1_goBack 6 = .ok (.isub, 1) := by decide +kernel
theorem dX1_goBack_7 : decode cX1_goBack 7 = .ok (.bipush 31, 2) := by decide +kernel
theorem dX1_goBack_9 : decode cX1_goBack 9 = .ok (.invokestatic 25, 3) := by decide +kernel
theorem dX1_goBack_12 : decode cX1_goBack 12 = .ok (.putfield 21, 3) := by decide +kernel
theorem dX1_goBack_15 : decode cX1_goBack 15 = .ok (.aload_n 0, 1) := by decide +kernel
theorem dX1_goBack_16 : decode cX1_goBack 16 = .ok (.dup, 1) := by decide +kernel
theorem dX1_goBack_17 : decode cX1_goBack 17 = .ok (.getfield 32, 3) := by decide +kernel
theorem dX1_goBack_20 : decode cX1_goBack 20 = .ok (.iconst 1, 1) := by decide +kernel
theorem dX1_goBack_21 : decode cX1_goBack 21 = .ok (.isub, 1) := by decide +kernel
theorem dX1_goBack_22 : decode cX1_goBack 22 = .ok (.putfield 32, 3) := by decide +kernel
theorem dX1_goBack_25 : decode cX1_goBack 25 = .ok (.aload_n 0, 1) := by decide +kernel
theorem dX1_goBack_26 : decode cX1_goBack 26 = .ok (.dup, 1) := by decide +kernel
theorem dX1_goBack_27 : decode cX1_goBack 27 = .ok (.getfield 38, 3) := by decide +kernel
theorem dX1_goBack_30 : decode cX1_goBack 30 = .ok (.iconst 1, 1) := by decide +kernel
theorem dX1_goBack_31 : decode cX1_goBack 31 = .ok (.iadd, 1) := by decide +kernel
theorem dX1_goBack_32 : decode cX1_goBack 32 = .ok (.putfield 38, 3) := by decide +kernel
theorem dX1_goBack_35 : decode cX1_goBack 35 = .ok (.return_, 1) := by decide +kernel
theorem dX1_goOn_0 : decode cX1_goOn 0 = .ok (.aload_n 0, 1) := by decide +kernel
theorem dX1_goOn_1 : decode cX1_goOn 1 = .ok (.aload_n 0, 1) := by decide +kernel
theorem dX1_goOn_2 : decode cX1_goOn 2 = .ok (.getfield 21, 3) := by decide +kernel
theorem dX1_goOn_5 : decode cX1_goOn 5 = .ok (.iconst 1, 1) := by decide +kernel
theorem dX1_goOn_6 : decode cX1_goOn 6 = .ok (.iadd, 1) := by decide +kernel
theorem dX1_goOn_7 : decode cX1_goOn 7 = .ok (.bipush 31, 2) := by decide +kernel
theorem dX1_goOn_9 : decode cX1_goOn 9 = .ok (.irem, 1) := by decide +kernel
theorem dX1_goOn_10 : decode cX1_goOn 10 = .ok (.putfield 21, 3) := by decide +kernel
theorem dX1_goOn_13 : decode cX1_goOn 13 = .ok (.aload_n 0, 1) := by decide +kernel
theorem dX1_goOn_14 : decode cX1_goOn 14 = .ok (.dup, 1) := by decide +kernel
theorem dX1_goOn_15 : decode cX1_goOn 15 = .ok (.getfield 32, 3) := by decide +kernel
theorem dX1_goOn_18 : decode cX1_goOn 18 = .ok (.iconst 1, 1) := by decide +kernel
theorem dX1_goOn_19 : decode cX1_goOn 19 = .ok (.iadd, 1) := by decide +kernel
theorem dX1_goOn_20 : decode cX1_goOn 20 = .ok (.putfield 32, 3) := by decide +kernel
theorem dX1_goOn_23 : decode cX1_goOn 23 = .ok (.aload_n 0, 1) := by decide +kernel
theorem dX1_goOn_24 : decode cX1_goOn 24 = .ok (.dup, 1) := by decide +kernel
theorem dX1_goOn_25 : decode cX1_goOn 25 = .ok (.getfield 38, 3) := by decide +kernel
theorem dX1_goOn_28 : decode cX1_goOn 28 = .ok (.iconst 1, 1) := by decide +kernel
theorem dX1_goOn_29 : decode cX1_goOn 29 = .ok (.isub, 1) := by decide +kernel
theorem dX1_goOn_30 : decode cX1_goOn 30 = .ok (.putfield 38, 3) := by decide +kernel
theorem dX1_goOn_33 : decode cX1_goOn 33 = .ok (.return_, 1) := by decide +kernel
theorem dX1_forget_0 : decode cX1_forget 0 = .ok (.aload_n 0, 1) := by decide +kernel
theorem dX1_forget_1 : decode cX1_forget 1 = .ok (.iconst 0, 1) := by decide +kernel
theorem dX1_forget_2 : decode cX1_forget 2 = .ok (.putfield 32, 3) := by decide +kernel
theorem dX1_forget_5 : decode cX1_forget 5 = .ok (.aload_n 0, 1) := by decide +kernel
theorem dX1_forget_6 : decode cX1_forget 6 = .ok (.iconst 0, 1) := by decide +kernel
theorem dX1_forget_7 : decode cX1_forget 7 = .ok (.putfield 38, 3) := by decide +kernel
theorem dX1_forget_10 : decode cX1_forget 10 = .ok (.return_, 1) := by decide +kernel
theorem dX2_init_0 : decode cX2_init 0 = .ok (.aload_n 0, 1) := by decide +kernel
theorem dX2_init_1 : decode cX2_init 1 = .ok (.invokespecial 3, 3) := by decide +kernel
theorem dX2_init_4 : decode cX2_init 4 = .ok (.aload_n 0, 1) := by decide +kernel
theorem dX2_init_5 : decode cX2_init 5 = .ok (.bipush 16, 2) := by decide +kernel
theorem dX2_init_7 : decode cX2_init 7 = .ok (.newarray .int, 2) := by decide +kernel
theorem dX2_init_9 : decode cX2_init 9 = .ok (.putfield 9, 3) := by decide +kernel
theorem dX2_init_12 : decode cX2_init 12 = .ok (.aload_n 0, 1) := by decide +kernel
theorem dX2_init_13 : decode cX2_init 13 = .ok (.bipush 16, 2) := by decide +kernel
theorem dX2_init_15 : decode cX2_init 15 = .ok (.newarray .int, 2) := by decide +kernel
theorem dX2_init_17 : decode cX2_init 17 = .ok (.putfield 15, 3) := by decide +kernel
theorem dX2_init_20 : decode cX2_init 20 = .ok (.aload_n 0, 1) := by decide +kernel
theorem dX2_init_21 : decode cX2_init 21 = .ok (.bipush 8, 2) := by decide +kernel
theorem dX2_init_23 : decode cX2_init 23 = .ok (.newarray .int, 2) := by decide +kernel
theorem dX2_init_25 : decode cX2_init 25 = .ok (.putfield 18, 3) := by decide +kernel
theorem dX2_init_28 : decode cX2_init 28 = .ok (.aload_n 0, 1) := by decide +kernel
theorem dX2_init_29 : decode cX2_init 29 = .ok (.bipush 8, 2) := by decide +kernel
theorem dX2_init_31 : decode cX2_init 31 = .ok (.newarray .boolean, 2) := by decide +kernel
theorem dX2_init_33 : decode cX2_init 33 = .ok (.putfield 21, 3) := by decide +kernel
theorem dX2_init_36 : decode cX2_init 36 = .ok (.aload_n 0, 1) := by decide +kernel
theorem dX2_init_37 : decode cX2_init 37 = .ok (.getfield 18, 3) := by decide +kernel
theorem dX2_init_40 : decode cX2_init 40 = .ok (.iconst (-1), 1) := by decide +kernel
theorem dX2_init_41 : decode cX2_init 41 = .ok (.invokestatic 25, 3) := by decide +kernel
theorem dX2_init_44 : decode cX2_init 44 = .ok (.return_, 1) := by decide +kernel
theorem dX2_clear_0 : decode cX2_clear 0 = .ok (.aload_n 0, 1) := by decide +kernel
theorem dX2_clear_1 : decode cX2_clear 1 = .ok (.iconst 0, 1) := by decide +kernel
theorem dX2_clear_2 : decode cX2_clear 2 = .ok (.putfield 31, 3) := by decide +kernel
theorem dX2_clear_5 : decode cX2_clear 5 = .ok (.aload_n 0, 1) := by decide +kernel
theorem dX2_clear_6 : decode cX2_clear 6 = .ok (.iconst 0, 1) := by decide +kernel
theorem dX2_clear_7 : decode cX2_clear 7 = .ok (.putfield 35, 3) := by decide +kernel
theorem dX2_clear_10 : decode cX2_clear 10 = .ok (.aload_n 0, 1) := by decide +kernel
theorem dX2_clear_11 : decode cX2_clear 11 = .ok (.getfield 18, 3) := by decide +kernel
theorem dX2_clear_14 : decode cX2_clear 14 = .ok (.iconst (-1), 1) := by decide +kernel
theorem dX2_clear_15 : decode cX2_clear 15 = .ok (.invokestatic 25, 3) := by decide +kernel
theorem dX2_clear_18 : decode cX2_clear 18 = .ok (.return_, 1) := by decide +kernel
theorem dX2_become_0 : decode cX2_become 0 = .ok (.aload_n 0, 1) := by decide +kernel
theorem dX2_become_1 : decode cX2_become 1 = .ok (.iconst 0, 1) := by decide +kernel
theorem dX2_become_2 : decode cX2_become 2 = .ok (.putfield 31, 3) := by decide +kernel
theorem dX2_become_5 : decode cX2_become 5 = .ok (.aload_n 0, 1) := by decide +kernel
theorem dX2_become_6 : decode cX2_become 6 = .ok (.iconst 0, 1) := by decide +kernel
theorem dX2_become_7 : decode cX2_become 7 = .ok (.aload_n 1, 1) := by decide +kernel
theorem dX2_become_8 : decode cX2_become 8 = .ok (.getfield 31, 3) := by decide +kernel
theorem dX2_become_11 : decode cX2_become 11 = .ok (.invokevirtual 38, 3) := by decide +kernel
theorem dX2_become_14 : decode cX2_become 14 = .ok (.aload_n 1, 1) := by decide +kernel
theorem dX2_become_15 : decode cX2_become 15 = .ok (.getfield 9, 3) := by decide +kernel
theorem dX2_become_18 : decode cX2_become 18 = .ok (.iconst 0, 1) := by decide +kernel
theorem dX2_become_19 : decode cX2_become 19 = .ok (.aload_n 0, 1) := by decide +kernel
theorem dX2_become_20 : decode cX2_become 20 = .ok (.getfield 9, 3) := by decide +kernel
theorem dX2_become_23 : decode cX2_become 23 = .ok (.iconst 0, 1) := by decide +kernel
theorem dX2_become_24 : decode cX2_become 24 = .ok (.aload_n 1, 1) := by decide +kernel
theorem dX2_become_25 : decode cX2_become 25 = .ok (.getfield 31, 3) := by decide +kernel
theorem dX2_become_28 : decode cX2_become 28 = .ok (.invokestatic 42, 3) := by decide +kernel
theorem dX2_become_31 : decode cX2_become 31 = .ok (.aload_n 1, 1) := by decide +kernel
theorem dX2_become_32 : decode cX2_become 32 = .ok (.getfield 15, 3) := by decide +kernel
theorem dX2_become_35 : decode cX2_become 35 = .ok (.iconst 0, 1) := by decide +kernel
theorem dX2_become_36 : decode cX2_become 36 = .ok (.aload_n 0, 1) := by decide +kernel
theorem dX2_become_37 : decode cX2_become 37 = .ok (.getfield 15, 3) := by decide +kernel
theorem dX2_become_40 : decode cX2_become 40 = .ok (.iconst 0, 1) := by decide +kernel
theorem dX2_become_41 : decode cX2_become 41 = .ok (.aload_n 1, 1) := by decide +kernel
theorem dX2_become_42 : decode cX2_become 42 = .ok (.getfield 31, 3) := by decide +kernel
theorem dX2_become_45 : decode cX2_become 45 = .ok (.invokestatic 42, 3) := by decide +kernel
theorem dX2_become_48 : decode cX2_become 48 = .ok (.aload_n 0, 1) := by decide +kernel
theorem dX2_become_49 : decode cX2_become 49 = .ok (.aload_n 1, 1) := by decide +kernel
theorem dX2_become_50 : decode cX2_become 50 = .ok (.getfield 35, 3) := by decide +kernel
theorem dX2_become_53 : decode cX2_become 53 = .ok (.putfield 35, 3) := by decide +kernel
theorem dX2_become_56 : decode cX2_become 56 = .ok (.iconst 0, 1) := by decide +kernel
theorem dX2_become_57 : decode cX2_become 57 = .ok (.istore_n 2, 1) := by decide +kernel
theorem dX2_become_58 : decode cX2_become 58 = .ok (.iload_n 2, 1) := by decide +kernel
theorem dX2_become_59 : decode cX2_become 59 = .ok (.bipush 8, 2) := by decide +kernel
theorem dX2_become_61 : decode cX2_become 61 = .ok (.if_icmp .ge 33, 3) := by decide +kernel
theorem dX2_become_64 : decode cX2_become 64 = .ok (.aload_n 0, 1) := by decide +kernel
theorem dX2_become_65 : decode cX2_become 65 = .ok (.getfield 18, 3) := by decide +kernel
theorem dX2_become_68 : decode cX2_become 68 = .ok (.iload_n 2, 1) := by decide +kernel
theorem dX2_become_69 : decode cX2_become 69 = .ok (.aload_n 1, 1) := by decide +kernel
theorem dX2_become_70 : decode cX2_become 70 = .ok (.getfield 18, 3) := by decide +kernel
theorem dX2_become_73 : decode cX2_become 73 = .ok (.iload_n 2, 1) := by decide +kernel
theorem dX2_become_74 : decode cX2_become 74 = .ok (.iaload, 1) := by decide +kernel
theorem dX2_become_75 : decode cX2_become 75 = .ok (.iastore, 1) := by decide +kernel
theorem dX2_become_76 : decode cX2_become 76 = .ok (.aload_n 0, 1) := by decide +kernel
theorem dX2_become_77 : decode cX2_become 77 = .ok (.getfield 21, 3) := by decide +kernel
theorem dX2_become_80 : decode cX2_become 80 = .ok (.iload_n 2, 1) := by decide +kernel
theorem dX2_become_81 : decode cX2_become 81 = .ok (.aload_n 1, 1) := by decide +kernel
theorem dX2_become_82 : decode cX2_become 82 = .ok (.getfield 21, 3) := by decide +kernel
theorem dX2_become_85 : decode cX2_become 85 = .ok (.iload_n 2, 1) := by decide +kernel
theorem dX2_become_86 : decode cX2_become 86 = .ok (.baload, 1) := by decide +kernel
theorem dX2_become_87 : decode cX2_become 87 = .ok (.bastore, 1) := by decide +kernel
theorem dX2_become_88 : decode cX2_become 88 = .ok (.iinc 2 1, 3) := by decide +kernel
theorem dX2_become_91 : decode cX2_become 91 = .ok (.goto (-33), 3) := by decide +kernel
theorem dX2_become_94 : decode cX2_become 94 = .ok (.return_, 1) := by decide +kernel
theorem dX2_addPiece_0 : decode cX2_addPiece 0 = .ok (.aload_n 0, 1) := by decide +kernel
theorem dX2_addPiece_1 : decode cX2_addPiece 1 = .ok (.aload_n 0, 1) := by decide +kernel
theorem dX2_addPiece_2 : decode cX2_addPiece 2 = .ok (.getfield 31, 3) := by decide +kernel
theorem dX2_addPiece_5 : decode cX2_addPiece 5 = .ok (.iconst 1, 1) := by decide +kernel
theorem dX2_addPiece_6 : decode cX2_addPiece 6 = .ok (.invokevirtual 38, 3) := by decide +kernel
theorem dX2_addPiece_9 : decode cX2_addPiece 9 = .ok (.aload_n 0, 1) := by decide +kernel
theorem dX2_addPiece_10 : decode cX2_addPiece 10 = .ok (.getfield 9, 3) := by decide +kernel
theorem dX2_addPiece_13 : decode cX2_addPiece 13 = .ok (.aload_n 0, 1) := by decide +kernel
theorem dX2_addPiece_14 : decode cX2_addPiece 14 = .ok (.getfield 31, 3) := by decide +kernel
theorem dX2_addPiece_17 : decode cX2_addPiece 17 = .ok (.iconst 1, 1) := by decide +kernel
theorem dX2_addPiece_18 : decode cX2_addPiece 18 = .ok (.isub, 1) := by decide +kernel
theorem dX2_addPiece_19 : decode cX2_addPiece 19 = .ok (.iload_n 1, 1) := by decide +kernel
theorem dX2_addPiece_20 : decode cX2_addPiece 20 = .ok (.iastore, 1) := by decide +kernel
theorem dX2_addPiece_21 : decode cX2_addPiece 21 = .ok (.aload_n 0, 1) := by decide +kernel
theorem dX2_addPiece_22 : decode cX2_addPiece 22 = .ok (.getfield 15, 3) := by decide +kernel
theorem dX2_addPiece_25 : decode cX2_addPiece 25 = .ok (.aload_n 0, 1) := by decide +kernel
theorem dX2_addPiece_26 : decode cX2_addPiece 26 = .ok (.getfield 31, 3) := by decide +kernel
theorem dX2_addPiece_29 : decode cX2_addPiece 29 = .ok (.iconst 1, 1) := by decide +kernel
theorem dX2_addPiece_30 : decode cX2_addPiece 30 = .ok (.isub, 1) := by decide +kernel
theorem dX2_addPiece_31 : decode cX2_addPiece 31 = .ok (.iload_n 2, 1) := by decide +kernel
theorem dX2_addPiece_32 : decode cX2_addPiece 32 = .ok (.iastore, 1) := by decide +kernel
theorem dX2_addPiece_33 : decode cX2_addPiece 33 = .ok (.aload_n 0, 1) := by decide +kernel
theorem dX2_addPiece_34 : decode cX2_addPiece 34 = .ok (.dup, 1) := by decide +kernel
theorem dX2_addPiece_35 : decode cX2_addPiece 35 = .ok (.getfield 35, 3) := by decide +kernel
theorem dX2_addPiece_38 : decode cX2_addPiece 38 = .ok (.iload_n 2, 1) := by decide +kernel
theorem dX2_addPiece_39 : decode cX2_addPiece 39 = .ok (.iadd, 1) := by decide +kernel
theorem dX2_addPiece_40 : decode cX2_addPiece 40 = .ok (.putfield 35, 3) := by decide +kernel
theorem dX2_addPiece_43 : decode cX2_addPiece 43 = .ok (.return_, 1) := by decide +kernel
theorem dX2_openGap_0 : decode cX2_openGap 0 = .ok (.aload_n 0, 1) := by decide +kernel
theorem dX2_openGap_1 : decode cX2_openGap 1 = .ok (.getfield 31, 3) := by decide +kernel
theorem dX2_openGap_4 : decode cX2_openGap 4 = .ok (.iload_n 2, 1) := by decide +kernel
theorem dX2_openGap_5 : decode cX2_openGap 5 = .ok (.iadd, 1) := by decide +kernel
theorem dX2_openGap_6 : decode cX2_openGap 6 = .ok (.istore_n 3, 1) := by decide +kernel
theorem dX2_openGap_7 : decode cX2_openGap 7 = .ok (.iload_n 3, 1) := by decide +kernel
theorem dX2_openGap_8 : decode cX2_openGap 8 = .ok (.aload_n 0, 1) := by decide +kernel
theorem dX2_openGap_9 : decode cX2_openGap 9 = .ok (.getfield 9, 3) := by decide +kernel
theorem dX2_openGap_12 : decode cX2_openGap 12 = .ok (.arraylength, 1) := by decide +kernel
theorem dX2_openGap_13 : decode cX2_openGap 13 = .ok (.if_icmp .le 48, 3) := by decide +kernel
theorem dX2_openGap_16 : decode cX2_openGap 16 = .ok (.iload_n 3, 1) := by decide +kernel
theorem dX2_openGap_17 : decode cX2_openGap 17 = .ok (.iconst 2, 1) := by decide +kernel
theorem dX2_openGap_18 : decode cX2_openGap 18 = .ok (.aload_n 0, 1) := by decide +kernel
theorem dX2_openGap_19 : decode cX2_openGap 19 = .ok (.getfield 9, 3) := by decide +kernel
theorem dX2_openGap_22 : decode cX2_openGap 22 = .ok (.arraylength, 1) := by decide +kernel
theorem dX2_openGap_23 : decode cX2_openGap 23 = .ok (.imul, 1) := by decide +kernel
theorem dX2_openGap_24 : decode cX2_openGap 24 = .ok (.sipush 3000, 3) := by decide +kernel
theorem dX2_openGap_27 : decode cX2_openGap 27 = .ok (.invokestatic 48, 3) := by decide +kernel
theorem dX2_openGap_30 : decode cX2_openGap 30 = .ok (.invokestatic 54, 3) := by decide +kernel
theorem dX2_openGap_33 : decode cX2_openGap 33 = .ok (.istore 4, 2) := by decide +kernel
theorem dX2_openGap_35 : decode cX2_openGap 35 = .ok (.aload_n 0, 1) := by decide +kernel
theorem dX2_openGap_36 : decode cX2_openGap 36 = .ok (.aload_n 0, 1) := by decide +kernel
theorem dX2_openGap_37 : decode cX2_openGap 37 = .ok (.getfield 9, 3) := by decide +kernel
theorem dX2_openGap_40 : decode cX2_openGap 40 = .ok (.iload 4, 2) := by decide +kernel
theorem dX2_openGap_42 : decode cX2_openGap 42 = .ok (.invokestatic 57, 3) := by decide +kernel
theorem dX2_openGap_45 : decode cX2_openGap 45 = .ok (.putfield 9, 3) := by decide +kernel
theorem dX2_openGap_48 : decode cX2_openGap 48 = .ok (.aload_n 0, 1) := by decide +kernel
theorem dX2_openGap_49 : decode cX2_openGap 49 = .ok (.aload_n 0, 1) := by decide +kernel
theorem dX2_openGap_50 : decode cX2_openGap 50 = .ok (.getfield 15, 3) := by decide +kernel
theorem dX2_openGap_53 : decode cX2_openGap 53 = .ok (.iload 4, 2) := by decide +kernel
theorem dX2_openGap_55 : decode cX2_openGap 55 = .ok (.invokestatic 57, 3) := by decide +kernel
theorem dX2_openGap_58 : decode cX2_openGap 58 = .ok (.putfield 15, 3) := by decide +kernel
theorem dX2_openGap_61 : decode cX2_openGap 61 = .ok (.aload_n 0, 1) := by decide +kernel
theorem dX2_openGap_62 : decode cX2_openGap 62 = .ok (.getfield 9, 3) := by decide +kernel
theorem dX2_openGap_65 : decode cX2_openGap 65 = .ok (.iload_n 1, 1) := by decide +kernel
theorem dX2_openGap_66 : decode cX2_openGap 66 = .ok (.aload_n 0, 1) := by decide +kernel
theorem dX2_openGap_67 : decode cX2_openGap 67 = .ok (.getfield 9, 3) := by decide +kernel
theorem dX2_openGap_70 : decode cX2_openGap 70 = .ok (.iload_n 1, 1) := by decide +kernel
theorem dX2_openGap_71 : decode cX2_openGap 71 = .ok (.iload_n 2, 1) := by decide +kernel
theorem dX2_openGap_72 : decode cX2_openGap 72 = .ok (.iadd, 1) := by decide +kernel
theorem dX2_openGap_73 : decode cX2_openGap 73 = .ok (.aload_n 0, 1) := by decide +kernel
theorem dX2_openGap_74 : decode cX2_openGap 74 = .ok (.getfield 31, 3) := by decide +kernel
theorem dX2_openGap_77 : decode cX2_openGap 77 = .ok (.iload_n 1, 1) := by decide +kernel
theorem dX2_openGap_78 : decode cX2_openGap 78 = .ok (.isub, 1) := by decide +kernel
theorem dX2_openGap_79 : decode cX2_openGap 79 = .ok (.invokestatic 42, 3) := by decide +kernel
theorem dX2_openGap_82 : decode cX2_openGap 82 = .ok (.aload_n 0, 1) := by decide +kernel
theorem dX2_openGap_83 : decode cX2_openGap 83 = .ok (.getfield 15, 3) := by decide +kernel
theorem dX2_openGap_86 : decode cX2_openGap 86 = .ok (.iload_n 1, 1) := by decide +kernel
theorem dX2_openGap_87 : decode cX2_openGap 87 = .ok (.aload_n 0, 1) := by decide +kernel
theorem dX2_openGap_88 : decode cX2_openGap 88 = .ok (.getfield 15, 3) := by decide +kernel
theorem dX2_openGap_91 : decode cX2_openGap 91 = .ok (.iload_n 1, 1) := by decide +kernel
theorem dX2_openGap_92 : decode cX2_openGap 92 = .ok (.iload_n 2, 1) := by decide +kernel
theorem dX2_openGap_93 : decode cX2_openGap 93 = .ok (.iadd, 1) := by decide +kernel
theorem dX2_openGap_94 : decode cX2_openGap 94 = .ok (.aload_n 0, 1) := by decide +kernel
theorem dX2_openGap_95 : decode cX2_openGap 95 = .ok (.getfield 31, 3) := by decide +kernel
theorem dX2_openGap_98 : decode cX2_openGap 98 = .ok (.iload_n 1, 1) := by decide +kernel
theorem dX2_openGap_99 : decode cX2_openGap 99 = .ok (.isub, 1) := by decide +kernel
theorem dX2_openGap_100 : decode cX2_openGap 100 = .ok (.invokestatic 42, 3) := by decide +kernel
theorem dX2_openGap_103 : decode cX2_openGap 103 = .ok (.aload_n 0, 1) := by decide +kernel
theorem dX2_openGap_104 : decode cX2_openGap 104 = .ok (.iload_n 3, 1) := by decide +kernel
theorem dX2_openGap_105 : decode cX2_openGap 105 = .ok (.putfield 31, 3) := by decide +kernel
theorem dX2_openGap_108 : decode cX2_openGap 108 = .ok (.return_, 1) := by decide +kernel
theorem dX2_closeGap_0 : decode cX2_closeGap 0 = .ok (.aload_n 0, 1) := by decide +kernel
theorem dX2_closeGap_1 : decode cX2_closeGap 1 = .ok (.getfield 9, 3) := by decide +kernel
theorem dX2_closeGap_4 : decode cX2_closeGap 4 = .ok (.iload_n 1, 1) := by decide +kernel
theorem dX2_closeGap_5 : decode cX2_closeGap 5 = .ok (.iload_n 2, 1) := by decide +kernel
theorem dX2_closeGap_6 : decode cX2_closeGap 6 = .ok (.iadd, 1) := by decide +kernel
theorem dX2_closeGap_7 : decode cX2_closeGap 7 = .ok (.aload_n 0, 1) := by decide +kernel
theorem dX2_closeGap_8 : decode cX2_closeGap 8 = .ok (.getfield 9, 3) := by decide +kernel
theorem dX2_closeGap_11 : decode cX2_closeGap 11 = .ok (.iload_n 1, 1) := by decide +kernel
theorem dX2_closeGap_12 : decode cX2_closeGap 12 = .ok (.aload_n 0, 1) := by decide +kernel
theorem dX2_closeGap_13 : decode cX2_closeGap 13 = .ok (.getfield 31, 3) := by decide +kernel
theorem dX2_closeGap_16 : decode cX2_closeGap 16 = .ok (.iload_n 1, 1) := by decide +kernel
theorem dX2_closeGap_17 : decode cX2_closeGap 17 = .ok (.isub, 1) := by decide +kernel
theorem dX2_closeGap_18 : decode cX2_closeGap 18 = .ok (.iload_n 2, 1) := by decide +kernel
theorem dX2_closeGap_19 : decode cX2_closeGap 19 = .ok (.isub, 1) := by decide +kernel
theorem dX2_closeGap_20 : decode cX2_closeGap 20 = .ok (.invokestatic 42, 3) := by decide +kernel
theorem dX2_closeGap_23 : decode cX2_closeGap 23 = .ok (.aload_n 0, 1) := by decide +kernel
theorem dX2_closeGap_24 : decode cX2_closeGap 24 = .ok (.getfield 15, 3) := by decide +kernel
theorem dX2_closeGap_27 : decode cX2_closeGap 27 = .ok (.iload_n 1, 1) := by decide +kernel
theorem dX2_closeGap_28 : decode cX2_closeGap 28 = .ok (.iload_n 2, 1) := by decide +kernel
theorem dX2_closeGap_29 : decode cX2_closeGap 29 = .ok (.iadd, 1) := by decide +kernel
theorem dX2_closeGap_30 : decode cX2_closeGap 30 = .ok (.aload_n 0, 1) := by decide +kernel
theorem dX2_closeGap_31 : decode cX2_closeGap 31 = .ok (.getfield 15, 3) := by decide +kernel
theorem dX2_closeGap_34 : decode cX2_closeGap 34 = .ok (.iload_n 1, 1) := by decide +kernel
theorem dX2_closeGap_35 : decode cX2_closeGap 35 = .ok (.aload_n 0, 1) := by decide +kernel
theorem dX2_closeGap_36 : decode cX2_closeGap 36 = .ok (.getfield 31, 3) := by decide +kernel
theorem dX2_closeGap_39 : decode cX2_closeGap 39 = .ok (.iload_n 1, 1) := by decide +kernel
theorem dX2_closeGap_40 : decode cX2_closeGap 40 = .ok (.isub, 1) := by decide +kernel
theorem dX2_closeGap_41 : decode cX2_closeGap 41 = .ok (.iload_n 2, 1) := by decide +kernel
theorem dX2_closeGap_42 : decode cX2_closeGap 42 = .ok (.isub, 1) := by decide +kernel
theorem dX2_closeGap_43 : decode cX2_closeGap 43 = .ok (.invokestatic 42, 3) := by decide +kernel
theorem dX2_closeGap_46 : decode cX2_closeGap 46 = .ok (.aload_n 0, 1) := by decide +kernel
theorem dX2_closeGap_47 : decode cX2_closeGap 47 = .ok (.dup, 1) := by decide +kernel
theorem dX2_closeGap_48 : decode cX2_closeGap 48 = .ok (.getfield 31, 3) := by decide +kernel
theorem dX2_closeGap_51 : decode cX2_closeGap 51 = .ok (.iload_n 2, 1) := by decide +kernel
theorem dX2_closeGap_52 : decode cX2_closeGap 52 = .ok (.isub, 1) := by decide +kernel
theorem dX2_closeGap_53 : decode cX2_closeGap 53 = .ok (.putfield 31, 3) := by decide +kernel
theorem dX2_closeGap_56 : decode cX2_closeGap 56 = .ok (.return_, 1) := by decide +kernel
theorem dX2_cutAt_0 : decode cX2_cutAt 0 = .ok (.iconst 0, 1) := by decide +kernel
theorem dX2_cutAt_1 : decode cX2_cutAt 1 = .ok (.istore_n 2, 1) := by decide +kernel
theorem dX2_cutAt_2 : decode cX2_cutAt 2 = .ok (.iconst 0, 1) := by decide +kernel
theorem dX2_cutAt_3 : decode cX2_cutAt 3 = .ok (.istore_n 3, 1) := by decide +kernel
theorem dX2_cutAt_4 : decode cX2_cutAt 4 = .ok (.iload_n 3, 1) := by decide +kernel
theorem dX2_cutAt_5 : decode cX2_cutAt 5 = .ok (.aload_n 0, 1) := by decide +kernel
theorem dX2_cutAt_6 : decode cX2_cutAt 6 = .ok (.getfield 31, 3) := by decide +kernel
theorem dX2_cutAt_9 : decode cX2_cutAt 9 = .ok (.if_icmp .ge 89, 3) := by decide +kernel
theorem dX2_cutAt_12 : decode cX2_cutAt 12 = .ok (.iload_n 2, 1) := by decide +kernel
theorem dX2_cutAt_13 : decode cX2_cutAt 13 = .ok (.iload_n 1, 1) := by decide +kernel
theorem dX2_cutAt_14 : decode cX2_cutAt 14 = .ok (.if_icmp .lt 5, 3) := by decide +kernel
theorem dX2_cutAt_17 : decode cX2_cutAt 17 = .ok (.iload_n 3, 1) := by decide +kernel
theorem dX2_cutAt_18 : decode cX2_cutAt 18 = .ok (.ireturn, 1) := by decide +kernel
theorem dX2_cutAt_19 : decode cX2_cutAt 19 = .ok (.iload_n 1, 1) := by decide +kernel
theorem dX2_cutAt_20 : decode cX2_cutAt 20 = .ok (.iload_n 2, 1) := by decide +kernel
theorem dX2_cutAt_21 : decode cX2_cutAt 21 = .ok (.isub, 1) := by decide +kernel
theorem dX2_cutAt_22 : decode cX2_cutAt 22 = .ok (.istore 4, 2) := by decide +kernel
theorem dX2_cutAt_24 : decode cX2_cutAt 24 = .ok (.iload_n 2, 1) := by decide +kernel
theorem dX2_cutAt_25 : decode cX2_cutAt 25 = .ok (.aload_n 0, 1) := by decide +kernel
theorem dX2_cutAt_26 : decode cX2_cutAt 26 = .ok (.getfield 15, 3) := by decide +kernel
theorem dX2_cutAt_29 : decode cX2_cutAt 29 = .ok (.iload_n 3, 1) := by decide +kernel
theorem dX2_cutAt_30 : decode cX2_cutAt 30 = .ok (.iaload, 1) := by decide +kernel
theorem dX2_cutAt_31 : decode cX2_cutAt 31 = .ok (.iadd, 1) := by decide +kernel
theorem dX2_cutAt_32 : decode cX2_cutAt 32 = .ok (.istore_n 2, 1) := by decide +kernel
theorem dX2_cutAt_33 : decode cX2_cutAt 33 = .ok (.iload_n 2, 1) := by decide +kernel
theorem dX2_cutAt_34 : decode cX2_cutAt 34 = .ok (.iload_n 1, 1) := by decide +kernel
theorem dX2_cutAt_35 : decode cX2_cutAt 35 = .ok (.if_icmp .le 57, 3) := by decide +kernel
theorem dX2_cutAt_38 : decode cX2_cutAt 38 = .ok (.aload_n 0, 1) := by decide +kernel
theorem dX2_cutAt_39 : decode cX2_cutAt 39 = .ok (.iload_n 3, 1) := by decide +kernel
theorem dX2_cutAt_40 : decode cX2_cutAt 40 = .ok (.iconst 1, 1) := by decide +kernel
theorem dX2_cutAt_41 : decode cX2_cutAt 41 = .ok (.iadd, 1) := by decide +kernel
theorem dX2_cutAt_42 : decode cX2_cutAt 42 = .ok (.iconst 1, 1) := by decide +kernel
theorem dX2_cutAt_43 : decode cX2_cutAt 43 = .ok (.invokevirtual 38, 3) := by decide +kernel
theorem dX2_cutAt_46 : decode cX2_cutAt 46 = .ok (.aload_n 0, 1) := by decide +kernel
theorem dX2_cutAt_47 : decode cX2_cutAt 47 = .ok (.getfield 9, 3) := by decide +kernel
theorem dX2_cutAt_50 : decode cX2_cutAt 50 = .ok (.iload_n 3, 1) := by decide +kernel
theorem dX2_cutAt_51 : decode cX2_cutAt 51 = .ok (.iconst 1, 1) := by decide +kernel
theorem dX2_cutAt_52 : decode cX2_cutAt 52 = .ok (.iadd, 1) := by decide +kernel
theorem dX2_cutAt_53 : decode cX2_cutAt 53 = .ok (.aload_n 0, 1) := by decide +kernel
theorem dX2_cutAt_54 : decode cX2_cutAt 54 = .ok (.getfield 9, 3) := by decide +kernel
theorem dX2_cutAt_57 : decode cX2_cutAt 57 = .ok (.iload_n 3, 1) := by decide +kernel
theorem dX2_cutAt_58 : decode cX2_cutAt 58 = .ok (.iaload, 1) := by decide +kernel
theorem dX2_cutAt_59 : decode cX2_cutAt 59 = .ok (.iload 4, 2) := by decide +kernel
theorem dX2_cutAt_61 : decode cX2_cutAt 61 = .ok (.iadd, 1) := by decide +kernel
theorem dX2_cutAt_62 : decode cX2_cutAt 62 = .ok (.iastore, 1) := by decide +kernel
theorem dX2_cutAt_63 : decode cX2_cutAt 63 = .ok (.aload_n 0, 1) := by decide +kernel
theorem dX2_cutAt_64 : decode cX2_cutAt 64 = .ok (.getfield 15, 3) := by decide +kernel
theorem dX2_cutAt_67 : decode cX2_cutAt 67 = .ok (.iload_n 3, 1) := by decide +kernel
theorem dX2_cutAt_68 : decode cX2_cutAt 68 = .ok (.iconst 1, 1) := by decide +kernel
theorem dX2_cutAt_69 : decode cX2_cutAt 69 = .ok (.iadd, 1) := by decide +kernel
theorem dX2_cutAt_70 : decode cX2_cutAt 70 = .ok (.aload_n 0, 1) := by decide +kernel
theorem dX2_cutAt_71 : decode cX2_cutAt 71 = .ok (.getfield 15, 3) := by decide +kernel
theorem dX2_cutAt_74 : decode cX2_cutAt 74 = .ok (.iload_n 3, 1) := by decide +kernel
theorem dX2_cutAt_75 : decode cX2_cutAt 75 = .ok (.iaload, 1) := by decide +kernel
theorem dX2_cutAt_76 : decode cX2_cutAt 76 = .ok (.iload 4, 2) := by decide +kernel
theorem dX2_cutAt_78 : decode cX2_cutAt 78 = .ok (.isub, 1) := by decide +kernel
theorem dX2_cutAt_79 : decode cX2_cutAt 79 = .ok (.iastore, 1) := by decide +kernel
theorem dX2_cutAt_80 : decode cX2_cutAt 80 = .ok (.aload_n 0, 1) := by decide +kernel
theorem dX2_cutAt_81 : decode cX2_cutAt 81 = .ok (.getfield 15, 3) := by decide +kernel
theorem dX2_cutAt_84 : decode cX2_cutAt 84 = .ok (.iload_n 3, 1) := by decide +kernel
theorem dX2_cutAt_85 : decode cX2_cutAt 85 = .ok (.iload 4, 2) := by decide +kernel
theorem dX2_cutAt_87 : decode cX2_cutAt 87 = .ok (.iastore, 1) := by decide +kernel
theorem dX2_cutAt_88 : decode cX2_cutAt 88 = .ok (.iload_n 3, 1) := by decide +kernel
theorem dX2_cutAt_89 : decode cX2_cutAt 89 = .ok (.iconst 1, 1) := by decide +kernel
theorem dX2_cutAt_90 : decode cX2_cutAt 90 = .ok (.iadd, 1) := by decide +kernel
theorem dX2_cutAt_91 : decode cX2_cutAt 91 = .ok (.ireturn, 1) := by decide +kernel
theorem dX2_cutAt_92 : decode cX2_cutAt 92 = .ok (.iinc 3 1, 3) := by decide +kernel
theorem dX2_cutAt_95 : decode cX2_cutAt 95 = .ok (.goto (-91), 3) := by decide +kernel
theorem dX2_cutAt_98 : decode cX2_cutAt 98 = .ok (.aload_n 0, 1) := by decide +kernel
theorem dX2_cutAt_99 : decode cX2_cutAt 99 = .ok (.getfield 31, 3) := by decide +kernel
theorem dX2_cutAt_102 : decode cX2_cutAt 102 = .ok (.ireturn, 1) := by decide +kernel
theorem dX2_insert_0 : decode cX2_insert 0 = .ok (.aload_n 0, 1) := by decide +kernel
theorem dX2_insert_1 : decode cX2_insert 1 = .ok (.iload_n 1, 1) := by decide +kernel
theorem dX2_insert_2 : decode cX2_insert 2 = .ok (.invokevirtual 61, 3) := by decide +kernel
theorem dX2_insert_5 : decode cX2_insert 5 = .ok (.istore 4, 2) := by decide +kernel
theorem dX2_insert_7 : decode cX2_insert 7 = .ok (.iload 4, 2) := by decide +kernel
theorem dX2_insert_9 : decode cX2_insert 9 = .ok (.ifCond .le 58, 3) := by decide +kernel
theorem dX2_insert_12 : decode cX2_insert 12 = .ok (.aload_n 0, 1) := by decide +kernel
theorem dX2_insert_13 : decode cX2_insert 13 = .ok (.getfield 9, 3) := by decide +kernel
theorem dX2_insert_16 : decode cX2_insert 16 = .ok (.iload 4, 2) := by decide +kernel
theorem dX2_insert_18 : decode cX2_insert 18 = .ok (.iconst 1, 1) := by decide +kernel
theorem dX2_insert_19 : decode cX2_insert 19 = .ok (.isub, 1) := by decide +kernel
theorem dX2_insert_20 : decode cX2_insert 20 = .ok (.iaload, 1) := by decide +kernel
theorem dX2_insert_21 : decode cX2_insert 21 = .ok (.invokestatic 65, 3) := by decide +kernel
theorem dX2_insert_24 : decode cX2_insert 24 = .ok (.iconst 1, 1) := by decide +kernel
theorem dX2_insert_25 : decode cX2_insert 25 = .ok (.if_icmp .ne 42, 3) := by decide +kernel
theorem dX2_insert_28 : decode cX2_insert 28 = .ok (.aload_n 0, 1) := by decide +kernel
theorem dX2_insert_29 : decode cX2_insert 29 = .ok (.getfield 9, 3) := by decide +kernel
theorem dX2_insert_32 : decode cX2_insert 32 = .ok (.iload 4, 2) := by decide +kernel
theorem dX2_insert_34 : decode cX2_insert 34 = .ok (.iconst 1, 1) := by decide +kernel
theorem dX2_insert_35 : decode cX2_insert 35 = .ok (.isub, 1) := by decide +kernel
theorem dX2_insert_36 : decode cX2_insert 36 = .ok (.iaload, 1) := by decide +kernel
theorem dX2_insert_37 : decode cX2_insert 37 = .ok (.aload_n 0, 1) := by decide +kernel
theorem dX2_insert_38 : decode cX2_insert 38 = .ok (.getfield 15, 3) := by decide +kernel
theorem dX2_insert_41 : decode cX2_insert 41 = .ok (.iload 4, 2) := by decide +kernel
theorem dX2_insert_43 : decode cX2_insert 43 = .ok (.iconst 1, 1) := by decide +kernel
theorem dX2_insert_44 : decode cX2_insert 44 = .ok (.isub, 1) := by decide +kernel
theorem dX2_insert_45 : decode cX2_insert 45 = .ok (.iaload, 1) := by decide +kernel
theorem dX2_insert_46 : decode cX2_insert 46 = .ok (.iadd, 1) := by decide +kernel
theorem dX2_insert_47 : decode cX2_insert 47 = .ok (.iload_n 2, 1) := by decide +kernel
theorem dX2_insert_48 : decode cX2_insert 48 = .ok (.if_icmp .ne 19, 3) := by decide +kernel
theorem dX2_insert_51 : decode cX2_insert 51 = .ok (.aload_n 0, 1) := by decide +kernel
theorem dX2_insert_52 : decode cX2_insert 52 = .ok (.getfield 15, 3) := by decide +kernel
theorem dX2_insert_55 : decode cX2_insert 55 = .ok (.iload 4, 2) := by decide +kernel
theorem dX2_insert_57 : decode cX2_insert 57 = .ok (.iconst 1, 1) := by decide +kernel
theorem dX2_insert_58 : decode cX2_insert 58 = .ok (.isub, 1) := by decide +kernel
theorem dX2_insert_59 : decode cX2_insert 59 = .ok (.dup2, 1) := by decide +kernel
theorem dX2_insert_60 : decode cX2_insert 60 = .ok (.iaload, 1) := by decide +kernel
theorem dX2_insert_61 : decode cX2_insert 61 = .ok (.iload_n 3, 1) := by decide +kernel
theorem dX2_insert_62 : decode cX2_insert 62 = .ok (.iadd, 1) := by decide +kernel
theorem dX2_insert_63 : decode cX2_insert 63 = .ok (.iastore, 1) := by decide +kernel
theorem dX2_insert_64 : decode cX2_insert 64 = .ok (.goto 26, 3) := by decide +kernel
theorem dX2_insert_67 : decode cX2_insert 67 = .ok (.aload_n 0, 1) := by decide +kernel
theorem dX2_insert_68 : decode cX2_insert 68 = .ok (.iload 4, 2) := by decide +kernel
theorem dX2_insert_70 : decode cX2_insert 70 = .ok (.iconst 1, 1) := by decide +kernel
theorem dX2_insert_71 : decode cX2_insert 71 = .ok (.invokevirtual 38, 3) := by decide +kernel
theorem dX2_insert_74 : decode cX2_insert 74 = .ok (.aload_n 0, 1) := by decide +kernel
theorem dX2_insert_75 : decode cX2_insert 75 = .ok (.getfield 9, 3) := by decide +kernel
theorem dX2_insert_78 : decode cX2_insert 78 = .ok (.iload 4, 2) := by decide +kernel
theorem dX2_insert_80 : decode cX2_insert 80 = .ok (.iload_n 2, 1) := by decide +kernel
theorem dX2_insert_81 : decode cX2_insert 81 = .ok (.iastore, 1) := by decide +kernel
theorem dX2_insert_82 : decode cX2_insert 82 = .ok (.aload_n 0, 1) := by decide +kernel
theorem dX2_insert_83 : decode cX2_insert 83 = .ok (.getfield 15, 3) := by decide +kernel
theorem dX2_insert_86 : decode cX2_insert 86 = .ok (.iload 4, 2) := by decide +kernel
theorem dX2_insert_88 : decode cX2_insert 88 = .ok (.iload_n 3, 1) := by decide +kernel
theorem dX2_insert_89 : decode cX2_insert 89 = .ok (.iastore, 1) := by decide +kernel
theorem dX2_insert_90 : decode cX2_insert 90 = .ok (.aload_n 0, 1) := by decide +kernel
theorem dX2_insert_91 : decode cX2_insert 91 = .ok (.dup, 1) := by decide +kernel
theorem dX2_insert_92 : decode cX2_insert 92 = .ok (.getfield 35, 3) := by decide +kernel
theorem dX2_insert_95 : decode cX2_insert 95 = .ok (.iload_n 3, 1) := by decide +kernel
theorem dX2_insert_96 : decode cX2_insert 96 = .ok (.iadd, 1) := by decide +kernel
theorem dX2_insert_97 : decode cX2_insert 97 = .ok (.putfield 35, 3) := by decide +kernel
theorem dX2_insert_100 : decode cX2_insert 100 = .ok (.aload_n 0, 1) := by decide +kernel
theorem dX2_insert_101 : decode cX2_insert 101 = .ok (.iload_n 1, 1) := by decide +kernel
theorem dX2_insert_102 : decode cX2_insert 102 = .ok (.iload_n 3, 1) := by decide +kernel
theorem dX2_insert_103 : decode cX2_insert 103 = .ok (.invokevirtual 68, 3) := by decide +kernel
theorem dX2_insert_106 : decode cX2_insert 106 = .ok (.return_, 1) := by decide +kernel
theorem dX2_take_0 : decode cX2_take 0 = .ok (.aload_n 0, 1) := by decide +kernel
theorem dX2_take_1 : decode cX2_take 1 = .ok (.iload_n 1, 1) := by decide +kernel
theorem dX2_take_2 : decode cX2_take 2 = .ok (.iload_n 2, 1) := by decide +kernel
theorem dX2_take_3 : decode cX2_take 3 = .ok (.invokevirtual 71, 3) := by decide +kernel
theorem dX2_take_6 : decode cX2_take 6 = .ok (.aload_n 0, 1) := by decide +kernel
theorem dX2_take_7 : decode cX2_take 7 = .ok (.iload_n 1, 1) := by decide +kernel
theorem dX2_take_8 : decode cX2_take 8 = .ok (.iload_n 2, 1) := by decide +kernel
theorem dX2_take_9 : decode cX2_take 9 = .ok (.invokevirtual 74, 3) := by decide +kernel
theorem dX2_take_12 : decode cX2_take 12 = .ok (.return_, 1) := by decide +kernel
theorem dX2_lay_0 : decode cX2_lay 0 = .ok (.aload 4, 2) := by decide +kernel
theorem dX2_lay_2 : decode cX2_lay 2 = .ok (.aload_n 0, 1) := by decide +kernel
theorem dX2_lay_3 : decode cX2_lay 3 = .ok (.iload_n 1, 1) := by decide +kernel
theorem dX2_lay_4 : decode cX2_lay 4 = .ok (.iload_n 2, 1) := by decide +kernel
theorem dX2_lay_5 : decode cX2_lay 5 = .ok (.invokevirtual 77, 3) := by decide +kernel
theorem dX2_lay_8 : decode cX2_lay 8 = .ok (.aload_n 0, 1) := by decide +kernel
theorem dX2_lay_9 : decode cX2_lay 9 = .ok (.aload 4, 2) := by decide +kernel
theorem dX2_lay_11 : decode cX2_lay 11 = .ok (.iload_n 3, 1) := by decide +kernel
theorem dX2_lay_12 : decode cX2_lay 12 = .ok (.invokevirtual 81, 3) := by decide +kernel
theorem dX2_lay_15 : decode cX2_lay 15 = .ok (.aload_n 0, 1) := by decide +kernel
theorem dX2_lay_16 : decode cX2_lay 16 = .ok (.iload_n 3, 1) := by decide +kernel
theorem dX2_lay_17 : decode cX2_lay 17 = .ok (.iload_n 2, 1) := by decide +kernel
theorem dX2_lay_18 : decode cX2_lay 18 = .ok (.invokevirtual 68, 3) := by decide +kernel
theorem dX2_lay_21 : decode cX2_lay 21 = .ok (.return_, 1) := by decide +kernel
theorem dX2_move_0 : decode cX2_move 0 = .ok (.aload 4, 2) := by decide +kernel
theorem dX2_move_2 : decode cX2_move 2 = .ok (.aload_n 0, 1) := by decide +kernel
theorem dX2_move_3 : decode cX2_move 3 = .ok (.iload_n 1, 1) := by decide +kernel
theorem dX2_move_4 : decode cX2_move 4 = .ok (.iload_n 2, 1) := by decide +kernel
theorem dX2_move_5 : decode cX2_move 5 = .ok (.invokevirtual 77, 3) := by decide +kernel
theorem dX2_move_8 : decode cX2_move 8 = .ok (.aload_n 0, 1) := by decide +kernel
theorem dX2_move_9 : decode cX2_move 9 = .ok (.iload_n 1, 1) := by decide +kernel
theorem dX2_move_10 : decode cX2_move 10 = .ok (.iload_n 2, 1) := by decide +kernel
theorem dX2_move_11 : decode cX2_move 11 = .ok (.invokevirtual 71, 3) := by decide +kernel
theorem dX2_move_14 : decode cX2_move 14 = .ok (.aload_n 0, 1) := by decide +kernel
theorem dX2_move_15 : decode cX2_move 15 = .ok (.aload 4, 2) := by decide +kernel
theorem dX2_move_17 : decode cX2_move 17 = .ok (.iload_n 3, 1) := by decide +kernel
theorem dX2_move_18 : decode cX2_move 18 = .ok (.invokevirtual 81, 3) := by decide +kernel
theorem dX2_move_21 : decode cX2_move 21 = .ok (.aload_n 0, 1) := by decide +kernel
theorem dX2_move_22 : decode cX2_move 22 = .ok (.iload_n 1, 1) := by decide +kernel
theorem dX2_move_23 : decode cX2_move 23 = .ok (.iload_n 2, 1) := by decide +kernel
theorem dX2_move_24 : decode cX2_move 24 = .ok (.iload_n 3, 1) := by decide +kernel
theorem dX2_move_25 : decode cX2_move 25 = .ok (.invokevirtual 85, 3) := by decide +kernel
theorem dX2_move_28 : decode cX2_move 28 = .ok (.return_, 1) := by decide +kernel
theorem dX2_dropSigns_0 : decode cX2_dropSigns 0 = .ok (.aload_n 0, 1) := by decide +kernel
theorem dX2_dropSigns_1 : decode cX2_dropSigns 1 = .ok (.iload_n 1, 1) := by decide +kernel
theorem dX2_dropSigns_2 : decode cX2_dropSigns 2 = .ok (.invokevirtual 61, 3) := by decide +kernel
theorem dX2_dropSigns_5 : decode cX2_dropSigns 5 = .ok (.istore_n 3, 1) := by decide +kernel
theorem dX2_dropSigns_6 : decode cX2_dropSigns 6 = .ok (.aload_n 0, 1) := by decide +kernel
theorem dX2_dropSigns_7 : decode cX2_dropSigns 7 = .ok (.iload_n 1, 1) := by decide +kernel
theorem dX2_dropSigns_8 : decode cX2_dropSigns 8 = .ok (.iload_n 2, 1) := by decide +kernel
theorem dX2_dropSigns_9 : decode cX2_dropSigns 9 = .ok (.iadd, 1) := by decide +kernel
theorem dX2_dropSigns_10 : decode cX2_dropSigns 10 = .ok (.invokevirtual 61, 3) := by decide +kernel
theorem dX2_dropSigns_13 : decode cX2_dropSigns 13 = .ok (.istore 4, 2) := by decide +kernel
theorem dX2_dropSigns_15 : decode cX2_dropSigns 15 = .ok (.aload_n 0, 1) := by decide +kernel
theorem dX2_dropSigns_16 : decode cX2_dropSigns 16 = .ok (.iload_n 3, 1) := by decide +kernel
theorem dX2_dropSigns_17 : decode cX2_dropSigns 17 = .ok (.iload 4, 2) := by decide +kernel
theorem dX2_dropSigns_19 : decode cX2_dropSigns 19 = .ok (.iload_n 3, 1) := by decide +kernel
theorem dX2_dropSigns_20 : decode cX2_dropSigns 20 = .ok (.isub, 1) := by decide +kernel
theorem dX2_dropSigns_21 : decode cX2_dropSigns 21 = .ok (.invokevirtual 89, 3) := by decide +kernel
theorem dX2_dropSigns_24 : decode cX2_dropSigns 24 = .ok (.aload_n 0, 1) := by decide +kernel
theorem dX2_dropSigns_25 : decode cX2_dropSigns 25 = .ok (.dup, 1) := by decide +kernel
theorem dX2_dropSigns_26 : decode cX2_dropSigns 26 = .ok (.getfield 35, 3) := by decide +kernel
theorem dX2_dropSigns_29 : decode cX2_dropSigns 29 = .ok (.iload_n 2, 1) := by decide +kernel
theorem dX2_dropSigns_30 : decode cX2_dropSigns 30 = .ok (.isub, 1) := by decide +kernel
theorem dX2_dropSigns_31 : decode cX2_dropSigns 31 = .ok (.putfield 35, 3) := by decide +kernel
theorem dX2_dropSigns_34 : decode cX2_dropSigns 34 = .ok (.return_, 1) := by decide +kernel
theorem dX2_layPieces_0 : decode cX2_layPieces 0 = .ok (.aload_n 0, 1) := by decide +kernel
theorem dX2_layPieces_1 : decode cX2_layPieces 1 = .ok (.iload_n 2, 1) := by decide +kernel
theorem dX2_layPieces_2 : decode cX2_layPieces 2 = .ok (.invokevirtual 61, 3) := by decide +kernel
theorem dX2_layPieces_5 : decode cX2_layPieces 5 = .ok (.istore_n 3, 1) := by decide +kernel
theorem dX2_layPieces_6 : decode cX2_layPieces 6 = .ok (.aload_n 0, 1) := by decide +kernel
theorem dX2_layPieces_7 : decode cX2_layPieces 7 = .ok (.iload_n 3, 1) := by decide +kernel
theorem dX2_layPieces_8 : decode cX2_layPieces 8 = .ok (.aload_n 1, 1) := by decide +kernel
theorem dX2_layPieces_9 : decode cX2_layPieces 9 = .ok (.getfield 31, 3) := by decide +kernel
theorem dX2_layPieces_12 : decode cX2_layPieces 12 = .ok (.invokevirtual 38, 3) := by decide +kernel
theorem dX2_layPieces_15 : decode cX2_layPieces 15 = .ok (.aload_n 1, 1) := by decide +kernel
theorem dX2_layPieces_16 : decode cX2_layPieces 16 = .ok (.getfield 9, 3) := by decide +kernel
theorem dX2_layPieces_19 : decode cX2_layPieces 19 = .ok (.iconst 0, 1) := by decide +kernel
theorem dX2_layPieces_20 : decode cX2_layPieces 20 = .ok (.aload_n 0, 1) := by decide +kernel
theorem dX2_layPieces_21 : decode cX2_layPieces 21 = .ok (.getfield 9, 3) := by decide +kernel
theorem dX2_layPieces_24 : decode cX2_layPieces 24 = .ok (.iload_n 3, 1) := by decide +kernel
theorem dX2_layPieces_25 : decode cX2_layPieces 25 = .ok (.aload_n 1, 1) := by decide +kernel
theorem dX2_layPieces_26 : decode cX2_layPieces 26 = .ok (.getfield 31, 3) := by decide +kernel
theorem dX2_layPieces_29 : decode cX2_layPieces 29 = .ok (.invokestatic 42, 3) := by decide +kernel
theorem dX2_layPieces_32 : decode cX2_layPieces 32 = .ok (.aload_n 1, 1) := by decide +kernel
theorem dX2_layPieces_33 : decode cX2_layPieces 33 = .ok (.getfield 15, 3) := by decide +kernel
theorem dX2_layPieces_36 : decode cX2_layPieces 36 = .ok (.iconst 0, 1) := by decide +kernel
theorem dX2_layPieces_37 : decode cX2_layPieces 37 = .ok (.aload_n 0, 1) := by decide +kernel
theorem dX2_layPieces_38 : decode cX2_layPieces 38 = .ok (.getfield 15, 3) := by decide +kernel
theorem dX2_layPieces_41 : decode cX2_layPieces 41 = .ok (.iload_n 3, 1) := by decide +kernel
theorem dX2_layPieces_42 : decode cX2_layPieces 42 = .ok (.aload_n 1, 1) := by decide +kernel
theorem dX2_layPieces_43 : decode cX2_layPieces 43 = .ok (.getfield 31, 3) := by decide +kernel
theorem dX2_layPieces_46 : decode cX2_layPieces 46 = .ok (.invokestatic 42, 3) := by decide +kernel
theorem dX2_layPieces_49 : decode cX2_layPieces 49 = .ok (.aload_n 0, 1) := by decide +kernel
theorem dX2_layPieces_50 : decode cX2_layPieces 50 = .ok (.dup, 1) := by decide +kernel
theorem dX2_layPieces_51 : decode cX2_layPieces 51 = .ok (.getfield 35, 3) := by decide +kernel
theorem dX2_layPieces_54 : decode cX2_layPieces 54 = .ok (.aload_n 1, 1) := by decide +kernel
theorem dX2_layPieces_55 : decode cX2_layPieces 55 = .ok (.getfield 35, 3) := by decide +kernel
theorem dX2_layPieces_58 : decode cX2_layPieces 58 = .ok (.iadd, 1) := by decide +kernel
theorem dX2_layPieces_59 : decode cX2_layPieces 59 = .ok (.putfield 35, 3) := by decide +kernel
theorem dX2_layPieces_62 : decode cX2_layPieces 62 = .ok (.return_, 1) := by decide +kernel
theorem dX2_becomePart_0 : decode cX2_becomePart 0 = .ok (.aload_n 0, 1) := by decide +kernel
theorem dX2_becomePart_1 : decode cX2_becomePart 1 = .ok (.invokevirtual 92, 3) := by decide +kernel
theorem dX2_becomePart_4 : decode cX2_becomePart 4 = .ok (.iconst 0, 1) := by decide +kernel
theorem dX2_becomePart_5 : decode cX2_becomePart 5 = .ok (.istore 4, 2) := by decide +kernel
theorem dX2_becomePart_7 : decode cX2_becomePart 7 = .ok (.iconst 0, 1) := by decide +kernel
theorem dX2_becomePart_8 : decode cX2_becomePart 8 = .ok (.istore 5, 2) := by decide +kernel
theorem dX2_becomePart_10 : decode cX2_becomePart 10 = .ok (.iload 5, 2) := by decide +kernel
theorem dX2_becomePart_12 : decode cX2_becomePart 12 = .ok (.aload_n 1, 1) := by decide +kernel
theorem dX2_becomePart_13 : decode cX2_becomePart 13 = .ok (.getfield 31, 3) := by decide +kernel
theorem dX2_becomePart_16 : decode cX2_becomePart 16 = .ok (.if_icmp .ge 76, 3) := by decide +kernel
theorem dX2_becomePart_19 : decode cX2_becomePart 19 = .ok (.iload_n 2, 1) := by decide +kernel
theorem dX2_becomePart_20 : decode cX2_becomePart 20 = .ok (.iload 4, 2) := by decide +kernel
theorem dX2_becomePart_22 : decode cX2_becomePart 22 = .ok (.invokestatic 54, 3) := by decide +kernel
theorem dX2_becomePart_25 : decode cX2_becomePart 25 = .ok (.istore 6, 2) := by decide +kernel
theorem dX2_becomePart_27 : decode cX2_becomePart 27 = .ok (.iload_n 2, 1) := by decide +kernel
theorem dX2_becomePart_28 : decode cX2_becomePart 28 = .ok (.iload_n 3, 1) := by decide +kernel
theorem dX2_becomePart_29 : decode cX2_becomePart 29 = .ok (.iadd, 1) := by decide +kernel
theorem dX2_becomePart_30 : decode cX2_becomePart 30 = .ok (.iload 4, 2) := by decide +kernel
theorem dX2_becomePart_32 : decode cX2_becomePart 32 = .ok (.aload_n 1, 1) := by decide +kernel
theorem dX2_becomePart_33 : decode cX2_becomePart 33 = .ok (.getfield 15, 3) := by decide +kernel
theorem dX2_becomePart_36 : decode cX2_becomePart 36 = .ok (.iload 5, 2) := by decide +kernel
theorem dX2_becomePart_38 : decode cX2_becomePart 38 = .ok (.iaload, 1) := by decide +kernel
theorem dX2_becomePart_39 : decode cX2_becomePart 39 = .ok (.iadd, 1) := by decide +kernel
theorem dX2_becomePart_40 : decode cX2_becomePart 40 = .ok (.invokestatic 48, 3) := by decide +kernel
theorem dX2_becomePart_43 : decode cX2_becomePart 43 = .ok (.istore 7, 2) := by decide +kernel
theorem dX2_becomePart_45 : decode cX2_becomePart 45 = .ok (.iload 6, 2) := by decide +kernel
theorem dX2_becomePart_47 : decode cX2_becomePart 47 = .ok (.iload 7, 2) := by decide +kernel
theorem dX2_becomePart_49 : decode cX2_becomePart 49 = .ok (.if_icmp .ge 25, 3) := by decide +kernel
theorem dX2_becomePart_52 : decode cX2_becomePart 52 = .ok (.aload_n 0, 1) := by decide +kernel
theorem dX2_becomePart_53 : decode cX2_becomePart 53 = .ok (.aload_n 1, 1) := by decide +kernel
theorem dX2_becomePart_54 : decode cX2_becomePart 54 = .ok (.getfield 9, 3) := by decide +kernel
theorem dX2_becomePart_57 : decode cX2_becomePart 57 = .ok (.iload 5, 2) := by decide +kernel
theorem dX2_becomePart_59 : decode cX2_becomePart 59 = .ok (.iaload, 1) := by decide +kernel
theorem dX2_becomePart_60 : decode cX2_becomePart 60 = .ok (.iload 6, 2) := by decide +kernel
theorem dX2_becomePart_62 : decode cX2_becomePart 62 = .ok (.iadd, 1) := by decide +kernel
theorem dX2_becomePart_63 : decode cX2_becomePart 63 = .ok (.iload 4, 2) := by decide +kernel
theorem dX2_becomePart_65 : decode cX2_becomePart 65 = .ok (.isub, 1) := by decide +kernel
theorem dX2_becomePart_66 : decode cX2_becomePart 66 = .ok (.iload 7, 2) := by decide +kernel
theorem dX2_becomePart_68 : decode cX2_becomePart 68 = .ok (.iload 6, 2) := by decide +kernel
theorem dX2_becomePart_70 : decode cX2_becomePart 70 = .ok (.isub, 1) := by decide +kernel
theorem dX2_becomePart_71 : decode cX2_becomePart 71 = .ok (.invokevirtual 95, 3) := by decide +kernel
theorem dX2_becomePart_74 : decode cX2_becomePart 74 = .ok (.iload 4, 2) := by decide +kernel
theorem dX2_becomePart_76 : decode cX2_becomePart 76 = .ok (.aload_n 1, 1) := by decide +kernel
theorem dX2_becomePart_77 : decode cX2_becomePart 77 = .ok (.getfield 15, 3) := by decide +kernel
theorem dX2_becomePart_80 : decode cX2_becomePart 80 = .ok (.iload 5, 2) := by decide +kernel
theorem dX2_becomePart_82 : decode cX2_becomePart 82 = .ok (.iaload, 1) := by decide +kernel
theorem dX2_becomePart_83 : decode cX2_becomePart 83 = .ok (.iadd, 1) := by decide +kernel
theorem dX2_becomePart_84 : decode cX2_becomePart 84 = .ok (.istore 4, 2) := by decide +kernel
theorem dX2_becomePart_86 : decode cX2_becomePart 86 = .ok (.iinc 5 1, 3) := by decide +kernel
theorem dX2_becomePart_89 : decode cX2_becomePart 89 = .ok (.goto (-79), 3) := by decide +kernel
theorem dX2_becomePart_92 : decode cX2_becomePart 92 = .ok (.return_, 1) := by decide +kernel
theorem dX2_piecesOf_0 : decode cX2_piecesOf 0 = .ok (.iconst 0, 1) := by decide +kernel
theorem dX2_piecesOf_1 : decode cX2_piecesOf 1 = .ok (.istore_n 2, 1) := by decide +kernel
theorem dX2_piecesOf_2 : decode cX2_piecesOf 2 = .ok (.iconst 0, 1) := by decide +kernel
theorem dX2_piecesOf_3 : decode cX2_piecesOf 3 = .ok (.istore_n 3, 1) := by decide +kernel
theorem dX2_piecesOf_4 : decode cX2_piecesOf 4 = .ok (.iload_n 3, 1) := by decide +kernel
theorem dX2_piecesOf_5 : decode cX2_piecesOf 5 = .ok (.aload_n 0, 1) := by decide +kernel
theorem dX2_piecesOf_6 : decode cX2_piecesOf 6 = .ok (.getfield 31, 3) := by decide +kernel
theorem dX2_piecesOf_9 : decode cX2_piecesOf 9 = .ok (.if_icmp .ge 25, 3) := by decide +kernel
theorem dX2_piecesOf_12 : decode cX2_piecesOf 12 = .ok (.aload_n 0, 1) := by decide +kernel
theorem dX2_piecesOf_13 : decode cX2_piecesOf 13 = .ok (.getfield 9, 3) := by decide +kernel
theorem dX2_piecesOf_16 : decode cX2_piecesOf 16 = .ok (.iload_n 3, 1) := by decide +kernel
theorem dX2_piecesOf_17 : decode cX2_piecesOf 17 = .ok (.iaload, 1) := by decide +kernel
theorem dX2_piecesOf_18 : decode cX2_piecesOf 18 = .ok (.invokestatic 65, 3) := by decide +kernel
theorem dX2_piecesOf_21 : decode cX2_piecesOf 21 = .ok (.iload_n 1, 1) := by decide +kernel
theorem dX2_piecesOf_22 : decode cX2_piecesOf 22 = .ok (.if_icmp .ne 6, 3) := by decide +kernel
theorem dX2_piecesOf_25 : decode cX2_piecesOf 25 = .ok (.iinc 2 1, 3) := by decide +kernel
theorem dX2_piecesOf_28 : decode cX2_piecesOf 28 = .ok (.iinc 3 1, 3) := by decide +kernel
theorem dX2_piecesOf_31 : decode cX2_piecesOf 31 = .ok (.goto (-27), 3) := by decide +kernel
theorem dX2_piecesOf_34 : decode cX2_piecesOf 34 = .ok (.iload_n 2, 1) := by decide +kernel
theorem dX2_piecesOf_35 : decode cX2_piecesOf 35 = .ok (.ireturn, 1) := by decide +kernel
theorem dX2_beginOf_0 : decode cX2_beginOf 0 = .ok (.iconst 0, 1) := by decide +kernel
theorem dX2_beginOf_1 : decode cX2_beginOf 1 = .ok (.istore_n 2, 1) := by decide +kernel
theorem dX2_beginOf_2 : decode cX2_beginOf 2 = .ok (.iconst 0, 1) := by decide +kernel
theorem dX2_beginOf_3 : decode cX2_beginOf 3 = .ok (.istore_n 3, 1) := by decide +kernel
theorem dX2_beginOf_4 : decode cX2_beginOf 4 = .ok (.iload_n 3, 1) := by decide +kernel
theorem dX2_beginOf_5 : decode cX2_beginOf 5 = .ok (.iload_n 1, 1) := by decide +kernel
theorem dX2_beginOf_6 : decode cX2_beginOf 6 = .ok (.if_icmp .ge 26, 3) := by decide +kernel
theorem dX2_beginOf_9 : decode cX2_beginOf 9 = .ok (.iload_n 3, 1) := by decide +kernel
theorem dX2_beginOf_10 : decode cX2_beginOf 10 = .ok (.aload_n 0, 1) := by decide +kernel
theorem dX2_beginOf_11 : decode cX2_beginOf 11 = .ok (.getfield 31, 3) := by decide +kernel
theorem dX2_beginOf_14 : decode cX2_beginOf 14 = .ok (.if_icmp .ge 18, 3) := by decide +kernel
theorem dX2_beginOf_17 : decode cX2_beginOf 17 = .ok (.iload_n 2, 1) := by decide +kernel
theorem dX2_beginOf_18 : decode cX2_beginOf 18 = .ok (.aload_n 0, 1) := by decide +kernel
theorem dX2_beginOf_19 : decode cX2_beginOf 19 = .ok (.getfield 15, 3) := by decide +kernel
theorem dX2_beginOf_22 : decode cX2_beginOf 22 = .ok (.iload_n 3, 1) := by decide +kernel
theorem dX2_beginOf_23 : decode cX2_beginOf 23 = .ok (.iaload, 1) := by decide +kernel
theorem dX2_beginOf_24 : decode cX2_beginOf 24 = .ok (.iadd, 1) := by decide +kernel
theorem dX2_beginOf_25 : decode cX2_beginOf 25 = .ok (.istore_n 2, 1) := by decide +kernel
theorem dX2_beginOf_26 : decode cX2_beginOf 26 = .ok (.iinc 3 1, 3) := by decide +kernel
theorem dX2_beginOf_29 : decode cX2_beginOf 29 = .ok (.goto (-25), 3) := by decide +kernel
theorem dX2_beginOf_32 : decode cX2_beginOf 32 = .ok (.iload_n 2, 1) := by decide +kernel
theorem dX2_beginOf_33 : decode cX2_beginOf 33 = .ok (.ireturn, 1) := by decide +kernel
theorem dX2_goOn_0 : decode cX2_goOn 0 = .ok (.aload_n 0, 1) := by decide +kernel
theorem dX2_goOn_1 : decode cX2_goOn 1 = .ok (.getfield 9, 3) := by decide +kernel
theorem dX2_goOn_4 : decode cX2_goOn 4 = .ok (.iload_n 1, 1) := by decide +kernel
theorem dX2_goOn_5 : decode cX2_goOn 5 = .ok (.iaload, 1) := by decide +kernel
theorem dX2_goOn_6 : decode cX2_goOn 6 = .ok (.invokestatic 65, 3) := by decide +kernel
theorem dX2_goOn_9 : decode cX2_goOn 9 = .ok (.aload_n 0, 1) := by decide +kernel
theorem dX2_goOn_10 : decode cX2_goOn 10 = .ok (.getfield 9, 3) := by decide +kernel
theorem dX2_goOn_13 : decode cX2_goOn 13 = .ok (.iload_n 2, 1) := by decide +kernel
theorem dX2_goOn_14 : decode cX2_goOn 14 = .ok (.iaload, 1) := by decide +kernel
theorem dX2_goOn_15 : decode cX2_goOn 15 = .ok (.invokestatic 65, 3) := by decide +kernel
theorem dX2_goOn_18 : decode cX2_goOn 18 = .ok (.if_icmp .ne 29, 3) := by decide +kernel
theorem dX2_goOn_21 : decode cX2_goOn 21 = .ok (.aload_n 0, 1) := by decide +kernel
theorem dX2_goOn_22 : decode cX2_goOn 22 = .ok (.getfield 9, 3) := by decide +kernel
theorem dX2_goOn_25 : decode cX2_goOn 25 = .ok (.iload_n 1, 1) := by decide +kernel
theorem dX2_goOn_26 : decode cX2_goOn 26 = .ok (.iaload, 1) := by decide +kernel
theorem dX2_goOn_27 : decode cX2_goOn 27 = .ok (.aload_n 0, 1) := by decide +kernel
theorem dX2_goOn_28 : decode cX2_goOn 28 = .ok (.getfield 15, 3) := by decide +kernel
theorem dX2_goOn_31 : decode cX2_goOn 31 = .ok (.iload_n 1, 1) := by decide +kernel
theorem dX2_goOn_32 : decode cX2_goOn 32 = .ok (.iaload, 1) := by decide +kernel
theorem dX2_goOn_33 : decode cX2_goOn 33 = .ok (.iadd, 1) := by decide +kernel
theorem dX2_goOn_34 : decode cX2_goOn 34 = .ok (.aload_n 0, 1) := by decide +kernel
theorem dX2_goOn_35 : decode cX2_goOn 35 = .ok (.getfield 9, 3) := by decide +kernel
theorem dX2_goOn_38 : decode cX2_goOn 38 = .ok (.iload_n 2, 1) := by decide +kernel
theorem dX2_goOn_39 : decode cX2_goOn 39 = .ok (.iaload, 1) := by decide +kernel
theorem dX2_goOn_40 : decode cX2_goOn 40 = .ok (.if_icmp .ne 7, 3) := by decide +kernel
theorem dX2_goOn_43 : decode cX2_goOn 43 = .ok (.iconst 1, 1) := by decide +kernel
theorem dX2_goOn_44 : decode cX2_goOn 44 = .ok (.goto 4, 3) := by decide +kernel
theorem dX2_goOn_47 : decode cX2_goOn 47 = .ok (.iconst 0, 1) := by decide +kernel
theorem dX2_goOn_48 : decode cX2_goOn 48 = .ok (.ireturn, 1) := by decide +kernel
theorem dX2_bordersToHeal_0 : decode cX2_bordersToHeal 0 = .ok (.iconst 0, 1) := by decide +kernel
theorem dX2_bordersToHeal_1 : decode cX2_bordersToHeal 1 = .ok (.istore_n 1, 1) := by decide +kernel
theorem dX2_bordersToHeal_2 : decode cX2_bordersToHeal 2 = .ok (.iconst 1, 1) := by decide +kernel
theorem dX2_bordersToHeal_3 : decode cX2_bordersToHeal 3 = .ok (.istore_n 2, 1) := by decide +kernel
theorem dX2_bordersToHeal_4 : decode cX2_bordersToHeal 4 = .ok (.iload_n 2, 1) := by decide +kernel
theorem dX2_bordersToHeal_5 : decode cX2_bordersToHeal 5 = .ok (.aload_n 0, 1) := by decide +kernel
theorem dX2_bordersToHeal_6 : decode cX2_bordersToHeal 6 = .ok (.getfield 31, 3) := by decide +kernel
theorem dX2_bordersToHeal_9 : decode cX2_bordersToHeal 9 = .ok (.if_icmp .ge 23, 3) := by decide +kernel
theorem dX2_bordersToHeal_12 : decode cX2_bordersToHeal 12 = .ok (.aload_n 0, 1) := by decide +kernel
theorem dX2_bordersToHeal_13 : decode cX2_bordersToHeal 13 = .ok (.iload_n 2, 1) := by decide +kernel
theorem dX2_bordersToHeal_14 : decode cX2_bordersToHeal 14 = .ok (.iconst 1, 1) := by decide +kernel
theorem dX2_bordersToHeal_15 : decode cX2_bordersToHeal 15 = .ok (.isub, 1) := by decide +kernel
theorem dX2_bordersToHeal_16 : decode cX2_bordersToHeal 16 = .ok (.iload_n 2, 1) := by decide +kernel
theorem dX2_bordersToHeal_17 : decode cX2_bordersToHeal 17 = .ok (.invokevirtual 98, 3) := by decide +kernel
theorem dX2_bordersToHeal_20 : decode cX2_bordersToHeal 20 = .ok (.ifCond .eq 6, 3) := by decide +kernel
theorem dX2_bordersToHeal_23 : decode cX2_bordersToHeal 23 = .ok (.iinc 1 1, 3) := by decide +kernel
theorem dX2_bordersToHeal_26 : decode cX2_bordersToHeal 26 = .ok (.iinc 2 1, 3) := by decide +kernel
theorem dX2_bordersToHeal_29 : decode cX2_bordersToHeal 29 = .ok (.goto (-25), 3) := by decide +kernel
theorem dX2_bordersToHeal_32 : decode cX2_bordersToHeal 32 = .ok (.iload_n 1, 1) := by decide +kernel
theorem dX2_bordersToHeal_33 : decode cX2_bordersToHeal 33 = .ok (.ireturn, 1) := by decide +kernel
theorem dX2_joinPieces_0 : decode cX2_joinPieces 0 = .ok (.iconst 0, 1) := by decide +kernel
theorem dX2_joinPieces_1 : decode cX2_joinPieces 1 = .ok (.istore_n 1, 1) := by decide +kernel
theorem dX2_joinPieces_2 : decode cX2_joinPieces 2 = .ok (.iconst 0, 1) := by decide +kernel
theorem dX2_joinPieces_3 : decode cX2_joinPieces 3 = .ok (.istore_n 2, 1) := by decide +kernel
theorem dX2_joinPieces_4 : decode cX2_joinPieces 4 = .ok (.iload_n 2, 1) := by decide +kernel
theorem dX2_joinPieces_5 : decode cX2_joinPieces 5 = .ok (.aload_n 0, 1) := by decide +kernel
theorem dX2_joinPieces_6 : decode cX2_joinPieces 6 = .ok (.getfield 31, 3) := by decide +kernel
theorem dX2_joinPieces_9 : decode cX2_joinPieces 9 = .ok (.if_icmp .ge 71, 3) := by decide +kernel
theorem dX2_joinPieces_12 : decode cX2_joinPieces 12 = .ok (.iload_n 1, 1) := by decide +kernel
theorem dX2_joinPieces_13 : decode cX2_joinPieces 13 = .ok (.ifCond .le 34, 3) := by decide +kernel
theorem dX2_joinPieces_16 : decode cX2_joinPieces 16 = .ok (.aload_n 0, 1) := by decide +kernel
theorem dX2_joinPieces_17 : decode cX2_joinPieces 17 = .ok (.iload_n 1, 1) := by decide +kernel
theorem dX2_joinPieces_18 : decode cX2_joinPieces 18 = .ok (.iconst 1, 1) := by decide +kernel
theorem dX2_joinPieces_19 : decode cX2_joinPieces 19 = .ok (.isub, 1) := by decide +kernel
theorem dX2_joinPieces_20 : decode cX2_joinPieces 20 = .ok (.iload_n 2, 1) := by decide +kernel
theorem dX2_joinPieces_21 : decode cX2_joinPieces 21 = .ok (.invokevirtual 98, 3) := by decide +kernel
theorem dX2_joinPieces_24 : decode cX2_joinPieces 24 = .ok (.ifCond .eq 23, 3) := by decide +kernel
theorem dX2_joinPieces_27 : decode cX2_joinPieces 27 = .ok (.aload_n 0, 1) := by decide +kernel
theorem dX2_joinPieces_28 : decode cX2_joinPieces 28 = .ok (.getfield 15, 3) := by decide +kernel
theorem dX2_joinPieces_31 : decode cX2_joinPieces 31 = .ok (.iload_n 1, 1) := by decide +kernel
theorem dX2_joinPieces_32 : decode cX2_joinPieces 32 = .ok (.iconst 1, 1) := by decide +kernel
theorem dX2_joinPieces_33 : decode cX2_joinPieces 33 = .ok (.isub, 1) := by decide +kernel
theorem dX2_joinPieces_34 : decode cX2_joinPieces 34 = .ok (.dup2, 1) := by decide +kernel
theorem dX2_joinPieces_35 : decode cX2_joinPieces 35 = .ok (.iaload, 1) := by decide +kernel
theorem dX2_joinPieces_36 : decode cX2_joinPieces 36 = .ok (.aload_n 0, 1) := by decide +kernel
theorem dX2_joinPieces_37 : decode cX2_joinPieces 37 = .ok (.getfield 15, 3) := by decide +kernel
theorem dX2_joinPieces_40 : decode cX2_joinPieces 40 = .ok (.iload_n 2, 1) := by decide +kernel
theorem dX2_joinPieces_41 : decode cX2_joinPieces 41 = .ok (.iaload, 1) := by decide +kernel
theorem dX2_joinPieces_42 : decode cX2_joinPieces 42 = .ok (.iadd, 1) := by decide +kernel
theorem dX2_joinPieces_43 : decode cX2_joinPieces 43 = .ok (.iastore, 1) := by decide +kernel
theorem dX2_joinPieces_44 : decode cX2_joinPieces 44 = .ok (.goto 30, 3) := by decide +kernel
theorem dX2_joinPieces_47 : decode cX2_joinPieces 47 = .ok (.aload_n 0, 1) := by decide +kernel
theorem dX2_joinPieces_48 : decode cX2_joinPieces 48 = .ok (.getfield 9, 3) := by decide +kernel
theorem dX2_joinPieces_51 : decode cX2_joinPieces 51 = .ok (.iload_n 1, 1) := by decide +kernel
theorem dX2_joinPieces_52 : decode cX2_joinPieces 52 = .ok (.aload_n 0, 1) := by decide +kernel
theorem dX2_joinPieces_53 : decode cX2_joinPieces 53 = .ok (.getfield 9, 3) := by decide +kernel
theorem dX2_joinPieces_56 : decode cX2_joinPieces 56 = .ok (.iload_n 2, 1) := by decide +kernel
theorem dX2_joinPieces_57 : decode cX2_joinPieces 57 = .ok (.iaload, 1) := by decide +kernel
theorem dX2_joinPieces_58 : decode cX2_joinPieces 58 = .ok (.iastore, 1) := by decide +kernel
theorem dX2_joinPieces_59 : decode cX2_joinPieces 59 = .ok (.aload_n 0, 1) := by decide +kernel
theorem dX2_joinPieces_60 : decode cX2_joinPieces 60 = .ok (.getfield 15, 3) := by decide +kernel
theorem dX2_joinPieces_63 : decode cX2_joinPieces 63 = .ok (.iload_n 1, 1) := by decide +kernel
theorem dX2_joinPieces_64 : decode cX2_joinPieces 64 = .ok (.aload_n 0, 1) := by decide +kernel
theorem dX2_joinPieces_65 : decode cX2_joinPieces 65 = .ok (.getfield 15, 3) := by decide +kernel
theorem dX2_joinPieces_68 : decode cX2_joinPieces 68 = .ok (.iload_n 2, 1) := by decide +kernel
theorem dX2_joinPieces_69 : decode cX2_joinPieces 69 = .ok (.iaload, 1) := by decide +kernel
theorem dX2_joinPieces_70 : decode cX2_joinPieces 70 = .ok (.iastore, 1) := by decide +kernel
theorem dX2_joinPieces_71 : decode cX2_joinPieces 71 = .ok (.iinc 1 1, 3) := by decide +kernel
theorem dX2_joinPieces_74 : decode cX2_joinPieces 74 = .ok (.iinc 2 1, 3) := by decide +kernel
theorem dX2_joinPieces_77 : decode cX2_joinPieces 77 = .ok (.goto (-73), 3) := by decide +kernel
theorem dX2_joinPieces_80 : decode cX2_joinPieces 80 = .ok (.aload_n 0, 1) := by decide +kernel
theorem dX2_joinPieces_81 : decode cX2_joinPieces 81 = .ok (.getfield 31, 3) := by decide +kernel
theorem dX2_joinPieces_84 : decode cX2_joinPieces 84 = .ok (.iload_n 1, 1) := by decide +kernel
theorem dX2_joinPieces_85 : decode cX2_joinPieces 85 = .ok (.isub, 1) := by decide +kernel
theorem dX2_joinPieces_86 : decode cX2_joinPieces 86 = .ok (.istore_n 2, 1) := by decide +kernel
theorem dX2_joinPieces_87 : decode cX2_joinPieces 87 = .ok (.aload_n 0, 1) := by decide +kernel
theorem dX2_joinPieces_88 : decode cX2_joinPieces 88 = .ok (.iload_n 1, 1) := by decide +kernel
theorem dX2_joinPieces_89 : decode cX2_joinPieces 89 = .ok (.putfield 31, 3) := by decide +kernel
theorem dX2_joinPieces_92 : decode cX2_joinPieces 92 = .ok (.iload_n 2, 1) := by decide +kernel
theorem dX2_joinPieces_93 : decode cX2_joinPieces 93 = .ok (.ireturn, 1) := by decide +kernel
theorem dX2_setMark_0 : decode cX2_setMark 0 = .ok (.iload_n 1, 1) := by decide +kernel
theorem dX2_setMark_1 : decode cX2_setMark 1 = .ok (.ifCond .lt 23, 3) := by decide +kernel
theorem dX2_setMark_4 : decode cX2_setMark 4 = .ok (.iload_n 1, 1) := by decide +kernel
theorem dX2_setMark_5 : decode cX2_setMark 5 = .ok (.bipush 8, 2) := by decide +kernel
theorem dX2_setMark_7 : decode cX2_setMark 7 = .ok (.if_icmp .ge 17, 3) := by decide +kernel
theorem dX2_setMark_10 : decode cX2_setMark 10 = .ok (.aload_n 0, 1) := by decide +kernel
theorem dX2_setMark_11 : decode cX2_setMark 11 = .ok (.getfield 18, 3) := by decide +kernel
theorem dX2_setMark_14 : decode cX2_setMark 14 = .ok (.iload_n 1, 1) := by decide +kernel
theorem dX2_setMark_15 : decode cX2_setMark 15 = .ok (.iload_n 2, 1) := by decide +kernel
theorem dX2_setMark_16 : decode cX2_setMark 16 = .ok (.iastore, 1) := by decide +kernel
theorem dX2_setMark_17 : decode cX2_setMark 17 = .ok (.aload_n 0, 1) := by decide +kernel
theorem dX2_setMark_18 : decode cX2_setMark 18 = .ok (.getfield 21, 3) := by decide +kernel
theorem dX2_setMark_21 : decode cX2_setMark 21 = .ok (.iload_n 1, 1) := by decide +kernel
theorem dX2_setMark_22 : decode cX2_setMark 22 = .ok (.iload_n 3, 1) := by decide +kernel
theorem dX2_setMark_23 : decode cX2_setMark 23 = .ok (.bastore, 1) := by decide +kernel
theorem dX2_setMark_24 : decode cX2_setMark 24 = .ok (.return_, 1) := by decide +kernel
theorem dX2_marksFrom_0 : decode cX2_marksFrom 0 = .ok (.iconst 0, 1) := by decide +kernel
theorem dX2_marksFrom_1 : decode cX2_marksFrom 1 = .ok (.istore_n 3, 1) := by decide +kernel
theorem dX2_marksFrom_2 : decode cX2_marksFrom 2 = .ok (.iconst 0, 1) := by decide +kernel
theorem dX2_marksFrom_3 : decode cX2_marksFrom 3 = .ok (.istore 4, 2) := by decide +kernel
theorem dX2_marksFrom_5 : decode cX2_marksFrom 5 = .ok (.iload 4, 2) := by decide +kernel
theorem dX2_marksFrom_7 : decode cX2_marksFrom 7 = .ok (.bipush 8, 2) := by decide +kernel
theorem dX2_marksFrom_9 : decode cX2_marksFrom 9 = .ok (.if_icmp .ge 49, 3) := by decide +kernel
theorem dX2_marksFrom_12 : decode cX2_marksFrom 12 = .ok (.aload_n 0, 1) := by decide +kernel
theorem dX2_marksFrom_13 : decode cX2_marksFrom 13 = .ok (.getfield 18, 3) := by decide +kernel
theorem dX2_marksFrom_16 : decode cX2_marksFrom 16 = .ok (.iload 4, 2) := by decide +kernel
theorem dX2_marksFrom_18 : decode cX2_marksFrom 18 = .ok (.iaload, 1) := by decide +kernel
theorem dX2_marksFrom_19 : decode cX2_marksFrom 19 = .ok (.iconst (-1), 1) := by decide +kernel
theorem dX2_marksFrom_20 : decode cX2_marksFrom 20 = .ok (.if_icmp .eq 32, 3) := by decide +kernel
theorem dX2_marksFrom_23 : decode cX2_marksFrom 23 = .ok (.aload_n 0, 1) := by decide +kernel
theorem dX2_marksFrom_24 : decode cX2_marksFrom 24 = .ok (.getfield 18, 3) := by decide +kernel
theorem dX2_marksFrom_27 : decode cX2_marksFrom 27 = .ok (.iload 4, 2) := by decide +kernel
theorem dX2_marksFrom_29 : decode cX2_marksFrom 29 = .ok (.iaload, 1) := by decide +kernel
theorem dX2_marksFrom_30 : decode cX2_marksFrom 30 = .ok (.iload_n 1, 1) := by decide +kernel
theorem dX2_marksFrom_31 : decode cX2_marksFrom 31 = .ok (.if_icmp .lt 21, 3) := by decide +kernel
theorem dX2_marksFrom_34 : decode cX2_marksFrom 34 = .ok (.aload_n 0, 1) := by decide +kernel
theorem dX2_marksFrom_35 : decode cX2_marksFrom 35 = .ok (.getfield 18, 3) := by decide +kernel
theorem dX2_marksFrom_38 : decode cX2_marksFrom 38 = .ok (.iload 4, 2) := by decide +kernel
theorem dX2_marksFrom_40 : decode cX2_marksFrom 40 = .ok (.iaload, 1) := by decide +kernel
theorem dX2_marksFrom_41 : decode cX2_marksFrom 41 = .ok (.iload_n 2, 1) := by decide +kernel
theorem dX2_marksFrom_42 : decode cX2_marksFrom 42 = .ok (.if_icmp .gt 10, 3) := by decide +kernel
theorem dX2_marksFrom_45 : decode cX2_marksFrom 45 = .ok (.iload_n 3, 1) := by decide +kernel
theorem dX2_marksFrom_46 : decode cX2_marksFrom 46 = .ok (.iconst 1, 1) := by decide +kernel
theorem dX2_marksFrom_47 : decode cX2_marksFrom 47 = .ok (.iload 4, 2) := by decide +kernel
theorem dX2_marksFrom_49 : decode cX2_marksFrom 49 = .ok (.ishl, 1) := by decide +kernel
theorem dX2_marksFrom_50 : decode cX2_marksFrom 50 = .ok (.ior, 1) := by decide +kernel
theorem dX2_marksFrom_51 : decode cX2_marksFrom 51 = .ok (.istore_n 3, 1) := by decide +kernel
theorem dX2_marksFrom_52 : decode cX2_marksFrom 52 = .ok (.iinc 4 1, 3) := by decide +kernel
theorem dX2_marksFrom_55 : decode cX2_marksFrom 55 = .ok (.goto (-50), 3) := by decide +kernel
theorem dX2_marksFrom_58 : decode cX2_marksFrom 58 = .ok (.iload_n 3, 1) := by decide +kernel
theorem dX2_marksFrom_59 : decode cX2_marksFrom 59 = .ok (.ireturn, 1) := by decide +kernel
theorem dX2_marksGoOn_0 : decode cX2_marksGoOn 0 = .ok (.iconst 0, 1) := by decide +kernel
theorem dX2_marksGoOn_1 : decode cX2_marksGoOn 1 = .ok (.istore_n 3, 1) := by decide +kernel
theorem dX2_marksGoOn_2 : decode cX2_marksGoOn 2 = .ok (.iload_n 3, 1) := by decide +kernel
theorem dX2_marksGoOn_3 : decode cX2_marksGoOn 3 = .ok (.bipush 8, 2) := by decide +kernel
theorem dX2_marksGoOn_5 : decode cX2_marksGoOn 5 = .ok (.if_icmp .ge 48, 3) := by decide +kernel
theorem dX2_marksGoOn_8 : decode cX2_marksGoOn 8 = .ok (.aload_n 0, 1) := by decide +kernel
theorem dX2_marksGoOn_9 : decode cX2_marksGoOn 9 = .ok (.getfield 18, 3) := by decide +kernel
theorem dX2_marksGoOn_12 : decode cX2_marksGoOn 12 = .ok (.iload_n 3, 1) := by decide +kernel
theorem dX2_marksGoOn_13 : decode cX2_marksGoOn 13 = .ok (.iaload, 1) := by decide +kernel
theorem dX2_marksGoOn_14 : decode cX2_marksGoOn 14 = .ok (.iload_n 1, 1) := by decide +kernel
theorem dX2_marksGoOn_15 : decode cX2_marksGoOn 15 = .ok (.if_icmp .gt 22, 3) := by decide +kernel
theorem dX2_marksGoOn_18 : decode cX2_marksGoOn 18 = .ok (.aload_n 0, 1) := by decide +kernel
theorem dX2_marksGoOn_19 : decode cX2_marksGoOn 19 = .ok (.getfield 18, 3) := by decide +kernel
theorem dX2_marksGoOn_22 : decode cX2_marksGoOn 22 = .ok (.iload_n 3, 1) := by decide +kernel
theorem dX2_marksGoOn_23 : decode cX2_marksGoOn 23 = .ok (.iaload, 1) := by decide +kernel
theorem dX2_marksGoOn_24 : decode cX2_marksGoOn 24 = .ok (.iload_n 1, 1) := by decide +kernel
theorem dX2_marksGoOn_25 : decode cX2_marksGoOn 25 = .ok (.if_icmp .ne 22, 3) := by decide +kernel
theorem dX2_marksGoOn_28 : decode cX2_marksGoOn 28 = .ok (.aload_n 0, 1) := by decide +kernel
theorem dX2_marksGoOn_29 : decode cX2_marksGoOn 29 = .ok (.getfield 21, 3) := by decide +kernel
theorem dX2_marksGoOn_32 : decode cX2_marksGoOn 32 = .ok (.iload_n 3, 1) := by decide +kernel
theorem dX2_marksGoOn_33 : decode cX2_marksGoOn 33 = .ok (.baload, 1) := by decide +kernel
theorem dX2_marksGoOn_34 : decode cX2_marksGoOn 34 = .ok (.ifCond .eq 13, 3) := by decide +kernel
theorem dX2_marksGoOn_37 : decode cX2_marksGoOn 37 = .ok (.aload_n 0, 1) := by decide +kernel
theorem dX2_marksGoOn_38 : decode cX2_marksGoOn 38 = .ok (.getfield 18, 3) := by decide +kernel
theorem dX2_marksGoOn_41 : decode cX2_marksGoOn 41 = .ok (.iload_n 3, 1) := by decide +kernel
theorem dX2_marksGoOn_42 : decode cX2_marksGoOn 42 = .ok (.dup2, 1) := by decide +kernel
theorem dX2_marksGoOn_43 : decode cX2_marksGoOn 43 = .ok (.iaload, 1) := by decide +kernel
theorem dX2_marksGoOn_44 : decode cX2_marksGoOn 44 = .ok (.iload_n 2, 1) := by decide +kernel
theorem dX2_marksGoOn_45 : decode cX2_marksGoOn 45 = .ok (.iadd, 1) := by decide +kernel
theorem dX2_marksGoOn_46 : decode cX2_marksGoOn 46 = .ok (.iastore, 1) := by decide +kernel
theorem dX2_marksGoOn_47 : decode cX2_marksGoOn 47 = .ok (.iinc 3 1, 3) := by decide +kernel
theorem dX2_marksGoOn_50 : decode cX2_marksGoOn 50 = .ok (.goto (-48), 3) := by decide +kernel
theorem dX2_marksGoOn_53 : decode cX2_marksGoOn 53 = .ok (.return_, 1) := by decide +kernel
theorem dX2_marksGoBack_0 : decode cX2_marksGoBack 0 = .ok (.iconst 0, 1) := by decide +kernel
theorem dX2_marksGoBack_1 : decode cX2_marksGoBack 1 = .ok (.istore_n 3, 1) := by decide +kernel
theorem dX2_marksGoBack_2 : decode cX2_marksGoBack 2 = .ok (.iload_n 3, 1) := by decide +kernel
theorem dX2_marksGoBack_3 : decode cX2_marksGoBack 3 = .ok (.bipush 8, 2) := by decide +kernel
theorem dX2_marksGoBack_5 : decode cX2_marksGoBack 5 = .ok (.if_icmp .ge 51, 3) := by decide +kernel
theorem dX2_marksGoBack_8 : decode cX2_marksGoBack 8 = .ok (.aload_n 0, 1) := by decide +kernel
theorem dX2_marksGoBack_9 : decode cX2_marksGoBack 9 = .ok (.getfield 18, 3) := by decide +kernel
theorem dX2_marksGoBack_12 : decode cX2_marksGoBack 12 = .ok (.iload_n 3, 1) := by decide +kernel
theorem dX2_marksGoBack_13 : decode cX2_marksGoBack 13 = .ok (.iaload, 1) := by decide +kernel
theorem dX2_marksGoBack_14 : decode cX2_marksGoBack 14 = .ok (.iload_n 1, 1) := by decide +kernel
theorem dX2_marksGoBack_15 : decode cX2_marksGoBack 15 = .ok (.iload_n 2, 1) := by decide +kernel
theorem dX2_marksGoBack_16 : decode cX2_marksGoBack 16 = .ok (.iadd, 1) := by decide +kernel
theorem dX2_marksGoBack_17 : decode cX2_marksGoBack 17 = .ok (.if_icmp .lt 16, 3) := by decide +kernel
theorem dX2_marksGoBack_20 : decode cX2_marksGoBack 20 = .ok (.aload_n 0, 1) := by decide +kernel
theorem dX2_marksGoBack_21 : decode cX2_marksGoBack 21 = .ok (.getfield 18, 3) := by decide +kernel
theorem dX2_marksGoBack_24 : decode cX2_marksGoBack 24 = .ok (.iload_n 3, 1) := by decide +kernel
theorem dX2_marksGoBack_25 : decode cX2_marksGoBack 25 = .ok (.dup2, 1) := by decide +kernel
theorem dX2_marksGoBack_26 : decode cX2_marksGoBack 26 = .ok (.iaload, 1) := by decide +kernel
theorem dX2_marksGoBack_27 : decode cX2_marksGoBack 27 = .ok (.iload_n 2, 1) := by decide +kernel
theorem dX2_marksGoBack_28 : decode cX2_marksGoBack 28 = .ok (.isub, 1) := by decide +kernel
theorem dX2_marksGoBack_29 : decode cX2_marksGoBack 29 = .ok (.iastore, 1) := by decide +kernel
theorem dX2_marksGoBack_30 : decode cX2_marksGoBack 30 = .ok (.goto 20, 3) := by decide +kernel
theorem dX2_marksGoBack_33 : decode cX2_marksGoBack 33 = .ok (.aload_n 0, 1) := by decide +kernel
theorem dX2_marksGoBack_34 : decode cX2_marksGoBack 34 = .ok (.getfield 18, 3) := by decide +kernel
theorem dX2_marksGoBack_37 : decode cX2_marksGoBack 37 = .ok (.iload_n 3, 1) := by decide +kernel
theorem dX2_marksGoBack_38 : decode cX2_marksGoBack 38 = .ok (.iaload, 1) := by decide +kernel
theorem dX2_marksGoBack_39 : decode cX2_marksGoBack 39 = .ok (.iload_n 1, 1) := by decide +kernel
theorem dX2_marksGoBack_40 : decode cX2_marksGoBack 40 = .ok (.if_icmp .le 10, 3) := by decide +kernel
theorem dX2_marksGoBack_43 : decode cX2_marksGoBack 43 = .ok (.aload_n 0, 1) := by decide +kernel
theorem dX2_marksGoBack_44 : decode cX2_marksGoBack 44 = .ok (.getfield 18, 3) := by decide +kernel
theorem dX2_marksGoBack_47 : decode cX2_marksGoBack 47 = .ok (.iload_n 3, 1) := by decide +kernel
theorem dX2_marksGoBack_48 : decode cX2_marksGoBack 48 = .ok (.iload_n 1, 1) := by decide +kernel
theorem dX2_marksGoBack_49 : decode cX2_marksGoBack 49 = .ok (.iastore, 1) := by decide +kernel
theorem dX2_marksGoBack_50 : decode cX2_marksGoBack 50 = .ok (.iinc 3 1, 3) := by decide +kernel
theorem dX2_marksGoBack_53 : decode cX2_marksGoBack 53 = .ok (.goto (-51), 3) := by decide +kernel
theorem dX2_marksGoBack_56 : decode cX2_marksGoBack 56 = .ok (.return_, 1) := by decide +kernel
theorem dX2_marksMove_0 : decode cX2_marksMove 0 = .ok (.iconst 0, 1) := by decide +kernel
theorem dX2_marksMove_1 : decode cX2_marksMove 1 = .ok (.istore 4, 2) := by decide +kernel
theorem dX2_marksMove_3 : decode cX2_marksMove 3 = .ok (.iload 4, 2) := by decide +kernel
theorem dX2_marksMove_5 : decode cX2_marksMove 5 = .ok (.bipush 8, 2) := by decide +kernel
theorem dX2_marksMove_7 : decode cX2_marksMove 7 = .ok (.if_icmp .ge 105, 3) := by decide +kernel
theorem dX2_marksMove_10 : decode cX2_marksMove 10 = .ok (.aload_n 0, 1) := by decide +kernel
theorem dX2_marksMove_11 : decode cX2_marksMove 11 = .ok (.getfield 18, 3) := by decide +kernel
theorem dX2_marksMove_14 : decode cX2_marksMove 14 = .ok (.iload 4, 2) := by decide +kernel
theorem dX2_marksMove_16 : decode cX2_marksMove 16 = .ok (.iaload, 1) := by decide +kernel
theorem dX2_marksMove_17 : decode cX2_marksMove 17 = .ok (.istore 5, 2) := by decide +kernel
theorem dX2_marksMove_19 : decode cX2_marksMove 19 = .ok (.iload 5, 2) := by decide +kernel
theorem dX2_marksMove_21 : decode cX2_marksMove 21 = .ok (.iload_n 1, 1) := by decide +kernel
theorem dX2_marksMove_22 : decode cX2_marksMove 22 = .ok (.if_icmp .le 27, 3) := by decide +kernel
theorem dX2_marksMove_25 : decode cX2_marksMove 25 = .ok (.iload 5, 2) := by decide +kernel
theorem dX2_marksMove_27 : decode cX2_marksMove 27 = .ok (.iload_n 1, 1) := by decide +kernel
theorem dX2_marksMove_28 : decode cX2_marksMove 28 = .ok (.iload_n 2, 1) := by decide +kernel
theorem dX2_marksMove_29 : decode cX2_marksMove 29 = .ok (.iadd, 1) := by decide +kernel
theorem dX2_marksMove_30 : decode cX2_marksMove 30 = .ok (.if_icmp .ge 19, 3) := by decide +kernel
theorem dX2_marksMove_33 : decode cX2_marksMove 33 = .ok (.aload_n 0, 1) := by decide +kernel
theorem dX2_marksMove_34 : decode cX2_marksMove 34 = .ok (.getfield 18, 3) := by decide +kernel
theorem dX2_marksMove_37 : decode cX2_marksMove 37 = .ok (.iload 4, 2) := by decide +kernel
theorem dX2_marksMove_39 : decode cX2_marksMove 39 = .ok (.iload_n 3, 1) := by decide +kernel
theorem dX2_marksMove_40 : decode cX2_marksMove 40 = .ok (.iload 5, 2) := by decide +kernel
theorem dX2_marksMove_42 : decode cX2_marksMove 42 = .ok (.iadd, 1) := by decide +kernel
theorem dX2_marksMove_43 : decode cX2_marksMove 43 = .ok (.iload_n 1, 1) := by decide +kernel
theorem dX2_marksMove_44 : decode cX2_marksMove 44 = .ok (.isub, 1) := by decide +kernel
theorem dX2_marksMove_45 : decode cX2_marksMove 45 = .ok (.iastore, 1) := by decide +kernel
theorem dX2_marksMove_46 : decode cX2_marksMove 46 = .ok (.goto 60, 3) := by decide +kernel
theorem dX2_marksMove_49 : decode cX2_marksMove 49 = .ok (.iload 5, 2) := by decide +kernel
theorem dX2_marksMove_51 : decode cX2_marksMove 51 = .ok (.iload_n 1, 1) := by decide +kernel
theorem dX2_marksMove_52 : decode cX2_marksMove 52 = .ok (.iload_n 2, 1) := by decide +kernel
theorem dX2_marksMove_53 : decode cX2_marksMove 53 = .ok (.iadd, 1) := by decide +kernel
theorem dX2_marksMove_54 : decode cX2_marksMove 54 = .ok (.if_icmp .lt 10, 3) := by decide +kernel
theorem dX2_marksMove_57 : decode cX2_marksMove 57 = .ok (.iload 5, 2) := by decide +kernel
theorem dX2_marksMove_59 : decode cX2_marksMove 59 = .ok (.iload_n 2, 1) := by decide +kernel
theorem dX2_marksMove_60 : decode cX2_marksMove 60 = .ok (.isub, 1) := by decide +kernel
theorem dX2_marksMove_61 : decode cX2_marksMove 61 = .ok (.goto 5, 3) := by decide +kernel
theorem dX2_marksMove_64 : decode cX2_marksMove 64 = .ok (.iload 5, 2) := by decide +kernel
theorem dX2_marksMove_66 : decode cX2_marksMove 66 = .ok (.istore 6, 2) := by decide +kernel
theorem dX2_marksMove_68 : decode cX2_marksMove 68 = .ok (.aload_n 0, 1) := by decide +kernel
theorem dX2_marksMove_69 : decode cX2_marksMove 69 = .ok (.getfield 18, 3) := by decide +kernel
theorem dX2_marksMove_72 : decode cX2_marksMove 72 = .ok (.iload 4, 2) := by decide +kernel
theorem dX2_marksMove_74 : decode cX2_marksMove 74 = .ok (.iload 6, 2) := by decide +kernel
theorem dX2_marksMove_76 : decode cX2_marksMove 76 = .ok (.iload_n 3, 1) := by decide +kernel
theorem dX2_marksMove_77 : decode cX2_marksMove 77 = .ok (.if_icmp .gt 19, 3) := by decide +kernel
theorem dX2_marksMove_80 : decode cX2_marksMove 80 = .ok (.iload 6, 2) := by decide +kernel
theorem dX2_marksMove_82 : decode cX2_marksMove 82 = .ok (.iload_n 3, 1) := by decide +kernel
theorem dX2_marksMove_83 : decode cX2_marksMove 83 = .ok (.if_icmp .ne 20, 3) := by decide +kernel
theorem dX2_marksMove_86 : decode cX2_marksMove 86 = .ok (.aload_n 0, 1) := by decide +kernel
theorem dX2_marksMove_87 : decode cX2_marksMove 87 = .ok (.getfield 21, 3) := by decide +kernel
theorem dX2_marksMove_90 : decode cX2_marksMove 90 = .ok (.iload 4, 2) := by decide +kernel
theorem dX2_marksMove_92 : decode cX2_marksMove 92 = .ok (.baload, 1) := by decide +kernel
theorem dX2_marksMove_93 : decode cX2_marksMove 93 = .ok (.ifCond .eq 10, 3) := by decide +kernel
theorem dX2_marksMove_96 : decode cX2_marksMove 96 = .ok (.iload 6, 2) := by decide +kernel
theorem dX2_marksMove_98 : decode cX2_marksMove 98 = .ok (.iload_n 2, 1) := by decide +kernel
theorem dX2_marksMove_99 : decode cX2_marksMove 99 = .ok (.iadd, 1) := by decide +kernel
theorem dX2_marksMove_100 : decode cX2_marksMove 100 = .ok (.goto 5, 3) := by decide +kernel
theorem dX2_marksMove_103 : decode cX2_marksMove 103 = .ok (.iload 6, 2) := by decide +kernel
theorem dX2_marksMove_105 : decode cX2_marksMove 105 = .ok (.iastore, 1) := by decide +kernel
theorem dX2_marksMove_106 : decode cX2_marksMove 106 = .ok (.iinc 4 1, 3) := by decide +kernel
theorem dX2_marksMove_109 : decode cX2_marksMove 109 = .ok (.goto (-106), 3) := by decide +kernel
theorem dX2_marksMove_112 : decode cX2_marksMove 112 = .ok (.return_, 1) := by decide +kernel
theorem dX3_init_0 : decode cX3_init 0 = .ok (.aload_n 0, 1) := by decide +kernel
theorem dX3_init_1 : decode cX3_init 1 = .ok (.invokespecial 3, 3) := by decide +kernel
theorem dX3_init_4 : decode cX3_init 4 = .ok (.aload_n 0, 1) := by decide +kernel
theorem dX3_init_5 : decode cX3_init 5 = .ok (.sipush 3000, 3) := by decide +kernel
theorem dX3_init_8 : decode cX3_init 8 = .ok (.newarray .byte, 2) := by decide +kernel
theorem dX3_init_10 : decode cX3_init 10 = .ok (.putfield 9, 3) := by decide +kernel
theorem dX3_init_13 : decode cX3_init 13 = .ok (.aload_n 0, 1) := by decide +kernel
theorem dX3_init_14 : decode cX3_init 14 = .ok (.sipush 3000, 3) := by decide +kernel
theorem dX3_init_17 : decode cX3_init 17 = .ok (.newarray .int, 2) := by decide +kernel
theorem dX3_init_19 : decode cX3_init 19 = .ok (.putfield 15, 3) := by decide +kernel
theorem dX3_init_22 : decode cX3_init 22 = .ok (.return_, 1) := by decide +kernel
theorem dX3_lay_0 : decode cX3_lay 0 = .ok (.aload_n 0, 1) := by decide +kernel
theorem dX3_lay_1 : decode cX3_lay 1 = .ok (.iconst 0, 1) := by decide +kernel
theorem dX3_lay_2 : decode cX3_lay 2 = .ok (.putfield 19, 3) := by decide +kernel
theorem dX3_lay_5 : decode cX3_lay 5 = .ok (.iconst 0, 1) := by decide +kernel
theorem dX3_lay_6 : decode cX3_lay 6 = .ok (.istore_n 3, 1) := by decide +kernel
theorem dX3_lay_7 : decode cX3_lay 7 = .ok (.iload_n 3, 1) := by decide +kernel
theorem dX3_lay_8 : decode cX3_lay 8 = .ok (.aload_n 1, 1) := by decide +kernel
theorem dX3_lay_9 : decode cX3_lay 9 = .ok (.getfield 23, 3) := by decide +kernel
theorem dX3_lay_12 : decode cX3_lay 12 = .ok (.if_icmp .ge 91, 3) := by decide +kernel
theorem dX3_lay_15 : decode cX3_lay 15 = .ok (.aload_n 1, 1) := by decide +kernel
theorem dX3_lay_16 : decode cX3_lay 16 = .ok (.getfield 28, 3) := by decide +kernel
theorem dX3_lay_19 : decode cX3_lay 19 = .ok (.iload_n 3, 1) := by decide +kernel
theorem dX3_lay_20 : decode cX3_lay 20 = .ok (.iaload, 1) := by decide +kernel
theorem dX3_lay_21 : decode cX3_lay 21 = .ok (.istore 4, 2) := by decide +kernel
theorem dX3_lay_23 : decode cX3_lay 23 = .ok (.iload 4, 2) := by decide +kernel
theorem dX3_lay_25 : decode cX3_lay 25 = .ok (.aload_n 1, 1) := by decide +kernel
theorem dX3_lay_26 : decode cX3_lay 26 = .ok (.getfield 31, 3) := by decide +kernel
theorem dX3_lay_29 : decode cX3_lay 29 = .ok (.iload_n 3, 1) := by decide +kernel
theorem dX3_lay_30 : decode cX3_lay 30 = .ok (.iaload, 1) := by decide +kernel
theorem dX3_lay_31 : decode cX3_lay 31 = .ok (.iadd, 1) := by decide +kernel
theorem dX3_lay_32 : decode cX3_lay 32 = .ok (.istore 5, 2) := by decide +kernel
theorem dX3_lay_34 : decode cX3_lay 34 = .ok (.iload 4, 2) := by decide +kernel
theorem dX3_lay_36 : decode cX3_lay 36 = .ok (.istore 6, 2) := by decide +kernel
theorem dX3_lay_38 : decode cX3_lay 38 = .ok (.iload 6, 2) := by decide +kernel
theorem dX3_lay_40 : decode cX3_lay 40 = .ok (.iload 5, 2) := by decide +kernel
theorem dX3_lay_42 : decode cX3_lay 42 = .ok (.if_icmp .ge 55, 3) := by decide +kernel
theorem dX3_lay_45 : decode cX3_lay 45 = .ok (.aload_n 0, 1) := by decide +kernel
theorem dX3_lay_46 : decode cX3_lay 46 = .ok (.getfield 19, 3) := by decide +kernel
theorem dX3_lay_49 : decode cX3_lay 49 = .ok (.sipush 3000, 3) := by decide +kernel
theorem dX3_lay_52 : decode cX3_lay 52 = .ok (.if_icmp .ge 45, 3) := by decide +kernel
theorem dX3_lay_55 : decode cX3_lay 55 = .ok (.aload_n 0, 1) := by decide +kernel
theorem dX3_lay_56 : decode cX3_lay 56 = .ok (.getfield 9, 3) := by decide +kernel
theorem dX3_lay_59 : decode cX3_lay 59 = .ok (.aload_n 0, 1) := by decide +kernel
theorem dX3_lay_60 : decode cX3_lay 60 = .ok (.getfield 19, 3) := by decide +kernel
theorem dX3_lay_63 : decode cX3_lay 63 = .ok (.aload_n 2, 1) := by decide +kernel
theorem dX3_lay_64 : decode cX3_lay 64 = .ok (.iload 6, 2) := by decide +kernel
theorem dX3_lay_66 : decode cX3_lay 66 = .ok (.invokevirtual 34, 3) := by decide +kernel
theorem dX3_lay_69 : decode cX3_lay 69 = .ok (.i2b, 1) := by decide +kernel
theorem dX3_lay_70 : decode cX3_lay 70 = .ok (.bastore, 1) := by decide +kernel
theorem dX3_lay_71 : decode cX3_lay 71 = .ok (.aload_n 0, 1) := by decide +kernel
theorem dX3_lay_72 : decode cX3_lay 72 = .ok (.getfield 15, 3) := by decide +kernel
theorem dX3_lay_75 : decode cX3_lay 75 = .ok (.aload_n 0, 1) := by decide +kernel
theorem dX3_lay_76 : decode cX3_lay 76 = .ok (.getfield 19, 3) := by decide +kernel
theorem dX3_lay_79 : decode cX3_lay 79 = .ok (.iload_n 3, 1) := by decide +kernel
theorem dX3_lay_80 : decode cX3_lay 80 = .ok (.iastore, 1) := by decide +kernel
theorem dX3_lay_81 : decode cX3_lay 81 = .ok (.aload_n 0, 1) := by decide +kernel
theorem dX3_lay_82 : decode cX3_lay 82 = .ok (.dup, 1) := by decide +kernel
theorem dX3_lay_83 : decode cX3_lay 83 = .ok (.getfield 19, 3) := by decide +kernel
theorem dX3_lay_86 : decode cX3_lay 86 = .ok (.iconst 1, 1) := by decide +kernel
theorem dX3_lay_87 : decode cX3_lay 87 = .ok (.iadd, 1) := by decide +kernel
theorem dX3_lay_88 : decode cX3_lay 88 = .ok (.putfield 19, 3) := by decide +kernel
theorem dX3_lay_91 : decode cX3_lay 91 = .ok (.iinc 6 1, 3) := by decide +kernel
theorem dX3_lay_94 : decode cX3_lay 94 = .ok (.goto (-56), 3) := by decide +kernel
theorem dX3_lay_97 : decode cX3_lay 97 = .ok (.iinc 3 1, 3) := by decide +kernel
theorem dX3_lay_100 : decode cX3_lay 100 = .ok (.goto (-93), 3) := by decide +kernel
theorem dX3_lay_103 : decode cX3_lay 103 = .ok (.return_, 1) := by decide +kernel
theorem dX3_has_0 : decode cX3_has 0 = .ok (.iload_n 1, 1) := by decide +kernel
theorem dX3_has_1 : decode cX3_has 1 = .ok (.ifCond .lt 15, 3) := by decide +kernel
theorem dX3_has_4 : decode cX3_has 4 = .ok (.iload_n 1, 1) := by decide +kernel
theorem dX3_has_5 : decode cX3_has 5 = .ok (.aload_n 0, 1) := by decide +kernel
theorem dX3_has_6 : decode cX3_has 6 = .ok (.getfield 19, 3) := by decide +kernel
theorem dX3_has_9 : decode cX3_has 9 = .ok (.if_icmp .ge 7, 3) := by decide +kernel
theorem dX3_has_12 : decode cX3_has 12 = .ok (.iconst 1, 1) := by decide +kernel
theorem dX3_has_13 : decode cX3_has 13 = .ok (.goto 4, 3) := by decide +kernel
theorem dX3_has_16 : decode cX3_has 16 = .ok (.iconst 0, 1) := by decide +kernel
theorem dX3_has_17 : decode cX3_has 17 = .ok (.ireturn, 1) := by decide +kernel
theorem dX3_signAt_0 : decode cX3_signAt 0 = .ok (.iload_n 1, 1) := by decide +kernel
theorem dX3_signAt_1 : decode cX3_signAt 1 = .ok (.ifCond .lt 20, 3) := by decide +kernel
theorem dX3_signAt_4 : decode cX3_signAt 4 = .ok (.iload_n 1, 1) := by decide +kernel
theorem dX3_signAt_5 : decode cX3_signAt 5 = .ok (.aload_n 0, 1) := by decide +kernel
theorem dX3_signAt_6 : decode cX3_signAt 6 = .ok (.getfield 19, 3) := by decide +kernel
theorem dX3_signAt_9 : decode cX3_signAt 9 = .ok (.if_icmp .ge 12, 3) := by decide +kernel
theorem dX3_signAt_12 : decode cX3_signAt 12 = .ok (.aload_n 0, 1) := by decide +kernel
theorem dX3_signAt_13 : decode cX3_signAt 13 = .ok (.getfield 9, 3) := by decide +kernel
theorem dX3_signAt_16 : decode cX3_signAt 16 = .ok (.iload_n 1, 1) := by decide +kernel
theorem dX3_signAt_17 : decode cX3_signAt 17 = .ok (.baload, 1) := by decide +kernel
theorem dX3_signAt_18 : decode cX3_signAt 18 = .ok (.goto 4, 3) := by decide +kernel
theorem dX3_signAt_21 : decode cX3_signAt 21 = .ok (.iconst 0, 1) := by decide +kernel
theorem dX3_signAt_22 : decode cX3_signAt 22 = .ok (.ireturn, 1) := by decide +kernel
theorem dX3_pieceAt_0 : decode cX3_pieceAt 0 = .ok (.iload_n 1, 1) := by decide +kernel
theorem dX3_pieceAt_1 : decode cX3_pieceAt 1 = .ok (.ifCond .lt 20, 3) := by decide +kernel
theorem dX3_pieceAt_4 : decode cX3_pieceAt 4 = .ok (.iload_n 1, 1) := by decide +kernel
theorem dX3_pieceAt_5 : decode cX3_pieceAt 5 = .ok (.aload_n 0, 1) := by decide +kernel
theorem dX3_pieceAt_6 : decode cX3_pieceAt 6 = .ok (.getfield 19, 3) := by decide +kernel
theorem dX3_pieceAt_9 : decode cX3_pieceAt 9 = .ok (.if_icmp .ge 12, 3) := by decide +kernel
theorem dX3_pieceAt_12 : decode cX3_pieceAt 12 = .ok (.aload_n 0, 1) := by decide +kernel
theorem dX3_pieceAt_13 : decode cX3_pieceAt 13 = .ok (.getfield 15, 3) := by decide +kernel
theorem dX3_pieceAt_16 : decode cX3_pieceAt 16 = .ok (.iload_n 1, 1) := by decide +kernel
theorem dX3_pieceAt_17 : decode cX3_pieceAt 17 = .ok (.iaload, 1) := by decide +kernel
theorem dX3_pieceAt_18 : decode cX3_pieceAt 18 = .ok (.goto 4, 3) := by decide +kernel
theorem dX3_pieceAt_21 : decode cX3_pieceAt 21 = .ok (.iconst 0, 1) := by decide +kernel
theorem dX3_pieceAt_22 : decode cX3_pieceAt 22 = .ok (.ireturn, 1) := by decide +kernel
theorem dX3_piecesIn_0 : decode cX3_piecesIn 0 = .ok (.aload_n 0, 1) := by decide +kernel
theorem dX3_piecesIn_1 : decode cX3_piecesIn 1 = .ok (.iload_n 1, 1) := by decide +kernel
theorem dX3_piecesIn_2 : decode cX3_piecesIn 2 = .ok (.iload_n 2, 1) := by decide +kernel
theorem dX3_piecesIn_3 : decode cX3_piecesIn 3 = .ok (.iadd, 1) := by decide +kernel
theorem dX3_piecesIn_4 : decode cX3_piecesIn 4 = .ok (.iconst 1, 1) := by decide +kernel
theorem dX3_piecesIn_5 : decode cX3_piecesIn 5 = .ok (.isub, 1) := by decide +kernel
theorem dX3_piecesIn_6 : decode cX3_piecesIn 6 = .ok (.invokevirtual 40, 3) := by decide +kernel
theorem dX3_piecesIn_9 : decode cX3_piecesIn 9 = .ok (.aload_n 0, 1) := by decide +kernel
theorem dX3_piecesIn_10 : decode cX3_piecesIn 10 = .ok (.iload_n 1, 1) := by decide +kernel
theorem dX3_piecesIn_11 : decode cX3_piecesIn 11 = .ok (.invokevirtual 40, 3) := by decide +kernel
theorem dX3_piecesIn_14 : decode cX3_piecesIn 14 = .ok (.isub, 1) := by decide +kernel
theorem dX3_piecesIn_15 : decode cX3_piecesIn 15 = .ok (.iconst 1, 1) := by decide +kernel
theorem dX3_piecesIn_16 : decode cX3_piecesIn 16 = .ok (.iadd, 1) := by decide +kernel
theorem dX3_piecesIn_17 : decode cX3_piecesIn 17 = .ok (.ireturn, 1) := by decide +kernel
theorem dX3_breaksIn_0 : decode cX3_breaksIn 0 = .ok (.iconst 0, 1) := by decide +kernel
theorem dX3_breaksIn_1 : decode cX3_breaksIn 1 = .ok (.istore_n 3, 1) := by decide +kernel
theorem dX3_breaksIn_2 : decode cX3_breaksIn 2 = .ok (.iload_n 1, 1) := by decide +kernel
theorem dX3_breaksIn_3 : decode cX3_breaksIn 3 = .ok (.istore 4, 2) := by decide +kernel
theorem dX3_breaksIn_5 : decode cX3_breaksIn 5 = .ok (.iload 4, 2) := by decide +kernel
theorem dX3_breaksIn_7 : decode cX3_breaksIn 7 = .ok (.iload_n 2, 1) := by decide +kernel
theorem dX3_breaksIn_8 : decode cX3_breaksIn 8 = .ok (.if_icmp .ge 32, 3) := by decide +kernel
theorem dX3_breaksIn_11 : decode cX3_breaksIn 11 = .ok (.iload 4, 2) := by decide +kernel
theorem dX3_breaksIn_13 : decode cX3_breaksIn 13 = .ok (.aload_n 0, 1) := by decide +kernel
theorem dX3_breaksIn_14 : decode cX3_breaksIn 14 = .ok (.getfield 19, 3) := by decide +kernel
theorem dX3_breaksIn_17 : decode cX3_breaksIn 17 = .ok (.if_icmp .ge 23, 3) := by decide +kernel
theorem dX3_breaksIn_20 : decode cX3_breaksIn 20 = .ok (.aload_n 0, 1) := by decide +kernel
theorem dX3_breaksIn_21 : decode cX3_breaksIn 21 = .ok (.iload 4, 2) := by decide +kernel
theorem dX3_breaksIn_23 : decode cX3_breaksIn 23 = .ok (.invokevirtual 43, 3) := by decide +kernel
theorem dX3_breaksIn_26 : decode cX3_breaksIn 26 = .ok (.bipush 10, 2) := by decide +kernel
theorem dX3_breaksIn_28 : decode cX3_breaksIn 28 = .ok (.if_icmp .ne 6, 3) := by decide +kernel
theorem dX3_breaksIn_31 : decode cX3_breaksIn 31 = .ok (.iinc 3 1, 3) := by decide +kernel
theorem dX3_breaksIn_34 : decode cX3_breaksIn 34 = .ok (.iinc 4 1, 3) := by decide +kernel
theorem dX3_breaksIn_37 : decode cX3_breaksIn 37 = .ok (.goto (-32), 3) := by decide +kernel
theorem dX3_breaksIn_40 : decode cX3_breaksIn 40 = .ok (.iload_n 3, 1) := by decide +kernel
theorem dX3_breaksIn_41 : decode cX3_breaksIn 41 = .ok (.ireturn, 1) := by decide +kernel
theorem dX3_lineStart_0 : decode cX3_lineStart 0 = .ok (.iload_n 1, 1) := by decide +kernel
theorem dX3_lineStart_1 : decode cX3_lineStart 1 = .ok (.istore_n 2, 1) := by decide +kernel
theorem dX3_lineStart_2 : decode cX3_lineStart 2 = .ok (.iconst 0, 1) := by decide +kernel
theorem dX3_lineStart_3 : decode cX3_lineStart 3 = .ok (.istore_n 3, 1) := by decide +kernel
theorem dX3_lineStart_4 : decode cX3_lineStart 4 = .ok (.iload_n 3, 1) := by decide +kernel
theorem dX3_lineStart_5 : decode cX3_lineStart 5 = .ok (.aload_n 0, 1) := by decide +kernel
theorem dX3_lineStart_6 : decode cX3_lineStart 6 = .ok (.getfield 19, 3) := by decide +kernel
theorem dX3_lineStart_9 : decode cX3_lineStart 9 = .ok (.if_icmp .ge 26, 3) := by decide +kernel
theorem dX3_lineStart_12 : decode cX3_lineStart 12 = .ok (.iload_n 2, 1) := by decide +kernel
theorem dX3_lineStart_13 : decode cX3_lineStart 13 = .ok (.ifCond .le 22, 3) := by decide +kernel
theorem dX3_lineStart_16 : decode cX3_lineStart 16 = .ok (.aload_n 0, 1) := by decide +kernel
theorem dX3_lineStart_17 : decode cX3_lineStart 17 = .ok (.iload_n 3, 1) := by decide +kernel
theorem dX3_lineStart_18 : decode cX3_lineStart 18 = .ok (.invokevirtual 43, 3) := by decide +kernel
theorem dX3_lineStart_21 : decode cX3_lineStart 21 = .ok (.bipush 10, 2) := by decide +kernel
theorem dX3_lineStart_23 : decode cX3_lineStart 23 = .ok (.if_icmp .ne 6, 3) := by decide +kernel
theorem dX3_lineStart_26 : decode cX3_lineStart 26 = .ok (.iinc 2 (-1), 3) := by decide +kernel
theorem dX3_lineStart_29 : decode cX3_lineStart 29 = .ok (.iinc 3 1, 3) := by decide +kernel
theorem dX3_lineStart_32 : decode cX3_lineStart 32 = .ok (.goto (-28), 3) := by decide +kernel
theorem dX3_lineStart_35 : decode cX3_lineStart 35 = .ok (.iload_n 2, 1) := by decide +kernel
theorem dX3_lineStart_36 : decode cX3_lineStart 36 = .ok (.ifCond .ne 7, 3) := by decide +kernel
theorem dX3_lineStart_39 : decode cX3_lineStart 39 = .ok (.iload_n 3, 1) := by decide +kernel
theorem dX3_lineStart_40 : decode cX3_lineStart 40 = .ok (.goto 4, 3) := by decide +kernel
theorem dX3_lineStart_43 : decode cX3_lineStart 43 = .ok (.iconst (-1), 1) := by decide +kernel
theorem dX3_lineStart_44 : decode cX3_lineStart 44 = .ok (.ireturn, 1) := by decide +kernel
theorem dX3_lineBegin_0 : decode cX3_lineBegin 0 = .ok (.iload_n 1, 1) := by decide +kernel
theorem dX3_lineBegin_1 : decode cX3_lineBegin 1 = .ok (.iconst 0, 1) := by decide +kernel
theorem dX3_lineBegin_2 : decode cX3_lineBegin 2 = .ok (.invokestatic 44, 3) := by decide +kernel
theorem dX3_lineBegin_5 : decode cX3_lineBegin 5 = .ok (.istore_n 2, 1) := by decide +kernel
theorem dX3_lineBegin_6 : decode cX3_lineBegin 6 = .ok (.iload_n 2, 1) := by decide +kernel
theorem dX3_lineBegin_7 : decode cX3_lineBegin 7 = .ok (.ifCond .le 21, 3) := by decide +kernel
theorem dX3_lineBegin_10 : decode cX3_lineBegin 10 = .ok (.aload_n 0, 1) := by decide +kernel
theorem dX3_lineBegin_11 : decode cX3_lineBegin 11 = .ok (.iload_n 2, 1) := by decide +kernel
theorem dX3_lineBegin_12 : decode cX3_lineBegin 12 = .ok (.iconst 1, 1) := by decide +kernel
theorem dX3_lineBegin_13 : decode cX3_lineBegin 13 = .ok (.isub, 1) := by decide +kernel
theorem dX3_lineBegin_14 : decode cX3_lineBegin 14 = .ok (.invokevirtual 43, 3) := by decide +kernel
theorem dX3_lineBegin_17 : decode cX3_lineBegin 17 = .ok (.bipush 10, 2) := by decide +kernel
theorem dX3_lineBegin_19 : decode cX3_lineBegin 19 = .ok (.if_icmp .eq 9, 3) := by decide +kernel
theorem dX3_lineBegin_22 : decode cX3_lineBegin 22 = .ok (.iinc 2 (-1), 3) := by decide +kernel
theorem dX3_lineBegin_25 : decode cX3_lineBegin 25 = .ok (.goto (-19), 3) := by decide +kernel
theorem dX3_lineBegin_28 : decode cX3_lineBegin 28 = .ok (.iload_n 2, 1) := by decide +kernel
theorem dX3_lineBegin_29 : decode cX3_lineBegin 29 = .ok (.ireturn, 1) := by decide +kernel
theorem dX3_lineEnd_0 : decode cX3_lineEnd 0 = .ok (.iload_n 1, 1) := by decide +kernel
theorem dX3_lineEnd_1 : decode cX3_lineEnd 1 = .ok (.istore_n 2, 1) := by decide +kernel
theorem dX3_lineEnd_2 : decode cX3_lineEnd 2 = .ok (.iload_n 2, 1) := by decide +kernel
theorem dX3_lineEnd_3 : decode cX3_lineEnd 3 = .ok (.aload_n 0, 1) := by decide +kernel
theorem dX3_lineEnd_4 : decode cX3_lineEnd 4 = .ok (.getfield 19, 3) := by decide +kernel
theorem dX3_lineEnd_7 : decode cX3_lineEnd 7 = .ok (.if_icmp .ge 19, 3) := by decide +kernel
theorem dX3_lineEnd_10 : decode cX3_lineEnd 10 = .ok (.aload_n 0, 1) := by decide +kernel
theorem dX3_lineEnd_11 : decode cX3_lineEnd 11 = .ok (.iload_n 2, 1) := by decide +kernel
theorem dX3_lineEnd_12 : decode cX3_lineEnd 12 = .ok (.invokevirtual 43, 3) := by decide +kernel
theorem dX3_lineEnd_15 : decode cX3_lineEnd 15 = .ok (.bipush 10, 2) := by decide +kernel
theorem dX3_lineEnd_17 : decode cX3_lineEnd 17 = .ok (.if_icmp .eq 9, 3) := by decide +kernel
theorem dX3_lineEnd_20 : decode cX3_lineEnd 20 = .ok (.iinc 2 1, 3) := by decide +kernel
theorem dX3_lineEnd_23 : decode cX3_lineEnd 23 = .ok (.goto (-21), 3) := by decide +kernel
theorem dX3_lineEnd_26 : decode cX3_lineEnd 26 = .ok (.iload_n 2, 1) := by decide +kernel
theorem dX3_lineEnd_27 : decode cX3_lineEnd 27 = .ok (.ireturn, 1) := by decide +kernel
theorem dX3_wordEnd_0 : decode cX3_wordEnd 0 = .ok (.iload_n 1, 1) := by decide +kernel
theorem dX3_wordEnd_1 : decode cX3_wordEnd 1 = .ok (.istore_n 2, 1) := by decide +kernel
theorem dX3_wordEnd_2 : decode cX3_wordEnd 2 = .ok (.iload_n 2, 1) := by decide +kernel
theorem dX3_wordEnd_3 : decode cX3_wordEnd 3 = .ok (.aload_n 0, 1) := by decide +kernel
theorem dX3_wordEnd_4 : decode cX3_wordEnd 4 = .ok (.getfield 19, 3) := by decide +kernel
theorem dX3_wordEnd_7 : decode cX3_wordEnd 7 = .ok (.if_icmp .ge 20, 3) := by decide +kernel
theorem dX3_wordEnd_10 : decode cX3_wordEnd 10 = .ok (.aload_n 0, 1) := by decide +kernel
theorem dX3_wordEnd_11 : decode cX3_wordEnd 11 = .ok (.iload_n 2, 1) := by decide +kernel
theorem dX3_wordEnd_12 : decode cX3_wordEnd 12 = .ok (.invokevirtual 43, 3) := by decide +kernel
theorem dX3_wordEnd_15 : decode cX3_wordEnd 15 = .ok (.invokestatic 50, 3) := by decide +kernel
theorem dX3_wordEnd_18 : decode cX3_wordEnd 18 = .ok (.ifCond .eq 9, 3) := by decide +kernel
theorem dX3_wordEnd_21 : decode cX3_wordEnd 21 = .ok (.iinc 2 1, 3) := by decide +kernel
theorem dX3_wordEnd_24 : decode cX3_wordEnd 24 = .ok (.goto (-22), 3) := by decide +kernel
theorem dX3_wordEnd_27 : decode cX3_wordEnd 27 = .ok (.iload_n 2, 1) := by decide +kernel
theorem dX3_wordEnd_28 : decode cX3_wordEnd 28 = .ok (.ireturn, 1) := by decide +kernel
theorem dX3_rowEnd_0 : decode cX3_rowEnd 0 = .ok (.aload_n 0, 1) := by decide +kernel
theorem dX3_rowEnd_1 : decode cX3_rowEnd 1 = .ok (.iload_n 1, 1) := by decide +kernel
theorem dX3_rowEnd_2 : decode cX3_rowEnd 2 = .ok (.invokevirtual 54, 3) := by decide +kernel
theorem dX3_rowEnd_5 : decode cX3_rowEnd 5 = .ok (.istore_n 3, 1) := by decide +kernel
theorem dX3_rowEnd_6 : decode cX3_rowEnd 6 = .ok (.iload_n 3, 1) := by decide +kernel
theorem dX3_rowEnd_7 : decode cX3_rowEnd 7 = .ok (.iload_n 1, 1) := by decide +kernel
theorem dX3_rowEnd_8 : decode cX3_rowEnd 8 = .ok (.isub, 1) := by decide +kernel
theorem dX3_rowEnd_9 : decode cX3_rowEnd 9 = .ok (.iload_n 2, 1) := by decide +kernel
theorem dX3_rowEnd_10 : decode cX3_rowEnd 10 = .ok (.if_icmp .gt 5, 3) := by decide +kernel
theorem dX3_rowEnd_13 : decode cX3_rowEnd 13 = .ok (.iload_n 3, 1) := by decide +kernel
theorem dX3_rowEnd_14 : decode cX3_rowEnd 14 = .ok (.ireturn, 1) := by decide +kernel
theorem dX3_rowEnd_15 : decode cX3_rowEnd 15 = .ok (.iload_n 1, 1) := by decide +kernel
theorem dX3_rowEnd_16 : decode cX3_rowEnd 16 = .ok (.iload_n 2, 1) := by decide +kernel
theorem dX3_rowEnd_17 : decode cX3_rowEnd 17 = .ok (.iadd, 1) := by decide +kernel
theorem dX3_rowEnd_18 : decode cX3_rowEnd 18 = .ok (.istore 4, 2) := by decide +kernel
theorem dX3_rowEnd_20 : decode cX3_rowEnd 20 = .ok (.iload 4, 2) := by decide +kernel
theorem dX3_rowEnd_22 : decode cX3_rowEnd 22 = .ok (.iload_n 1, 1) := by decide +kernel
theorem dX3_rowEnd_23 : decode cX3_rowEnd 23 = .ok (.if_icmp .le 25, 3) := by decide +kernel
theorem dX3_rowEnd_26 : decode cX3_rowEnd 26 = .ok (.aload_n 0, 1) := by decide +kernel
theorem dX3_rowEnd_27 : decode cX3_rowEnd 27 = .ok (.iload 4, 2) := by decide +kernel
theorem dX3_rowEnd_29 : decode cX3_rowEnd 29 = .ok (.iconst 1, 1) := by decide +kernel
theorem dX3_rowEnd_30 : decode cX3_rowEnd 30 = .ok (.isub, 1) := by decide +kernel
theorem dX3_rowEnd_31 : decode cX3_rowEnd 31 = .ok (.invokevirtual 43, 3) := by decide +kernel
theorem dX3_rowEnd_34 : decode cX3_rowEnd 34 = .ok (.bipush 32, 2) := by decide +kernel
theorem dX3_rowEnd_36 : decode cX3_rowEnd 36 = .ok (.if_icmp .ne 6, 3) := by decide +kernel
theorem dX3_rowEnd_39 : decode cX3_rowEnd 39 = .ok (.iload 4, 2) := by decide +kernel
theorem dX3_rowEnd_41 : decode cX3_rowEnd 41 = .ok (.ireturn, 1) := by decide +kernel
theorem dX3_rowEnd_42 : decode cX3_rowEnd 42 = .ok (.iinc 4 (-1), 3) := by decide +kernel
theorem dX3_rowEnd_45 : decode cX3_rowEnd 45 = .ok (.goto (-25), 3) := by decide +kernel
theorem dX3_rowEnd_48 : decode cX3_rowEnd 48 = .ok (.iload_n 1, 1) := by decide +kernel
theorem dX3_rowEnd_49 : decode cX3_rowEnd 49 = .ok (.iload_n 2, 1) := by decide +kernel
theorem dX3_rowEnd_50 : decode cX3_rowEnd 50 = .ok (.iadd, 1) := by decide +kernel
theorem dX3_rowEnd_51 : decode cX3_rowEnd 51 = .ok (.ireturn, 1) := by decide +kernel
theorem dX3_sumOf_0 : decode cX3_sumOf 0 = .ok (.bipush 7, 2) := by decide +kernel
theorem dX3_sumOf_2 : decode cX3_sumOf 2 = .ok (.istore_n 3, 1) := by decide +kernel
theorem dX3_sumOf_3 : decode cX3_sumOf 3 = .ok (.iload_n 1, 1) := by decide +kernel
theorem dX3_sumOf_4 : decode cX3_sumOf 4 = .ok (.istore 4, 2) := by decide +kernel
theorem dX3_sumOf_6 : decode cX3_sumOf 6 = .ok (.iload 4, 2) := by decide +kernel
theorem dX3_sumOf_8 : decode cX3_sumOf 8 = .ok (.iload_n 2, 1) := by decide +kernel
theorem dX3_sumOf_9 : decode cX3_sumOf 9 = .ok (.if_icmp .ge 21, 3) := by decide +kernel
theorem dX3_sumOf_12 : decode cX3_sumOf 12 = .ok (.bipush 31, 2) := by decide +kernel
theorem dX3_sumOf_14 : decode cX3_sumOf 14 = .ok (.iload_n 3, 1) := by decide +kernel
theorem dX3_sumOf_15 : decode cX3_sumOf 15 = .ok (.imul, 1) := by decide +kernel
theorem dX3_sumOf_16 : decode cX3_sumOf 16 = .ok (.aload_n 0, 1) := by decide +kernel
theorem dX3_sumOf_17 : decode cX3_sumOf 17 = .ok (.iload 4, 2) := by decide +kernel
theorem dX3_sumOf_19 : decode cX3_sumOf 19 = .ok (.invokevirtual 43, 3) := by decide +kernel
theorem dX3_sumOf_22 : decode cX3_sumOf 22 = .ok (.iadd, 1) := by decide +kernel
theorem dX3_sumOf_23 : decode cX3_sumOf 23 = .ok (.istore_n 3, 1) := by decide +kernel
theorem dX3_sumOf_24 : decode cX3_sumOf 24 = .ok (.iinc 4 1, 3) := by decide +kernel
theorem dX3_sumOf_27 : decode cX3_sumOf 27 = .ok (.goto (-21), 3) := by decide +kernel
theorem dX3_sumOf_30 : decode cX3_sumOf 30 = .ok (.iload_n 3, 1) := by decide +kernel
theorem dX3_sumOf_31 : decode cX3_sumOf 31 = .ok (.ireturn, 1) := by decide +kernel
theorem dX3_fillFallbacks_0 : decode cX3_fillFallbacks 0 = .ok (.iconst 0, 1) := by decide +kernel
theorem dX3_fillFallbacks_1 : decode cX3_fillFallbacks 1 = .ok (.istore_n 3, 1) := by decide +kernel
theorem dX3_fillFallbacks_2 : decode cX3_fillFallbacks 2 = .ok (.iconst 0, 1) := by decide +kernel
theorem dX3_fillFallbacks_3 : decode cX3_fillFallbacks 3 = .ok (.istore 4, 2) := by decide +kernel
theorem dX3_fillFallbacks_5 : decode cX3_fillFallbacks 5 = .ok (.iload_n 1, 1) := by decide +kernel
theorem dX3_fillFallbacks_6 : decode cX3_fillFallbacks 6 = .ok (.iload 4, 2) := by decide +kernel
theorem dX3_fillFallbacks_8 : decode cX3_fillFallbacks 8 = .ok (.iadd, 1) := by decide +kernel
theorem dX3_fillFallbacks_9 : decode cX3_fillFallbacks 9 = .ok (.aload_n 0, 1) := by decide +kernel
theorem dX3_fillFallbacks_10 : decode cX3_fillFallbacks 10 = .ok (.getfield 19, 3) := by decide +kernel
theorem dX3_fillFallbacks_13 : decode cX3_fillFallbacks 13 = .ok (.if_icmp .ge 42, 3) := by decide +kernel
theorem dX3_fillFallbacks_16 : decode cX3_fillFallbacks 16 = .ok (.iload 4, 2) := by decide +kernel
theorem dX3_fillFallbacks_18 : decode cX3_fillFallbacks 18 = .ok (.aload_n 2, 1) := by decide +kernel
theorem dX3_fillFallbacks_19 : decode cX3_fillFallbacks 19 = .ok (.arraylength, 1) := by decide +kernel
theorem dX3_fillFallbacks_20 : decode cX3_fillFallbacks 20 = .ok (.if_icmp .ge 35, 3) := by decide +kernel
theorem dX3_fillFallbacks_23 : decode cX3_fillFallbacks 23 = .ok (.iload 4, 2) := by decide +kernel
theorem dX3_fillFallbacks_25 : decode cX3_fillFallbacks 25 = .ok (.ifCond .le 19, 3) := by decide +kernel
theorem dX3_fillFallbacks_28 : decode cX3_fillFallbacks 28 = .ok (.aload_n 0, 1) := by decide +kernel
theorem dX3_fillFallbacks_29 : decode cX3_fillFallbacks 29 = .ok (.iload_n 1, 1) := by decide +kernel
theorem dX3_fillFallbacks_30 : decode cX3_fillFallbacks 30 = .ok (.iload_n 3, 1) := by decide +kernel
theorem dX3_fillFallbacks_31 : decode cX3_fillFallbacks 31 = .ok (.aload_n 0, 1) := by decide +kernel
theorem dX3_fillFallbacks_32 : decode cX3_fillFallbacks 32 = .ok (.iload_n 1, 1) := by decide +kernel
theorem dX3_fillFallbacks_33 : decode cX3_fillFallbacks 33 = .ok (.iload 4, 2) := by decide +kernel
theorem dX3_fillFallbacks_35 : decode cX3_fillFallbacks 35 = .ok (.iadd, 1) := by decide +kernel
theorem dX3_fillFallbacks_36 : decode cX3_fillFallbacks 36 = .ok (.invokevirtual 43, 3) := by decide +kernel
theorem dX3_fillFallbacks_39 : decode cX3_fillFallbacks 39 = .ok (.aload_n 2, 1) := by decide +kernel
theorem dX3_fillFallbacks_40 : decode cX3_fillFallbacks 40 = .ok (.invokevirtual 57, 3) := by decide +kernel
theorem dX3_fillFallbacks_43 : decode cX3_fillFallbacks 43 = .ok (.istore_n 3, 1) := by decide +kernel
theorem dX3_fillFallbacks_44 : decode cX3_fillFallbacks 44 = .ok (.aload_n 2, 1) := by decide +kernel
theorem dX3_fillFallbacks_45 : decode cX3_fillFallbacks 45 = .ok (.iload 4, 2) := by decide +kernel
theorem dX3_fillFallbacks_47 : decode cX3_fillFallbacks 47 = .ok (.iload_n 3, 1) := by decide +kernel
theorem dX3_fillFallbacks_48 : decode cX3_fillFallbacks 48 = .ok (.iastore, 1) := by decide +kernel
theorem dX3_fillFallbacks_49 : decode cX3_fillFallbacks 49 = .ok (.iinc 4 1, 3) := by decide +kernel
theorem dX3_fillFallbacks_52 : decode cX3_fillFallbacks 52 = .ok (.goto (-47), 3) := by decide +kernel
theorem dX3_fillFallbacks_55 : decode cX3_fillFallbacks 55 = .ok (.return_, 1) := by decide +kernel
theorem dX3_holdOn_0 : decode cX3_holdOn 0 = .ok (.iload_n 2, 1) := by decide +kernel
theorem dX3_holdOn_1 : decode cX3_holdOn 1 = .ok (.aload 4, 2) := by decide +kernel
theorem dX3_holdOn_3 : decode cX3_holdOn 3 = .ok (.arraylength, 1) := by decide +kernel
theorem dX3_holdOn_4 : decode cX3_holdOn 4 = .ok (.invokestatic 61, 3) := by decide +kernel
theorem dX3_holdOn_7 : decode cX3_holdOn 7 = .ok (.istore 5, 2) := by decide +kernel
theorem dX3_holdOn_9 : decode cX3_holdOn 9 = .ok (.iload 5, 2) := by decide +kernel
theorem dX3_holdOn_11 : decode cX3_holdOn 11 = .ok (.ifCond .le 34, 3) := by decide +kernel
theorem dX3_holdOn_14 : decode cX3_holdOn 14 = .ok (.aload_n 0, 1) := by decide +kernel
theorem dX3_holdOn_15 : decode cX3_holdOn 15 = .ok (.iload_n 1, 1) := by decide +kernel
theorem dX3_holdOn_16 : decode cX3_holdOn 16 = .ok (.iload 5, 2) := by decide +kernel
theorem dX3_holdOn_18 : decode cX3_holdOn 18 = .ok (.iadd, 1) := by decide +kernel
theorem dX3_holdOn_19 : decode cX3_holdOn 19 = .ok (.invokevirtual 43, 3) := by decide +kernel
theorem dX3_holdOn_22 : decode cX3_holdOn 22 = .ok (.iload_n 3, 1) := by decide +kernel
theorem dX3_holdOn_23 : decode cX3_holdOn 23 = .ok (.if_icmp .eq 22, 3) := by decide +kernel
theorem dX3_holdOn_26 : decode cX3_holdOn 26 = .ok (.aload 4, 2) := by decide +kernel
theorem dX3_holdOn_28 : decode cX3_holdOn 28 = .ok (.iload 5, 2) := by decide +kernel
theorem dX3_holdOn_30 : decode cX3_holdOn 30 = .ok (.iconst 1, 1) := by decide +kernel
theorem dX3_holdOn_31 : decode cX3_holdOn 31 = .ok (.isub, 1) := by decide +kernel
theorem dX3_holdOn_32 : decode cX3_holdOn 32 = .ok (.iaload, 1) := by decide +kernel
theorem dX3_holdOn_33 : decode cX3_holdOn 33 = .ok (.iload 5, 2) := by decide +kernel
theorem dX3_holdOn_35 : decode cX3_holdOn 35 = .ok (.iconst 1, 1) := by decide +kernel
theorem dX3_holdOn_36 : decode cX3_holdOn 36 = .ok (.isub, 1) := by decide +kernel
theorem dX3_holdOn_37 : decode cX3_holdOn 37 = .ok (.invokestatic 61, 3) := by decide +kernel
theorem dX3_holdOn_40 : decode cX3_holdOn 40 = .ok (.istore 5, 2) := by decide +kernel
theorem dX3_holdOn_42 : decode cX3_holdOn 42 = .ok (.goto (-33), 3) := by decide +kernel
theorem dX3_holdOn_45 : decode cX3_holdOn 45 = .ok (.aload_n 0, 1) := by decide +kernel
theorem dX3_holdOn_46 : decode cX3_holdOn 46 = .ok (.iload_n 1, 1) := by decide +kernel
theorem dX3_holdOn_47 : decode cX3_holdOn 47 = .ok (.iload 5, 2) := by decide +kernel
theorem dX3_holdOn_49 : decode cX3_holdOn 49 = .ok (.iadd, 1) := by decide +kernel
theorem dX3_holdOn_50 : decode cX3_holdOn 50 = .ok (.invokevirtual 43, 3) := by decide +kernel
theorem dX3_holdOn_53 : decode cX3_holdOn 53 = .ok (.iload_n 3, 1) := by decide +kernel
theorem dX3_holdOn_54 : decode cX3_holdOn 54 = .ok (.if_icmp .ne 10, 3) := by decide +kernel
theorem dX3_holdOn_57 : decode cX3_holdOn 57 = .ok (.iload 5, 2) := by decide +kernel
theorem dX3_holdOn_59 : decode cX3_holdOn 59 = .ok (.iconst 1, 1) := by decide +kernel
theorem dX3_holdOn_60 : decode cX3_holdOn 60 = .ok (.iadd, 1) := by decide +kernel
theorem dX3_holdOn_61 : decode cX3_holdOn 61 = .ok (.goto 5, 3) := by decide +kernel
theorem dX3_holdOn_64 : decode cX3_holdOn 64 = .ok (.iload 5, 2) := by decide +kernel
theorem dX3_holdOn_66 : decode cX3_holdOn 66 = .ok (.ireturn, 1) := by decide +kernel
theorem dX4_init_0 : decode cX4_init 0 = .ok (.aload_n 0, 1) := by decide +kernel
theorem dX4_init_1 : decode cX4_init 1 = .ok (.invokespecial 3, 3) := by decide +kernel
theorem dX4_init_4 : decode cX4_init 4 = .ok (.aload_n 0, 1) := by decide +kernel
theorem dX4_init_5 : decode cX4_init 5 = .ok (.sipush 7600, 3) := by decide +kernel
theorem dX4_init_8 : decode cX4_init 8 = .ok (.newarray .byte, 2) := by decide +kernel
theorem dX4_init_10 : decode cX4_init 10 = .ok (.putfield 9, 3) := by decide +kernel
theorem dX4_init_13 : decode cX4_init 13 = .ok (.return_, 1) := by decide +kernel
theorem dX4_sizeOf_0 : decode cX4_sizeOf 0 = .ok (.iload_n 1, 1) := by decide +kernel
theorem dX4_sizeOf_1 : decode cX4_sizeOf 1 = .ok (.ifCond .ne 10, 3) := by decide +kernel
theorem dX4_sizeOf_4 : decode cX4_sizeOf 4 = .ok (.aload_n 0, 1) := by decide +kernel
theorem dX4_sizeOf_5 : decode cX4_sizeOf 5 = .ok (.getfield 15, 3) := by decide +kernel
theorem dX4_sizeOf_8 : decode cX4_sizeOf 8 = .ok (.goto 7, 3) := by decide +kernel
theorem dX4_sizeOf_11 : decode cX4_sizeOf 11 = .ok (.aload_n 0, 1) := by decide +kernel
theorem dX4_sizeOf_12 : decode cX4_sizeOf 12 = .ok (.getfield 19, 3) := by decide +kernel
theorem dX4_sizeOf_15 : decode cX4_sizeOf 15 = .ok (.ireturn, 1) := by decide +kernel
theorem dX4_addedEnd_0 : decode cX4_addedEnd 0 = .ok (.sipush 1600, 3) := by decide +kernel
theorem dX4_addedEnd_3 : decode cX4_addedEnd 3 = .ok (.aload_n 0, 1) := by decide +kernel
theorem dX4_addedEnd_4 : decode cX4_addedEnd 4 = .ok (.getfield 19, 3) := by decide +kernel
theorem dX4_addedEnd_7 : decode cX4_addedEnd 7 = .ok (.iadd, 1) := by decide +kernel
theorem dX4_addedEnd_8 : decode cX4_addedEnd 8 = .ok (.ireturn, 1) := by decide +kernel
theorem dX4_signAt_0 : decode cX4_signAt 0 = .ok (.iload_n 1, 1) := by decide +kernel
theorem dX4_signAt_1 : decode cX4_signAt 1 = .ok (.ifCond .lt 21, 3) := by decide +kernel
theorem dX4_signAt_4 : decode cX4_signAt 4 = .ok (.iload_n 1, 1) := by decide +kernel
theorem dX4_signAt_5 : decode cX4_signAt 5 = .ok (.aload_n 0, 1) := by decide +kernel
theorem dX4_signAt_6 : decode cX4_signAt 6 = .ok (.getfield 9, 3) := by decide +kernel
theorem dX4_signAt_9 : decode cX4_signAt 9 = .ok (.arraylength, 1) := by decide +kernel
theorem dX4_signAt_10 : decode cX4_signAt 10 = .ok (.if_icmp .ge 12, 3) := by decide +kernel
theorem dX4_signAt_13 : decode cX4_signAt 13 = .ok (.aload_n 0, 1) := by decide +kernel
theorem dX4_signAt_14 : decode cX4_signAt 14 = .ok (.getfield 9, 3) := by decide +kernel
theorem dX4_signAt_17 : decode cX4_signAt 17 = .ok (.iload_n 1, 1) := by decide +kernel
theorem dX4_signAt_18 : decode cX4_signAt 18 = .ok (.baload, 1) := by decide +kernel
theorem dX4_signAt_19 : decode cX4_signAt 19 = .ok (.goto 4, 3) := by decide +kernel
theorem dX4_signAt_22 : decode cX4_signAt 22 = .ok (.iconst 0, 1) := by decide +kernel
theorem dX4_signAt_23 : decode cX4_signAt 23 = .ok (.ireturn, 1) := by decide +kernel
theorem dX4_renew_0 : decode cX4_renew 0 = .ok (.aload_n 0, 1) := by decide +kernel
theorem dX4_renew_1 : decode cX4_renew 1 = .ok (.iconst 0, 1) := by decide +kernel
theorem dX4_renew_2 : decode cX4_renew 2 = .ok (.putfield 15, 3) := by decide +kernel
theorem dX4_renew_5 : decode cX4_renew 5 = .ok (.aload_n 0, 1) := by decide +kernel
theorem dX4_renew_6 : decode cX4_renew 6 = .ok (.iconst 0, 1) := by decide +kernel
theorem dX4_renew_7 : decode cX4_renew 7 = .ok (.putfield 19, 3) := by decide +kernel
theorem dX4_renew_10 : decode cX4_renew 10 = .ok (.iconst 0, 1) := by decide +kernel
theorem dX4_renew_11 : decode cX4_renew 11 = .ok (.istore 4, 2) := by decide +kernel
theorem dX4_renew_13 : decode cX4_renew 13 = .ok (.iload 4, 2) := by decide +kernel
theorem dX4_renew_15 : decode cX4_renew 15 = .ok (.iload_n 3, 1) := by decide +kernel
theorem dX4_renew_16 : decode cX4_renew 16 = .ok (.if_icmp .ge 65, 3) := by decide +kernel
theorem dX4_renew_19 : decode cX4_renew 19 = .ok (.iconst 0, 1) := by decide +kernel
theorem dX4_renew_20 : decode cX4_renew 20 = .ok (.istore 5, 2) := by decide +kernel
theorem dX4_renew_22 : decode cX4_renew 22 = .ok (.iload 5, 2) := by decide +kernel
theorem dX4_renew_24 : decode cX4_renew 24 = .ok (.iload_n 2, 1) := by decide +kernel
theorem dX4_renew_25 : decode cX4_renew 25 = .ok (.if_icmp .ge 50, 3) := by decide +kernel
theorem dX4_renew_28 : decode cX4_renew 28 = .ok (.iload 5, 2) := by decide +kernel
theorem dX4_renew_30 : decode cX4_renew 30 = .ok (.aload_n 1, 1) := by decide +kernel
theorem dX4_renew_31 : decode cX4_renew 31 = .ok (.arraylength, 1) := by decide +kernel
theorem dX4_renew_32 : decode cX4_renew 32 = .ok (.if_icmp .ge 43, 3) := by decide +kernel
theorem dX4_renew_35 : decode cX4_renew 35 = .ok (.aload_n 0, 1) := by decide +kernel
theorem dX4_renew_36 : decode cX4_renew 36 = .ok (.getfield 15, 3) := by decide +kernel
theorem dX4_renew_39 : decode cX4_renew 39 = .ok (.sipush 1600, 3) := by decide +kernel
theorem dX4_renew_42 : decode cX4_renew 42 = .ok (.if_icmp .ge 33, 3) := by decide +kernel
theorem dX4_renew_45 : decode cX4_renew 45 = .ok (.aload_n 0, 1) := by decide +kernel
theorem dX4_renew_46 : decode cX4_renew 46 = .ok (.getfield 9, 3) := by decide +kernel
theorem dX4_renew_49 : decode cX4_renew 49 = .ok (.aload_n 0, 1) := by decide +kernel
theorem dX4_renew_50 : decode cX4_renew 50 = .ok (.getfield 15, 3) := by decide +kernel
theorem dX4_renew_53 : decode cX4_renew 53 = .ok (.aload_n 1, 1) := by decide +kernel
theorem dX4_renew_54 : decode cX4_renew 54 = .ok (.iload 5, 2) := by decide +kernel
theorem dX4_renew_56 : decode cX4_renew 56 = .ok (.iaload, 1) := by decide +kernel
theorem dX4_renew_57 : decode cX4_renew 57 = .ok (.i2b, 1) := by decide +kernel
theorem dX4_renew_58 : decode cX4_renew 58 = .ok (.bastore, 1) := by decide +kernel
theorem dX4_renew_59 : decode cX4_renew 59 = .ok (.aload_n 0, 1) := by decide +kernel
theorem dX4_renew_60 : decode cX4_renew 60 = .ok (.dup, 1) := by decide +kernel
theorem dX4_renew_61 : decode cX4_renew 61 = .ok (.getfield 15, 3) := by decide +kernel
theorem dX4_renew_64 : decode cX4_renew 64 = .ok (.iconst 1, 1) := by decide +kernel
theorem dX4_renew_65 : decode cX4_renew 65 = .ok (.iadd, 1) := by decide +kernel
theorem dX4_renew_66 : decode cX4_renew 66 = .ok (.putfield 15, 3) := by decide +kernel
theorem dX4_renew_69 : decode cX4_renew 69 = .ok (.iinc 5 1, 3) := by decide +kernel
theorem dX4_renew_72 : decode cX4_renew 72 = .ok (.goto (-50), 3) := by decide +kernel
theorem dX4_renew_75 : decode cX4_renew 75 = .ok (.iinc 4 1, 3) := by decide +kernel
theorem dX4_renew_78 : decode cX4_renew 78 = .ok (.goto (-65), 3) := by decide +kernel
theorem dX4_renew_81 : decode cX4_renew 81 = .ok (.return_, 1) := by decide +kernel
theorem dX4_add_0 : decode cX4_add 0 = .ok (.aload_n 0, 1) := by decide +kernel
theorem dX4_add_1 : decode cX4_add 1 = .ok (.getfield 19, 3) := by decide +kernel
theorem dX4_add_4 : decode cX4_add 4 = .ok (.sipush 6000, 3) := by decide +kernel
theorem dX4_add_7 : decode cX4_add 7 = .ok (.if_icmp .ge 28, 3) := by decide +kernel
theorem dX4_add_10 : decode cX4_add 10 = .ok (.aload_n 0, 1) := by decide +kernel
theorem dX4_add_11 : decode cX4_add 11 = .ok (.getfield 9, 3) := by decide +kernel
theorem dX4_add_14 : decode cX4_add 14 = .ok (.sipush 1600, 3) := by decide +kernel
theorem dX4_add_17 : decode cX4_add 17 = .ok (.aload_n 0, 1) := by decide +kernel
theorem dX4_add_18 : decode cX4_add 18 = .ok (.getfield 19, 3) := by decide +kernel
theorem dX4_add_21 : decode cX4_add 21 = .ok (.iadd, 1) := by decide +kernel
theorem dX4_add_22 : decode cX4_add 22 = .ok (.iload_n 1, 1) := by decide +kernel
theorem dX4_add_23 : decode cX4_add 23 = .ok (.i2b, 1) := by decide +kernel
theorem dX4_add_24 : decode cX4_add 24 = .ok (.bastore, 1) := by decide +kernel
theorem dX4_add_25 : decode cX4_add 25 = .ok (.aload_n 0, 1) := by decide +kernel
theorem dX4_add_26 : decode cX4_add 26 = .ok (.dup, 1) := by decide +kernel
theorem dX4_add_27 : decode cX4_add 27 = .ok (.getfield 19, 3) := by decide +kernel
theorem dX4_add_30 : decode cX4_add 30 = .ok (.iconst 1, 1) := by decide +kernel
theorem dX4_add_31 : decode cX4_add 31 = .ok (.iadd, 1) := by decide +kernel
theorem dX4_add_32 : decode cX4_add 32 = .ok (.putfield 19, 3) := by decide +kernel
theorem dX4_add_35 : decode cX4_add 35 = .ok (.return_, 1) := by decide +kernel
theorem dX4_addText_0 : decode cX4_addText 0 = .ok (.iconst 0, 1) := by decide +kernel
theorem dX4_addText_1 : decode cX4_addText 1 = .ok (.istore_n 3, 1) := by decide +kernel
theorem dX4_addText_2 : decode cX4_addText 2 = .ok (.iload_n 3, 1) := by decide +kernel
theorem dX4_addText_3 : decode cX4_addText 3 = .ok (.iload_n 2, 1) := by decide +kernel
theorem dX4_addText_4 : decode cX4_addText 4 = .ok (.if_icmp .ge 22, 3) := by decide +kernel
theorem dX4_addText_7 : decode cX4_addText 7 = .ok (.iload_n 3, 1) := by decide +kernel
theorem dX4_addText_8 : decode cX4_addText 8 = .ok (.aload_n 1, 1) := by decide +kernel
theorem dX4_addText_9 : decode cX4_addText 9 = .ok (.arraylength, 1) := by decide +kernel
theorem dX4_addText_10 : decode cX4_addText 10 = .ok (.if_icmp .ge 16, 3) := by decide +kernel
theorem dX4_addText_13 : decode cX4_addText 13 = .ok (.aload_n 0, 1) := by decide +kernel
theorem dX4_addText_14 : decode cX4_addText 14 = .ok (.aload_n 1, 1) := by decide +kernel
theorem dX4_addText_15 : decode cX4_addText 15 = .ok (.iload_n 3, 1) := by decide +kernel
theorem dX4_addText_16 : decode cX4_addText 16 = .ok (.iaload, 1) := by decide +kernel
theorem dX4_addText_17 : decode cX4_addText 17 = .ok (.invokevirtual 22, 3) := by decide +kernel
theorem dX4_addText_20 : decode cX4_addText 20 = .ok (.iinc 3 1, 3) := by decide +kernel
theorem dX4_addText_23 : decode cX4_addText 23 = .ok (.goto (-21), 3) := by decide +kernel
theorem dX4_addText_26 : decode cX4_addText 26 = .ok (.return_, 1) := by decide +kernel
theorem dX4_addBlanks_0 : decode cX4_addBlanks 0 = .ok (.iconst 0, 1) := by decide +kernel
theorem dX4_addBlanks_1 : decode cX4_addBlanks 1 = .ok (.istore_n 2, 1) := by decide +kernel
theorem dX4_addBlanks_2 : decode cX4_addBlanks 2 = .ok (.iload_n 2, 1) := by decide +kernel
theorem dX4_addBlanks_3 : decode cX4_addBlanks 3 = .ok (.iload_n 1, 1) := by decide +kernel
theorem dX4_addBlanks_4 : decode cX4_addBlanks 4 = .ok (.if_icmp .ge 15, 3) := by decide +kernel
theorem dX4_addBlanks_7 : decode cX4_addBlanks 7 = .ok (.aload_n 0, 1) := by decide +kernel
theorem dX4_addBlanks_8 : decode cX4_addBlanks 8 = .ok (.bipush 32, 2) := by decide +kernel
theorem dX4_addBlanks_10 : decode cX4_addBlanks 10 = .ok (.invokevirtual 22, 3) := by decide +kernel
theorem dX4_addBlanks_13 : decode cX4_addBlanks 13 = .ok (.iinc 2 1, 3) := by decide +kernel
theorem dX4_addBlanks_16 : decode cX4_addBlanks 16 = .ok (.goto (-14), 3) := by decide +kernel
theorem dX4_addBlanks_19 : decode cX4_addBlanks 19 = .ok (.return_, 1) := by decide +kernel
theorem dX4_breaksIn_0 : decode cX4_breaksIn 0 = .ok (.iconst 0, 1) := by decide +kernel
theorem dX4_breaksIn_1 : decode cX4_breaksIn 1 = .ok (.istore_n 3, 1) := by decide +kernel
theorem dX4_breaksIn_2 : decode cX4_breaksIn 2 = .ok (.iload_n 1, 1) := by decide +kernel
theorem dX4_breaksIn_3 : decode cX4_breaksIn 3 = .ok (.istore 4, 2) := by decide +kernel
theorem dX4_breaksIn_5 : decode cX4_breaksIn 5 = .ok (.iload 4, 2) := by decide +kernel
theorem dX4_breaksIn_7 : decode cX4_breaksIn 7 = .ok (.iload_n 1, 1) := by decide +kernel
theorem dX4_breaksIn_8 : decode cX4_breaksIn 8 = .ok (.iload_n 2, 1) := by decide +kernel
theorem dX4_breaksIn_9 : decode cX4_breaksIn 9 = .ok (.iadd, 1) := by decide +kernel
theorem dX4_breaksIn_10 : decode cX4_breaksIn 10 = .ok (.if_icmp .ge 23, 3) := by decide +kernel
theorem dX4_breaksIn_13 : decode cX4_breaksIn 13 = .ok (.aload_n 0, 1) := by decide +kernel
theorem dX4_breaksIn_14 : decode cX4_breaksIn 14 = .ok (.iload 4, 2) := by decide +kernel
theorem dX4_breaksIn_16 : decode cX4_breaksIn 16 = .ok (.invokevirtual 26, 3) := by decide +kernel
theorem dX4_breaksIn_19 : decode cX4_breaksIn 19 = .ok (.bipush 10, 2) := by decide +kernel
theorem dX4_breaksIn_21 : decode cX4_breaksIn 21 = .ok (.if_icmp .ne 6, 3) := by decide +kernel
theorem dX4_breaksIn_24 : decode cX4_breaksIn 24 = .ok (.iinc 3 1, 3) := by decide +kernel
theorem dX4_breaksIn_27 : decode cX4_breaksIn 27 = .ok (.iinc 4 1, 3) := by decide +kernel
theorem dX4_breaksIn_30 : decode cX4_breaksIn 30 = .ok (.goto (-25), 3) := by decide +kernel
theorem dX4_breaksIn_33 : decode cX4_breaksIn 33 = .ok (.iload_n 3, 1) := by decide +kernel
theorem dX4_breaksIn_34 : decode cX4_breaksIn 34 = .ok (.ireturn, 1) := by decide +kernel
theorem dX5_init_0 : decode cX5_init 0 = .ok (.aload_n 0, 1) := by decide +kernel
theorem dX5_init_1 : decode cX5_init 1 = .ok (.invokespecial 3, 3) := by decide +kernel
theorem dX5_init_4 : decode cX5_init 4 = .ok (.aload_n 0, 1) := by decide +kernel
theorem dX5_init_5 : decode cX5_init 5 = .ok (.bipush 16, 2) := by decide +kernel
theorem dX5_init_7 : decode cX5_init 7 = .ok (.newarray .long, 2) := by decide +kernel
theorem dX5_init_9 : decode cX5_init 9 = .ok (.putfield 9, 3) := by decide +kernel
theorem dX5_init_12 : decode cX5_init 12 = .ok (.return_, 1) := by decide +kernel
theorem dX5_clear_0 : decode cX5_clear 0 = .ok (.aload_n 0, 1) := by decide +kernel
theorem dX5_clear_1 : decode cX5_clear 1 = .ok (.iconst 0, 1) := by decide +kernel
theorem dX5_clear_2 : decode cX5_clear 2 = .ok (.putfield 15, 3) := by decide +kernel
theorem dX5_clear_5 : decode cX5_clear 5 = .ok (.return_, 1) := by decide +kernel
theorem dX5_add_0 : decode cX5_add 0 = .ok (.aload_n 0, 1) := by decide +kernel
theorem dX5_add_1 : decode cX5_add 1 = .ok (.getfield 15, 3) := by decide +kernel
theorem dX5_add_4 : decode cX5_add 4 = .ok (.aload_n 0, 1) := by decide +kernel
theorem dX5_add_5 : decode cX5_add 5 = .ok (.getfield 9, 3) := by decide +kernel
theorem dX5_add_8 : decode cX5_add 8 = .ok (.arraylength, 1) := by decide +kernel
theorem dX5_add_9 : decode cX5_add 9 = .ok (.if_icmp .ge 23, 3) := by decide +kernel
theorem dX5_add_12 : decode cX5_add 12 = .ok (.aload_n 0, 1) := by decide +kernel
theorem dX5_add_13 : decode cX5_add 13 = .ok (.getfield 9, 3) := by decide +kernel
theorem dX5_add_16 : decode cX5_add 16 = .ok (.aload_n 0, 1) := by decide +kernel
theorem dX5_add_17 : decode cX5_add 17 = .ok (.getfield 15, 3) := by decide +kernel
theorem dX5_add_20 : decode cX5_add 20 = .ok (.lload_n 1, 1) := by decide +kernel
theorem dX5_add_21 : decode cX5_add 21 = .ok (.lastore, 1) := by decide +kernel
theorem dX5_add_22 : decode cX5_add 22 = .ok (.aload_n 0, 1) := by decide +kernel
theorem dX5_add_23 : decode cX5_add 23 = .ok (.dup, 1) := by decide +kernel
theorem dX5_add_24 : decode cX5_add 24 = .ok (.getfield 15, 3) := by decide +kernel
theorem dX5_add_27 : decode cX5_add 27 = .ok (.iconst 1, 1) := by decide +kernel
theorem dX5_add_28 : decode cX5_add 28 = .ok (.iadd, 1) := by decide +kernel
theorem dX5_add_29 : decode cX5_add 29 = .ok (.putfield 15, 3) := by decide +kernel
theorem dX5_add_32 : decode cX5_add 32 = .ok (.return_, 1) := by decide +kernel
theorem dX5_tell_0 : decode cX5_tell 0 = .ok (.aload_n 0, 1) := by decide +kernel
theorem dX5_tell_1 : decode cX5_tell 1 = .ok (.invokevirtual 19, 3) := by decide +kernel
theorem dX5_tell_4 : decode cX5_tell 4 = .ok (.aload_n 0, 1) := by decide +kernel
theorem dX5_tell_5 : decode cX5_tell 5 = .ok (.lload_n 1, 1) := by decide +kernel
theorem dX5_tell_6 : decode cX5_tell 6 = .ok (.invokevirtual 22, 3) := by decide +kernel
theorem dX5_tell_9 : decode cX5_tell 9 = .ok (.return_, 1) := by decide +kernel
theorem dX5_tell__0 : decode cX5_tell_ 0 = .ok (.aload_n 0, 1) := by decide +kernel
theorem dX5_tell__1 : decode cX5_tell_ 1 = .ok (.lload_n 1, 1) := by decide +kernel
theorem dX5_tell__2 : decode cX5_tell_ 2 = .ok (.invokevirtual 26, 3) := by decide +kernel
theorem dX5_tell__5 : decode cX5_tell_ 5 = .ok (.aload_n 0, 1) := by decide +kernel
theorem dX5_tell__6 : decode cX5_tell_ 6 = .ok (.lload_n 3, 1) := by decide +kernel
theorem dX5_tell__7 : decode cX5_tell_ 7 = .ok (.invokevirtual 22, 3) := by decide +kernel
theorem dX5_tell__10 : decode cX5_tell_ 10 = .ok (.return_, 1) := by decide +kernel
theorem dX5_tell___0 : decode cX5_tell__ 0 = .ok (.aload_n 0, 1) := by decide +kernel
theorem dX5_tell___1 : decode cX5_tell__ 1 = .ok (.lload_n 1, 1) := by decide +kernel
theorem dX5_tell___2 : decode cX5_tell__ 2 = .ok (.lload_n 3, 1) := by decide +kernel
theorem dX5_tell___3 : decode cX5_tell__ 3 = .ok (.invokevirtual 29, 3) := by decide +kernel
theorem dX5_tell___6 : decode cX5_tell__ 6 = .ok (.aload_n 0, 1) := by decide +kernel
theorem dX5_tell___7 : decode cX5_tell__ 7 = .ok (.lload 5, 2) := by decide +kernel
theorem dX5_tell___9 : decode cX5_tell__ 9 = .ok (.invokevirtual 22, 3) := by decide +kernel
theorem dX5_tell___12 : decode cX5_tell__ 12 = .ok (.return_, 1) := by decide +kernel
theorem dJ6_bitCount_0f7a4_0 : decode cJ6_bitCount_0f7a4 0 = .ok (.iload_n 0, 1) := by decide +kernel
theorem dJ6_bitCount_0f7a4_1 : decode cJ6_bitCount_0f7a4 1 = .ok (.iload_n 0, 1) := by decide +kernel
theorem dJ6_bitCount_0f7a4_2 : decode cJ6_bitCount_0f7a4 2 = .ok (.iconst 1, 1) := by decide +kernel
theorem dJ6_bitCount_0f7a4_3 : decode cJ6_bitCount_0f7a4 3 = .ok (.iushr, 1) := by decide +kernel
theorem dJ6_bitCount_0f7a4_4 : decode cJ6_bitCount_0f7a4 4 = .ok (.ldc_w 265, 3) := by decide +kernel
theorem dJ6_bitCount_0f7a4_7 : decode cJ6_bitCount_0f7a4 7 = .ok (.iand, 1) := by decide +kernel
theorem dJ6_bitCount_0f7a4_8 : decode cJ6_bitCount_0f7a4 8 = .ok (.isub, 1) := by decide +kernel
theorem dJ6_bitCount_0f7a4_9 : decode cJ6_bitCount_0f7a4 9 = .ok (.istore_n 0, 1) := by decide +kernel
theorem dJ6_bitCount_0f7a4_10 : decode cJ6_bitCount_0f7a4 10 = .ok (.iload_n 0, 1) := by decide +kernel
theorem dJ6_bitCount_0f7a4_11 : decode cJ6_bitCount_0f7a4 11 = .ok (.ldc_w 266, 3) := by decide +kernel
theorem dJ6_bitCount_0f7a4_14 : decode cJ6_bitCount_0f7a4 14 = .ok (.iand, 1) := by decide +kernel
theorem dJ6_bitCount_0f7a4_15 : decode cJ6_bitCount_0f7a4 15 = .ok (.iload_n 0, 1) := by decide +kernel
theorem dJ6_bitCount_0f7a4_16 : decode cJ6_bitCount_0f7a4 16 = .ok (.iconst 2, 1) := by decide +kernel
theorem dJ6_bitCount_0f7a4_17 : decode cJ6_bitCount_0f7a4 17 = .ok (.iushr, 1) := by decide +kernel
theorem dJ6_bitCount_0f7a4_18 : decode cJ6_bitCount_0f7a4 18 = .ok (.ldc_w 266, 3) := by decide +kernel
theorem dJ6_bitCount_0f7a4_21 : decode cJ6_bitCount_0f7a4 21 = .ok (.iand, 1) := by decide +kernel
theorem dJ6_bitCount_0f7a4_22 : decode cJ6_bitCount_0f7a4 22 = .ok (.iadd, 1) := by decide +kernel
theorem dJ6_bitCount_0f7a4_23 : decode cJ6_bitCount_0f7a4 23 = .ok (.istore_n 0, 1) := by decide +kernel
theorem dJ6_bitCount_0f7a4_24 : decode cJ6_bitCount_0f7a4 24 = .ok (.iload_n 0, 1) := by decide +kernel
theorem dJ6_bitCount_0f7a4_25 : decode cJ6_bitCount_0f7a4 25 = .ok (.iload_n 0, 1) := by decide +kernel
theorem dJ6_bitCount_0f7a4_26 : decode cJ6_bitCount_0f7a4 26 = .ok (.iconst 4, 1) := by decide +kernel
theorem dJ6_bitCount_0f7a4_27 : decode cJ6_bitCount_0f7a4 27 = .ok (.iushr, 1) := by decide +kernel
theorem dJ6_bitCount_0f7a4_28 : decode cJ6_bitCount_0f7a4 28 = .ok (.iadd, 1) := by decide +kernel
theorem dJ6_bitCount_0f7a4_29 : decode cJ6_bitCount_0f7a4 29 = .ok (.ldc_w 267, 3) := by decide +kernel
theorem dJ6_bitCount_0f7a4_32 : decode cJ6_bitCount_0f7a4 32 = .ok (.iand, 1) := by decide +kernel
theorem dJ6_bitCount_0f7a4_33 : decode cJ6_bitCount_0f7a4 33 = .ok (.istore_n 0, 1) := by decide +kernel
theorem dJ6_bitCount_0f7a4_34 : decode cJ6_bitCount_0f7a4 34 = .ok (.iload_n 0, 1) := by decide +kernel
theorem dJ6_bitCount_0f7a4_35 : decode cJ6_bitCount_0f7a4 35 = .ok (.iload_n 0, 1) := by decide +kernel
theorem dJ6_bitCount_0f7a4_36 : decode cJ6_bitCount_0f7a4 36 = .ok (.bipush 8, 2) := by decide +kernel
theorem dJ6_bitCount_0f7a4_38 : decode cJ6_bitCount_0f7a4 38 = .ok (.iushr, 1) := by decide +kernel
theorem dJ6_bitCount_0f7a4_39 : decode cJ6_bitCount_0f7a4 39 = .ok (.iadd, 1) := by decide +kernel
theorem dJ6_bitCount_0f7a4_40 : decode cJ6_bitCount_0f7a4 40 = .ok (.istore_n 0, 1) := by decide +kernel
theorem dJ6_bitCount_0f7a4_41 : decode cJ6_bitCount_0f7a4 41 = .ok (.iload_n 0, 1) := by decide +kernel
theorem dJ6_bitCount_0f7a4_42 : decode cJ6_bitCount_0f7a4 42 = .ok (.iload_n 0, 1) := by decide +kernel
theorem dJ6_bitCount_0f7a4_43 : decode cJ6_bitCount_0f7a4 43 = .ok (.bipush 16, 2) := by decide +kernel
theorem dJ6_bitCount_0f7a4_45 : decode cJ6_bitCount_0f7a4 45 = .ok (.iushr, 1) := by decide +kernel
theorem dJ6_bitCount_0f7a4_46 : decode cJ6_bitCount_0f7a4 46 = .ok (.iadd, 1) := by decide +kernel
theorem dJ6_bitCount_0f7a4_47 : decode cJ6_bitCount_0f7a4 47 = .ok (.istore_n 0, 1) := by decide +kernel
theorem dJ6_bitCount_0f7a4_48 : decode cJ6_bitCount_0f7a4 48 = .ok (.iload_n 0, 1) := by decide +kernel
theorem dJ6_bitCount_0f7a4_49 : decode cJ6_bitCount_0f7a4 49 = .ok (.bipush 63, 2) := by decide +kernel
theorem dJ6_bitCount_0f7a4_51 : decode cJ6_bitCount_0f7a4 51 = .ok (.iand, 1) := by decide +kernel
theorem dJ6_bitCount_0f7a4_52 : decode cJ6_bitCount_0f7a4 52 = .ok (.ireturn, 1) := by decide +kernel
theorem dJ9_floorMod_7cf53_0 : decode cJ9_floorMod_7cf53 0 = .ok (.iload_n 0, 1) := by decide +kernel
theorem dJ9_floorMod_7cf53_1 : decode cJ9_floorMod_7cf53 1 = .ok (.iload_n 1, 1) := by decide +kernel
theorem dJ9_floorMod_7cf53_2 : decode cJ9_floorMod_7cf53 2 = .ok (.irem, 1) := by decide +kernel
theorem dJ9_floorMod_7cf53_3 : decode cJ9_floorMod_7cf53 3 = .ok (.istore_n 2, 1) := by decide +kernel
theorem dJ9_floorMod_7cf53_4 : decode cJ9_floorMod_7cf53 4 = .ok (.iload_n 0, 1) := by decide +kernel
theorem dJ9_floorMod_7cf53_5 : decode cJ9_floorMod_7cf53 5 = .ok (.iload_n 1, 1) := by decide +kernel
theorem dJ9_floorMod_7cf53_6 : decode cJ9_floorMod_7cf53 6 = .ok (.ixor, 1) := by decide +kernel
theorem dJ9_floorMod_7cf53_7 : decode cJ9_floorMod_7cf53 7 = .ok (.ifCond .ge 11, 3) := by decide +kernel
theorem dJ9_floorMod_7cf53_10 : decode cJ9_floorMod_7cf53 10 = .ok (.iload_n 2, 1) := by decide +kernel
theorem dJ9_floorMod_7cf53_11 : decode cJ9_floorMod_7cf53 11 = .ok (.ifCond .eq 7, 3) := by decide +kernel
theorem dJ9_floorMod_7cf53_14 : decode cJ9_floorMod_7cf53 14 = .ok (.iload_n 2, 1) := by decide +kernel
theorem dJ9_floorMod_7cf53_15 : decode cJ9_floorMod_7cf53 15 = .ok (.iload_n 1, 1) := by decide +kernel
theorem dJ9_floorMod_7cf53_16 : decode cJ9_floorMod_7cf53 16 = .ok (.iadd, 1) := by decide +kernel
theorem dJ9_floorMod_7cf53_17 : decode cJ9_floorMod_7cf53 17 = .ok (.ireturn, 1) := by decide +kernel
theorem dJ9_floorMod_7cf53_18 : decode cJ9_floorMod_7cf53 18 = .ok (.iload_n 2, 1) := by decide +kernel
theorem dJ9_floorMod_7cf53_19 : decode cJ9_floorMod_7cf53 19 = .ok (.ireturn, 1) := by decide +kernel
theorem dJ9_max_7cf53_0 : decode cJ9_max_7cf53 0 = .ok (.iload_n 0, 1) := by decide +kernel
theorem dJ9_max_7cf53_1 : decode cJ9_max_7cf53 1 = .ok (.iload_n 1, 1) := by decide +kernel
theorem dJ9_max_7cf53_2 : decode cJ9_max_7cf53 2 = .ok (.if_icmp .lt 7, 3) := by decide +kernel
theorem dJ9_max_7cf53_5 : decode cJ9_max_7cf53 5 = .ok (.iload_n 0, 1) := by decide +kernel
theorem dJ9_max_7cf53_6 : decode cJ9_max_7cf53 6 = .ok (.goto 4, 3) := by decide +kernel
theorem dJ9_max_7cf53_9 : decode cJ9_max_7cf53 9 = .ok (.iload_n 1, 1) := by decide +kernel
theorem dJ9_max_7cf53_10 : decode cJ9_max_7cf53 10 = .ok (.ireturn, 1) := by decide +kernel
theorem dJ9_min_7cf53_0 : decode cJ9_min_7cf53 0 = .ok (.iload_n 0, 1) := by decide +kernel
theorem dJ9_min_7cf53_1 : decode cJ9_min_7cf53 1 = .ok (.iload_n 1, 1) := by decide +kernel
theorem dJ9_min_7cf53_2 : decode cJ9_min_7cf53 2 = .ok (.if_icmp .gt 7, 3) := by decide +kernel
theorem dJ9_min_7cf53_5 : decode cJ9_min_7cf53 5 = .ok (.iload_n 0, 1) := by decide +kernel
theorem dJ9_min_7cf53_6 : decode cJ9_min_7cf53 6 = .ok (.goto 4, 3) := by decide +kernel
theorem dJ9_min_7cf53_9 : decode cJ9_min_7cf53 9 = .ok (.iload_n 1, 1) := by decide +kernel
theorem dJ9_min_7cf53_10 : decode cJ9_min_7cf53 10 = .ok (.ireturn, 1) := by decide +kernel
theorem dJ7_fill_53178_0 : decode cJ7_fill_53178 0 = .ok (.iconst 0, 1) := by decide +kernel
theorem dJ7_fill_53178_1 : decode cJ7_fill_53178 1 = .ok (.istore_n 2, 1) := by decide +kernel
theorem dJ7_fill_53178_2 : decode cJ7_fill_53178 2 = .ok (.aload_n 0, 1) := by decide +kernel
theorem dJ7_fill_53178_3 : decode cJ7_fill_53178 3 = .ok (.arraylength, 1) := by decide +kernel
theorem dJ7_fill_53178_4 : decode cJ7_fill_53178 4 = .ok (.istore_n 3, 1) := by decide +kernel
theorem dJ7_fill_53178_5 : decode cJ7_fill_53178 5 = .ok (.iload_n 2, 1) := by decide +kernel
theorem dJ7_fill_53178_6 : decode cJ7_fill_53178 6 = .ok (.iload_n 3, 1) := by decide +kernel
theorem dJ7_fill_53178_7 : decode cJ7_fill_53178 7 = .ok (.if_icmp .ge 13, 3) := by decide +kernel
theorem dJ7_fill_53178_10 : decode cJ7_fill_53178 10 = .ok (.aload_n 0, 1) := by decide +kernel
theorem dJ7_fill_53178_11 : decode cJ7_fill_53178 11 = .ok (.iload_n 2, 1) := by decide +kernel
theorem dJ7_fill_53178_12 : decode cJ7_fill_53178 12 = .ok (.iload_n 1, 1) := by decide +kernel
theorem dJ7_fill_53178_13 : decode cJ7_fill_53178 13 = .ok (.iastore, 1) := by decide +kernel
theorem dJ7_fill_53178_14 : decode cJ7_fill_53178 14 = .ok (.iinc 2 1, 3) := by decide +kernel
theorem dJ7_fill_53178_17 : decode cJ7_fill_53178 17 = .ok (.goto (-12), 3) := by decide +kernel
theorem dJ7_fill_53178_20 : decode cJ7_fill_53178 20 = .ok (.return_, 1) := by decide +kernel
theorem dJ7_copyOf_59c91_0 : decode cJ7_copyOf_59c91 0 = .ok (.iload_n 1, 1) := by decide +kernel
theorem dJ7_copyOf_59c91_1 : decode cJ7_copyOf_59c91 1 = .ok (.aload_n 0, 1) := by decide +kernel
theorem dJ7_copyOf_59c91_2 : decode cJ7_copyOf_59c91 2 = .ok (.arraylength, 1) := by decide +kernel
theorem dJ7_copyOf_59c91_3 : decode cJ7_copyOf_59c91 3 = .ok (.if_icmp .ne 11, 3) := by decide +kernel
theorem dJ7_copyOf_59c91_6 : decode cJ7_copyOf_59c91 6 = .ok (.aload_n 0, 1) := by decide +kernel
theorem dJ7_copyOf_59c91_7 : decode cJ7_copyOf_59c91 7 = .ok (.invokevirtual 316, 3) := by decide +kernel
theorem dJ7_copyOf_59c91_10 : decode cJ7_copyOf_59c91 10 = .ok (.checkcast 317, 3) := by decide +kernel
theorem dJ7_copyOf_59c91_13 : decode cJ7_copyOf_59c91 13 = .ok (.areturn, 1) := by decide +kernel
theorem dJ7_copyOf_59c91_14 : decode cJ7_copyOf_59c91 14 = .ok (.iload_n 1, 1) := by decide +kernel
theorem dJ7_copyOf_59c91_15 : decode cJ7_copyOf_59c91 15 = .ok (.newarray .int, 2) := by decide +kernel
theorem dJ7_copyOf_59c91_17 : decode cJ7_copyOf_59c91 17 = .ok (.astore_n 2, 1) := by decide +kernel
theorem dJ7_copyOf_59c91_18 : decode cJ7_copyOf_59c91 18 = .ok (.aload_n 0, 1) := by decide +kernel
theorem dJ7_copyOf_59c91_19 : decode cJ7_copyOf_59c91 19 = .ok (.iconst 0, 1) := by decide +kernel
theorem dJ7_copyOf_59c91_20 : decode cJ7_copyOf_59c91 20 = .ok (.aload_n 2, 1) := by decide +kernel
theorem dJ7_copyOf_59c91_21 : decode cJ7_copyOf_59c91 21 = .ok (.iconst 0, 1) := by decide +kernel
theorem dJ7_copyOf_59c91_22 : decode cJ7_copyOf_59c91 22 = .ok (.aload_n 0, 1) := by decide +kernel
theorem dJ7_copyOf_59c91_23 : decode cJ7_copyOf_59c91 23 = .ok (.arraylength, 1) := by decide +kernel
theorem dJ7_copyOf_59c91_24 : decode cJ7_copyOf_59c91 24 = .ok (.iload_n 1, 1) := by decide +kernel
theorem dJ7_copyOf_59c91_25 : decode cJ7_copyOf_59c91 25 = .ok (.invokestatic 304, 3) := by decide +kernel
theorem dJ7_copyOf_59c91_28 : decode cJ7_copyOf_59c91 28 = .ok (.invokestatic 150, 3) := by decide +kernel
theorem dJ7_copyOf_59c91_31 : decode cJ7_copyOf_59c91 31 = .ok (.aload_n 2, 1) := by decide +kernel
theorem dJ7_copyOf_59c91_32 : decode cJ7_copyOf_59c91 32 = .ok (.areturn, 1) := by decide +kernel
