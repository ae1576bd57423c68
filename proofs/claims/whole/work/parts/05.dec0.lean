theorem dX0_init_0 : decode cX0_init 0 = .ok (.aload_n 0, 1) := by decide +kernel
theorem dX0_init_1 : decode cX0_init 1 = .ok (.invokespecial 3, 3) := by decide +kernel
theorem dX0_init_4 : decode cX0_init 4 = .ok (.aload_n 0, 1) := by decide +kernel
theorem dX0_init_5 : decode cX0_init 5 = .ok (.iconst 0, 1) := by decide +kernel
theorem dX0_init_6 : decode cX0_init 6 = .ok (.putfield 9, 3) := by decide +kernel
theorem dX0_init_9 : decode cX0_init 9 = .ok (.aload_n 0, 1) := by decide +kernel
theorem dX0_init_10 : decode cX0_init 10 = .ok (.bipush 15, 2) := by decide +kernel
theorem dX0_init_12 : decode cX0_init 12 = .ok (.newarray .int, 2) := by decide +kernel
theorem dX0_init_14 : decode cX0_init 14 = .ok (.putfield 15, 3) := by decide +kernel
theorem dX0_init_17 : decode cX0_init 17 = .ok (.aload_n 0, 1) := by decide +kernel
theorem dX0_init_18 : decode cX0_init 18 = .ok (.bipush 15, 2) := by decide +kernel
theorem dX0_init_20 : decode cX0_init 20 = .ok (.newarray .int, 2) := by decide +kernel
theorem dX0_init_22 : decode cX0_init 22 = .ok (.putfield 19, 3) := by decide +kernel
theorem dX0_init_25 : decode cX0_init 25 = .ok (.return_, 1) := by decide +kernel
theorem dX0_clear_0 : decode cX0_clear 0 = .ok (.aload_n 0, 1) := by decide +kernel
theorem dX0_clear_1 : decode cX0_clear 1 = .ok (.iconst 0, 1) := by decide +kernel
theorem dX0_clear_2 : decode cX0_clear 2 = .ok (.putfield 9, 3) := by decide +kernel
theorem dX0_clear_5 : decode cX0_clear 5 = .ok (.return_, 1) := by decide +kernel
theorem dX0_isFull_0 : decode cX0_isFull 0 = .ok (.aload_n 0, 1) := by decide +kernel
theorem dX0_isFull_1 : decode cX0_isFull 1 = .ok (.getfield 9, 3) := by decide +kernel
theorem dX0_isFull_4 : decode cX0_isFull 4 = .ok (.bipush 15, 2) := by decide +kernel
theorem dX0_isFull_6 : decode cX0_isFull 6 = .ok (.if_icmp .lt 7, 3) := by decide +kernel
theorem dX0_isFull_9 : decode cX0_isFull 9 = .ok (.iconst 1, 1) := by decide +kernel
theorem dX0_isFull_10 : decode cX0_isFull 10 = .ok (.goto 4, 3) := by decide +kernel
theorem dX0_isFull_13 : decode cX0_isFull 13 = .ok (.iconst 0, 1) := by decide +kernel
theorem dX0_isFull_14 : decode cX0_isFull 14 = .ok (.ireturn, 1) := by decide +kernel
theorem dX0_add_0 : decode cX0_add 0 = .ok (.aload_n 0, 1) := by decide +kernel
theorem dX0_add_1 : decode cX0_add 1 = .ok (.getfield 15, 3) := by decide +kernel
theorem dX0_add_4 : decode cX0_add 4 = .ok (.aload_n 0, 1) := by decide +kernel
theorem dX0_add_5 : decode cX0_add 5 = .ok (.getfield 9, 3) := by decide +kernel
theorem dX0_add_8 : decode cX0_add 8 = .ok (.iload_n 1, 1) := by decide +kernel
theorem dX0_add_9 : decode cX0_add 9 = .ok (.iastore, 1) := by decide +kernel
theorem dX0_add_10 : decode cX0_add 10 = .ok (.aload_n 0, 1) := by decide +kernel
theorem dX0_add_11 : decode cX0_add 11 = .ok (.getfield 19, 3) := by decide +kernel
theorem dX0_add_14 : decode cX0_add 14 = .ok (.aload_n 0, 1) := by decide +kernel
theorem dX0_add_15 : decode cX0_add 15 = .ok (.getfield 9, 3) := by decide +kernel
theorem dX0_add_18 : decode cX0_add 18 = .ok (.iload_n 2, 1) := by decide +kernel
theorem dX0_add_19 : decode cX0_add 19 = .ok (.iastore, 1) := by decide +kernel
theorem dX0_add_20 : decode cX0_add 20 = .ok (.aload_n 0, 1) := by decide +kernel
theorem dX0_add_21 : decode cX0_add 21 = .ok (.dup, 1) := by decide +kernel
theorem dX0_add_22 : decode cX0_add 22 = .ok (.getfield 9, 3) := by decide +kernel
theorem dX0_add_25 : decode cX0_add 25 = .ok (.iconst 1, 1) := by decide +kernel
theorem dX0_add_26 : decode cX0_add 26 = .ok (.iadd, 1) := by decide +kernel
theorem dX0_add_27 : decode cX0_add 27 = .ok (.putfield 9, 3) := by decide +kernel
theorem dX0_add_30 : decode cX0_add 30 = .ok (.aload_n 0, 1) := by decide +kernel
theorem dX0_add_31 : decode cX0_add 31 = .ok (.getfield 9, 3) := by decide +kernel
theorem dX0_add_34 : decode cX0_add 34 = .ok (.ireturn, 1) := by decide +kernel
theorem dX0_firstWrong_0 : decode cX0_firstWrong 0 = .ok (.iconst 0, 1) := by decide +kernel
theorem dX0_firstWrong_1 : decode cX0_firstWrong 1 = .ok (.istore_n 2, 1) := by decide +kernel
theorem dX0_firstWrong_2 : decode cX0_firstWrong 2 = .ok (.iload_n 2, 1) := by decide +kernel
theorem dX0_firstWrong_3 : decode cX0_firstWrong 3 = .ok (.aload_n 0, 1) := by decide +kernel
theorem dX0_firstWrong_4 : decode cX0_firstWrong 4 = .ok (.getfield 9, 3) := by decide +kernel
theorem dX0_firstWrong_7 : decode cX0_firstWrong 7 = .ok (.if_icmp .ge 30, 3) := by decide +kernel
theorem dX0_firstWrong_10 : decode cX0_firstWrong 10 = .ok (.aload_n 1, 1) := by decide +kernel
theorem dX0_firstWrong_11 : decode cX0_firstWrong 11 = .ok (.aload_n 0, 1) := by decide +kernel
theorem dX0_firstWrong_12 : decode cX0_firstWrong 12 = .ok (.getfield 15, 3) := by decide +kernel
theorem dX0_firstWrong_15 : decode cX0_firstWrong 15 = .ok (.iload_n 2, 1) := by decide +kernel
theorem dX0_firstWrong_16 : decode cX0_firstWrong 16 = .ok (.iaload, 1) := by decide +kernel
theorem dX0_firstWrong_17 : decode cX0_firstWrong 17 = .ok (.invokevirtual 22, 3) := by decide +kernel
theorem dX0_firstWrong_20 : decode cX0_firstWrong 20 = .ok (.aload_n 0, 1) := by decide +kernel
theorem dX0_firstWrong_21 : decode cX0_firstWrong 21 = .ok (.getfield 19, 3) := by decide +kernel
theorem dX0_firstWrong_24 : decode cX0_firstWrong 24 = .ok (.iload_n 2, 1) := by decide +kernel
theorem dX0_firstWrong_25 : decode cX0_firstWrong 25 = .ok (.iaload, 1) := by decide +kernel
theorem dX0_firstWrong_26 : decode cX0_firstWrong 26 = .ok (.if_icmp .eq 5, 3) := by decide +kernel
theorem dX0_firstWrong_29 : decode cX0_firstWrong 29 = .ok (.iload_n 2, 1) := by decide +kernel
theorem dX0_firstWrong_30 : decode cX0_firstWrong 30 = .ok (.ireturn, 1) := by decide +kernel
theorem dX0_firstWrong_31 : decode cX0_firstWrong 31 = .ok (.iinc 2 1, 3) := by decide +kernel
theorem dX0_firstWrong_34 : decode cX0_firstWrong 34 = .ok (.goto (-32), 3) := by decide +kernel
theorem dX0_firstWrong_37 : decode cX0_firstWrong 37 = .ok (.iconst (-1), 1) := by decide +kernel
theorem dX0_firstWrong_38 : decode cX0_firstWrong 38 = .ok (.ireturn, 1) := by decide +kernel
theorem dX1_init_0 : decode cX1_init 0 = .ok (.aload_n 0, 1) := by decide +kernel
theorem dX1_init_1 : decode cX1_init 1 = .ok (.invokespecial 3, 3) := by decide +kernel
theorem dX1_init_4 : decode cX1_init 4 = .ok (.aload_n 0, 1) := by decide +kernel
theorem dX1_init_5 : decode cX1_init 5 = .ok (.bipush 6, 2) := by decide +kernel
theorem dX1_init_7 : decode cX1_init 7 = .ok (.newarray .int, 2) := by decide +kernel
theorem dX1_init_9 : decode cX1_init 9 = .ok (.putfield 9, 3) := by decide +kernel
theorem dX1_init_12 : decode cX1_init 12 = .ok (.return_, 1) := by decide +kernel
theorem dX1_few_0 : decode cX1_few 0 = .ok (.iconst 0, 1) := by decide +kernel
theorem dX1_few_1 : decode cX1_few 1 = .ok (.istore_n 2, 1) := by decide +kernel
theorem dX1_few_2 : decode cX1_few 2 = .ok (.iload_n 2, 1) := by decide +kernel
theorem dX1_few_3 : decode cX1_few 3 = .ok (.aload_n 1, 1) := by decide +kernel
theorem dX1_few_4 : decode cX1_few 4 = .ok (.invokevirtual 15, 3) := by decide +kernel
theorem dX1_few_7 : decode cX1_few 7 = .ok (.if_icmp .ge 20, 3) := by decide +kernel
theorem dX1_few_10 : decode cX1_few 10 = .ok (.aload_n 0, 1) := by decide +kernel
theorem dX1_few_11 : decode cX1_few 11 = .ok (.getfield 9, 3) := by decide +kernel
theorem dX1_few_14 : decode cX1_few 14 = .ok (.iload_n 2, 1) := by decide +kernel
theorem dX1_few_15 : decode cX1_few 15 = .ok (.aload_n 1, 1) := by decide +kernel
theorem dX1_few_16 : decode cX1_few 16 = .ok (.iload_n 2, 1) := by decide +kernel
theorem dX1_few_17 : decode cX1_few 17 = .ok (.invokestatic 21, 3) := by decide +kernel
theorem dX1_few_20 : decode cX1_few 20 = .ok (.iastore, 1) := by decide +kernel
theorem dX1_few_21 : decode cX1_few 21 = .ok (.iinc 2 1, 3) := by decide +kernel
theorem dX1_few_24 : decode cX1_few 24 = .ok (.goto (-22), 3) := by decide +kernel
theorem dX1_few_27 : decode cX1_few 27 = .ok (.iconst (-1), 1) := by decide +kernel
theorem dX1_few_28 : decode cX1_few 28 = .ok (.istore_n 2, 1) := by decide +kernel
theorem dX1_few_29 : decode cX1_few 29 = .ok (.iconst 0, 1) := by decide +kernel
theorem dX1_few_30 : decode cX1_few 30 = .ok (.istore_n 3, 1) := by decide +kernel
theorem dX1_few_31 : decode cX1_few 31 = .ok (.iload_n 3, 1) := by decide +kernel
theorem dX1_few_32 : decode cX1_few 32 = .ok (.iconst 1, 1) := by decide +kernel
theorem dX1_few_33 : decode cX1_few 33 = .ok (.aload_n 1, 1) := by decide +kernel
theorem dX1_few_34 : decode cX1_few 34 = .ok (.invokevirtual 27, 3) := by decide +kernel
theorem dX1_few_37 : decode cX1_few 37 = .ok (.ishl, 1) := by decide +kernel
theorem dX1_few_38 : decode cX1_few 38 = .ok (.if_icmp .ge 48, 3) := by decide +kernel
theorem dX1_few_41 : decode cX1_few 41 = .ok (.iload_n 2, 1) := by decide +kernel
theorem dX1_few_42 : decode cX1_few 42 = .ok (.iconst (-1), 1) := by decide +kernel
theorem dX1_few_43 : decode cX1_few 43 = .ok (.if_icmp .eq 14, 3) := by decide +kernel
theorem dX1_few_46 : decode cX1_few 46 = .ok (.iload_n 3, 1) := by decide +kernel
theorem dX1_few_47 : decode cX1_few 47 = .ok (.invokestatic 30, 3) := by decide +kernel
theorem dX1_few_50 : decode cX1_few 50 = .ok (.iload_n 2, 1) := by decide +kernel
theorem dX1_few_51 : decode cX1_few 51 = .ok (.invokestatic 30, 3) := by decide +kernel
theorem dX1_few_54 : decode cX1_few 54 = .ok (.if_icmp .ge 7, 3) := by decide +kernel
theorem dX1_few_57 : decode cX1_few 57 = .ok (.iconst 1, 1) := by decide +kernel
theorem dX1_few_58 : decode cX1_few 58 = .ok (.goto 4, 3) := by decide +kernel
theorem dX1_few_61 : decode cX1_few 61 = .ok (.iconst 0, 1) := by decide +kernel
theorem dX1_few_62 : decode cX1_few 62 = .ok (.istore 4, 2) := by decide +kernel
theorem dX1_few_64 : decode cX1_few 64 = .ok (.iload 4, 2) := by decide +kernel
theorem dX1_few_66 : decode cX1_few 66 = .ok (.ifCond .eq 14, 3) := by decide +kernel
theorem dX1_few_69 : decode cX1_few 69 = .ok (.aload_n 0, 1) := by decide +kernel
theorem dX1_few_70 : decode cX1_few 70 = .ok (.aload_n 1, 1) := by decide +kernel
theorem dX1_few_71 : decode cX1_few 71 = .ok (.iload_n 3, 1) := by decide +kernel
theorem dX1_few_72 : decode cX1_few 72 = .ok (.invokevirtual 36, 3) := by decide +kernel
theorem dX1_few_75 : decode cX1_few 75 = .ok (.ifCond .eq 5, 3) := by decide +kernel
theorem dX1_few_78 : decode cX1_few 78 = .ok (.iload_n 3, 1) := by decide +kernel
theorem dX1_few_79 : decode cX1_few 79 = .ok (.istore_n 2, 1) := by decide +kernel
theorem dX1_few_80 : decode cX1_few 80 = .ok (.iinc 3 1, 3) := by decide +kernel
theorem dX1_few_83 : decode cX1_few 83 = .ok (.goto (-52), 3) := by decide +kernel
theorem dX1_few_86 : decode cX1_few 86 = .ok (.iload_n 2, 1) := by decide +kernel
theorem dX1_few_87 : decode cX1_few 87 = .ok (.ireturn, 1) := by decide +kernel
theorem dX1_weddable_0 : decode cX1_weddable 0 = .ok (.iconst 0, 1) := by decide +kernel
theorem dX1_weddable_1 : decode cX1_weddable 1 = .ok (.istore_n 3, 1) := by decide +kernel
theorem dX1_weddable_2 : decode cX1_weddable 2 = .ok (.iload_n 3, 1) := by decide +kernel
theorem dX1_weddable_3 : decode cX1_weddable 3 = .ok (.aload_n 1, 1) := by decide +kernel
theorem dX1_weddable_4 : decode cX1_weddable 4 = .ok (.invokevirtual 15, 3) := by decide +kernel
theorem dX1_weddable_7 : decode cX1_weddable 7 = .ok (.if_icmp .ge 30, 3) := by decide +kernel
theorem dX1_weddable_10 : decode cX1_weddable 10 = .ok (.aload_n 1, 1) := by decide +kernel
theorem dX1_weddable_11 : decode cX1_weddable 11 = .ok (.iload_n 3, 1) := by decide +kernel
theorem dX1_weddable_12 : decode cX1_weddable 12 = .ok (.invokevirtual 40, 3) := by decide +kernel
theorem dX1_weddable_15 : decode cX1_weddable 15 = .ok (.ifCond .eq 16, 3) := by decide +kernel
theorem dX1_weddable_18 : decode cX1_weddable 18 = .ok (.aload_n 0, 1) := by decide +kernel
theorem dX1_weddable_19 : decode cX1_weddable 19 = .ok (.getfield 9, 3) := by decide +kernel
theorem dX1_weddable_22 : decode cX1_weddable 22 = .ok (.iload_n 3, 1) := by decide +kernel
theorem dX1_weddable_23 : decode cX1_weddable 23 = .ok (.iaload, 1) := by decide +kernel
theorem dX1_weddable_24 : decode cX1_weddable 24 = .ok (.iload_n 2, 1) := by decide +kernel
theorem dX1_weddable_25 : decode cX1_weddable 25 = .ok (.iand, 1) := by decide +kernel
theorem dX1_weddable_26 : decode cX1_weddable 26 = .ok (.ifCond .ne 5, 3) := by decide +kernel
theorem dX1_weddable_29 : decode cX1_weddable 29 = .ok (.iconst 0, 1) := by decide +kernel
theorem dX1_weddable_30 : decode cX1_weddable 30 = .ok (.ireturn, 1) := by decide +kernel
theorem dX1_weddable_31 : decode cX1_weddable 31 = .ok (.iinc 3 1, 3) := by decide +kernel
theorem dX1_weddable_34 : decode cX1_weddable 34 = .ok (.goto (-32), 3) := by decide +kernel
theorem dX1_weddable_37 : decode cX1_weddable 37 = .ok (.iconst 1, 1) := by decide +kernel
theorem dX1_weddable_38 : decode cX1_weddable 38 = .ok (.ireturn, 1) := by decide +kernel
theorem dX2_init_0 : decode cX2_init 0 = .ok (.aload_n 0, 1) := by decide +kernel
theorem dX2_init_1 : decode cX2_init 1 = .ok (.invokespecial 3, 3) := by decide +kernel
theorem dX2_init_4 : decode cX2_init 4 = .ok (.aload_n 0, 1) := by decide +kernel
theorem dX2_init_5 : decode cX2_init 5 = .ok (.iconst 0, 1) := by decide +kernel
theorem dX2_init_6 : decode cX2_init 6 = .ok (.putfield 9, 3) := by decide +kernel
theorem dX2_init_9 : decode cX2_init 9 = .ok (.return_, 1) := by decide +kernel
theorem dX2_draw_0 : decode cX2_draw 0 = .ok (.aload_n 0, 1) := by decide +kernel
theorem dX2_draw_1 : decode cX2_draw 1 = .ok (.aload_n 0, 1) := by decide +kernel
theorem dX2_draw_2 : decode cX2_draw 2 = .ok (.getfield 9, 3) := by decide +kernel
theorem dX2_draw_5 : decode cX2_draw 5 = .ok (.i2l, 1) := by decide +kernel
theorem dX2_draw_6 : decode cX2_draw 6 = .ok (.ldc2_w 15, 3) := by decide +kernel
theorem dX2_draw_9 : decode cX2_draw 9 = .ok (.lmul, 1) := by decide +kernel
theorem dX2_draw_10 : decode cX2_draw 10 = .ok (.ldc2_w 17, 3) := by decide +kernel
theorem dX2_draw_13 : decode cX2_draw 13 = .ok (.ladd, 1) := by decide +kernel
theorem dX2_draw_14 : decode cX2_draw 14 = .ok (.ldc2_w 19, 3) := by decide +kernel
theorem dX2_draw_17 : decode cX2_draw 17 = .ok (.land, 1) := by decide +kernel
theorem dX2_draw_18 : decode cX2_draw 18 = .ok (.l2i, 1) := by decide +kernel
theorem dX2_draw_19 : decode cX2_draw 19 = .ok (.putfield 9, 3) := by decide +kernel
theorem dX2_draw_22 : decode cX2_draw 22 = .ok (.iload_n 1, 1) := by decide +kernel
theorem dX2_draw_23 : decode cX2_draw 23 = .ok (.ifCond .le 15, 3) := by decide +kernel
theorem dX2_draw_26 : decode cX2_draw 26 = .ok (.aload_n 0, 1) := by decide +kernel
theorem dX2_draw_27 : decode cX2_draw 27 = .ok (.getfield 9, 3) := by decide +kernel
theorem dX2_draw_30 : decode cX2_draw 30 = .ok (.ldc 21, 2) := by decide +kernel
theorem dX2_draw_32 : decode cX2_draw 32 = .ok (.idiv, 1) := by decide +kernel
theorem dX2_draw_33 : decode cX2_draw 33 = .ok (.iload_n 1, 1) := by decide +kernel
theorem dX2_draw_34 : decode cX2_draw 34 = .ok (.irem, 1) := by decide +kernel
theorem dX2_draw_35 : decode cX2_draw 35 = .ok (.goto 4, 3) := by decide +kernel
theorem dX2_draw_38 : decode cX2_draw 38 = .ok (.iconst 0, 1) := by decide +kernel
theorem dX2_draw_39 : decode cX2_draw 39 = .ok (.ireturn, 1) := by decide +kernel
theorem dX2_stir_0 : decode cX2_stir 0 = .ok (.aload_n 1, 1) := by decide +kernel
theorem dX2_stir_1 : decode cX2_stir 1 = .ok (.invokevirtual 22, 3) := by decide +kernel
theorem dX2_stir_4 : decode cX2_stir 4 = .ok (.ifCond .eq 10, 3) := by decide +kernel
theorem dX2_stir_7 : decode cX2_stir 7 = .ok (.aload_n 1, 1) := by decide +kernel
theorem dX2_stir_8 : decode cX2_stir 8 = .ok (.invokevirtual 28, 3) := by decide +kernel
theorem dX2_stir_11 : decode cX2_stir 11 = .ok (.ifCond .ne 4, 3) := by decide +kernel
theorem dX2_stir_14 : decode cX2_stir 14 = .ok (.return_, 1) := by decide +kernel
theorem dX2_stir_15 : decode cX2_stir 15 = .ok (.aload_n 0, 1) := by decide +kernel
theorem dX2_stir_16 : decode cX2_stir 16 = .ok (.iconst 4, 1) := by decide +kernel
theorem dX2_stir_17 : decode cX2_stir 17 = .ok (.invokevirtual 31, 3) := by decide +kernel
theorem dX2_stir_20 : decode cX2_stir 20 = .ok (.istore_n 2, 1) := by decide +kernel
theorem dX2_stir_21 : decode cX2_stir 21 = .ok (.aload_n 0, 1) := by decide +kernel
theorem dX2_stir_22 : decode cX2_stir 22 = .ok (.aload_n 1, 1) := by decide +kernel
theorem dX2_stir_23 : decode cX2_stir 23 = .ok (.invokevirtual 22, 3) := by decide +kernel
theorem dX2_stir_26 : decode cX2_stir 26 = .ok (.invokevirtual 31, 3) := by decide +kernel
theorem dX2_stir_29 : decode cX2_stir 29 = .ok (.istore_n 3, 1) := by decide +kernel
theorem dX2_stir_30 : decode cX2_stir 30 = .ok (.aload_n 0, 1) := by decide +kernel
theorem dX2_stir_31 : decode cX2_stir 31 = .ok (.aload_n 1, 1) := by decide +kernel
theorem dX2_stir_32 : decode cX2_stir 32 = .ok (.invokevirtual 28, 3) := by decide +kernel
theorem dX2_stir_35 : decode cX2_stir 35 = .ok (.invokevirtual 31, 3) := by decide +kernel
theorem dX2_stir_38 : decode cX2_stir 38 = .ok (.istore 4, 2) := by decide +kernel
theorem dX2_stir_40 : decode cX2_stir 40 = .ok (.iload_n 2, 1) := by decide +kernel
theorem dX2_stir_41 : decode cX2_stir 41 = .ok (.ifCond .ne 23, 3) := by decide +kernel
theorem dX2_stir_44 : decode cX2_stir 44 = .ok (.aload_n 1, 1) := by decide +kernel
theorem dX2_stir_45 : decode cX2_stir 45 = .ok (.iload 4, 2) := by decide +kernel
theorem dX2_stir_47 : decode cX2_stir 47 = .ok (.iload_n 3, 1) := by decide +kernel
theorem dX2_stir_48 : decode cX2_stir 48 = .ok (.invokevirtual 35, 3) := by decide +kernel
theorem dX2_stir_51 : decode cX2_stir 51 = .ok (.ifCond .eq 13, 3) := by decide +kernel
theorem dX2_stir_54 : decode cX2_stir 54 = .ok (.aload_n 1, 1) := by decide +kernel
theorem dX2_stir_55 : decode cX2_stir 55 = .ok (.iload 4, 2) := by decide +kernel
theorem dX2_stir_57 : decode cX2_stir 57 = .ok (.iload_n 3, 1) := by decide +kernel
theorem dX2_stir_58 : decode cX2_stir 58 = .ok (.invokevirtual 39, 3) := by decide +kernel
theorem dX2_stir_61 : decode cX2_stir 61 = .ok (.goto 56, 3) := by decide +kernel
theorem dX2_stir_64 : decode cX2_stir 64 = .ok (.iload_n 2, 1) := by decide +kernel
theorem dX2_stir_65 : decode cX2_stir 65 = .ok (.iconst 1, 1) := by decide +kernel
theorem dX2_stir_66 : decode cX2_stir 66 = .ok (.if_icmp .ne 26, 3) := by decide +kernel
theorem dX2_stir_69 : decode cX2_stir 69 = .ok (.aload_n 0, 1) := by decide +kernel
theorem dX2_stir_70 : decode cX2_stir 70 = .ok (.iconst 5, 1) := by decide +kernel
theorem dX2_stir_71 : decode cX2_stir 71 = .ok (.invokevirtual 31, 3) := by decide +kernel
theorem dX2_stir_74 : decode cX2_stir 74 = .ok (.istore 5, 2) := by decide +kernel
theorem dX2_stir_76 : decode cX2_stir 76 = .ok (.aload_n 1, 1) := by decide +kernel
theorem dX2_stir_77 : decode cX2_stir 77 = .ok (.iload_n 3, 1) := by decide +kernel
theorem dX2_stir_78 : decode cX2_stir 78 = .ok (.iload 5, 2) := by decide +kernel
theorem dX2_stir_80 : decode cX2_stir 80 = .ok (.aload_n 0, 1) := by decide +kernel
theorem dX2_stir_81 : decode cX2_stir 81 = .ok (.bipush 21, 2) := by decide +kernel
theorem dX2_stir_83 : decode cX2_stir 83 = .ok (.invokevirtual 31, 3) := by decide +kernel
theorem dX2_stir_86 : decode cX2_stir 86 = .ok (.invokevirtual 43, 3) := by decide +kernel
theorem dX2_stir_89 : decode cX2_stir 89 = .ok (.goto 28, 3) := by decide +kernel
theorem dX2_stir_92 : decode cX2_stir 92 = .ok (.iload_n 2, 1) := by decide +kernel
theorem dX2_stir_93 : decode cX2_stir 93 = .ok (.iconst 2, 1) := by decide +kernel
theorem dX2_stir_94 : decode cX2_stir 94 = .ok (.if_icmp .ne 23, 3) := by decide +kernel
theorem dX2_stir_97 : decode cX2_stir 97 = .ok (.aload_n 1, 1) := by decide +kernel
theorem dX2_stir_98 : decode cX2_stir 98 = .ok (.iload 4, 2) := by decide +kernel
theorem dX2_stir_100 : decode cX2_stir 100 = .ok (.aload_n 1, 1) := by decide +kernel
theorem dX2_stir_101 : decode cX2_stir 101 = .ok (.iload 4, 2) := by decide +kernel
theorem dX2_stir_103 : decode cX2_stir 103 = .ok (.invokevirtual 47, 3) := by decide +kernel
theorem dX2_stir_106 : decode cX2_stir 106 = .ok (.iconst 1, 1) := by decide +kernel
theorem dX2_stir_107 : decode cX2_stir 107 = .ok (.aload_n 0, 1) := by decide +kernel
theorem dX2_stir_108 : decode cX2_stir 108 = .ok (.iconst 5, 1) := by decide +kernel
theorem dX2_stir_109 : decode cX2_stir 109 = .ok (.invokevirtual 31, 3) := by decide +kernel
theorem dX2_stir_112 : decode cX2_stir 112 = .ok (.ishl, 1) := by decide +kernel
theorem dX2_stir_113 : decode cX2_stir 113 = .ok (.ior, 1) := by decide +kernel
theorem dX2_stir_114 : decode cX2_stir 114 = .ok (.invokevirtual 50, 3) := by decide +kernel
theorem dX2_stir_117 : decode cX2_stir 117 = .ok (.return_, 1) := by decide +kernel
theorem dX2_oddsOfDry_0 : decode cX2_oddsOfDry 0 = .ok (.ldc2_w 53, 3) := by decide +kernel
theorem dX2_oddsOfDry_3 : decode cX2_oddsOfDry 3 = .ok (.lstore_n 2, 1) := by decide +kernel
theorem dX2_oddsOfDry_4 : decode cX2_oddsOfDry 4 = .ok (.iconst 0, 1) := by decide +kernel
theorem dX2_oddsOfDry_5 : decode cX2_oddsOfDry 5 = .ok (.istore 4, 2) := by decide +kernel
theorem dX2_oddsOfDry_7 : decode cX2_oddsOfDry 7 = .ok (.iload 4, 2) := by decide +kernel
theorem dX2_oddsOfDry_9 : decode cX2_oddsOfDry 9 = .ok (.iload_n 0, 1) := by decide +kernel
theorem dX2_oddsOfDry_10 : decode cX2_oddsOfDry 10 = .ok (.if_icmp .ge 18, 3) := by decide +kernel
theorem dX2_oddsOfDry_13 : decode cX2_oddsOfDry 13 = .ok (.lload_n 2, 1) := by decide +kernel
theorem dX2_oddsOfDry_14 : decode cX2_oddsOfDry 14 = .ok (.iload_n 1, 1) := by decide +kernel
theorem dX2_oddsOfDry_15 : decode cX2_oddsOfDry 15 = .ok (.i2l, 1) := by decide +kernel
theorem dX2_oddsOfDry_16 : decode cX2_oddsOfDry 16 = .ok (.lmul, 1) := by decide +kernel
theorem dX2_oddsOfDry_17 : decode cX2_oddsOfDry 17 = .ok (.ldc2_w 55, 3) := by decide +kernel
theorem dX2_oddsOfDry_20 : decode cX2_oddsOfDry 20 = .ok (.ldiv, 1) := by decide +kernel
theorem dX2_oddsOfDry_21 : decode cX2_oddsOfDry 21 = .ok (.lstore_n 2, 1) := by decide +kernel
theorem dX2_oddsOfDry_22 : decode cX2_oddsOfDry 22 = .ok (.iinc 4 1, 3) := by decide +kernel
theorem dX2_oddsOfDry_25 : decode cX2_oddsOfDry 25 = .ok (.goto (-18), 3) := by decide +kernel
theorem dX2_oddsOfDry_28 : decode cX2_oddsOfDry 28 = .ok (.lload_n 2, 1) := by decide +kernel
theorem dX2_oddsOfDry_29 : decode cX2_oddsOfDry 29 = .ok (.l2i, 1) := by decide +kernel
theorem dX2_oddsOfDry_30 : decode cX2_oddsOfDry 30 = .ok (.ireturn, 1) := by decide +kernel
theorem dX3_init_0 : decode cX3_init 0 = .ok (.aload_n 0, 1) := by decide +kernel
theorem dX3_init_1 : decode cX3_init 1 = .ok (.invokespecial 1, 3) := by decide +kernel
theorem dX3_init_4 : decode cX3_init 4 = .ok (.aload_n 0, 1) := by decide +kernel
theorem dX3_init_5 : decode cX3_init 5 = .ok (.sipush 344, 3) := by decide +kernel
theorem dX3_init_8 : decode cX3_init 8 = .ok (.newarray .int, 2) := by decide +kernel
theorem dX3_init_10 : decode cX3_init 10 = .ok (.putfield 11, 3) := by decide +kernel
theorem dX3_init_13 : decode cX3_init 13 = .ok (.aload_n 0, 1) := by decide +kernel
theorem dX3_init_14 : decode cX3_init 14 = .ok (.iconst 2, 1) := by decide +kernel
theorem dX3_init_15 : decode cX3_init 15 = .ok (.newarray .int, 2) := by decide +kernel
theorem dX3_init_17 : decode cX3_init 17 = .ok (.putfield 15, 3) := by decide +kernel
theorem dX3_init_20 : decode cX3_init 20 = .ok (.aload_n 0, 1) := by decide +kernel
theorem dX3_init_21 : decode cX3_init 21 = .ok (.iconst 0, 1) := by decide +kernel
theorem dX3_init_22 : decode cX3_init 22 = .ok (.putfield 18, 3) := by decide +kernel
theorem dX3_init_25 : decode cX3_init 25 = .ok (.return_, 1) := by decide +kernel
theorem dX3_store_0 : decode cX3_store 0 = .ok (.aload_n 2, 1) := by decide +kernel
theorem dX3_store_1 : decode cX3_store 1 = .ok (.aload_n 0, 1) := by decide +kernel
theorem dX3_store_2 : decode cX3_store 2 = .ok (.getfield 11, 3) := by decide +kernel
theorem dX3_store_5 : decode cX3_store 5 = .ok (.iload_n 1, 1) := by decide +kernel
theorem dX3_store_6 : decode cX3_store 6 = .ok (.sipush 172, 3) := by decide +kernel
theorem dX3_store_9 : decode cX3_store 9 = .ok (.imul, 1) := by decide +kernel
theorem dX3_store_10 : decode cX3_store 10 = .ok (.invokevirtual 22, 3) := by decide +kernel
theorem dX3_store_13 : decode cX3_store 13 = .ok (.aload_n 0, 1) := by decide +kernel
theorem dX3_store_14 : decode cX3_store 14 = .ok (.getfield 15, 3) := by decide +kernel
theorem dX3_store_17 : decode cX3_store 17 = .ok (.iload_n 1, 1) := by decide +kernel
theorem dX3_store_18 : decode cX3_store 18 = .ok (.iload_n 3, 1) := by decide +kernel
theorem dX3_store_19 : decode cX3_store 19 = .ok (.iastore, 1) := by decide +kernel
theorem dX3_store_20 : decode cX3_store 20 = .ok (.aload_n 0, 1) := by decide +kernel
theorem dX3_store_21 : decode cX3_store 21 = .ok (.dup, 1) := by decide +kernel
theorem dX3_store_22 : decode cX3_store 22 = .ok (.getfield 18, 3) := by decide +kernel
theorem dX3_store_25 : decode cX3_store 25 = .ok (.iconst 1, 1) := by decide +kernel
theorem dX3_store_26 : decode cX3_store 26 = .ok (.iload_n 1, 1) := by decide +kernel
theorem dX3_store_27 : decode cX3_store 27 = .ok (.ishl, 1) := by decide +kernel
theorem dX3_store_28 : decode cX3_store 28 = .ok (.ior, 1) := by decide +kernel
theorem dX3_store_29 : decode cX3_store 29 = .ok (.putfield 18, 3) := by decide +kernel
theorem dX3_store_32 : decode cX3_store 32 = .ok (.return_, 1) := by decide +kernel
theorem dX3_isKept_0 : decode cX3_isKept 0 = .ok (.aload_n 0, 1) := by decide +kernel
theorem dX3_isKept_1 : decode cX3_isKept 1 = .ok (.getfield 18, 3) := by decide +kernel
theorem dX3_isKept_4 : decode cX3_isKept 4 = .ok (.iload_n 1, 1) := by decide +kernel
theorem dX3_isKept_5 : decode cX3_isKept 5 = .ok (.ishr, 1) := by decide +kernel
theorem dX3_isKept_6 : decode cX3_isKept 6 = .ok (.iconst 1, 1) := by decide +kernel
theorem dX3_isKept_7 : decode cX3_isKept 7 = .ok (.iand, 1) := by decide +kernel
theorem dX3_isKept_8 : decode cX3_isKept 8 = .ok (.iconst 1, 1) := by decide +kernel
theorem dX3_isKept_9 : decode cX3_isKept 9 = .ok (.if_icmp .ne 7, 3) := by decide +kernel
theorem dX3_isKept_12 : decode cX3_isKept 12 = .ok (.iconst 1, 1) := by decide +kernel
theorem dX3_isKept_13 : decode cX3_isKept 13 = .ok (.goto 4, 3) := by decide +kernel
theorem dX3_isKept_16 : decode cX3_isKept 16 = .ok (.iconst 0, 1) := by decide +kernel
theorem dX3_isKept_17 : decode cX3_isKept 17 = .ok (.ireturn, 1) := by decide +kernel
theorem dX3_fetch_0 : decode cX3_fetch 0 = .ok (.aload_n 2, 1) := by decide +kernel
theorem dX3_fetch_1 : decode cX3_fetch 1 = .ok (.aload_n 0, 1) := by decide +kernel
theorem dX3_fetch_2 : decode cX3_fetch 2 = .ok (.getfield 11, 3) := by decide +kernel
theorem dX3_fetch_5 : decode cX3_fetch 5 = .ok (.iload_n 1, 1) := by decide +kernel
theorem dX3_fetch_6 : decode cX3_fetch 6 = .ok (.sipush 172, 3) := by decide +kernel
theorem dX3_fetch_9 : decode cX3_fetch 9 = .ok (.imul, 1) := by decide +kernel
theorem dX3_fetch_10 : decode cX3_fetch 10 = .ok (.invokevirtual 26, 3) := by decide +kernel
theorem dX3_fetch_13 : decode cX3_fetch 13 = .ok (.aload_n 0, 1) := by decide +kernel
theorem dX3_fetch_14 : decode cX3_fetch 14 = .ok (.getfield 15, 3) := by decide +kernel
theorem dX3_fetch_17 : decode cX3_fetch 17 = .ok (.iload_n 1, 1) := by decide +kernel
theorem dX3_fetch_18 : decode cX3_fetch 18 = .ok (.iaload, 1) := by decide +kernel
theorem dX3_fetch_19 : decode cX3_fetch 19 = .ok (.ireturn, 1) := by decide +kernel
theorem dX3_forget_0 : decode cX3_forget 0 = .ok (.aload_n 0, 1) := by decide +kernel
theorem dX3_forget_1 : decode cX3_forget 1 = .ok (.iconst 0, 1) := by decide +kernel
theorem dX3_forget_2 : decode cX3_forget 2 = .ok (.putfield 18, 3) := by decide +kernel
theorem dX3_forget_5 : decode cX3_forget 5 = .ok (.return_, 1) := by decide +kernel
theorem dX4_init_0 : decode cX4_init 0 = .ok (.aload_n 0, 1) := by decide +kernel
theorem dX4_init_1 : decode cX4_init 1 = .ok (.invokespecial 3, 3) := by decide +kernel
theorem dX4_init_4 : decode cX4_init 4 = .ok (.aload_n 0, 1) := by decide +kernel
theorem dX4_init_5 : decode cX4_init 5 = .ok (.sipush 448, 3) := by decide +kernel
theorem dX4_init_8 : decode cX4_init 8 = .ok (.newarray .int, 2) := by decide +kernel
theorem dX4_init_10 : decode cX4_init 10 = .ok (.putfield 11, 3) := by decide +kernel
theorem dX4_init_13 : decode cX4_init 13 = .ok (.aload_n 0, 1) := by decide +kernel
theorem dX4_init_14 : decode cX4_init 14 = .ok (.bipush 36, 2) := by decide +kernel
theorem dX4_init_16 : decode cX4_init 16 = .ok (.newarray .int, 2) := by decide +kernel
theorem dX4_init_18 : decode cX4_init 18 = .ok (.putfield 15, 3) := by decide +kernel
theorem dX4_init_21 : decode cX4_init 21 = .ok (.return_, 1) := by decide +kernel
theorem dX4_weigh_0 : decode cX4_weigh 0 = .ok (.aload_n 0, 1) := by decide +kernel
theorem dX4_weigh_1 : decode cX4_weigh 1 = .ok (.aload_n 1, 1) := by decide +kernel
theorem dX4_weigh_2 : decode cX4_weigh 2 = .ok (.invokevirtual 18, 3) := by decide +kernel
theorem dX4_weigh_5 : decode cX4_weigh 5 = .ok (.aload_n 0, 1) := by decide +kernel
theorem dX4_weigh_6 : decode cX4_weigh 6 = .ok (.getfield 11, 3) := by decide +kernel
theorem dX4_weigh_9 : decode cX4_weigh 9 = .ok (.iconst 0, 1) := by decide +kernel
theorem dX4_weigh_10 : decode cX4_weigh 10 = .ok (.invokestatic 22, 3) := by decide +kernel
theorem dX4_weigh_13 : decode cX4_weigh 13 = .ok (.aload_n 1, 1) := by decide +kernel
theorem dX4_weigh_14 : decode cX4_weigh 14 = .ok (.invokevirtual 28, 3) := by decide +kernel
theorem dX4_weigh_17 : decode cX4_weigh 17 = .ok (.iconst 1, 1) := by decide +kernel
theorem dX4_weigh_18 : decode cX4_weigh 18 = .ok (.isub, 1) := by decide +kernel
theorem dX4_weigh_19 : decode cX4_weigh 19 = .ok (.istore_n 2, 1) := by decide +kernel
theorem dX4_weigh_20 : decode cX4_weigh 20 = .ok (.iload_n 2, 1) := by decide +kernel
theorem dX4_weigh_21 : decode cX4_weigh 21 = .ok (.ifCond .lt 45, 3) := by decide +kernel
theorem dX4_weigh_24 : decode cX4_weigh 24 = .ok (.iconst 0, 1) := by decide +kernel
theorem dX4_weigh_25 : decode cX4_weigh 25 = .ok (.istore_n 3, 1) := by decide +kernel
theorem dX4_weigh_26 : decode cX4_weigh 26 = .ok (.iload_n 3, 1) := by decide +kernel
theorem dX4_weigh_27 : decode cX4_weigh 27 = .ok (.iconst 1, 1) := by decide +kernel
theorem dX4_weigh_28 : decode cX4_weigh 28 = .ok (.aload_n 1, 1) := by decide +kernel
theorem dX4_weigh_29 : decode cX4_weigh 29 = .ok (.invokevirtual 34, 3) := by decide +kernel
theorem dX4_weigh_32 : decode cX4_weigh 32 = .ok (.ishl, 1) := by decide +kernel
theorem dX4_weigh_33 : decode cX4_weigh 33 = .ok (.if_icmp .ge 27, 3) := by decide +kernel
theorem dX4_weigh_36 : decode cX4_weigh 36 = .ok (.aload_n 0, 1) := by decide +kernel
theorem dX4_weigh_37 : decode cX4_weigh 37 = .ok (.getfield 11, 3) := by decide +kernel
theorem dX4_weigh_40 : decode cX4_weigh 40 = .ok (.iload_n 2, 1) := by decide +kernel
theorem dX4_weigh_41 : decode cX4_weigh 41 = .ok (.bipush 64, 2) := by decide +kernel
theorem dX4_weigh_43 : decode cX4_weigh 43 = .ok (.imul, 1) := by decide +kernel
theorem dX4_weigh_44 : decode cX4_weigh 44 = .ok (.iload_n 3, 1) := by decide +kernel
theorem dX4_weigh_45 : decode cX4_weigh 45 = .ok (.iadd, 1) := by decide +kernel
theorem dX4_weigh_46 : decode cX4_weigh 46 = .ok (.aload_n 0, 1) := by decide +kernel
theorem dX4_weigh_47 : decode cX4_weigh 47 = .ok (.aload_n 1, 1) := by decide +kernel
theorem dX4_weigh_48 : decode cX4_weigh 48 = .ok (.iload_n 2, 1) := by decide +kernel
theorem dX4_weigh_49 : decode cX4_weigh 49 = .ok (.iload_n 3, 1) := by decide +kernel
theorem dX4_weigh_50 : decode cX4_weigh 50 = .ok (.invokevirtual 37, 3) := by decide +kernel
theorem dX4_weigh_53 : decode cX4_weigh 53 = .ok (.iastore, 1) := by decide +kernel
theorem dX4_weigh_54 : decode cX4_weigh 54 = .ok (.iinc 3 1, 3) := by decide +kernel
theorem dX4_weigh_57 : decode cX4_weigh 57 = .ok (.goto (-31), 3) := by decide +kernel
theorem dX4_weigh_60 : decode cX4_weigh 60 = .ok (.iinc 2 (-1), 3) := by decide +kernel
theorem dX4_weigh_63 : decode cX4_weigh 63 = .ok (.goto (-43), 3) := by decide +kernel
theorem dX4_weigh_66 : decode cX4_weigh 66 = .ok (.return_, 1) := by decide +kernel
theorem dX4_weighPairs_0 : decode cX4_weighPairs 0 = .ok (.iconst 0, 1) := by decide +kernel
theorem dX4_weighPairs_1 : decode cX4_weighPairs 1 = .ok (.istore_n 2, 1) := by decide +kernel
theorem dX4_weighPairs_2 : decode cX4_weighPairs 2 = .ok (.iload_n 2, 1) := by decide +kernel
theorem dX4_weighPairs_3 : decode cX4_weighPairs 3 = .ok (.aload_n 1, 1) := by decide +kernel
theorem dX4_weighPairs_4 : decode cX4_weighPairs 4 = .ok (.invokevirtual 28, 3) := by decide +kernel
theorem dX4_weighPairs_7 : decode cX4_weighPairs 7 = .ok (.if_icmp .ge 65, 3) := by decide +kernel
theorem dX4_weighPairs_10 : decode cX4_weighPairs 10 = .ok (.iconst 0, 1) := by decide +kernel
theorem dX4_weighPairs_11 : decode cX4_weighPairs 11 = .ok (.istore_n 3, 1) := by decide +kernel
theorem dX4_weighPairs_12 : decode cX4_weighPairs 12 = .ok (.iload_n 3, 1) := by decide +kernel
theorem dX4_weighPairs_13 : decode cX4_weighPairs 13 = .ok (.aload_n 1, 1) := by decide +kernel
theorem dX4_weighPairs_14 : decode cX4_weighPairs 14 = .ok (.invokevirtual 34, 3) := by decide +kernel
theorem dX4_weighPairs_17 : decode cX4_weighPairs 17 = .ok (.if_icmp .ge 49, 3) := by decide +kernel
theorem dX4_weighPairs_20 : decode cX4_weighPairs 20 = .ok (.aload_n 1, 1) := by decide +kernel
theorem dX4_weighPairs_21 : decode cX4_weighPairs 21 = .ok (.iload_n 3, 1) := by decide +kernel
theorem dX4_weighPairs_22 : decode cX4_weighPairs 22 = .ok (.iload_n 2, 1) := by decide +kernel
theorem dX4_weighPairs_23 : decode cX4_weighPairs 23 = .ok (.iconst 0, 1) := by decide +kernel
theorem dX4_weighPairs_24 : decode cX4_weighPairs 24 = .ok (.invokevirtual 41, 3) := by decide +kernel
theorem dX4_weighPairs_27 : decode cX4_weighPairs 27 = .ok (.ifCond .eq 17, 3) := by decide +kernel
theorem dX4_weighPairs_30 : decode cX4_weighPairs 30 = .ok (.sipush 10000, 3) := by decide +kernel
theorem dX4_weighPairs_33 : decode cX4_weighPairs 33 = .ok (.aload_n 1, 1) := by decide +kernel
theorem dX4_weighPairs_34 : decode cX4_weighPairs 34 = .ok (.iload_n 3, 1) := by decide +kernel
theorem dX4_weighPairs_35 : decode cX4_weighPairs 35 = .ok (.iload_n 2, 1) := by decide +kernel
theorem dX4_weighPairs_36 : decode cX4_weighPairs 36 = .ok (.iconst 0, 1) := by decide +kernel
theorem dX4_weighPairs_37 : decode cX4_weighPairs 37 = .ok (.invokevirtual 45, 3) := by decide +kernel
theorem dX4_weighPairs_40 : decode cX4_weighPairs 40 = .ok (.iadd, 1) := by decide +kernel
theorem dX4_weighPairs_41 : decode cX4_weighPairs 41 = .ok (.goto 4, 3) := by decide +kernel
theorem dX4_weighPairs_44 : decode cX4_weighPairs 44 = .ok (.iconst 0, 1) := by decide +kernel
theorem dX4_weighPairs_45 : decode cX4_weighPairs 45 = .ok (.istore 4, 2) := by decide +kernel
theorem dX4_weighPairs_47 : decode cX4_weighPairs 47 = .ok (.aload_n 0, 1) := by decide +kernel
theorem dX4_weighPairs_48 : decode cX4_weighPairs 48 = .ok (.getfield 15, 3) := by decide +kernel
theorem dX4_weighPairs_51 : decode cX4_weighPairs 51 = .ok (.iload_n 2, 1) := by decide +kernel
theorem dX4_weighPairs_52 : decode cX4_weighPairs 52 = .ok (.bipush 6, 2) := by decide +kernel
theorem dX4_weighPairs_54 : decode cX4_weighPairs 54 = .ok (.imul, 1) := by decide +kernel
theorem dX4_weighPairs_55 : decode cX4_weighPairs 55 = .ok (.iload_n 3, 1) := by decide +kernel
theorem dX4_weighPairs_56 : decode cX4_weighPairs 56 = .ok (.iadd, 1) := by decide +kernel
theorem dX4_weighPairs_57 : decode cX4_weighPairs 57 = .ok (.iload 4, 2) := by decide +kernel
theorem dX4_weighPairs_59 : decode cX4_weighPairs 59 = .ok (.iastore, 1) := by decide +kernel
theorem dX4_weighPairs_60 : decode cX4_weighPairs 60 = .ok (.iinc 3 1, 3) := by decide +kernel
theorem dX4_weighPairs_63 : decode cX4_weighPairs 63 = .ok (.goto (-51), 3) := by decide +kernel
theorem dX4_weighPairs_66 : decode cX4_weighPairs 66 = .ok (.iinc 2 1, 3) := by decide +kernel
theorem dX4_weighPairs_69 : decode cX4_weighPairs 69 = .ok (.goto (-67), 3) := by decide +kernel
theorem dX4_weighPairs_72 : decode cX4_weighPairs 72 = .ok (.return_, 1) := by decide +kernel
theorem dX4_bestFrom_0 : decode cX4_bestFrom 0 = .ok (.aload_n 0, 1) := by decide +kernel
theorem dX4_bestFrom_1 : decode cX4_bestFrom 1 = .ok (.getfield 11, 3) := by decide +kernel
theorem dX4_bestFrom_4 : decode cX4_bestFrom 4 = .ok (.iload_n 2, 1) := by decide +kernel
theorem dX4_bestFrom_5 : decode cX4_bestFrom 5 = .ok (.iconst 1, 1) := by decide +kernel
theorem dX4_bestFrom_6 : decode cX4_bestFrom 6 = .ok (.iadd, 1) := by decide +kernel
theorem dX4_bestFrom_7 : decode cX4_bestFrom 7 = .ok (.bipush 64, 2) := by decide +kernel
theorem dX4_bestFrom_9 : decode cX4_bestFrom 9 = .ok (.imul, 1) := by decide +kernel
theorem dX4_bestFrom_10 : decode cX4_bestFrom 10 = .ok (.iload_n 3, 1) := by decide +kernel
theorem dX4_bestFrom_11 : decode cX4_bestFrom 11 = .ok (.iadd, 1) := by decide +kernel
theorem dX4_bestFrom_12 : decode cX4_bestFrom 12 = .ok (.iaload, 1) := by decide +kernel
theorem dX4_bestFrom_13 : decode cX4_bestFrom 13 = .ok (.istore 4, 2) := by decide +kernel
theorem dX4_bestFrom_15 : decode cX4_bestFrom 15 = .ok (.iconst 0, 1) := by decide +kernel
theorem dX4_bestFrom_16 : decode cX4_bestFrom 16 = .ok (.istore 5, 2) := by decide +kernel
theorem dX4_bestFrom_18 : decode cX4_bestFrom 18 = .ok (.iload 5, 2) := by decide +kernel
theorem dX4_bestFrom_20 : decode cX4_bestFrom 20 = .ok (.aload_n 1, 1) := by decide +kernel
theorem dX4_bestFrom_21 : decode cX4_bestFrom 21 = .ok (.invokevirtual 34, 3) := by decide +kernel
theorem dX4_bestFrom_24 : decode cX4_bestFrom 24 = .ok (.if_icmp .ge 35, 3) := by decide +kernel
theorem dX4_bestFrom_27 : decode cX4_bestFrom 27 = .ok (.aload_n 0, 1) := by decide +kernel
theorem dX4_bestFrom_28 : decode cX4_bestFrom 28 = .ok (.iload_n 2, 1) := by decide +kernel
theorem dX4_bestFrom_29 : decode cX4_bestFrom 29 = .ok (.iload 5, 2) := by decide +kernel
theorem dX4_bestFrom_31 : decode cX4_bestFrom 31 = .ok (.iload_n 3, 1) := by decide +kernel
theorem dX4_bestFrom_32 : decode cX4_bestFrom 32 = .ok (.invokevirtual 49, 3) := by decide +kernel
theorem dX4_bestFrom_35 : decode cX4_bestFrom 35 = .ok (.ifCond .eq 18, 3) := by decide +kernel
theorem dX4_bestFrom_38 : decode cX4_bestFrom 38 = .ok (.iload 4, 2) := by decide +kernel
theorem dX4_bestFrom_40 : decode cX4_bestFrom 40 = .ok (.aload_n 0, 1) := by decide +kernel
theorem dX4_bestFrom_41 : decode cX4_bestFrom 41 = .ok (.iload_n 2, 1) := by decide +kernel
theorem dX4_bestFrom_42 : decode cX4_bestFrom 42 = .ok (.iload 5, 2) := by decide +kernel
theorem dX4_bestFrom_44 : decode cX4_bestFrom 44 = .ok (.iload_n 3, 1) := by decide +kernel
theorem dX4_bestFrom_45 : decode cX4_bestFrom 45 = .ok (.invokevirtual 52, 3) := by decide +kernel
theorem dX4_bestFrom_48 : decode cX4_bestFrom 48 = .ok (.invokestatic 55, 3) := by decide +kernel
theorem dX4_bestFrom_51 : decode cX4_bestFrom 51 = .ok (.istore 4, 2) := by decide +kernel
theorem dX4_bestFrom_53 : decode cX4_bestFrom 53 = .ok (.iinc 5 1, 3) := by decide +kernel
theorem dX4_bestFrom_56 : decode cX4_bestFrom 56 = .ok (.goto (-38), 3) := by decide +kernel
theorem dX4_bestFrom_59 : decode cX4_bestFrom 59 = .ok (.iload 4, 2) := by decide +kernel
theorem dX4_bestFrom_61 : decode cX4_bestFrom 61 = .ok (.ireturn, 1) := by decide +kernel
theorem dX4_isFree_0 : decode cX4_isFree 0 = .ok (.aload_n 0, 1) := by decide +kernel
theorem dX4_isFree_1 : decode cX4_isFree 1 = .ok (.getfield 15, 3) := by decide +kernel
theorem dX4_isFree_4 : decode cX4_isFree 4 = .ok (.iload_n 1, 1) := by decide +kernel
theorem dX4_isFree_5 : decode cX4_isFree 5 = .ok (.bipush 6, 2) := by decide +kernel
theorem dX4_isFree_7 : decode cX4_isFree 7 = .ok (.imul, 1) := by decide +kernel
theorem dX4_isFree_8 : decode cX4_isFree 8 = .ok (.iload_n 2, 1) := by decide +kernel
theorem dX4_isFree_9 : decode cX4_isFree 9 = .ok (.iadd, 1) := by decide +kernel
theorem dX4_isFree_10 : decode cX4_isFree 10 = .ok (.iaload, 1) := by decide +kernel
theorem dX4_isFree_11 : decode cX4_isFree 11 = .ok (.ifCond .le 15, 3) := by decide +kernel
theorem dX4_isFree_14 : decode cX4_isFree 14 = .ok (.iload_n 3, 1) := by decide +kernel
theorem dX4_isFree_15 : decode cX4_isFree 15 = .ok (.iload_n 2, 1) := by decide +kernel
theorem dX4_isFree_16 : decode cX4_isFree 16 = .ok (.ishr, 1) := by decide +kernel
theorem dX4_isFree_17 : decode cX4_isFree 17 = .ok (.iconst 1, 1) := by decide +kernel
theorem dX4_isFree_18 : decode cX4_isFree 18 = .ok (.iand, 1) := by decide +kernel
theorem dX4_isFree_19 : decode cX4_isFree 19 = .ok (.ifCond .ne 7, 3) := by decide +kernel
theorem dX4_isFree_22 : decode cX4_isFree 22 = .ok (.iconst 1, 1) := by decide +kernel
theorem dX4_isFree_23 : decode cX4_isFree 23 = .ok (.goto 4, 3) := by decide +kernel
theorem dX4_isFree_26 : decode cX4_isFree 26 = .ok (.iconst 0, 1) := by decide +kernel
theorem dX4_isFree_27 : decode cX4_isFree 27 = .ok (.ireturn, 1) := by decide +kernel
theorem dX4_valueOf_0 : decode cX4_valueOf 0 = .ok (.aload_n 0, 1) := by decide +kernel
theorem dX4_valueOf_1 : decode cX4_valueOf 1 = .ok (.getfield 15, 3) := by decide +kernel
theorem dX4_valueOf_4 : decode cX4_valueOf 4 = .ok (.iload_n 1, 1) := by decide +kernel
theorem dX4_valueOf_5 : decode cX4_valueOf 5 = .ok (.bipush 6, 2) := by decide +kernel
theorem dX4_valueOf_7 : decode cX4_valueOf 7 = .ok (.imul, 1) := by decide +kernel
theorem dX4_valueOf_8 : decode cX4_valueOf 8 = .ok (.iload_n 2, 1) := by decide +kernel
theorem dX4_valueOf_9 : decode cX4_valueOf 9 = .ok (.iadd, 1) := by decide +kernel
theorem dX4_valueOf_10 : decode cX4_valueOf 10 = .ok (.iaload, 1) := by decide +kernel
theorem dX4_valueOf_11 : decode cX4_valueOf 11 = .ok (.aload_n 0, 1) := by decide +kernel
theorem dX4_valueOf_12 : decode cX4_valueOf 12 = .ok (.getfield 11, 3) := by decide +kernel
theorem dX4_valueOf_15 : decode cX4_valueOf 15 = .ok (.iload_n 1, 1) := by decide +kernel
theorem dX4_valueOf_16 : decode cX4_valueOf 16 = .ok (.iconst 1, 1) := by decide +kernel
theorem dX4_valueOf_17 : decode cX4_valueOf 17 = .ok (.iadd, 1) := by decide +kernel
theorem dX4_valueOf_18 : decode cX4_valueOf 18 = .ok (.bipush 64, 2) := by decide +kernel
theorem dX4_valueOf_20 : decode cX4_valueOf 20 = .ok (.imul, 1) := by decide +kernel
theorem dX4_valueOf_21 : decode cX4_valueOf 21 = .ok (.iload_n 3, 1) := by decide +kernel
theorem dX4_valueOf_22 : decode cX4_valueOf 22 = .ok (.iconst 1, 1) := by decide +kernel
theorem dX4_valueOf_23 : decode cX4_valueOf 23 = .ok (.iload_n 2, 1) := by decide +kernel
theorem dX4_valueOf_24 : decode cX4_valueOf 24 = .ok (.ishl, 1) := by decide +kernel
theorem dX4_valueOf_25 : decode cX4_valueOf 25 = .ok (.ior, 1) := by decide +kernel
theorem dX4_valueOf_26 : decode cX4_valueOf 26 = .ok (.iadd, 1) := by decide +kernel
theorem dX4_valueOf_27 : decode cX4_valueOf 27 = .ok (.iaload, 1) := by decide +kernel
theorem dX4_valueOf_28 : decode cX4_valueOf 28 = .ok (.iadd, 1) := by decide +kernel
theorem dX4_valueOf_29 : decode cX4_valueOf 29 = .ok (.ireturn, 1) := by decide +kernel
theorem dX4_howMany_0 : decode cX4_howMany 0 = .ok (.aload_n 0, 1) := by decide +kernel
theorem dX4_howMany_1 : decode cX4_howMany 1 = .ok (.getfield 11, 3) := by decide +kernel
theorem dX4_howMany_4 : decode cX4_howMany 4 = .ok (.iconst 0, 1) := by decide +kernel
theorem dX4_howMany_5 : decode cX4_howMany 5 = .ok (.iaload, 1) := by decide +kernel
theorem dX4_howMany_6 : decode cX4_howMany 6 = .ok (.sipush 10000, 3) := by decide +kernel
theorem dX4_howMany_9 : decode cX4_howMany 9 = .ok (.idiv, 1) := by decide +kernel
theorem dX4_howMany_10 : decode cX4_howMany 10 = .ok (.ireturn, 1) := by decide +kernel
theorem dX4_together_0 : decode cX4_together 0 = .ok (.aload_n 0, 1) := by decide +kernel
theorem dX4_together_1 : decode cX4_together 1 = .ok (.getfield 11, 3) := by decide +kernel
theorem dX4_together_4 : decode cX4_together 4 = .ok (.iconst 0, 1) := by decide +kernel
theorem dX4_together_5 : decode cX4_together 5 = .ok (.iaload, 1) := by decide +kernel
theorem dX4_together_6 : decode cX4_together 6 = .ok (.sipush 10000, 3) := by decide +kernel
theorem dX4_together_9 : decode cX4_together 9 = .ok (.irem, 1) := by decide +kernel
theorem dX4_together_10 : decode cX4_together 10 = .ok (.ireturn, 1) := by decide +kernel
theorem dX4_objectorFor_0 : decode cX4_objectorFor 0 = .ok (.iconst 0, 1) := by decide +kernel
theorem dX4_objectorFor_1 : decode cX4_objectorFor 1 = .ok (.istore_n 3, 1) := by decide +kernel
theorem dX4_objectorFor_2 : decode cX4_objectorFor 2 = .ok (.iconst 0, 1) := by decide +kernel
theorem dX4_objectorFor_3 : decode cX4_objectorFor 3 = .ok (.istore 4, 2) := by decide +kernel
theorem dX4_objectorFor_5 : decode cX4_objectorFor 5 = .ok (.iload 4, 2) := by decide +kernel
theorem dX4_objectorFor_7 : decode cX4_objectorFor 7 = .ok (.iload_n 2, 1) := by decide +kernel
theorem dX4_objectorFor_8 : decode cX4_objectorFor 8 = .ok (.if_icmp .ge 36, 3) := by decide +kernel
theorem dX4_objectorFor_11 : decode cX4_objectorFor 11 = .ok (.aload_n 0, 1) := by decide +kernel
theorem dX4_objectorFor_12 : decode cX4_objectorFor 12 = .ok (.aload_n 1, 1) := by decide +kernel
theorem dX4_objectorFor_13 : decode cX4_objectorFor 13 = .ok (.iload 4, 2) := by decide +kernel
theorem dX4_objectorFor_15 : decode cX4_objectorFor 15 = .ok (.iload_n 3, 1) := by decide +kernel
theorem dX4_objectorFor_16 : decode cX4_objectorFor 16 = .ok (.invokevirtual 61, 3) := by decide +kernel
theorem dX4_objectorFor_19 : decode cX4_objectorFor 19 = .ok (.istore 5, 2) := by decide +kernel
theorem dX4_objectorFor_21 : decode cX4_objectorFor 21 = .ok (.iload_n 3, 1) := by decide +kernel
theorem dX4_objectorFor_22 : decode cX4_objectorFor 22 = .ok (.iload 5, 2) := by decide +kernel
theorem dX4_objectorFor_24 : decode cX4_objectorFor 24 = .ok (.iconst (-1), 1) := by decide +kernel
theorem dX4_objectorFor_25 : decode cX4_objectorFor 25 = .ok (.if_icmp .ne 7, 3) := by decide +kernel
theorem dX4_objectorFor_28 : decode cX4_objectorFor 28 = .ok (.iconst 0, 1) := by decide +kernel
theorem dX4_objectorFor_29 : decode cX4_objectorFor 29 = .ok (.goto 7, 3) := by decide +kernel
theorem dX4_objectorFor_32 : decode cX4_objectorFor 32 = .ok (.iconst 1, 1) := by decide +kernel
theorem dX4_objectorFor_33 : decode cX4_objectorFor 33 = .ok (.iload 5, 2) := by decide +kernel
theorem dX4_objectorFor_35 : decode cX4_objectorFor 35 = .ok (.ishl, 1) := by decide +kernel
theorem dX4_objectorFor_36 : decode cX4_objectorFor 36 = .ok (.ior, 1) := by decide +kernel
theorem dX4_objectorFor_37 : decode cX4_objectorFor 37 = .ok (.istore_n 3, 1) := by decide +kernel
theorem dX4_objectorFor_38 : decode cX4_objectorFor 38 = .ok (.iinc 4 1, 3) := by decide +kernel
theorem dX4_objectorFor_41 : decode cX4_objectorFor 41 = .ok (.goto (-36), 3) := by decide +kernel
theorem dX4_objectorFor_44 : decode cX4_objectorFor 44 = .ok (.aload_n 0, 1) := by decide +kernel
theorem dX4_objectorFor_45 : decode cX4_objectorFor 45 = .ok (.aload_n 1, 1) := by decide +kernel
theorem dX4_objectorFor_46 : decode cX4_objectorFor 46 = .ok (.iload_n 2, 1) := by decide +kernel
theorem dX4_objectorFor_47 : decode cX4_objectorFor 47 = .ok (.iload_n 3, 1) := by decide +kernel
theorem dX4_objectorFor_48 : decode cX4_objectorFor 48 = .ok (.invokevirtual 61, 3) := by decide +kernel
theorem dX4_objectorFor_51 : decode cX4_objectorFor 51 = .ok (.ireturn, 1) := by decide +kernel
theorem dX4_firstChoice_0 : decode cX4_firstChoice 0 = .ok (.iconst 0, 1) := by decide +kernel
theorem dX4_firstChoice_1 : decode cX4_firstChoice 1 = .ok (.istore 4, 2) := by decide +kernel
theorem dX4_firstChoice_3 : decode cX4_firstChoice 3 = .ok (.iload 4, 2) := by decide +kernel
theorem dX4_firstChoice_5 : decode cX4_firstChoice 5 = .ok (.aload_n 1, 1) := by decide +kernel
theorem dX4_firstChoice_6 : decode cX4_firstChoice 6 = .ok (.invokevirtual 34, 3) := by decide +kernel
theorem dX4_firstChoice_9 : decode cX4_firstChoice 9 = .ok (.if_icmp .ge 45, 3) := by decide +kernel
theorem dX4_firstChoice_12 : decode cX4_firstChoice 12 = .ok (.aload_n 0, 1) := by decide +kernel
theorem dX4_firstChoice_13 : decode cX4_firstChoice 13 = .ok (.iload_n 2, 1) := by decide +kernel
theorem dX4_firstChoice_14 : decode cX4_firstChoice 14 = .ok (.iload 4, 2) := by decide +kernel
theorem dX4_firstChoice_16 : decode cX4_firstChoice 16 = .ok (.iload_n 3, 1) := by decide +kernel
theorem dX4_firstChoice_17 : decode cX4_firstChoice 17 = .ok (.invokevirtual 49, 3) := by decide +kernel
theorem dX4_firstChoice_20 : decode cX4_firstChoice 20 = .ok (.ifCond .eq 28, 3) := by decide +kernel
theorem dX4_firstChoice_23 : decode cX4_firstChoice 23 = .ok (.aload_n 0, 1) := by decide +kernel
theorem dX4_firstChoice_24 : decode cX4_firstChoice 24 = .ok (.iload_n 2, 1) := by decide +kernel
theorem dX4_firstChoice_25 : decode cX4_firstChoice 25 = .ok (.iload 4, 2) := by decide +kernel
theorem dX4_firstChoice_27 : decode cX4_firstChoice 27 = .ok (.iload_n 3, 1) := by decide +kernel
theorem dX4_firstChoice_28 : decode cX4_firstChoice 28 = .ok (.invokevirtual 52, 3) := by decide +kernel
theorem dX4_firstChoice_31 : decode cX4_firstChoice 31 = .ok (.aload_n 0, 1) := by decide +kernel
theorem dX4_firstChoice_32 : decode cX4_firstChoice 32 = .ok (.getfield 11, 3) := by decide +kernel
theorem dX4_firstChoice_35 : decode cX4_firstChoice 35 = .ok (.iload_n 2, 1) := by decide +kernel
theorem dX4_firstChoice_36 : decode cX4_firstChoice 36 = .ok (.bipush 64, 2) := by decide +kernel
theorem dX4_firstChoice_38 : decode cX4_firstChoice 38 = .ok (.imul, 1) := by decide +kernel
theorem dX4_firstChoice_39 : decode cX4_firstChoice 39 = .ok (.iload_n 3, 1) := by decide +kernel
theorem dX4_firstChoice_40 : decode cX4_firstChoice 40 = .ok (.iadd, 1) := by decide +kernel
theorem dX4_firstChoice_41 : decode cX4_firstChoice 41 = .ok (.iaload, 1) := by decide +kernel
theorem dX4_firstChoice_42 : decode cX4_firstChoice 42 = .ok (.if_icmp .ne 6, 3) := by decide +kernel
theorem dX4_firstChoice_45 : decode cX4_firstChoice 45 = .ok (.iload 4, 2) := by decide +kernel
theorem dX4_firstChoice_47 : decode cX4_firstChoice 47 = .ok (.ireturn, 1) := by decide +kernel
theorem dX4_firstChoice_48 : decode cX4_firstChoice 48 = .ok (.iinc 4 1, 3) := by decide +kernel
theorem dX4_firstChoice_51 : decode cX4_firstChoice 51 = .ok (.goto (-48), 3) := by decide +kernel
theorem dX4_firstChoice_54 : decode cX4_firstChoice 54 = .ok (.iconst (-1), 1) := by decide +kernel
theorem dX4_firstChoice_55 : decode cX4_firstChoice 55 = .ok (.ireturn, 1) := by decide +kernel
theorem dX5_init_0 : decode cX5_init 0 = .ok (.aload_n 0, 1) := by decide +kernel
theorem dX5_init_1 : decode cX5_init 1 = .ok (.invokespecial 5, 3) := by decide +kernel
theorem dX5_init_4 : decode cX5_init 4 = .ok (.aload_n 0, 1) := by decide +kernel
theorem dX5_init_5 : decode cX5_init 5 = .ok (.sipush 172, 3) := by decide +kernel
theorem dX5_init_8 : decode cX5_init 8 = .ok (.newarray .int, 2) := by decide +kernel
theorem dX5_init_10 : decode cX5_init 10 = .ok (.putfield 11, 3) := by decide +kernel
theorem dX5_init_13 : decode cX5_init 13 = .ok (.return_, 1) := by decide +kernel
theorem dX5_clear_0 : decode cX5_clear 0 = .ok (.aload_n 0, 1) := by decide +kernel
theorem dX5_clear_1 : decode cX5_clear 1 = .ok (.getfield 11, 3) := by decide +kernel
theorem dX5_clear_4 : decode cX5_clear 4 = .ok (.iconst 0, 1) := by decide +kernel
theorem dX5_clear_5 : decode cX5_clear 5 = .ok (.invokestatic 15, 3) := by decide +kernel
theorem dX5_clear_8 : decode cX5_clear 8 = .ok (.return_, 1) := by decide +kernel
theorem dX5_copyFrom_0 : decode cX5_copyFrom 0 = .ok (.aload_n 1, 1) := by decide +kernel
theorem dX5_copyFrom_1 : decode cX5_copyFrom 1 = .ok (.iload_n 2, 1) := by decide +kernel
theorem dX5_copyFrom_2 : decode cX5_copyFrom 2 = .ok (.aload_n 0, 1) := by decide +kernel
theorem dX5_copyFrom_3 : decode cX5_copyFrom 3 = .ok (.getfield 11, 3) := by decide +kernel
theorem dX5_copyFrom_6 : decode cX5_copyFrom 6 = .ok (.iconst 0, 1) := by decide +kernel
theorem dX5_copyFrom_7 : decode cX5_copyFrom 7 = .ok (.sipush 172, 3) := by decide +kernel
theorem dX5_copyFrom_10 : decode cX5_copyFrom 10 = .ok (.invokestatic 21, 3) := by decide +kernel
theorem dX5_copyFrom_13 : decode cX5_copyFrom 13 = .ok (.return_, 1) := by decide +kernel
theorem dX5_copyTo_0 : decode cX5_copyTo 0 = .ok (.aload_n 0, 1) := by decide +kernel
theorem dX5_copyTo_1 : decode cX5_copyTo 1 = .ok (.getfield 11, 3) := by decide +kernel
theorem dX5_copyTo_4 : decode cX5_copyTo 4 = .ok (.iconst 0, 1) := by decide +kernel
theorem dX5_copyTo_5 : decode cX5_copyTo 5 = .ok (.aload_n 1, 1) := by decide +kernel
theorem dX5_copyTo_6 : decode cX5_copyTo 6 = .ok (.iload_n 2, 1) := by decide +kernel
theorem dX5_copyTo_7 : decode cX5_copyTo 7 = .ok (.sipush 172, 3) := by decide +kernel
theorem dX5_copyTo_10 : decode cX5_copyTo 10 = .ok (.invokestatic 21, 3) := by decide +kernel
theorem dX5_copyTo_13 : decode cX5_copyTo 13 = .ok (.return_, 1) := by decide +kernel
theorem dX5_least_0 : decode cX5_least 0 = .ok (.aload_n 0, 1) := by decide +kernel
theorem dX5_least_1 : decode cX5_least 1 = .ok (.getfield 11, 3) := by decide +kernel
theorem dX5_least_4 : decode cX5_least 4 = .ok (.iconst 0, 1) := by decide +kernel
theorem dX5_least_5 : decode cX5_least 5 = .ok (.iaload, 1) := by decide +kernel
theorem dX5_least_6 : decode cX5_least 6 = .ok (.ireturn, 1) := by decide +kernel
theorem dX5_setLeast_0 : decode cX5_setLeast 0 = .ok (.aload_n 0, 1) := by decide +kernel
theorem dX5_setLeast_1 : decode cX5_setLeast 1 = .ok (.getfield 11, 3) := by decide +kernel
theorem dX5_setLeast_4 : decode cX5_setLeast 4 = .ok (.iconst 0, 1) := by decide +kernel
theorem dX5_setLeast_5 : decode cX5_setLeast 5 = .ok (.iload_n 1, 1) := by decide +kernel
theorem dX5_setLeast_6 : decode cX5_setLeast 6 = .ok (.iastore, 1) := by decide +kernel
theorem dX5_setLeast_7 : decode cX5_setLeast 7 = .ok (.return_, 1) := by decide +kernel
theorem dX5_couples_0 : decode cX5_couples 0 = .ok (.aload_n 0, 1) := by decide +kernel
theorem dX5_couples_1 : decode cX5_couples 1 = .ok (.getfield 11, 3) := by decide +kernel
theorem dX5_couples_4 : decode cX5_couples 4 = .ok (.iconst 1, 1) := by decide +kernel
theorem dX5_couples_5 : decode cX5_couples 5 = .ok (.iaload, 1) := by decide +kernel
theorem dX5_couples_6 : decode cX5_couples 6 = .ok (.ireturn, 1) := by decide +kernel
theorem dX5_objectors_0 : decode cX5_objectors 0 = .ok (.aload_n 0, 1) := by decide +kernel
theorem dX5_objectors_1 : decode cX5_objectors 1 = .ok (.getfield 11, 3) := by decide +kernel
theorem dX5_objectors_4 : decode cX5_objectors 4 = .ok (.iconst 2, 1) := by decide +kernel
theorem dX5_objectors_5 : decode cX5_objectors 5 = .ok (.iaload, 1) := by decide +kernel
theorem dX5_objectors_6 : decode cX5_objectors 6 = .ok (.ireturn, 1) := by decide +kernel
theorem dX5_years_0 : decode cX5_years 0 = .ok (.aload_n 0, 1) := by decide +kernel
theorem dX5_years_1 : decode cX5_years 1 = .ok (.getfield 11, 3) := by decide +kernel
theorem dX5_years_4 : decode cX5_years 4 = .ok (.iconst 3, 1) := by decide +kernel
theorem dX5_years_5 : decode cX5_years 5 = .ok (.iaload, 1) := by decide +kernel
theorem dX5_years_6 : decode cX5_years 6 = .ok (.ireturn, 1) := by decide +kernel
theorem dX5_stood_0 : decode cX5_stood 0 = .ok (.aload_n 0, 1) := by decide +kernel
theorem dX5_stood_1 : decode cX5_stood 1 = .ok (.getfield 11, 3) := by decide +kernel
theorem dX5_stood_4 : decode cX5_stood 4 = .ok (.iconst 4, 1) := by decide +kernel
theorem dX5_stood_5 : decode cX5_stood 5 = .ok (.iaload, 1) := by decide +kernel
theorem dX5_stood_6 : decode cX5_stood 6 = .ok (.ireturn, 1) := by decide +kernel
theorem dX5_boxed_0 : decode cX5_boxed 0 = .ok (.aload_n 0, 1) := by decide +kernel
theorem dX5_boxed_1 : decode cX5_boxed 1 = .ok (.getfield 11, 3) := by decide +kernel
theorem dX5_boxed_4 : decode cX5_boxed 4 = .ok (.iconst 5, 1) := by decide +kernel
theorem dX5_boxed_5 : decode cX5_boxed 5 = .ok (.iaload, 1) := by decide +kernel
theorem dX5_boxed_6 : decode cX5_boxed 6 = .ok (.ireturn, 1) := by decide +kernel
theorem dX5_hasCouple_0 : decode cX5_hasCouple 0 = .ok (.iload_n 1, 1) := by decide +kernel
theorem dX5_hasCouple_1 : decode cX5_hasCouple 1 = .ok (.ifCond .lt 17, 3) := by decide +kernel
theorem dX5_hasCouple_4 : decode cX5_hasCouple 4 = .ok (.iload_n 1, 1) := by decide +kernel
theorem dX5_hasCouple_5 : decode cX5_hasCouple 5 = .ok (.aload_n 0, 1) := by decide +kernel
theorem dX5_hasCouple_6 : decode cX5_hasCouple 6 = .ok (.getfield 11, 3) := by decide +kernel
theorem dX5_hasCouple_9 : decode cX5_hasCouple 9 = .ok (.iconst 1, 1) := by decide +kernel
theorem dX5_hasCouple_10 : decode cX5_hasCouple 10 = .ok (.iaload, 1) := by decide +kernel
theorem dX5_hasCouple_11 : decode cX5_hasCouple 11 = .ok (.if_icmp .ge 7, 3) := by decide +kernel
theorem dX5_hasCouple_14 : decode cX5_hasCouple 14 = .ok (.iconst 1, 1) := by decide +kernel
theorem dX5_hasCouple_15 : decode cX5_hasCouple 15 = .ok (.goto 4, 3) := by decide +kernel
theorem dX5_hasCouple_18 : decode cX5_hasCouple 18 = .ok (.iconst 0, 1) := by decide +kernel
theorem dX5_hasCouple_19 : decode cX5_hasCouple 19 = .ok (.ireturn, 1) := by decide +kernel
theorem dX5_hasObjector_0 : decode cX5_hasObjector 0 = .ok (.iload_n 1, 1) := by decide +kernel
theorem dX5_hasObjector_1 : decode cX5_hasObjector 1 = .ok (.ifCond .lt 17, 3) := by decide +kernel
theorem dX5_hasObjector_4 : decode cX5_hasObjector 4 = .ok (.iload_n 1, 1) := by decide +kernel
theorem dX5_hasObjector_5 : decode cX5_hasObjector 5 = .ok (.aload_n 0, 1) := by decide +kernel
theorem dX5_hasObjector_6 : decode cX5_hasObjector 6 = .ok (.getfield 11, 3) := by decide +kernel
theorem dX5_hasObjector_9 : decode cX5_hasObjector 9 = .ok (.iconst 2, 1) := by decide +kernel
theorem dX5_hasObjector_10 : decode cX5_hasObjector 10 = .ok (.iaload, 1) := by decide +kernel
theorem dX5_hasObjector_11 : decode cX5_hasObjector 11 = .ok (.if_icmp .ge 7, 3) := by decide +kernel
theorem dX5_hasObjector_14 : decode cX5_hasObjector 14 = .ok (.iconst 1, 1) := by decide +kernel
theorem dX5_hasObjector_15 : decode cX5_hasObjector 15 = .ok (.goto 4, 3) := by decide +kernel
theorem dX5_hasObjector_18 : decode cX5_hasObjector 18 = .ok (.iconst 0, 1) := by decide +kernel
theorem dX5_hasObjector_19 : decode cX5_hasObjector 19 = .ok (.ireturn, 1) := by decide +kernel
theorem dX5_answer_0 : decode cX5_answer 0 = .ok (.aload_n 0, 1) := by decide +kernel
theorem dX5_answer_1 : decode cX5_answer 1 = .ok (.getfield 11, 3) := by decide +kernel
theorem dX5_answer_4 : decode cX5_answer 4 = .ok (.bipush 6, 2) := by decide +kernel
theorem dX5_answer_6 : decode cX5_answer 6 = .ok (.iload_n 1, 1) := by decide +kernel
theorem dX5_answer_7 : decode cX5_answer 7 = .ok (.iadd, 1) := by decide +kernel
theorem dX5_answer_8 : decode cX5_answer 8 = .ok (.iaload, 1) := by decide +kernel
theorem dX5_answer_9 : decode cX5_answer 9 = .ok (.ireturn, 1) := by decide +kernel
theorem dX5_setAnswer_0 : decode cX5_setAnswer 0 = .ok (.aload_n 0, 1) := by decide +kernel
theorem dX5_setAnswer_1 : decode cX5_setAnswer 1 = .ok (.getfield 11, 3) := by decide +kernel
theorem dX5_setAnswer_4 : decode cX5_setAnswer 4 = .ok (.bipush 6, 2) := by decide +kernel
theorem dX5_setAnswer_6 : decode cX5_setAnswer 6 = .ok (.iload_n 1, 1) := by decide +kernel
theorem dX5_setAnswer_7 : decode cX5_setAnswer 7 = .ok (.iadd, 1) := by decide +kernel
theorem dX5_setAnswer_8 : decode cX5_setAnswer 8 = .ok (.iload_n 2, 1) := by decide +kernel
theorem dX5_setAnswer_9 : decode cX5_setAnswer 9 = .ok (.iastore, 1) := by decide +kernel
theorem dX5_setAnswer_10 : decode cX5_setAnswer 10 = .ok (.return_, 1) := by decide +kernel
theorem dX5_fate_0 : decode cX5_fate 0 = .ok (.aload_n 0, 1) := by decide +kernel
theorem dX5_fate_1 : decode cX5_fate 1 = .ok (.getfield 11, 3) := by decide +kernel
theorem dX5_fate_4 : decode cX5_fate 4 = .ok (.bipush 12, 2) := by decide +kernel
theorem dX5_fate_6 : decode cX5_fate 6 = .ok (.iload_n 1, 1) := by decide +kernel
theorem dX5_fate_7 : decode cX5_fate 7 = .ok (.iadd, 1) := by decide +kernel
theorem dX5_fate_8 : decode cX5_fate 8 = .ok (.iaload, 1) := by decide +kernel
theorem dX5_fate_9 : decode cX5_fate 9 = .ok (.ireturn, 1) := by decide +kernel
theorem dX5_waits_0 : decode cX5_waits 0 = .ok (.aload_n 0, 1) := by decide +kernel
theorem dX5_waits_1 : decode cX5_waits 1 = .ok (.getfield 11, 3) := by decide +kernel
theorem dX5_waits_4 : decode cX5_waits 4 = .ok (.bipush 12, 2) := by decide +kernel
theorem dX5_waits_6 : decode cX5_waits 6 = .ok (.iload_n 1, 1) := by decide +kernel
theorem dX5_waits_7 : decode cX5_waits 7 = .ok (.iadd, 1) := by decide +kernel
theorem dX5_waits_8 : decode cX5_waits 8 = .ok (.iaload, 1) := by decide +kernel
theorem dX5_waits_9 : decode cX5_waits 9 = .ok (.ifCond .ne 7, 3) := by decide +kernel
theorem dX5_waits_12 : decode cX5_waits 12 = .ok (.iconst 1, 1) := by decide +kernel
theorem dX5_waits_13 : decode cX5_waits 13 = .ok (.goto 4, 3) := by decide +kernel
theorem dX5_waits_16 : decode cX5_waits 16 = .ok (.iconst 0, 1) := by decide +kernel
theorem dX5_waits_17 : decode cX5_waits 17 = .ok (.ireturn, 1) := by decide +kernel
theorem dX5_strong_0 : decode cX5_strong 0 = .ok (.aload_n 0, 1) := by decide +kernel
theorem dX5_strong_1 : decode cX5_strong 1 = .ok (.getfield 11, 3) := by decide +kernel
theorem dX5_strong_4 : decode cX5_strong 4 = .ok (.bipush 18, 2) := by decide +kernel
theorem dX5_strong_6 : decode cX5_strong 6 = .ok (.iload_n 1, 1) := by decide +kernel
theorem dX5_strong_7 : decode cX5_strong 7 = .ok (.iadd, 1) := by decide +kernel
theorem dX5_strong_8 : decode cX5_strong 8 = .ok (.iaload, 1) := by decide +kernel
theorem dX5_strong_9 : decode cX5_strong 9 = .ok (.ireturn, 1) := by decide +kernel
theorem dX5_weight_0 : decode cX5_weight 0 = .ok (.aload_n 0, 1) := by decide +kernel
theorem dX5_weight_1 : decode cX5_weight 1 = .ok (.getfield 11, 3) := by decide +kernel
theorem dX5_weight_4 : decode cX5_weight 4 = .ok (.bipush 24, 2) := by decide +kernel
theorem dX5_weight_6 : decode cX5_weight 6 = .ok (.iload_n 1, 1) := by decide +kernel
theorem dX5_weight_7 : decode cX5_weight 7 = .ok (.iconst 5, 1) := by decide +kernel
theorem dX5_weight_8 : decode cX5_weight 8 = .ok (.imul, 1) := by decide +kernel
theorem dX5_weight_9 : decode cX5_weight 9 = .ok (.iadd, 1) := by decide +kernel
theorem dX5_weight_10 : decode cX5_weight 10 = .ok (.iload_n 2, 1) := by decide +kernel
theorem dX5_weight_11 : decode cX5_weight 11 = .ok (.iadd, 1) := by decide +kernel
theorem dX5_weight_12 : decode cX5_weight 12 = .ok (.iaload, 1) := by decide +kernel
theorem dX5_weight_13 : decode cX5_weight 13 = .ok (.ireturn, 1) := by decide +kernel
theorem dX5_setWeight_0 : decode cX5_setWeight 0 = .ok (.aload_n 0, 1) := by decide +kernel
theorem dX5_setWeight_1 : decode cX5_setWeight 1 = .ok (.getfield 11, 3) := by decide +kernel
theorem dX5_setWeight_4 : decode cX5_setWeight 4 = .ok (.bipush 24, 2) := by decide +kernel
theorem dX5_setWeight_6 : decode cX5_setWeight 6 = .ok (.iload_n 1, 1) := by decide +kernel
theorem dX5_setWeight_7 : decode cX5_setWeight 7 = .ok (.iconst 5, 1) := by decide +kernel
theorem dX5_setWeight_8 : decode cX5_setWeight 8 = .ok (.imul, 1) := by decide +kernel
theorem dX5_setWeight_9 : decode cX5_setWeight 9 = .ok (.iadd, 1) := by decide +kernel
theorem dX5_setWeight_10 : decode cX5_setWeight 10 = .ok (.iload_n 2, 1) := by decide +kernel
theorem dX5_setWeight_11 : decode cX5_setWeight 11 = .ok (.iadd, 1) := by decide +kernel
theorem dX5_setWeight_12 : decode cX5_setWeight 12 = .ok (.iload_n 3, 1) := by decide +kernel
theorem dX5_setWeight_13 : decode cX5_setWeight 13 = .ok (.iastore, 1) := by decide +kernel
theorem dX5_setWeight_14 : decode cX5_setWeight 14 = .ok (.return_, 1) := by decide +kernel
theorem dX5_kind_0 : decode cX5_kind 0 = .ok (.aload_n 0, 1) := by decide +kernel
theorem dX5_kind_1 : decode cX5_kind 1 = .ok (.getfield 11, 3) := by decide +kernel
theorem dX5_kind_4 : decode cX5_kind 4 = .ok (.bipush 54, 2) := by decide +kernel
theorem dX5_kind_6 : decode cX5_kind 6 = .ok (.iload_n 1, 1) := by decide +kernel
theorem dX5_kind_7 : decode cX5_kind 7 = .ok (.iadd, 1) := by decide +kernel
theorem dX5_kind_8 : decode cX5_kind 8 = .ok (.iaload, 1) := by decide +kernel
theorem dX5_kind_9 : decode cX5_kind 9 = .ok (.ireturn, 1) := by decide +kernel
theorem dX5_skill_0 : decode cX5_skill 0 = .ok (.aload_n 0, 1) := by decide +kernel
theorem dX5_skill_1 : decode cX5_skill 1 = .ok (.getfield 11, 3) := by decide +kernel
theorem dX5_skill_4 : decode cX5_skill 4 = .ok (.bipush 60, 2) := by decide +kernel
theorem dX5_skill_6 : decode cX5_skill 6 = .ok (.iload_n 1, 1) := by decide +kernel
theorem dX5_skill_7 : decode cX5_skill 7 = .ok (.iadd, 1) := by decide +kernel
theorem dX5_skill_8 : decode cX5_skill 8 = .ok (.iaload, 1) := by decide +kernel
theorem dX5_skill_9 : decode cX5_skill 9 = .ok (.ireturn, 1) := by decide +kernel
theorem dX5_setSkill_0 : decode cX5_setSkill 0 = .ok (.aload_n 0, 1) := by decide +kernel
theorem dX5_setSkill_1 : decode cX5_setSkill 1 = .ok (.getfield 11, 3) := by decide +kernel
theorem dX5_setSkill_4 : decode cX5_setSkill 4 = .ok (.bipush 60, 2) := by decide +kernel
theorem dX5_setSkill_6 : decode cX5_setSkill 6 = .ok (.iload_n 1, 1) := by decide +kernel
theorem dX5_setSkill_7 : decode cX5_setSkill 7 = .ok (.iadd, 1) := by decide +kernel
theorem dX5_setSkill_8 : decode cX5_setSkill 8 = .ok (.iload_n 2, 1) := by decide +kernel
theorem dX5_setSkill_9 : decode cX5_setSkill 9 = .ok (.iastore, 1) := by decide +kernel
theorem dX5_setSkill_10 : decode cX5_setSkill 10 = .ok (.return_, 1) := by decide +kernel
theorem dX5_known_0 : decode cX5_known 0 = .ok (.aload_n 0, 1) := by decide +kernel
theorem dX5_known_1 : decode cX5_known 1 = .ok (.getfield 11, 3) := by decide +kernel
theorem dX5_known_4 : decode cX5_known 4 = .ok (.bipush 66, 2) := by decide +kernel
theorem dX5_known_6 : decode cX5_known 6 = .ok (.iload_n 1, 1) := by decide +kernel
theorem dX5_known_7 : decode cX5_known 7 = .ok (.iadd, 1) := by decide +kernel
theorem dX5_known_8 : decode cX5_known 8 = .ok (.iaload, 1) := by decide +kernel
theorem dX5_known_9 : decode cX5_known 9 = .ok (.ireturn, 1) := by decide +kernel
theorem dX5_setKnown_0 : decode cX5_setKnown 0 = .ok (.aload_n 0, 1) := by decide +kernel
theorem dX5_setKnown_1 : decode cX5_setKnown 1 = .ok (.getfield 11, 3) := by decide +kernel
theorem dX5_setKnown_4 : decode cX5_setKnown 4 = .ok (.bipush 66, 2) := by decide +kernel
theorem dX5_setKnown_6 : decode cX5_setKnown 6 = .ok (.iload_n 1, 1) := by decide +kernel
theorem dX5_setKnown_7 : decode cX5_setKnown 7 = .ok (.iadd, 1) := by decide +kernel
theorem dX5_setKnown_8 : decode cX5_setKnown 8 = .ok (.iload_n 2, 1) := by decide +kernel
theorem dX5_setKnown_9 : decode cX5_setKnown 9 = .ok (.iastore, 1) := by decide +kernel
theorem dX5_setKnown_10 : decode cX5_setKnown 10 = .ok (.return_, 1) := by decide +kernel
theorem dX5_hasStood_0 : decode cX5_hasStood 0 = .ok (.aload_n 0, 1) := by decide +kernel
theorem dX5_hasStood_1 : decode cX5_hasStood 1 = .ok (.getfield 11, 3) := by decide +kernel
theorem dX5_hasStood_4 : decode cX5_hasStood 4 = .ok (.iconst 4, 1) := by decide +kernel
theorem dX5_hasStood_5 : decode cX5_hasStood 5 = .ok (.iaload, 1) := by decide +kernel
theorem dX5_hasStood_6 : decode cX5_hasStood 6 = .ok (.iload_n 1, 1) := by decide +kernel
theorem dX5_hasStood_7 : decode cX5_hasStood 7 = .ok (.ishr, 1) := by decide +kernel
theorem dX5_hasStood_8 : decode cX5_hasStood 8 = .ok (.iconst 1, 1) := by decide +kernel
theorem dX5_hasStood_9 : decode cX5_hasStood 9 = .ok (.iand, 1) := by decide +kernel
theorem dX5_hasStood_10 : decode cX5_hasStood 10 = .ok (.iconst 1, 1) := by decide +kernel
theorem dX5_hasStood_11 : decode cX5_hasStood 11 = .ok (.if_icmp .ne 7, 3) := by decide +kernel
theorem dX5_hasStood_14 : decode cX5_hasStood 14 = .ok (.iconst 1, 1) := by decide +kernel
theorem dX5_hasStood_15 : decode cX5_hasStood 15 = .ok (.goto 4, 3) := by decide +kernel
theorem dX5_hasStood_18 : decode cX5_hasStood 18 = .ok (.iconst 0, 1) := by decide +kernel
theorem dX5_hasStood_19 : decode cX5_hasStood 19 = .ok (.ireturn, 1) := by decide +kernel
theorem dX5_fromBox_0 : decode cX5_fromBox 0 = .ok (.aload_n 0, 1) := by decide +kernel
theorem dX5_fromBox_1 : decode cX5_fromBox 1 = .ok (.getfield 11, 3) := by decide +kernel
theorem dX5_fromBox_4 : decode cX5_fromBox 4 = .ok (.bipush 72, 2) := by decide +kernel
theorem dX5_fromBox_6 : decode cX5_fromBox 6 = .ok (.iload_n 1, 1) := by decide +kernel
theorem dX5_fromBox_7 : decode cX5_fromBox 7 = .ok (.iconst 5, 1) := by decide +kernel
theorem dX5_fromBox_8 : decode cX5_fromBox 8 = .ok (.imul, 1) := by decide +kernel
theorem dX5_fromBox_9 : decode cX5_fromBox 9 = .ok (.iadd, 1) := by decide +kernel
theorem dX5_fromBox_10 : decode cX5_fromBox 10 = .ok (.iload_n 2, 1) := by decide +kernel
theorem dX5_fromBox_11 : decode cX5_fromBox 11 = .ok (.iadd, 1) := by decide +kernel
theorem dX5_fromBox_12 : decode cX5_fromBox 12 = .ok (.iaload, 1) := by decide +kernel
theorem dX5_fromBox_13 : decode cX5_fromBox 13 = .ok (.ireturn, 1) := by decide +kernel
theorem dX5_addCouple_0 : decode cX5_addCouple 0 = .ok (.aload_n 0, 1) := by decide +kernel
theorem dX5_addCouple_1 : decode cX5_addCouple 1 = .ok (.getfield 11, 3) := by decide +kernel
theorem dX5_addCouple_4 : decode cX5_addCouple 4 = .ok (.iconst 1, 1) := by decide +kernel
theorem dX5_addCouple_5 : decode cX5_addCouple 5 = .ok (.dup2, 1) := by decide +kernel
theorem dX5_addCouple_6 : decode cX5_addCouple 6 = .ok (.iaload, 1) := by decide +kernel
theorem dX5_addCouple_7 : decode cX5_addCouple 7 = .ok (.iconst 1, 1) := by decide +kernel
theorem dX5_addCouple_8 : decode cX5_addCouple 8 = .ok (.iadd, 1) := by decide +kernel
theorem dX5_addCouple_9 : decode cX5_addCouple 9 = .ok (.iastore, 1) := by decide +kernel
theorem dX5_addCouple_10 : decode cX5_addCouple 10 = .ok (.return_, 1) := by decide +kernel
theorem dX5_addObjector_0 : decode cX5_addObjector 0 = .ok (.aload_n 0, 1) := by decide +kernel
theorem dX5_addObjector_1 : decode cX5_addObjector 1 = .ok (.getfield 11, 3) := by decide +kernel
theorem dX5_addObjector_4 : decode cX5_addObjector 4 = .ok (.iconst 2, 1) := by decide +kernel
theorem dX5_addObjector_5 : decode cX5_addObjector 5 = .ok (.dup2, 1) := by decide +kernel
theorem dX5_addObjector_6 : decode cX5_addObjector 6 = .ok (.iaload, 1) := by decide +kernel
theorem dX5_addObjector_7 : decode cX5_addObjector 7 = .ok (.dup_x2, 1) := by decide +kernel
theorem dX5_addObjector_8 : decode cX5_addObjector 8 = .ok (.iconst 1, 1) := by decide +kernel
theorem dX5_addObjector_9 : decode cX5_addObjector 9 = .ok (.iadd, 1) := by decide +kernel
theorem dX5_addObjector_10 : decode cX5_addObjector 10 = .ok (.iastore, 1) := by decide +kernel
theorem dX5_addObjector_11 : decode cX5_addObjector 11 = .ok (.istore 4, 2) := by decide +kernel
theorem dX5_addObjector_13 : decode cX5_addObjector 13 = .ok (.aload_n 0, 1) := by decide +kernel
theorem dX5_addObjector_14 : decode cX5_addObjector 14 = .ok (.getfield 11, 3) := by decide +kernel
theorem dX5_addObjector_17 : decode cX5_addObjector 17 = .ok (.bipush 54, 2) := by decide +kernel
theorem dX5_addObjector_19 : decode cX5_addObjector 19 = .ok (.iload 4, 2) := by decide +kernel
theorem dX5_addObjector_21 : decode cX5_addObjector 21 = .ok (.iadd, 1) := by decide +kernel
theorem dX5_addObjector_22 : decode cX5_addObjector 22 = .ok (.iload_n 1, 1) := by decide +kernel
theorem dX5_addObjector_23 : decode cX5_addObjector 23 = .ok (.iastore, 1) := by decide +kernel
theorem dX5_addObjector_24 : decode cX5_addObjector 24 = .ok (.aload_n 0, 1) := by decide +kernel
theorem dX5_addObjector_25 : decode cX5_addObjector 25 = .ok (.getfield 11, 3) := by decide +kernel
theorem dX5_addObjector_28 : decode cX5_addObjector 28 = .ok (.bipush 60, 2) := by decide +kernel
theorem dX5_addObjector_30 : decode cX5_addObjector 30 = .ok (.iload 4, 2) := by decide +kernel
theorem dX5_addObjector_32 : decode cX5_addObjector 32 = .ok (.iadd, 1) := by decide +kernel
theorem dX5_addObjector_33 : decode cX5_addObjector 33 = .ok (.iload_n 2, 1) := by decide +kernel
theorem dX5_addObjector_34 : decode cX5_addObjector 34 = .ok (.iastore, 1) := by decide +kernel
theorem dX5_addObjector_35 : decode cX5_addObjector 35 = .ok (.aload_n 0, 1) := by decide +kernel
theorem dX5_addObjector_36 : decode cX5_addObjector 36 = .ok (.getfield 11, 3) := by decide +kernel
theorem dX5_addObjector_39 : decode cX5_addObjector 39 = .ok (.bipush 66, 2) := by decide +kernel
theorem dX5_addObjector_41 : decode cX5_addObjector 41 = .ok (.iload 4, 2) := by decide +kernel
theorem dX5_addObjector_43 : decode cX5_addObjector 43 = .ok (.iadd, 1) := by decide +kernel
theorem dX5_addObjector_44 : decode cX5_addObjector 44 = .ok (.iload_n 3, 1) := by decide +kernel
theorem dX5_addObjector_45 : decode cX5_addObjector 45 = .ok (.iastore, 1) := by decide +kernel
theorem dX5_addObjector_46 : decode cX5_addObjector 46 = .ok (.return_, 1) := by decide +kernel
theorem dX5_couplesThat_0 : decode cX5_couplesThat 0 = .ok (.iconst 0, 1) := by decide +kernel
theorem dX5_couplesThat_1 : decode cX5_couplesThat 1 = .ok (.istore_n 2, 1) := by decide +kernel
theorem dX5_couplesThat_2 : decode cX5_couplesThat 2 = .ok (.iconst 0, 1) := by decide +kernel
theorem dX5_couplesThat_3 : decode cX5_couplesThat 3 = .ok (.istore_n 3, 1) := by decide +kernel
theorem dX5_couplesThat_4 : decode cX5_couplesThat 4 = .ok (.iload_n 3, 1) := by decide +kernel
theorem dX5_couplesThat_5 : decode cX5_couplesThat 5 = .ok (.aload_n 0, 1) := by decide +kernel
theorem dX5_couplesThat_6 : decode cX5_couplesThat 6 = .ok (.invokevirtual 27, 3) := by decide +kernel
theorem dX5_couplesThat_9 : decode cX5_couplesThat 9 = .ok (.if_icmp .ge 24, 3) := by decide +kernel
theorem dX5_couplesThat_12 : decode cX5_couplesThat 12 = .ok (.aload_n 0, 1) := by decide +kernel
theorem dX5_couplesThat_13 : decode cX5_couplesThat 13 = .ok (.iload_n 3, 1) := by decide +kernel
theorem dX5_couplesThat_14 : decode cX5_couplesThat 14 = .ok (.invokevirtual 31, 3) := by decide +kernel
theorem dX5_couplesThat_17 : decode cX5_couplesThat 17 = .ok (.iload_n 1, 1) := by decide +kernel
theorem dX5_couplesThat_18 : decode cX5_couplesThat 18 = .ok (.if_icmp .ne 9, 3) := by decide +kernel
theorem dX5_couplesThat_21 : decode cX5_couplesThat 21 = .ok (.iload_n 2, 1) := by decide +kernel
theorem dX5_couplesThat_22 : decode cX5_couplesThat 22 = .ok (.iconst 1, 1) := by decide +kernel
theorem dX5_couplesThat_23 : decode cX5_couplesThat 23 = .ok (.iload_n 3, 1) := by decide +kernel
theorem dX5_couplesThat_24 : decode cX5_couplesThat 24 = .ok (.ishl, 1) := by decide +kernel
theorem dX5_couplesThat_25 : decode cX5_couplesThat 25 = .ok (.ior, 1) := by decide +kernel
theorem dX5_couplesThat_26 : decode cX5_couplesThat 26 = .ok (.istore_n 2, 1) := by decide +kernel
theorem dX5_couplesThat_27 : decode cX5_couplesThat 27 = .ok (.iinc 3 1, 3) := by decide +kernel
theorem dX5_couplesThat_30 : decode cX5_couplesThat 30 = .ok (.goto (-26), 3) := by decide +kernel
theorem dX5_couplesThat_33 : decode cX5_couplesThat 33 = .ok (.iload_n 2, 1) := by decide +kernel
theorem dX5_couplesThat_34 : decode cX5_couplesThat 34 = .ok (.ireturn, 1) := by decide +kernel
theorem dX5_reasonOf_0 : decode cX5_reasonOf 0 = .ok (.iconst (-1), 1) := by decide +kernel
theorem dX5_reasonOf_1 : decode cX5_reasonOf 1 = .ok (.istore_n 3, 1) := by decide +kernel
theorem dX5_reasonOf_2 : decode cX5_reasonOf 2 = .ok (.aload_n 0, 1) := by decide +kernel
theorem dX5_reasonOf_3 : decode cX5_reasonOf 3 = .ok (.iload_n 1, 1) := by decide +kernel
theorem dX5_reasonOf_4 : decode cX5_reasonOf 4 = .ok (.invokevirtual 35, 3) := by decide +kernel
theorem dX5_reasonOf_7 : decode cX5_reasonOf 7 = .ok (.iconst 3, 1) := by decide +kernel
theorem dX5_reasonOf_8 : decode cX5_reasonOf 8 = .ok (.if_icmp .ne 5, 3) := by decide +kernel
theorem dX5_reasonOf_11 : decode cX5_reasonOf 11 = .ok (.iload_n 3, 1) := by decide +kernel
theorem dX5_reasonOf_12 : decode cX5_reasonOf 12 = .ok (.ireturn, 1) := by decide +kernel
theorem dX5_reasonOf_13 : decode cX5_reasonOf 13 = .ok (.iconst 0, 1) := by decide +kernel
theorem dX5_reasonOf_14 : decode cX5_reasonOf 14 = .ok (.istore 4, 2) := by decide +kernel
theorem dX5_reasonOf_16 : decode cX5_reasonOf 16 = .ok (.iload 4, 2) := by decide +kernel
theorem dX5_reasonOf_18 : decode cX5_reasonOf 18 = .ok (.iconst 5, 1) := by decide +kernel
theorem dX5_reasonOf_19 : decode cX5_reasonOf 19 = .ok (.if_icmp .ge 59, 3) := by decide +kernel
theorem dX5_reasonOf_22 : decode cX5_reasonOf 22 = .ok (.aload_n 0, 1) := by decide +kernel
theorem dX5_reasonOf_23 : decode cX5_reasonOf 23 = .ok (.iload_n 1, 1) := by decide +kernel
theorem dX5_reasonOf_24 : decode cX5_reasonOf 24 = .ok (.invokevirtual 38, 3) := by decide +kernel
theorem dX5_reasonOf_27 : decode cX5_reasonOf 27 = .ok (.iload 4, 2) := by decide +kernel
theorem dX5_reasonOf_29 : decode cX5_reasonOf 29 = .ok (.ishr, 1) := by decide +kernel
theorem dX5_reasonOf_30 : decode cX5_reasonOf 30 = .ok (.iconst 1, 1) := by decide +kernel
theorem dX5_reasonOf_31 : decode cX5_reasonOf 31 = .ok (.iand, 1) := by decide +kernel
theorem dX5_reasonOf_32 : decode cX5_reasonOf 32 = .ok (.iconst 1, 1) := by decide +kernel
theorem dX5_reasonOf_33 : decode cX5_reasonOf 33 = .ok (.if_icmp .ne 7, 3) := by decide +kernel
theorem dX5_reasonOf_36 : decode cX5_reasonOf 36 = .ok (.iconst 1, 1) := by decide +kernel
theorem dX5_reasonOf_37 : decode cX5_reasonOf 37 = .ok (.goto 4, 3) := by decide +kernel
theorem dX5_reasonOf_40 : decode cX5_reasonOf 40 = .ok (.iconst 0, 1) := by decide +kernel
theorem dX5_reasonOf_41 : decode cX5_reasonOf 41 = .ok (.istore 5, 2) := by decide +kernel
theorem dX5_reasonOf_43 : decode cX5_reasonOf 43 = .ok (.iload 5, 2) := by decide +kernel
theorem dX5_reasonOf_45 : decode cX5_reasonOf 45 = .ok (.ifCond .eq 27, 3) := by decide +kernel
theorem dX5_reasonOf_48 : decode cX5_reasonOf 48 = .ok (.iload_n 3, 1) := by decide +kernel
theorem dX5_reasonOf_49 : decode cX5_reasonOf 49 = .ok (.iconst (-1), 1) := by decide +kernel
theorem dX5_reasonOf_50 : decode cX5_reasonOf 50 = .ok (.if_icmp .eq 19, 3) := by decide +kernel
theorem dX5_reasonOf_53 : decode cX5_reasonOf 53 = .ok (.aload_n 0, 1) := by decide +kernel
theorem dX5_reasonOf_54 : decode cX5_reasonOf 54 = .ok (.iload_n 2, 1) := by decide +kernel
theorem dX5_reasonOf_55 : decode cX5_reasonOf 55 = .ok (.iload 4, 2) := by decide +kernel
theorem dX5_reasonOf_57 : decode cX5_reasonOf 57 = .ok (.invokevirtual 41, 3) := by decide +kernel
theorem dX5_reasonOf_60 : decode cX5_reasonOf 60 = .ok (.aload_n 0, 1) := by decide +kernel
theorem dX5_reasonOf_61 : decode cX5_reasonOf 61 = .ok (.iload_n 2, 1) := by decide +kernel
theorem dX5_reasonOf_62 : decode cX5_reasonOf 62 = .ok (.iload_n 3, 1) := by decide +kernel
theorem dX5_reasonOf_63 : decode cX5_reasonOf 63 = .ok (.invokevirtual 41, 3) := by decide +kernel
theorem dX5_reasonOf_66 : decode cX5_reasonOf 66 = .ok (.if_icmp .le 6, 3) := by decide +kernel
theorem dX5_reasonOf_69 : decode cX5_reasonOf 69 = .ok (.iload 4, 2) := by decide +kernel
theorem dX5_reasonOf_71 : decode cX5_reasonOf 71 = .ok (.istore_n 3, 1) := by decide +kernel
theorem dX5_reasonOf_72 : decode cX5_reasonOf 72 = .ok (.iinc 4 1, 3) := by decide +kernel
theorem dX5_reasonOf_75 : decode cX5_reasonOf 75 = .ok (.goto (-59), 3) := by decide +kernel
theorem dX5_reasonOf_78 : decode cX5_reasonOf 78 = .ok (.iload_n 3, 1) := by decide +kernel
theorem dX5_reasonOf_79 : decode cX5_reasonOf 79 = .ok (.ireturn, 1) := by decide +kernel
theorem dX5_strengthIn_0 : decode cX5_strengthIn 0 = .ok (.aload_n 0, 1) := by decide +kernel
theorem dX5_strengthIn_1 : decode cX5_strengthIn 1 = .ok (.iload_n 1, 1) := by decide +kernel
theorem dX5_strengthIn_2 : decode cX5_strengthIn 2 = .ok (.iload_n 2, 1) := by decide +kernel
theorem dX5_strengthIn_3 : decode cX5_strengthIn 3 = .ok (.invokevirtual 45, 3) := by decide +kernel
theorem dX5_strengthIn_6 : decode cX5_strengthIn 6 = .ok (.istore 4, 2) := by decide +kernel
theorem dX5_strengthIn_8 : decode cX5_strengthIn 8 = .ok (.iload 4, 2) := by decide +kernel
theorem dX5_strengthIn_10 : decode cX5_strengthIn 10 = .ok (.iconst (-1), 1) := by decide +kernel
theorem dX5_strengthIn_11 : decode cX5_strengthIn 11 = .ok (.if_icmp .ne 7, 3) := by decide +kernel
theorem dX5_strengthIn_14 : decode cX5_strengthIn 14 = .ok (.iconst 0, 1) := by decide +kernel
theorem dX5_strengthIn_15 : decode cX5_strengthIn 15 = .ok (.goto 10, 3) := by decide +kernel
theorem dX5_strengthIn_18 : decode cX5_strengthIn 18 = .ok (.aload_n 0, 1) := by decide +kernel
theorem dX5_strengthIn_19 : decode cX5_strengthIn 19 = .ok (.iload_n 2, 1) := by decide +kernel
theorem dX5_strengthIn_20 : decode cX5_strengthIn 20 = .ok (.iload 4, 2) := by decide +kernel
theorem dX5_strengthIn_22 : decode cX5_strengthIn 22 = .ok (.invokevirtual 41, 3) := by decide +kernel
theorem dX5_strengthIn_25 : decode cX5_strengthIn 25 = .ok (.istore 5, 2) := by decide +kernel
theorem dX5_strengthIn_27 : decode cX5_strengthIn 27 = .ok (.aload_n 0, 1) := by decide +kernel
theorem dX5_strengthIn_28 : decode cX5_strengthIn 28 = .ok (.iload_n 1, 1) := by decide +kernel
theorem dX5_strengthIn_29 : decode cX5_strengthIn 29 = .ok (.invokevirtual 35, 3) := by decide +kernel
theorem dX5_strengthIn_32 : decode cX5_strengthIn 32 = .ok (.ifCond .ne 18, 3) := by decide +kernel
theorem dX5_strengthIn_35 : decode cX5_strengthIn 35 = .ok (.bipush 40, 2) := by decide +kernel
theorem dX5_strengthIn_37 : decode cX5_strengthIn 37 = .ok (.aload_n 0, 1) := by decide +kernel
theorem dX5_strengthIn_38 : decode cX5_strengthIn 38 = .ok (.iload_n 1, 1) := by decide +kernel
theorem dX5_strengthIn_39 : decode cX5_strengthIn 39 = .ok (.invokevirtual 48, 3) := by decide +kernel
theorem dX5_strengthIn_42 : decode cX5_strengthIn 42 = .ok (.iload_n 3, 1) := by decide +kernel
theorem dX5_strengthIn_43 : decode cX5_strengthIn 43 = .ok (.iadd, 1) := by decide +kernel
theorem dX5_strengthIn_44 : decode cX5_strengthIn 44 = .ok (.invokestatic 51, 3) := by decide +kernel
theorem dX5_strengthIn_47 : decode cX5_strengthIn 47 = .ok (.goto 8, 3) := by decide +kernel
theorem dX5_strengthIn_50 : decode cX5_strengthIn 50 = .ok (.aload_n 0, 1) := by decide +kernel
theorem dX5_strengthIn_51 : decode cX5_strengthIn 51 = .ok (.iload_n 1, 1) := by decide +kernel
theorem dX5_strengthIn_52 : decode cX5_strengthIn 52 = .ok (.invokevirtual 48, 3) := by decide +kernel
theorem dX5_strengthIn_55 : decode cX5_strengthIn 55 = .ok (.istore 6, 2) := by decide +kernel
theorem dX5_strengthIn_57 : decode cX5_strengthIn 57 = .ok (.aload_n 0, 1) := by decide +kernel
theorem dX5_strengthIn_58 : decode cX5_strengthIn 58 = .ok (.iload_n 1, 1) := by decide +kernel
theorem dX5_strengthIn_59 : decode cX5_strengthIn 59 = .ok (.invokevirtual 35, 3) := by decide +kernel
theorem dX5_strengthIn_62 : decode cX5_strengthIn 62 = .ok (.iload 6, 2) := by decide +kernel
theorem dX5_strengthIn_64 : decode cX5_strengthIn 64 = .ok (.iload 5, 2) := by decide +kernel
theorem dX5_strengthIn_66 : decode cX5_strengthIn 66 = .ok (.invokestatic 56, 3) := by decide +kernel
theorem dX5_strengthIn_69 : decode cX5_strengthIn 69 = .ok (.ireturn, 1) := by decide +kernel
theorem dX5_objects_0 : decode cX5_objects 0 = .ok (.aload_n 0, 1) := by decide +kernel
theorem dX5_objects_1 : decode cX5_objects 1 = .ok (.iload_n 1, 1) := by decide +kernel
theorem dX5_objects_2 : decode cX5_objects 2 = .ok (.iload_n 2, 1) := by decide +kernel
theorem dX5_objects_3 : decode cX5_objects 3 = .ok (.iconst 0, 1) := by decide +kernel
theorem dX5_objects_4 : decode cX5_objects 4 = .ok (.invokevirtual 60, 3) := by decide +kernel
theorem dX5_objects_7 : decode cX5_objects 7 = .ok (.aload_n 0, 1) := by decide +kernel
theorem dX5_objects_8 : decode cX5_objects 8 = .ok (.invokevirtual 63, 3) := by decide +kernel
theorem dX5_objects_11 : decode cX5_objects 11 = .ok (.if_icmp .lt 7, 3) := by decide +kernel
theorem dX5_objects_14 : decode cX5_objects 14 = .ok (.iconst 1, 1) := by decide +kernel
theorem dX5_objects_15 : decode cX5_objects 15 = .ok (.goto 4, 3) := by decide +kernel
theorem dX5_objects_18 : decode cX5_objects 18 = .ok (.iconst 0, 1) := by decide +kernel
theorem dX5_objects_19 : decode cX5_objects 19 = .ok (.ireturn, 1) := by decide +kernel
theorem dX5_wedIn_0 : decode cX5_wedIn 0 = .ok (.aload_n 0, 1) := by decide +kernel
theorem dX5_wedIn_1 : decode cX5_wedIn 1 = .ok (.iload_n 1, 1) := by decide +kernel
theorem dX5_wedIn_2 : decode cX5_wedIn 2 = .ok (.iload_n 2, 1) := by decide +kernel
theorem dX5_wedIn_3 : decode cX5_wedIn 3 = .ok (.iload_n 3, 1) := by decide +kernel
theorem dX5_wedIn_4 : decode cX5_wedIn 4 = .ok (.invokevirtual 60, 3) := by decide +kernel
theorem dX5_wedIn_7 : decode cX5_wedIn 7 = .ok (.istore 4, 2) := by decide +kernel
theorem dX5_wedIn_9 : decode cX5_wedIn 9 = .ok (.bipush 99, 2) := by decide +kernel
theorem dX5_wedIn_11 : decode cX5_wedIn 11 = .ok (.aload_n 0, 1) := by decide +kernel
theorem dX5_wedIn_12 : decode cX5_wedIn 12 = .ok (.iload_n 2, 1) := by decide +kernel
theorem dX5_wedIn_13 : decode cX5_wedIn 13 = .ok (.invokevirtual 66, 3) := by decide +kernel
theorem dX5_wedIn_16 : decode cX5_wedIn 16 = .ok (.iload_n 3, 1) := by decide +kernel
theorem dX5_wedIn_17 : decode cX5_wedIn 17 = .ok (.iadd, 1) := by decide +kernel
theorem dX5_wedIn_18 : decode cX5_wedIn 18 = .ok (.invokestatic 51, 3) := by decide +kernel
theorem dX5_wedIn_21 : decode cX5_wedIn 21 = .ok (.istore 5, 2) := by decide +kernel
theorem dX5_wedIn_23 : decode cX5_wedIn 23 = .ok (.aload_n 0, 1) := by decide +kernel
theorem dX5_wedIn_24 : decode cX5_wedIn 24 = .ok (.iload_n 2, 1) := by decide +kernel
theorem dX5_wedIn_25 : decode cX5_wedIn 25 = .ok (.invokevirtual 69, 3) := by decide +kernel
theorem dX5_wedIn_28 : decode cX5_wedIn 28 = .ok (.ifCond .eq 23, 3) := by decide +kernel
theorem dX5_wedIn_31 : decode cX5_wedIn 31 = .ok (.iload 4, 2) := by decide +kernel
theorem dX5_wedIn_33 : decode cX5_wedIn 33 = .ok (.aload_n 0, 1) := by decide +kernel
theorem dX5_wedIn_34 : decode cX5_wedIn 34 = .ok (.invokevirtual 63, 3) := by decide +kernel
theorem dX5_wedIn_37 : decode cX5_wedIn 37 = .ok (.if_icmp .lt 14, 3) := by decide +kernel
theorem dX5_wedIn_40 : decode cX5_wedIn 40 = .ok (.iload 5, 2) := by decide +kernel
theorem dX5_wedIn_42 : decode cX5_wedIn 42 = .ok (.iload 4, 2) := by decide +kernel
theorem dX5_wedIn_44 : decode cX5_wedIn 44 = .ok (.if_icmp .lt 7, 3) := by decide +kernel
theorem dX5_wedIn_47 : decode cX5_wedIn 47 = .ok (.iconst 1, 1) := by decide +kernel
theorem dX5_wedIn_48 : decode cX5_wedIn 48 = .ok (.goto 4, 3) := by decide +kernel
theorem dX5_wedIn_51 : decode cX5_wedIn 51 = .ok (.iconst 0, 1) := by decide +kernel
theorem dX5_wedIn_52 : decode cX5_wedIn 52 = .ok (.ireturn, 1) := by decide +kernel
theorem dX5_mayStand_0 : decode cX5_mayStand 0 = .ok (.aload_n 0, 1) := by decide +kernel
theorem dX5_mayStand_1 : decode cX5_mayStand 1 = .ok (.iload_n 2, 1) := by decide +kernel
theorem dX5_mayStand_2 : decode cX5_mayStand 2 = .ok (.invokevirtual 69, 3) := by decide +kernel
theorem dX5_mayStand_5 : decode cX5_mayStand 5 = .ok (.ifCond .eq 24, 3) := by decide +kernel
theorem dX5_mayStand_8 : decode cX5_mayStand 8 = .ok (.aload_n 0, 1) := by decide +kernel
theorem dX5_mayStand_9 : decode cX5_mayStand 9 = .ok (.iload_n 1, 1) := by decide +kernel
theorem dX5_mayStand_10 : decode cX5_mayStand 10 = .ok (.invokevirtual 73, 3) := by decide +kernel
theorem dX5_mayStand_13 : decode cX5_mayStand 13 = .ok (.ifCond .ne 16, 3) := by decide +kernel
theorem dX5_mayStand_16 : decode cX5_mayStand 16 = .ok (.aload_n 0, 1) := by decide +kernel
theorem dX5_mayStand_17 : decode cX5_mayStand 17 = .ok (.iload_n 1, 1) := by decide +kernel
theorem dX5_mayStand_18 : decode cX5_mayStand 18 = .ok (.iload_n 2, 1) := by decide +kernel
theorem dX5_mayStand_19 : decode cX5_mayStand 19 = .ok (.invokevirtual 76, 3) := by decide +kernel
theorem dX5_mayStand_22 : decode cX5_mayStand 22 = .ok (.ifCond .eq 7, 3) := by decide +kernel
theorem dX5_mayStand_25 : decode cX5_mayStand 25 = .ok (.iconst 1, 1) := by decide +kernel
theorem dX5_mayStand_26 : decode cX5_mayStand 26 = .ok (.goto 4, 3) := by decide +kernel
theorem dX5_mayStand_29 : decode cX5_mayStand 29 = .ok (.iconst 0, 1) := by decide +kernel
theorem dX5_mayStand_30 : decode cX5_mayStand 30 = .ok (.ireturn, 1) := by decide +kernel
theorem dX5_standUp_0 : decode cX5_standUp 0 = .ok (.aload_n 0, 1) := by decide +kernel
theorem dX5_standUp_1 : decode cX5_standUp 1 = .ok (.iload_n 1, 1) := by decide +kernel
theorem dX5_standUp_2 : decode cX5_standUp 2 = .ok (.iload_n 2, 1) := by decide +kernel
theorem dX5_standUp_3 : decode cX5_standUp 3 = .ok (.iconst 0, 1) := by decide +kernel
theorem dX5_standUp_4 : decode cX5_standUp 4 = .ok (.invokevirtual 60, 3) := by decide +kernel
theorem dX5_standUp_7 : decode cX5_standUp 7 = .ok (.istore_n 3, 1) := by decide +kernel
theorem dX5_standUp_8 : decode cX5_standUp 8 = .ok (.aload_n 0, 1) := by decide +kernel
theorem dX5_standUp_9 : decode cX5_standUp 9 = .ok (.getfield 11, 3) := by decide +kernel
theorem dX5_standUp_12 : decode cX5_standUp 12 = .ok (.bipush 18, 2) := by decide +kernel
theorem dX5_standUp_14 : decode cX5_standUp 14 = .ok (.iload_n 2, 1) := by decide +kernel
theorem dX5_standUp_15 : decode cX5_standUp 15 = .ok (.iadd, 1) := by decide +kernel
theorem dX5_standUp_16 : decode cX5_standUp 16 = .ok (.iload_n 3, 1) := by decide +kernel
theorem dX5_standUp_17 : decode cX5_standUp 17 = .ok (.iastore, 1) := by decide +kernel
theorem dX5_standUp_18 : decode cX5_standUp 18 = .ok (.aload_n 0, 1) := by decide +kernel
theorem dX5_standUp_19 : decode cX5_standUp 19 = .ok (.getfield 11, 3) := by decide +kernel
theorem dX5_standUp_22 : decode cX5_standUp 22 = .ok (.bipush 12, 2) := by decide +kernel
theorem dX5_standUp_24 : decode cX5_standUp 24 = .ok (.iload_n 2, 1) := by decide +kernel
theorem dX5_standUp_25 : decode cX5_standUp 25 = .ok (.iadd, 1) := by decide +kernel
theorem dX5_standUp_26 : decode cX5_standUp 26 = .ok (.aload_n 0, 1) := by decide +kernel
theorem dX5_standUp_27 : decode cX5_standUp 27 = .ok (.iload_n 1, 1) := by decide +kernel
theorem dX5_standUp_28 : decode cX5_standUp 28 = .ok (.iload_n 2, 1) := by decide +kernel
theorem dX5_standUp_29 : decode cX5_standUp 29 = .ok (.iconst 0, 1) := by decide +kernel
theorem dX5_standUp_30 : decode cX5_standUp 30 = .ok (.invokevirtual 80, 3) := by decide +kernel
theorem dX5_standUp_33 : decode cX5_standUp 33 = .ok (.ifCond .eq 7, 3) := by decide +kernel
theorem dX5_standUp_36 : decode cX5_standUp 36 = .ok (.iconst 1, 1) := by decide +kernel
theorem dX5_standUp_37 : decode cX5_standUp 37 = .ok (.goto 4, 3) := by decide +kernel
theorem dX5_standUp_40 : decode cX5_standUp 40 = .ok (.iconst 2, 1) := by decide +kernel
theorem dX5_standUp_41 : decode cX5_standUp 41 = .ok (.iastore, 1) := by decide +kernel
theorem dX5_standUp_42 : decode cX5_standUp 42 = .ok (.aload_n 0, 1) := by decide +kernel
theorem dX5_standUp_43 : decode cX5_standUp 43 = .ok (.getfield 11, 3) := by decide +kernel
theorem dX5_standUp_46 : decode cX5_standUp 46 = .ok (.iconst 4, 1) := by decide +kernel
theorem dX5_standUp_47 : decode cX5_standUp 47 = .ok (.dup2, 1) := by decide +kernel
theorem dX5_standUp_48 : decode cX5_standUp 48 = .ok (.iaload, 1) := by decide +kernel
theorem dX5_standUp_49 : decode cX5_standUp 49 = .ok (.iconst 1, 1) := by decide +kernel
theorem dX5_standUp_50 : decode cX5_standUp 50 = .ok (.iload_n 1, 1) := by decide +kernel
theorem dX5_standUp_51 : decode cX5_standUp 51 = .ok (.ishl, 1) := by decide +kernel
theorem dX5_standUp_52 : decode cX5_standUp 52 = .ok (.ior, 1) := by decide +kernel
theorem dX5_standUp_53 : decode cX5_standUp 53 = .ok (.iastore, 1) := by decide +kernel
theorem dX5_standUp_54 : decode cX5_standUp 54 = .ok (.aload_n 0, 1) := by decide +kernel
theorem dX5_standUp_55 : decode cX5_standUp 55 = .ok (.iload_n 1, 1) := by decide +kernel
theorem dX5_standUp_56 : decode cX5_standUp 56 = .ok (.iload_n 2, 1) := by decide +kernel
theorem dX5_standUp_57 : decode cX5_standUp 57 = .ok (.iload_n 3, 1) := by decide +kernel
theorem dX5_standUp_58 : decode cX5_standUp 58 = .ok (.invokevirtual 84, 3) := by decide +kernel
theorem dX5_standUp_61 : decode cX5_standUp 61 = .ok (.return_, 1) := by decide +kernel
theorem dX5_putIntoBox_0 : decode cX5_putIntoBox 0 = .ok (.sipush 171, 3) := by decide +kernel
theorem dX5_putIntoBox_3 : decode cX5_putIntoBox 3 = .ok (.istore 4, 2) := by decide +kernel
theorem dX5_putIntoBox_5 : decode cX5_putIntoBox 5 = .ok (.iload 4, 2) := by decide +kernel
theorem dX5_putIntoBox_7 : decode cX5_putIntoBox 7 = .ok (.bipush 77, 2) := by decide +kernel
theorem dX5_putIntoBox_9 : decode cX5_putIntoBox 9 = .ok (.if_icmp .lt 25, 3) := by decide +kernel
theorem dX5_putIntoBox_12 : decode cX5_putIntoBox 12 = .ok (.aload_n 0, 1) := by decide +kernel
theorem dX5_putIntoBox_13 : decode cX5_putIntoBox 13 = .ok (.getfield 11, 3) := by decide +kernel
theorem dX5_putIntoBox_16 : decode cX5_putIntoBox 16 = .ok (.iload 4, 2) := by decide +kernel
theorem dX5_putIntoBox_18 : decode cX5_putIntoBox 18 = .ok (.aload_n 0, 1) := by decide +kernel
theorem dX5_putIntoBox_19 : decode cX5_putIntoBox 19 = .ok (.getfield 11, 3) := by decide +kernel
theorem dX5_putIntoBox_22 : decode cX5_putIntoBox 22 = .ok (.iload 4, 2) := by decide +kernel
theorem dX5_putIntoBox_24 : decode cX5_putIntoBox 24 = .ok (.iconst 5, 1) := by decide +kernel
theorem dX5_putIntoBox_25 : decode cX5_putIntoBox 25 = .ok (.isub, 1) := by decide +kernel
theorem dX5_putIntoBox_26 : decode cX5_putIntoBox 26 = .ok (.iaload, 1) := by decide +kernel
theorem dX5_putIntoBox_27 : decode cX5_putIntoBox 27 = .ok (.iastore, 1) := by decide +kernel
theorem dX5_putIntoBox_28 : decode cX5_putIntoBox 28 = .ok (.iinc 4 (-1), 3) := by decide +kernel
theorem dX5_putIntoBox_31 : decode cX5_putIntoBox 31 = .ok (.goto (-26), 3) := by decide +kernel
theorem dX5_putIntoBox_34 : decode cX5_putIntoBox 34 = .ok (.aload_n 0, 1) := by decide +kernel
theorem dX5_putIntoBox_35 : decode cX5_putIntoBox 35 = .ok (.getfield 11, 3) := by decide +kernel
theorem dX5_putIntoBox_38 : decode cX5_putIntoBox 38 = .ok (.bipush 72, 2) := by decide +kernel
theorem dX5_putIntoBox_40 : decode cX5_putIntoBox 40 = .ok (.aload_n 0, 1) := by decide +kernel
theorem dX5_putIntoBox_41 : decode cX5_putIntoBox 41 = .ok (.invokevirtual 88, 3) := by decide +kernel
theorem dX5_putIntoBox_44 : decode cX5_putIntoBox 44 = .ok (.iastore, 1) := by decide +kernel
theorem dX5_putIntoBox_45 : decode cX5_putIntoBox 45 = .ok (.aload_n 0, 1) := by decide +kernel
theorem dX5_putIntoBox_46 : decode cX5_putIntoBox 46 = .ok (.getfield 11, 3) := by decide +kernel
theorem dX5_putIntoBox_49 : decode cX5_putIntoBox 49 = .ok (.bipush 73, 2) := by decide +kernel
theorem dX5_putIntoBox_51 : decode cX5_putIntoBox 51 = .ok (.iload_n 2, 1) := by decide +kernel
theorem dX5_putIntoBox_52 : decode cX5_putIntoBox 52 = .ok (.iastore, 1) := by decide +kernel
theorem dX5_putIntoBox_53 : decode cX5_putIntoBox 53 = .ok (.aload_n 0, 1) := by decide +kernel
theorem dX5_putIntoBox_54 : decode cX5_putIntoBox 54 = .ok (.getfield 11, 3) := by decide +kernel
theorem dX5_putIntoBox_57 : decode cX5_putIntoBox 57 = .ok (.bipush 74, 2) := by decide +kernel
theorem dX5_putIntoBox_59 : decode cX5_putIntoBox 59 = .ok (.iload_n 1, 1) := by decide +kernel
theorem dX5_putIntoBox_60 : decode cX5_putIntoBox 60 = .ok (.iastore, 1) := by decide +kernel
theorem dX5_putIntoBox_61 : decode cX5_putIntoBox 61 = .ok (.aload_n 0, 1) := by decide +kernel
theorem dX5_putIntoBox_62 : decode cX5_putIntoBox 62 = .ok (.getfield 11, 3) := by decide +kernel
theorem dX5_putIntoBox_65 : decode cX5_putIntoBox 65 = .ok (.bipush 75, 2) := by decide +kernel
theorem dX5_putIntoBox_67 : decode cX5_putIntoBox 67 = .ok (.aload_n 0, 1) := by decide +kernel
theorem dX5_putIntoBox_68 : decode cX5_putIntoBox 68 = .ok (.iload_n 1, 1) := by decide +kernel
theorem dX5_putIntoBox_69 : decode cX5_putIntoBox 69 = .ok (.iload_n 2, 1) := by decide +kernel
theorem dX5_putIntoBox_70 : decode cX5_putIntoBox 70 = .ok (.invokevirtual 45, 3) := by decide +kernel
theorem dX5_putIntoBox_73 : decode cX5_putIntoBox 73 = .ok (.iastore, 1) := by decide +kernel
theorem dX5_putIntoBox_74 : decode cX5_putIntoBox 74 = .ok (.aload_n 0, 1) := by decide +kernel
theorem dX5_putIntoBox_75 : decode cX5_putIntoBox 75 = .ok (.getfield 11, 3) := by decide +kernel
theorem dX5_putIntoBox_78 : decode cX5_putIntoBox 78 = .ok (.bipush 76, 2) := by decide +kernel
theorem dX5_putIntoBox_80 : decode cX5_putIntoBox 80 = .ok (.iload_n 3, 1) := by decide +kernel
theorem dX5_putIntoBox_81 : decode cX5_putIntoBox 81 = .ok (.iastore, 1) := by decide +kernel
theorem dX5_putIntoBox_82 : decode cX5_putIntoBox 82 = .ok (.aload_n 0, 1) := by decide +kernel
theorem dX5_putIntoBox_83 : decode cX5_putIntoBox 83 = .ok (.getfield 11, 3) := by decide +kernel
theorem dX5_putIntoBox_86 : decode cX5_putIntoBox 86 = .ok (.iconst 5, 1) := by decide +kernel
theorem dX5_putIntoBox_87 : decode cX5_putIntoBox 87 = .ok (.bipush 20, 2) := by decide +kernel
theorem dX5_putIntoBox_89 : decode cX5_putIntoBox 89 = .ok (.aload_n 0, 1) := by decide +kernel
theorem dX5_putIntoBox_90 : decode cX5_putIntoBox 90 = .ok (.getfield 11, 3) := by decide +kernel
theorem dX5_putIntoBox_93 : decode cX5_putIntoBox 93 = .ok (.iconst 5, 1) := by decide +kernel
theorem dX5_putIntoBox_94 : decode cX5_putIntoBox 94 = .ok (.iaload, 1) := by decide +kernel
theorem dX5_putIntoBox_95 : decode cX5_putIntoBox 95 = .ok (.iconst 1, 1) := by decide +kernel
theorem dX5_putIntoBox_96 : decode cX5_putIntoBox 96 = .ok (.iadd, 1) := by decide +kernel
theorem dX5_putIntoBox_97 : decode cX5_putIntoBox 97 = .ok (.invokestatic 51, 3) := by decide +kernel
theorem dX5_putIntoBox_100 : decode cX5_putIntoBox 100 = .ok (.iastore, 1) := by decide +kernel
theorem dX5_putIntoBox_101 : decode cX5_putIntoBox 101 = .ok (.return_, 1) := by decide +kernel
theorem dX5_passYear_0 : decode cX5_passYear 0 = .ok (.iconst 0, 1) := by decide +kernel
theorem dX5_passYear_1 : decode cX5_passYear 1 = .ok (.istore_n 1, 1) := by decide +kernel
theorem dX5_passYear_2 : decode cX5_passYear 2 = .ok (.iload_n 1, 1) := by decide +kernel
theorem dX5_passYear_3 : decode cX5_passYear 3 = .ok (.aload_n 0, 1) := by decide +kernel
theorem dX5_passYear_4 : decode cX5_passYear 4 = .ok (.invokevirtual 27, 3) := by decide +kernel
theorem dX5_passYear_7 : decode cX5_passYear 7 = .ok (.if_icmp .ge 34, 3) := by decide +kernel
theorem dX5_passYear_10 : decode cX5_passYear 10 = .ok (.aload_n 0, 1) := by decide +kernel
theorem dX5_passYear_11 : decode cX5_passYear 11 = .ok (.iload_n 1, 1) := by decide +kernel
theorem dX5_passYear_12 : decode cX5_passYear 12 = .ok (.invokevirtual 69, 3) := by decide +kernel
theorem dX5_passYear_15 : decode cX5_passYear 15 = .ok (.ifCond .eq 20, 3) := by decide +kernel
theorem dX5_passYear_18 : decode cX5_passYear 18 = .ok (.aload_n 0, 1) := by decide +kernel
theorem dX5_passYear_19 : decode cX5_passYear 19 = .ok (.iload_n 1, 1) := by decide +kernel
theorem dX5_passYear_20 : decode cX5_passYear 20 = .ok (.bipush 99, 2) := by decide +kernel
theorem dX5_passYear_22 : decode cX5_passYear 22 = .ok (.aload_n 0, 1) := by decide +kernel
theorem dX5_passYear_23 : decode cX5_passYear 23 = .ok (.iload_n 1, 1) := by decide +kernel
theorem dX5_passYear_24 : decode cX5_passYear 24 = .ok (.invokevirtual 66, 3) := by decide +kernel
theorem dX5_passYear_27 : decode cX5_passYear 27 = .ok (.iconst 1, 1) := by decide +kernel
theorem dX5_passYear_28 : decode cX5_passYear 28 = .ok (.iadd, 1) := by decide +kernel
theorem dX5_passYear_29 : decode cX5_passYear 29 = .ok (.invokestatic 51, 3) := by decide +kernel
theorem dX5_passYear_32 : decode cX5_passYear 32 = .ok (.invokevirtual 91, 3) := by decide +kernel
theorem dX5_passYear_35 : decode cX5_passYear 35 = .ok (.iinc 1 1, 3) := by decide +kernel
theorem dX5_passYear_38 : decode cX5_passYear 38 = .ok (.goto (-36), 3) := by decide +kernel
theorem dX5_passYear_41 : decode cX5_passYear 41 = .ok (.iconst 0, 1) := by decide +kernel
theorem dX5_passYear_42 : decode cX5_passYear 42 = .ok (.istore_n 1, 1) := by decide +kernel
theorem dX5_passYear_43 : decode cX5_passYear 43 = .ok (.iload_n 1, 1) := by decide +kernel
theorem dX5_passYear_44 : decode cX5_passYear 44 = .ok (.aload_n 0, 1) := by decide +kernel
theorem dX5_passYear_45 : decode cX5_passYear 45 = .ok (.invokevirtual 95, 3) := by decide +kernel
theorem dX5_passYear_48 : decode cX5_passYear 48 = .ok (.if_icmp .ge 34, 3) := by decide +kernel
theorem dX5_passYear_51 : decode cX5_passYear 51 = .ok (.aload_n 0, 1) := by decide +kernel
theorem dX5_passYear_52 : decode cX5_passYear 52 = .ok (.iload_n 1, 1) := by decide +kernel
theorem dX5_passYear_53 : decode cX5_passYear 53 = .ok (.invokevirtual 35, 3) := by decide +kernel
theorem dX5_passYear_56 : decode cX5_passYear 56 = .ok (.ifCond .ne 20, 3) := by decide +kernel
theorem dX5_passYear_59 : decode cX5_passYear 59 = .ok (.aload_n 0, 1) := by decide +kernel
theorem dX5_passYear_60 : decode cX5_passYear 60 = .ok (.iload_n 1, 1) := by decide +kernel
theorem dX5_passYear_61 : decode cX5_passYear 61 = .ok (.bipush 40, 2) := by decide +kernel
theorem dX5_passYear_63 : decode cX5_passYear 63 = .ok (.aload_n 0, 1) := by decide +kernel
theorem dX5_passYear_64 : decode cX5_passYear 64 = .ok (.iload_n 1, 1) := by decide +kernel
theorem dX5_passYear_65 : decode cX5_passYear 65 = .ok (.invokevirtual 48, 3) := by decide +kernel
theorem dX5_passYear_68 : decode cX5_passYear 68 = .ok (.iconst 1, 1) := by decide +kernel
theorem dX5_passYear_69 : decode cX5_passYear 69 = .ok (.iadd, 1) := by decide +kernel
theorem dX5_passYear_70 : decode cX5_passYear 70 = .ok (.invokestatic 51, 3) := by decide +kernel
theorem dX5_passYear_73 : decode cX5_passYear 73 = .ok (.invokevirtual 98, 3) := by decide +kernel
theorem dX5_passYear_76 : decode cX5_passYear 76 = .ok (.iinc 1 1, 3) := by decide +kernel
theorem dX5_passYear_79 : decode cX5_passYear 79 = .ok (.goto (-36), 3) := by decide +kernel
theorem dX5_passYear_82 : decode cX5_passYear 82 = .ok (.aload_n 0, 1) := by decide +kernel
theorem dX5_passYear_83 : decode cX5_passYear 83 = .ok (.getfield 11, 3) := by decide +kernel
theorem dX5_passYear_86 : decode cX5_passYear 86 = .ok (.iconst 4, 1) := by decide +kernel
theorem dX5_passYear_87 : decode cX5_passYear 87 = .ok (.iconst 0, 1) := by decide +kernel
theorem dX5_passYear_88 : decode cX5_passYear 88 = .ok (.iastore, 1) := by decide +kernel
theorem dX5_passYear_89 : decode cX5_passYear 89 = .ok (.aload_n 0, 1) := by decide +kernel
theorem dX5_passYear_90 : decode cX5_passYear 90 = .ok (.getfield 11, 3) := by decide +kernel
theorem dX5_passYear_93 : decode cX5_passYear 93 = .ok (.iconst 3, 1) := by decide +kernel
theorem dX5_passYear_94 : decode cX5_passYear 94 = .ok (.dup2, 1) := by decide +kernel
theorem dX5_passYear_95 : decode cX5_passYear 95 = .ok (.iaload, 1) := by decide +kernel
theorem dX5_passYear_96 : decode cX5_passYear 96 = .ok (.iconst 1, 1) := by decide +kernel
theorem dX5_passYear_97 : decode cX5_passYear 97 = .ok (.iadd, 1) := by decide +kernel
theorem dX5_passYear_98 : decode cX5_passYear 98 = .ok (.iastore, 1) := by decide +kernel
theorem dX5_passYear_99 : decode cX5_passYear 99 = .ok (.return_, 1) := by decide +kernel
theorem dX6_init_0 : decode cX6_init 0 = .ok (.aload_n 0, 1) := by decide +kernel
theorem dX6_init_1 : decode cX6_init 1 = .ok (.invokespecial 1, 3) := by decide +kernel
theorem dX6_init_4 : decode cX6_init 4 = .ok (.aload_n 0, 1) := by decide +kernel
theorem dX6_init_5 : decode cX6_init 5 = .ok (.iconst 0, 1) := by decide +kernel
theorem dX6_init_6 : decode cX6_init 6 = .ok (.putfield 7, 3) := by decide +kernel
theorem dX6_init_9 : decode cX6_init 9 = .ok (.aload_n 0, 1) := by decide +kernel
theorem dX6_init_10 : decode cX6_init 10 = .ok (.iconst 0, 1) := by decide +kernel
theorem dX6_init_11 : decode cX6_init 11 = .ok (.putfield 13, 3) := by decide +kernel
theorem dX6_init_14 : decode cX6_init 14 = .ok (.aload_n 0, 1) := by decide +kernel
theorem dX6_init_15 : decode cX6_init 15 = .ok (.sipush 2752, 3) := by decide +kernel
theorem dX6_init_18 : decode cX6_init 18 = .ok (.newarray .int, 2) := by decide +kernel
theorem dX6_init_20 : decode cX6_init 20 = .ok (.putfield 18, 3) := by decide +kernel
theorem dX6_init_23 : decode cX6_init 23 = .ok (.return_, 1) := by decide +kernel
theorem dX6_remember_0 : decode cX6_remember 0 = .ok (.aload_n 1, 1) := by decide +kernel
theorem dX6_remember_1 : decode cX6_remember 1 = .ok (.aload_n 0, 1) := by decide +kernel
theorem dX6_remember_2 : decode cX6_remember 2 = .ok (.getfield 18, 3) := by decide +kernel
theorem dX6_remember_5 : decode cX6_remember 5 = .ok (.aload_n 0, 1) := by decide +kernel
theorem dX6_remember_6 : decode cX6_remember 6 = .ok (.getfield 13, 3) := by decide +kernel
theorem dX6_remember_9 : decode cX6_remember 9 = .ok (.sipush 172, 3) := by decide +kernel
theorem dX6_remember_12 : decode cX6_remember 12 = .ok (.imul, 1) := by decide +kernel
theorem dX6_remember_13 : decode cX6_remember 13 = .ok (.invokevirtual 22, 3) := by decide +kernel
theorem dX6_remember_16 : decode cX6_remember 16 = .ok (.aload_n 0, 1) := by decide +kernel
theorem dX6_remember_17 : decode cX6_remember 17 = .ok (.aload_n 0, 1) := by decide +kernel
theorem dX6_remember_18 : decode cX6_remember 18 = .ok (.getfield 13, 3) := by decide +kernel
theorem dX6_remember_21 : decode cX6_remember 21 = .ok (.iconst 1, 1) := by decide +kernel
theorem dX6_remember_22 : decode cX6_remember 22 = .ok (.iadd, 1) := by decide +kernel
theorem dX6_remember_23 : decode cX6_remember 23 = .ok (.bipush 16, 2) := by decide +kernel
theorem dX6_remember_25 : decode cX6_remember 25 = .ok (.irem, 1) := by decide +kernel
theorem dX6_remember_26 : decode cX6_remember 26 = .ok (.putfield 13, 3) := by decide +kernel
theorem dX6_remember_29 : decode cX6_remember 29 = .ok (.aload_n 0, 1) := by decide +kernel
theorem dX6_remember_30 : decode cX6_remember 30 = .ok (.bipush 16, 2) := by decide +kernel
theorem dX6_remember_32 : decode cX6_remember 32 = .ok (.aload_n 0, 1) := by decide +kernel
theorem dX6_remember_33 : decode cX6_remember 33 = .ok (.getfield 7, 3) := by decide +kernel
theorem dX6_remember_36 : decode cX6_remember 36 = .ok (.iconst 1, 1) := by decide +kernel
theorem dX6_remember_37 : decode cX6_remember 37 = .ok (.iadd, 1) := by decide +kernel
theorem dX6_remember_38 : decode cX6_remember 38 = .ok (.invokestatic 26, 3) := by decide +kernel
theorem dX6_remember_41 : decode cX6_remember 41 = .ok (.putfield 7, 3) := by decide +kernel
theorem dX6_remember_44 : decode cX6_remember 44 = .ok (.return_, 1) := by decide +kernel
theorem dX6_restore_0 : decode cX6_restore 0 = .ok (.aload_n 0, 1) := by decide +kernel
theorem dX6_restore_1 : decode cX6_restore 1 = .ok (.aload_n 0, 1) := by decide +kernel
theorem dX6_restore_2 : decode cX6_restore 2 = .ok (.getfield 13, 3) := by decide +kernel
theorem dX6_restore_5 : decode cX6_restore 5 = .ok (.bipush 16, 2) := by decide +kernel
theorem dX6_restore_7 : decode cX6_restore 7 = .ok (.iadd, 1) := by decide +kernel
theorem dX6_restore_8 : decode cX6_restore 8 = .ok (.iconst 1, 1) := by decide +kernel
theorem dX6_restore_9 : decode cX6_restore 9 = .ok (.isub, 1) := by decide +kernel
theorem dX6_restore_10 : decode cX6_restore 10 = .ok (.bipush 16, 2) := by decide +kernel
theorem dX6_restore_12 : decode cX6_restore 12 = .ok (.irem, 1) := by decide +kernel
theorem dX6_restore_13 : decode cX6_restore 13 = .ok (.putfield 13, 3) := by decide +kernel
theorem dX6_restore_16 : decode cX6_restore 16 = .ok (.aload_n 0, 1) := by decide +kernel
theorem dX6_restore_17 : decode cX6_restore 17 = .ok (.dup, 1) := by decide +kernel
theorem dX6_restore_18 : decode cX6_restore 18 = .ok (.getfield 7, 3) := by decide +kernel
theorem dX6_restore_21 : decode cX6_restore 21 = .ok (.iconst 1, 1) := by decide +kernel
theorem dX6_restore_22 : decode cX6_restore 22 = .ok (.isub, 1) := by decide +kernel
theorem dX6_restore_23 : decode cX6_restore 23 = .ok (.putfield 7, 3) := by decide +kernel
theorem dX6_restore_26 : decode cX6_restore 26 = .ok (.aload_n 1, 1) := by decide +kernel
theorem dX6_restore_27 : decode cX6_restore 27 = .ok (.aload_n 0, 1) := by decide +kernel
theorem dX6_restore_28 : decode cX6_restore 28 = .ok (.getfield 18, 3) := by decide +kernel
theorem dX6_restore_31 : decode cX6_restore 31 = .ok (.aload_n 0, 1) := by decide +kernel
theorem dX6_restore_32 : decode cX6_restore 32 = .ok (.getfield 13, 3) := by decide +kernel
theorem dX6_restore_35 : decode cX6_restore 35 = .ok (.sipush 172, 3) := by decide +kernel
theorem dX6_restore_38 : decode cX6_restore 38 = .ok (.imul, 1) := by decide +kernel
theorem dX6_restore_39 : decode cX6_restore 39 = .ok (.invokevirtual 32, 3) := by decide +kernel
theorem dX6_restore_42 : decode cX6_restore 42 = .ok (.return_, 1) := by decide +kernel
theorem dX6_forget_0 : decode cX6_forget 0 = .ok (.aload_n 0, 1) := by decide +kernel
theorem dX6_forget_1 : decode cX6_forget 1 = .ok (.iconst 0, 1) := by decide +kernel
theorem dX6_forget_2 : decode cX6_forget 2 = .ok (.putfield 7, 3) := by decide +kernel
theorem dX6_forget_5 : decode cX6_forget 5 = .ok (.return_, 1) := by decide +kernel
theorem dX7_init_0 : decode cX7_init 0 = .ok (.aload_n 0, 1) := by decide +kernel
theorem dX7_init_1 : decode cX7_init 1 = .ok (.invokespecial 3, 3) := by decide +kernel
theorem dX7_init_4 : decode cX7_init 4 = .ok (.aload_n 0, 1) := by decide +kernel
theorem dX7_init_5 : decode cX7_init 5 = .ok (.new 9, 3) := by decide +kernel
theorem dX7_init_8 : decode cX7_init 8 = .ok (.dup, 1) := by decide +kernel
theorem dX7_init_9 : decode cX7_init 9 = .ok (.invokespecial 11, 3) := by decide +kernel
theorem dX7_init_12 : decode cX7_init 12 = .ok (.putfield 12, 3) := by decide +kernel
theorem dX7_init_15 : decode cX7_init 15 = .ok (.aload_n 0, 1) := by decide +kernel
theorem dX7_init_16 : decode cX7_init 16 = .ok (.iconst 0, 1) := by decide +kernel
theorem dX7_init_17 : decode cX7_init 17 = .ok (.putfield 18, 3) := by decide +kernel
theorem dX7_init_20 : decode cX7_init 20 = .ok (.aload_n 0, 1) := by decide +kernel
theorem dX7_init_21 : decode cX7_init 21 = .ok (.iconst (-1), 1) := by decide +kernel
theorem dX7_init_22 : decode cX7_init 22 = .ok (.putfield 22, 3) := by decide +kernel
theorem dX7_init_25 : decode cX7_init 25 = .ok (.aload_n 0, 1) := by decide +kernel
theorem dX7_init_26 : decode cX7_init 26 = .ok (.sipush 240, 3) := by decide +kernel
theorem dX7_init_29 : decode cX7_init 29 = .ok (.newarray .int, 2) := by decide +kernel
theorem dX7_init_31 : decode cX7_init 31 = .ok (.putfield 25, 3) := by decide +kernel
theorem dX7_init_34 : decode cX7_init 34 = .ok (.aload_n 0, 1) := by decide +kernel
theorem dX7_init_35 : decode cX7_init 35 = .ok (.iconst 0, 1) := by decide +kernel
theorem dX7_init_36 : decode cX7_init 36 = .ok (.putfield 29, 3) := by decide +kernel
theorem dX7_init_39 : decode cX7_init 39 = .ok (.aload_n 0, 1) := by decide +kernel
theorem dX7_init_40 : decode cX7_init 40 = .ok (.iconst 0, 1) := by decide +kernel
theorem dX7_init_41 : decode cX7_init 41 = .ok (.putfield 32, 3) := by decide +kernel
theorem dX7_init_44 : decode cX7_init 44 = .ok (.return_, 1) := by decide +kernel
theorem dX7_isFull_0 : decode cX7_isFull 0 = .ok (.aload_n 0, 1) := by decide +kernel
theorem dX7_isFull_1 : decode cX7_isFull 1 = .ok (.getfield 18, 3) := by decide +kernel
theorem dX7_isFull_4 : decode cX7_isFull 4 = .ok (.sipush 240, 3) := by decide +kernel
theorem dX7_isFull_7 : decode cX7_isFull 7 = .ok (.if_icmp .lt 7, 3) := by decide +kernel
theorem dX7_isFull_10 : decode cX7_isFull 10 = .ok (.iconst 1, 1) := by decide +kernel
theorem dX7_isFull_11 : decode cX7_isFull 11 = .ok (.goto 4, 3) := by decide +kernel
theorem dX7_isFull_14 : decode cX7_isFull 14 = .ok (.iconst 0, 1) := by decide +kernel
theorem dX7_isFull_15 : decode cX7_isFull 15 = .ok (.ireturn, 1) := by decide +kernel
theorem dX7_put_0 : decode cX7_put 0 = .ok (.aload_n 0, 1) := by decide +kernel
theorem dX7_put_1 : decode cX7_put 1 = .ok (.getfield 25, 3) := by decide +kernel
theorem dX7_put_4 : decode cX7_put 4 = .ok (.aload_n 0, 1) := by decide +kernel
theorem dX7_put_5 : decode cX7_put 5 = .ok (.getfield 18, 3) := by decide +kernel
theorem dX7_put_8 : decode cX7_put 8 = .ok (.iload_n 1, 1) := by decide +kernel
theorem dX7_put_9 : decode cX7_put 9 = .ok (.iastore, 1) := by decide +kernel
theorem dX7_put_10 : decode cX7_put 10 = .ok (.aload_n 0, 1) := by decide +kernel
theorem dX7_put_11 : decode cX7_put 11 = .ok (.dup, 1) := by decide +kernel
theorem dX7_put_12 : decode cX7_put 12 = .ok (.getfield 18, 3) := by decide +kernel
theorem dX7_put_15 : decode cX7_put 15 = .ok (.iconst 1, 1) := by decide +kernel
theorem dX7_put_16 : decode cX7_put 16 = .ok (.iadd, 1) := by decide +kernel
theorem dX7_put_17 : decode cX7_put 17 = .ok (.putfield 18, 3) := by decide +kernel
theorem dX7_put_20 : decode cX7_put 20 = .ok (.aload_n 0, 1) := by decide +kernel
theorem dX7_put_21 : decode cX7_put 21 = .ok (.getfield 18, 3) := by decide +kernel
theorem dX7_put_24 : decode cX7_put 24 = .ok (.ireturn, 1) := by decide +kernel
theorem dX7_readText_0 : decode cX7_readText 0 = .ok (.aload_n 0, 1) := by decide +kernel
theorem dX7_readText_1 : decode cX7_readText 1 = .ok (.iconst 0, 1) := by decide +kernel
theorem dX7_readText_2 : decode cX7_readText 2 = .ok (.putfield 29, 3) := by decide +kernel
theorem dX7_readText_5 : decode cX7_readText 5 = .ok (.aload_n 0, 1) := by decide +kernel
theorem dX7_readText_6 : decode cX7_readText 6 = .ok (.iconst 0, 1) := by decide +kernel
theorem dX7_readText_7 : decode cX7_readText 7 = .ok (.putfield 32, 3) := by decide +kernel
theorem dX7_readText_10 : decode cX7_readText 10 = .ok (.aload_n 0, 1) := by decide +kernel
theorem dX7_readText_11 : decode cX7_readText 11 = .ok (.iconst (-1), 1) := by decide +kernel
theorem dX7_readText_12 : decode cX7_readText 12 = .ok (.putfield 22, 3) := by decide +kernel
theorem dX7_readText_15 : decode cX7_readText 15 = .ok (.aload_n 0, 1) := by decide +kernel
theorem dX7_readText_16 : decode cX7_readText 16 = .ok (.getfield 12, 3) := by decide +kernel
theorem dX7_readText_19 : decode cX7_readText 19 = .ok (.invokevirtual 35, 3) := by decide +kernel
theorem dX7_readText_22 : decode cX7_readText 22 = .ok (.aload_n 0, 1) := by decide +kernel
theorem dX7_readText_23 : decode cX7_readText 23 = .ok (.invokevirtual 38, 3) := by decide +kernel
theorem dX7_readText_26 : decode cX7_readText 26 = .ok (.iconst 0, 1) := by decide +kernel
theorem dX7_readText_27 : decode cX7_readText 27 = .ok (.istore_n 1, 1) := by decide +kernel
theorem dX7_readText_28 : decode cX7_readText 28 = .ok (.iload_n 1, 1) := by decide +kernel
theorem dX7_readText_29 : decode cX7_readText 29 = .ok (.sipush 240, 3) := by decide +kernel
theorem dX7_readText_32 : decode cX7_readText 32 = .ok (.if_icmp .ge 35, 3) := by decide +kernel
theorem dX7_readText_35 : decode cX7_readText 35 = .ok (.aload_n 0, 1) := by decide +kernel
theorem dX7_readText_36 : decode cX7_readText 36 = .ok (.getfield 32, 3) := by decide +kernel
theorem dX7_readText_39 : decode cX7_readText 39 = .ok (.ifCond .ne 28, 3) := by decide +kernel
theorem dX7_readText_42 : decode cX7_readText 42 = .ok (.aload_n 0, 1) := by decide +kernel
theorem dX7_readText_43 : decode cX7_readText 43 = .ok (.getfield 29, 3) := by decide +kernel
theorem dX7_readText_46 : decode cX7_readText 46 = .ok (.aload_n 0, 1) := by decide +kernel
theorem dX7_readText_47 : decode cX7_readText 47 = .ok (.getfield 18, 3) := by decide +kernel
theorem dX7_readText_50 : decode cX7_readText 50 = .ok (.if_icmp .ge 17, 3) := by decide +kernel
theorem dX7_readText_53 : decode cX7_readText 53 = .ok (.aload_n 0, 1) := by decide +kernel
theorem dX7_readText_54 : decode cX7_readText 54 = .ok (.invokevirtual 41, 3) := by decide +kernel
theorem dX7_readText_57 : decode cX7_readText 57 = .ok (.aload_n 0, 1) := by decide +kernel
theorem dX7_readText_58 : decode cX7_readText 58 = .ok (.invokevirtual 38, 3) := by decide +kernel
theorem dX7_readText_61 : decode cX7_readText 61 = .ok (.iinc 1 1, 3) := by decide +kernel
theorem dX7_readText_64 : decode cX7_readText 64 = .ok (.goto (-36), 3) := by decide +kernel
theorem dX7_readText_67 : decode cX7_readText 67 = .ok (.aload_n 0, 1) := by decide +kernel
theorem dX7_readText_68 : decode cX7_readText 68 = .ok (.iconst 0, 1) := by decide +kernel
theorem dX7_readText_69 : decode cX7_readText 69 = .ok (.putfield 18, 3) := by decide +kernel
theorem dX7_readText_72 : decode cX7_readText 72 = .ok (.aload_n 0, 1) := by decide +kernel
theorem dX7_readText_73 : decode cX7_readText 73 = .ok (.getfield 32, 3) := by decide +kernel
theorem dX7_readText_76 : decode cX7_readText 76 = .ok (.ireturn, 1) := by decide +kernel
theorem dX7_readClause_0 : decode cX7_readClause 0 = .ok (.aload_n 0, 1) := by decide +kernel
theorem dX7_readClause_1 : decode cX7_readClause 1 = .ok (.getfield 25, 3) := by decide +kernel
theorem dX7_readClause_4 : decode cX7_readClause 4 = .ok (.aload_n 0, 1) := by decide +kernel
theorem dX7_readClause_5 : decode cX7_readClause 5 = .ok (.getfield 29, 3) := by decide +kernel
theorem dX7_readClause_8 : decode cX7_readClause 8 = .ok (.iaload, 1) := by decide +kernel
theorem dX7_readClause_9 : decode cX7_readClause 9 = .ok (.istore_n 1, 1) := by decide +kernel
theorem dX7_readClause_10 : decode cX7_readClause 10 = .ok (.aload_n 0, 1) := by decide +kernel
theorem dX7_readClause_11 : decode cX7_readClause 11 = .ok (.iload_n 1, 1) := by decide +kernel
theorem dX7_readClause_12 : decode cX7_readClause 12 = .ok (.invokevirtual 44, 3) := by decide +kernel
theorem dX7_readClause_15 : decode cX7_readClause 15 = .ok (.istore_n 2, 1) := by decide +kernel
theorem dX7_readClause_16 : decode cX7_readClause 16 = .ok (.iload_n 2, 1) := by decide +kernel
theorem dX7_readClause_17 : decode cX7_readClause 17 = .ok (.ifCond .eq 13, 3) := by decide +kernel
theorem dX7_readClause_20 : decode cX7_readClause 20 = .ok (.aload_n 0, 1) := by decide +kernel
theorem dX7_readClause_21 : decode cX7_readClause 21 = .ok (.iload_n 2, 1) := by decide +kernel
theorem dX7_readClause_22 : decode cX7_readClause 22 = .ok (.aload_n 0, 1) := by decide +kernel
theorem dX7_readClause_23 : decode cX7_readClause 23 = .ok (.getfield 29, 3) := by decide +kernel
theorem dX7_readClause_26 : decode cX7_readClause 26 = .ok (.invokevirtual 48, 3) := by decide +kernel
theorem dX7_readClause_29 : decode cX7_readClause 29 = .ok (.return_, 1) := by decide +kernel
theorem dX7_readClause_30 : decode cX7_readClause 30 = .ok (.aload_n 0, 1) := by decide +kernel
theorem dX7_readClause_31 : decode cX7_readClause 31 = .ok (.dup, 1) := by decide +kernel
theorem dX7_readClause_32 : decode cX7_readClause 32 = .ok (.getfield 29, 3) := by decide +kernel
theorem dX7_readClause_35 : decode cX7_readClause 35 = .ok (.iconst 1, 1) := by decide +kernel
theorem dX7_readClause_36 : decode cX7_readClause 36 = .ok (.iadd, 1) := by decide +kernel
theorem dX7_readClause_37 : decode cX7_readClause 37 = .ok (.putfield 29, 3) := by decide +kernel
theorem dX7_readClause_40 : decode cX7_readClause 40 = .ok (.iload_n 1, 1) := by decide +kernel
theorem dX7_readClause_41 : decode cX7_readClause 41 = .ok (.bipush 100, 2) := by decide +kernel
theorem dX7_readClause_43 : decode cX7_readClause 43 = .ok (.if_icmp .ne 10, 3) := by decide +kernel
theorem dX7_readClause_46 : decode cX7_readClause 46 = .ok (.aload_n 0, 1) := by decide +kernel
theorem dX7_readClause_47 : decode cX7_readClause 47 = .ok (.invokevirtual 52, 3) := by decide +kernel
theorem dX7_readClause_50 : decode cX7_readClause 50 = .ok (.goto 20, 3) := by decide +kernel
theorem dX7_readClause_53 : decode cX7_readClause 53 = .ok (.iload_n 1, 1) := by decide +kernel
theorem dX7_readClause_54 : decode cX7_readClause 54 = .ok (.bipush 99, 2) := by decide +kernel
theorem dX7_readClause_56 : decode cX7_readClause 56 = .ok (.if_icmp .ne 10, 3) := by decide +kernel
theorem dX7_readClause_59 : decode cX7_readClause 59 = .ok (.aload_n 0, 1) := by decide +kernel
theorem dX7_readClause_60 : decode cX7_readClause 60 = .ok (.invokevirtual 55, 3) := by decide +kernel
theorem dX7_readClause_63 : decode cX7_readClause 63 = .ok (.goto 7, 3) := by decide +kernel
theorem dX7_readClause_66 : decode cX7_readClause 66 = .ok (.aload_n 0, 1) := by decide +kernel
theorem dX7_readClause_67 : decode cX7_readClause 67 = .ok (.invokevirtual 58, 3) := by decide +kernel
theorem dX7_readClause_70 : decode cX7_readClause 70 = .ok (.return_, 1) := by decide +kernel
theorem dX7_faultOfWord_0 : decode cX7_faultOfWord 0 = .ok (.aload_n 0, 1) := by decide +kernel
theorem dX7_faultOfWord_1 : decode cX7_faultOfWord 1 = .ok (.getfield 12, 3) := by decide +kernel
theorem dX7_faultOfWord_4 : decode cX7_faultOfWord 4 = .ok (.invokevirtual 61, 3) := by decide +kernel
theorem dX7_faultOfWord_7 : decode cX7_faultOfWord 7 = .ok (.ifCond .ne 7, 3) := by decide +kernel
theorem dX7_faultOfWord_10 : decode cX7_faultOfWord 10 = .ok (.iconst 1, 1) := by decide +kernel
theorem dX7_faultOfWord_11 : decode cX7_faultOfWord 11 = .ok (.goto 4, 3) := by decide +kernel
theorem dX7_faultOfWord_14 : decode cX7_faultOfWord 14 = .ok (.iconst 0, 1) := by decide +kernel
theorem dX7_faultOfWord_15 : decode cX7_faultOfWord 15 = .ok (.istore_n 2, 1) := by decide +kernel
theorem dX7_faultOfWord_16 : decode cX7_faultOfWord 16 = .ok (.iload_n 1, 1) := by decide +kernel
theorem dX7_faultOfWord_17 : decode cX7_faultOfWord 17 = .ok (.lookupswitch 89 #[(99, 45), (100, 35), (111, 67)], 35) := by decide +kernel
theorem dX7_faultOfWord_52 : decode cX7_faultOfWord 52 = .ok (.iload_n 2, 1) := by decide +kernel
theorem dX7_faultOfWord_53 : decode cX7_faultOfWord 53 = .ok (.ifCond .eq 7, 3) := by decide +kernel
theorem dX7_faultOfWord_56 : decode cX7_faultOfWord 56 = .ok (.iconst 0, 1) := by decide +kernel
theorem dX7_faultOfWord_57 : decode cX7_faultOfWord 57 = .ok (.goto 4, 3) := by decide +kernel
theorem dX7_faultOfWord_60 : decode cX7_faultOfWord 60 = .ok (.iconst 3, 1) := by decide +kernel
theorem dX7_faultOfWord_61 : decode cX7_faultOfWord 61 = .ok (.ireturn, 1) := by decide +kernel
theorem dX7_faultOfWord_62 : decode cX7_faultOfWord 62 = .ok (.iload_n 2, 1) := by decide +kernel
theorem dX7_faultOfWord_63 : decode cX7_faultOfWord 63 = .ok (.aload_n 0, 1) := by decide +kernel
theorem dX7_faultOfWord_64 : decode cX7_faultOfWord 64 = .ok (.getfield 12, 3) := by decide +kernel
theorem dX7_faultOfWord_67 : decode cX7_faultOfWord 67 = .ok (.invokevirtual 65, 3) := by decide +kernel
theorem dX7_faultOfWord_70 : decode cX7_faultOfWord 70 = .ok (.bipush 6, 2) := by decide +kernel
theorem dX7_faultOfWord_72 : decode cX7_faultOfWord 72 = .ok (.if_icmp .ge 7, 3) := by decide +kernel
theorem dX7_faultOfWord_75 : decode cX7_faultOfWord 75 = .ok (.iconst 1, 1) := by decide +kernel
theorem dX7_faultOfWord_76 : decode cX7_faultOfWord 76 = .ok (.goto 4, 3) := by decide +kernel
theorem dX7_faultOfWord_79 : decode cX7_faultOfWord 79 = .ok (.iconst 0, 1) := by decide +kernel
theorem dX7_faultOfWord_80 : decode cX7_faultOfWord 80 = .ok (.invokestatic 68, 3) := by decide +kernel
theorem dX7_faultOfWord_83 : decode cX7_faultOfWord 83 = .ok (.ireturn, 1) := by decide +kernel
theorem dX7_faultOfWord_84 : decode cX7_faultOfWord 84 = .ok (.iload_n 2, 1) := by decide +kernel
theorem dX7_faultOfWord_85 : decode cX7_faultOfWord 85 = .ok (.aload_n 0, 1) := by decide +kernel
theorem dX7_faultOfWord_86 : decode cX7_faultOfWord 86 = .ok (.getfield 12, 3) := by decide +kernel
theorem dX7_faultOfWord_89 : decode cX7_faultOfWord 89 = .ok (.invokevirtual 72, 3) := by decide +kernel
theorem dX7_faultOfWord_92 : decode cX7_faultOfWord 92 = .ok (.bipush 6, 2) := by decide +kernel
theorem dX7_faultOfWord_94 : decode cX7_faultOfWord 94 = .ok (.if_icmp .ge 7, 3) := by decide +kernel
theorem dX7_faultOfWord_97 : decode cX7_faultOfWord 97 = .ok (.iconst 1, 1) := by decide +kernel
theorem dX7_faultOfWord_98 : decode cX7_faultOfWord 98 = .ok (.goto 4, 3) := by decide +kernel
theorem dX7_faultOfWord_101 : decode cX7_faultOfWord 101 = .ok (.iconst 0, 1) := by decide +kernel
theorem dX7_faultOfWord_102 : decode cX7_faultOfWord 102 = .ok (.invokestatic 68, 3) := by decide +kernel
theorem dX7_faultOfWord_105 : decode cX7_faultOfWord 105 = .ok (.ireturn, 1) := by decide +kernel
theorem dX7_faultOfWord_106 : decode cX7_faultOfWord 106 = .ok (.iconst 1, 1) := by decide +kernel
theorem dX7_faultOfWord_107 : decode cX7_faultOfWord 107 = .ok (.ireturn, 1) := by decide +kernel
theorem dX7_faultOfMore_0 : decode cX7_faultOfMore 0 = .ok (.iload_n 0, 1) := by decide +kernel
theorem dX7_faultOfMore_1 : decode cX7_faultOfMore 1 = .ok (.ifCond .eq 5, 3) := by decide +kernel
theorem dX7_faultOfMore_4 : decode cX7_faultOfMore 4 = .ok (.iconst 1, 1) := by decide +kernel
theorem dX7_faultOfMore_5 : decode cX7_faultOfMore 5 = .ok (.ireturn, 1) := by decide +kernel
theorem dX7_faultOfMore_6 : decode cX7_faultOfMore 6 = .ok (.iload_n 1, 1) := by decide +kernel
theorem dX7_faultOfMore_7 : decode cX7_faultOfMore 7 = .ok (.ifCond .eq 7, 3) := by decide +kernel
theorem dX7_faultOfMore_10 : decode cX7_faultOfMore 10 = .ok (.iconst 0, 1) := by decide +kernel
theorem dX7_faultOfMore_11 : decode cX7_faultOfMore 11 = .ok (.goto 4, 3) := by decide +kernel
theorem dX7_faultOfMore_14 : decode cX7_faultOfMore 14 = .ok (.iconst 3, 1) := by decide +kernel
theorem dX7_faultOfMore_15 : decode cX7_faultOfMore 15 = .ok (.ireturn, 1) := by decide +kernel
theorem dX7_readLeast_0 : decode cX7_readLeast 0 = .ok (.aload_n 0, 1) := by decide +kernel
theorem dX7_readLeast_1 : decode cX7_readLeast 1 = .ok (.iconst 1, 1) := by decide +kernel
theorem dX7_readLeast_2 : decode cX7_readLeast 2 = .ok (.bipush 20, 2) := by decide +kernel
theorem dX7_readLeast_4 : decode cX7_readLeast 4 = .ok (.invokevirtual 75, 3) := by decide +kernel
theorem dX7_readLeast_7 : decode cX7_readLeast 7 = .ok (.istore_n 1, 1) := by decide +kernel
theorem dX7_readLeast_8 : decode cX7_readLeast 8 = .ok (.aload_n 0, 1) := by decide +kernel
theorem dX7_readLeast_9 : decode cX7_readLeast 9 = .ok (.bipush 59, 2) := by decide +kernel
theorem dX7_readLeast_11 : decode cX7_readLeast 11 = .ok (.invokevirtual 79, 3) := by decide +kernel
theorem dX7_readLeast_14 : decode cX7_readLeast 14 = .ok (.aload_n 0, 1) := by decide +kernel
theorem dX7_readLeast_15 : decode cX7_readLeast 15 = .ok (.getfield 12, 3) := by decide +kernel
theorem dX7_readLeast_18 : decode cX7_readLeast 18 = .ok (.iload_n 1, 1) := by decide +kernel
theorem dX7_readLeast_19 : decode cX7_readLeast 19 = .ok (.invokevirtual 83, 3) := by decide +kernel
theorem dX7_readLeast_22 : decode cX7_readLeast 22 = .ok (.return_, 1) := by decide +kernel
theorem dX7_readCouple_0 : decode cX7_readCouple 0 = .ok (.aload_n 0, 1) := by decide +kernel
theorem dX7_readCouple_1 : decode cX7_readCouple 1 = .ok (.getfield 12, 3) := by decide +kernel
theorem dX7_readCouple_4 : decode cX7_readCouple 4 = .ok (.invokevirtual 65, 3) := by decide +kernel
theorem dX7_readCouple_7 : decode cX7_readCouple 7 = .ok (.istore_n 1, 1) := by decide +kernel
theorem dX7_readCouple_8 : decode cX7_readCouple 8 = .ok (.aload_n 0, 1) := by decide +kernel
theorem dX7_readCouple_9 : decode cX7_readCouple 9 = .ok (.getfield 12, 3) := by decide +kernel
theorem dX7_readCouple_12 : decode cX7_readCouple 12 = .ok (.iload_n 1, 1) := by decide +kernel
theorem dX7_readCouple_13 : decode cX7_readCouple 13 = .ok (.aload_n 0, 1) := by decide +kernel
theorem dX7_readCouple_14 : decode cX7_readCouple 14 = .ok (.iconst 0, 1) := by decide +kernel
theorem dX7_readCouple_15 : decode cX7_readCouple 15 = .ok (.bipush 60, 2) := by decide +kernel
theorem dX7_readCouple_17 : decode cX7_readCouple 17 = .ok (.invokevirtual 75, 3) := by decide +kernel
theorem dX7_readCouple_20 : decode cX7_readCouple 20 = .ok (.invokevirtual 86, 3) := by decide +kernel
theorem dX7_readCouple_23 : decode cX7_readCouple 23 = .ok (.iconst 0, 1) := by decide +kernel
theorem dX7_readCouple_24 : decode cX7_readCouple 24 = .ok (.istore_n 2, 1) := by decide +kernel
theorem dX7_readCouple_25 : decode cX7_readCouple 25 = .ok (.iload_n 2, 1) := by decide +kernel
theorem dX7_readCouple_26 : decode cX7_readCouple 26 = .ok (.iconst 5, 1) := by decide +kernel
theorem dX7_readCouple_27 : decode cX7_readCouple 27 = .ok (.if_icmp .ge 35, 3) := by decide +kernel
theorem dX7_readCouple_30 : decode cX7_readCouple 30 = .ok (.iload_n 2, 1) := by decide +kernel
theorem dX7_readCouple_31 : decode cX7_readCouple 31 = .ok (.ifCond .le 9, 3) := by decide +kernel
theorem dX7_readCouple_34 : decode cX7_readCouple 34 = .ok (.aload_n 0, 1) := by decide +kernel
theorem dX7_readCouple_35 : decode cX7_readCouple 35 = .ok (.bipush 44, 2) := by decide +kernel
theorem dX7_readCouple_37 : decode cX7_readCouple 37 = .ok (.invokevirtual 79, 3) := by decide +kernel
theorem dX7_readCouple_40 : decode cX7_readCouple 40 = .ok (.aload_n 0, 1) := by decide +kernel
theorem dX7_readCouple_41 : decode cX7_readCouple 41 = .ok (.getfield 12, 3) := by decide +kernel
theorem dX7_readCouple_44 : decode cX7_readCouple 44 = .ok (.iload_n 1, 1) := by decide +kernel
theorem dX7_readCouple_45 : decode cX7_readCouple 45 = .ok (.iload_n 2, 1) := by decide +kernel
theorem dX7_readCouple_46 : decode cX7_readCouple 46 = .ok (.aload_n 0, 1) := by decide +kernel
theorem dX7_readCouple_47 : decode cX7_readCouple 47 = .ok (.iconst 0, 1) := by decide +kernel
theorem dX7_readCouple_48 : decode cX7_readCouple 48 = .ok (.bipush 20, 2) := by decide +kernel
theorem dX7_readCouple_50 : decode cX7_readCouple 50 = .ok (.invokevirtual 75, 3) := by decide +kernel
theorem dX7_readCouple_53 : decode cX7_readCouple 53 = .ok (.invokevirtual 89, 3) := by decide +kernel
theorem dX7_readCouple_56 : decode cX7_readCouple 56 = .ok (.iinc 2 1, 3) := by decide +kernel
theorem dX7_readCouple_59 : decode cX7_readCouple 59 = .ok (.goto (-34), 3) := by decide +kernel
theorem dX7_readCouple_62 : decode cX7_readCouple 62 = .ok (.aload_n 0, 1) := by decide +kernel
theorem dX7_readCouple_63 : decode cX7_readCouple 63 = .ok (.bipush 59, 2) := by decide +kernel
theorem dX7_readCouple_65 : decode cX7_readCouple 65 = .ok (.invokevirtual 79, 3) := by decide +kernel
theorem dX7_readCouple_68 : decode cX7_readCouple 68 = .ok (.aload_n 0, 1) := by decide +kernel
theorem dX7_readCouple_69 : decode cX7_readCouple 69 = .ok (.getfield 12, 3) := by decide +kernel
theorem dX7_readCouple_72 : decode cX7_readCouple 72 = .ok (.invokevirtual 93, 3) := by decide +kernel
theorem dX7_readCouple_75 : decode cX7_readCouple 75 = .ok (.return_, 1) := by decide +kernel
theorem dX7_readObjector_0 : decode cX7_readObjector 0 = .ok (.aload_n 0, 1) := by decide +kernel
theorem dX7_readObjector_1 : decode cX7_readObjector 1 = .ok (.iconst 0, 1) := by decide +kernel
theorem dX7_readObjector_2 : decode cX7_readObjector 2 = .ok (.iconst 3, 1) := by decide +kernel
theorem dX7_readObjector_3 : decode cX7_readObjector 3 = .ok (.invokevirtual 75, 3) := by decide +kernel
theorem dX7_readObjector_6 : decode cX7_readObjector 6 = .ok (.istore_n 1, 1) := by decide +kernel
theorem dX7_readObjector_7 : decode cX7_readObjector 7 = .ok (.aload_n 0, 1) := by decide +kernel
theorem dX7_readObjector_8 : decode cX7_readObjector 8 = .ok (.iconst 0, 1) := by decide +kernel
theorem dX7_readObjector_9 : decode cX7_readObjector 9 = .ok (.bipush 20, 2) := by decide +kernel
theorem dX7_readObjector_11 : decode cX7_readObjector 11 = .ok (.invokevirtual 75, 3) := by decide +kernel
theorem dX7_readObjector_14 : decode cX7_readObjector 14 = .ok (.istore_n 2, 1) := by decide +kernel
theorem dX7_readObjector_15 : decode cX7_readObjector 15 = .ok (.aload_n 0, 1) := by decide +kernel
theorem dX7_readObjector_16 : decode cX7_readObjector 16 = .ok (.iconst 0, 1) := by decide +kernel
theorem dX7_readObjector_17 : decode cX7_readObjector 17 = .ok (.bipush 31, 2) := by decide +kernel
theorem dX7_readObjector_19 : decode cX7_readObjector 19 = .ok (.invokevirtual 75, 3) := by decide +kernel
theorem dX7_readObjector_22 : decode cX7_readObjector 22 = .ok (.istore_n 3, 1) := by decide +kernel
theorem dX7_readObjector_23 : decode cX7_readObjector 23 = .ok (.aload_n 0, 1) := by decide +kernel
theorem dX7_readObjector_24 : decode cX7_readObjector 24 = .ok (.bipush 59, 2) := by decide +kernel
theorem dX7_readObjector_26 : decode cX7_readObjector 26 = .ok (.invokevirtual 79, 3) := by decide +kernel
theorem dX7_readObjector_29 : decode cX7_readObjector 29 = .ok (.aload_n 0, 1) := by decide +kernel
theorem dX7_readObjector_30 : decode cX7_readObjector 30 = .ok (.getfield 12, 3) := by decide +kernel
theorem dX7_readObjector_33 : decode cX7_readObjector 33 = .ok (.iload_n 1, 1) := by decide +kernel
theorem dX7_readObjector_34 : decode cX7_readObjector 34 = .ok (.iload_n 2, 1) := by decide +kernel
theorem dX7_readObjector_35 : decode cX7_readObjector 35 = .ok (.iload_n 3, 1) := by decide +kernel
theorem dX7_readObjector_36 : decode cX7_readObjector 36 = .ok (.invokevirtual 96, 3) := by decide +kernel
theorem dX7_readObjector_39 : decode cX7_readObjector 39 = .ok (.return_, 1) := by decide +kernel
theorem dX7_number_0 : decode cX7_number 0 = .ok (.aload_n 0, 1) := by decide +kernel
theorem dX7_number_1 : decode cX7_number 1 = .ok (.invokevirtual 38, 3) := by decide +kernel
theorem dX7_number_4 : decode cX7_number 4 = .ok (.aload_n 0, 1) := by decide +kernel
theorem dX7_number_5 : decode cX7_number 5 = .ok (.getfield 29, 3) := by decide +kernel
theorem dX7_number_8 : decode cX7_number 8 = .ok (.istore_n 3, 1) := by decide +kernel
theorem dX7_number_9 : decode cX7_number 9 = .ok (.iconst 0, 1) := by decide +kernel
theorem dX7_number_10 : decode cX7_number 10 = .ok (.istore 4, 2) := by decide +kernel
theorem dX7_number_12 : decode cX7_number 12 = .ok (.aload_n 0, 1) := by decide +kernel
theorem dX7_number_13 : decode cX7_number 13 = .ok (.getfield 29, 3) := by decide +kernel
theorem dX7_number_16 : decode cX7_number 16 = .ok (.aload_n 0, 1) := by decide +kernel
theorem dX7_number_17 : decode cX7_number 17 = .ok (.getfield 18, 3) := by decide +kernel
theorem dX7_number_20 : decode cX7_number 20 = .ok (.if_icmp .ge 61, 3) := by decide +kernel
theorem dX7_number_23 : decode cX7_number 23 = .ok (.aload_n 0, 1) := by decide +kernel
theorem dX7_number_24 : decode cX7_number 24 = .ok (.getfield 25, 3) := by decide +kernel
theorem dX7_number_27 : decode cX7_number 27 = .ok (.aload_n 0, 1) := by decide +kernel
theorem dX7_number_28 : decode cX7_number 28 = .ok (.getfield 29, 3) := by decide +kernel
theorem dX7_number_31 : decode cX7_number 31 = .ok (.iaload, 1) := by decide +kernel
theorem dX7_number_32 : decode cX7_number 32 = .ok (.invokestatic 99, 3) := by decide +kernel
theorem dX7_number_35 : decode cX7_number 35 = .ok (.ifCond .eq 46, 3) := by decide +kernel
theorem dX7_number_38 : decode cX7_number 38 = .ok (.aload_n 0, 1) := by decide +kernel
theorem dX7_number_39 : decode cX7_number 39 = .ok (.getfield 29, 3) := by decide +kernel
theorem dX7_number_42 : decode cX7_number 42 = .ok (.iload_n 3, 1) := by decide +kernel
theorem dX7_number_43 : decode cX7_number 43 = .ok (.isub, 1) := by decide +kernel
theorem dX7_number_44 : decode cX7_number 44 = .ok (.iconst 3, 1) := by decide +kernel
theorem dX7_number_45 : decode cX7_number 45 = .ok (.if_icmp .ge 23, 3) := by decide +kernel
theorem dX7_number_48 : decode cX7_number 48 = .ok (.iload 4, 2) := by decide +kernel
theorem dX7_number_50 : decode cX7_number 50 = .ok (.bipush 10, 2) := by decide +kernel
theorem dX7_number_52 : decode cX7_number 52 = .ok (.imul, 1) := by decide +kernel
theorem dX7_number_53 : decode cX7_number 53 = .ok (.aload_n 0, 1) := by decide +kernel
theorem dX7_number_54 : decode cX7_number 54 = .ok (.getfield 25, 3) := by decide +kernel
theorem dX7_number_57 : decode cX7_number 57 = .ok (.aload_n 0, 1) := by decide +kernel
theorem dX7_number_58 : decode cX7_number 58 = .ok (.getfield 29, 3) := by decide +kernel
theorem dX7_number_61 : decode cX7_number 61 = .ok (.iaload, 1) := by decide +kernel
theorem dX7_number_62 : decode cX7_number 62 = .ok (.iadd, 1) := by decide +kernel
theorem dX7_number_63 : decode cX7_number 63 = .ok (.bipush 48, 2) := by decide +kernel
theorem dX7_number_65 : decode cX7_number 65 = .ok (.isub, 1) := by decide +kernel
theorem dX7_number_66 : decode cX7_number 66 = .ok (.istore 4, 2) := by decide +kernel
theorem dX7_number_68 : decode cX7_number 68 = .ok (.aload_n 0, 1) := by decide +kernel
theorem dX7_number_69 : decode cX7_number 69 = .ok (.dup, 1) := by decide +kernel
theorem dX7_number_70 : decode cX7_number 70 = .ok (.getfield 29, 3) := by decide +kernel
theorem dX7_number_73 : decode cX7_number 73 = .ok (.iconst 1, 1) := by decide +kernel
theorem dX7_number_74 : decode cX7_number 74 = .ok (.iadd, 1) := by decide +kernel
theorem dX7_number_75 : decode cX7_number 75 = .ok (.putfield 29, 3) := by decide +kernel
theorem dX7_number_78 : decode cX7_number 78 = .ok (.goto (-66), 3) := by decide +kernel
theorem dX7_number_81 : decode cX7_number 81 = .ok (.aload_n 0, 1) := by decide +kernel
theorem dX7_number_82 : decode cX7_number 82 = .ok (.getfield 29, 3) := by decide +kernel
theorem dX7_number_85 : decode cX7_number 85 = .ok (.iload_n 3, 1) := by decide +kernel
theorem dX7_number_86 : decode cX7_number 86 = .ok (.if_icmp .ne 15, 3) := by decide +kernel
theorem dX7_number_89 : decode cX7_number 89 = .ok (.aload_n 0, 1) := by decide +kernel
theorem dX7_number_90 : decode cX7_number 90 = .ok (.iconst 1, 1) := by decide +kernel
theorem dX7_number_91 : decode cX7_number 91 = .ok (.aload_n 0, 1) := by decide +kernel
theorem dX7_number_92 : decode cX7_number 92 = .ok (.getfield 29, 3) := by decide +kernel
theorem dX7_number_95 : decode cX7_number 95 = .ok (.invokevirtual 48, 3) := by decide +kernel
theorem dX7_number_98 : decode cX7_number 98 = .ok (.goto 31, 3) := by decide +kernel
theorem dX7_number_101 : decode cX7_number 101 = .ok (.aload_n 0, 1) := by decide +kernel
theorem dX7_number_102 : decode cX7_number 102 = .ok (.getfield 29, 3) := by decide +kernel
theorem dX7_number_105 : decode cX7_number 105 = .ok (.iload_n 3, 1) := by decide +kernel
theorem dX7_number_106 : decode cX7_number 106 = .ok (.isub, 1) := by decide +kernel
theorem dX7_number_107 : decode cX7_number 107 = .ok (.iconst 3, 1) := by decide +kernel
theorem dX7_number_108 : decode cX7_number 108 = .ok (.if_icmp .gt 15, 3) := by decide +kernel
theorem dX7_number_111 : decode cX7_number 111 = .ok (.iload 4, 2) := by decide +kernel
theorem dX7_number_113 : decode cX7_number 113 = .ok (.iload_n 1, 1) := by decide +kernel
theorem dX7_number_114 : decode cX7_number 114 = .ok (.if_icmp .lt 9, 3) := by decide +kernel
theorem dX7_number_117 : decode cX7_number 117 = .ok (.iload 4, 2) := by decide +kernel
theorem dX7_number_119 : decode cX7_number 119 = .ok (.iload_n 2, 1) := by decide +kernel
theorem dX7_number_120 : decode cX7_number 120 = .ok (.if_icmp .le 9, 3) := by decide +kernel
theorem dX7_number_123 : decode cX7_number 123 = .ok (.aload_n 0, 1) := by decide +kernel
theorem dX7_number_124 : decode cX7_number 124 = .ok (.iconst 2, 1) := by decide +kernel
theorem dX7_number_125 : decode cX7_number 125 = .ok (.iload_n 3, 1) := by decide +kernel
theorem dX7_number_126 : decode cX7_number 126 = .ok (.invokevirtual 48, 3) := by decide +kernel
theorem dX7_number_129 : decode cX7_number 129 = .ok (.iload 4, 2) := by decide +kernel
theorem dX7_number_131 : decode cX7_number 131 = .ok (.ireturn, 1) := by decide +kernel
theorem dX7_expect_0 : decode cX7_expect 0 = .ok (.aload_n 0, 1) := by decide +kernel
theorem dX7_expect_1 : decode cX7_expect 1 = .ok (.invokevirtual 38, 3) := by decide +kernel
theorem dX7_expect_4 : decode cX7_expect 4 = .ok (.aload_n 0, 1) := by decide +kernel
theorem dX7_expect_5 : decode cX7_expect 5 = .ok (.getfield 29, 3) := by decide +kernel
theorem dX7_expect_8 : decode cX7_expect 8 = .ok (.aload_n 0, 1) := by decide +kernel
theorem dX7_expect_9 : decode cX7_expect 9 = .ok (.getfield 18, 3) := by decide +kernel
theorem dX7_expect_12 : decode cX7_expect 12 = .ok (.if_icmp .ge 29, 3) := by decide +kernel
theorem dX7_expect_15 : decode cX7_expect 15 = .ok (.aload_n 0, 1) := by decide +kernel
theorem dX7_expect_16 : decode cX7_expect 16 = .ok (.getfield 25, 3) := by decide +kernel
theorem dX7_expect_19 : decode cX7_expect 19 = .ok (.aload_n 0, 1) := by decide +kernel
theorem dX7_expect_20 : decode cX7_expect 20 = .ok (.getfield 29, 3) := by decide +kernel
theorem dX7_expect_23 : decode cX7_expect 23 = .ok (.iaload, 1) := by decide +kernel
theorem dX7_expect_24 : decode cX7_expect 24 = .ok (.iload_n 1, 1) := by decide +kernel
theorem dX7_expect_25 : decode cX7_expect 25 = .ok (.if_icmp .ne 16, 3) := by decide +kernel
theorem dX7_expect_28 : decode cX7_expect 28 = .ok (.aload_n 0, 1) := by decide +kernel
theorem dX7_expect_29 : decode cX7_expect 29 = .ok (.dup, 1) := by decide +kernel
theorem dX7_expect_30 : decode cX7_expect 30 = .ok (.getfield 29, 3) := by decide +kernel
theorem dX7_expect_33 : decode cX7_expect 33 = .ok (.iconst 1, 1) := by decide +kernel
theorem dX7_expect_34 : decode cX7_expect 34 = .ok (.iadd, 1) := by decide +kernel
theorem dX7_expect_35 : decode cX7_expect 35 = .ok (.putfield 29, 3) := by decide +kernel
theorem dX7_expect_38 : decode cX7_expect 38 = .ok (.goto 12, 3) := by decide +kernel
theorem dX7_expect_41 : decode cX7_expect 41 = .ok (.aload_n 0, 1) := by decide +kernel
theorem dX7_expect_42 : decode cX7_expect 42 = .ok (.iconst 1, 1) := by decide +kernel
theorem dX7_expect_43 : decode cX7_expect 43 = .ok (.aload_n 0, 1) := by decide +kernel
theorem dX7_expect_44 : decode cX7_expect 44 = .ok (.getfield 29, 3) := by decide +kernel
theorem dX7_expect_47 : decode cX7_expect 47 = .ok (.invokevirtual 48, 3) := by decide +kernel
theorem dX7_expect_50 : decode cX7_expect 50 = .ok (.return_, 1) := by decide +kernel
theorem dX7_skipBlanks_0 : decode cX7_skipBlanks 0 = .ok (.aload_n 0, 1) := by decide +kernel
theorem dX7_skipBlanks_1 : decode cX7_skipBlanks 1 = .ok (.getfield 29, 3) := by decide +kernel
theorem dX7_skipBlanks_4 : decode cX7_skipBlanks 4 = .ok (.aload_n 0, 1) := by decide +kernel
theorem dX7_skipBlanks_5 : decode cX7_skipBlanks 5 = .ok (.getfield 18, 3) := by decide +kernel
theorem dX7_skipBlanks_8 : decode cX7_skipBlanks 8 = .ok (.if_icmp .ge 30, 3) := by decide +kernel
theorem dX7_skipBlanks_11 : decode cX7_skipBlanks 11 = .ok (.aload_n 0, 1) := by decide +kernel
theorem dX7_skipBlanks_12 : decode cX7_skipBlanks 12 = .ok (.getfield 25, 3) := by decide +kernel
theorem dX7_skipBlanks_15 : decode cX7_skipBlanks 15 = .ok (.aload_n 0, 1) := by decide +kernel
theorem dX7_skipBlanks_16 : decode cX7_skipBlanks 16 = .ok (.getfield 29, 3) := by decide +kernel
theorem dX7_skipBlanks_19 : decode cX7_skipBlanks 19 = .ok (.iaload, 1) := by decide +kernel
theorem dX7_skipBlanks_20 : decode cX7_skipBlanks 20 = .ok (.bipush 32, 2) := by decide +kernel
theorem dX7_skipBlanks_22 : decode cX7_skipBlanks 22 = .ok (.if_icmp .ne 16, 3) := by decide +kernel
theorem dX7_skipBlanks_25 : decode cX7_skipBlanks 25 = .ok (.aload_n 0, 1) := by decide +kernel
theorem dX7_skipBlanks_26 : decode cX7_skipBlanks 26 = .ok (.dup, 1) := by decide +kernel
theorem dX7_skipBlanks_27 : decode cX7_skipBlanks 27 = .ok (.getfield 29, 3) := by decide +kernel
theorem dX7_skipBlanks_30 : decode cX7_skipBlanks 30 = .ok (.iconst 1, 1) := by decide +kernel
theorem dX7_skipBlanks_31 : decode cX7_skipBlanks 31 = .ok (.iadd, 1) := by decide +kernel
theorem dX7_skipBlanks_32 : decode cX7_skipBlanks 32 = .ok (.putfield 29, 3) := by decide +kernel
theorem dX7_skipBlanks_35 : decode cX7_skipBlanks 35 = .ok (.goto (-35), 3) := by decide +kernel
theorem dX7_skipBlanks_38 : decode cX7_skipBlanks 38 = .ok (.return_, 1) := by decide +kernel
theorem dX7_isFigure_0 : decode cX7_isFigure 0 = .ok (.iload_n 0, 1) := by decide +kernel
theorem dX7_isFigure_1 : decode cX7_isFigure 1 = .ok (.bipush 48, 2) := by decide +kernel
theorem dX7_isFigure_3 : decode cX7_isFigure 3 = .ok (.if_icmp .lt 13, 3) := by decide +kernel
theorem dX7_isFigure_6 : decode cX7_isFigure 6 = .ok (.iload_n 0, 1) := by decide +kernel
theorem dX7_isFigure_7 : decode cX7_isFigure 7 = .ok (.bipush 57, 2) := by decide +kernel
theorem dX7_isFigure_9 : decode cX7_isFigure 9 = .ok (.if_icmp .gt 7, 3) := by decide +kernel
theorem dX7_isFigure_12 : decode cX7_isFigure 12 = .ok (.iconst 1, 1) := by decide +kernel
theorem dX7_isFigure_13 : decode cX7_isFigure 13 = .ok (.goto 4, 3) := by decide +kernel
theorem dX7_isFigure_16 : decode cX7_isFigure 16 = .ok (.iconst 0, 1) := by decide +kernel
theorem dX7_isFigure_17 : decode cX7_isFigure 17 = .ok (.ireturn, 1) := by decide +kernel
theorem dX7_fail_0 : decode cX7_fail 0 = .ok (.aload_n 0, 1) := by decide +kernel
theorem dX7_fail_1 : decode cX7_fail 1 = .ok (.getfield 32, 3) := by decide +kernel
theorem dX7_fail_4 : decode cX7_fail 4 = .ok (.ifCond .ne 13, 3) := by decide +kernel
theorem dX7_fail_7 : decode cX7_fail 7 = .ok (.aload_n 0, 1) := by decide +kernel
theorem dX7_fail_8 : decode cX7_fail 8 = .ok (.iload_n 1, 1) := by decide +kernel
theorem dX7_fail_9 : decode cX7_fail 9 = .ok (.putfield 32, 3) := by decide +kernel
theorem dX7_fail_12 : decode cX7_fail 12 = .ok (.aload_n 0, 1) := by decide +kernel
theorem dX7_fail_13 : decode cX7_fail 13 = .ok (.iload_n 2, 1) := by decide +kernel
theorem dX7_fail_14 : decode cX7_fail 14 = .ok (.putfield 22, 3) := by decide +kernel
theorem dX7_fail_17 : decode cX7_fail 17 = .ok (.return_, 1) := by decide +kernel
theorem dX8_init_0 : decode cX8_init 0 = .ok (.aload_n 0, 1) := by decide +kernel
theorem dX8_init_1 : decode cX8_init 1 = .ok (.invokespecial 3, 3) := by decide +kernel
theorem dX8_init_4 : decode cX8_init 4 = .ok (.aload_n 0, 1) := by decide +kernel
theorem dX8_init_5 : decode cX8_init 5 = .ok (.bipush 64, 2) := by decide +kernel
theorem dX8_init_7 : decode cX8_init 7 = .ok (.newarray .int, 2) := by decide +kernel
theorem dX8_init_9 : decode cX8_init 9 = .ok (.putfield 9, 3) := by decide +kernel
theorem dX8_init_12 : decode cX8_init 12 = .ok (.return_, 1) := by decide +kernel
theorem dX8_weigh_0 : decode cX8_weigh 0 = .ok (.iconst 1, 1) := by decide +kernel
theorem dX8_weigh_1 : decode cX8_weigh 1 = .ok (.istore 4, 2) := by decide +kernel
theorem dX8_weigh_3 : decode cX8_weigh 3 = .ok (.iload 4, 2) := by decide +kernel
theorem dX8_weigh_5 : decode cX8_weigh 5 = .ok (.iload_n 3, 1) := by decide +kernel
theorem dX8_weigh_6 : decode cX8_weigh 6 = .ok (.if_icmp .gt 34, 3) := by decide +kernel
theorem dX8_weigh_9 : decode cX8_weigh 9 = .ok (.iload 4, 2) := by decide +kernel
theorem dX8_weigh_11 : decode cX8_weigh 11 = .ok (.iload_n 3, 1) := by decide +kernel
theorem dX8_weigh_12 : decode cX8_weigh 12 = .ok (.iconst (-1), 1) := by decide +kernel
theorem dX8_weigh_13 : decode cX8_weigh 13 = .ok (.ixor, 1) := by decide +kernel
theorem dX8_weigh_14 : decode cX8_weigh 14 = .ok (.iand, 1) := by decide +kernel
theorem dX8_weigh_15 : decode cX8_weigh 15 = .ok (.ifCond .ne 19, 3) := by decide +kernel
theorem dX8_weigh_18 : decode cX8_weigh 18 = .ok (.aload_n 0, 1) := by decide +kernel
theorem dX8_weigh_19 : decode cX8_weigh 19 = .ok (.getfield 9, 3) := by decide +kernel
theorem dX8_weigh_22 : decode cX8_weigh 22 = .ok (.iload 4, 2) := by decide +kernel
theorem dX8_weigh_24 : decode cX8_weigh 24 = .ok (.aload_n 0, 1) := by decide +kernel
theorem dX8_weigh_25 : decode cX8_weigh 25 = .ok (.aload_n 1, 1) := by decide +kernel
theorem dX8_weigh_26 : decode cX8_weigh 26 = .ok (.iload_n 2, 1) := by decide +kernel
theorem dX8_weigh_27 : decode cX8_weigh 27 = .ok (.iload_n 3, 1) := by decide +kernel
theorem dX8_weigh_28 : decode cX8_weigh 28 = .ok (.iload 4, 2) := by decide +kernel
theorem dX8_weigh_30 : decode cX8_weigh 30 = .ok (.invokevirtual 15, 3) := by decide +kernel
theorem dX8_weigh_33 : decode cX8_weigh 33 = .ok (.iastore, 1) := by decide +kernel
theorem dX8_weigh_34 : decode cX8_weigh 34 = .ok (.iinc 4 1, 3) := by decide +kernel
theorem dX8_weigh_37 : decode cX8_weigh 37 = .ok (.goto (-34), 3) := by decide +kernel
theorem dX8_weigh_40 : decode cX8_weigh 40 = .ok (.return_, 1) := by decide +kernel
theorem dX8_bestOf_0 : decode cX8_bestOf 0 = .ok (.iconst 0, 1) := by decide +kernel
theorem dX8_bestOf_1 : decode cX8_bestOf 1 = .ok (.istore 5, 2) := by decide +kernel
theorem dX8_bestOf_3 : decode cX8_bestOf 3 = .ok (.iconst 0, 1) := by decide +kernel
theorem dX8_bestOf_4 : decode cX8_bestOf 4 = .ok (.istore 6, 2) := by decide +kernel
theorem dX8_bestOf_6 : decode cX8_bestOf 6 = .ok (.iload 6, 2) := by decide +kernel
theorem dX8_bestOf_8 : decode cX8_bestOf 8 = .ok (.aload_n 1, 1) := by decide +kernel
theorem dX8_bestOf_9 : decode cX8_bestOf 9 = .ok (.invokevirtual 19, 3) := by decide +kernel
theorem dX8_bestOf_12 : decode cX8_bestOf 12 = .ok (.if_icmp .ge 38, 3) := by decide +kernel
theorem dX8_bestOf_15 : decode cX8_bestOf 15 = .ok (.iload 4, 2) := by decide +kernel
theorem dX8_bestOf_17 : decode cX8_bestOf 17 = .ok (.iload 6, 2) := by decide +kernel
theorem dX8_bestOf_19 : decode cX8_bestOf 19 = .ok (.ishr, 1) := by decide +kernel
theorem dX8_bestOf_20 : decode cX8_bestOf 20 = .ok (.iconst 1, 1) := by decide +kernel
theorem dX8_bestOf_21 : decode cX8_bestOf 21 = .ok (.iand, 1) := by decide +kernel
theorem dX8_bestOf_22 : decode cX8_bestOf 22 = .ok (.iconst 1, 1) := by decide +kernel
theorem dX8_bestOf_23 : decode cX8_bestOf 23 = .ok (.if_icmp .ne 21, 3) := by decide +kernel
theorem dX8_bestOf_26 : decode cX8_bestOf 26 = .ok (.iload 5, 2) := by decide +kernel
theorem dX8_bestOf_28 : decode cX8_bestOf 28 = .ok (.aload_n 0, 1) := by decide +kernel
theorem dX8_bestOf_29 : decode cX8_bestOf 29 = .ok (.aload_n 1, 1) := by decide +kernel
theorem dX8_bestOf_30 : decode cX8_bestOf 30 = .ok (.iload_n 2, 1) := by decide +kernel
theorem dX8_bestOf_31 : decode cX8_bestOf 31 = .ok (.iload 6, 2) := by decide +kernel
theorem dX8_bestOf_33 : decode cX8_bestOf 33 = .ok (.iload_n 3, 1) := by decide +kernel
theorem dX8_bestOf_34 : decode cX8_bestOf 34 = .ok (.iload 4, 2) := by decide +kernel
theorem dX8_bestOf_36 : decode cX8_bestOf 36 = .ok (.invokevirtual 25, 3) := by decide +kernel
theorem dX8_bestOf_39 : decode cX8_bestOf 39 = .ok (.invokestatic 29, 3) := by decide +kernel
theorem dX8_bestOf_42 : decode cX8_bestOf 42 = .ok (.istore 5, 2) := by decide +kernel
theorem dX8_bestOf_44 : decode cX8_bestOf 44 = .ok (.iinc 6 1, 3) := by decide +kernel
theorem dX8_bestOf_47 : decode cX8_bestOf 47 = .ok (.goto (-41), 3) := by decide +kernel
theorem dX8_bestOf_50 : decode cX8_bestOf 50 = .ok (.iload 5, 2) := by decide +kernel
theorem dX8_bestOf_52 : decode cX8_bestOf 52 = .ok (.ireturn, 1) := by decide +kernel
theorem dX8_valueOf_0 : decode cX8_valueOf 0 = .ok (.iload 4, 2) := by decide +kernel
theorem dX8_valueOf_2 : decode cX8_valueOf 2 = .ok (.invokestatic 35, 3) := by decide +kernel
theorem dX8_valueOf_5 : decode cX8_valueOf 5 = .ok (.iload 5, 2) := by decide +kernel
theorem dX8_valueOf_7 : decode cX8_valueOf 7 = .ok (.invokestatic 35, 3) := by decide +kernel
theorem dX8_valueOf_10 : decode cX8_valueOf 10 = .ok (.isub, 1) := by decide +kernel
theorem dX8_valueOf_11 : decode cX8_valueOf 11 = .ok (.istore 6, 2) := by decide +kernel
theorem dX8_valueOf_13 : decode cX8_valueOf 13 = .ok (.aload_n 0, 1) := by decide +kernel
theorem dX8_valueOf_14 : decode cX8_valueOf 14 = .ok (.getfield 9, 3) := by decide +kernel
theorem dX8_valueOf_17 : decode cX8_valueOf 17 = .ok (.iload 5, 2) := by decide +kernel
theorem dX8_valueOf_19 : decode cX8_valueOf 19 = .ok (.iconst 1, 1) := by decide +kernel
theorem dX8_valueOf_20 : decode cX8_valueOf 20 = .ok (.iload_n 3, 1) := by decide +kernel
theorem dX8_valueOf_21 : decode cX8_valueOf 21 = .ok (.ishl, 1) := by decide +kernel
theorem dX8_valueOf_22 : decode cX8_valueOf 22 = .ok (.iconst (-1), 1) := by decide +kernel
theorem dX8_valueOf_23 : decode cX8_valueOf 23 = .ok (.ixor, 1) := by decide +kernel
theorem dX8_valueOf_24 : decode cX8_valueOf 24 = .ok (.iand, 1) := by decide +kernel
theorem dX8_valueOf_25 : decode cX8_valueOf 25 = .ok (.iaload, 1) := by decide +kernel
theorem dX8_valueOf_26 : decode cX8_valueOf 26 = .ok (.aload_n 1, 1) := by decide +kernel
theorem dX8_valueOf_27 : decode cX8_valueOf 27 = .ok (.iload_n 2, 1) := by decide +kernel
theorem dX8_valueOf_28 : decode cX8_valueOf 28 = .ok (.iload_n 3, 1) := by decide +kernel
theorem dX8_valueOf_29 : decode cX8_valueOf 29 = .ok (.iload 6, 2) := by decide +kernel
theorem dX8_valueOf_31 : decode cX8_valueOf 31 = .ok (.invokevirtual 41, 3) := by decide +kernel
theorem dX8_valueOf_34 : decode cX8_valueOf 34 = .ok (.ifCond .eq 7, 3) := by decide +kernel
theorem dX8_valueOf_37 : decode cX8_valueOf 37 = .ok (.iconst 1, 1) := by decide +kernel
theorem dX8_valueOf_38 : decode cX8_valueOf 38 = .ok (.goto 4, 3) := by decide +kernel
theorem dX8_valueOf_41 : decode cX8_valueOf 41 = .ok (.iconst 0, 1) := by decide +kernel
theorem dX8_valueOf_42 : decode cX8_valueOf 42 = .ok (.iadd, 1) := by decide +kernel
theorem dX8_valueOf_43 : decode cX8_valueOf 43 = .ok (.ireturn, 1) := by decide +kernel
theorem dX8_howMany_0 : decode cX8_howMany 0 = .ok (.aload_n 0, 1) := by decide +kernel
theorem dX8_howMany_1 : decode cX8_howMany 1 = .ok (.getfield 9, 3) := by decide +kernel
theorem dX8_howMany_4 : decode cX8_howMany 4 = .ok (.iload_n 1, 1) := by decide +kernel
theorem dX8_howMany_5 : decode cX8_howMany 5 = .ok (.iaload, 1) := by decide +kernel
theorem dX8_howMany_6 : decode cX8_howMany 6 = .ok (.ireturn, 1) := by decide +kernel
theorem dX8_figures_0 : decode cX8_figures 0 = .ok (.iconst 0, 1) := by decide +kernel
theorem dX8_figures_1 : decode cX8_figures 1 = .ok (.istore 4, 2) := by decide +kernel
theorem dX8_figures_3 : decode cX8_figures 3 = .ok (.iload_n 3, 1) := by decide +kernel
theorem dX8_figures_4 : decode cX8_figures 4 = .ok (.istore 5, 2) := by decide +kernel
theorem dX8_figures_6 : decode cX8_figures 6 = .ok (.iconst 0, 1) := by decide +kernel
theorem dX8_figures_7 : decode cX8_figures 7 = .ok (.istore 6, 2) := by decide +kernel
theorem dX8_figures_9 : decode cX8_figures 9 = .ok (.iload 6, 2) := by decide +kernel
theorem dX8_figures_11 : decode cX8_figures 11 = .ok (.iconst 5, 1) := by decide +kernel
theorem dX8_figures_12 : decode cX8_figures 12 = .ok (.if_icmp .ge 48, 3) := by decide +kernel
theorem dX8_figures_15 : decode cX8_figures 15 = .ok (.iload 5, 2) := by decide +kernel
theorem dX8_figures_17 : decode cX8_figures 17 = .ok (.ifCond .eq 43, 3) := by decide +kernel
theorem dX8_figures_20 : decode cX8_figures 20 = .ok (.aload_n 0, 1) := by decide +kernel
theorem dX8_figures_21 : decode cX8_figures 21 = .ok (.aload_n 1, 1) := by decide +kernel
theorem dX8_figures_22 : decode cX8_figures 22 = .ok (.iload_n 2, 1) := by decide +kernel
theorem dX8_figures_23 : decode cX8_figures 23 = .ok (.iload_n 3, 1) := by decide +kernel
theorem dX8_figures_24 : decode cX8_figures 24 = .ok (.iload 5, 2) := by decide +kernel
theorem dX8_figures_26 : decode cX8_figures 26 = .ok (.invokevirtual 45, 3) := by decide +kernel
theorem dX8_figures_29 : decode cX8_figures 29 = .ok (.istore 7, 2) := by decide +kernel
theorem dX8_figures_31 : decode cX8_figures 31 = .ok (.iload 4, 2) := by decide +kernel
theorem dX8_figures_33 : decode cX8_figures 33 = .ok (.bipush 10, 2) := by decide +kernel
theorem dX8_figures_35 : decode cX8_figures 35 = .ok (.imul, 1) := by decide +kernel
theorem dX8_figures_36 : decode cX8_figures 36 = .ok (.iload 7, 2) := by decide +kernel
theorem dX8_figures_38 : decode cX8_figures 38 = .ok (.iadd, 1) := by decide +kernel
theorem dX8_figures_39 : decode cX8_figures 39 = .ok (.iconst 1, 1) := by decide +kernel
theorem dX8_figures_40 : decode cX8_figures 40 = .ok (.iadd, 1) := by decide +kernel
theorem dX8_figures_41 : decode cX8_figures 41 = .ok (.istore 4, 2) := by decide +kernel
theorem dX8_figures_43 : decode cX8_figures 43 = .ok (.iload 5, 2) := by decide +kernel
theorem dX8_figures_45 : decode cX8_figures 45 = .ok (.iconst 1, 1) := by decide +kernel
theorem dX8_figures_46 : decode cX8_figures 46 = .ok (.iload 7, 2) := by decide +kernel
theorem dX8_figures_48 : decode cX8_figures 48 = .ok (.ishl, 1) := by decide +kernel
theorem dX8_figures_49 : decode cX8_figures 49 = .ok (.iconst (-1), 1) := by decide +kernel
theorem dX8_figures_50 : decode cX8_figures 50 = .ok (.ixor, 1) := by decide +kernel
theorem dX8_figures_51 : decode cX8_figures 51 = .ok (.iand, 1) := by decide +kernel
theorem dX8_figures_52 : decode cX8_figures 52 = .ok (.istore 5, 2) := by decide +kernel
theorem dX8_figures_54 : decode cX8_figures 54 = .ok (.iinc 6 1, 3) := by decide +kernel
theorem dX8_figures_57 : decode cX8_figures 57 = .ok (.goto (-48), 3) := by decide +kernel
theorem dX8_figures_60 : decode cX8_figures 60 = .ok (.iload 4, 2) := by decide +kernel
theorem dX8_figures_62 : decode cX8_figures 62 = .ok (.ireturn, 1) := by decide +kernel
theorem dX8_firstChoice_0 : decode cX8_firstChoice 0 = .ok (.iconst 0, 1) := by decide +kernel
theorem dX8_firstChoice_1 : decode cX8_firstChoice 1 = .ok (.istore 5, 2) := by decide +kernel
theorem dX8_firstChoice_3 : decode cX8_firstChoice 3 = .ok (.iload 5, 2) := by decide +kernel
theorem dX8_firstChoice_5 : decode cX8_firstChoice 5 = .ok (.aload_n 1, 1) := by decide +kernel
theorem dX8_firstChoice_6 : decode cX8_firstChoice 6 = .ok (.invokevirtual 19, 3) := by decide +kernel
theorem dX8_firstChoice_9 : decode cX8_firstChoice 9 = .ok (.if_icmp .ge 44, 3) := by decide +kernel
theorem dX8_firstChoice_12 : decode cX8_firstChoice 12 = .ok (.iload 4, 2) := by decide +kernel
theorem dX8_firstChoice_14 : decode cX8_firstChoice 14 = .ok (.iload 5, 2) := by decide +kernel
theorem dX8_firstChoice_16 : decode cX8_firstChoice 16 = .ok (.ishr, 1) := by decide +kernel
theorem dX8_firstChoice_17 : decode cX8_firstChoice 17 = .ok (.iconst 1, 1) := by decide +kernel
theorem dX8_firstChoice_18 : decode cX8_firstChoice 18 = .ok (.iand, 1) := by decide +kernel
theorem dX8_firstChoice_19 : decode cX8_firstChoice 19 = .ok (.iconst 1, 1) := by decide +kernel
theorem dX8_firstChoice_20 : decode cX8_firstChoice 20 = .ok (.if_icmp .ne 27, 3) := by decide +kernel
theorem dX8_firstChoice_23 : decode cX8_firstChoice 23 = .ok (.aload_n 0, 1) := by decide +kernel
theorem dX8_firstChoice_24 : decode cX8_firstChoice 24 = .ok (.aload_n 1, 1) := by decide +kernel
theorem dX8_firstChoice_25 : decode cX8_firstChoice 25 = .ok (.iload_n 2, 1) := by decide +kernel
theorem dX8_firstChoice_26 : decode cX8_firstChoice 26 = .ok (.iload 5, 2) := by decide +kernel
theorem dX8_firstChoice_28 : decode cX8_firstChoice 28 = .ok (.iload_n 3, 1) := by decide +kernel
theorem dX8_firstChoice_29 : decode cX8_firstChoice 29 = .ok (.iload 4, 2) := by decide +kernel
theorem dX8_firstChoice_31 : decode cX8_firstChoice 31 = .ok (.invokevirtual 25, 3) := by decide +kernel
theorem dX8_firstChoice_34 : decode cX8_firstChoice 34 = .ok (.aload_n 0, 1) := by decide +kernel
theorem dX8_firstChoice_35 : decode cX8_firstChoice 35 = .ok (.getfield 9, 3) := by decide +kernel
theorem dX8_firstChoice_38 : decode cX8_firstChoice 38 = .ok (.iload 4, 2) := by decide +kernel
theorem dX8_firstChoice_40 : decode cX8_firstChoice 40 = .ok (.iaload, 1) := by decide +kernel
theorem dX8_firstChoice_41 : decode cX8_firstChoice 41 = .ok (.if_icmp .ne 6, 3) := by decide +kernel
theorem dX8_firstChoice_44 : decode cX8_firstChoice 44 = .ok (.iload 5, 2) := by decide +kernel
theorem dX8_firstChoice_46 : decode cX8_firstChoice 46 = .ok (.ireturn, 1) := by decide +kernel
theorem dX8_firstChoice_47 : decode cX8_firstChoice 47 = .ok (.iinc 5 1, 3) := by decide +kernel
theorem dX8_firstChoice_50 : decode cX8_firstChoice 50 = .ok (.goto (-47), 3) := by decide +kernel
theorem dX8_firstChoice_53 : decode cX8_firstChoice 53 = .ok (.iconst 0, 1) := by decide +kernel
theorem dX8_firstChoice_54 : decode cX8_firstChoice 54 = .ok (.ireturn, 1) := by decide +kernel
theorem dX9_init_0 : decode cX9_init 0 = .ok (.aload_n 0, 1) := by decide +kernel
theorem dX9_init_1 : decode cX9_init 1 = .ok (.invokespecial 3, 3) := by decide +kernel
theorem dX9_init_4 : decode cX9_init 4 = .ok (.aload_n 0, 1) := by decide +kernel
theorem dX9_init_5 : decode cX9_init 5 = .ok (.iconst 0, 1) := by decide +kernel
theorem dX9_init_6 : decode cX9_init 6 = .ok (.putfield 9, 3) := by decide +kernel
theorem dX9_init_9 : decode cX9_init 9 = .ok (.aload_n 0, 1) := by decide +kernel
theorem dX9_init_10 : decode cX9_init 10 = .ok (.bipush 18, 2) := by decide +kernel
theorem dX9_init_12 : decode cX9_init 12 = .ok (.newarray .int, 2) := by decide +kernel
theorem dX9_init_14 : decode cX9_init 14 = .ok (.putfield 15, 3) := by decide +kernel
theorem dX9_init_17 : decode cX9_init 17 = .ok (.return_, 1) := by decide +kernel
theorem dX9_clear_0 : decode cX9_clear 0 = .ok (.aload_n 0, 1) := by decide +kernel
theorem dX9_clear_1 : decode cX9_clear 1 = .ok (.iconst 0, 1) := by decide +kernel
theorem dX9_clear_2 : decode cX9_clear 2 = .ok (.putfield 9, 3) := by decide +kernel
theorem dX9_clear_5 : decode cX9_clear 5 = .ok (.return_, 1) := by decide +kernel
theorem dX9_isFull_0 : decode cX9_isFull 0 = .ok (.aload_n 0, 1) := by decide +kernel
theorem dX9_isFull_1 : decode cX9_isFull 1 = .ok (.getfield 9, 3) := by decide +kernel
theorem dX9_isFull_4 : decode cX9_isFull 4 = .ok (.bipush 6, 2) := by decide +kernel
theorem dX9_isFull_6 : decode cX9_isFull 6 = .ok (.if_icmp .lt 7, 3) := by decide +kernel
theorem dX9_isFull_9 : decode cX9_isFull 9 = .ok (.iconst 1, 1) := by decide +kernel
theorem dX9_isFull_10 : decode cX9_isFull 10 = .ok (.goto 4, 3) := by decide +kernel
theorem dX9_isFull_13 : decode cX9_isFull 13 = .ok (.iconst 0, 1) := by decide +kernel
theorem dX9_isFull_14 : decode cX9_isFull 14 = .ok (.ireturn, 1) := by decide +kernel
theorem dX9_add_0 : decode cX9_add 0 = .ok (.aload_n 0, 1) := by decide +kernel
theorem dX9_add_1 : decode cX9_add 1 = .ok (.getfield 15, 3) := by decide +kernel
theorem dX9_add_4 : decode cX9_add 4 = .ok (.aload_n 0, 1) := by decide +kernel
theorem dX9_add_5 : decode cX9_add 5 = .ok (.getfield 9, 3) := by decide +kernel
theorem dX9_add_8 : decode cX9_add 8 = .ok (.iconst 3, 1) := by decide +kernel
theorem dX9_add_9 : decode cX9_add 9 = .ok (.imul, 1) := by decide +kernel
theorem dX9_add_10 : decode cX9_add 10 = .ok (.iload_n 1, 1) := by decide +kernel
theorem dX9_add_11 : decode cX9_add 11 = .ok (.iastore, 1) := by decide +kernel
theorem dX9_add_12 : decode cX9_add 12 = .ok (.aload_n 0, 1) := by decide +kernel
theorem dX9_add_13 : decode cX9_add 13 = .ok (.getfield 15, 3) := by decide +kernel
theorem dX9_add_16 : decode cX9_add 16 = .ok (.aload_n 0, 1) := by decide +kernel
theorem dX9_add_17 : decode cX9_add 17 = .ok (.getfield 9, 3) := by decide +kernel
theorem dX9_add_20 : decode cX9_add 20 = .ok (.iconst 3, 1) := by decide +kernel
theorem dX9_add_21 : decode cX9_add 21 = .ok (.imul, 1) := by decide +kernel
theorem dX9_add_22 : decode cX9_add 22 = .ok (.iconst 1, 1) := by decide +kernel
theorem dX9_add_23 : decode cX9_add 23 = .ok (.iadd, 1) := by decide +kernel
theorem dX9_add_24 : decode cX9_add 24 = .ok (.iload_n 2, 1) := by decide +kernel
theorem dX9_add_25 : decode cX9_add 25 = .ok (.iastore, 1) := by decide +kernel
theorem dX9_add_26 : decode cX9_add 26 = .ok (.aload_n 0, 1) := by decide +kernel
theorem dX9_add_27 : decode cX9_add 27 = .ok (.getfield 15, 3) := by decide +kernel
theorem dX9_add_30 : decode cX9_add 30 = .ok (.aload_n 0, 1) := by decide +kernel
theorem dX9_add_31 : decode cX9_add 31 = .ok (.getfield 9, 3) := by decide +kernel
theorem dX9_add_34 : decode cX9_add 34 = .ok (.iconst 3, 1) := by decide +kernel
theorem dX9_add_35 : decode cX9_add 35 = .ok (.imul, 1) := by decide +kernel
theorem dX9_add_36 : decode cX9_add 36 = .ok (.iconst 2, 1) := by decide +kernel
theorem dX9_add_37 : decode cX9_add 37 = .ok (.iadd, 1) := by decide +kernel
theorem dX9_add_38 : decode cX9_add 38 = .ok (.iload_n 3, 1) := by decide +kernel
theorem dX9_add_39 : decode cX9_add 39 = .ok (.iastore, 1) := by decide +kernel
theorem dX9_add_40 : decode cX9_add 40 = .ok (.aload_n 0, 1) := by decide +kernel
theorem dX9_add_41 : decode cX9_add 41 = .ok (.dup, 1) := by decide +kernel
theorem dX9_add_42 : decode cX9_add 42 = .ok (.getfield 9, 3) := by decide +kernel
theorem dX9_add_45 : decode cX9_add 45 = .ok (.iconst 1, 1) := by decide +kernel
theorem dX9_add_46 : decode cX9_add 46 = .ok (.iadd, 1) := by decide +kernel
theorem dX9_add_47 : decode cX9_add 47 = .ok (.putfield 9, 3) := by decide +kernel
theorem dX9_add_50 : decode cX9_add 50 = .ok (.aload_n 0, 1) := by decide +kernel
theorem dX9_add_51 : decode cX9_add 51 = .ok (.getfield 9, 3) := by decide +kernel
theorem dX9_add_54 : decode cX9_add 54 = .ok (.ireturn, 1) := by decide +kernel
theorem dX9_fits_0 : decode cX9_fits 0 = .ok (.iconst 0, 1) := by decide +kernel
theorem dX9_fits_1 : decode cX9_fits 1 = .ok (.istore_n 2, 1) := by decide +kernel
theorem dX9_fits_2 : decode cX9_fits 2 = .ok (.iload_n 2, 1) := by decide +kernel
theorem dX9_fits_3 : decode cX9_fits 3 = .ok (.aload_n 0, 1) := by decide +kernel
theorem dX9_fits_4 : decode cX9_fits 4 = .ok (.getfield 9, 3) := by decide +kernel
theorem dX9_fits_7 : decode cX9_fits 7 = .ok (.iconst 3, 1) := by decide +kernel
theorem dX9_fits_8 : decode cX9_fits 8 = .ok (.imul, 1) := by decide +kernel
theorem dX9_fits_9 : decode cX9_fits 9 = .ok (.if_icmp .ge 40, 3) := by decide +kernel
theorem dX9_fits_12 : decode cX9_fits 12 = .ok (.aload_n 0, 1) := by decide +kernel
theorem dX9_fits_13 : decode cX9_fits 13 = .ok (.getfield 15, 3) := by decide +kernel
theorem dX9_fits_16 : decode cX9_fits 16 = .ok (.iload_n 2, 1) := by decide +kernel
theorem dX9_fits_17 : decode cX9_fits 17 = .ok (.iaload, 1) := by decide +kernel
theorem dX9_fits_18 : decode cX9_fits 18 = .ok (.aload_n 0, 1) := by decide +kernel
theorem dX9_fits_19 : decode cX9_fits 19 = .ok (.getfield 15, 3) := by decide +kernel
theorem dX9_fits_22 : decode cX9_fits 22 = .ok (.iload_n 2, 1) := by decide +kernel
theorem dX9_fits_23 : decode cX9_fits 23 = .ok (.iconst 1, 1) := by decide +kernel
theorem dX9_fits_24 : decode cX9_fits 24 = .ok (.iadd, 1) := by decide +kernel
theorem dX9_fits_25 : decode cX9_fits 25 = .ok (.iaload, 1) := by decide +kernel
theorem dX9_fits_26 : decode cX9_fits 26 = .ok (.iload_n 1, 1) := by decide +kernel
theorem dX9_fits_27 : decode cX9_fits 27 = .ok (.invokestatic 19, 3) := by decide +kernel
theorem dX9_fits_30 : decode cX9_fits 30 = .ok (.aload_n 0, 1) := by decide +kernel
theorem dX9_fits_31 : decode cX9_fits 31 = .ok (.getfield 15, 3) := by decide +kernel
theorem dX9_fits_34 : decode cX9_fits 34 = .ok (.iload_n 2, 1) := by decide +kernel
theorem dX9_fits_35 : decode cX9_fits 35 = .ok (.iconst 2, 1) := by decide +kernel
theorem dX9_fits_36 : decode cX9_fits 36 = .ok (.iadd, 1) := by decide +kernel
theorem dX9_fits_37 : decode cX9_fits 37 = .ok (.iaload, 1) := by decide +kernel
theorem dX9_fits_38 : decode cX9_fits 38 = .ok (.if_icmp .eq 5, 3) := by decide +kernel
theorem dX9_fits_41 : decode cX9_fits 41 = .ok (.iconst 0, 1) := by decide +kernel
theorem dX9_fits_42 : decode cX9_fits 42 = .ok (.ireturn, 1) := by decide +kernel
theorem dX9_fits_43 : decode cX9_fits 43 = .ok (.iinc 2 3, 3) := by decide +kernel
theorem dX9_fits_46 : decode cX9_fits 46 = .ok (.goto (-44), 3) := by decide +kernel
theorem dX9_fits_49 : decode cX9_fits 49 = .ok (.iconst 1, 1) := by decide +kernel
theorem dX9_fits_50 : decode cX9_fits 50 = .ok (.ireturn, 1) := by decide +kernel
theorem dX9_howManyFit_0 : decode cX9_howManyFit 0 = .ok (.iconst 0, 1) := by decide +kernel
theorem dX9_howManyFit_1 : decode cX9_howManyFit 1 = .ok (.istore_n 1, 1) := by decide +kernel
theorem dX9_howManyFit_2 : decode cX9_howManyFit 2 = .ok (.iconst 0, 1) := by decide +kernel
theorem dX9_howManyFit_3 : decode cX9_howManyFit 3 = .ok (.istore_n 2, 1) := by decide +kernel
theorem dX9_howManyFit_4 : decode cX9_howManyFit 4 = .ok (.iload_n 2, 1) := by decide +kernel
theorem dX9_howManyFit_5 : decode cX9_howManyFit 5 = .ok (.bipush 20, 2) := by decide +kernel
theorem dX9_howManyFit_7 : decode cX9_howManyFit 7 = .ok (.if_icmp .gt 25, 3) := by decide +kernel
theorem dX9_howManyFit_10 : decode cX9_howManyFit 10 = .ok (.iload_n 1, 1) := by decide +kernel
theorem dX9_howManyFit_11 : decode cX9_howManyFit 11 = .ok (.aload_n 0, 1) := by decide +kernel
theorem dX9_howManyFit_12 : decode cX9_howManyFit 12 = .ok (.iload_n 2, 1) := by decide +kernel
theorem dX9_howManyFit_13 : decode cX9_howManyFit 13 = .ok (.invokevirtual 23, 3) := by decide +kernel
theorem dX9_howManyFit_16 : decode cX9_howManyFit 16 = .ok (.ifCond .eq 7, 3) := by decide +kernel
theorem dX9_howManyFit_19 : decode cX9_howManyFit 19 = .ok (.iconst 1, 1) := by decide +kernel
theorem dX9_howManyFit_20 : decode cX9_howManyFit 20 = .ok (.goto 4, 3) := by decide +kernel
theorem dX9_howManyFit_23 : decode cX9_howManyFit 23 = .ok (.iconst 0, 1) := by decide +kernel
theorem dX9_howManyFit_24 : decode cX9_howManyFit 24 = .ok (.iadd, 1) := by decide +kernel
theorem dX9_howManyFit_25 : decode cX9_howManyFit 25 = .ok (.istore_n 1, 1) := by decide +kernel
theorem dX9_howManyFit_26 : decode cX9_howManyFit 26 = .ok (.iinc 2 1, 3) := by decide +kernel
theorem dX9_howManyFit_29 : decode cX9_howManyFit 29 = .ok (.goto (-25), 3) := by decide +kernel
theorem dX9_howManyFit_32 : decode cX9_howManyFit 32 = .ok (.iload_n 1, 1) := by decide +kernel
theorem dX9_howManyFit_33 : decode cX9_howManyFit 33 = .ok (.ireturn, 1) := by decide +kernel
theorem dX9_leastThatFits_0 : decode cX9_leastThatFits 0 = .ok (.iconst 0, 1) := by decide +kernel
theorem dX9_leastThatFits_1 : decode cX9_leastThatFits 1 = .ok (.istore_n 1, 1) := by decide +kernel
theorem dX9_leastThatFits_2 : decode cX9_leastThatFits 2 = .ok (.iload_n 1, 1) := by decide +kernel
theorem dX9_leastThatFits_3 : decode cX9_leastThatFits 3 = .ok (.bipush 20, 2) := by decide +kernel
theorem dX9_leastThatFits_5 : decode cX9_leastThatFits 5 = .ok (.if_icmp .gt 19, 3) := by decide +kernel
theorem dX9_leastThatFits_8 : decode cX9_leastThatFits 8 = .ok (.aload_n 0, 1) := by decide +kernel
theorem dX9_leastThatFits_9 : decode cX9_leastThatFits 9 = .ok (.iload_n 1, 1) := by decide +kernel
theorem dX9_leastThatFits_10 : decode cX9_leastThatFits 10 = .ok (.invokevirtual 23, 3) := by decide +kernel
theorem dX9_leastThatFits_13 : decode cX9_leastThatFits 13 = .ok (.ifCond .eq 5, 3) := by decide +kernel
theorem dX9_leastThatFits_16 : decode cX9_leastThatFits 16 = .ok (.iload_n 1, 1) := by decide +kernel
theorem dX9_leastThatFits_17 : decode cX9_leastThatFits 17 = .ok (.ireturn, 1) := by decide +kernel
theorem dX9_leastThatFits_18 : decode cX9_leastThatFits 18 = .ok (.iinc 1 1, 3) := by decide +kernel
theorem dX9_leastThatFits_21 : decode cX9_leastThatFits 21 = .ok (.goto (-19), 3) := by decide +kernel
theorem dX9_leastThatFits_24 : decode cX9_leastThatFits 24 = .ok (.iconst (-1), 1) := by decide +kernel
theorem dX9_leastThatFits_25 : decode cX9_leastThatFits 25 = .ok (.ireturn, 1) := by decide +kernel
theorem dX9_greatestThatFits_0 : decode cX9_greatestThatFits 0 = .ok (.bipush 20, 2) := by decide +kernel
theorem dX9_greatestThatFits_2 : decode cX9_greatestThatFits 2 = .ok (.istore_n 1, 1) := by decide +kernel
theorem dX9_greatestThatFits_3 : decode cX9_greatestThatFits 3 = .ok (.iload_n 1, 1) := by decide +kernel
theorem dX9_greatestThatFits_4 : decode cX9_greatestThatFits 4 = .ok (.ifCond .lt 19, 3) := by decide +kernel
theorem dX9_greatestThatFits_7 : decode cX9_greatestThatFits 7 = .ok (.aload_n 0, 1) := by decide +kernel
theorem dX9_greatestThatFits_8 : decode cX9_greatestThatFits 8 = .ok (.iload_n 1, 1) := by decide +kernel
theorem dX9_greatestThatFits_9 : decode cX9_greatestThatFits 9 = .ok (.invokevirtual 23, 3) := by decide +kernel
theorem dX9_greatestThatFits_12 : decode cX9_greatestThatFits 12 = .ok (.ifCond .eq 5, 3) := by decide +kernel
theorem dX9_greatestThatFits_15 : decode cX9_greatestThatFits 15 = .ok (.iload_n 1, 1) := by decide +kernel
theorem dX9_greatestThatFits_16 : decode cX9_greatestThatFits 16 = .ok (.ireturn, 1) := by decide +kernel
theorem dX9_greatestThatFits_17 : decode cX9_greatestThatFits 17 = .ok (.iinc 1 (-1), 3) := by decide +kernel
theorem dX9_greatestThatFits_20 : decode cX9_greatestThatFits 20 = .ok (.goto (-17), 3) := by decide +kernel
theorem dX9_greatestThatFits_23 : decode cX9_greatestThatFits 23 = .ok (.iconst (-1), 1) := by decide +kernel
theorem dX9_greatestThatFits_24 : decode cX9_greatestThatFits 24 = .ok (.ireturn, 1) := by decide +kernel
theorem dX9_bestKind_0 : decode cX9_bestKind 0 = .ok (.iconst (-1), 1) := by decide +kernel
theorem dX9_bestKind_1 : decode cX9_bestKind 1 = .ok (.istore_n 1, 1) := by decide +kernel
theorem dX9_bestKind_2 : decode cX9_bestKind 2 = .ok (.aload_n 0, 1) := by decide +kernel
theorem dX9_bestKind_3 : decode cX9_bestKind 3 = .ok (.invokevirtual 27, 3) := by decide +kernel
theorem dX9_bestKind_6 : decode cX9_bestKind 6 = .ok (.istore_n 2, 1) := by decide +kernel
theorem dX9_bestKind_7 : decode cX9_bestKind 7 = .ok (.iconst 0, 1) := by decide +kernel
theorem dX9_bestKind_8 : decode cX9_bestKind 8 = .ok (.istore_n 3, 1) := by decide +kernel
theorem dX9_bestKind_9 : decode cX9_bestKind 9 = .ok (.iload_n 3, 1) := by decide +kernel
theorem dX9_bestKind_10 : decode cX9_bestKind 10 = .ok (.iconst 2, 1) := by decide +kernel
theorem dX9_bestKind_11 : decode cX9_bestKind 11 = .ok (.if_icmp .gt 27, 3) := by decide +kernel
theorem dX9_bestKind_14 : decode cX9_bestKind 14 = .ok (.aload_n 0, 1) := by decide +kernel
theorem dX9_bestKind_15 : decode cX9_bestKind 15 = .ok (.iload_n 3, 1) := by decide +kernel
theorem dX9_bestKind_16 : decode cX9_bestKind 16 = .ok (.invokevirtual 31, 3) := by decide +kernel
theorem dX9_bestKind_19 : decode cX9_bestKind 19 = .ok (.istore 4, 2) := by decide +kernel
theorem dX9_bestKind_21 : decode cX9_bestKind 21 = .ok (.iload 4, 2) := by decide +kernel
theorem dX9_bestKind_23 : decode cX9_bestKind 23 = .ok (.iload_n 2, 1) := by decide +kernel
theorem dX9_bestKind_24 : decode cX9_bestKind 24 = .ok (.if_icmp .ge 8, 3) := by decide +kernel
theorem dX9_bestKind_27 : decode cX9_bestKind 27 = .ok (.iload 4, 2) := by decide +kernel
theorem dX9_bestKind_29 : decode cX9_bestKind 29 = .ok (.istore_n 2, 1) := by decide +kernel
theorem dX9_bestKind_30 : decode cX9_bestKind 30 = .ok (.iload_n 3, 1) := by decide +kernel
theorem dX9_bestKind_31 : decode cX9_bestKind 31 = .ok (.istore_n 1, 1) := by decide +kernel
theorem dX9_bestKind_32 : decode cX9_bestKind 32 = .ok (.iinc 3 1, 3) := by decide +kernel
theorem dX9_bestKind_35 : decode cX9_bestKind 35 = .ok (.goto (-26), 3) := by decide +kernel
theorem dX9_bestKind_38 : decode cX9_bestKind 38 = .ok (.iload_n 1, 1) := by decide +kernel
theorem dX9_bestKind_39 : decode cX9_bestKind 39 = .ok (.ireturn, 1) := by decide +kernel
theorem dX9_greatestPart_0 : decode cX9_greatestPart 0 = .ok (.iconst 0, 1) := by decide +kernel
theorem dX9_greatestPart_1 : decode cX9_greatestPart 1 = .ok (.istore_n 2, 1) := by decide +kernel
theorem dX9_greatestPart_2 : decode cX9_greatestPart 2 = .ok (.iconst 0, 1) := by decide +kernel
theorem dX9_greatestPart_3 : decode cX9_greatestPart 3 = .ok (.istore_n 3, 1) := by decide +kernel
theorem dX9_greatestPart_4 : decode cX9_greatestPart 4 = .ok (.iload_n 3, 1) := by decide +kernel
theorem dX9_greatestPart_5 : decode cX9_greatestPart 5 = .ok (.bipush 20, 2) := by decide +kernel
theorem dX9_greatestPart_7 : decode cX9_greatestPart 7 = .ok (.if_icmp .gt 28, 3) := by decide +kernel
theorem dX9_greatestPart_10 : decode cX9_greatestPart 10 = .ok (.aload_n 0, 1) := by decide +kernel
theorem dX9_greatestPart_11 : decode cX9_greatestPart 11 = .ok (.iload_n 3, 1) := by decide +kernel
theorem dX9_greatestPart_12 : decode cX9_greatestPart 12 = .ok (.invokevirtual 23, 3) := by decide +kernel
theorem dX9_greatestPart_15 : decode cX9_greatestPart 15 = .ok (.ifCond .eq 14, 3) := by decide +kernel
theorem dX9_greatestPart_18 : decode cX9_greatestPart 18 = .ok (.iload_n 2, 1) := by decide +kernel
theorem dX9_greatestPart_19 : decode cX9_greatestPart 19 = .ok (.aload_n 0, 1) := by decide +kernel
theorem dX9_greatestPart_20 : decode cX9_greatestPart 20 = .ok (.iload_n 1, 1) := by decide +kernel
theorem dX9_greatestPart_21 : decode cX9_greatestPart 21 = .ok (.iload_n 3, 1) := by decide +kernel
theorem dX9_greatestPart_22 : decode cX9_greatestPart 22 = .ok (.invokevirtual 35, 3) := by decide +kernel
theorem dX9_greatestPart_25 : decode cX9_greatestPart 25 = .ok (.invokestatic 39, 3) := by decide +kernel
theorem dX9_greatestPart_28 : decode cX9_greatestPart 28 = .ok (.istore_n 2, 1) := by decide +kernel
theorem dX9_greatestPart_29 : decode cX9_greatestPart 29 = .ok (.iinc 3 1, 3) := by decide +kernel
theorem dX9_greatestPart_32 : decode cX9_greatestPart 32 = .ok (.goto (-28), 3) := by decide +kernel
theorem dX9_greatestPart_35 : decode cX9_greatestPart 35 = .ok (.iload_n 2, 1) := by decide +kernel
theorem dX9_greatestPart_36 : decode cX9_greatestPart 36 = .ok (.ireturn, 1) := by decide +kernel
theorem dX9_partOf_0 : decode cX9_partOf 0 = .ok (.iload_n 1, 1) := by decide +kernel
theorem dX9_partOf_1 : decode cX9_partOf 1 = .ok (.bipush 10, 2) := by decide +kernel
theorem dX9_partOf_3 : decode cX9_partOf 3 = .ok (.iload_n 2, 1) := by decide +kernel
theorem dX9_partOf_4 : decode cX9_partOf 4 = .ok (.invokestatic 19, 3) := by decide +kernel
theorem dX9_partOf_7 : decode cX9_partOf 7 = .ok (.istore_n 3, 1) := by decide +kernel
theorem dX9_partOf_8 : decode cX9_partOf 8 = .ok (.iconst 0, 1) := by decide +kernel
theorem dX9_partOf_9 : decode cX9_partOf 9 = .ok (.istore 4, 2) := by decide +kernel
theorem dX9_partOf_11 : decode cX9_partOf 11 = .ok (.iconst 0, 1) := by decide +kernel
theorem dX9_partOf_12 : decode cX9_partOf 12 = .ok (.istore 5, 2) := by decide +kernel
theorem dX9_partOf_14 : decode cX9_partOf 14 = .ok (.iload 5, 2) := by decide +kernel
theorem dX9_partOf_16 : decode cX9_partOf 16 = .ok (.bipush 20, 2) := by decide +kernel
theorem dX9_partOf_18 : decode cX9_partOf 18 = .ok (.if_icmp .gt 40, 3) := by decide +kernel
theorem dX9_partOf_21 : decode cX9_partOf 21 = .ok (.iload 4, 2) := by decide +kernel
theorem dX9_partOf_23 : decode cX9_partOf 23 = .ok (.aload_n 0, 1) := by decide +kernel
theorem dX9_partOf_24 : decode cX9_partOf 24 = .ok (.iload 5, 2) := by decide +kernel
theorem dX9_partOf_26 : decode cX9_partOf 26 = .ok (.invokevirtual 23, 3) := by decide +kernel
theorem dX9_partOf_29 : decode cX9_partOf 29 = .ok (.ifCond .eq 19, 3) := by decide +kernel
theorem dX9_partOf_32 : decode cX9_partOf 32 = .ok (.iload_n 1, 1) := by decide +kernel
theorem dX9_partOf_33 : decode cX9_partOf 33 = .ok (.bipush 10, 2) := by decide +kernel
theorem dX9_partOf_35 : decode cX9_partOf 35 = .ok (.iload 5, 2) := by decide +kernel
theorem dX9_partOf_37 : decode cX9_partOf 37 = .ok (.invokestatic 19, 3) := by decide +kernel
theorem dX9_partOf_40 : decode cX9_partOf 40 = .ok (.iload_n 3, 1) := by decide +kernel
theorem dX9_partOf_41 : decode cX9_partOf 41 = .ok (.if_icmp .ne 7, 3) := by decide +kernel
theorem dX9_partOf_44 : decode cX9_partOf 44 = .ok (.iconst 1, 1) := by decide +kernel
theorem dX9_partOf_45 : decode cX9_partOf 45 = .ok (.goto 4, 3) := by decide +kernel
theorem dX9_partOf_48 : decode cX9_partOf 48 = .ok (.iconst 0, 1) := by decide +kernel
theorem dX9_partOf_49 : decode cX9_partOf 49 = .ok (.iadd, 1) := by decide +kernel
theorem dX9_partOf_50 : decode cX9_partOf 50 = .ok (.istore 4, 2) := by decide +kernel
theorem dX9_partOf_52 : decode cX9_partOf 52 = .ok (.iinc 5 1, 3) := by decide +kernel
theorem dX9_partOf_55 : decode cX9_partOf 55 = .ok (.goto (-41), 3) := by decide +kernel
theorem dX9_partOf_58 : decode cX9_partOf 58 = .ok (.iload 4, 2) := by decide +kernel
theorem dX9_partOf_60 : decode cX9_partOf 60 = .ok (.ireturn, 1) := by decide +kernel
theorem dX10_can_0 : decode cX10_can 0 = .ok (.iconst 0, 1) := by decide +kernel
theorem dX10_can_1 : decode cX10_can 1 = .ok (.istore_n 2, 1) := by decide +kernel
theorem dX10_can_2 : decode cX10_can 2 = .ok (.iconst 0, 1) := by decide +kernel
theorem dX10_can_3 : decode cX10_can 3 = .ok (.istore_n 3, 1) := by decide +kernel
theorem dX10_can_4 : decode cX10_can 4 = .ok (.iload_n 3, 1) := by decide +kernel
theorem dX10_can_5 : decode cX10_can 5 = .ok (.aload_n 0, 1) := by decide +kernel
theorem dX10_can_6 : decode cX10_can 6 = .ok (.invokevirtual 9, 3) := by decide +kernel
theorem dX10_can_9 : decode cX10_can 9 = .ok (.if_icmp .ge 25, 3) := by decide +kernel
theorem dX10_can_12 : decode cX10_can 12 = .ok (.aload_n 0, 1) := by decide +kernel
theorem dX10_can_13 : decode cX10_can 13 = .ok (.iload_n 3, 1) := by decide +kernel
theorem dX10_can_14 : decode cX10_can 14 = .ok (.iload_n 1, 1) := by decide +kernel
theorem dX10_can_15 : decode cX10_can 15 = .ok (.iconst 0, 1) := by decide +kernel
theorem dX10_can_16 : decode cX10_can 16 = .ok (.invokevirtual 15, 3) := by decide +kernel
theorem dX10_can_19 : decode cX10_can 19 = .ok (.ifCond .eq 9, 3) := by decide +kernel
theorem dX10_can_22 : decode cX10_can 22 = .ok (.iload_n 2, 1) := by decide +kernel
theorem dX10_can_23 : decode cX10_can 23 = .ok (.iconst 1, 1) := by decide +kernel
theorem dX10_can_24 : decode cX10_can 24 = .ok (.iload_n 3, 1) := by decide +kernel
theorem dX10_can_25 : decode cX10_can 25 = .ok (.ishl, 1) := by decide +kernel
theorem dX10_can_26 : decode cX10_can 26 = .ok (.ior, 1) := by decide +kernel
theorem dX10_can_27 : decode cX10_can 27 = .ok (.istore_n 2, 1) := by decide +kernel
theorem dX10_can_28 : decode cX10_can 28 = .ok (.iinc 3 1, 3) := by decide +kernel
theorem dX10_can_31 : decode cX10_can 31 = .ok (.goto (-27), 3) := by decide +kernel
theorem dX10_can_34 : decode cX10_can 34 = .ok (.iload_n 2, 1) := by decide +kernel
theorem dX10_can_35 : decode cX10_can 35 = .ok (.ireturn, 1) := by decide +kernel
theorem dX10_firstYear_0 : decode cX10_firstYear 0 = .ok (.iconst 0, 1) := by decide +kernel
theorem dX10_firstYear_1 : decode cX10_firstYear 1 = .ok (.istore_n 3, 1) := by decide +kernel
theorem dX10_firstYear_2 : decode cX10_firstYear 2 = .ok (.iload_n 3, 1) := by decide +kernel
theorem dX10_firstYear_3 : decode cX10_firstYear 3 = .ok (.sipush 200, 3) := by decide +kernel
theorem dX10_firstYear_6 : decode cX10_firstYear 6 = .ok (.if_icmp .gt 21, 3) := by decide +kernel
theorem dX10_firstYear_9 : decode cX10_firstYear 9 = .ok (.aload_n 0, 1) := by decide +kernel
theorem dX10_firstYear_10 : decode cX10_firstYear 10 = .ok (.iload_n 2, 1) := by decide +kernel
theorem dX10_firstYear_11 : decode cX10_firstYear 11 = .ok (.iload_n 1, 1) := by decide +kernel
theorem dX10_firstYear_12 : decode cX10_firstYear 12 = .ok (.iload_n 3, 1) := by decide +kernel
theorem dX10_firstYear_13 : decode cX10_firstYear 13 = .ok (.invokevirtual 15, 3) := by decide +kernel
theorem dX10_firstYear_16 : decode cX10_firstYear 16 = .ok (.ifCond .eq 5, 3) := by decide +kernel
theorem dX10_firstYear_19 : decode cX10_firstYear 19 = .ok (.iload_n 3, 1) := by decide +kernel
theorem dX10_firstYear_20 : decode cX10_firstYear 20 = .ok (.ireturn, 1) := by decide +kernel
theorem dX10_firstYear_21 : decode cX10_firstYear 21 = .ok (.iinc 3 1, 3) := by decide +kernel
theorem dX10_firstYear_24 : decode cX10_firstYear 24 = .ok (.goto (-22), 3) := by decide +kernel
theorem dX10_firstYear_27 : decode cX10_firstYear 27 = .ok (.iconst (-1), 1) := by decide +kernel
theorem dX10_firstYear_28 : decode cX10_firstYear 28 = .ok (.ireturn, 1) := by decide +kernel
theorem dX10_safeAnswer_0 : decode cX10_safeAnswer 0 = .ok (.iconst 0, 1) := by decide +kernel
theorem dX10_safeAnswer_1 : decode cX10_safeAnswer 1 = .ok (.istore_n 3, 1) := by decide +kernel
theorem dX10_safeAnswer_2 : decode cX10_safeAnswer 2 = .ok (.iconst 0, 1) := by decide +kernel
theorem dX10_safeAnswer_3 : decode cX10_safeAnswer 3 = .ok (.istore 4, 2) := by decide +kernel
theorem dX10_safeAnswer_5 : decode cX10_safeAnswer 5 = .ok (.iload 4, 2) := by decide +kernel
theorem dX10_safeAnswer_7 : decode cX10_safeAnswer 7 = .ok (.aload_n 0, 1) := by decide +kernel
theorem dX10_safeAnswer_8 : decode cX10_safeAnswer 8 = .ok (.invokevirtual 9, 3) := by decide +kernel
theorem dX10_safeAnswer_11 : decode cX10_safeAnswer 11 = .ok (.if_icmp .ge 42, 3) := by decide +kernel
theorem dX10_safeAnswer_14 : decode cX10_safeAnswer 14 = .ok (.iload_n 2, 1) := by decide +kernel
theorem dX10_safeAnswer_15 : decode cX10_safeAnswer 15 = .ok (.iload 4, 2) := by decide +kernel
theorem dX10_safeAnswer_17 : decode cX10_safeAnswer 17 = .ok (.ishr, 1) := by decide +kernel
theorem dX10_safeAnswer_18 : decode cX10_safeAnswer 18 = .ok (.iconst 1, 1) := by decide +kernel
theorem dX10_safeAnswer_19 : decode cX10_safeAnswer 19 = .ok (.iand, 1) := by decide +kernel
theorem dX10_safeAnswer_20 : decode cX10_safeAnswer 20 = .ok (.iconst 1, 1) := by decide +kernel
theorem dX10_safeAnswer_21 : decode cX10_safeAnswer 21 = .ok (.if_icmp .ne 26, 3) := by decide +kernel
theorem dX10_safeAnswer_24 : decode cX10_safeAnswer 24 = .ok (.aload_n 0, 1) := by decide +kernel
theorem dX10_safeAnswer_25 : decode cX10_safeAnswer 25 = .ok (.iload 4, 2) := by decide +kernel
theorem dX10_safeAnswer_27 : decode cX10_safeAnswer 27 = .ok (.iload_n 1, 1) := by decide +kernel
theorem dX10_safeAnswer_28 : decode cX10_safeAnswer 28 = .ok (.invokevirtual 21, 3) := by decide +kernel
theorem dX10_safeAnswer_31 : decode cX10_safeAnswer 31 = .ok (.ifCond .eq 16, 3) := by decide +kernel
theorem dX10_safeAnswer_34 : decode cX10_safeAnswer 34 = .ok (.iload_n 3, 1) := by decide +kernel
theorem dX10_safeAnswer_35 : decode cX10_safeAnswer 35 = .ok (.aload_n 0, 1) := by decide +kernel
theorem dX10_safeAnswer_36 : decode cX10_safeAnswer 36 = .ok (.iload 4, 2) := by decide +kernel
theorem dX10_safeAnswer_38 : decode cX10_safeAnswer 38 = .ok (.iload_n 1, 1) := by decide +kernel
theorem dX10_safeAnswer_39 : decode cX10_safeAnswer 39 = .ok (.iconst 0, 1) := by decide +kernel
theorem dX10_safeAnswer_40 : decode cX10_safeAnswer 40 = .ok (.invokevirtual 25, 3) := by decide +kernel
theorem dX10_safeAnswer_43 : decode cX10_safeAnswer 43 = .ok (.invokestatic 29, 3) := by decide +kernel
theorem dX10_safeAnswer_46 : decode cX10_safeAnswer 46 = .ok (.istore_n 3, 1) := by decide +kernel
theorem dX10_safeAnswer_47 : decode cX10_safeAnswer 47 = .ok (.iinc 4 1, 3) := by decide +kernel
theorem dX10_safeAnswer_50 : decode cX10_safeAnswer 50 = .ok (.goto (-45), 3) := by decide +kernel
theorem dX10_safeAnswer_53 : decode cX10_safeAnswer 53 = .ok (.iload_n 3, 1) := by decide +kernel
theorem dX10_safeAnswer_54 : decode cX10_safeAnswer 54 = .ok (.ireturn, 1) := by decide +kernel
theorem dX10_plain_0 : decode cX10_plain 0 = .ok (.iconst 1, 1) := by decide +kernel
theorem dX10_plain_1 : decode cX10_plain 1 = .ok (.aload_n 0, 1) := by decide +kernel
theorem dX10_plain_2 : decode cX10_plain 2 = .ok (.invokevirtual 9, 3) := by decide +kernel
theorem dX10_plain_5 : decode cX10_plain 5 = .ok (.ishl, 1) := by decide +kernel
theorem dX10_plain_6 : decode cX10_plain 6 = .ok (.iconst 1, 1) := by decide +kernel
theorem dX10_plain_7 : decode cX10_plain 7 = .ok (.isub, 1) := by decide +kernel
theorem dX10_plain_8 : decode cX10_plain 8 = .ok (.istore_n 1, 1) := by decide +kernel
theorem dX10_plain_9 : decode cX10_plain 9 = .ok (.iconst 0, 1) := by decide +kernel
theorem dX10_plain_10 : decode cX10_plain 10 = .ok (.istore_n 2, 1) := by decide +kernel
theorem dX10_plain_11 : decode cX10_plain 11 = .ok (.iconst 0, 1) := by decide +kernel
theorem dX10_plain_12 : decode cX10_plain 12 = .ok (.istore_n 3, 1) := by decide +kernel
theorem dX10_plain_13 : decode cX10_plain 13 = .ok (.iload_n 3, 1) := by decide +kernel
theorem dX10_plain_14 : decode cX10_plain 14 = .ok (.aload_n 0, 1) := by decide +kernel
theorem dX10_plain_15 : decode cX10_plain 15 = .ok (.invokevirtual 35, 3) := by decide +kernel
theorem dX10_plain_18 : decode cX10_plain 18 = .ok (.if_icmp .ge 32, 3) := by decide +kernel
theorem dX10_plain_21 : decode cX10_plain 21 = .ok (.aload_n 0, 1) := by decide +kernel
theorem dX10_plain_22 : decode cX10_plain 22 = .ok (.iload_n 3, 1) := by decide +kernel
theorem dX10_plain_23 : decode cX10_plain 23 = .ok (.invokevirtual 38, 3) := by decide +kernel
theorem dX10_plain_26 : decode cX10_plain 26 = .ok (.ifCond .eq 18, 3) := by decide +kernel
theorem dX10_plain_29 : decode cX10_plain 29 = .ok (.aload_n 0, 1) := by decide +kernel
theorem dX10_plain_30 : decode cX10_plain 30 = .ok (.iload_n 3, 1) := by decide +kernel
theorem dX10_plain_31 : decode cX10_plain 31 = .ok (.iload_n 1, 1) := by decide +kernel
theorem dX10_plain_32 : decode cX10_plain 32 = .ok (.invokestatic 42, 3) := by decide +kernel
theorem dX10_plain_35 : decode cX10_plain 35 = .ok (.ifCond .ne 9, 3) := by decide +kernel
theorem dX10_plain_38 : decode cX10_plain 38 = .ok (.iload_n 2, 1) := by decide +kernel
theorem dX10_plain_39 : decode cX10_plain 39 = .ok (.iconst 1, 1) := by decide +kernel
theorem dX10_plain_40 : decode cX10_plain 40 = .ok (.iload_n 3, 1) := by decide +kernel
theorem dX10_plain_41 : decode cX10_plain 41 = .ok (.ishl, 1) := by decide +kernel
theorem dX10_plain_42 : decode cX10_plain 42 = .ok (.ior, 1) := by decide +kernel
theorem dX10_plain_43 : decode cX10_plain 43 = .ok (.istore_n 2, 1) := by decide +kernel
theorem dX10_plain_44 : decode cX10_plain 44 = .ok (.iinc 3 1, 3) := by decide +kernel
theorem dX10_plain_47 : decode cX10_plain 47 = .ok (.goto (-34), 3) := by decide +kernel
theorem dX10_plain_50 : decode cX10_plain 50 = .ok (.iload_n 2, 1) := by decide +kernel
theorem dX10_plain_51 : decode cX10_plain 51 = .ok (.ireturn, 1) := by decide +kernel
theorem dX10_firmest_0 : decode cX10_firmest 0 = .ok (.iconst (-1), 1) := by decide +kernel
theorem dX10_firmest_1 : decode cX10_firmest 1 = .ok (.istore_n 1, 1) := by decide +kernel
theorem dX10_firmest_2 : decode cX10_firmest 2 = .ok (.iconst 0, 1) := by decide +kernel
theorem dX10_firmest_3 : decode cX10_firmest 3 = .ok (.istore_n 2, 1) := by decide +kernel
theorem dX10_firmest_4 : decode cX10_firmest 4 = .ok (.iload_n 2, 1) := by decide +kernel
theorem dX10_firmest_5 : decode cX10_firmest 5 = .ok (.aload_n 0, 1) := by decide +kernel
theorem dX10_firmest_6 : decode cX10_firmest 6 = .ok (.invokevirtual 35, 3) := by decide +kernel
theorem dX10_firmest_9 : decode cX10_firmest 9 = .ok (.if_icmp .ge 38, 3) := by decide +kernel
theorem dX10_firmest_12 : decode cX10_firmest 12 = .ok (.aload_n 0, 1) := by decide +kernel
theorem dX10_firmest_13 : decode cX10_firmest 13 = .ok (.iload_n 2, 1) := by decide +kernel
theorem dX10_firmest_14 : decode cX10_firmest 14 = .ok (.invokevirtual 46, 3) := by decide +kernel
theorem dX10_firmest_17 : decode cX10_firmest 17 = .ok (.iconst 1, 1) := by decide +kernel
theorem dX10_firmest_18 : decode cX10_firmest 18 = .ok (.if_icmp .ne 23, 3) := by decide +kernel
theorem dX10_firmest_21 : decode cX10_firmest 21 = .ok (.iload_n 1, 1) := by decide +kernel
theorem dX10_firmest_22 : decode cX10_firmest 22 = .ok (.iconst (-1), 1) := by decide +kernel
theorem dX10_firmest_23 : decode cX10_firmest 23 = .ok (.if_icmp .eq 16, 3) := by decide +kernel
theorem dX10_firmest_26 : decode cX10_firmest 26 = .ok (.aload_n 0, 1) := by decide +kernel
theorem dX10_firmest_27 : decode cX10_firmest 27 = .ok (.iload_n 2, 1) := by decide +kernel
theorem dX10_firmest_28 : decode cX10_firmest 28 = .ok (.invokevirtual 50, 3) := by decide +kernel
theorem dX10_firmest_31 : decode cX10_firmest 31 = .ok (.aload_n 0, 1) := by decide +kernel
theorem dX10_firmest_32 : decode cX10_firmest 32 = .ok (.iload_n 1, 1) := by decide +kernel
theorem dX10_firmest_33 : decode cX10_firmest 33 = .ok (.invokevirtual 50, 3) := by decide +kernel
theorem dX10_firmest_36 : decode cX10_firmest 36 = .ok (.if_icmp .le 5, 3) := by decide +kernel
theorem dX10_firmest_39 : decode cX10_firmest 39 = .ok (.iload_n 2, 1) := by decide +kernel
theorem dX10_firmest_40 : decode cX10_firmest 40 = .ok (.istore_n 1, 1) := by decide +kernel
theorem dX10_firmest_41 : decode cX10_firmest 41 = .ok (.iinc 2 1, 3) := by decide +kernel
theorem dX10_firmest_44 : decode cX10_firmest 44 = .ok (.goto (-40), 3) := by decide +kernel
theorem dX10_firmest_47 : decode cX10_firmest 47 = .ok (.iload_n 1, 1) := by decide +kernel
theorem dX10_firmest_48 : decode cX10_firmest 48 = .ok (.ireturn, 1) := by decide +kernel
theorem dX10_weakest_0 : decode cX10_weakest 0 = .ok (.iconst (-1), 1) := by decide +kernel
theorem dX10_weakest_1 : decode cX10_weakest 1 = .ok (.istore_n 2, 1) := by decide +kernel
theorem dX10_weakest_2 : decode cX10_weakest 2 = .ok (.iconst 0, 1) := by decide +kernel
theorem dX10_weakest_3 : decode cX10_weakest 3 = .ok (.istore_n 3, 1) := by decide +kernel
theorem dX10_weakest_4 : decode cX10_weakest 4 = .ok (.iload_n 3, 1) := by decide +kernel
theorem dX10_weakest_5 : decode cX10_weakest 5 = .ok (.aload_n 0, 1) := by decide +kernel
theorem dX10_weakest_6 : decode cX10_weakest 6 = .ok (.invokevirtual 9, 3) := by decide +kernel
theorem dX10_weakest_9 : decode cX10_weakest 9 = .ok (.if_icmp .ge 33, 3) := by decide +kernel
theorem dX10_weakest_12 : decode cX10_weakest 12 = .ok (.iload_n 2, 1) := by decide +kernel
theorem dX10_weakest_13 : decode cX10_weakest 13 = .ok (.iconst (-1), 1) := by decide +kernel
theorem dX10_weakest_14 : decode cX10_weakest 14 = .ok (.if_icmp .eq 20, 3) := by decide +kernel
theorem dX10_weakest_17 : decode cX10_weakest 17 = .ok (.aload_n 0, 1) := by decide +kernel
theorem dX10_weakest_18 : decode cX10_weakest 18 = .ok (.iload_n 3, 1) := by decide +kernel
theorem dX10_weakest_19 : decode cX10_weakest 19 = .ok (.iload_n 1, 1) := by decide +kernel
theorem dX10_weakest_20 : decode cX10_weakest 20 = .ok (.iconst 0, 1) := by decide +kernel
theorem dX10_weakest_21 : decode cX10_weakest 21 = .ok (.invokevirtual 25, 3) := by decide +kernel
theorem dX10_weakest_24 : decode cX10_weakest 24 = .ok (.aload_n 0, 1) := by decide +kernel
theorem dX10_weakest_25 : decode cX10_weakest 25 = .ok (.iload_n 2, 1) := by decide +kernel
theorem dX10_weakest_26 : decode cX10_weakest 26 = .ok (.iload_n 1, 1) := by decide +kernel
theorem dX10_weakest_27 : decode cX10_weakest 27 = .ok (.iconst 0, 1) := by decide +kernel
theorem dX10_weakest_28 : decode cX10_weakest 28 = .ok (.invokevirtual 25, 3) := by decide +kernel
theorem dX10_weakest_31 : decode cX10_weakest 31 = .ok (.if_icmp .ge 5, 3) := by decide +kernel
theorem dX10_weakest_34 : decode cX10_weakest 34 = .ok (.iload_n 3, 1) := by decide +kernel
theorem dX10_weakest_35 : decode cX10_weakest 35 = .ok (.istore_n 2, 1) := by decide +kernel
theorem dX10_weakest_36 : decode cX10_weakest 36 = .ok (.iinc 3 1, 3) := by decide +kernel
theorem dX10_weakest_39 : decode cX10_weakest 39 = .ok (.goto (-35), 3) := by decide +kernel
theorem dX10_weakest_42 : decode cX10_weakest 42 = .ok (.iload_n 2, 1) := by decide +kernel
theorem dX10_weakest_43 : decode cX10_weakest 43 = .ok (.ireturn, 1) := by decide +kernel
theorem dX11_init_0 : decode cX11_init 0 = .ok (.aload_n 0, 1) := by decide +kernel
theorem dX11_init_1 : decode cX11_init 1 = .ok (.invokespecial 1, 3) := by decide +kernel
theorem dX11_init_4 : decode cX11_init 4 = .ok (.aload_n 0, 1) := by decide +kernel
theorem dX11_init_5 : decode cX11_init 5 = .ok (.new 7, 3) := by decide +kernel
theorem dX11_init_8 : decode cX11_init 8 = .ok (.dup, 1) := by decide +kernel
theorem dX11_init_9 : decode cX11_init 9 = .ok (.invokespecial 9, 3) := by decide +kernel
theorem dX11_init_12 : decode cX11_init 12 = .ok (.putfield 10, 3) := by decide +kernel
theorem dX11_init_15 : decode cX11_init 15 = .ok (.aload_n 0, 1) := by decide +kernel
theorem dX11_init_16 : decode cX11_init 16 = .ok (.new 16, 3) := by decide +kernel
theorem dX11_init_19 : decode cX11_init 19 = .ok (.dup, 1) := by decide +kernel
theorem dX11_init_20 : decode cX11_init 20 = .ok (.invokespecial 18, 3) := by decide +kernel
theorem dX11_init_23 : decode cX11_init 23 = .ok (.putfield 19, 3) := by decide +kernel
theorem dX11_init_26 : decode cX11_init 26 = .ok (.aload_n 0, 1) := by decide +kernel
theorem dX11_init_27 : decode cX11_init 27 = .ok (.new 23, 3) := by decide +kernel
theorem dX11_init_30 : decode cX11_init 30 = .ok (.dup, 1) := by decide +kernel
theorem dX11_init_31 : decode cX11_init 31 = .ok (.invokespecial 25, 3) := by decide +kernel
theorem dX11_init_34 : decode cX11_init 34 = .ok (.putfield 26, 3) := by decide +kernel
theorem dX11_init_37 : decode cX11_init 37 = .ok (.aload_n 0, 1) := by decide +kernel
theorem dX11_init_38 : decode cX11_init 38 = .ok (.new 30, 3) := by decide +kernel
theorem dX11_init_41 : decode cX11_init 41 = .ok (.dup, 1) := by decide +kernel
theorem dX11_init_42 : decode cX11_init 42 = .ok (.invokespecial 32, 3) := by decide +kernel
theorem dX11_init_45 : decode cX11_init 45 = .ok (.putfield 33, 3) := by decide +kernel
theorem dX11_init_48 : decode cX11_init 48 = .ok (.aload_n 0, 1) := by decide +kernel
theorem dX11_init_49 : decode cX11_init 49 = .ok (.new 37, 3) := by decide +kernel
theorem dX11_init_52 : decode cX11_init 52 = .ok (.dup, 1) := by decide +kernel
theorem dX11_init_53 : decode cX11_init 53 = .ok (.invokespecial 39, 3) := by decide +kernel
theorem dX11_init_56 : decode cX11_init 56 = .ok (.putfield 40, 3) := by decide +kernel
theorem dX11_init_59 : decode cX11_init 59 = .ok (.aload_n 0, 1) := by decide +kernel
theorem dX11_init_60 : decode cX11_init 60 = .ok (.new 44, 3) := by decide +kernel
theorem dX11_init_63 : decode cX11_init 63 = .ok (.dup, 1) := by decide +kernel
theorem dX11_init_64 : decode cX11_init 64 = .ok (.invokespecial 46, 3) := by decide +kernel
theorem dX11_init_67 : decode cX11_init 67 = .ok (.putfield 47, 3) := by decide +kernel
theorem dX11_init_70 : decode cX11_init 70 = .ok (.aload_n 0, 1) := by decide +kernel
theorem dX11_init_71 : decode cX11_init 71 = .ok (.new 51, 3) := by decide +kernel
theorem dX11_init_74 : decode cX11_init 74 = .ok (.dup, 1) := by decide +kernel
theorem dX11_init_75 : decode cX11_init 75 = .ok (.invokespecial 53, 3) := by decide +kernel
theorem dX11_init_78 : decode cX11_init 78 = .ok (.putfield 54, 3) := by decide +kernel
theorem dX11_init_81 : decode cX11_init 81 = .ok (.aload_n 0, 1) := by decide +kernel
theorem dX11_init_82 : decode cX11_init 82 = .ok (.new 58, 3) := by decide +kernel
theorem dX11_init_85 : decode cX11_init 85 = .ok (.dup, 1) := by decide +kernel
theorem dX11_init_86 : decode cX11_init 86 = .ok (.invokespecial 60, 3) := by decide +kernel
theorem dX11_init_89 : decode cX11_init 89 = .ok (.putfield 61, 3) := by decide +kernel
theorem dX11_init_92 : decode cX11_init 92 = .ok (.aload_n 0, 1) := by decide +kernel
theorem dX11_init_93 : decode cX11_init 93 = .ok (.new 65, 3) := by decide +kernel
theorem dX11_init_96 : decode cX11_init 96 = .ok (.dup, 1) := by decide +kernel
theorem dX11_init_97 : decode cX11_init 97 = .ok (.invokespecial 67, 3) := by decide +kernel
theorem dX11_init_100 : decode cX11_init 100 = .ok (.putfield 68, 3) := by decide +kernel
theorem dX11_init_103 : decode cX11_init 103 = .ok (.aload_n 0, 1) := by decide +kernel
theorem dX11_init_104 : decode cX11_init 104 = .ok (.new 72, 3) := by decide +kernel
theorem dX11_init_107 : decode cX11_init 107 = .ok (.dup, 1) := by decide +kernel
theorem dX11_init_108 : decode cX11_init 108 = .ok (.invokespecial 74, 3) := by decide +kernel
theorem dX11_init_111 : decode cX11_init 111 = .ok (.putfield 75, 3) := by decide +kernel
theorem dX11_init_114 : decode cX11_init 114 = .ok (.return_, 1) := by decide +kernel
theorem dX11_feed_0 : decode cX11_feed 0 = .ok (.iload_n 1, 1) := by decide +kernel
theorem dX11_feed_1 : decode cX11_feed 1 = .ok (.iconst 0, 1) := by decide +kernel
theorem dX11_feed_2 : decode cX11_feed 2 = .ok (.sipush 255, 3) := by decide +kernel
theorem dX11_feed_5 : decode cX11_feed 5 = .ok (.invokestatic 79, 3) := by decide +kernel
theorem dX11_feed_8 : decode cX11_feed 8 = .ok (.ifCond .eq 6, 3) := by decide +kernel
theorem dX11_feed_11 : decode cX11_feed 11 = .ok (.ldc 83, 2) := by decide +kernel
theorem dX11_feed_13 : decode cX11_feed 13 = .ok (.ireturn, 1) := by decide +kernel
theorem dX11_feed_14 : decode cX11_feed 14 = .ok (.aload_n 0, 1) := by decide +kernel
theorem dX11_feed_15 : decode cX11_feed 15 = .ok (.getfield 19, 3) := by decide +kernel
theorem dX11_feed_18 : decode cX11_feed 18 = .ok (.invokevirtual 84, 3) := by decide +kernel
theorem dX11_feed_21 : decode cX11_feed 21 = .ok (.ifCond .eq 8, 3) := by decide +kernel
theorem dX11_feed_24 : decode cX11_feed 24 = .ok (.ldc 88, 2) := by decide +kernel
theorem dX11_feed_26 : decode cX11_feed 26 = .ok (.goto 11, 3) := by decide +kernel
theorem dX11_feed_29 : decode cX11_feed 29 = .ok (.aload_n 0, 1) := by decide +kernel
theorem dX11_feed_30 : decode cX11_feed 30 = .ok (.getfield 19, 3) := by decide +kernel
theorem dX11_feed_33 : decode cX11_feed 33 = .ok (.iload_n 1, 1) := by decide +kernel
theorem dX11_feed_34 : decode cX11_feed 34 = .ok (.invokevirtual 89, 3) := by decide +kernel
theorem dX11_feed_37 : decode cX11_feed 37 = .ok (.ireturn, 1) := by decide +kernel
theorem dX11_deanery_0 : decode cX11_deanery 0 = .ok (.aload_n 0, 1) := by decide +kernel
theorem dX11_deanery_1 : decode cX11_deanery 1 = .ok (.getfield 19, 3) := by decide +kernel
theorem dX11_deanery_4 : decode cX11_deanery 4 = .ok (.invokevirtual 93, 3) := by decide +kernel
theorem dX11_deanery_7 : decode cX11_deanery 7 = .ok (.istore_n 1, 1) := by decide +kernel
theorem dX11_deanery_8 : decode cX11_deanery 8 = .ok (.iload_n 1, 1) := by decide +kernel
theorem dX11_deanery_9 : decode cX11_deanery 9 = .ok (.ifCond .eq 8, 3) := by decide +kernel
theorem dX11_deanery_12 : decode cX11_deanery 12 = .ok (.bipush (-10), 2) := by decide +kernel
theorem dX11_deanery_14 : decode cX11_deanery 14 = .ok (.iload_n 1, 1) := by decide +kernel
theorem dX11_deanery_15 : decode cX11_deanery 15 = .ok (.isub, 1) := by decide +kernel
theorem dX11_deanery_16 : decode cX11_deanery 16 = .ok (.ireturn, 1) := by decide +kernel
theorem dX11_deanery_17 : decode cX11_deanery 17 = .ok (.aload_n 0, 1) := by decide +kernel
theorem dX11_deanery_18 : decode cX11_deanery 18 = .ok (.getfield 10, 3) := by decide +kernel
theorem dX11_deanery_21 : decode cX11_deanery 21 = .ok (.aload_n 0, 1) := by decide +kernel
theorem dX11_deanery_22 : decode cX11_deanery 22 = .ok (.getfield 19, 3) := by decide +kernel
theorem dX11_deanery_25 : decode cX11_deanery 25 = .ok (.getfield 97, 3) := by decide +kernel
theorem dX11_deanery_28 : decode cX11_deanery 28 = .ok (.getfield 100, 3) := by decide +kernel
theorem dX11_deanery_31 : decode cX11_deanery 31 = .ok (.iconst 0, 1) := by decide +kernel
theorem dX11_deanery_32 : decode cX11_deanery 32 = .ok (.invokevirtual 104, 3) := by decide +kernel
theorem dX11_deanery_35 : decode cX11_deanery 35 = .ok (.aload_n 0, 1) := by decide +kernel
theorem dX11_deanery_36 : decode cX11_deanery 36 = .ok (.getfield 26, 3) := by decide +kernel
theorem dX11_deanery_39 : decode cX11_deanery 39 = .ok (.invokevirtual 108, 3) := by decide +kernel
theorem dX11_deanery_42 : decode cX11_deanery 42 = .ok (.aload_n 0, 1) := by decide +kernel
theorem dX11_deanery_43 : decode cX11_deanery 43 = .ok (.getfield 33, 3) := by decide +kernel
theorem dX11_deanery_46 : decode cX11_deanery 46 = .ok (.invokevirtual 111, 3) := by decide +kernel
theorem dX11_deanery_49 : decode cX11_deanery 49 = .ok (.aload_n 0, 1) := by decide +kernel
theorem dX11_deanery_50 : decode cX11_deanery 50 = .ok (.getfield 68, 3) := by decide +kernel
theorem dX11_deanery_53 : decode cX11_deanery 53 = .ok (.invokevirtual 112, 3) := by decide +kernel
theorem dX11_deanery_56 : decode cX11_deanery 56 = .ok (.aload_n 0, 1) := by decide +kernel
theorem dX11_deanery_57 : decode cX11_deanery 57 = .ok (.getfield 75, 3) := by decide +kernel
theorem dX11_deanery_60 : decode cX11_deanery 60 = .ok (.invokevirtual 115, 3) := by decide +kernel
theorem dX11_deanery_63 : decode cX11_deanery 63 = .ok (.aload_n 0, 1) := by decide +kernel
theorem dX11_deanery_64 : decode cX11_deanery 64 = .ok (.getfield 10, 3) := by decide +kernel
theorem dX11_deanery_67 : decode cX11_deanery 67 = .ok (.invokevirtual 116, 3) := by decide +kernel
theorem dX11_deanery_70 : decode cX11_deanery 70 = .ok (.ireturn, 1) := by decide +kernel
theorem dX11_fault_0 : decode cX11_fault 0 = .ok (.aload_n 0, 1) := by decide +kernel
theorem dX11_fault_1 : decode cX11_fault 1 = .ok (.getfield 19, 3) := by decide +kernel
theorem dX11_fault_4 : decode cX11_fault 4 = .ok (.getfield 119, 3) := by decide +kernel
theorem dX11_fault_7 : decode cX11_fault 7 = .ok (.ireturn, 1) := by decide +kernel
theorem dX11_told_0 : decode cX11_told 0 = .ok (.iload_n 1, 1) := by decide +kernel
theorem dX11_told_1 : decode cX11_told 1 = .ok (.tableswitch 214 0 15 #[79, 87, 95, 103, 111, 119, 128, 137, 146, 154, 162, 170, 178, 190, 198, 206], 79) := by decide +kernel
theorem dX11_told_80 : decode cX11_told 80 = .ok (.aload_n 0, 1) := by decide +kernel
theorem dX11_told_81 : decode cX11_told 81 = .ok (.getfield 10, 3) := by decide +kernel
theorem dX11_told_84 : decode cX11_told 84 = .ok (.invokevirtual 123, 3) := by decide +kernel
theorem dX11_told_87 : decode cX11_told 87 = .ok (.ireturn, 1) := by decide +kernel
theorem dX11_told_88 : decode cX11_told 88 = .ok (.aload_n 0, 1) := by decide +kernel
theorem dX11_told_89 : decode cX11_told 89 = .ok (.getfield 10, 3) := by decide +kernel
theorem dX11_told_92 : decode cX11_told 92 = .ok (.invokevirtual 116, 3) := by decide +kernel
theorem dX11_told_95 : decode cX11_told 95 = .ok (.ireturn, 1) := by decide +kernel
theorem dX11_told_96 : decode cX11_told 96 = .ok (.aload_n 0, 1) := by decide +kernel
theorem dX11_told_97 : decode cX11_told 97 = .ok (.getfield 10, 3) := by decide +kernel
theorem dX11_told_100 : decode cX11_told 100 = .ok (.invokevirtual 126, 3) := by decide +kernel
theorem dX11_told_103 : decode cX11_told 103 = .ok (.ireturn, 1) := by decide +kernel
theorem dX11_told_104 : decode cX11_told 104 = .ok (.aload_n 0, 1) := by decide +kernel
theorem dX11_told_105 : decode cX11_told 105 = .ok (.getfield 19, 3) := by decide +kernel
theorem dX11_told_108 : decode cX11_told 108 = .ok (.getfield 129, 3) := by decide +kernel
theorem dX11_told_111 : decode cX11_told 111 = .ok (.ireturn, 1) := by decide +kernel
theorem dX11_told_112 : decode cX11_told 112 = .ok (.aload_n 0, 1) := by decide +kernel
theorem dX11_told_113 : decode cX11_told 113 = .ok (.getfield 10, 3) := by decide +kernel
theorem dX11_told_116 : decode cX11_told 116 = .ok (.invokevirtual 132, 3) := by decide +kernel
theorem dX11_told_119 : decode cX11_told 119 = .ok (.ireturn, 1) := by decide +kernel
theorem dX11_told_120 : decode cX11_told 120 = .ok (.aload_n 0, 1) := by decide +kernel
theorem dX11_told_121 : decode cX11_told 121 = .ok (.getfield 10, 3) := by decide +kernel
theorem dX11_told_124 : decode cX11_told 124 = .ok (.iconst 0, 1) := by decide +kernel
theorem dX11_told_125 : decode cX11_told 125 = .ok (.invokevirtual 135, 3) := by decide +kernel
theorem dX11_told_128 : decode cX11_told 128 = .ok (.ireturn, 1) := by decide +kernel
theorem dX11_told_129 : decode cX11_told 129 = .ok (.aload_n 0, 1) := by decide +kernel
theorem dX11_told_130 : decode cX11_told 130 = .ok (.getfield 10, 3) := by decide +kernel
