theorem dX12_stand_9 : decode cX12_stand 9 = .ok (.iload_n 2, 1) := by decide +kernel
theorem dX12_stand_10 : decode cX12_stand 10 = .ok (.invokevirtual 173, 3) := by decide +kernel
theorem dX12_stand_13 : decode cX12_stand 13 = .ok (.ifCond .ne 6, 3) := by decide +kernel
theorem dX12_stand_16 : decode cX12_stand 16 = .ok (.ldc 176, 2) := by decide +kernel
theorem dX12_stand_18 : decode cX12_stand 18 = .ok (.ireturn, 1) := by decide +kernel
theorem dX12_stand_19 : decode cX12_stand 19 = .ok (.aload_n 0, 1) := by decide +kernel
theorem dX12_stand_20 : decode cX12_stand 20 = .ok (.iload_n 1, 1) := by decide +kernel
theorem dX12_stand_21 : decode cX12_stand 21 = .ok (.iload_n 2, 1) := by decide +kernel
theorem dX12_stand_22 : decode cX12_stand 22 = .ok (.invokevirtual 189, 3) := by decide +kernel
theorem dX12_stand_25 : decode cX12_stand 25 = .ok (.ifCond .ne 6, 3) := by decide +kernel
theorem dX12_stand_28 : decode cX12_stand 28 = .ok (.ldc 192, 2) := by decide +kernel
theorem dX12_stand_30 : decode cX12_stand 30 = .ok (.ireturn, 1) := by decide +kernel
theorem dX12_stand_31 : decode cX12_stand 31 = .ok (.aload_n 0, 1) := by decide +kernel
theorem dX12_stand_32 : decode cX12_stand 32 = .ok (.invokevirtual 193, 3) := by decide +kernel
theorem dX12_stand_35 : decode cX12_stand 35 = .ok (.aload_n 0, 1) := by decide +kernel
theorem dX12_stand_36 : decode cX12_stand 36 = .ok (.aload_n 0, 1) := by decide +kernel
theorem dX12_stand_37 : decode cX12_stand 37 = .ok (.getfield 16, 3) := by decide +kernel
theorem dX12_stand_40 : decode cX12_stand 40 = .ok (.iload_n 1, 1) := by decide +kernel
theorem dX12_stand_41 : decode cX12_stand 41 = .ok (.iload_n 2, 1) := by decide +kernel
theorem dX12_stand_42 : decode cX12_stand 42 = .ok (.invokevirtual 196, 3) := by decide +kernel
theorem dX12_stand_45 : decode cX12_stand 45 = .ok (.ifCond .eq 7, 3) := by decide +kernel
theorem dX12_stand_48 : decode cX12_stand 48 = .ok (.iconst 1, 1) := by decide +kernel
theorem dX12_stand_49 : decode cX12_stand 49 = .ok (.goto 4, 3) := by decide +kernel
theorem dX12_stand_52 : decode cX12_stand 52 = .ok (.iconst 0, 1) := by decide +kernel
theorem dX12_stand_53 : decode cX12_stand 53 = .ok (.ireturn, 1) := by decide +kernel
theorem dX12_yearGoes_0 : decode cX12_yearGoes 0 = .ok (.iconst 0, 1) := by decide +kernel
theorem dX12_yearGoes_1 : decode cX12_yearGoes 1 = .ok (.istore_n 2, 1) := by decide +kernel
theorem dX12_yearGoes_2 : decode cX12_yearGoes 2 = .ok (.iload_n 2, 1) := by decide +kernel
theorem dX12_yearGoes_3 : decode cX12_yearGoes 3 = .ok (.aload_n 0, 1) := by decide +kernel
theorem dX12_yearGoes_4 : decode cX12_yearGoes 4 = .ok (.getfield 7, 3) := by decide +kernel
theorem dX12_yearGoes_7 : decode cX12_yearGoes 7 = .ok (.iconst 1, 1) := by decide +kernel
theorem dX12_yearGoes_8 : decode cX12_yearGoes 8 = .ok (.iaload, 1) := by decide +kernel
theorem dX12_yearGoes_9 : decode cX12_yearGoes 9 = .ok (.if_icmp .ge 43, 3) := by decide +kernel
theorem dX12_yearGoes_12 : decode cX12_yearGoes 12 = .ok (.aload_n 1, 1) := by decide +kernel
theorem dX12_yearGoes_13 : decode cX12_yearGoes 13 = .ok (.iconst 1, 1) := by decide +kernel
theorem dX12_yearGoes_14 : decode cX12_yearGoes 14 = .ok (.iload_n 2, 1) := by decide +kernel
theorem dX12_yearGoes_15 : decode cX12_yearGoes 15 = .ok (.iadd, 1) := by decide +kernel
theorem dX12_yearGoes_16 : decode cX12_yearGoes 16 = .ok (.aload_n 1, 1) := by decide +kernel
theorem dX12_yearGoes_17 : decode cX12_yearGoes 17 = .ok (.bipush 7, 2) := by decide +kernel
theorem dX12_yearGoes_19 : decode cX12_yearGoes 19 = .ok (.iload_n 2, 1) := by decide +kernel
theorem dX12_yearGoes_20 : decode cX12_yearGoes 20 = .ok (.iadd, 1) := by decide +kernel
theorem dX12_yearGoes_21 : decode cX12_yearGoes 21 = .ok (.iaload, 1) := by decide +kernel
theorem dX12_yearGoes_22 : decode cX12_yearGoes 22 = .ok (.ifCond .ne 18, 3) := by decide +kernel
theorem dX12_yearGoes_25 : decode cX12_yearGoes 25 = .ok (.bipush 99, 2) := by decide +kernel
theorem dX12_yearGoes_27 : decode cX12_yearGoes 27 = .ok (.aload_n 1, 1) := by decide +kernel
theorem dX12_yearGoes_28 : decode cX12_yearGoes 28 = .ok (.iconst 1, 1) := by decide +kernel
theorem dX12_yearGoes_29 : decode cX12_yearGoes 29 = .ok (.iload_n 2, 1) := by decide +kernel
theorem dX12_yearGoes_30 : decode cX12_yearGoes 30 = .ok (.iadd, 1) := by decide +kernel
theorem dX12_yearGoes_31 : decode cX12_yearGoes 31 = .ok (.iaload, 1) := by decide +kernel
theorem dX12_yearGoes_32 : decode cX12_yearGoes 32 = .ok (.iconst 1, 1) := by decide +kernel
theorem dX12_yearGoes_33 : decode cX12_yearGoes 33 = .ok (.iadd, 1) := by decide +kernel
theorem dX12_yearGoes_34 : decode cX12_yearGoes 34 = .ok (.invokestatic 199, 3) := by decide +kernel
theorem dX12_yearGoes_37 : decode cX12_yearGoes 37 = .ok (.goto 8, 3) := by decide +kernel
theorem dX12_yearGoes_40 : decode cX12_yearGoes 40 = .ok (.aload_n 1, 1) := by decide +kernel
theorem dX12_yearGoes_41 : decode cX12_yearGoes 41 = .ok (.iconst 1, 1) := by decide +kernel
theorem dX12_yearGoes_42 : decode cX12_yearGoes 42 = .ok (.iload_n 2, 1) := by decide +kernel
theorem dX12_yearGoes_43 : decode cX12_yearGoes 43 = .ok (.iadd, 1) := by decide +kernel
theorem dX12_yearGoes_44 : decode cX12_yearGoes 44 = .ok (.iaload, 1) := by decide +kernel
theorem dX12_yearGoes_45 : decode cX12_yearGoes 45 = .ok (.iastore, 1) := by decide +kernel
theorem dX12_yearGoes_46 : decode cX12_yearGoes 46 = .ok (.iinc 2 1, 3) := by decide +kernel
theorem dX12_yearGoes_49 : decode cX12_yearGoes 49 = .ok (.goto (-47), 3) := by decide +kernel
theorem dX12_yearGoes_52 : decode cX12_yearGoes 52 = .ok (.iconst 0, 1) := by decide +kernel
theorem dX12_yearGoes_53 : decode cX12_yearGoes 53 = .ok (.istore_n 2, 1) := by decide +kernel
theorem dX12_yearGoes_54 : decode cX12_yearGoes 54 = .ok (.iload_n 2, 1) := by decide +kernel
theorem dX12_yearGoes_55 : decode cX12_yearGoes 55 = .ok (.aload_n 0, 1) := by decide +kernel
theorem dX12_yearGoes_56 : decode cX12_yearGoes 56 = .ok (.getfield 7, 3) := by decide +kernel
theorem dX12_yearGoes_59 : decode cX12_yearGoes 59 = .ok (.iconst 2, 1) := by decide +kernel
theorem dX12_yearGoes_60 : decode cX12_yearGoes 60 = .ok (.iaload, 1) := by decide +kernel
theorem dX12_yearGoes_61 : decode cX12_yearGoes 61 = .ok (.if_icmp .ge 49, 3) := by decide +kernel
theorem dX12_yearGoes_64 : decode cX12_yearGoes 64 = .ok (.aload_n 1, 1) := by decide +kernel
theorem dX12_yearGoes_65 : decode cX12_yearGoes 65 = .ok (.bipush 49, 2) := by decide +kernel
theorem dX12_yearGoes_67 : decode cX12_yearGoes 67 = .ok (.iload_n 2, 1) := by decide +kernel
theorem dX12_yearGoes_68 : decode cX12_yearGoes 68 = .ok (.iadd, 1) := by decide +kernel
theorem dX12_yearGoes_69 : decode cX12_yearGoes 69 = .ok (.aload_n 0, 1) := by decide +kernel
theorem dX12_yearGoes_70 : decode cX12_yearGoes 70 = .ok (.getfield 7, 3) := by decide +kernel
theorem dX12_yearGoes_73 : decode cX12_yearGoes 73 = .ok (.bipush 39, 2) := by decide +kernel
theorem dX12_yearGoes_75 : decode cX12_yearGoes 75 = .ok (.iload_n 2, 1) := by decide +kernel
theorem dX12_yearGoes_76 : decode cX12_yearGoes 76 = .ok (.iadd, 1) := by decide +kernel
theorem dX12_yearGoes_77 : decode cX12_yearGoes 77 = .ok (.iaload, 1) := by decide +kernel
theorem dX12_yearGoes_78 : decode cX12_yearGoes 78 = .ok (.ifCond .ne 19, 3) := by decide +kernel
theorem dX12_yearGoes_81 : decode cX12_yearGoes 81 = .ok (.bipush 40, 2) := by decide +kernel
theorem dX12_yearGoes_83 : decode cX12_yearGoes 83 = .ok (.aload_n 1, 1) := by decide +kernel
theorem dX12_yearGoes_84 : decode cX12_yearGoes 84 = .ok (.bipush 49, 2) := by decide +kernel
theorem dX12_yearGoes_86 : decode cX12_yearGoes 86 = .ok (.iload_n 2, 1) := by decide +kernel
theorem dX12_yearGoes_87 : decode cX12_yearGoes 87 = .ok (.iadd, 1) := by decide +kernel
theorem dX12_yearGoes_88 : decode cX12_yearGoes 88 = .ok (.iaload, 1) := by decide +kernel
theorem dX12_yearGoes_89 : decode cX12_yearGoes 89 = .ok (.iconst 1, 1) := by decide +kernel
theorem dX12_yearGoes_90 : decode cX12_yearGoes 90 = .ok (.iadd, 1) := by decide +kernel
theorem dX12_yearGoes_91 : decode cX12_yearGoes 91 = .ok (.invokestatic 199, 3) := by decide +kernel
theorem dX12_yearGoes_94 : decode cX12_yearGoes 94 = .ok (.goto 9, 3) := by decide +kernel
theorem dX12_yearGoes_97 : decode cX12_yearGoes 97 = .ok (.aload_n 1, 1) := by decide +kernel
theorem dX12_yearGoes_98 : decode cX12_yearGoes 98 = .ok (.bipush 49, 2) := by decide +kernel
theorem dX12_yearGoes_100 : decode cX12_yearGoes 100 = .ok (.iload_n 2, 1) := by decide +kernel
theorem dX12_yearGoes_101 : decode cX12_yearGoes 101 = .ok (.iadd, 1) := by decide +kernel
theorem dX12_yearGoes_102 : decode cX12_yearGoes 102 = .ok (.iaload, 1) := by decide +kernel
theorem dX12_yearGoes_103 : decode cX12_yearGoes 103 = .ok (.iastore, 1) := by decide +kernel
theorem dX12_yearGoes_104 : decode cX12_yearGoes 104 = .ok (.iinc 2 1, 3) := by decide +kernel
theorem dX12_yearGoes_107 : decode cX12_yearGoes 107 = .ok (.goto (-53), 3) := by decide +kernel
theorem dX12_yearGoes_110 : decode cX12_yearGoes 110 = .ok (.aload_n 1, 1) := by decide +kernel
theorem dX12_yearGoes_111 : decode cX12_yearGoes 111 = .ok (.bipush 61, 2) := by decide +kernel
theorem dX12_yearGoes_113 : decode cX12_yearGoes 113 = .ok (.iconst 0, 1) := by decide +kernel
theorem dX12_yearGoes_114 : decode cX12_yearGoes 114 = .ok (.iastore, 1) := by decide +kernel
theorem dX12_yearGoes_115 : decode cX12_yearGoes 115 = .ok (.aload_n 1, 1) := by decide +kernel
theorem dX12_yearGoes_116 : decode cX12_yearGoes 116 = .ok (.iconst 0, 1) := by decide +kernel
theorem dX12_yearGoes_117 : decode cX12_yearGoes 117 = .ok (.dup2, 1) := by decide +kernel
theorem dX12_yearGoes_118 : decode cX12_yearGoes 118 = .ok (.iaload, 1) := by decide +kernel
theorem dX12_yearGoes_119 : decode cX12_yearGoes 119 = .ok (.iconst 1, 1) := by decide +kernel
theorem dX12_yearGoes_120 : decode cX12_yearGoes 120 = .ok (.iadd, 1) := by decide +kernel
theorem dX12_yearGoes_121 : decode cX12_yearGoes 121 = .ok (.iastore, 1) := by decide +kernel
theorem dX12_yearGoes_122 : decode cX12_yearGoes 122 = .ok (.return_, 1) := by decide +kernel
theorem dX12_refuses_0 : decode cX12_refuses 0 = .ok (.iload_n 1, 1) := by decide +kernel
theorem dX12_refuses_1 : decode cX12_refuses 1 = .ok (.i2l, 1) := by decide +kernel
theorem dX12_refuses_2 : decode cX12_refuses 2 = .ok (.lconst 1, 1) := by decide +kernel
theorem dX12_refuses_3 : decode cX12_refuses 3 = .ok (.ldc2_w 203, 3) := by decide +kernel
theorem dX12_refuses_6 : decode cX12_refuses 6 = .ok (.invokestatic 58, 3) := by decide +kernel
theorem dX12_refuses_9 : decode cX12_refuses 9 = .ok (.ifCond .ne 6, 3) := by decide +kernel
theorem dX12_refuses_12 : decode cX12_refuses 12 = .ok (.ldc 77, 2) := by decide +kernel
theorem dX12_refuses_14 : decode cX12_refuses 14 = .ok (.ireturn, 1) := by decide +kernel
theorem dX12_refuses_15 : decode cX12_refuses 15 = .ok (.aload_n 0, 1) := by decide +kernel
theorem dX12_refuses_16 : decode cX12_refuses 16 = .ok (.getfield 7, 3) := by decide +kernel
theorem dX12_refuses_19 : decode cX12_refuses 19 = .ok (.iconst 0, 1) := by decide +kernel
theorem dX12_refuses_20 : decode cX12_refuses 20 = .ok (.iaload, 1) := by decide +kernel
theorem dX12_refuses_21 : decode cX12_refuses 21 = .ok (.ifCond .ne 8, 3) := by decide +kernel
theorem dX12_refuses_24 : decode cX12_refuses 24 = .ok (.ldc 192, 2) := by decide +kernel
theorem dX12_refuses_26 : decode cX12_refuses 26 = .ok (.goto 21, 3) := by decide +kernel
theorem dX12_refuses_29 : decode cX12_refuses 29 = .ok (.aload_n 0, 1) := by decide +kernel
theorem dX12_refuses_30 : decode cX12_refuses 30 = .ok (.getfield 16, 3) := by decide +kernel
theorem dX12_refuses_33 : decode cX12_refuses 33 = .ok (.iconst 0, 1) := by decide +kernel
theorem dX12_refuses_34 : decode cX12_refuses 34 = .ok (.iaload, 1) := by decide +kernel
theorem dX12_refuses_35 : decode cX12_refuses 35 = .ok (.sipush 9000, 3) := by decide +kernel
theorem dX12_refuses_38 : decode cX12_refuses 38 = .ok (.if_icmp .le 8, 3) := by decide +kernel
theorem dX12_refuses_41 : decode cX12_refuses 41 = .ok (.ldc 81, 2) := by decide +kernel
theorem dX12_refuses_43 : decode cX12_refuses 43 = .ok (.goto 4, 3) := by decide +kernel
theorem dX12_refuses_46 : decode cX12_refuses 46 = .ok (.iconst 0, 1) := by decide +kernel
theorem dX12_refuses_47 : decode cX12_refuses 47 = .ok (.ireturn, 1) := by decide +kernel
theorem dX12_year_0 : decode cX12_year 0 = .ok (.aload_n 0, 1) := by decide +kernel
theorem dX12_year_1 : decode cX12_year 1 = .ok (.iload_n 1, 1) := by decide +kernel
theorem dX12_year_2 : decode cX12_year 2 = .ok (.invokevirtual 205, 3) := by decide +kernel
theorem dX12_year_5 : decode cX12_year 5 = .ok (.istore_n 2, 1) := by decide +kernel
theorem dX12_year_6 : decode cX12_year 6 = .ok (.iload_n 2, 1) := by decide +kernel
theorem dX12_year_7 : decode cX12_year 7 = .ok (.ifCond .eq 5, 3) := by decide +kernel
theorem dX12_year_10 : decode cX12_year 10 = .ok (.iload_n 2, 1) := by decide +kernel
theorem dX12_year_11 : decode cX12_year 11 = .ok (.ireturn, 1) := by decide +kernel
theorem dX12_year_12 : decode cX12_year 12 = .ok (.aload_n 0, 1) := by decide +kernel
theorem dX12_year_13 : decode cX12_year 13 = .ok (.invokevirtual 193, 3) := by decide +kernel
theorem dX12_year_16 : decode cX12_year 16 = .ok (.iconst 0, 1) := by decide +kernel
theorem dX12_year_17 : decode cX12_year 17 = .ok (.istore_n 3, 1) := by decide +kernel
theorem dX12_year_18 : decode cX12_year 18 = .ok (.iload_n 3, 1) := by decide +kernel
theorem dX12_year_19 : decode cX12_year 19 = .ok (.iload_n 1, 1) := by decide +kernel
theorem dX12_year_20 : decode cX12_year 20 = .ok (.if_icmp .ge 17, 3) := by decide +kernel
theorem dX12_year_23 : decode cX12_year 23 = .ok (.aload_n 0, 1) := by decide +kernel
theorem dX12_year_24 : decode cX12_year 24 = .ok (.aload_n 0, 1) := by decide +kernel
theorem dX12_year_25 : decode cX12_year 25 = .ok (.getfield 16, 3) := by decide +kernel
theorem dX12_year_28 : decode cX12_year 28 = .ok (.invokevirtual 208, 3) := by decide +kernel
theorem dX12_year_31 : decode cX12_year 31 = .ok (.iinc 3 1, 3) := by decide +kernel
theorem dX12_year_34 : decode cX12_year 34 = .ok (.goto (-16), 3) := by decide +kernel
theorem dX12_year_37 : decode cX12_year 37 = .ok (.aload_n 0, 1) := by decide +kernel
theorem dX12_year_38 : decode cX12_year 38 = .ok (.getfield 16, 3) := by decide +kernel
theorem dX12_year_41 : decode cX12_year 41 = .ok (.iconst 0, 1) := by decide +kernel
theorem dX12_year_42 : decode cX12_year 42 = .ok (.iaload, 1) := by decide +kernel
theorem dX12_year_43 : decode cX12_year 43 = .ok (.ireturn, 1) := by decide +kernel
theorem dX12_teach_0 : decode cX12_teach 0 = .ok (.aload_n 0, 1) := by decide +kernel
theorem dX12_teach_1 : decode cX12_teach 1 = .ok (.iload_n 1, 1) := by decide +kernel
theorem dX12_teach_2 : decode cX12_teach 2 = .ok (.invokevirtual 180, 3) := by decide +kernel
theorem dX12_teach_5 : decode cX12_teach 5 = .ok (.ifCond .ne 6, 3) := by decide +kernel
theorem dX12_teach_8 : decode cX12_teach 8 = .ok (.ldc 176, 2) := by decide +kernel
theorem dX12_teach_10 : decode cX12_teach 10 = .ok (.ireturn, 1) := by decide +kernel
theorem dX12_teach_11 : decode cX12_teach 11 = .ok (.iload_n 2, 1) := by decide +kernel
theorem dX12_teach_12 : decode cX12_teach 12 = .ok (.i2l, 1) := by decide +kernel
theorem dX12_teach_13 : decode cX12_teach 13 = .ok (.lconst 0, 1) := by decide +kernel
theorem dX12_teach_14 : decode cX12_teach 14 = .ok (.ldc2_w 183, 3) := by decide +kernel
theorem dX12_teach_17 : decode cX12_teach 17 = .ok (.invokestatic 58, 3) := by decide +kernel
theorem dX12_teach_20 : decode cX12_teach 20 = .ok (.ifCond .ne 6, 3) := by decide +kernel
theorem dX12_teach_23 : decode cX12_teach 23 = .ok (.ldc 77, 2) := by decide +kernel
theorem dX12_teach_25 : decode cX12_teach 25 = .ok (.ireturn, 1) := by decide +kernel
theorem dX12_teach_26 : decode cX12_teach 26 = .ok (.aload_n 0, 1) := by decide +kernel
theorem dX12_teach_27 : decode cX12_teach 27 = .ok (.invokevirtual 193, 3) := by decide +kernel
theorem dX12_teach_30 : decode cX12_teach 30 = .ok (.aload_n 0, 1) := by decide +kernel
theorem dX12_teach_31 : decode cX12_teach 31 = .ok (.getfield 16, 3) := by decide +kernel
theorem dX12_teach_34 : decode cX12_teach 34 = .ok (.bipush 55, 2) := by decide +kernel
theorem dX12_teach_36 : decode cX12_teach 36 = .ok (.iload_n 1, 1) := by decide +kernel
theorem dX12_teach_37 : decode cX12_teach 37 = .ok (.iadd, 1) := by decide +kernel
theorem dX12_teach_38 : decode cX12_teach 38 = .ok (.iload_n 3, 1) := by decide +kernel
theorem dX12_teach_39 : decode cX12_teach 39 = .ok (.ifCond .eq 19, 3) := by decide +kernel
theorem dX12_teach_42 : decode cX12_teach 42 = .ok (.aload_n 0, 1) := by decide +kernel
theorem dX12_teach_43 : decode cX12_teach 43 = .ok (.getfield 16, 3) := by decide +kernel
theorem dX12_teach_46 : decode cX12_teach 46 = .ok (.bipush 55, 2) := by decide +kernel
theorem dX12_teach_48 : decode cX12_teach 48 = .ok (.iload_n 1, 1) := by decide +kernel
theorem dX12_teach_49 : decode cX12_teach 49 = .ok (.iadd, 1) := by decide +kernel
theorem dX12_teach_50 : decode cX12_teach 50 = .ok (.iaload, 1) := by decide +kernel
theorem dX12_teach_51 : decode cX12_teach 51 = .ok (.iconst 1, 1) := by decide +kernel
theorem dX12_teach_52 : decode cX12_teach 52 = .ok (.iload_n 2, 1) := by decide +kernel
theorem dX12_teach_53 : decode cX12_teach 53 = .ok (.ishl, 1) := by decide +kernel
theorem dX12_teach_54 : decode cX12_teach 54 = .ok (.ior, 1) := by decide +kernel
theorem dX12_teach_55 : decode cX12_teach 55 = .ok (.goto 18, 3) := by decide +kernel
theorem dX12_teach_58 : decode cX12_teach 58 = .ok (.aload_n 0, 1) := by decide +kernel
theorem dX12_teach_59 : decode cX12_teach 59 = .ok (.getfield 16, 3) := by decide +kernel
theorem dX12_teach_62 : decode cX12_teach 62 = .ok (.bipush 55, 2) := by decide +kernel
theorem dX12_teach_64 : decode cX12_teach 64 = .ok (.iload_n 1, 1) := by decide +kernel
theorem dX12_teach_65 : decode cX12_teach 65 = .ok (.iadd, 1) := by decide +kernel
theorem dX12_teach_66 : decode cX12_teach 66 = .ok (.iaload, 1) := by decide +kernel
theorem dX12_teach_67 : decode cX12_teach 67 = .ok (.iconst 1, 1) := by decide +kernel
theorem dX12_teach_68 : decode cX12_teach 68 = .ok (.iload_n 2, 1) := by decide +kernel
theorem dX12_teach_69 : decode cX12_teach 69 = .ok (.ishl, 1) := by decide +kernel
theorem dX12_teach_70 : decode cX12_teach 70 = .ok (.iconst (-1), 1) := by decide +kernel
theorem dX12_teach_71 : decode cX12_teach 71 = .ok (.ixor, 1) := by decide +kernel
theorem dX12_teach_72 : decode cX12_teach 72 = .ok (.iand, 1) := by decide +kernel
theorem dX12_teach_73 : decode cX12_teach 73 = .ok (.iastore, 1) := by decide +kernel
theorem dX12_teach_74 : decode cX12_teach 74 = .ok (.aload_n 0, 1) := by decide +kernel
theorem dX12_teach_75 : decode cX12_teach 75 = .ok (.getfield 16, 3) := by decide +kernel
theorem dX12_teach_78 : decode cX12_teach 78 = .ok (.bipush 55, 2) := by decide +kernel
theorem dX12_teach_80 : decode cX12_teach 80 = .ok (.iload_n 1, 1) := by decide +kernel
theorem dX12_teach_81 : decode cX12_teach 81 = .ok (.iadd, 1) := by decide +kernel
theorem dX12_teach_82 : decode cX12_teach 82 = .ok (.iaload, 1) := by decide +kernel
theorem dX12_teach_83 : decode cX12_teach 83 = .ok (.ireturn, 1) := by decide +kernel
theorem dX12_hear_0 : decode cX12_hear 0 = .ok (.aload_n 0, 1) := by decide +kernel
theorem dX12_hear_1 : decode cX12_hear 1 = .ok (.iload_n 1, 1) := by decide +kernel
theorem dX12_hear_2 : decode cX12_hear 2 = .ok (.invokevirtual 173, 3) := by decide +kernel
theorem dX12_hear_5 : decode cX12_hear 5 = .ok (.ifCond .ne 6, 3) := by decide +kernel
theorem dX12_hear_8 : decode cX12_hear 8 = .ok (.ldc 176, 2) := by decide +kernel
theorem dX12_hear_10 : decode cX12_hear 10 = .ok (.ireturn, 1) := by decide +kernel
theorem dX12_hear_11 : decode cX12_hear 11 = .ok (.iload_n 2, 1) := by decide +kernel
theorem dX12_hear_12 : decode cX12_hear 12 = .ok (.i2l, 1) := by decide +kernel
theorem dX12_hear_13 : decode cX12_hear 13 = .ok (.lconst 0, 1) := by decide +kernel
theorem dX12_hear_14 : decode cX12_hear 14 = .ok (.ldc2_w 183, 3) := by decide +kernel
theorem dX12_hear_17 : decode cX12_hear 17 = .ok (.invokestatic 58, 3) := by decide +kernel
theorem dX12_hear_20 : decode cX12_hear 20 = .ok (.ifCond .eq 15, 3) := by decide +kernel
theorem dX12_hear_23 : decode cX12_hear 23 = .ok (.iload_n 3, 1) := by decide +kernel
theorem dX12_hear_24 : decode cX12_hear 24 = .ok (.i2l, 1) := by decide +kernel
theorem dX12_hear_25 : decode cX12_hear 25 = .ok (.lconst 0, 1) := by decide +kernel
theorem dX12_hear_26 : decode cX12_hear 26 = .ok (.ldc2_w 212, 3) := by decide +kernel
theorem dX12_hear_29 : decode cX12_hear 29 = .ok (.invokestatic 58, 3) := by decide +kernel
theorem dX12_hear_32 : decode cX12_hear 32 = .ok (.ifCond .ne 6, 3) := by decide +kernel
theorem dX12_hear_35 : decode cX12_hear 35 = .ok (.ldc 77, 2) := by decide +kernel
theorem dX12_hear_37 : decode cX12_hear 37 = .ok (.ireturn, 1) := by decide +kernel
theorem dX12_hear_38 : decode cX12_hear 38 = .ok (.aload_n 0, 1) := by decide +kernel
theorem dX12_hear_39 : decode cX12_hear 39 = .ok (.invokevirtual 193, 3) := by decide +kernel
theorem dX12_hear_42 : decode cX12_hear 42 = .ok (.aload_n 0, 1) := by decide +kernel
theorem dX12_hear_43 : decode cX12_hear 43 = .ok (.getfield 16, 3) := by decide +kernel
theorem dX12_hear_46 : decode cX12_hear 46 = .ok (.bipush 19, 2) := by decide +kernel
theorem dX12_hear_48 : decode cX12_hear 48 = .ok (.iconst 5, 1) := by decide +kernel
theorem dX12_hear_49 : decode cX12_hear 49 = .ok (.iload_n 1, 1) := by decide +kernel
theorem dX12_hear_50 : decode cX12_hear 50 = .ok (.imul, 1) := by decide +kernel
theorem dX12_hear_51 : decode cX12_hear 51 = .ok (.iadd, 1) := by decide +kernel
theorem dX12_hear_52 : decode cX12_hear 52 = .ok (.iload_n 2, 1) := by decide +kernel
theorem dX12_hear_53 : decode cX12_hear 53 = .ok (.iadd, 1) := by decide +kernel
theorem dX12_hear_54 : decode cX12_hear 54 = .ok (.iaload, 1) := by decide +kernel
theorem dX12_hear_55 : decode cX12_hear 55 = .ok (.istore 4, 2) := by decide +kernel
theorem dX12_hear_57 : decode cX12_hear 57 = .ok (.aload_n 0, 1) := by decide +kernel
theorem dX12_hear_58 : decode cX12_hear 58 = .ok (.getfield 16, 3) := by decide +kernel
theorem dX12_hear_61 : decode cX12_hear 61 = .ok (.bipush 19, 2) := by decide +kernel
theorem dX12_hear_63 : decode cX12_hear 63 = .ok (.iconst 5, 1) := by decide +kernel
theorem dX12_hear_64 : decode cX12_hear 64 = .ok (.iload_n 1, 1) := by decide +kernel
theorem dX12_hear_65 : decode cX12_hear 65 = .ok (.imul, 1) := by decide +kernel
theorem dX12_hear_66 : decode cX12_hear 66 = .ok (.iadd, 1) := by decide +kernel
theorem dX12_hear_67 : decode cX12_hear 67 = .ok (.iload_n 2, 1) := by decide +kernel
theorem dX12_hear_68 : decode cX12_hear 68 = .ok (.iadd, 1) := by decide +kernel
theorem dX12_hear_69 : decode cX12_hear 69 = .ok (.iload_n 3, 1) := by decide +kernel
theorem dX12_hear_70 : decode cX12_hear 70 = .ok (.iastore, 1) := by decide +kernel
theorem dX12_hear_71 : decode cX12_hear 71 = .ok (.iload 4, 2) := by decide +kernel
theorem dX12_hear_73 : decode cX12_hear 73 = .ok (.ireturn, 1) := by decide +kernel
theorem dX12_practise_0 : decode cX12_practise 0 = .ok (.aload_n 0, 1) := by decide +kernel
theorem dX12_practise_1 : decode cX12_practise 1 = .ok (.iload_n 1, 1) := by decide +kernel
theorem dX12_practise_2 : decode cX12_practise 2 = .ok (.invokevirtual 173, 3) := by decide +kernel
theorem dX12_practise_5 : decode cX12_practise 5 = .ok (.ifCond .ne 6, 3) := by decide +kernel
theorem dX12_practise_8 : decode cX12_practise 8 = .ok (.ldc 176, 2) := by decide +kernel
theorem dX12_practise_10 : decode cX12_practise 10 = .ok (.ireturn, 1) := by decide +kernel
theorem dX12_practise_11 : decode cX12_practise 11 = .ok (.iload_n 2, 1) := by decide +kernel
theorem dX12_practise_12 : decode cX12_practise 12 = .ok (.i2l, 1) := by decide +kernel
theorem dX12_practise_13 : decode cX12_practise 13 = .ok (.lconst 0, 1) := by decide +kernel
theorem dX12_practise_14 : decode cX12_practise 14 = .ok (.ldc2_w 214, 3) := by decide +kernel
theorem dX12_practise_17 : decode cX12_practise 17 = .ok (.invokestatic 58, 3) := by decide +kernel
theorem dX12_practise_20 : decode cX12_practise 20 = .ok (.ifCond .ne 6, 3) := by decide +kernel
theorem dX12_practise_23 : decode cX12_practise 23 = .ok (.ldc 77, 2) := by decide +kernel
theorem dX12_practise_25 : decode cX12_practise 25 = .ok (.ireturn, 1) := by decide +kernel
theorem dX12_practise_26 : decode cX12_practise 26 = .ok (.aload_n 0, 1) := by decide +kernel
theorem dX12_practise_27 : decode cX12_practise 27 = .ok (.getfield 16, 3) := by decide +kernel
theorem dX12_practise_30 : decode cX12_practise 30 = .ok (.bipush 7, 2) := by decide +kernel
theorem dX12_practise_32 : decode cX12_practise 32 = .ok (.iload_n 1, 1) := by decide +kernel
theorem dX12_practise_33 : decode cX12_practise 33 = .ok (.iadd, 1) := by decide +kernel
theorem dX12_practise_34 : decode cX12_practise 34 = .ok (.iaload, 1) := by decide +kernel
theorem dX12_practise_35 : decode cX12_practise 35 = .ok (.ifCond .eq 6, 3) := by decide +kernel
theorem dX12_practise_38 : decode cX12_practise 38 = .ok (.ldc 192, 2) := by decide +kernel
theorem dX12_practise_40 : decode cX12_practise 40 = .ok (.ireturn, 1) := by decide +kernel
theorem dX12_practise_41 : decode cX12_practise 41 = .ok (.aload_n 0, 1) := by decide +kernel
theorem dX12_practise_42 : decode cX12_practise 42 = .ok (.invokevirtual 193, 3) := by decide +kernel
theorem dX12_practise_45 : decode cX12_practise 45 = .ok (.aload_n 0, 1) := by decide +kernel
theorem dX12_practise_46 : decode cX12_practise 46 = .ok (.getfield 16, 3) := by decide +kernel
theorem dX12_practise_49 : decode cX12_practise 49 = .ok (.iconst 1, 1) := by decide +kernel
theorem dX12_practise_50 : decode cX12_practise 50 = .ok (.iload_n 1, 1) := by decide +kernel
theorem dX12_practise_51 : decode cX12_practise 51 = .ok (.iadd, 1) := by decide +kernel
theorem dX12_practise_52 : decode cX12_practise 52 = .ok (.iaload, 1) := by decide +kernel
theorem dX12_practise_53 : decode cX12_practise 53 = .ok (.istore_n 3, 1) := by decide +kernel
theorem dX12_practise_54 : decode cX12_practise 54 = .ok (.aload_n 0, 1) := by decide +kernel
theorem dX12_practise_55 : decode cX12_practise 55 = .ok (.getfield 16, 3) := by decide +kernel
theorem dX12_practise_58 : decode cX12_practise 58 = .ok (.iconst 1, 1) := by decide +kernel
theorem dX12_practise_59 : decode cX12_practise 59 = .ok (.iload_n 1, 1) := by decide +kernel
theorem dX12_practise_60 : decode cX12_practise 60 = .ok (.iadd, 1) := by decide +kernel
theorem dX12_practise_61 : decode cX12_practise 61 = .ok (.iload_n 2, 1) := by decide +kernel
theorem dX12_practise_62 : decode cX12_practise 62 = .ok (.iastore, 1) := by decide +kernel
theorem dX12_practise_63 : decode cX12_practise 63 = .ok (.iload_n 3, 1) := by decide +kernel
theorem dX12_practise_64 : decode cX12_practise 64 = .ok (.ireturn, 1) := by decide +kernel
theorem dX12_sour_0 : decode cX12_sour 0 = .ok (.aload_n 0, 1) := by decide +kernel
theorem dX12_sour_1 : decode cX12_sour 1 = .ok (.iload_n 1, 1) := by decide +kernel
theorem dX12_sour_2 : decode cX12_sour 2 = .ok (.invokevirtual 180, 3) := by decide +kernel
theorem dX12_sour_5 : decode cX12_sour 5 = .ok (.ifCond .ne 6, 3) := by decide +kernel
theorem dX12_sour_8 : decode cX12_sour 8 = .ok (.ldc 176, 2) := by decide +kernel
theorem dX12_sour_10 : decode cX12_sour 10 = .ok (.ireturn, 1) := by decide +kernel
theorem dX12_sour_11 : decode cX12_sour 11 = .ok (.iload_n 2, 1) := by decide +kernel
theorem dX12_sour_12 : decode cX12_sour 12 = .ok (.i2l, 1) := by decide +kernel
theorem dX12_sour_13 : decode cX12_sour 13 = .ok (.lconst 0, 1) := by decide +kernel
theorem dX12_sour_14 : decode cX12_sour 14 = .ok (.ldc2_w 216, 3) := by decide +kernel
theorem dX12_sour_17 : decode cX12_sour 17 = .ok (.invokestatic 58, 3) := by decide +kernel
theorem dX12_sour_20 : decode cX12_sour 20 = .ok (.ifCond .ne 6, 3) := by decide +kernel
theorem dX12_sour_23 : decode cX12_sour 23 = .ok (.ldc 77, 2) := by decide +kernel
theorem dX12_sour_25 : decode cX12_sour 25 = .ok (.ireturn, 1) := by decide +kernel
theorem dX12_sour_26 : decode cX12_sour 26 = .ok (.aload_n 0, 1) := by decide +kernel
theorem dX12_sour_27 : decode cX12_sour 27 = .ok (.invokevirtual 193, 3) := by decide +kernel
theorem dX12_sour_30 : decode cX12_sour 30 = .ok (.aload_n 0, 1) := by decide +kernel
theorem dX12_sour_31 : decode cX12_sour 31 = .ok (.getfield 16, 3) := by decide +kernel
theorem dX12_sour_34 : decode cX12_sour 34 = .ok (.bipush 49, 2) := by decide +kernel
theorem dX12_sour_36 : decode cX12_sour 36 = .ok (.iload_n 1, 1) := by decide +kernel
theorem dX12_sour_37 : decode cX12_sour 37 = .ok (.iadd, 1) := by decide +kernel
theorem dX12_sour_38 : decode cX12_sour 38 = .ok (.iaload, 1) := by decide +kernel
theorem dX12_sour_39 : decode cX12_sour 39 = .ok (.istore_n 3, 1) := by decide +kernel
theorem dX12_sour_40 : decode cX12_sour 40 = .ok (.aload_n 0, 1) := by decide +kernel
theorem dX12_sour_41 : decode cX12_sour 41 = .ok (.getfield 16, 3) := by decide +kernel
theorem dX12_sour_44 : decode cX12_sour 44 = .ok (.bipush 49, 2) := by decide +kernel
theorem dX12_sour_46 : decode cX12_sour 46 = .ok (.iload_n 1, 1) := by decide +kernel
theorem dX12_sour_47 : decode cX12_sour 47 = .ok (.iadd, 1) := by decide +kernel
theorem dX12_sour_48 : decode cX12_sour 48 = .ok (.iload_n 2, 1) := by decide +kernel
theorem dX12_sour_49 : decode cX12_sour 49 = .ok (.iastore, 1) := by decide +kernel
theorem dX12_sour_50 : decode cX12_sour 50 = .ok (.iload_n 3, 1) := by decide +kernel
theorem dX12_sour_51 : decode cX12_sour 51 = .ok (.ireturn, 1) := by decide +kernel
theorem dX12_draw_0 : decode cX12_draw 0 = .ok (.aload_n 0, 1) := by decide +kernel
theorem dX12_draw_1 : decode cX12_draw 1 = .ok (.aload_n 0, 1) := by decide +kernel
theorem dX12_draw_2 : decode cX12_draw 2 = .ok (.getfield 218, 3) := by decide +kernel
theorem dX12_draw_5 : decode cX12_draw 5 = .ok (.ldc2_w 222, 3) := by decide +kernel
theorem dX12_draw_8 : decode cX12_draw 8 = .ok (.lmul, 1) := by decide +kernel
theorem dX12_draw_9 : decode cX12_draw 9 = .ok (.ldc2_w 224, 3) := by decide +kernel
theorem dX12_draw_12 : decode cX12_draw 12 = .ok (.ladd, 1) := by decide +kernel
theorem dX12_draw_13 : decode cX12_draw 13 = .ok (.ldc2_w 226, 3) := by decide +kernel
theorem dX12_draw_16 : decode cX12_draw 16 = .ok (.lrem, 1) := by decide +kernel
theorem dX12_draw_17 : decode cX12_draw 17 = .ok (.putfield 218, 3) := by decide +kernel
theorem dX12_draw_20 : decode cX12_draw 20 = .ok (.aload_n 0, 1) := by decide +kernel
theorem dX12_draw_21 : decode cX12_draw 21 = .ok (.getfield 218, 3) := by decide +kernel
theorem dX12_draw_24 : decode cX12_draw 24 = .ok (.ldc2_w 228, 3) := by decide +kernel
theorem dX12_draw_27 : decode cX12_draw 27 = .ok (.ldiv, 1) := by decide +kernel
theorem dX12_draw_28 : decode cX12_draw 28 = .ok (.iload_n 1, 1) := by decide +kernel
theorem dX12_draw_29 : decode cX12_draw 29 = .ok (.i2l, 1) := by decide +kernel
theorem dX12_draw_30 : decode cX12_draw 30 = .ok (.lrem, 1) := by decide +kernel
theorem dX12_draw_31 : decode cX12_draw 31 = .ok (.l2i, 1) := by decide +kernel
theorem dX12_draw_32 : decode cX12_draw 32 = .ok (.ireturn, 1) := by decide +kernel
theorem dX12_draws_0 : decode cX12_draws 0 = .ok (.aload_n 0, 1) := by decide +kernel
theorem dX12_draws_1 : decode cX12_draws 1 = .ok (.iconst 4, 1) := by decide +kernel
theorem dX12_draws_2 : decode cX12_draws 2 = .ok (.invokevirtual 230, 3) := by decide +kernel
theorem dX12_draws_5 : decode cX12_draws 5 = .ok (.istore_n 1, 1) := by decide +kernel
theorem dX12_draws_6 : decode cX12_draws 6 = .ok (.aload_n 0, 1) := by decide +kernel
theorem dX12_draws_7 : decode cX12_draws 7 = .ok (.aload_n 0, 1) := by decide +kernel
theorem dX12_draws_8 : decode cX12_draws 8 = .ok (.getfield 7, 3) := by decide +kernel
theorem dX12_draws_11 : decode cX12_draws 11 = .ok (.iconst 1, 1) := by decide +kernel
theorem dX12_draws_12 : decode cX12_draws 12 = .ok (.iaload, 1) := by decide +kernel
theorem dX12_draws_13 : decode cX12_draws 13 = .ok (.invokevirtual 230, 3) := by decide +kernel
theorem dX12_draws_16 : decode cX12_draws 16 = .ok (.istore_n 2, 1) := by decide +kernel
theorem dX12_draws_17 : decode cX12_draws 17 = .ok (.aload_n 0, 1) := by decide +kernel
theorem dX12_draws_18 : decode cX12_draws 18 = .ok (.aload_n 0, 1) := by decide +kernel
theorem dX12_draws_19 : decode cX12_draws 19 = .ok (.getfield 7, 3) := by decide +kernel
theorem dX12_draws_22 : decode cX12_draws 22 = .ok (.iconst 2, 1) := by decide +kernel
theorem dX12_draws_23 : decode cX12_draws 23 = .ok (.iaload, 1) := by decide +kernel
theorem dX12_draws_24 : decode cX12_draws 24 = .ok (.invokevirtual 230, 3) := by decide +kernel
theorem dX12_draws_27 : decode cX12_draws 27 = .ok (.istore_n 3, 1) := by decide +kernel
theorem dX12_draws_28 : decode cX12_draws 28 = .ok (.iload_n 1, 1) := by decide +kernel
theorem dX12_draws_29 : decode cX12_draws 29 = .ok (.ifCond .ne 27, 3) := by decide +kernel
theorem dX12_draws_32 : decode cX12_draws 32 = .ok (.aload_n 0, 1) := by decide +kernel
theorem dX12_draws_33 : decode cX12_draws 33 = .ok (.iload_n 3, 1) := by decide +kernel
theorem dX12_draws_34 : decode cX12_draws 34 = .ok (.iload_n 2, 1) := by decide +kernel
theorem dX12_draws_35 : decode cX12_draws 35 = .ok (.invokevirtual 189, 3) := by decide +kernel
theorem dX12_draws_38 : decode cX12_draws 38 = .ok (.ifCond .eq 18, 3) := by decide +kernel
theorem dX12_draws_41 : decode cX12_draws 41 = .ok (.aload_n 0, 1) := by decide +kernel
theorem dX12_draws_42 : decode cX12_draws 42 = .ok (.aload_n 0, 1) := by decide +kernel
theorem dX12_draws_43 : decode cX12_draws 43 = .ok (.getfield 16, 3) := by decide +kernel
theorem dX12_draws_46 : decode cX12_draws 46 = .ok (.iload_n 3, 1) := by decide +kernel
theorem dX12_draws_47 : decode cX12_draws 47 = .ok (.iload_n 2, 1) := by decide +kernel
theorem dX12_draws_48 : decode cX12_draws 48 = .ok (.invokevirtual 196, 3) := by decide +kernel
theorem dX12_draws_51 : decode cX12_draws 51 = .ok (.istore 4, 2) := by decide +kernel
theorem dX12_draws_53 : decode cX12_draws 53 = .ok (.goto 62, 3) := by decide +kernel
theorem dX12_draws_56 : decode cX12_draws 56 = .ok (.iload_n 1, 1) := by decide +kernel
theorem dX12_draws_57 : decode cX12_draws 57 = .ok (.iconst 1, 1) := by decide +kernel
theorem dX12_draws_58 : decode cX12_draws 58 = .ok (.if_icmp .ne 33, 3) := by decide +kernel
theorem dX12_draws_61 : decode cX12_draws 61 = .ok (.aload_n 0, 1) := by decide +kernel
theorem dX12_draws_62 : decode cX12_draws 62 = .ok (.iconst 5, 1) := by decide +kernel
theorem dX12_draws_63 : decode cX12_draws 63 = .ok (.invokevirtual 230, 3) := by decide +kernel
theorem dX12_draws_66 : decode cX12_draws 66 = .ok (.istore 4, 2) := by decide +kernel
theorem dX12_draws_68 : decode cX12_draws 68 = .ok (.aload_n 0, 1) := by decide +kernel
theorem dX12_draws_69 : decode cX12_draws 69 = .ok (.getfield 16, 3) := by decide +kernel
theorem dX12_draws_72 : decode cX12_draws 72 = .ok (.bipush 19, 2) := by decide +kernel
theorem dX12_draws_74 : decode cX12_draws 74 = .ok (.iconst 5, 1) := by decide +kernel
theorem dX12_draws_75 : decode cX12_draws 75 = .ok (.iload_n 2, 1) := by decide +kernel
theorem dX12_draws_76 : decode cX12_draws 76 = .ok (.imul, 1) := by decide +kernel
theorem dX12_draws_77 : decode cX12_draws 77 = .ok (.iadd, 1) := by decide +kernel
theorem dX12_draws_78 : decode cX12_draws 78 = .ok (.iload 4, 2) := by decide +kernel
theorem dX12_draws_80 : decode cX12_draws 80 = .ok (.iadd, 1) := by decide +kernel
theorem dX12_draws_81 : decode cX12_draws 81 = .ok (.aload_n 0, 1) := by decide +kernel
theorem dX12_draws_82 : decode cX12_draws 82 = .ok (.bipush 21, 2) := by decide +kernel
theorem dX12_draws_84 : decode cX12_draws 84 = .ok (.invokevirtual 230, 3) := by decide +kernel
theorem dX12_draws_87 : decode cX12_draws 87 = .ok (.iastore, 1) := by decide +kernel
theorem dX12_draws_88 : decode cX12_draws 88 = .ok (.goto 27, 3) := by decide +kernel
theorem dX12_draws_91 : decode cX12_draws 91 = .ok (.iload_n 1, 1) := by decide +kernel
theorem dX12_draws_92 : decode cX12_draws 92 = .ok (.iconst 2, 1) := by decide +kernel
theorem dX12_draws_93 : decode cX12_draws 93 = .ok (.if_icmp .ne 22, 3) := by decide +kernel
theorem dX12_draws_96 : decode cX12_draws 96 = .ok (.aload_n 0, 1) := by decide +kernel
theorem dX12_draws_97 : decode cX12_draws 97 = .ok (.getfield 16, 3) := by decide +kernel
theorem dX12_draws_100 : decode cX12_draws 100 = .ok (.bipush 55, 2) := by decide +kernel
theorem dX12_draws_102 : decode cX12_draws 102 = .ok (.iload_n 3, 1) := by decide +kernel
theorem dX12_draws_103 : decode cX12_draws 103 = .ok (.iadd, 1) := by decide +kernel
theorem dX12_draws_104 : decode cX12_draws 104 = .ok (.dup2, 1) := by decide +kernel
theorem dX12_draws_105 : decode cX12_draws 105 = .ok (.iaload, 1) := by decide +kernel
theorem dX12_draws_106 : decode cX12_draws 106 = .ok (.iconst 1, 1) := by decide +kernel
theorem dX12_draws_107 : decode cX12_draws 107 = .ok (.aload_n 0, 1) := by decide +kernel
theorem dX12_draws_108 : decode cX12_draws 108 = .ok (.iconst 5, 1) := by decide +kernel
theorem dX12_draws_109 : decode cX12_draws 109 = .ok (.invokevirtual 230, 3) := by decide +kernel
theorem dX12_draws_112 : decode cX12_draws 112 = .ok (.ishl, 1) := by decide +kernel
theorem dX12_draws_113 : decode cX12_draws 113 = .ok (.ior, 1) := by decide +kernel
theorem dX12_draws_114 : decode cX12_draws 114 = .ok (.iastore, 1) := by decide +kernel
theorem dX12_draws_115 : decode cX12_draws 115 = .ok (.return_, 1) := by decide +kernel
theorem dX12_drift_0 : decode cX12_drift 0 = .ok (.aload_n 0, 1) := by decide +kernel
theorem dX12_drift_1 : decode cX12_drift 1 = .ok (.iload_n 1, 1) := by decide +kernel
theorem dX12_drift_2 : decode cX12_drift 2 = .ok (.invokevirtual 205, 3) := by decide +kernel
theorem dX12_drift_5 : decode cX12_drift 5 = .ok (.istore_n 2, 1) := by decide +kernel
theorem dX12_drift_6 : decode cX12_drift 6 = .ok (.iload_n 2, 1) := by decide +kernel
theorem dX12_drift_7 : decode cX12_drift 7 = .ok (.ifCond .eq 5, 3) := by decide +kernel
theorem dX12_drift_10 : decode cX12_drift 10 = .ok (.iload_n 2, 1) := by decide +kernel
theorem dX12_drift_11 : decode cX12_drift 11 = .ok (.ireturn, 1) := by decide +kernel
theorem dX12_drift_12 : decode cX12_drift 12 = .ok (.aload_n 0, 1) := by decide +kernel
theorem dX12_drift_13 : decode cX12_drift 13 = .ok (.invokevirtual 193, 3) := by decide +kernel
theorem dX12_drift_16 : decode cX12_drift 16 = .ok (.iconst 0, 1) := by decide +kernel
theorem dX12_drift_17 : decode cX12_drift 17 = .ok (.istore_n 3, 1) := by decide +kernel
theorem dX12_drift_18 : decode cX12_drift 18 = .ok (.iload_n 3, 1) := by decide +kernel
theorem dX12_drift_19 : decode cX12_drift 19 = .ok (.iload_n 1, 1) := by decide +kernel
theorem dX12_drift_20 : decode cX12_drift 20 = .ok (.if_icmp .ge 39, 3) := by decide +kernel
theorem dX12_drift_23 : decode cX12_drift 23 = .ok (.aload_n 0, 1) := by decide +kernel
theorem dX12_drift_24 : decode cX12_drift 24 = .ok (.getfield 7, 3) := by decide +kernel
theorem dX12_drift_27 : decode cX12_drift 27 = .ok (.iconst 1, 1) := by decide +kernel
theorem dX12_drift_28 : decode cX12_drift 28 = .ok (.iaload, 1) := by decide +kernel
theorem dX12_drift_29 : decode cX12_drift 29 = .ok (.ifCond .le 16, 3) := by decide +kernel
theorem dX12_drift_32 : decode cX12_drift 32 = .ok (.aload_n 0, 1) := by decide +kernel
theorem dX12_drift_33 : decode cX12_drift 33 = .ok (.getfield 7, 3) := by decide +kernel
theorem dX12_drift_36 : decode cX12_drift 36 = .ok (.iconst 2, 1) := by decide +kernel
theorem dX12_drift_37 : decode cX12_drift 37 = .ok (.iaload, 1) := by decide +kernel
theorem dX12_drift_38 : decode cX12_drift 38 = .ok (.ifCond .le 7, 3) := by decide +kernel
theorem dX12_drift_41 : decode cX12_drift 41 = .ok (.aload_n 0, 1) := by decide +kernel
theorem dX12_drift_42 : decode cX12_drift 42 = .ok (.invokevirtual 233, 3) := by decide +kernel
theorem dX12_drift_45 : decode cX12_drift 45 = .ok (.aload_n 0, 1) := by decide +kernel
theorem dX12_drift_46 : decode cX12_drift 46 = .ok (.aload_n 0, 1) := by decide +kernel
theorem dX12_drift_47 : decode cX12_drift 47 = .ok (.getfield 16, 3) := by decide +kernel
theorem dX12_drift_50 : decode cX12_drift 50 = .ok (.invokevirtual 208, 3) := by decide +kernel
theorem dX12_drift_53 : decode cX12_drift 53 = .ok (.iinc 3 1, 3) := by decide +kernel
theorem dX12_drift_56 : decode cX12_drift 56 = .ok (.goto (-38), 3) := by decide +kernel
theorem dX12_drift_59 : decode cX12_drift 59 = .ok (.aload_n 0, 1) := by decide +kernel
theorem dX12_drift_60 : decode cX12_drift 60 = .ok (.getfield 16, 3) := by decide +kernel
theorem dX12_drift_63 : decode cX12_drift 63 = .ok (.iconst 0, 1) := by decide +kernel
theorem dX12_drift_64 : decode cX12_drift 64 = .ok (.iaload, 1) := by decide +kernel
theorem dX12_drift_65 : decode cX12_drift 65 = .ok (.ireturn, 1) := by decide +kernel
theorem dX12_undo_0 : decode cX12_undo 0 = .ok (.aload_n 0, 1) := by decide +kernel
theorem dX12_undo_1 : decode cX12_undo 1 = .ok (.getfield 66, 3) := by decide +kernel
theorem dX12_undo_4 : decode cX12_undo 4 = .ok (.ifCond .ne 6, 3) := by decide +kernel
theorem dX12_undo_7 : decode cX12_undo 7 = .ok (.ldc 192, 2) := by decide +kernel
theorem dX12_undo_9 : decode cX12_undo 9 = .ok (.ireturn, 1) := by decide +kernel
theorem dX12_undo_10 : decode cX12_undo 10 = .ok (.aload_n 0, 1) := by decide +kernel
theorem dX12_undo_11 : decode cX12_undo 11 = .ok (.dup, 1) := by decide +kernel
theorem dX12_undo_12 : decode cX12_undo 12 = .ok (.getfield 66, 3) := by decide +kernel
theorem dX12_undo_15 : decode cX12_undo 15 = .ok (.iconst 1, 1) := by decide +kernel
theorem dX12_undo_16 : decode cX12_undo 16 = .ok (.isub, 1) := by decide +kernel
theorem dX12_undo_17 : decode cX12_undo 17 = .ok (.putfield 66, 3) := by decide +kernel
theorem dX12_undo_20 : decode cX12_undo 20 = .ok (.aload_n 0, 1) := by decide +kernel
theorem dX12_undo_21 : decode cX12_undo 21 = .ok (.getfield 22, 3) := by decide +kernel
theorem dX12_undo_24 : decode cX12_undo 24 = .ok (.sipush 163, 3) := by decide +kernel
theorem dX12_undo_27 : decode cX12_undo 27 = .ok (.aload_n 0, 1) := by decide +kernel
theorem dX12_undo_28 : decode cX12_undo 28 = .ok (.getfield 66, 3) := by decide +kernel
theorem dX12_undo_31 : decode cX12_undo 31 = .ok (.imul, 1) := by decide +kernel
theorem dX12_undo_32 : decode cX12_undo 32 = .ok (.aload_n 0, 1) := by decide +kernel
theorem dX12_undo_33 : decode cX12_undo 33 = .ok (.getfield 16, 3) := by decide +kernel
theorem dX12_undo_36 : decode cX12_undo 36 = .ok (.iconst 0, 1) := by decide +kernel
theorem dX12_undo_37 : decode cX12_undo 37 = .ok (.sipush 163, 3) := by decide +kernel
theorem dX12_undo_40 : decode cX12_undo 40 = .ok (.invokestatic 62, 3) := by decide +kernel
theorem dX12_undo_43 : decode cX12_undo 43 = .ok (.aload_n 0, 1) := by decide +kernel
theorem dX12_undo_44 : decode cX12_undo 44 = .ok (.getfield 66, 3) := by decide +kernel
theorem dX12_undo_47 : decode cX12_undo 47 = .ok (.ireturn, 1) := by decide +kernel
theorem dX12_layAside_0 : decode cX12_layAside 0 = .ok (.aload_n 0, 1) := by decide +kernel
theorem dX12_layAside_1 : decode cX12_layAside 1 = .ok (.getfield 16, 3) := by decide +kernel
theorem dX12_layAside_4 : decode cX12_layAside 4 = .ok (.iconst 0, 1) := by decide +kernel
theorem dX12_layAside_5 : decode cX12_layAside 5 = .ok (.aload_n 0, 1) := by decide +kernel
theorem dX12_layAside_6 : decode cX12_layAside 6 = .ok (.getfield 19, 3) := by decide +kernel
theorem dX12_layAside_9 : decode cX12_layAside 9 = .ok (.iconst 0, 1) := by decide +kernel
theorem dX12_layAside_10 : decode cX12_layAside 10 = .ok (.sipush 163, 3) := by decide +kernel
theorem dX12_layAside_13 : decode cX12_layAside 13 = .ok (.invokestatic 62, 3) := by decide +kernel
theorem dX12_layAside_16 : decode cX12_layAside 16 = .ok (.return_, 1) := by decide +kernel
theorem dX12_soonest_0 : decode cX12_soonest 0 = .ok (.aload_n 0, 1) := by decide +kernel
theorem dX12_soonest_1 : decode cX12_soonest 1 = .ok (.iload_n 1, 1) := by decide +kernel
theorem dX12_soonest_2 : decode cX12_soonest 2 = .ok (.invokevirtual 173, 3) := by decide +kernel
theorem dX12_soonest_5 : decode cX12_soonest 5 = .ok (.ifCond .eq 11, 3) := by decide +kernel
theorem dX12_soonest_8 : decode cX12_soonest 8 = .ok (.aload_n 0, 1) := by decide +kernel
theorem dX12_soonest_9 : decode cX12_soonest 9 = .ok (.iload_n 2, 1) := by decide +kernel
theorem dX12_soonest_10 : decode cX12_soonest 10 = .ok (.invokevirtual 180, 3) := by decide +kernel
theorem dX12_soonest_13 : decode cX12_soonest 13 = .ok (.ifCond .ne 6, 3) := by decide +kernel
theorem dX12_soonest_16 : decode cX12_soonest 16 = .ok (.ldc 176, 2) := by decide +kernel
theorem dX12_soonest_18 : decode cX12_soonest 18 = .ok (.ireturn, 1) := by decide +kernel
theorem dX12_soonest_19 : decode cX12_soonest 19 = .ok (.aload_n 0, 1) := by decide +kernel
theorem dX12_soonest_20 : decode cX12_soonest 20 = .ok (.getfield 16, 3) := by decide +kernel
theorem dX12_soonest_23 : decode cX12_soonest 23 = .ok (.bipush 7, 2) := by decide +kernel
theorem dX12_soonest_25 : decode cX12_soonest 25 = .ok (.iload_n 1, 1) := by decide +kernel
theorem dX12_soonest_26 : decode cX12_soonest 26 = .ok (.iadd, 1) := by decide +kernel
theorem dX12_soonest_27 : decode cX12_soonest 27 = .ok (.iaload, 1) := by decide +kernel
theorem dX12_soonest_28 : decode cX12_soonest 28 = .ok (.ifCond .eq 6, 3) := by decide +kernel
theorem dX12_soonest_31 : decode cX12_soonest 31 = .ok (.ldc 192, 2) := by decide +kernel
theorem dX12_soonest_33 : decode cX12_soonest 33 = .ok (.ireturn, 1) := by decide +kernel
theorem dX12_soonest_34 : decode cX12_soonest 34 = .ok (.aload_n 0, 1) := by decide +kernel
theorem dX12_soonest_35 : decode cX12_soonest 35 = .ok (.invokevirtual 236, 3) := by decide +kernel
theorem dX12_soonest_38 : decode cX12_soonest 38 = .ok (.iconst 0, 1) := by decide +kernel
theorem dX12_soonest_39 : decode cX12_soonest 39 = .ok (.istore_n 3, 1) := by decide +kernel
theorem dX12_soonest_40 : decode cX12_soonest 40 = .ok (.iload_n 3, 1) := by decide +kernel
theorem dX12_soonest_41 : decode cX12_soonest 41 = .ok (.sipush 201, 3) := by decide +kernel
theorem dX12_soonest_44 : decode cX12_soonest 44 = .ok (.if_icmp .ge 32, 3) := by decide +kernel
theorem dX12_soonest_47 : decode cX12_soonest 47 = .ok (.aload_n 0, 1) := by decide +kernel
theorem dX12_soonest_48 : decode cX12_soonest 48 = .ok (.aload_n 0, 1) := by decide +kernel
theorem dX12_soonest_49 : decode cX12_soonest 49 = .ok (.getfield 19, 3) := by decide +kernel
theorem dX12_soonest_52 : decode cX12_soonest 52 = .ok (.iload_n 2, 1) := by decide +kernel
theorem dX12_soonest_53 : decode cX12_soonest 53 = .ok (.iload_n 1, 1) := by decide +kernel
theorem dX12_soonest_54 : decode cX12_soonest 54 = .ok (.invokevirtual 151, 3) := by decide +kernel
theorem dX12_soonest_57 : decode cX12_soonest 57 = .ok (.ifCond .eq 5, 3) := by decide +kernel
theorem dX12_soonest_60 : decode cX12_soonest 60 = .ok (.iload_n 3, 1) := by decide +kernel
theorem dX12_soonest_61 : decode cX12_soonest 61 = .ok (.ireturn, 1) := by decide +kernel
theorem dX12_soonest_62 : decode cX12_soonest 62 = .ok (.aload_n 0, 1) := by decide +kernel
theorem dX12_soonest_63 : decode cX12_soonest 63 = .ok (.aload_n 0, 1) := by decide +kernel
theorem dX12_soonest_64 : decode cX12_soonest 64 = .ok (.getfield 19, 3) := by decide +kernel
theorem dX12_soonest_67 : decode cX12_soonest 67 = .ok (.invokevirtual 208, 3) := by decide +kernel
theorem dX12_soonest_70 : decode cX12_soonest 70 = .ok (.iinc 3 1, 3) := by decide +kernel
theorem dX12_soonest_73 : decode cX12_soonest 73 = .ok (.goto (-33), 3) := by decide +kernel
theorem dX12_soonest_76 : decode cX12_soonest 76 = .ok (.iconst (-1), 1) := by decide +kernel
theorem dX12_soonest_77 : decode cX12_soonest 77 = .ok (.ireturn, 1) := by decide +kernel
theorem dX12_weighsMatches_0 : decode cX12_weighsMatches 0 = .ok (.aload_n 0, 1) := by decide +kernel
theorem dX12_weighsMatches_1 : decode cX12_weighsMatches 1 = .ok (.getfield 7, 3) := by decide +kernel
theorem dX12_weighsMatches_4 : decode cX12_weighsMatches 4 = .ok (.iconst 2, 1) := by decide +kernel
theorem dX12_weighsMatches_5 : decode cX12_weighsMatches 5 = .ok (.iaload, 1) := by decide +kernel
theorem dX12_weighsMatches_6 : decode cX12_weighsMatches 6 = .ok (.istore_n 1, 1) := by decide +kernel
theorem dX12_weighsMatches_7 : decode cX12_weighsMatches 7 = .ok (.iconst 0, 1) := by decide +kernel
theorem dX12_weighsMatches_8 : decode cX12_weighsMatches 8 = .ok (.istore_n 2, 1) := by decide +kernel
theorem dX12_weighsMatches_9 : decode cX12_weighsMatches 9 = .ok (.iload_n 2, 1) := by decide +kernel
theorem dX12_weighsMatches_10 : decode cX12_weighsMatches 10 = .ok (.iconst 1, 1) := by decide +kernel
theorem dX12_weighsMatches_11 : decode cX12_weighsMatches 11 = .ok (.iload_n 1, 1) := by decide +kernel
theorem dX12_weighsMatches_12 : decode cX12_weighsMatches 12 = .ok (.ishl, 1) := by decide +kernel
theorem dX12_weighsMatches_13 : decode cX12_weighsMatches 13 = .ok (.if_icmp .ge 26, 3) := by decide +kernel
theorem dX12_weighsMatches_16 : decode cX12_weighsMatches 16 = .ok (.aload_n 0, 1) := by decide +kernel
theorem dX12_weighsMatches_17 : decode cX12_weighsMatches 17 = .ok (.getfield 45, 3) := by decide +kernel
theorem dX12_weighsMatches_20 : decode cX12_weighsMatches 20 = .ok (.bipush 64, 2) := by decide +kernel
theorem dX12_weighsMatches_22 : decode cX12_weighsMatches 22 = .ok (.aload_n 0, 1) := by decide +kernel
theorem dX12_weighsMatches_23 : decode cX12_weighsMatches 23 = .ok (.getfield 7, 3) := by decide +kernel
theorem dX12_weighsMatches_26 : decode cX12_weighsMatches 26 = .ok (.iconst 1, 1) := by decide +kernel
theorem dX12_weighsMatches_27 : decode cX12_weighsMatches 27 = .ok (.iaload, 1) := by decide +kernel
theorem dX12_weighsMatches_28 : decode cX12_weighsMatches 28 = .ok (.imul, 1) := by decide +kernel
theorem dX12_weighsMatches_29 : decode cX12_weighsMatches 29 = .ok (.iload_n 2, 1) := by decide +kernel
theorem dX12_weighsMatches_30 : decode cX12_weighsMatches 30 = .ok (.iadd, 1) := by decide +kernel
theorem dX12_weighsMatches_31 : decode cX12_weighsMatches 31 = .ok (.iconst 0, 1) := by decide +kernel
theorem dX12_weighsMatches_32 : decode cX12_weighsMatches 32 = .ok (.iastore, 1) := by decide +kernel
theorem dX12_weighsMatches_33 : decode cX12_weighsMatches 33 = .ok (.iinc 2 1, 3) := by decide +kernel
theorem dX12_weighsMatches_36 : decode cX12_weighsMatches 36 = .ok (.goto (-27), 3) := by decide +kernel
theorem dX12_weighsMatches_39 : decode cX12_weighsMatches 39 = .ok (.aload_n 0, 1) := by decide +kernel
theorem dX12_weighsMatches_40 : decode cX12_weighsMatches 40 = .ok (.getfield 7, 3) := by decide +kernel
theorem dX12_weighsMatches_43 : decode cX12_weighsMatches 43 = .ok (.iconst 1, 1) := by decide +kernel
theorem dX12_weighsMatches_44 : decode cX12_weighsMatches 44 = .ok (.iaload, 1) := by decide +kernel
theorem dX12_weighsMatches_45 : decode cX12_weighsMatches 45 = .ok (.iconst 1, 1) := by decide +kernel
theorem dX12_weighsMatches_46 : decode cX12_weighsMatches 46 = .ok (.isub, 1) := by decide +kernel
theorem dX12_weighsMatches_47 : decode cX12_weighsMatches 47 = .ok (.istore_n 2, 1) := by decide +kernel
theorem dX12_weighsMatches_48 : decode cX12_weighsMatches 48 = .ok (.iload_n 2, 1) := by decide +kernel
theorem dX12_weighsMatches_49 : decode cX12_weighsMatches 49 = .ok (.ifCond .lt 133, 3) := by decide +kernel
theorem dX12_weighsMatches_52 : decode cX12_weighsMatches 52 = .ok (.aload_n 0, 1) := by decide +kernel
theorem dX12_weighsMatches_53 : decode cX12_weighsMatches 53 = .ok (.iload_n 2, 1) := by decide +kernel
theorem dX12_weighsMatches_54 : decode cX12_weighsMatches 54 = .ok (.invokevirtual 158, 3) := by decide +kernel
theorem dX12_weighsMatches_57 : decode cX12_weighsMatches 57 = .ok (.istore_n 3, 1) := by decide +kernel
theorem dX12_weighsMatches_58 : decode cX12_weighsMatches 58 = .ok (.iconst 0, 1) := by decide +kernel
theorem dX12_weighsMatches_59 : decode cX12_weighsMatches 59 = .ok (.istore 4, 2) := by decide +kernel
theorem dX12_weighsMatches_61 : decode cX12_weighsMatches 61 = .ok (.iload 4, 2) := by decide +kernel
theorem dX12_weighsMatches_63 : decode cX12_weighsMatches 63 = .ok (.iconst 1, 1) := by decide +kernel
theorem dX12_weighsMatches_64 : decode cX12_weighsMatches 64 = .ok (.iload_n 1, 1) := by decide +kernel
theorem dX12_weighsMatches_65 : decode cX12_weighsMatches 65 = .ok (.ishl, 1) := by decide +kernel
theorem dX12_weighsMatches_66 : decode cX12_weighsMatches 66 = .ok (.if_icmp .ge 110, 3) := by decide +kernel
theorem dX12_weighsMatches_69 : decode cX12_weighsMatches 69 = .ok (.aload_n 0, 1) := by decide +kernel
theorem dX12_weighsMatches_70 : decode cX12_weighsMatches 70 = .ok (.getfield 45, 3) := by decide +kernel
theorem dX12_weighsMatches_73 : decode cX12_weighsMatches 73 = .ok (.bipush 64, 2) := by decide +kernel
theorem dX12_weighsMatches_75 : decode cX12_weighsMatches 75 = .ok (.iload_n 2, 1) := by decide +kernel
theorem dX12_weighsMatches_76 : decode cX12_weighsMatches 76 = .ok (.iconst 1, 1) := by decide +kernel
theorem dX12_weighsMatches_77 : decode cX12_weighsMatches 77 = .ok (.iadd, 1) := by decide +kernel
theorem dX12_weighsMatches_78 : decode cX12_weighsMatches 78 = .ok (.imul, 1) := by decide +kernel
theorem dX12_weighsMatches_79 : decode cX12_weighsMatches 79 = .ok (.iload 4, 2) := by decide +kernel
theorem dX12_weighsMatches_81 : decode cX12_weighsMatches 81 = .ok (.iadd, 1) := by decide +kernel
theorem dX12_weighsMatches_82 : decode cX12_weighsMatches 82 = .ok (.iaload, 1) := by decide +kernel
theorem dX12_weighsMatches_83 : decode cX12_weighsMatches 83 = .ok (.istore 5, 2) := by decide +kernel
theorem dX12_weighsMatches_85 : decode cX12_weighsMatches 85 = .ok (.iconst 0, 1) := by decide +kernel
theorem dX12_weighsMatches_86 : decode cX12_weighsMatches 86 = .ok (.istore 6, 2) := by decide +kernel
theorem dX12_weighsMatches_88 : decode cX12_weighsMatches 88 = .ok (.iload 6, 2) := by decide +kernel
theorem dX12_weighsMatches_90 : decode cX12_weighsMatches 90 = .ok (.iload_n 1, 1) := by decide +kernel
theorem dX12_weighsMatches_91 : decode cX12_weighsMatches 91 = .ok (.if_icmp .ge 65, 3) := by decide +kernel
theorem dX12_weighsMatches_94 : decode cX12_weighsMatches 94 = .ok (.iload_n 3, 1) := by decide +kernel
theorem dX12_weighsMatches_95 : decode cX12_weighsMatches 95 = .ok (.iload 4, 2) := by decide +kernel
theorem dX12_weighsMatches_97 : decode cX12_weighsMatches 97 = .ok (.iconst (-1), 1) := by decide +kernel
theorem dX12_weighsMatches_98 : decode cX12_weighsMatches 98 = .ok (.ixor, 1) := by decide +kernel
theorem dX12_weighsMatches_99 : decode cX12_weighsMatches 99 = .ok (.iand, 1) := by decide +kernel
theorem dX12_weighsMatches_100 : decode cX12_weighsMatches 100 = .ok (.iload 6, 2) := by decide +kernel
theorem dX12_weighsMatches_102 : decode cX12_weighsMatches 102 = .ok (.invokestatic 132, 3) := by decide +kernel
theorem dX12_weighsMatches_105 : decode cX12_weighsMatches 105 = .ok (.ifCond .eq 45, 3) := by decide +kernel
theorem dX12_weighsMatches_108 : decode cX12_weighsMatches 108 = .ok (.iload 5, 2) := by decide +kernel
theorem dX12_weighsMatches_110 : decode cX12_weighsMatches 110 = .ok (.sipush 10000, 3) := by decide +kernel
theorem dX12_weighsMatches_113 : decode cX12_weighsMatches 113 = .ok (.aload_n 0, 1) := by decide +kernel
theorem dX12_weighsMatches_114 : decode cX12_weighsMatches 114 = .ok (.aload_n 0, 1) := by decide +kernel
theorem dX12_weighsMatches_115 : decode cX12_weighsMatches 115 = .ok (.getfield 16, 3) := by decide +kernel
theorem dX12_weighsMatches_118 : decode cX12_weighsMatches 118 = .ok (.iload 6, 2) := by decide +kernel
theorem dX12_weighsMatches_120 : decode cX12_weighsMatches 120 = .ok (.iload_n 2, 1) := by decide +kernel
theorem dX12_weighsMatches_121 : decode cX12_weighsMatches 121 = .ok (.invokevirtual 144, 3) := by decide +kernel
theorem dX12_weighsMatches_124 : decode cX12_weighsMatches 124 = .ok (.iadd, 1) := by decide +kernel
theorem dX12_weighsMatches_125 : decode cX12_weighsMatches 125 = .ok (.aload_n 0, 1) := by decide +kernel
theorem dX12_weighsMatches_126 : decode cX12_weighsMatches 126 = .ok (.getfield 45, 3) := by decide +kernel
theorem dX12_weighsMatches_129 : decode cX12_weighsMatches 129 = .ok (.bipush 64, 2) := by decide +kernel
theorem dX12_weighsMatches_131 : decode cX12_weighsMatches 131 = .ok (.iload_n 2, 1) := by decide +kernel
theorem dX12_weighsMatches_132 : decode cX12_weighsMatches 132 = .ok (.iconst 1, 1) := by decide +kernel
theorem dX12_weighsMatches_133 : decode cX12_weighsMatches 133 = .ok (.iadd, 1) := by decide +kernel
theorem dX12_weighsMatches_134 : decode cX12_weighsMatches 134 = .ok (.imul, 1) := by decide +kernel
theorem dX12_weighsMatches_135 : decode cX12_weighsMatches 135 = .ok (.iload 4, 2) := by decide +kernel
theorem dX12_weighsMatches_137 : decode cX12_weighsMatches 137 = .ok (.iconst 1, 1) := by decide +kernel
theorem dX12_weighsMatches_138 : decode cX12_weighsMatches 138 = .ok (.iload 6, 2) := by decide +kernel
theorem dX12_weighsMatches_140 : decode cX12_weighsMatches 140 = .ok (.ishl, 1) := by decide +kernel
theorem dX12_weighsMatches_141 : decode cX12_weighsMatches 141 = .ok (.ior, 1) := by decide +kernel
theorem dX12_weighsMatches_142 : decode cX12_weighsMatches 142 = .ok (.iadd, 1) := by decide +kernel
theorem dX12_weighsMatches_143 : decode cX12_weighsMatches 143 = .ok (.iaload, 1) := by decide +kernel
theorem dX12_weighsMatches_144 : decode cX12_weighsMatches 144 = .ok (.iadd, 1) := by decide +kernel
theorem dX12_weighsMatches_145 : decode cX12_weighsMatches 145 = .ok (.invokestatic 239, 3) := by decide +kernel
theorem dX12_weighsMatches_148 : decode cX12_weighsMatches 148 = .ok (.istore 5, 2) := by decide +kernel
theorem dX12_weighsMatches_150 : decode cX12_weighsMatches 150 = .ok (.iinc 6 1, 3) := by decide +kernel
theorem dX12_weighsMatches_153 : decode cX12_weighsMatches 153 = .ok (.goto (-65), 3) := by decide +kernel
theorem dX12_weighsMatches_156 : decode cX12_weighsMatches 156 = .ok (.aload_n 0, 1) := by decide +kernel
theorem dX12_weighsMatches_157 : decode cX12_weighsMatches 157 = .ok (.getfield 45, 3) := by decide +kernel
theorem dX12_weighsMatches_160 : decode cX12_weighsMatches 160 = .ok (.bipush 64, 2) := by decide +kernel
theorem dX12_weighsMatches_162 : decode cX12_weighsMatches 162 = .ok (.iload_n 2, 1) := by decide +kernel
theorem dX12_weighsMatches_163 : decode cX12_weighsMatches 163 = .ok (.imul, 1) := by decide +kernel
theorem dX12_weighsMatches_164 : decode cX12_weighsMatches 164 = .ok (.iload 4, 2) := by decide +kernel
theorem dX12_weighsMatches_166 : decode cX12_weighsMatches 166 = .ok (.iadd, 1) := by decide +kernel
theorem dX12_weighsMatches_167 : decode cX12_weighsMatches 167 = .ok (.iload 5, 2) := by decide +kernel
theorem dX12_weighsMatches_169 : decode cX12_weighsMatches 169 = .ok (.iastore, 1) := by decide +kernel
theorem dX12_weighsMatches_170 : decode cX12_weighsMatches 170 = .ok (.iinc 4 1, 3) := by decide +kernel
theorem dX12_weighsMatches_173 : decode cX12_weighsMatches 173 = .ok (.goto (-112), 3) := by decide +kernel
theorem dX12_weighsMatches_176 : decode cX12_weighsMatches 176 = .ok (.iinc 2 (-1), 3) := by decide +kernel
theorem dX12_weighsMatches_179 : decode cX12_weighsMatches 179 = .ok (.goto (-131), 3) := by decide +kernel
theorem dX12_weighsMatches_182 : decode cX12_weighsMatches 182 = .ok (.return_, 1) := by decide +kernel
theorem dX12_matched_0 : decode cX12_matched 0 = .ok (.iconst 0, 1) := by decide +kernel
theorem dX12_matched_1 : decode cX12_matched 1 = .ok (.istore_n 2, 1) := by decide +kernel
theorem dX12_matched_2 : decode cX12_matched 2 = .ok (.iconst (-1), 1) := by decide +kernel
theorem dX12_matched_3 : decode cX12_matched 3 = .ok (.istore_n 3, 1) := by decide +kernel
theorem dX12_matched_4 : decode cX12_matched 4 = .ok (.iconst 0, 1) := by decide +kernel
theorem dX12_matched_5 : decode cX12_matched 5 = .ok (.istore 4, 2) := by decide +kernel
theorem dX12_matched_7 : decode cX12_matched 7 = .ok (.iload 4, 2) := by decide +kernel
theorem dX12_matched_9 : decode cX12_matched 9 = .ok (.iload_n 1, 1) := by decide +kernel
theorem dX12_matched_10 : decode cX12_matched 10 = .ok (.if_icmp .gt 143, 3) := by decide +kernel
theorem dX12_matched_13 : decode cX12_matched 13 = .ok (.iconst (-1), 1) := by decide +kernel
theorem dX12_matched_14 : decode cX12_matched 14 = .ok (.istore_n 3, 1) := by decide +kernel
theorem dX12_matched_15 : decode cX12_matched 15 = .ok (.iconst 0, 1) := by decide +kernel
theorem dX12_matched_16 : decode cX12_matched 16 = .ok (.istore 5, 2) := by decide +kernel
theorem dX12_matched_18 : decode cX12_matched 18 = .ok (.iload 5, 2) := by decide +kernel
theorem dX12_matched_20 : decode cX12_matched 20 = .ok (.aload_n 0, 1) := by decide +kernel
theorem dX12_matched_21 : decode cX12_matched 21 = .ok (.getfield 7, 3) := by decide +kernel
theorem dX12_matched_24 : decode cX12_matched 24 = .ok (.iconst 2, 1) := by decide +kernel
theorem dX12_matched_25 : decode cX12_matched 25 = .ok (.iaload, 1) := by decide +kernel
theorem dX12_matched_26 : decode cX12_matched 26 = .ok (.if_icmp .ge 106, 3) := by decide +kernel
theorem dX12_matched_29 : decode cX12_matched 29 = .ok (.iload_n 3, 1) := by decide +kernel
theorem dX12_matched_30 : decode cX12_matched 30 = .ok (.iconst (-1), 1) := by decide +kernel
theorem dX12_matched_31 : decode cX12_matched 31 = .ok (.if_icmp .ne 101, 3) := by decide +kernel
theorem dX12_matched_34 : decode cX12_matched 34 = .ok (.aload_n 0, 1) := by decide +kernel
theorem dX12_matched_35 : decode cX12_matched 35 = .ok (.iload 4, 2) := by decide +kernel
theorem dX12_matched_37 : decode cX12_matched 37 = .ok (.invokevirtual 158, 3) := by decide +kernel
theorem dX12_matched_40 : decode cX12_matched 40 = .ok (.iload_n 2, 1) := by decide +kernel
theorem dX12_matched_41 : decode cX12_matched 41 = .ok (.iconst (-1), 1) := by decide +kernel
theorem dX12_matched_42 : decode cX12_matched 42 = .ok (.ixor, 1) := by decide +kernel
theorem dX12_matched_43 : decode cX12_matched 43 = .ok (.iand, 1) := by decide +kernel
theorem dX12_matched_44 : decode cX12_matched 44 = .ok (.iload 5, 2) := by decide +kernel
theorem dX12_matched_46 : decode cX12_matched 46 = .ok (.invokestatic 132, 3) := by decide +kernel
theorem dX12_matched_49 : decode cX12_matched 49 = .ok (.istore 6, 2) := by decide +kernel
theorem dX12_matched_51 : decode cX12_matched 51 = .ok (.iload 6, 2) := by decide +kernel
theorem dX12_matched_53 : decode cX12_matched 53 = .ok (.ifCond .eq 58, 3) := by decide +kernel
theorem dX12_matched_56 : decode cX12_matched 56 = .ok (.sipush 10000, 3) := by decide +kernel
theorem dX12_matched_59 : decode cX12_matched 59 = .ok (.aload_n 0, 1) := by decide +kernel
theorem dX12_matched_60 : decode cX12_matched 60 = .ok (.aload_n 0, 1) := by decide +kernel
theorem dX12_matched_61 : decode cX12_matched 61 = .ok (.getfield 16, 3) := by decide +kernel
theorem dX12_matched_64 : decode cX12_matched 64 = .ok (.iload 5, 2) := by decide +kernel
theorem dX12_matched_66 : decode cX12_matched 66 = .ok (.iload 4, 2) := by decide +kernel
theorem dX12_matched_68 : decode cX12_matched 68 = .ok (.invokevirtual 144, 3) := by decide +kernel
theorem dX12_matched_71 : decode cX12_matched 71 = .ok (.iadd, 1) := by decide +kernel
theorem dX12_matched_72 : decode cX12_matched 72 = .ok (.aload_n 0, 1) := by decide +kernel
theorem dX12_matched_73 : decode cX12_matched 73 = .ok (.getfield 45, 3) := by decide +kernel
theorem dX12_matched_76 : decode cX12_matched 76 = .ok (.bipush 64, 2) := by decide +kernel
theorem dX12_matched_78 : decode cX12_matched 78 = .ok (.iload 4, 2) := by decide +kernel
theorem dX12_matched_80 : decode cX12_matched 80 = .ok (.iconst 1, 1) := by decide +kernel
theorem dX12_matched_81 : decode cX12_matched 81 = .ok (.iadd, 1) := by decide +kernel
theorem dX12_matched_82 : decode cX12_matched 82 = .ok (.imul, 1) := by decide +kernel
theorem dX12_matched_83 : decode cX12_matched 83 = .ok (.iload_n 2, 1) := by decide +kernel
theorem dX12_matched_84 : decode cX12_matched 84 = .ok (.iconst 1, 1) := by decide +kernel
theorem dX12_matched_85 : decode cX12_matched 85 = .ok (.iload 5, 2) := by decide +kernel
theorem dX12_matched_87 : decode cX12_matched 87 = .ok (.ishl, 1) := by decide +kernel
theorem dX12_matched_88 : decode cX12_matched 88 = .ok (.ior, 1) := by decide +kernel
theorem dX12_matched_89 : decode cX12_matched 89 = .ok (.iadd, 1) := by decide +kernel
theorem dX12_matched_90 : decode cX12_matched 90 = .ok (.iaload, 1) := by decide +kernel
theorem dX12_matched_91 : decode cX12_matched 91 = .ok (.iadd, 1) := by decide +kernel
theorem dX12_matched_92 : decode cX12_matched 92 = .ok (.aload_n 0, 1) := by decide +kernel
theorem dX12_matched_93 : decode cX12_matched 93 = .ok (.getfield 45, 3) := by decide +kernel
theorem dX12_matched_96 : decode cX12_matched 96 = .ok (.bipush 64, 2) := by decide +kernel
theorem dX12_matched_98 : decode cX12_matched 98 = .ok (.iload 4, 2) := by decide +kernel
theorem dX12_matched_100 : decode cX12_matched 100 = .ok (.imul, 1) := by decide +kernel
theorem dX12_matched_101 : decode cX12_matched 101 = .ok (.iload_n 2, 1) := by decide +kernel
theorem dX12_matched_102 : decode cX12_matched 102 = .ok (.iadd, 1) := by decide +kernel
theorem dX12_matched_103 : decode cX12_matched 103 = .ok (.iaload, 1) := by decide +kernel
theorem dX12_matched_104 : decode cX12_matched 104 = .ok (.if_icmp .ne 7, 3) := by decide +kernel
theorem dX12_matched_107 : decode cX12_matched 107 = .ok (.iconst 1, 1) := by decide +kernel
theorem dX12_matched_108 : decode cX12_matched 108 = .ok (.goto 4, 3) := by decide +kernel
theorem dX12_matched_111 : decode cX12_matched 111 = .ok (.iconst 0, 1) := by decide +kernel
theorem dX12_matched_112 : decode cX12_matched 112 = .ok (.istore 7, 2) := by decide +kernel
theorem dX12_matched_114 : decode cX12_matched 114 = .ok (.iload 7, 2) := by decide +kernel
theorem dX12_matched_116 : decode cX12_matched 116 = .ok (.ifCond .eq 8, 3) := by decide +kernel
theorem dX12_matched_119 : decode cX12_matched 119 = .ok (.iload 5, 2) := by decide +kernel
theorem dX12_matched_121 : decode cX12_matched 121 = .ok (.goto 4, 3) := by decide +kernel
theorem dX12_matched_124 : decode cX12_matched 124 = .ok (.iconst (-1), 1) := by decide +kernel
theorem dX12_matched_125 : decode cX12_matched 125 = .ok (.istore_n 3, 1) := by decide +kernel
theorem dX12_matched_126 : decode cX12_matched 126 = .ok (.iinc 5 1, 3) := by decide +kernel
theorem dX12_matched_129 : decode cX12_matched 129 = .ok (.goto (-111), 3) := by decide +kernel
theorem dX12_matched_132 : decode cX12_matched 132 = .ok (.iload_n 2, 1) := by decide +kernel
theorem dX12_matched_133 : decode cX12_matched 133 = .ok (.iload_n 3, 1) := by decide +kernel
theorem dX12_matched_134 : decode cX12_matched 134 = .ok (.iconst (-1), 1) := by decide +kernel
theorem dX12_matched_135 : decode cX12_matched 135 = .ok (.if_icmp .ne 7, 3) := by decide +kernel
theorem dX12_matched_138 : decode cX12_matched 138 = .ok (.iconst 0, 1) := by decide +kernel
theorem dX12_matched_139 : decode cX12_matched 139 = .ok (.goto 6, 3) := by decide +kernel
theorem dX12_matched_142 : decode cX12_matched 142 = .ok (.iconst 1, 1) := by decide +kernel
theorem dX12_matched_143 : decode cX12_matched 143 = .ok (.iload_n 3, 1) := by decide +kernel
theorem dX12_matched_144 : decode cX12_matched 144 = .ok (.ishl, 1) := by decide +kernel
theorem dX12_matched_145 : decode cX12_matched 145 = .ok (.ior, 1) := by decide +kernel
theorem dX12_matched_146 : decode cX12_matched 146 = .ok (.istore_n 2, 1) := by decide +kernel
theorem dX12_matched_147 : decode cX12_matched 147 = .ok (.iinc 4 1, 3) := by decide +kernel
theorem dX12_matched_150 : decode cX12_matched 150 = .ok (.goto (-143), 3) := by decide +kernel
theorem dX12_matched_153 : decode cX12_matched 153 = .ok (.iload_n 3, 1) := by decide +kernel
theorem dX12_matched_154 : decode cX12_matched 154 = .ok (.ireturn, 1) := by decide +kernel
theorem dX12_match_0 : decode cX12_match 0 = .ok (.iload_n 1, 1) := by decide +kernel
theorem dX12_match_1 : decode cX12_match 1 = .ok (.i2l, 1) := by decide +kernel
theorem dX12_match_2 : decode cX12_match 2 = .ok (.ldc2_w 242, 3) := by decide +kernel
theorem dX12_match_5 : decode cX12_match 5 = .ok (.aload_n 0, 1) := by decide +kernel
theorem dX12_match_6 : decode cX12_match 6 = .ok (.getfield 7, 3) := by decide +kernel
theorem dX12_match_9 : decode cX12_match 9 = .ok (.iconst 1, 1) := by decide +kernel
theorem dX12_match_10 : decode cX12_match 10 = .ok (.iaload, 1) := by decide +kernel
theorem dX12_match_11 : decode cX12_match 11 = .ok (.iconst 1, 1) := by decide +kernel
theorem dX12_match_12 : decode cX12_match 12 = .ok (.isub, 1) := by decide +kernel
theorem dX12_match_13 : decode cX12_match 13 = .ok (.i2l, 1) := by decide +kernel
theorem dX12_match_14 : decode cX12_match 14 = .ok (.invokestatic 58, 3) := by decide +kernel
theorem dX12_match_17 : decode cX12_match 17 = .ok (.ifCond .ne 6, 3) := by decide +kernel
theorem dX12_match_20 : decode cX12_match 20 = .ok (.ldc 176, 2) := by decide +kernel
theorem dX12_match_22 : decode cX12_match 22 = .ok (.ireturn, 1) := by decide +kernel
theorem dX12_match_23 : decode cX12_match 23 = .ok (.aload_n 0, 1) := by decide +kernel
theorem dX12_match_24 : decode cX12_match 24 = .ok (.invokevirtual 244, 3) := by decide +kernel
theorem dX12_match_27 : decode cX12_match 27 = .ok (.iload_n 1, 1) := by decide +kernel
theorem dX12_match_28 : decode cX12_match 28 = .ok (.iconst (-1), 1) := by decide +kernel
theorem dX12_match_29 : decode cX12_match 29 = .ok (.if_icmp .ne 16, 3) := by decide +kernel
theorem dX12_match_32 : decode cX12_match 32 = .ok (.aload_n 0, 1) := by decide +kernel
theorem dX12_match_33 : decode cX12_match 33 = .ok (.getfield 45, 3) := by decide +kernel
theorem dX12_match_36 : decode cX12_match 36 = .ok (.iconst 0, 1) := by decide +kernel
theorem dX12_match_37 : decode cX12_match 37 = .ok (.iaload, 1) := by decide +kernel
theorem dX12_match_38 : decode cX12_match 38 = .ok (.sipush 10000, 3) := by decide +kernel
theorem dX12_match_41 : decode cX12_match 41 = .ok (.idiv, 1) := by decide +kernel
theorem dX12_match_42 : decode cX12_match 42 = .ok (.goto 27, 3) := by decide +kernel
theorem dX12_match_45 : decode cX12_match 45 = .ok (.iload_n 1, 1) := by decide +kernel
theorem dX12_match_46 : decode cX12_match 46 = .ok (.bipush (-2), 2) := by decide +kernel
theorem dX12_match_48 : decode cX12_match 48 = .ok (.if_icmp .ne 16, 3) := by decide +kernel
theorem dX12_match_51 : decode cX12_match 51 = .ok (.aload_n 0, 1) := by decide +kernel
theorem dX12_match_52 : decode cX12_match 52 = .ok (.getfield 45, 3) := by decide +kernel
theorem dX12_match_55 : decode cX12_match 55 = .ok (.iconst 0, 1) := by decide +kernel
theorem dX12_match_56 : decode cX12_match 56 = .ok (.iaload, 1) := by decide +kernel
theorem dX12_match_57 : decode cX12_match 57 = .ok (.sipush 10000, 3) := by decide +kernel
theorem dX12_match_60 : decode cX12_match 60 = .ok (.irem, 1) := by decide +kernel
theorem dX12_match_61 : decode cX12_match 61 = .ok (.goto 8, 3) := by decide +kernel
theorem dX12_match_64 : decode cX12_match 64 = .ok (.aload_n 0, 1) := by decide +kernel
theorem dX12_match_65 : decode cX12_match 65 = .ok (.iload_n 1, 1) := by decide +kernel
theorem dX12_match_66 : decode cX12_match 66 = .ok (.invokevirtual 247, 3) := by decide +kernel
theorem dX12_match_69 : decode cX12_match 69 = .ok (.ireturn, 1) := by decide +kernel
theorem dX12_nextOrder_0 : decode cX12_nextOrder 0 = .ok (.iload_n 1, 1) := by decide +kernel
theorem dX12_nextOrder_1 : decode cX12_nextOrder 1 = .ok (.iconst 2, 1) := by decide +kernel
theorem dX12_nextOrder_2 : decode cX12_nextOrder 2 = .ok (.isub, 1) := by decide +kernel
theorem dX12_nextOrder_3 : decode cX12_nextOrder 3 = .ok (.istore_n 2, 1) := by decide +kernel
theorem dX12_nextOrder_4 : decode cX12_nextOrder 4 = .ok (.iload_n 2, 1) := by decide +kernel
theorem dX12_nextOrder_5 : decode cX12_nextOrder 5 = .ok (.ifCond .lt 26, 3) := by decide +kernel
theorem dX12_nextOrder_8 : decode cX12_nextOrder 8 = .ok (.aload_n 0, 1) := by decide +kernel
theorem dX12_nextOrder_9 : decode cX12_nextOrder 9 = .ok (.getfield 48, 3) := by decide +kernel
theorem dX12_nextOrder_12 : decode cX12_nextOrder 12 = .ok (.iload_n 2, 1) := by decide +kernel
theorem dX12_nextOrder_13 : decode cX12_nextOrder 13 = .ok (.iaload, 1) := by decide +kernel
theorem dX12_nextOrder_14 : decode cX12_nextOrder 14 = .ok (.aload_n 0, 1) := by decide +kernel
theorem dX12_nextOrder_15 : decode cX12_nextOrder 15 = .ok (.getfield 48, 3) := by decide +kernel
theorem dX12_nextOrder_18 : decode cX12_nextOrder 18 = .ok (.iload_n 2, 1) := by decide +kernel
theorem dX12_nextOrder_19 : decode cX12_nextOrder 19 = .ok (.iconst 1, 1) := by decide +kernel
theorem dX12_nextOrder_20 : decode cX12_nextOrder 20 = .ok (.iadd, 1) := by decide +kernel
theorem dX12_nextOrder_21 : decode cX12_nextOrder 21 = .ok (.iaload, 1) := by decide +kernel
theorem dX12_nextOrder_22 : decode cX12_nextOrder 22 = .ok (.if_icmp .le 9, 3) := by decide +kernel
theorem dX12_nextOrder_25 : decode cX12_nextOrder 25 = .ok (.iinc 2 (-1), 3) := by decide +kernel
theorem dX12_nextOrder_28 : decode cX12_nextOrder 28 = .ok (.goto (-24), 3) := by decide +kernel
theorem dX12_nextOrder_31 : decode cX12_nextOrder 31 = .ok (.iload_n 2, 1) := by decide +kernel
theorem dX12_nextOrder_32 : decode cX12_nextOrder 32 = .ok (.ifCond .ge 5, 3) := by decide +kernel
theorem dX12_nextOrder_35 : decode cX12_nextOrder 35 = .ok (.iconst 0, 1) := by decide +kernel
theorem dX12_nextOrder_36 : decode cX12_nextOrder 36 = .ok (.ireturn, 1) := by decide +kernel
theorem dX12_nextOrder_37 : decode cX12_nextOrder 37 = .ok (.iload_n 1, 1) := by decide +kernel
theorem dX12_nextOrder_38 : decode cX12_nextOrder 38 = .ok (.iconst 1, 1) := by decide +kernel
theorem dX12_nextOrder_39 : decode cX12_nextOrder 39 = .ok (.isub, 1) := by decide +kernel
theorem dX12_nextOrder_40 : decode cX12_nextOrder 40 = .ok (.istore_n 3, 1) := by decide +kernel
theorem dX12_nextOrder_41 : decode cX12_nextOrder 41 = .ok (.aload_n 0, 1) := by decide +kernel
theorem dX12_nextOrder_42 : decode cX12_nextOrder 42 = .ok (.getfield 48, 3) := by decide +kernel
theorem dX12_nextOrder_45 : decode cX12_nextOrder 45 = .ok (.iload_n 3, 1) := by decide +kernel
theorem dX12_nextOrder_46 : decode cX12_nextOrder 46 = .ok (.iaload, 1) := by decide +kernel
theorem dX12_nextOrder_47 : decode cX12_nextOrder 47 = .ok (.aload_n 0, 1) := by decide +kernel
theorem dX12_nextOrder_48 : decode cX12_nextOrder 48 = .ok (.getfield 48, 3) := by decide +kernel
theorem dX12_nextOrder_51 : decode cX12_nextOrder 51 = .ok (.iload_n 2, 1) := by decide +kernel
theorem dX12_nextOrder_52 : decode cX12_nextOrder 52 = .ok (.iaload, 1) := by decide +kernel
theorem dX12_nextOrder_53 : decode cX12_nextOrder 53 = .ok (.if_icmp .ge 9, 3) := by decide +kernel
theorem dX12_nextOrder_56 : decode cX12_nextOrder 56 = .ok (.iinc 3 (-1), 3) := by decide +kernel
theorem dX12_nextOrder_59 : decode cX12_nextOrder 59 = .ok (.goto (-18), 3) := by decide +kernel
theorem dX12_nextOrder_62 : decode cX12_nextOrder 62 = .ok (.aload_n 0, 1) := by decide +kernel
theorem dX12_nextOrder_63 : decode cX12_nextOrder 63 = .ok (.getfield 48, 3) := by decide +kernel
theorem dX12_nextOrder_66 : decode cX12_nextOrder 66 = .ok (.iload_n 2, 1) := by decide +kernel
theorem dX12_nextOrder_67 : decode cX12_nextOrder 67 = .ok (.iaload, 1) := by decide +kernel
theorem dX12_nextOrder_68 : decode cX12_nextOrder 68 = .ok (.istore 4, 2) := by decide +kernel
theorem dX12_nextOrder_70 : decode cX12_nextOrder 70 = .ok (.aload_n 0, 1) := by decide +kernel
theorem dX12_nextOrder_71 : decode cX12_nextOrder 71 = .ok (.getfield 48, 3) := by decide +kernel
theorem dX12_nextOrder_74 : decode cX12_nextOrder 74 = .ok (.iload_n 2, 1) := by decide +kernel
theorem dX12_nextOrder_75 : decode cX12_nextOrder 75 = .ok (.aload_n 0, 1) := by decide +kernel
theorem dX12_nextOrder_76 : decode cX12_nextOrder 76 = .ok (.getfield 48, 3) := by decide +kernel
theorem dX12_nextOrder_79 : decode cX12_nextOrder 79 = .ok (.iload_n 3, 1) := by decide +kernel
theorem dX12_nextOrder_80 : decode cX12_nextOrder 80 = .ok (.iaload, 1) := by decide +kernel
theorem dX12_nextOrder_81 : decode cX12_nextOrder 81 = .ok (.iastore, 1) := by decide +kernel
theorem dX12_nextOrder_82 : decode cX12_nextOrder 82 = .ok (.aload_n 0, 1) := by decide +kernel
theorem dX12_nextOrder_83 : decode cX12_nextOrder 83 = .ok (.getfield 48, 3) := by decide +kernel
theorem dX12_nextOrder_86 : decode cX12_nextOrder 86 = .ok (.iload_n 3, 1) := by decide +kernel
theorem dX12_nextOrder_87 : decode cX12_nextOrder 87 = .ok (.iload 4, 2) := by decide +kernel
theorem dX12_nextOrder_89 : decode cX12_nextOrder 89 = .ok (.iastore, 1) := by decide +kernel
theorem dX12_nextOrder_90 : decode cX12_nextOrder 90 = .ok (.iload_n 2, 1) := by decide +kernel
theorem dX12_nextOrder_91 : decode cX12_nextOrder 91 = .ok (.iconst 1, 1) := by decide +kernel
theorem dX12_nextOrder_92 : decode cX12_nextOrder 92 = .ok (.iadd, 1) := by decide +kernel
theorem dX12_nextOrder_93 : decode cX12_nextOrder 93 = .ok (.istore 5, 2) := by decide +kernel
theorem dX12_nextOrder_95 : decode cX12_nextOrder 95 = .ok (.iload_n 1, 1) := by decide +kernel
theorem dX12_nextOrder_96 : decode cX12_nextOrder 96 = .ok (.iconst 1, 1) := by decide +kernel
theorem dX12_nextOrder_97 : decode cX12_nextOrder 97 = .ok (.isub, 1) := by decide +kernel
theorem dX12_nextOrder_98 : decode cX12_nextOrder 98 = .ok (.istore 6, 2) := by decide +kernel
theorem dX12_nextOrder_100 : decode cX12_nextOrder 100 = .ok (.iload 5, 2) := by decide +kernel
theorem dX12_nextOrder_102 : decode cX12_nextOrder 102 = .ok (.iload 6, 2) := by decide +kernel
theorem dX12_nextOrder_104 : decode cX12_nextOrder 104 = .ok (.if_icmp .ge 44, 3) := by decide +kernel
theorem dX12_nextOrder_107 : decode cX12_nextOrder 107 = .ok (.aload_n 0, 1) := by decide +kernel
theorem dX12_nextOrder_108 : decode cX12_nextOrder 108 = .ok (.getfield 48, 3) := by decide +kernel
theorem dX12_nextOrder_111 : decode cX12_nextOrder 111 = .ok (.iload 5, 2) := by decide +kernel
theorem dX12_nextOrder_113 : decode cX12_nextOrder 113 = .ok (.iaload, 1) := by decide +kernel
theorem dX12_nextOrder_114 : decode cX12_nextOrder 114 = .ok (.istore 4, 2) := by decide +kernel
theorem dX12_nextOrder_116 : decode cX12_nextOrder 116 = .ok (.aload_n 0, 1) := by decide +kernel
theorem dX12_nextOrder_117 : decode cX12_nextOrder 117 = .ok (.getfield 48, 3) := by decide +kernel
theorem dX12_nextOrder_120 : decode cX12_nextOrder 120 = .ok (.iload 5, 2) := by decide +kernel
theorem dX12_nextOrder_122 : decode cX12_nextOrder 122 = .ok (.aload_n 0, 1) := by decide +kernel
theorem dX12_nextOrder_123 : decode cX12_nextOrder 123 = .ok (.getfield 48, 3) := by decide +kernel
theorem dX12_nextOrder_126 : decode cX12_nextOrder 126 = .ok (.iload 6, 2) := by decide +kernel
theorem dX12_nextOrder_128 : decode cX12_nextOrder 128 = .ok (.iaload, 1) := by decide +kernel
theorem dX12_nextOrder_129 : decode cX12_nextOrder 129 = .ok (.iastore, 1) := by decide +kernel
theorem dX12_nextOrder_130 : decode cX12_nextOrder 130 = .ok (.aload_n 0, 1) := by decide +kernel
theorem dX12_nextOrder_131 : decode cX12_nextOrder 131 = .ok (.getfield 48, 3) := by decide +kernel
theorem dX12_nextOrder_134 : decode cX12_nextOrder 134 = .ok (.iload 6, 2) := by decide +kernel
theorem dX12_nextOrder_136 : decode cX12_nextOrder 136 = .ok (.iload 4, 2) := by decide +kernel
theorem dX12_nextOrder_138 : decode cX12_nextOrder 138 = .ok (.iastore, 1) := by decide +kernel
theorem dX12_nextOrder_139 : decode cX12_nextOrder 139 = .ok (.iinc 5 1, 3) := by decide +kernel
theorem dX12_nextOrder_142 : decode cX12_nextOrder 142 = .ok (.iinc 6 (-1), 3) := by decide +kernel
theorem dX12_nextOrder_145 : decode cX12_nextOrder 145 = .ok (.goto (-45), 3) := by decide +kernel
theorem dX12_nextOrder_148 : decode cX12_nextOrder 148 = .ok (.iconst 1, 1) := by decide +kernel
theorem dX12_nextOrder_149 : decode cX12_nextOrder 149 = .ok (.ireturn, 1) := by decide +kernel
theorem dX12_rounds_0 : decode cX12_rounds 0 = .ok (.aload_n 0, 1) := by decide +kernel
theorem dX12_rounds_1 : decode cX12_rounds 1 = .ok (.iload_n 1, 1) := by decide +kernel
theorem dX12_rounds_2 : decode cX12_rounds 2 = .ok (.invokevirtual 180, 3) := by decide +kernel
theorem dX12_rounds_5 : decode cX12_rounds 5 = .ok (.ifCond .eq 23, 3) := by decide +kernel
theorem dX12_rounds_8 : decode cX12_rounds 8 = .ok (.iload_n 2, 1) := by decide +kernel
theorem dX12_rounds_9 : decode cX12_rounds 9 = .ok (.i2l, 1) := by decide +kernel
theorem dX12_rounds_10 : decode cX12_rounds 10 = .ok (.lconst 0, 1) := by decide +kernel
theorem dX12_rounds_11 : decode cX12_rounds 11 = .ok (.iconst 1, 1) := by decide +kernel
theorem dX12_rounds_12 : decode cX12_rounds 12 = .ok (.aload_n 0, 1) := by decide +kernel
theorem dX12_rounds_13 : decode cX12_rounds 13 = .ok (.getfield 7, 3) := by decide +kernel
theorem dX12_rounds_16 : decode cX12_rounds 16 = .ok (.iconst 1, 1) := by decide +kernel
theorem dX12_rounds_17 : decode cX12_rounds 17 = .ok (.iaload, 1) := by decide +kernel
theorem dX12_rounds_18 : decode cX12_rounds 18 = .ok (.ishl, 1) := by decide +kernel
theorem dX12_rounds_19 : decode cX12_rounds 19 = .ok (.iconst 1, 1) := by decide +kernel
theorem dX12_rounds_20 : decode cX12_rounds 20 = .ok (.isub, 1) := by decide +kernel
theorem dX12_rounds_21 : decode cX12_rounds 21 = .ok (.i2l, 1) := by decide +kernel
theorem dX12_rounds_22 : decode cX12_rounds 22 = .ok (.invokestatic 58, 3) := by decide +kernel
theorem dX12_rounds_25 : decode cX12_rounds 25 = .ok (.ifCond .ne 6, 3) := by decide +kernel
theorem dX12_rounds_28 : decode cX12_rounds 28 = .ok (.ldc 176, 2) := by decide +kernel
theorem dX12_rounds_30 : decode cX12_rounds 30 = .ok (.ireturn, 1) := by decide +kernel
theorem dX12_rounds_31 : decode cX12_rounds 31 = .ok (.iload_n 3, 1) := by decide +kernel
theorem dX12_rounds_32 : decode cX12_rounds 32 = .ok (.i2l, 1) := by decide +kernel
theorem dX12_rounds_33 : decode cX12_rounds 33 = .ok (.lconst 0, 1) := by decide +kernel
theorem dX12_rounds_34 : decode cX12_rounds 34 = .ok (.lconst 1, 1) := by decide +kernel
theorem dX12_rounds_35 : decode cX12_rounds 35 = .ok (.invokestatic 58, 3) := by decide +kernel
theorem dX12_rounds_38 : decode cX12_rounds 38 = .ok (.ifCond .ne 6, 3) := by decide +kernel
theorem dX12_rounds_41 : decode cX12_rounds 41 = .ok (.ldc 77, 2) := by decide +kernel
theorem dX12_rounds_43 : decode cX12_rounds 43 = .ok (.ireturn, 1) := by decide +kernel
theorem dX12_rounds_44 : decode cX12_rounds 44 = .ok (.iload_n 2, 1) := by decide +kernel
theorem dX12_rounds_45 : decode cX12_rounds 45 = .ok (.aload_n 0, 1) := by decide +kernel
theorem dX12_rounds_46 : decode cX12_rounds 46 = .ok (.iconst 0, 1) := by decide +kernel
theorem dX12_rounds_47 : decode cX12_rounds 47 = .ok (.invokevirtual 154, 3) := by decide +kernel
theorem dX12_rounds_50 : decode cX12_rounds 50 = .ok (.iconst (-1), 1) := by decide +kernel
theorem dX12_rounds_51 : decode cX12_rounds 51 = .ok (.ixor, 1) := by decide +kernel
theorem dX12_rounds_52 : decode cX12_rounds 52 = .ok (.iand, 1) := by decide +kernel
theorem dX12_rounds_53 : decode cX12_rounds 53 = .ok (.ifCond .ne 11, 3) := by decide +kernel
theorem dX12_rounds_56 : decode cX12_rounds 56 = .ok (.iload_n 2, 1) := by decide +kernel
theorem dX12_rounds_57 : decode cX12_rounds 57 = .ok (.invokestatic 161, 3) := by decide +kernel
theorem dX12_rounds_60 : decode cX12_rounds 60 = .ok (.iconst 5, 1) := by decide +kernel
theorem dX12_rounds_61 : decode cX12_rounds 61 = .ok (.if_icmp .le 6, 3) := by decide +kernel
theorem dX12_rounds_64 : decode cX12_rounds 64 = .ok (.ldc 192, 2) := by decide +kernel
theorem dX12_rounds_66 : decode cX12_rounds 66 = .ok (.ireturn, 1) := by decide +kernel
theorem dX12_rounds_67 : decode cX12_rounds 67 = .ok (.iconst 0, 1) := by decide +kernel
theorem dX12_rounds_68 : decode cX12_rounds 68 = .ok (.istore 4, 2) := by decide +kernel
theorem dX12_rounds_70 : decode cX12_rounds 70 = .ok (.iconst 0, 1) := by decide +kernel
theorem dX12_rounds_71 : decode cX12_rounds 71 = .ok (.istore 5, 2) := by decide +kernel
theorem dX12_rounds_73 : decode cX12_rounds 73 = .ok (.iload 5, 2) := by decide +kernel
theorem dX12_rounds_75 : decode cX12_rounds 75 = .ok (.aload_n 0, 1) := by decide +kernel
theorem dX12_rounds_76 : decode cX12_rounds 76 = .ok (.getfield 7, 3) := by decide +kernel
theorem dX12_rounds_79 : decode cX12_rounds 79 = .ok (.iconst 1, 1) := by decide +kernel
theorem dX12_rounds_80 : decode cX12_rounds 80 = .ok (.iaload, 1) := by decide +kernel
theorem dX12_rounds_81 : decode cX12_rounds 81 = .ok (.if_icmp .ge 30, 3) := by decide +kernel
theorem dX12_rounds_84 : decode cX12_rounds 84 = .ok (.iload_n 2, 1) := by decide +kernel
theorem dX12_rounds_85 : decode cX12_rounds 85 = .ok (.iload 5, 2) := by decide +kernel
theorem dX12_rounds_87 : decode cX12_rounds 87 = .ok (.invokestatic 132, 3) := by decide +kernel
theorem dX12_rounds_90 : decode cX12_rounds 90 = .ok (.ifCond .eq 15, 3) := by decide +kernel
theorem dX12_rounds_93 : decode cX12_rounds 93 = .ok (.aload_n 0, 1) := by decide +kernel
theorem dX12_rounds_94 : decode cX12_rounds 94 = .ok (.getfield 48, 3) := by decide +kernel
theorem dX12_rounds_97 : decode cX12_rounds 97 = .ok (.iload 4, 2) := by decide +kernel
theorem dX12_rounds_99 : decode cX12_rounds 99 = .ok (.iload 5, 2) := by decide +kernel
theorem dX12_rounds_101 : decode cX12_rounds 101 = .ok (.iastore, 1) := by decide +kernel
theorem dX12_rounds_102 : decode cX12_rounds 102 = .ok (.iinc 4 1, 3) := by decide +kernel
theorem dX12_rounds_105 : decode cX12_rounds 105 = .ok (.iinc 5 1, 3) := by decide +kernel
theorem dX12_rounds_108 : decode cX12_rounds 108 = .ok (.goto (-35), 3) := by decide +kernel
theorem dX12_rounds_111 : decode cX12_rounds 111 = .ok (.iconst (-1), 1) := by decide +kernel
theorem dX12_rounds_112 : decode cX12_rounds 112 = .ok (.istore 5, 2) := by decide +kernel
theorem dX12_rounds_114 : decode cX12_rounds 114 = .ok (.iconst 0, 1) := by decide +kernel
theorem dX12_rounds_115 : decode cX12_rounds 115 = .ok (.istore 6, 2) := by decide +kernel
theorem dX12_rounds_117 : decode cX12_rounds 117 = .ok (.iconst 1, 1) := by decide +kernel
theorem dX12_rounds_118 : decode cX12_rounds 118 = .ok (.istore 7, 2) := by decide +kernel
theorem dX12_rounds_120 : decode cX12_rounds 120 = .ok (.iload 7, 2) := by decide +kernel
theorem dX12_rounds_122 : decode cX12_rounds 122 = .ok (.ifCond .eq 181, 3) := by decide +kernel
theorem dX12_rounds_125 : decode cX12_rounds 125 = .ok (.iconst 0, 1) := by decide +kernel
theorem dX12_rounds_126 : decode cX12_rounds 126 = .ok (.istore 8, 2) := by decide +kernel
theorem dX12_rounds_128 : decode cX12_rounds 128 = .ok (.iconst 0, 1) := by decide +kernel
theorem dX12_rounds_129 : decode cX12_rounds 129 = .ok (.istore 9, 2) := by decide +kernel
theorem dX12_rounds_131 : decode cX12_rounds 131 = .ok (.aload_n 0, 1) := by decide +kernel
theorem dX12_rounds_132 : decode cX12_rounds 132 = .ok (.invokevirtual 236, 3) := by decide +kernel
theorem dX12_rounds_135 : decode cX12_rounds 135 = .ok (.iconst 0, 1) := by decide +kernel
theorem dX12_rounds_136 : decode cX12_rounds 136 = .ok (.istore 10, 2) := by decide +kernel
theorem dX12_rounds_138 : decode cX12_rounds 138 = .ok (.iload 10, 2) := by decide +kernel
theorem dX12_rounds_140 : decode cX12_rounds 140 = .ok (.iload 4, 2) := by decide +kernel
theorem dX12_rounds_142 : decode cX12_rounds 142 = .ok (.if_icmp .ge 125, 3) := by decide +kernel
theorem dX12_rounds_145 : decode cX12_rounds 145 = .ok (.iload 8, 2) := by decide +kernel
theorem dX12_rounds_147 : decode cX12_rounds 147 = .ok (.aload_n 0, 1) := by decide +kernel
theorem dX12_rounds_148 : decode cX12_rounds 148 = .ok (.aload_n 0, 1) := by decide +kernel
theorem dX12_rounds_149 : decode cX12_rounds 149 = .ok (.getfield 19, 3) := by decide +kernel
theorem dX12_rounds_152 : decode cX12_rounds 152 = .ok (.iload_n 1, 1) := by decide +kernel
theorem dX12_rounds_153 : decode cX12_rounds 153 = .ok (.aload_n 0, 1) := by decide +kernel
theorem dX12_rounds_154 : decode cX12_rounds 154 = .ok (.getfield 48, 3) := by decide +kernel
theorem dX12_rounds_157 : decode cX12_rounds 157 = .ok (.iload 10, 2) := by decide +kernel
theorem dX12_rounds_159 : decode cX12_rounds 159 = .ok (.iaload, 1) := by decide +kernel
theorem dX12_rounds_160 : decode cX12_rounds 160 = .ok (.invokevirtual 151, 3) := by decide +kernel
theorem dX12_rounds_163 : decode cX12_rounds 163 = .ok (.ifCond .eq 7, 3) := by decide +kernel
theorem dX12_rounds_166 : decode cX12_rounds 166 = .ok (.iconst 1, 1) := by decide +kernel
theorem dX12_rounds_167 : decode cX12_rounds 167 = .ok (.goto 4, 3) := by decide +kernel
theorem dX12_rounds_170 : decode cX12_rounds 170 = .ok (.iconst 0, 1) := by decide +kernel
theorem dX12_rounds_171 : decode cX12_rounds 171 = .ok (.iadd, 1) := by decide +kernel
theorem dX12_rounds_172 : decode cX12_rounds 172 = .ok (.istore 8, 2) := by decide +kernel
theorem dX12_rounds_174 : decode cX12_rounds 174 = .ok (.aload_n 0, 1) := by decide +kernel
theorem dX12_rounds_175 : decode cX12_rounds 175 = .ok (.getfield 19, 3) := by decide +kernel
theorem dX12_rounds_178 : decode cX12_rounds 178 = .ok (.bipush 7, 2) := by decide +kernel
theorem dX12_rounds_180 : decode cX12_rounds 180 = .ok (.aload_n 0, 1) := by decide +kernel
theorem dX12_rounds_181 : decode cX12_rounds 181 = .ok (.getfield 48, 3) := by decide +kernel
theorem dX12_rounds_184 : decode cX12_rounds 184 = .ok (.iload 10, 2) := by decide +kernel
theorem dX12_rounds_186 : decode cX12_rounds 186 = .ok (.iaload, 1) := by decide +kernel
theorem dX12_rounds_187 : decode cX12_rounds 187 = .ok (.iadd, 1) := by decide +kernel
theorem dX12_rounds_188 : decode cX12_rounds 188 = .ok (.aload_n 0, 1) := by decide +kernel
theorem dX12_rounds_189 : decode cX12_rounds 189 = .ok (.aload_n 0, 1) := by decide +kernel
theorem dX12_rounds_190 : decode cX12_rounds 190 = .ok (.getfield 19, 3) := by decide +kernel
theorem dX12_rounds_193 : decode cX12_rounds 193 = .ok (.iload_n 1, 1) := by decide +kernel
theorem dX12_rounds_194 : decode cX12_rounds 194 = .ok (.aload_n 0, 1) := by decide +kernel
theorem dX12_rounds_195 : decode cX12_rounds 195 = .ok (.getfield 48, 3) := by decide +kernel
theorem dX12_rounds_198 : decode cX12_rounds 198 = .ok (.iload 10, 2) := by decide +kernel
theorem dX12_rounds_200 : decode cX12_rounds 200 = .ok (.iaload, 1) := by decide +kernel
theorem dX12_rounds_201 : decode cX12_rounds 201 = .ok (.invokevirtual 151, 3) := by decide +kernel
theorem dX12_rounds_204 : decode cX12_rounds 204 = .ok (.ifCond .eq 7, 3) := by decide +kernel
theorem dX12_rounds_207 : decode cX12_rounds 207 = .ok (.iconst 1, 1) := by decide +kernel
theorem dX12_rounds_208 : decode cX12_rounds 208 = .ok (.goto 27, 3) := by decide +kernel
theorem dX12_rounds_211 : decode cX12_rounds 211 = .ok (.aload_n 0, 1) := by decide +kernel
theorem dX12_rounds_212 : decode cX12_rounds 212 = .ok (.aload_n 0, 1) := by decide +kernel
theorem dX12_rounds_213 : decode cX12_rounds 213 = .ok (.getfield 19, 3) := by decide +kernel
theorem dX12_rounds_216 : decode cX12_rounds 216 = .ok (.iload_n 1, 1) := by decide +kernel
theorem dX12_rounds_217 : decode cX12_rounds 217 = .ok (.aload_n 0, 1) := by decide +kernel
theorem dX12_rounds_218 : decode cX12_rounds 218 = .ok (.getfield 48, 3) := by decide +kernel
theorem dX12_rounds_221 : decode cX12_rounds 221 = .ok (.iload 10, 2) := by decide +kernel
theorem dX12_rounds_223 : decode cX12_rounds 223 = .ok (.iaload, 1) := by decide +kernel
theorem dX12_rounds_224 : decode cX12_rounds 224 = .ok (.invokevirtual 147, 3) := by decide +kernel
theorem dX12_rounds_227 : decode cX12_rounds 227 = .ok (.ifCond .eq 7, 3) := by decide +kernel
theorem dX12_rounds_230 : decode cX12_rounds 230 = .ok (.iconst 2, 1) := by decide +kernel
theorem dX12_rounds_231 : decode cX12_rounds 231 = .ok (.goto 4, 3) := by decide +kernel
theorem dX12_rounds_234 : decode cX12_rounds 234 = .ok (.iconst 0, 1) := by decide +kernel
theorem dX12_rounds_235 : decode cX12_rounds 235 = .ok (.iastore, 1) := by decide +kernel
theorem dX12_rounds_236 : decode cX12_rounds 236 = .ok (.aload_n 0, 1) := by decide +kernel
theorem dX12_rounds_237 : decode cX12_rounds 237 = .ok (.aload_n 0, 1) := by decide +kernel
theorem dX12_rounds_238 : decode cX12_rounds 238 = .ok (.getfield 19, 3) := by decide +kernel
theorem dX12_rounds_241 : decode cX12_rounds 241 = .ok (.invokevirtual 208, 3) := by decide +kernel
theorem dX12_rounds_244 : decode cX12_rounds 244 = .ok (.bipush 10, 2) := by decide +kernel
theorem dX12_rounds_246 : decode cX12_rounds 246 = .ok (.iload 9, 2) := by decide +kernel
theorem dX12_rounds_248 : decode cX12_rounds 248 = .ok (.imul, 1) := by decide +kernel
theorem dX12_rounds_249 : decode cX12_rounds 249 = .ok (.aload_n 0, 1) := by decide +kernel
theorem dX12_rounds_250 : decode cX12_rounds 250 = .ok (.getfield 48, 3) := by decide +kernel
theorem dX12_rounds_253 : decode cX12_rounds 253 = .ok (.iload 10, 2) := by decide +kernel
theorem dX12_rounds_255 : decode cX12_rounds 255 = .ok (.iaload, 1) := by decide +kernel
theorem dX12_rounds_256 : decode cX12_rounds 256 = .ok (.iadd, 1) := by decide +kernel
theorem dX12_rounds_257 : decode cX12_rounds 257 = .ok (.iconst 1, 1) := by decide +kernel
theorem dX12_rounds_258 : decode cX12_rounds 258 = .ok (.iadd, 1) := by decide +kernel
theorem dX12_rounds_259 : decode cX12_rounds 259 = .ok (.istore 9, 2) := by decide +kernel
theorem dX12_rounds_261 : decode cX12_rounds 261 = .ok (.iinc 10 1, 3) := by decide +kernel
theorem dX12_rounds_264 : decode cX12_rounds 264 = .ok (.goto (-126), 3) := by decide +kernel
theorem dX12_rounds_267 : decode cX12_rounds 267 = .ok (.iload 8, 2) := by decide +kernel
theorem dX12_rounds_269 : decode cX12_rounds 269 = .ok (.iload 5, 2) := by decide +kernel
theorem dX12_rounds_271 : decode cX12_rounds 271 = .ok (.if_icmp .le 8, 3) := by decide +kernel
theorem dX12_rounds_274 : decode cX12_rounds 274 = .ok (.iload 9, 2) := by decide +kernel
theorem dX12_rounds_276 : decode cX12_rounds 276 = .ok (.goto 5, 3) := by decide +kernel
theorem dX12_rounds_279 : decode cX12_rounds 279 = .ok (.iload 6, 2) := by decide +kernel
theorem dX12_rounds_281 : decode cX12_rounds 281 = .ok (.istore 6, 2) := by decide +kernel
theorem dX12_rounds_283 : decode cX12_rounds 283 = .ok (.iload 5, 2) := by decide +kernel
theorem dX12_rounds_285 : decode cX12_rounds 285 = .ok (.iload 8, 2) := by decide +kernel
theorem dX12_rounds_287 : decode cX12_rounds 287 = .ok (.invokestatic 239, 3) := by decide +kernel
theorem dX12_rounds_290 : decode cX12_rounds 290 = .ok (.istore 5, 2) := by decide +kernel
theorem dX12_rounds_292 : decode cX12_rounds 292 = .ok (.aload_n 0, 1) := by decide +kernel
theorem dX12_rounds_293 : decode cX12_rounds 293 = .ok (.iload 4, 2) := by decide +kernel
theorem dX12_rounds_295 : decode cX12_rounds 295 = .ok (.invokevirtual 250, 3) := by decide +kernel
theorem dX12_rounds_298 : decode cX12_rounds 298 = .ok (.istore 7, 2) := by decide +kernel
theorem dX12_rounds_300 : decode cX12_rounds 300 = .ok (.goto (-180), 3) := by decide +kernel
theorem dX12_rounds_303 : decode cX12_rounds 303 = .ok (.iload_n 3, 1) := by decide +kernel
theorem dX12_rounds_304 : decode cX12_rounds 304 = .ok (.ifCond .ne 8, 3) := by decide +kernel
theorem dX12_rounds_307 : decode cX12_rounds 307 = .ok (.iload 5, 2) := by decide +kernel
theorem dX12_rounds_309 : decode cX12_rounds 309 = .ok (.goto 5, 3) := by decide +kernel
theorem dX12_rounds_312 : decode cX12_rounds 312 = .ok (.iload 6, 2) := by decide +kernel
theorem dX12_rounds_314 : decode cX12_rounds 314 = .ok (.ireturn, 1) := by decide +kernel
theorem dX12_holds_0 : decode cX12_holds 0 = .ok (.aload_n 0, 1) := by decide +kernel
theorem dX12_holds_1 : decode cX12_holds 1 = .ok (.iload_n 1, 1) := by decide +kernel
theorem dX12_holds_2 : decode cX12_holds 2 = .ok (.invokevirtual 173, 3) := by decide +kernel
theorem dX12_holds_5 : decode cX12_holds 5 = .ok (.ifCond .eq 23, 3) := by decide +kernel
theorem dX12_holds_8 : decode cX12_holds 8 = .ok (.iload_n 2, 1) := by decide +kernel
theorem dX12_holds_9 : decode cX12_holds 9 = .ok (.i2l, 1) := by decide +kernel
theorem dX12_holds_10 : decode cX12_holds 10 = .ok (.lconst 0, 1) := by decide +kernel
theorem dX12_holds_11 : decode cX12_holds 11 = .ok (.iconst 1, 1) := by decide +kernel
theorem dX12_holds_12 : decode cX12_holds 12 = .ok (.aload_n 0, 1) := by decide +kernel
theorem dX12_holds_13 : decode cX12_holds 13 = .ok (.getfield 7, 3) := by decide +kernel
theorem dX12_holds_16 : decode cX12_holds 16 = .ok (.iconst 2, 1) := by decide +kernel
theorem dX12_holds_17 : decode cX12_holds 17 = .ok (.iaload, 1) := by decide +kernel
theorem dX12_holds_18 : decode cX12_holds 18 = .ok (.ishl, 1) := by decide +kernel
theorem dX12_holds_19 : decode cX12_holds 19 = .ok (.iconst 1, 1) := by decide +kernel
theorem dX12_holds_20 : decode cX12_holds 20 = .ok (.isub, 1) := by decide +kernel
theorem dX12_holds_21 : decode cX12_holds 21 = .ok (.i2l, 1) := by decide +kernel
theorem dX12_holds_22 : decode cX12_holds 22 = .ok (.invokestatic 58, 3) := by decide +kernel
theorem dX12_holds_25 : decode cX12_holds 25 = .ok (.ifCond .ne 6, 3) := by decide +kernel
theorem dX12_holds_28 : decode cX12_holds 28 = .ok (.ldc 176, 2) := by decide +kernel
theorem dX12_holds_30 : decode cX12_holds 30 = .ok (.ireturn, 1) := by decide +kernel
theorem dX12_holds_31 : decode cX12_holds 31 = .ok (.iconst 0, 1) := by decide +kernel
theorem dX12_holds_32 : decode cX12_holds 32 = .ok (.istore_n 3, 1) := by decide +kernel
theorem dX12_holds_33 : decode cX12_holds 33 = .ok (.iconst 0, 1) := by decide +kernel
theorem dX12_holds_34 : decode cX12_holds 34 = .ok (.istore 4, 2) := by decide +kernel
theorem dX12_holds_36 : decode cX12_holds 36 = .ok (.iload 4, 2) := by decide +kernel
theorem dX12_holds_38 : decode cX12_holds 38 = .ok (.aload_n 0, 1) := by decide +kernel
theorem dX12_holds_39 : decode cX12_holds 39 = .ok (.getfield 7, 3) := by decide +kernel
theorem dX12_holds_42 : decode cX12_holds 42 = .ok (.iconst 2, 1) := by decide +kernel
theorem dX12_holds_43 : decode cX12_holds 43 = .ok (.iaload, 1) := by decide +kernel
theorem dX12_holds_44 : decode cX12_holds 44 = .ok (.if_icmp .ge 52, 3) := by decide +kernel
theorem dX12_holds_47 : decode cX12_holds 47 = .ok (.iload_n 2, 1) := by decide +kernel
theorem dX12_holds_48 : decode cX12_holds 48 = .ok (.iload 4, 2) := by decide +kernel
theorem dX12_holds_50 : decode cX12_holds 50 = .ok (.invokestatic 132, 3) := by decide +kernel
theorem dX12_holds_53 : decode cX12_holds 53 = .ok (.ifCond .eq 35, 3) := by decide +kernel
theorem dX12_holds_56 : decode cX12_holds 56 = .ok (.aload_n 0, 1) := by decide +kernel
theorem dX12_holds_57 : decode cX12_holds 57 = .ok (.aload_n 0, 1) := by decide +kernel
theorem dX12_holds_58 : decode cX12_holds 58 = .ok (.getfield 16, 3) := by decide +kernel
theorem dX12_holds_61 : decode cX12_holds 61 = .ok (.iload 4, 2) := by decide +kernel
theorem dX12_holds_63 : decode cX12_holds 63 = .ok (.iload_n 1, 1) := by decide +kernel
theorem dX12_holds_64 : decode cX12_holds 64 = .ok (.invokevirtual 147, 3) := by decide +kernel
theorem dX12_holds_67 : decode cX12_holds 67 = .ok (.ifCond .eq 21, 3) := by decide +kernel
theorem dX12_holds_70 : decode cX12_holds 70 = .ok (.iload_n 3, 1) := by decide +kernel
theorem dX12_holds_71 : decode cX12_holds 71 = .ok (.aload_n 0, 1) := by decide +kernel
theorem dX12_holds_72 : decode cX12_holds 72 = .ok (.aload_n 0, 1) := by decide +kernel
theorem dX12_holds_73 : decode cX12_holds 73 = .ok (.getfield 16, 3) := by decide +kernel
theorem dX12_holds_76 : decode cX12_holds 76 = .ok (.iload 4, 2) := by decide +kernel
theorem dX12_holds_78 : decode cX12_holds 78 = .ok (.iload_n 1, 1) := by decide +kernel
theorem dX12_holds_79 : decode cX12_holds 79 = .ok (.invokevirtual 144, 3) := by decide +kernel
theorem dX12_holds_82 : decode cX12_holds 82 = .ok (.invokestatic 239, 3) := by decide +kernel
theorem dX12_holds_85 : decode cX12_holds 85 = .ok (.goto 4, 3) := by decide +kernel
theorem dX12_holds_88 : decode cX12_holds 88 = .ok (.iload_n 3, 1) := by decide +kernel
theorem dX12_holds_89 : decode cX12_holds 89 = .ok (.istore_n 3, 1) := by decide +kernel
theorem dX12_holds_90 : decode cX12_holds 90 = .ok (.iinc 4 1, 3) := by decide +kernel
theorem dX12_holds_93 : decode cX12_holds 93 = .ok (.goto (-57), 3) := by decide +kernel
theorem dX12_holds_96 : decode cX12_holds 96 = .ok (.iload_n 3, 1) := by decide +kernel
theorem dX12_holds_97 : decode cX12_holds 97 = .ok (.ireturn, 1) := by decide +kernel
theorem dX12_dry_0 : decode cX12_dry 0 = .ok (.iload_n 1, 1) := by decide +kernel
theorem dX12_dry_1 : decode cX12_dry 1 = .ok (.i2l, 1) := by decide +kernel
theorem dX12_dry_2 : decode cX12_dry 2 = .ok (.lconst 0, 1) := by decide +kernel
theorem dX12_dry_3 : decode cX12_dry 3 = .ok (.ldc2_w 203, 3) := by decide +kernel
theorem dX12_dry_6 : decode cX12_dry 6 = .ok (.invokestatic 58, 3) := by decide +kernel
theorem dX12_dry_9 : decode cX12_dry 9 = .ok (.ifCond .eq 15, 3) := by decide +kernel
theorem dX12_dry_12 : decode cX12_dry 12 = .ok (.iload_n 2, 1) := by decide +kernel
theorem dX12_dry_13 : decode cX12_dry 13 = .ok (.i2l, 1) := by decide +kernel
theorem dX12_dry_14 : decode cX12_dry 14 = .ok (.lconst 0, 1) := by decide +kernel
theorem dX12_dry_15 : decode cX12_dry 15 = .ok (.ldc2_w 253, 3) := by decide +kernel
theorem dX12_dry_18 : decode cX12_dry 18 = .ok (.invokestatic 58, 3) := by decide +kernel
theorem dX12_dry_21 : decode cX12_dry 21 = .ok (.ifCond .ne 6, 3) := by decide +kernel
theorem dX12_dry_24 : decode cX12_dry 24 = .ok (.ldc 77, 2) := by decide +kernel
theorem dX12_dry_26 : decode cX12_dry 26 = .ok (.ireturn, 1) := by decide +kernel
theorem dX12_dry_27 : decode cX12_dry 27 = .ok (.ldc2_w 255, 3) := by decide +kernel
theorem dX12_dry_30 : decode cX12_dry 30 = .ok (.lstore_n 3, 1) := by decide +kernel
theorem dX12_dry_31 : decode cX12_dry 31 = .ok (.iconst 0, 1) := by decide +kernel
theorem dX12_dry_32 : decode cX12_dry 32 = .ok (.istore 5, 2) := by decide +kernel
theorem dX12_dry_34 : decode cX12_dry 34 = .ok (.iload 5, 2) := by decide +kernel
theorem dX12_dry_36 : decode cX12_dry 36 = .ok (.iload_n 1, 1) := by decide +kernel
theorem dX12_dry_37 : decode cX12_dry 37 = .ok (.if_icmp .ge 18, 3) := by decide +kernel
theorem dX12_dry_40 : decode cX12_dry 40 = .ok (.lload_n 3, 1) := by decide +kernel
theorem dX12_dry_41 : decode cX12_dry 41 = .ok (.iload_n 2, 1) := by decide +kernel
theorem dX12_dry_42 : decode cX12_dry 42 = .ok (.i2l, 1) := by decide +kernel
theorem dX12_dry_43 : decode cX12_dry 43 = .ok (.lmul, 1) := by decide +kernel
theorem dX12_dry_44 : decode cX12_dry 44 = .ok (.ldc2_w 253, 3) := by decide +kernel
theorem dX12_dry_47 : decode cX12_dry 47 = .ok (.ldiv, 1) := by decide +kernel
theorem dX12_dry_48 : decode cX12_dry 48 = .ok (.lstore_n 3, 1) := by decide +kernel
theorem dX12_dry_49 : decode cX12_dry 49 = .ok (.iinc 5 1, 3) := by decide +kernel
theorem dX12_dry_52 : decode cX12_dry 52 = .ok (.goto (-18), 3) := by decide +kernel
theorem dX12_dry_55 : decode cX12_dry 55 = .ok (.lload_n 3, 1) := by decide +kernel
theorem dX12_dry_56 : decode cX12_dry 56 = .ok (.l2i, 1) := by decide +kernel
theorem dX12_dry_57 : decode cX12_dry 57 = .ok (.ireturn, 1) := by decide +kernel
theorem dX12_say_0 : decode cX12_say 0 = .ok (.iload_n 1, 1) := by decide +kernel
theorem dX12_say_1 : decode cX12_say 1 = .ok (.i2l, 1) := by decide +kernel
theorem dX12_say_2 : decode cX12_say 2 = .ok (.lconst 0, 1) := by decide +kernel
theorem dX12_say_3 : decode cX12_say 3 = .ok (.ldc2_w 257, 3) := by decide +kernel
theorem dX12_say_6 : decode cX12_say 6 = .ok (.invokestatic 58, 3) := by decide +kernel
theorem dX12_say_9 : decode cX12_say 9 = .ok (.ifCond .eq 27, 3) := by decide +kernel
theorem dX12_say_12 : decode cX12_say 12 = .ok (.iload_n 2, 1) := by decide +kernel
theorem dX12_say_13 : decode cX12_say 13 = .ok (.i2l, 1) := by decide +kernel
theorem dX12_say_14 : decode cX12_say 14 = .ok (.lconst 0, 1) := by decide +kernel
theorem dX12_say_15 : decode cX12_say 15 = .ok (.ldc2_w 216, 3) := by decide +kernel
theorem dX12_say_18 : decode cX12_say 18 = .ok (.invokestatic 58, 3) := by decide +kernel
theorem dX12_say_21 : decode cX12_say 21 = .ok (.ifCond .eq 15, 3) := by decide +kernel
theorem dX12_say_24 : decode cX12_say 24 = .ok (.iload_n 3, 1) := by decide +kernel
theorem dX12_say_25 : decode cX12_say 25 = .ok (.i2l, 1) := by decide +kernel
theorem dX12_say_26 : decode cX12_say 26 = .ok (.lconst 0, 1) := by decide +kernel
theorem dX12_say_27 : decode cX12_say 27 = .ok (.ldc2_w 214, 3) := by decide +kernel
theorem dX12_say_30 : decode cX12_say 30 = .ok (.invokestatic 58, 3) := by decide +kernel
theorem dX12_say_33 : decode cX12_say 33 = .ok (.ifCond .ne 6, 3) := by decide +kernel
theorem dX12_say_36 : decode cX12_say 36 = .ok (.ldc 77, 2) := by decide +kernel
theorem dX12_say_38 : decode cX12_say 38 = .ok (.ireturn, 1) := by decide +kernel
theorem dX12_say_39 : decode cX12_say 39 = .ok (.aload_n 0, 1) := by decide +kernel
theorem dX12_say_40 : decode cX12_say 40 = .ok (.getfield 69, 3) := by decide +kernel
theorem dX12_say_43 : decode cX12_say 43 = .ok (.bipush 6, 2) := by decide +kernel
theorem dX12_say_45 : decode cX12_say 45 = .ok (.if_icmp .ne 6, 3) := by decide +kernel
theorem dX12_say_48 : decode cX12_say 48 = .ok (.ldc 81, 2) := by decide +kernel
theorem dX12_say_50 : decode cX12_say 50 = .ok (.ireturn, 1) := by decide +kernel
theorem dX12_say_51 : decode cX12_say 51 = .ok (.aload_n 0, 1) := by decide +kernel
theorem dX12_say_52 : decode cX12_say 52 = .ok (.getfield 39, 3) := by decide +kernel
theorem dX12_say_55 : decode cX12_say 55 = .ok (.iconst 3, 1) := by decide +kernel
theorem dX12_say_56 : decode cX12_say 56 = .ok (.aload_n 0, 1) := by decide +kernel
theorem dX12_say_57 : decode cX12_say 57 = .ok (.getfield 69, 3) := by decide +kernel
theorem dX12_say_60 : decode cX12_say 60 = .ok (.imul, 1) := by decide +kernel
theorem dX12_say_61 : decode cX12_say 61 = .ok (.iload_n 1, 1) := by decide +kernel
theorem dX12_say_62 : decode cX12_say 62 = .ok (.iastore, 1) := by decide +kernel
theorem dX12_say_63 : decode cX12_say 63 = .ok (.aload_n 0, 1) := by decide +kernel
theorem dX12_say_64 : decode cX12_say 64 = .ok (.getfield 39, 3) := by decide +kernel
theorem dX12_say_67 : decode cX12_say 67 = .ok (.iconst 3, 1) := by decide +kernel
theorem dX12_say_68 : decode cX12_say 68 = .ok (.aload_n 0, 1) := by decide +kernel
theorem dX12_say_69 : decode cX12_say 69 = .ok (.getfield 69, 3) := by decide +kernel
theorem dX12_say_72 : decode cX12_say 72 = .ok (.imul, 1) := by decide +kernel
theorem dX12_say_73 : decode cX12_say 73 = .ok (.iconst 1, 1) := by decide +kernel
theorem dX12_say_74 : decode cX12_say 74 = .ok (.iadd, 1) := by decide +kernel
theorem dX12_say_75 : decode cX12_say 75 = .ok (.iload_n 2, 1) := by decide +kernel
theorem dX12_say_76 : decode cX12_say 76 = .ok (.iastore, 1) := by decide +kernel
theorem dX12_say_77 : decode cX12_say 77 = .ok (.aload_n 0, 1) := by decide +kernel
theorem dX12_say_78 : decode cX12_say 78 = .ok (.getfield 39, 3) := by decide +kernel
theorem dX12_say_81 : decode cX12_say 81 = .ok (.iconst 3, 1) := by decide +kernel
theorem dX12_say_82 : decode cX12_say 82 = .ok (.aload_n 0, 1) := by decide +kernel
theorem dX12_say_83 : decode cX12_say 83 = .ok (.getfield 69, 3) := by decide +kernel
theorem dX12_say_86 : decode cX12_say 86 = .ok (.imul, 1) := by decide +kernel
theorem dX12_say_87 : decode cX12_say 87 = .ok (.iconst 2, 1) := by decide +kernel
theorem dX12_say_88 : decode cX12_say 88 = .ok (.iadd, 1) := by decide +kernel
theorem dX12_say_89 : decode cX12_say 89 = .ok (.iload_n 3, 1) := by decide +kernel
theorem dX12_say_90 : decode cX12_say 90 = .ok (.iastore, 1) := by decide +kernel
theorem dX12_say_91 : decode cX12_say 91 = .ok (.aload_n 0, 1) := by decide +kernel
theorem dX12_say_92 : decode cX12_say 92 = .ok (.dup, 1) := by decide +kernel
theorem dX12_say_93 : decode cX12_say 93 = .ok (.getfield 69, 3) := by decide +kernel
theorem dX12_say_96 : decode cX12_say 96 = .ok (.iconst 1, 1) := by decide +kernel
theorem dX12_say_97 : decode cX12_say 97 = .ok (.iadd, 1) := by decide +kernel
theorem dX12_say_98 : decode cX12_say 98 = .ok (.putfield 69, 3) := by decide +kernel
theorem dX12_say_101 : decode cX12_say 101 = .ok (.aload_n 0, 1) := by decide +kernel
theorem dX12_say_102 : decode cX12_say 102 = .ok (.getfield 69, 3) := by decide +kernel
theorem dX12_say_105 : decode cX12_say 105 = .ok (.ireturn, 1) := by decide +kernel
theorem dX12_isSo_0 : decode cX12_isSo 0 = .ok (.iconst 1, 1) := by decide +kernel
theorem dX12_isSo_1 : decode cX12_isSo 1 = .ok (.istore_n 2, 1) := by decide +kernel
theorem dX12_isSo_2 : decode cX12_isSo 2 = .ok (.iconst 0, 1) := by decide +kernel
theorem dX12_isSo_3 : decode cX12_isSo 3 = .ok (.istore_n 3, 1) := by decide +kernel
theorem dX12_isSo_4 : decode cX12_isSo 4 = .ok (.iload_n 3, 1) := by decide +kernel
theorem dX12_isSo_5 : decode cX12_isSo 5 = .ok (.iconst 3, 1) := by decide +kernel
theorem dX12_isSo_6 : decode cX12_isSo 6 = .ok (.aload_n 0, 1) := by decide +kernel
theorem dX12_isSo_7 : decode cX12_isSo 7 = .ok (.getfield 69, 3) := by decide +kernel
theorem dX12_isSo_10 : decode cX12_isSo 10 = .ok (.imul, 1) := by decide +kernel
theorem dX12_isSo_11 : decode cX12_isSo 11 = .ok (.if_icmp .ge 48, 3) := by decide +kernel
theorem dX12_isSo_14 : decode cX12_isSo 14 = .ok (.iload_n 2, 1) := by decide +kernel
theorem dX12_isSo_15 : decode cX12_isSo 15 = .ok (.ifCond .eq 36, 3) := by decide +kernel
theorem dX12_isSo_18 : decode cX12_isSo 18 = .ok (.aload_n 0, 1) := by decide +kernel
theorem dX12_isSo_19 : decode cX12_isSo 19 = .ok (.getfield 39, 3) := by decide +kernel
theorem dX12_isSo_22 : decode cX12_isSo 22 = .ok (.iload_n 3, 1) := by decide +kernel
theorem dX12_isSo_23 : decode cX12_isSo 23 = .ok (.iaload, 1) := by decide +kernel
theorem dX12_isSo_24 : decode cX12_isSo 24 = .ok (.aload_n 0, 1) := by decide +kernel
theorem dX12_isSo_25 : decode cX12_isSo 25 = .ok (.getfield 39, 3) := by decide +kernel
theorem dX12_isSo_28 : decode cX12_isSo 28 = .ok (.iload_n 3, 1) := by decide +kernel
theorem dX12_isSo_29 : decode cX12_isSo 29 = .ok (.iconst 1, 1) := by decide +kernel
theorem dX12_isSo_30 : decode cX12_isSo 30 = .ok (.iadd, 1) := by decide +kernel
theorem dX12_isSo_31 : decode cX12_isSo 31 = .ok (.iaload, 1) := by decide +kernel
theorem dX12_isSo_32 : decode cX12_isSo 32 = .ok (.iload_n 1, 1) := by decide +kernel
theorem dX12_isSo_33 : decode cX12_isSo 33 = .ok (.invokestatic 140, 3) := by decide +kernel
theorem dX12_isSo_36 : decode cX12_isSo 36 = .ok (.aload_n 0, 1) := by decide +kernel
theorem dX12_isSo_37 : decode cX12_isSo 37 = .ok (.getfield 39, 3) := by decide +kernel
theorem dX12_isSo_40 : decode cX12_isSo 40 = .ok (.iload_n 3, 1) := by decide +kernel
theorem dX12_isSo_41 : decode cX12_isSo 41 = .ok (.iconst 2, 1) := by decide +kernel
theorem dX12_isSo_42 : decode cX12_isSo 42 = .ok (.iadd, 1) := by decide +kernel
theorem dX12_isSo_43 : decode cX12_isSo 43 = .ok (.iaload, 1) := by decide +kernel
theorem dX12_isSo_44 : decode cX12_isSo 44 = .ok (.if_icmp .ne 7, 3) := by decide +kernel
theorem dX12_isSo_47 : decode cX12_isSo 47 = .ok (.iconst 1, 1) := by decide +kernel
theorem dX12_isSo_48 : decode cX12_isSo 48 = .ok (.goto 4, 3) := by decide +kernel
theorem dX12_isSo_51 : decode cX12_isSo 51 = .ok (.iconst 0, 1) := by decide +kernel
theorem dX12_isSo_52 : decode cX12_isSo 52 = .ok (.istore_n 2, 1) := by decide +kernel
theorem dX12_isSo_53 : decode cX12_isSo 53 = .ok (.iinc 3 3, 3) := by decide +kernel
theorem dX12_isSo_56 : decode cX12_isSo 56 = .ok (.goto (-52), 3) := by decide +kernel
theorem dX12_isSo_59 : decode cX12_isSo 59 = .ok (.iload_n 2, 1) := by decide +kernel
theorem dX12_isSo_60 : decode cX12_isSo 60 = .ok (.ireturn, 1) := by decide +kernel
theorem dX12_weights_0 : decode cX12_weights 0 = .ok (.iload_n 1, 1) := by decide +kernel
theorem dX12_weights_1 : decode cX12_weights 1 = .ok (.i2l, 1) := by decide +kernel
theorem dX12_weights_2 : decode cX12_weights 2 = .ok (.lconst 0, 1) := by decide +kernel
theorem dX12_weights_3 : decode cX12_weights 3 = .ok (.ldc2_w 257, 3) := by decide +kernel
theorem dX12_weights_6 : decode cX12_weights 6 = .ok (.invokestatic 58, 3) := by decide +kernel
theorem dX12_weights_9 : decode cX12_weights 9 = .ok (.ifCond .ne 6, 3) := by decide +kernel
theorem dX12_weights_12 : decode cX12_weights 12 = .ok (.ldc 77, 2) := by decide +kernel
theorem dX12_weights_14 : decode cX12_weights 14 = .ok (.ireturn, 1) := by decide +kernel
theorem dX12_weights_15 : decode cX12_weights 15 = .ok (.iconst 0, 1) := by decide +kernel
theorem dX12_weights_16 : decode cX12_weights 16 = .ok (.istore_n 2, 1) := by decide +kernel
theorem dX12_weights_17 : decode cX12_weights 17 = .ok (.iconst (-1), 1) := by decide +kernel
theorem dX12_weights_18 : decode cX12_weights 18 = .ok (.istore_n 3, 1) := by decide +kernel
theorem dX12_weights_19 : decode cX12_weights 19 = .ok (.iconst (-1), 1) := by decide +kernel
theorem dX12_weights_20 : decode cX12_weights 20 = .ok (.istore 4, 2) := by decide +kernel
theorem dX12_weights_22 : decode cX12_weights 22 = .ok (.iconst 0, 1) := by decide +kernel
theorem dX12_weights_23 : decode cX12_weights 23 = .ok (.istore 5, 2) := by decide +kernel
theorem dX12_weights_25 : decode cX12_weights 25 = .ok (.iload 5, 2) := by decide +kernel
theorem dX12_weights_27 : decode cX12_weights 27 = .ok (.bipush 21, 2) := by decide +kernel
theorem dX12_weights_29 : decode cX12_weights 29 = .ok (.if_icmp .ge 37, 3) := by decide +kernel
theorem dX12_weights_32 : decode cX12_weights 32 = .ok (.aload_n 0, 1) := by decide +kernel
theorem dX12_weights_33 : decode cX12_weights 33 = .ok (.iload 5, 2) := by decide +kernel
theorem dX12_weights_35 : decode cX12_weights 35 = .ok (.invokevirtual 259, 3) := by decide +kernel
theorem dX12_weights_38 : decode cX12_weights 38 = .ok (.ifCond .eq 22, 3) := by decide +kernel
theorem dX12_weights_41 : decode cX12_weights 41 = .ok (.iinc 2 1, 3) := by decide +kernel
theorem dX12_weights_44 : decode cX12_weights 44 = .ok (.iload_n 3, 1) := by decide +kernel
theorem dX12_weights_45 : decode cX12_weights 45 = .ok (.iconst (-1), 1) := by decide +kernel
theorem dX12_weights_46 : decode cX12_weights 46 = .ok (.if_icmp .ne 8, 3) := by decide +kernel
theorem dX12_weights_49 : decode cX12_weights 49 = .ok (.iload 5, 2) := by decide +kernel
theorem dX12_weights_51 : decode cX12_weights 51 = .ok (.goto 4, 3) := by decide +kernel
theorem dX12_weights_54 : decode cX12_weights 54 = .ok (.iload_n 3, 1) := by decide +kernel
theorem dX12_weights_55 : decode cX12_weights 55 = .ok (.istore_n 3, 1) := by decide +kernel
theorem dX12_weights_56 : decode cX12_weights 56 = .ok (.iload 5, 2) := by decide +kernel
theorem dX12_weights_58 : decode cX12_weights 58 = .ok (.istore 4, 2) := by decide +kernel
theorem dX12_weights_60 : decode cX12_weights 60 = .ok (.iinc 5 1, 3) := by decide +kernel
theorem dX12_weights_63 : decode cX12_weights 63 = .ok (.goto (-38), 3) := by decide +kernel
theorem dX12_weights_66 : decode cX12_weights 66 = .ok (.iload_n 1, 1) := by decide +kernel
theorem dX12_weights_67 : decode cX12_weights 67 = .ok (.ifCond .ne 7, 3) := by decide +kernel
theorem dX12_weights_70 : decode cX12_weights 70 = .ok (.iload_n 2, 1) := by decide +kernel
theorem dX12_weights_71 : decode cX12_weights 71 = .ok (.goto 14, 3) := by decide +kernel
theorem dX12_weights_74 : decode cX12_weights 74 = .ok (.iload_n 1, 1) := by decide +kernel
theorem dX12_weights_75 : decode cX12_weights 75 = .ok (.iconst 1, 1) := by decide +kernel
theorem dX12_weights_76 : decode cX12_weights 76 = .ok (.if_icmp .ne 7, 3) := by decide +kernel
theorem dX12_weights_79 : decode cX12_weights 79 = .ok (.iload_n 3, 1) := by decide +kernel
theorem dX12_weights_80 : decode cX12_weights 80 = .ok (.goto 5, 3) := by decide +kernel
theorem dX12_weights_83 : decode cX12_weights 83 = .ok (.iload 4, 2) := by decide +kernel
theorem dX12_weights_85 : decode cX12_weights 85 = .ok (.ireturn, 1) := by decide +kernel
theorem dX12_ask_0 : decode cX12_ask 0 = .ok (.aload_n 0, 1) := by decide +kernel
theorem dX12_ask_1 : decode cX12_ask 1 = .ok (.iconst 0, 1) := by decide +kernel
theorem dX12_ask_2 : decode cX12_ask 2 = .ok (.invokevirtual 262, 3) := by decide +kernel
theorem dX12_ask_5 : decode cX12_ask 5 = .ok (.istore_n 1, 1) := by decide +kernel
theorem dX12_ask_6 : decode cX12_ask 6 = .ok (.iconst (-1), 1) := by decide +kernel
theorem dX12_ask_7 : decode cX12_ask 7 = .ok (.istore_n 2, 1) := by decide +kernel
theorem dX12_ask_8 : decode cX12_ask 8 = .ok (.iconst 0, 1) := by decide +kernel
theorem dX12_ask_9 : decode cX12_ask 9 = .ok (.istore_n 3, 1) := by decide +kernel
theorem dX12_ask_10 : decode cX12_ask 10 = .ok (.iload_n 3, 1) := by decide +kernel
theorem dX12_ask_11 : decode cX12_ask 11 = .ok (.iconst 3, 1) := by decide +kernel
theorem dX12_ask_12 : decode cX12_ask 12 = .ok (.if_icmp .ge 122, 3) := by decide +kernel
theorem dX12_ask_15 : decode cX12_ask 15 = .ok (.iconst 0, 1) := by decide +kernel
theorem dX12_ask_16 : decode cX12_ask 16 = .ok (.istore 4, 2) := by decide +kernel
theorem dX12_ask_18 : decode cX12_ask 18 = .ok (.iconst 0, 1) := by decide +kernel
theorem dX12_ask_19 : decode cX12_ask 19 = .ok (.istore 5, 2) := by decide +kernel
theorem dX12_ask_21 : decode cX12_ask 21 = .ok (.iload 5, 2) := by decide +kernel
theorem dX12_ask_23 : decode cX12_ask 23 = .ok (.bipush 21, 2) := by decide +kernel
theorem dX12_ask_25 : decode cX12_ask 25 = .ok (.if_icmp .ge 84, 3) := by decide +kernel
theorem dX12_ask_28 : decode cX12_ask 28 = .ok (.iconst 0, 1) := by decide +kernel
theorem dX12_ask_29 : decode cX12_ask 29 = .ok (.istore 6, 2) := by decide +kernel
theorem dX12_ask_31 : decode cX12_ask 31 = .ok (.iconst 0, 1) := by decide +kernel
theorem dX12_ask_32 : decode cX12_ask 32 = .ok (.istore 7, 2) := by decide +kernel
theorem dX12_ask_34 : decode cX12_ask 34 = .ok (.iload 7, 2) := by decide +kernel
theorem dX12_ask_36 : decode cX12_ask 36 = .ok (.bipush 21, 2) := by decide +kernel
theorem dX12_ask_38 : decode cX12_ask 38 = .ok (.if_icmp .ge 56, 3) := by decide +kernel
theorem dX12_ask_41 : decode cX12_ask 41 = .ok (.iload 6, 2) := by decide +kernel
theorem dX12_ask_43 : decode cX12_ask 43 = .ok (.aload_n 0, 1) := by decide +kernel
theorem dX12_ask_44 : decode cX12_ask 44 = .ok (.iload 5, 2) := by decide +kernel
theorem dX12_ask_46 : decode cX12_ask 46 = .ok (.invokevirtual 259, 3) := by decide +kernel
theorem dX12_ask_49 : decode cX12_ask 49 = .ok (.ifCond .eq 35, 3) := by decide +kernel
theorem dX12_ask_52 : decode cX12_ask 52 = .ok (.aload_n 0, 1) := by decide +kernel
theorem dX12_ask_53 : decode cX12_ask 53 = .ok (.iload 7, 2) := by decide +kernel
theorem dX12_ask_55 : decode cX12_ask 55 = .ok (.invokevirtual 259, 3) := by decide +kernel
theorem dX12_ask_58 : decode cX12_ask 58 = .ok (.ifCond .eq 26, 3) := by decide +kernel
theorem dX12_ask_61 : decode cX12_ask 61 = .ok (.iload_n 3, 1) := by decide +kernel
theorem dX12_ask_62 : decode cX12_ask 62 = .ok (.bipush 10, 2) := by decide +kernel
theorem dX12_ask_64 : decode cX12_ask 64 = .ok (.iload 5, 2) := by decide +kernel
theorem dX12_ask_66 : decode cX12_ask 66 = .ok (.invokestatic 140, 3) := by decide +kernel
theorem dX12_ask_69 : decode cX12_ask 69 = .ok (.iload_n 3, 1) := by decide +kernel
theorem dX12_ask_70 : decode cX12_ask 70 = .ok (.bipush 10, 2) := by decide +kernel
theorem dX12_ask_72 : decode cX12_ask 72 = .ok (.iload 7, 2) := by decide +kernel
theorem dX12_ask_74 : decode cX12_ask 74 = .ok (.invokestatic 140, 3) := by decide +kernel
theorem dX12_ask_77 : decode cX12_ask 77 = .ok (.if_icmp .ne 7, 3) := by decide +kernel
theorem dX12_ask_80 : decode cX12_ask 80 = .ok (.iconst 1, 1) := by decide +kernel
theorem dX12_ask_81 : decode cX12_ask 81 = .ok (.goto 4, 3) := by decide +kernel
theorem dX12_ask_84 : decode cX12_ask 84 = .ok (.iconst 0, 1) := by decide +kernel
theorem dX12_ask_85 : decode cX12_ask 85 = .ok (.iadd, 1) := by decide +kernel
theorem dX12_ask_86 : decode cX12_ask 86 = .ok (.istore 6, 2) := by decide +kernel
theorem dX12_ask_88 : decode cX12_ask 88 = .ok (.iinc 7 1, 3) := by decide +kernel
theorem dX12_ask_91 : decode cX12_ask 91 = .ok (.goto (-57), 3) := by decide +kernel
theorem dX12_ask_94 : decode cX12_ask 94 = .ok (.iload 4, 2) := by decide +kernel
theorem dX12_ask_96 : decode cX12_ask 96 = .ok (.iload 6, 2) := by decide +kernel
theorem dX12_ask_98 : decode cX12_ask 98 = .ok (.invokestatic 239, 3) := by decide +kernel
theorem dX12_ask_101 : decode cX12_ask 101 = .ok (.istore 4, 2) := by decide +kernel
theorem dX12_ask_103 : decode cX12_ask 103 = .ok (.iinc 5 1, 3) := by decide +kernel
theorem dX12_ask_106 : decode cX12_ask 106 = .ok (.goto (-85), 3) := by decide +kernel
theorem dX12_ask_109 : decode cX12_ask 109 = .ok (.iload 4, 2) := by decide +kernel
theorem dX12_ask_111 : decode cX12_ask 111 = .ok (.iload_n 1, 1) := by decide +kernel
theorem dX12_ask_112 : decode cX12_ask 112 = .ok (.if_icmp .ge 7, 3) := by decide +kernel
theorem dX12_ask_115 : decode cX12_ask 115 = .ok (.iload_n 3, 1) := by decide +kernel
theorem dX12_ask_116 : decode cX12_ask 116 = .ok (.goto 4, 3) := by decide +kernel
theorem dX12_ask_119 : decode cX12_ask 119 = .ok (.iload_n 2, 1) := by decide +kernel
theorem dX12_ask_120 : decode cX12_ask 120 = .ok (.istore_n 2, 1) := by decide +kernel
theorem dX12_ask_121 : decode cX12_ask 121 = .ok (.iload 4, 2) := by decide +kernel
theorem dX12_ask_123 : decode cX12_ask 123 = .ok (.iload_n 1, 1) := by decide +kernel
theorem dX12_ask_124 : decode cX12_ask 124 = .ok (.invokestatic 199, 3) := by decide +kernel
theorem dX12_ask_127 : decode cX12_ask 127 = .ok (.istore_n 1, 1) := by decide +kernel
theorem dX12_ask_128 : decode cX12_ask 128 = .ok (.iinc 3 1, 3) := by decide +kernel
theorem dX12_ask_131 : decode cX12_ask 131 = .ok (.goto (-121), 3) := by decide +kernel
theorem dX12_ask_134 : decode cX12_ask 134 = .ok (.iload_n 2, 1) := by decide +kernel
theorem dX12_ask_135 : decode cX12_ask 135 = .ok (.ireturn, 1) := by decide +kernel
theorem dX12_write_0 : decode cX12_write 0 = .ok (.aload_n 0, 1) := by decide +kernel
theorem dX12_write_1 : decode cX12_write 1 = .ok (.iload_n 1, 1) := by decide +kernel
theorem dX12_write_2 : decode cX12_write 2 = .ok (.invokevirtual 173, 3) := by decide +kernel
theorem dX12_write_5 : decode cX12_write 5 = .ok (.ifCond .ne 6, 3) := by decide +kernel
theorem dX12_write_8 : decode cX12_write 8 = .ok (.ldc 176, 2) := by decide +kernel
theorem dX12_write_10 : decode cX12_write 10 = .ok (.ireturn, 1) := by decide +kernel
theorem dX12_write_11 : decode cX12_write 11 = .ok (.iload_n 2, 1) := by decide +kernel
theorem dX12_write_12 : decode cX12_write 12 = .ok (.i2l, 1) := by decide +kernel
theorem dX12_write_13 : decode cX12_write 13 = .ok (.lconst 0, 1) := by decide +kernel
theorem dX12_write_14 : decode cX12_write 14 = .ok (.ldc2_w 214, 3) := by decide +kernel
theorem dX12_write_17 : decode cX12_write 17 = .ok (.invokestatic 58, 3) := by decide +kernel
theorem dX12_write_20 : decode cX12_write 20 = .ok (.ifCond .ne 6, 3) := by decide +kernel
theorem dX12_write_23 : decode cX12_write 23 = .ok (.ldc 77, 2) := by decide +kernel
theorem dX12_write_25 : decode cX12_write 25 = .ok (.ireturn, 1) := by decide +kernel
theorem dX12_write_26 : decode cX12_write 26 = .ok (.aload_n 0, 1) := by decide +kernel
theorem dX12_write_27 : decode cX12_write 27 = .ok (.getfield 72, 3) := by decide +kernel
theorem dX12_write_30 : decode cX12_write 30 = .ok (.bipush 15, 2) := by decide +kernel
theorem dX12_write_32 : decode cX12_write 32 = .ok (.if_icmp .ne 6, 3) := by decide +kernel
theorem dX12_write_35 : decode cX12_write 35 = .ok (.ldc 81, 2) := by decide +kernel
theorem dX12_write_37 : decode cX12_write 37 = .ok (.ireturn, 1) := by decide +kernel
theorem dX12_write_38 : decode cX12_write 38 = .ok (.aload_n 0, 1) := by decide +kernel
theorem dX12_write_39 : decode cX12_write 39 = .ok (.getfield 42, 3) := by decide +kernel
theorem dX12_write_42 : decode cX12_write 42 = .ok (.iconst 2, 1) := by decide +kernel
theorem dX12_write_43 : decode cX12_write 43 = .ok (.aload_n 0, 1) := by decide +kernel
theorem dX12_write_44 : decode cX12_write 44 = .ok (.getfield 72, 3) := by decide +kernel
theorem dX12_write_47 : decode cX12_write 47 = .ok (.imul, 1) := by decide +kernel
theorem dX12_write_48 : decode cX12_write 48 = .ok (.iload_n 1, 1) := by decide +kernel
theorem dX12_write_49 : decode cX12_write 49 = .ok (.iastore, 1) := by decide +kernel
theorem dX12_write_50 : decode cX12_write 50 = .ok (.aload_n 0, 1) := by decide +kernel
theorem dX12_write_51 : decode cX12_write 51 = .ok (.getfield 42, 3) := by decide +kernel
theorem dX12_write_54 : decode cX12_write 54 = .ok (.iconst 2, 1) := by decide +kernel
theorem dX12_write_55 : decode cX12_write 55 = .ok (.aload_n 0, 1) := by decide +kernel
theorem dX12_write_56 : decode cX12_write 56 = .ok (.getfield 72, 3) := by decide +kernel
theorem dX12_write_59 : decode cX12_write 59 = .ok (.imul, 1) := by decide +kernel
theorem dX12_write_60 : decode cX12_write 60 = .ok (.iconst 1, 1) := by decide +kernel
theorem dX12_write_61 : decode cX12_write 61 = .ok (.iadd, 1) := by decide +kernel
theorem dX12_write_62 : decode cX12_write 62 = .ok (.iload_n 2, 1) := by decide +kernel
theorem dX12_write_63 : decode cX12_write 63 = .ok (.iastore, 1) := by decide +kernel
theorem dX12_write_64 : decode cX12_write 64 = .ok (.aload_n 0, 1) := by decide +kernel
theorem dX12_write_65 : decode cX12_write 65 = .ok (.dup, 1) := by decide +kernel
theorem dX12_write_66 : decode cX12_write 66 = .ok (.getfield 72, 3) := by decide +kernel
theorem dX12_write_69 : decode cX12_write 69 = .ok (.iconst 1, 1) := by decide +kernel
theorem dX12_write_70 : decode cX12_write 70 = .ok (.iadd, 1) := by decide +kernel
theorem dX12_write_71 : decode cX12_write 71 = .ok (.putfield 72, 3) := by decide +kernel
theorem dX12_write_74 : decode cX12_write 74 = .ok (.aload_n 0, 1) := by decide +kernel
theorem dX12_write_75 : decode cX12_write 75 = .ok (.getfield 72, 3) := by decide +kernel
theorem dX12_write_78 : decode cX12_write 78 = .ok (.ireturn, 1) := by decide +kernel
theorem dX12_tear_0 : decode cX12_tear 0 = .ok (.aload_n 0, 1) := by decide +kernel
theorem dX12_tear_1 : decode cX12_tear 1 = .ok (.getfield 69, 3) := by decide +kernel
theorem dX12_tear_4 : decode cX12_tear 4 = .ok (.aload_n 0, 1) := by decide +kernel
theorem dX12_tear_5 : decode cX12_tear 5 = .ok (.getfield 72, 3) := by decide +kernel
theorem dX12_tear_8 : decode cX12_tear 8 = .ok (.iadd, 1) := by decide +kernel
theorem dX12_tear_9 : decode cX12_tear 9 = .ok (.istore_n 1, 1) := by decide +kernel
theorem dX12_tear_10 : decode cX12_tear 10 = .ok (.aload_n 0, 1) := by decide +kernel
theorem dX12_tear_11 : decode cX12_tear 11 = .ok (.iconst 0, 1) := by decide +kernel
theorem dX12_tear_12 : decode cX12_tear 12 = .ok (.putfield 69, 3) := by decide +kernel
theorem dX12_tear_15 : decode cX12_tear 15 = .ok (.aload_n 0, 1) := by decide +kernel
theorem dX12_tear_16 : decode cX12_tear 16 = .ok (.iconst 0, 1) := by decide +kernel
theorem dX12_tear_17 : decode cX12_tear 17 = .ok (.putfield 72, 3) := by decide +kernel
theorem dX12_tear_20 : decode cX12_tear 20 = .ok (.iload_n 1, 1) := by decide +kernel
theorem dX12_tear_21 : decode cX12_tear 21 = .ok (.ireturn, 1) := by decide +kernel
theorem dX12_judge_0 : decode cX12_judge 0 = .ok (.iconst 0, 1) := by decide +kernel
theorem dX12_judge_1 : decode cX12_judge 1 = .ok (.istore_n 1, 1) := by decide +kernel
theorem dX12_judge_2 : decode cX12_judge 2 = .ok (.iload_n 1, 1) := by decide +kernel
theorem dX12_judge_3 : decode cX12_judge 3 = .ok (.aload_n 0, 1) := by decide +kernel
theorem dX12_judge_4 : decode cX12_judge 4 = .ok (.getfield 72, 3) := by decide +kernel
theorem dX12_judge_7 : decode cX12_judge 7 = .ok (.if_icmp .ge 39, 3) := by decide +kernel
theorem dX12_judge_10 : decode cX12_judge 10 = .ok (.aload_n 0, 1) := by decide +kernel
theorem dX12_judge_11 : decode cX12_judge 11 = .ok (.getfield 16, 3) := by decide +kernel
theorem dX12_judge_14 : decode cX12_judge 14 = .ok (.iconst 1, 1) := by decide +kernel
theorem dX12_judge_15 : decode cX12_judge 15 = .ok (.aload_n 0, 1) := by decide +kernel
theorem dX12_judge_16 : decode cX12_judge 16 = .ok (.getfield 42, 3) := by decide +kernel
theorem dX12_judge_19 : decode cX12_judge 19 = .ok (.iconst 2, 1) := by decide +kernel
theorem dX12_judge_20 : decode cX12_judge 20 = .ok (.iload_n 1, 1) := by decide +kernel
theorem dX12_judge_21 : decode cX12_judge 21 = .ok (.imul, 1) := by decide +kernel
theorem dX12_judge_22 : decode cX12_judge 22 = .ok (.iaload, 1) := by decide +kernel
theorem dX12_judge_23 : decode cX12_judge 23 = .ok (.iadd, 1) := by decide +kernel
theorem dX12_judge_24 : decode cX12_judge 24 = .ok (.iaload, 1) := by decide +kernel
theorem dX12_judge_25 : decode cX12_judge 25 = .ok (.aload_n 0, 1) := by decide +kernel
theorem dX12_judge_26 : decode cX12_judge 26 = .ok (.getfield 42, 3) := by decide +kernel
theorem dX12_judge_29 : decode cX12_judge 29 = .ok (.iconst 2, 1) := by decide +kernel
theorem dX12_judge_30 : decode cX12_judge 30 = .ok (.iload_n 1, 1) := by decide +kernel
theorem dX12_judge_31 : decode cX12_judge 31 = .ok (.imul, 1) := by decide +kernel
theorem dX12_judge_32 : decode cX12_judge 32 = .ok (.iconst 1, 1) := by decide +kernel
theorem dX12_judge_33 : decode cX12_judge 33 = .ok (.iadd, 1) := by decide +kernel
theorem dX12_judge_34 : decode cX12_judge 34 = .ok (.iaload, 1) := by decide +kernel
theorem dX12_judge_35 : decode cX12_judge 35 = .ok (.if_icmp .eq 5, 3) := by decide +kernel
theorem dX12_judge_38 : decode cX12_judge 38 = .ok (.iload_n 1, 1) := by decide +kernel
theorem dX12_judge_39 : decode cX12_judge 39 = .ok (.ireturn, 1) := by decide +kernel
theorem dX12_judge_40 : decode cX12_judge 40 = .ok (.iinc 1 1, 3) := by decide +kernel
theorem dX12_judge_43 : decode cX12_judge 43 = .ok (.goto (-41), 3) := by decide +kernel
theorem dX12_judge_46 : decode cX12_judge 46 = .ok (.iconst (-1), 1) := by decide +kernel
theorem dX12_judge_47 : decode cX12_judge 47 = .ok (.ireturn, 1) := by decide +kernel
theorem dX12_seed_0 : decode cX12_seed 0 = .ok (.iload_n 1, 1) := by decide +kernel
theorem dX12_seed_1 : decode cX12_seed 1 = .ok (.ifCond .ge 6, 3) := by decide +kernel
theorem dX12_seed_4 : decode cX12_seed 4 = .ok (.ldc 77, 2) := by decide +kernel
theorem dX12_seed_6 : decode cX12_seed 6 = .ok (.ireturn, 1) := by decide +kernel
theorem dX12_seed_7 : decode cX12_seed 7 = .ok (.aload_n 0, 1) := by decide +kernel
theorem dX12_seed_8 : decode cX12_seed 8 = .ok (.getfield 218, 3) := by decide +kernel
theorem dX12_seed_11 : decode cX12_seed 11 = .ok (.l2i, 1) := by decide +kernel
theorem dX12_seed_12 : decode cX12_seed 12 = .ok (.istore_n 2, 1) := by decide +kernel
theorem dX12_seed_13 : decode cX12_seed 13 = .ok (.aload_n 0, 1) := by decide +kernel
theorem dX12_seed_14 : decode cX12_seed 14 = .ok (.iload_n 1, 1) := by decide +kernel
theorem dX12_seed_15 : decode cX12_seed 15 = .ok (.i2l, 1) := by decide +kernel
theorem dX12_seed_16 : decode cX12_seed 16 = .ok (.putfield 218, 3) := by decide +kernel
theorem dX12_seed_19 : decode cX12_seed 19 = .ok (.iload_n 2, 1) := by decide +kernel
theorem dX12_seed_20 : decode cX12_seed 20 = .ok (.ireturn, 1) := by decide +kernel
theorem dX12_keep_0 : decode cX12_keep 0 = .ok (.iload_n 1, 1) := by decide +kernel
theorem dX12_keep_1 : decode cX12_keep 1 = .ok (.i2l, 1) := by decide +kernel
theorem dX12_keep_2 : decode cX12_keep 2 = .ok (.lconst 0, 1) := by decide +kernel
theorem dX12_keep_3 : decode cX12_keep 3 = .ok (.lconst 1, 1) := by decide +kernel
theorem dX12_keep_4 : decode cX12_keep 4 = .ok (.invokestatic 58, 3) := by decide +kernel
theorem dX12_keep_7 : decode cX12_keep 7 = .ok (.ifCond .ne 6, 3) := by decide +kernel
theorem dX12_keep_10 : decode cX12_keep 10 = .ok (.ldc 176, 2) := by decide +kernel
theorem dX12_keep_12 : decode cX12_keep 12 = .ok (.ireturn, 1) := by decide +kernel
theorem dX12_keep_13 : decode cX12_keep 13 = .ok (.aload_n 0, 1) := by decide +kernel
theorem dX12_keep_14 : decode cX12_keep 14 = .ok (.getfield 16, 3) := by decide +kernel
theorem dX12_keep_17 : decode cX12_keep 17 = .ok (.iconst 0, 1) := by decide +kernel
theorem dX12_keep_18 : decode cX12_keep 18 = .ok (.aload_n 0, 1) := by decide +kernel
theorem dX12_keep_19 : decode cX12_keep 19 = .ok (.getfield 25, 3) := by decide +kernel
theorem dX12_keep_22 : decode cX12_keep 22 = .ok (.sipush 164, 3) := by decide +kernel
theorem dX12_keep_25 : decode cX12_keep 25 = .ok (.iload_n 1, 1) := by decide +kernel
theorem dX12_keep_26 : decode cX12_keep 26 = .ok (.imul, 1) := by decide +kernel
theorem dX12_keep_27 : decode cX12_keep 27 = .ok (.sipush 163, 3) := by decide +kernel
theorem dX12_keep_30 : decode cX12_keep 30 = .ok (.invokestatic 62, 3) := by decide +kernel
theorem dX12_keep_33 : decode cX12_keep 33 = .ok (.aload_n 0, 1) := by decide +kernel
theorem dX12_keep_34 : decode cX12_keep 34 = .ok (.getfield 25, 3) := by decide +kernel
theorem dX12_keep_37 : decode cX12_keep 37 = .ok (.sipush 164, 3) := by decide +kernel
theorem dX12_keep_40 : decode cX12_keep 40 = .ok (.iload_n 1, 1) := by decide +kernel
theorem dX12_keep_41 : decode cX12_keep 41 = .ok (.imul, 1) := by decide +kernel
theorem dX12_keep_42 : decode cX12_keep 42 = .ok (.sipush 163, 3) := by decide +kernel
theorem dX12_keep_45 : decode cX12_keep 45 = .ok (.iadd, 1) := by decide +kernel
theorem dX12_keep_46 : decode cX12_keep 46 = .ok (.aload_n 0, 1) := by decide +kernel
theorem dX12_keep_47 : decode cX12_keep 47 = .ok (.getfield 218, 3) := by decide +kernel
theorem dX12_keep_50 : decode cX12_keep 50 = .ok (.l2i, 1) := by decide +kernel
theorem dX12_keep_51 : decode cX12_keep 51 = .ok (.iastore, 1) := by decide +kernel
theorem dX12_keep_52 : decode cX12_keep 52 = .ok (.aload_n 0, 1) := by decide +kernel
theorem dX12_keep_53 : decode cX12_keep 53 = .ok (.getfield 28, 3) := by decide +kernel
theorem dX12_keep_56 : decode cX12_keep 56 = .ok (.iload_n 1, 1) := by decide +kernel
theorem dX12_keep_57 : decode cX12_keep 57 = .ok (.iconst 1, 1) := by decide +kernel
theorem dX12_keep_58 : decode cX12_keep 58 = .ok (.bastore, 1) := by decide +kernel
theorem dX12_keep_59 : decode cX12_keep 59 = .ok (.aload_n 0, 1) := by decide +kernel
theorem dX12_keep_60 : decode cX12_keep 60 = .ok (.iconst 0, 1) := by decide +kernel
theorem dX12_keep_61 : decode cX12_keep 61 = .ok (.putfield 66, 3) := by decide +kernel
theorem dX12_keep_64 : decode cX12_keep 64 = .ok (.iconst 1, 1) := by decide +kernel
theorem dX12_keep_65 : decode cX12_keep 65 = .ok (.ireturn, 1) := by decide +kernel
theorem dX12_goBack_0 : decode cX12_goBack 0 = .ok (.iload_n 1, 1) := by decide +kernel
theorem dX12_goBack_1 : decode cX12_goBack 1 = .ok (.i2l, 1) := by decide +kernel
theorem dX12_goBack_2 : decode cX12_goBack 2 = .ok (.lconst 0, 1) := by decide +kernel
theorem dX12_goBack_3 : decode cX12_goBack 3 = .ok (.lconst 1, 1) := by decide +kernel
theorem dX12_goBack_4 : decode cX12_goBack 4 = .ok (.invokestatic 58, 3) := by decide +kernel
theorem dX12_goBack_7 : decode cX12_goBack 7 = .ok (.ifCond .ne 6, 3) := by decide +kernel
theorem dX12_goBack_10 : decode cX12_goBack 10 = .ok (.ldc 176, 2) := by decide +kernel
theorem dX12_goBack_12 : decode cX12_goBack 12 = .ok (.ireturn, 1) := by decide +kernel
theorem dX12_goBack_13 : decode cX12_goBack 13 = .ok (.aload_n 0, 1) := by decide +kernel
theorem dX12_goBack_14 : decode cX12_goBack 14 = .ok (.getfield 28, 3) := by decide +kernel
theorem dX12_goBack_17 : decode cX12_goBack 17 = .ok (.iload_n 1, 1) := by decide +kernel
theorem dX12_goBack_18 : decode cX12_goBack 18 = .ok (.baload, 1) := by decide +kernel
theorem dX12_goBack_19 : decode cX12_goBack 19 = .ok (.ifCond .ne 6, 3) := by decide +kernel
theorem dX12_goBack_22 : decode cX12_goBack 22 = .ok (.ldc 192, 2) := by decide +kernel
theorem dX12_goBack_24 : decode cX12_goBack 24 = .ok (.ireturn, 1) := by decide +kernel
theorem dX12_goBack_25 : decode cX12_goBack 25 = .ok (.aload_n 0, 1) := by decide +kernel
theorem dX12_goBack_26 : decode cX12_goBack 26 = .ok (.getfield 25, 3) := by decide +kernel
theorem dX12_goBack_29 : decode cX12_goBack 29 = .ok (.sipush 164, 3) := by decide +kernel
theorem dX12_goBack_32 : decode cX12_goBack 32 = .ok (.iload_n 1, 1) := by decide +kernel
theorem dX12_goBack_33 : decode cX12_goBack 33 = .ok (.imul, 1) := by decide +kernel
theorem dX12_goBack_34 : decode cX12_goBack 34 = .ok (.aload_n 0, 1) := by decide +kernel
theorem dX12_goBack_35 : decode cX12_goBack 35 = .ok (.getfield 16, 3) := by decide +kernel
theorem dX12_goBack_38 : decode cX12_goBack 38 = .ok (.iconst 0, 1) := by decide +kernel
theorem dX12_goBack_39 : decode cX12_goBack 39 = .ok (.sipush 163, 3) := by decide +kernel
theorem dX12_goBack_42 : decode cX12_goBack 42 = .ok (.invokestatic 62, 3) := by decide +kernel
theorem dX12_goBack_45 : decode cX12_goBack 45 = .ok (.aload_n 0, 1) := by decide +kernel
theorem dX12_goBack_46 : decode cX12_goBack 46 = .ok (.aload_n 0, 1) := by decide +kernel
theorem dX12_goBack_47 : decode cX12_goBack 47 = .ok (.getfield 25, 3) := by decide +kernel
theorem dX12_goBack_50 : decode cX12_goBack 50 = .ok (.sipush 164, 3) := by decide +kernel
theorem dX12_goBack_53 : decode cX12_goBack 53 = .ok (.iload_n 1, 1) := by decide +kernel
theorem dX12_goBack_54 : decode cX12_goBack 54 = .ok (.imul, 1) := by decide +kernel
theorem dX12_goBack_55 : decode cX12_goBack 55 = .ok (.sipush 163, 3) := by decide +kernel
theorem dX12_goBack_58 : decode cX12_goBack 58 = .ok (.iadd, 1) := by decide +kernel
theorem dX12_goBack_59 : decode cX12_goBack 59 = .ok (.iaload, 1) := by decide +kernel
theorem dX12_goBack_60 : decode cX12_goBack 60 = .ok (.i2l, 1) := by decide +kernel
theorem dX12_goBack_61 : decode cX12_goBack 61 = .ok (.putfield 218, 3) := by decide +kernel
theorem dX12_goBack_64 : decode cX12_goBack 64 = .ok (.aload_n 0, 1) := by decide +kernel
theorem dX12_goBack_65 : decode cX12_goBack 65 = .ok (.iconst 0, 1) := by decide +kernel
theorem dX12_goBack_66 : decode cX12_goBack 66 = .ok (.putfield 66, 3) := by decide +kernel
theorem dX12_goBack_69 : decode cX12_goBack 69 = .ok (.iconst 1, 1) := by decide +kernel
theorem dX12_goBack_70 : decode cX12_goBack 70 = .ok (.ireturn, 1) := by decide +kernel
theorem dJ6_bitCount_0f7a4_0 : decode cJ6_bitCount_0f7a4 0 = .ok (.iload_n 0, 1) := by decide +kernel
theorem dJ6_bitCount_0f7a4_1 : decode cJ6_bitCount_0f7a4 1 = .ok (.iload_n 0, 1) := by decide +kernel
theorem dJ6_bitCount_0f7a4_2 : decode cJ6_bitCount_0f7a4 2 = .ok (.iconst 1, 1) := by decide +kernel
theorem dJ6_bitCount_0f7a4_3 : decode cJ6_bitCount_0f7a4 3 = .ok (.iushr, 1) := by decide +kernel
theorem dJ6_bitCount_0f7a4_4 : decode cJ6_bitCount_0f7a4 4 = .ok (.ldc_w 265, 3) := by decide +kernel
theorem dJ6_bitCount_0f7a4_7 : decode cJ6_bitCount_0f7a4 7 = .ok (.iand, 1) := by decide +kernel
theorem dJ6_bitCount_0f7a4_8 : decode cJ6_bitCount_0f7a4 8 = .ok (.isub, 1) := by decide +kernel
theorem dJ6_bitCount_0f7a4_9 : decode cJ6_bitCount_0f7a4 9 = .ok (.istore_n 0, 1) := by decide +kernel
theorem dJ6_bitCount_0f7a4_10 : decode cJ6_bitCount_0f7a4 10 = .ok (.iload_n 0, 1) := by decide +kernel
theorem dJ6_bitCount_0f7a4_11 : decode cJ6_bitCount_0f7a4 11 = .ok (.ldc_w 266, 3) := by decide +kernel
theorem dJ6_bitCount_0f7a4_14 : decode cJ6_bitCount_0f7a4 14 = .ok (.iand, 1) := by decide +kernel
theorem dJ6_bitCount_0f7a4_15 : decode cJ6_bitCount_0f7a4 15 = .ok (.iload_n 0, 1) := by decide +kernel
theorem dJ6_bitCount_0f7a4_16 : decode cJ6_bitCount_0f7a4 16 = .ok (.iconst 2, 1) := by decide +kernel
theorem dJ6_bitCount_0f7a4_17 : decode cJ6_bitCount_0f7a4 17 = .ok (.iushr, 1) := by decide +kernel
theorem dJ6_bitCount_0f7a4_18 : decode cJ6_bitCount_0f7a4 18 = .ok (.ldc_w 266, 3) := by decide +kernel
theorem dJ6_bitCount_0f7a4_21 : decode cJ6_bitCount_0f7a4 21 = .ok (.iand, 1) := by decide +kernel
theorem dJ6_bitCount_0f7a4_22 : decode cJ6_bitCount_0f7a4 22 = .ok (.iadd, 1) := by decide +kernel
theorem dJ6_bitCount_0f7a4_23 : decode cJ6_bitCount_0f7a4 23 = .ok (.istore_n 0, 1) := by decide +kernel
theorem dJ6_bitCount_0f7a4_24 : decode cJ6_bitCount_0f7a4 24 = .ok (.iload_n 0, 1) := by decide +kernel
theorem dJ6_bitCount_0f7a4_25 : decode cJ6_bitCount_0f7a4 25 = .ok (.iload_n 0, 1) := by decide +kernel
theorem dJ6_bitCount_0f7a4_26 : decode cJ6_bitCount_0f7a4 26 = .ok (.iconst 4, 1) := by decide +kernel
theorem dJ6_bitCount_0f7a4_27 : decode cJ6_bitCount_0f7a4 27 = .ok (.iushr, 1) := by decide +kernel
theorem dJ6_bitCount_0f7a4_28 : decode cJ6_bitCount_0f7a4 28 = .ok (.iadd, 1) := by decide +kernel
theorem dJ6_bitCount_0f7a4_29 : decode cJ6_bitCount_0f7a4 29 = .ok (.ldc_w 267, 3) := by decide +kernel
theorem dJ6_bitCount_0f7a4_32 : decode cJ6_bitCount_0f7a4 32 = .ok (.iand, 1) := by decide +kernel
theorem dJ6_bitCount_0f7a4_33 : decode cJ6_bitCount_0f7a4 33 = .ok (.istore_n 0, 1) := by decide +kernel
theorem dJ6_bitCount_0f7a4_34 : decode cJ6_bitCount_0f7a4 34 = .ok (.iload_n 0, 1) := by decide +kernel
theorem dJ6_bitCount_0f7a4_35 : decode cJ6_bitCount_0f7a4 35 = .ok (.iload_n 0, 1) := by decide +kernel
theorem dJ6_bitCount_0f7a4_36 : decode cJ6_bitCount_0f7a4 36 = .ok (.bipush 8, 2) := by decide +kernel
theorem dJ6_bitCount_0f7a4_38 : decode cJ6_bitCount_0f7a4 38 = .ok (.iushr, 1) := by decide +kernel
theorem dJ6_bitCount_0f7a4_39 : decode cJ6_bitCount_0f7a4 39 = .ok (.iadd, 1) := by decide +kernel
theorem dJ6_bitCount_0f7a4_40 : decode cJ6_bitCount_0f7a4 40 = .ok (.istore_n 0, 1) := by decide +kernel
theorem dJ6_bitCount_0f7a4_41 : decode cJ6_bitCount_0f7a4 41 = .ok (.iload_n 0, 1) := by decide +kernel
theorem dJ6_bitCount_0f7a4_42 : decode cJ6_bitCount_0f7a4 42 = .ok (.iload_n 0, 1) := by decide +kernel
theorem dJ6_bitCount_0f7a4_43 : decode cJ6_bitCount_0f7a4 43 = .ok (.bipush 16, 2) := by decide +kernel
theorem dJ6_bitCount_0f7a4_45 : decode cJ6_bitCount_0f7a4 45 = .ok (.iushr, 1) := by decide +kernel
theorem dJ6_bitCount_0f7a4_46 : decode cJ6_bitCount_0f7a4 46 = .ok (.iadd, 1) := by decide +kernel
theorem dJ6_bitCount_0f7a4_47 : decode cJ6_bitCount_0f7a4 47 = .ok (.istore_n 0, 1) := by decide +kernel
theorem dJ6_bitCount_0f7a4_48 : decode cJ6_bitCount_0f7a4 48 = .ok (.iload_n 0, 1) := by decide +kernel
theorem dJ6_bitCount_0f7a4_49 : decode cJ6_bitCount_0f7a4 49 = .ok (.bipush 63, 2) := by decide +kernel
theorem dJ6_bitCount_0f7a4_51 : decode cJ6_bitCount_0f7a4 51 = .ok (.iand, 1) := by decide +kernel
theorem dJ6_bitCount_0f7a4_52 : decode cJ6_bitCount_0f7a4 52 = .ok (.ireturn, 1) := by decide +kernel
theorem dJ9_max_7cf53_0 : decode cJ9_max_7cf53 0 = .ok (.iload_n 0, 1) := by decide +kernel
theorem dJ9_max_7cf53_1 : decode cJ9_max_7cf53 1 = .ok (.iload_n 1, 1) := by decide +kernel
theorem dJ9_max_7cf53_2 : decode cJ9_max_7cf53 2 = .ok (.if_icmp .lt 7, 3) := by decide +kernel
theorem dJ9_max_7cf53_5 : decode cJ9_max_7cf53 5 = .ok (.iload_n 0, 1) := by decide +kernel
theorem dJ9_max_7cf53_6 : decode cJ9_max_7cf53 6 = .ok (.goto 4, 3) := by decide +kernel
theorem dJ9_max_7cf53_9 : decode cJ9_max_7cf53 9 = .ok (.iload_n 1, 1) := by decide +kernel
theorem dJ9_max_7cf53_10 : decode cJ9_max_7cf53 10 = .ok (.ireturn, 1) := by decide +kernel
theorem dJ9_min_7cf53_0 : decode cJ9_min_7cf53 0 = .ok (.iload_n 0, 1) := by decide +kernel
theorem dJ9_min_7cf53_1 : decode cJ9_min_7cf53 1 = .ok (.iload_n 1, 1) := by decide +kernel
theorem dJ9_min_7cf53_2 : decode cJ9_min_7cf53 2 = .ok (.if_icmp .gt 7, 3) := by decide +kernel
theorem dJ9_min_7cf53_5 : decode cJ9_min_7cf53 5 = .ok (.iload_n 0, 1) := by decide +kernel
theorem dJ9_min_7cf53_6 : decode cJ9_min_7cf53 6 = .ok (.goto 4, 3) := by decide +kernel
theorem dJ9_min_7cf53_9 : decode cJ9_min_7cf53 9 = .ok (.iload_n 1, 1) := by decide +kernel
theorem dJ9_min_7cf53_10 : decode cJ9_min_7cf53 10 = .ok (.ireturn, 1) := by decide +kernel
theorem dJ7_fill_53178_0 : decode cJ7_fill_53178 0 = .ok (.iconst 0, 1) := by decide +kernel
theorem dJ7_fill_53178_1 : decode cJ7_fill_53178 1 = .ok (.istore_n 2, 1) := by decide +kernel
theorem dJ7_fill_53178_2 : decode cJ7_fill_53178 2 = .ok (.aload_n 0, 1) := by decide +kernel
theorem dJ7_fill_53178_3 : decode cJ7_fill_53178 3 = .ok (.arraylength, 1) := by decide +kernel
theorem dJ7_fill_53178_4 : decode cJ7_fill_53178 4 = .ok (.istore_n 3, 1) := by decide +kernel
theorem dJ7_fill_53178_5 : decode cJ7_fill_53178 5 = .ok (.iload_n 2, 1) := by decide +kernel
theorem dJ7_fill_53178_6 : decode cJ7_fill_53178 6 = .ok (.iload_n 3, 1) := by decide +kernel
theorem dJ7_fill_53178_7 : decode cJ7_fill_53178 7 = .ok (.if_icmp .ge 13, 3) := by decide +kernel
theorem dJ7_fill_53178_10 : decode cJ7_fill_53178 10 = .ok (.aload_n 0, 1) := by decide +kernel
theorem dJ7_fill_53178_11 : decode cJ7_fill_53178 11 = .ok (.iload_n 2, 1) := by decide +kernel
theorem dJ7_fill_53178_12 : decode cJ7_fill_53178 12 = .ok (.iload_n 1, 1) := by decide +kernel
theorem dJ7_fill_53178_13 : decode cJ7_fill_53178 13 = .ok (.iastore, 1) := by decide +kernel
theorem dJ7_fill_53178_14 : decode cJ7_fill_53178 14 = .ok (.iinc 2 1, 3) := by decide +kernel
theorem dJ7_fill_53178_17 : decode cJ7_fill_53178 17 = .ok (.goto (-12), 3) := by decide +kernel
theorem dJ7_fill_53178_20 : decode cJ7_fill_53178 20 = .ok (.return_, 1) := by decide +kernel
theorem dL_law_0 : decode cL_law 0 = .ok (.new 7, 3) := by decide +kernel
theorem dL_law_3 : decode cL_law 3 = .ok (.dup, 1) := by decide +kernel
theorem dL_law_4 : decode cL_law 4 = .ok (.invokespecial 9, 3) := by decide +kernel
theorem dL_law_7 : decode cL_law 7 = .ok (.astore_n 1, 1) := by decide +kernel
theorem dL_law_8 : decode cL_law 8 = .ok (.new 10, 3) := by decide +kernel
theorem dL_law_11 : decode cL_law 11 = .ok (.dup, 1) := by decide +kernel
theorem dL_law_12 : decode cL_law 12 = .ok (.invokespecial 12, 3) := by decide +kernel
theorem dL_law_15 : decode cL_law 15 = .ok (.astore_n 2, 1) := by decide +kernel
theorem dL_law_16 : decode cL_law 16 = .ok (.iconst 0, 1) := by decide +kernel
theorem dL_law_17 : decode cL_law 17 = .ok (.istore_n 3, 1) := by decide +kernel
theorem dL_law_18 : decode cL_law 18 = .ok (.iload_n 3, 1) := by decide +kernel
theorem dL_law_19 : decode cL_law 19 = .ok (.aload_n 0, 1) := by decide +kernel
theorem dL_law_20 : decode cL_law 20 = .ok (.arraylength, 1) := by decide +kernel
theorem dL_law_21 : decode cL_law 21 = .ok (.iconst 4, 1) := by decide +kernel
theorem dL_law_22 : decode cL_law 22 = .ok (.isub, 1) := by decide +kernel
theorem dL_law_23 : decode cL_law 23 = .ok (.if_icmp .gt 997, 3) := by decide +kernel
theorem dL_law_26 : decode cL_law 26 = .ok (.aload_n 0, 1) := by decide +kernel
theorem dL_law_27 : decode cL_law 27 = .ok (.iload_n 3, 1) := by decide +kernel
theorem dL_law_28 : decode cL_law 28 = .ok (.iaload, 1) := by decide +kernel
theorem dL_law_29 : decode cL_law 29 = .ok (.bipush 31, 2) := by decide +kernel
theorem dL_law_31 : decode cL_law 31 = .ok (.iand, 1) := by decide +kernel
theorem dL_law_32 : decode cL_law 32 = .ok (.tableswitch 982 0 29 #[136, 159, 172, 185, 208, 241, 274, 307, 350, 383, 406, 465, 508, 541, 574, 597, 610, 643, 666, 709, 742, 775, 818, 841, 854, 887, 900, 913, 936, 959], 136) := by decide +kernel
theorem dL_law_168 : decode cL_law 168 = .ok (.aload_n 1, 1) := by decide +kernel
theorem dL_law_169 : decode cL_law 169 = .ok (.aload_n 0, 1) := by decide +kernel
theorem dL_law_170 : decode cL_law 170 = .ok (.iload_n 3, 1) := by decide +kernel
theorem dL_law_171 : decode cL_law 171 = .ok (.iconst 1, 1) := by decide +kernel
theorem dL_law_172 : decode cL_law 172 = .ok (.iadd, 1) := by decide +kernel
theorem dL_law_173 : decode cL_law 173 = .ok (.iaload, 1) := by decide +kernel
theorem dL_law_174 : decode cL_law 174 = .ok (.invokevirtual 13, 3) := by decide +kernel
theorem dL_law_177 : decode cL_law 177 = .ok (.aload_n 2, 1) := by decide +kernel
theorem dL_law_178 : decode cL_law 178 = .ok (.aload_n 0, 1) := by decide +kernel
theorem dL_law_179 : decode cL_law 179 = .ok (.iload_n 3, 1) := by decide +kernel
theorem dL_law_180 : decode cL_law 180 = .ok (.iconst 1, 1) := by decide +kernel
theorem dL_law_181 : decode cL_law 181 = .ok (.iadd, 1) := by decide +kernel
theorem dL_law_182 : decode cL_law 182 = .ok (.iaload, 1) := by decide +kernel
theorem dL_law_183 : decode cL_law 183 = .ok (.invokevirtual 17, 3) := by decide +kernel
theorem dL_law_186 : decode cL_law 186 = .ok (.if_icmp .eq 828, 3) := by decide +kernel
theorem dL_law_189 : decode cL_law 189 = .ok (.iconst 0, 1) := by decide +kernel
theorem dL_law_190 : decode cL_law 190 = .ok (.ireturn, 1) := by decide +kernel
theorem dL_law_191 : decode cL_law 191 = .ok (.aload_n 1, 1) := by decide +kernel
theorem dL_law_192 : decode cL_law 192 = .ok (.invokevirtual 18, 3) := by decide +kernel
theorem dL_law_195 : decode cL_law 195 = .ok (.aload_n 2, 1) := by decide +kernel
theorem dL_law_196 : decode cL_law 196 = .ok (.invokevirtual 22, 3) := by decide +kernel
theorem dL_law_199 : decode cL_law 199 = .ok (.if_icmp .eq 815, 3) := by decide +kernel
theorem dL_law_202 : decode cL_law 202 = .ok (.iconst 0, 1) := by decide +kernel
theorem dL_law_203 : decode cL_law 203 = .ok (.ireturn, 1) := by decide +kernel
theorem dL_law_204 : decode cL_law 204 = .ok (.aload_n 1, 1) := by decide +kernel
theorem dL_law_205 : decode cL_law 205 = .ok (.invokevirtual 23, 3) := by decide +kernel
theorem dL_law_208 : decode cL_law 208 = .ok (.aload_n 2, 1) := by decide +kernel
theorem dL_law_209 : decode cL_law 209 = .ok (.invokevirtual 26, 3) := by decide +kernel
theorem dL_law_212 : decode cL_law 212 = .ok (.if_icmp .eq 802, 3) := by decide +kernel
theorem dL_law_215 : decode cL_law 215 = .ok (.iconst 0, 1) := by decide +kernel
theorem dL_law_216 : decode cL_law 216 = .ok (.ireturn, 1) := by decide +kernel
theorem dL_law_217 : decode cL_law 217 = .ok (.aload_n 1, 1) := by decide +kernel
theorem dL_law_218 : decode cL_law 218 = .ok (.aload_n 0, 1) := by decide +kernel
theorem dL_law_219 : decode cL_law 219 = .ok (.iload_n 3, 1) := by decide +kernel
theorem dL_law_220 : decode cL_law 220 = .ok (.iconst 1, 1) := by decide +kernel
theorem dL_law_221 : decode cL_law 221 = .ok (.iadd, 1) := by decide +kernel
theorem dL_law_222 : decode cL_law 222 = .ok (.iaload, 1) := by decide +kernel
theorem dL_law_223 : decode cL_law 223 = .ok (.invokevirtual 27, 3) := by decide +kernel
theorem dL_law_226 : decode cL_law 226 = .ok (.aload_n 2, 1) := by decide +kernel
theorem dL_law_227 : decode cL_law 227 = .ok (.aload_n 0, 1) := by decide +kernel
theorem dL_law_228 : decode cL_law 228 = .ok (.iload_n 3, 1) := by decide +kernel
theorem dL_law_229 : decode cL_law 229 = .ok (.iconst 1, 1) := by decide +kernel
theorem dL_law_230 : decode cL_law 230 = .ok (.iadd, 1) := by decide +kernel
theorem dL_law_231 : decode cL_law 231 = .ok (.iaload, 1) := by decide +kernel
theorem dL_law_232 : decode cL_law 232 = .ok (.invokevirtual 30, 3) := by decide +kernel
theorem dL_law_235 : decode cL_law 235 = .ok (.if_icmp .eq 779, 3) := by decide +kernel
theorem dL_law_238 : decode cL_law 238 = .ok (.iconst 0, 1) := by decide +kernel
theorem dL_law_239 : decode cL_law 239 = .ok (.ireturn, 1) := by decide +kernel
theorem dL_law_240 : decode cL_law 240 = .ok (.aload_n 1, 1) := by decide +kernel
theorem dL_law_241 : decode cL_law 241 = .ok (.aload_n 0, 1) := by decide +kernel
theorem dL_law_242 : decode cL_law 242 = .ok (.iload_n 3, 1) := by decide +kernel
theorem dL_law_243 : decode cL_law 243 = .ok (.iconst 1, 1) := by decide +kernel
theorem dL_law_244 : decode cL_law 244 = .ok (.iadd, 1) := by decide +kernel
theorem dL_law_245 : decode cL_law 245 = .ok (.iaload, 1) := by decide +kernel
theorem dL_law_246 : decode cL_law 246 = .ok (.aload_n 0, 1) := by decide +kernel
theorem dL_law_247 : decode cL_law 247 = .ok (.iload_n 3, 1) := by decide +kernel
theorem dL_law_248 : decode cL_law 248 = .ok (.iconst 2, 1) := by decide +kernel
theorem dL_law_249 : decode cL_law 249 = .ok (.iadd, 1) := by decide +kernel
theorem dL_law_250 : decode cL_law 250 = .ok (.iaload, 1) := by decide +kernel
theorem dL_law_251 : decode cL_law 251 = .ok (.invokevirtual 31, 3) := by decide +kernel
theorem dL_law_254 : decode cL_law 254 = .ok (.aload_n 2, 1) := by decide +kernel
theorem dL_law_255 : decode cL_law 255 = .ok (.aload_n 0, 1) := by decide +kernel
theorem dL_law_256 : decode cL_law 256 = .ok (.iload_n 3, 1) := by decide +kernel
theorem dL_law_257 : decode cL_law 257 = .ok (.iconst 1, 1) := by decide +kernel
theorem dL_law_258 : decode cL_law 258 = .ok (.iadd, 1) := by decide +kernel
theorem dL_law_259 : decode cL_law 259 = .ok (.iaload, 1) := by decide +kernel
theorem dL_law_260 : decode cL_law 260 = .ok (.aload_n 0, 1) := by decide +kernel
theorem dL_law_261 : decode cL_law 261 = .ok (.iload_n 3, 1) := by decide +kernel
theorem dL_law_262 : decode cL_law 262 = .ok (.iconst 2, 1) := by decide +kernel
theorem dL_law_263 : decode cL_law 263 = .ok (.iadd, 1) := by decide +kernel
theorem dL_law_264 : decode cL_law 264 = .ok (.iaload, 1) := by decide +kernel
theorem dL_law_265 : decode cL_law 265 = .ok (.invokevirtual 35, 3) := by decide +kernel
theorem dL_law_268 : decode cL_law 268 = .ok (.if_icmp .eq 746, 3) := by decide +kernel
theorem dL_law_271 : decode cL_law 271 = .ok (.iconst 0, 1) := by decide +kernel
theorem dL_law_272 : decode cL_law 272 = .ok (.ireturn, 1) := by decide +kernel
theorem dL_law_273 : decode cL_law 273 = .ok (.aload_n 1, 1) := by decide +kernel
theorem dL_law_274 : decode cL_law 274 = .ok (.aload_n 0, 1) := by decide +kernel
theorem dL_law_275 : decode cL_law 275 = .ok (.iload_n 3, 1) := by decide +kernel
theorem dL_law_276 : decode cL_law 276 = .ok (.iconst 1, 1) := by decide +kernel
theorem dL_law_277 : decode cL_law 277 = .ok (.iadd, 1) := by decide +kernel
theorem dL_law_278 : decode cL_law 278 = .ok (.iaload, 1) := by decide +kernel
theorem dL_law_279 : decode cL_law 279 = .ok (.aload_n 0, 1) := by decide +kernel
theorem dL_law_280 : decode cL_law 280 = .ok (.iload_n 3, 1) := by decide +kernel
theorem dL_law_281 : decode cL_law 281 = .ok (.iconst 2, 1) := by decide +kernel
theorem dL_law_282 : decode cL_law 282 = .ok (.iadd, 1) := by decide +kernel
theorem dL_law_283 : decode cL_law 283 = .ok (.iaload, 1) := by decide +kernel
theorem dL_law_284 : decode cL_law 284 = .ok (.invokevirtual 36, 3) := by decide +kernel
theorem dL_law_287 : decode cL_law 287 = .ok (.aload_n 2, 1) := by decide +kernel
theorem dL_law_288 : decode cL_law 288 = .ok (.aload_n 0, 1) := by decide +kernel
theorem dL_law_289 : decode cL_law 289 = .ok (.iload_n 3, 1) := by decide +kernel
theorem dL_law_290 : decode cL_law 290 = .ok (.iconst 1, 1) := by decide +kernel
theorem dL_law_291 : decode cL_law 291 = .ok (.iadd, 1) := by decide +kernel
theorem dL_law_292 : decode cL_law 292 = .ok (.iaload, 1) := by decide +kernel
theorem dL_law_293 : decode cL_law 293 = .ok (.aload_n 0, 1) := by decide +kernel
theorem dL_law_294 : decode cL_law 294 = .ok (.iload_n 3, 1) := by decide +kernel
theorem dL_law_295 : decode cL_law 295 = .ok (.iconst 2, 1) := by decide +kernel
theorem dL_law_296 : decode cL_law 296 = .ok (.iadd, 1) := by decide +kernel
theorem dL_law_297 : decode cL_law 297 = .ok (.iaload, 1) := by decide +kernel
theorem dL_law_298 : decode cL_law 298 = .ok (.invokevirtual 39, 3) := by decide +kernel
theorem dL_law_301 : decode cL_law 301 = .ok (.if_icmp .eq 713, 3) := by decide +kernel
theorem dL_law_304 : decode cL_law 304 = .ok (.iconst 0, 1) := by decide +kernel
theorem dL_law_305 : decode cL_law 305 = .ok (.ireturn, 1) := by decide +kernel
theorem dL_law_306 : decode cL_law 306 = .ok (.aload_n 1, 1) := by decide +kernel
theorem dL_law_307 : decode cL_law 307 = .ok (.aload_n 0, 1) := by decide +kernel
theorem dL_law_308 : decode cL_law 308 = .ok (.iload_n 3, 1) := by decide +kernel
theorem dL_law_309 : decode cL_law 309 = .ok (.iconst 1, 1) := by decide +kernel
theorem dL_law_310 : decode cL_law 310 = .ok (.iadd, 1) := by decide +kernel
theorem dL_law_311 : decode cL_law 311 = .ok (.iaload, 1) := by decide +kernel
theorem dL_law_312 : decode cL_law 312 = .ok (.aload_n 0, 1) := by decide +kernel
theorem dL_law_313 : decode cL_law 313 = .ok (.iload_n 3, 1) := by decide +kernel
theorem dL_law_314 : decode cL_law 314 = .ok (.iconst 2, 1) := by decide +kernel
theorem dL_law_315 : decode cL_law 315 = .ok (.iadd, 1) := by decide +kernel
theorem dL_law_316 : decode cL_law 316 = .ok (.iaload, 1) := by decide +kernel
theorem dL_law_317 : decode cL_law 317 = .ok (.invokevirtual 40, 3) := by decide +kernel
theorem dL_law_320 : decode cL_law 320 = .ok (.aload_n 2, 1) := by decide +kernel
theorem dL_law_321 : decode cL_law 321 = .ok (.aload_n 0, 1) := by decide +kernel
theorem dL_law_322 : decode cL_law 322 = .ok (.iload_n 3, 1) := by decide +kernel
theorem dL_law_323 : decode cL_law 323 = .ok (.iconst 1, 1) := by decide +kernel
theorem dL_law_324 : decode cL_law 324 = .ok (.iadd, 1) := by decide +kernel
theorem dL_law_325 : decode cL_law 325 = .ok (.iaload, 1) := by decide +kernel
theorem dL_law_326 : decode cL_law 326 = .ok (.aload_n 0, 1) := by decide +kernel
theorem dL_law_327 : decode cL_law 327 = .ok (.iload_n 3, 1) := by decide +kernel
theorem dL_law_328 : decode cL_law 328 = .ok (.iconst 2, 1) := by decide +kernel
theorem dL_law_329 : decode cL_law 329 = .ok (.iadd, 1) := by decide +kernel
theorem dL_law_330 : decode cL_law 330 = .ok (.iaload, 1) := by decide +kernel
theorem dL_law_331 : decode cL_law 331 = .ok (.invokevirtual 43, 3) := by decide +kernel
theorem dL_law_334 : decode cL_law 334 = .ok (.if_icmp .eq 680, 3) := by decide +kernel
theorem dL_law_337 : decode cL_law 337 = .ok (.iconst 0, 1) := by decide +kernel
theorem dL_law_338 : decode cL_law 338 = .ok (.ireturn, 1) := by decide +kernel
theorem dL_law_339 : decode cL_law 339 = .ok (.aload_n 1, 1) := by decide +kernel
theorem dL_law_340 : decode cL_law 340 = .ok (.aload_n 0, 1) := by decide +kernel
theorem dL_law_341 : decode cL_law 341 = .ok (.iload_n 3, 1) := by decide +kernel
theorem dL_law_342 : decode cL_law 342 = .ok (.iconst 1, 1) := by decide +kernel
theorem dL_law_343 : decode cL_law 343 = .ok (.iadd, 1) := by decide +kernel
theorem dL_law_344 : decode cL_law 344 = .ok (.iaload, 1) := by decide +kernel
theorem dL_law_345 : decode cL_law 345 = .ok (.aload_n 0, 1) := by decide +kernel
theorem dL_law_346 : decode cL_law 346 = .ok (.iload_n 3, 1) := by decide +kernel
theorem dL_law_347 : decode cL_law 347 = .ok (.iconst 2, 1) := by decide +kernel
theorem dL_law_348 : decode cL_law 348 = .ok (.iadd, 1) := by decide +kernel
theorem dL_law_349 : decode cL_law 349 = .ok (.iaload, 1) := by decide +kernel
theorem dL_law_350 : decode cL_law 350 = .ok (.aload_n 0, 1) := by decide +kernel
theorem dL_law_351 : decode cL_law 351 = .ok (.iload_n 3, 1) := by decide +kernel
theorem dL_law_352 : decode cL_law 352 = .ok (.iconst 3, 1) := by decide +kernel
theorem dL_law_353 : decode cL_law 353 = .ok (.iadd, 1) := by decide +kernel
theorem dL_law_354 : decode cL_law 354 = .ok (.iaload, 1) := by decide +kernel
theorem dL_law_355 : decode cL_law 355 = .ok (.invokevirtual 44, 3) := by decide +kernel
theorem dL_law_358 : decode cL_law 358 = .ok (.aload_n 2, 1) := by decide +kernel
theorem dL_law_359 : decode cL_law 359 = .ok (.aload_n 0, 1) := by decide +kernel
theorem dL_law_360 : decode cL_law 360 = .ok (.iload_n 3, 1) := by decide +kernel
theorem dL_law_361 : decode cL_law 361 = .ok (.iconst 1, 1) := by decide +kernel
theorem dL_law_362 : decode cL_law 362 = .ok (.iadd, 1) := by decide +kernel
theorem dL_law_363 : decode cL_law 363 = .ok (.iaload, 1) := by decide +kernel
theorem dL_law_364 : decode cL_law 364 = .ok (.aload_n 0, 1) := by decide +kernel
theorem dL_law_365 : decode cL_law 365 = .ok (.iload_n 3, 1) := by decide +kernel
theorem dL_law_366 : decode cL_law 366 = .ok (.iconst 2, 1) := by decide +kernel
theorem dL_law_367 : decode cL_law 367 = .ok (.iadd, 1) := by decide +kernel
theorem dL_law_368 : decode cL_law 368 = .ok (.iaload, 1) := by decide +kernel
theorem dL_law_369 : decode cL_law 369 = .ok (.aload_n 0, 1) := by decide +kernel
theorem dL_law_370 : decode cL_law 370 = .ok (.iload_n 3, 1) := by decide +kernel
theorem dL_law_371 : decode cL_law 371 = .ok (.iconst 3, 1) := by decide +kernel
theorem dL_law_372 : decode cL_law 372 = .ok (.iadd, 1) := by decide +kernel
theorem dL_law_373 : decode cL_law 373 = .ok (.iaload, 1) := by decide +kernel
theorem dL_law_374 : decode cL_law 374 = .ok (.invokevirtual 48, 3) := by decide +kernel
theorem dL_law_377 : decode cL_law 377 = .ok (.if_icmp .eq 637, 3) := by decide +kernel
theorem dL_law_380 : decode cL_law 380 = .ok (.iconst 0, 1) := by decide +kernel
theorem dL_law_381 : decode cL_law 381 = .ok (.ireturn, 1) := by decide +kernel
theorem dL_law_382 : decode cL_law 382 = .ok (.aload_n 1, 1) := by decide +kernel
theorem dL_law_383 : decode cL_law 383 = .ok (.aload_n 0, 1) := by decide +kernel
theorem dL_law_384 : decode cL_law 384 = .ok (.iload_n 3, 1) := by decide +kernel
theorem dL_law_385 : decode cL_law 385 = .ok (.iconst 1, 1) := by decide +kernel
theorem dL_law_386 : decode cL_law 386 = .ok (.iadd, 1) := by decide +kernel
theorem dL_law_387 : decode cL_law 387 = .ok (.iaload, 1) := by decide +kernel
theorem dL_law_388 : decode cL_law 388 = .ok (.aload_n 0, 1) := by decide +kernel
theorem dL_law_389 : decode cL_law 389 = .ok (.iload_n 3, 1) := by decide +kernel
theorem dL_law_390 : decode cL_law 390 = .ok (.iconst 2, 1) := by decide +kernel
theorem dL_law_391 : decode cL_law 391 = .ok (.iadd, 1) := by decide +kernel
theorem dL_law_392 : decode cL_law 392 = .ok (.iaload, 1) := by decide +kernel
theorem dL_law_393 : decode cL_law 393 = .ok (.invokevirtual 49, 3) := by decide +kernel
theorem dL_law_396 : decode cL_law 396 = .ok (.aload_n 2, 1) := by decide +kernel
theorem dL_law_397 : decode cL_law 397 = .ok (.aload_n 0, 1) := by decide +kernel
theorem dL_law_398 : decode cL_law 398 = .ok (.iload_n 3, 1) := by decide +kernel
theorem dL_law_399 : decode cL_law 399 = .ok (.iconst 1, 1) := by decide +kernel
theorem dL_law_400 : decode cL_law 400 = .ok (.iadd, 1) := by decide +kernel
theorem dL_law_401 : decode cL_law 401 = .ok (.iaload, 1) := by decide +kernel
theorem dL_law_402 : decode cL_law 402 = .ok (.aload_n 0, 1) := by decide +kernel
theorem dL_law_403 : decode cL_law 403 = .ok (.iload_n 3, 1) := by decide +kernel
theorem dL_law_404 : decode cL_law 404 = .ok (.iconst 2, 1) := by decide +kernel
theorem dL_law_405 : decode cL_law 405 = .ok (.iadd, 1) := by decide +kernel
theorem dL_law_406 : decode cL_law 406 = .ok (.iaload, 1) := by decide +kernel
theorem dL_law_407 : decode cL_law 407 = .ok (.invokevirtual 52, 3) := by decide +kernel
theorem dL_law_410 : decode cL_law 410 = .ok (.if_icmp .eq 604, 3) := by decide +kernel
theorem dL_law_413 : decode cL_law 413 = .ok (.iconst 0, 1) := by decide +kernel
theorem dL_law_414 : decode cL_law 414 = .ok (.ireturn, 1) := by decide +kernel
theorem dL_law_415 : decode cL_law 415 = .ok (.aload_n 1, 1) := by decide +kernel
theorem dL_law_416 : decode cL_law 416 = .ok (.aload_n 0, 1) := by decide +kernel
theorem dL_law_417 : decode cL_law 417 = .ok (.iload_n 3, 1) := by decide +kernel
theorem dL_law_418 : decode cL_law 418 = .ok (.iconst 1, 1) := by decide +kernel
theorem dL_law_419 : decode cL_law 419 = .ok (.iadd, 1) := by decide +kernel
theorem dL_law_420 : decode cL_law 420 = .ok (.iaload, 1) := by decide +kernel
theorem dL_law_421 : decode cL_law 421 = .ok (.invokevirtual 53, 3) := by decide +kernel
theorem dL_law_424 : decode cL_law 424 = .ok (.aload_n 2, 1) := by decide +kernel
theorem dL_law_425 : decode cL_law 425 = .ok (.aload_n 0, 1) := by decide +kernel
theorem dL_law_426 : decode cL_law 426 = .ok (.iload_n 3, 1) := by decide +kernel
theorem dL_law_427 : decode cL_law 427 = .ok (.iconst 1, 1) := by decide +kernel
theorem dL_law_428 : decode cL_law 428 = .ok (.iadd, 1) := by decide +kernel
theorem dL_law_429 : decode cL_law 429 = .ok (.iaload, 1) := by decide +kernel
theorem dL_law_430 : decode cL_law 430 = .ok (.invokevirtual 56, 3) := by decide +kernel
theorem dL_law_433 : decode cL_law 433 = .ok (.if_icmp .eq 581, 3) := by decide +kernel
theorem dL_law_436 : decode cL_law 436 = .ok (.iconst 0, 1) := by decide +kernel
theorem dL_law_437 : decode cL_law 437 = .ok (.ireturn, 1) := by decide +kernel
theorem dL_law_438 : decode cL_law 438 = .ok (.aload_n 1, 1) := by decide +kernel
theorem dL_law_439 : decode cL_law 439 = .ok (.aload_n 0, 1) := by decide +kernel
theorem dL_law_440 : decode cL_law 440 = .ok (.iload_n 3, 1) := by decide +kernel
theorem dL_law_441 : decode cL_law 441 = .ok (.iconst 1, 1) := by decide +kernel
theorem dL_law_442 : decode cL_law 442 = .ok (.iadd, 1) := by decide +kernel
theorem dL_law_443 : decode cL_law 443 = .ok (.iaload, 1) := by decide +kernel
theorem dL_law_444 : decode cL_law 444 = .ok (.aload_n 0, 1) := by decide +kernel
theorem dL_law_445 : decode cL_law 445 = .ok (.iload_n 3, 1) := by decide +kernel
theorem dL_law_446 : decode cL_law 446 = .ok (.iconst 2, 1) := by decide +kernel
theorem dL_law_447 : decode cL_law 447 = .ok (.iadd, 1) := by decide +kernel
theorem dL_law_448 : decode cL_law 448 = .ok (.iaload, 1) := by decide +kernel
theorem dL_law_449 : decode cL_law 449 = .ok (.aload_n 0, 1) := by decide +kernel
theorem dL_law_450 : decode cL_law 450 = .ok (.iload_n 3, 1) := by decide +kernel
theorem dL_law_451 : decode cL_law 451 = .ok (.iconst 3, 1) := by decide +kernel
theorem dL_law_452 : decode cL_law 452 = .ok (.iadd, 1) := by decide +kernel
theorem dL_law_453 : decode cL_law 453 = .ok (.iaload, 1) := by decide +kernel
theorem dL_law_454 : decode cL_law 454 = .ok (.ifCond .eq 7, 3) := by decide +kernel
theorem dL_law_457 : decode cL_law 457 = .ok (.iconst 1, 1) := by decide +kernel
theorem dL_law_458 : decode cL_law 458 = .ok (.goto 4, 3) := by decide +kernel
theorem dL_law_461 : decode cL_law 461 = .ok (.iconst 0, 1) := by decide +kernel
theorem dL_law_462 : decode cL_law 462 = .ok (.invokevirtual 57, 3) := by decide +kernel
theorem dL_law_465 : decode cL_law 465 = .ok (.aload_n 2, 1) := by decide +kernel
theorem dL_law_466 : decode cL_law 466 = .ok (.aload_n 0, 1) := by decide +kernel
theorem dL_law_467 : decode cL_law 467 = .ok (.iload_n 3, 1) := by decide +kernel
theorem dL_law_468 : decode cL_law 468 = .ok (.iconst 1, 1) := by decide +kernel
theorem dL_law_469 : decode cL_law 469 = .ok (.iadd, 1) := by decide +kernel
theorem dL_law_470 : decode cL_law 470 = .ok (.iaload, 1) := by decide +kernel
theorem dL_law_471 : decode cL_law 471 = .ok (.aload_n 0, 1) := by decide +kernel
theorem dL_law_472 : decode cL_law 472 = .ok (.iload_n 3, 1) := by decide +kernel
theorem dL_law_473 : decode cL_law 473 = .ok (.iconst 2, 1) := by decide +kernel
theorem dL_law_474 : decode cL_law 474 = .ok (.iadd, 1) := by decide +kernel
theorem dL_law_475 : decode cL_law 475 = .ok (.iaload, 1) := by decide +kernel
theorem dL_law_476 : decode cL_law 476 = .ok (.aload_n 0, 1) := by decide +kernel
theorem dL_law_477 : decode cL_law 477 = .ok (.iload_n 3, 1) := by decide +kernel
theorem dL_law_478 : decode cL_law 478 = .ok (.iconst 3, 1) := by decide +kernel
theorem dL_law_479 : decode cL_law 479 = .ok (.iadd, 1) := by decide +kernel
theorem dL_law_480 : decode cL_law 480 = .ok (.iaload, 1) := by decide +kernel
theorem dL_law_481 : decode cL_law 481 = .ok (.ifCond .eq 7, 3) := by decide +kernel
theorem dL_law_484 : decode cL_law 484 = .ok (.iconst 1, 1) := by decide +kernel
theorem dL_law_485 : decode cL_law 485 = .ok (.goto 4, 3) := by decide +kernel
theorem dL_law_488 : decode cL_law 488 = .ok (.iconst 0, 1) := by decide +kernel
theorem dL_law_489 : decode cL_law 489 = .ok (.invokevirtual 61, 3) := by decide +kernel
theorem dL_law_492 : decode cL_law 492 = .ok (.if_icmp .eq 522, 3) := by decide +kernel
theorem dL_law_495 : decode cL_law 495 = .ok (.iconst 0, 1) := by decide +kernel
theorem dL_law_496 : decode cL_law 496 = .ok (.ireturn, 1) := by decide +kernel
theorem dL_law_497 : decode cL_law 497 = .ok (.aload_n 1, 1) := by decide +kernel
theorem dL_law_498 : decode cL_law 498 = .ok (.aload_n 0, 1) := by decide +kernel
theorem dL_law_499 : decode cL_law 499 = .ok (.iload_n 3, 1) := by decide +kernel
theorem dL_law_500 : decode cL_law 500 = .ok (.iconst 1, 1) := by decide +kernel
theorem dL_law_501 : decode cL_law 501 = .ok (.iadd, 1) := by decide +kernel
theorem dL_law_502 : decode cL_law 502 = .ok (.iaload, 1) := by decide +kernel
theorem dL_law_503 : decode cL_law 503 = .ok (.aload_n 0, 1) := by decide +kernel
theorem dL_law_504 : decode cL_law 504 = .ok (.iload_n 3, 1) := by decide +kernel
theorem dL_law_505 : decode cL_law 505 = .ok (.iconst 2, 1) := by decide +kernel
theorem dL_law_506 : decode cL_law 506 = .ok (.iadd, 1) := by decide +kernel
theorem dL_law_507 : decode cL_law 507 = .ok (.iaload, 1) := by decide +kernel
theorem dL_law_508 : decode cL_law 508 = .ok (.aload_n 0, 1) := by decide +kernel
theorem dL_law_509 : decode cL_law 509 = .ok (.iload_n 3, 1) := by decide +kernel
theorem dL_law_510 : decode cL_law 510 = .ok (.iconst 3, 1) := by decide +kernel
theorem dL_law_511 : decode cL_law 511 = .ok (.iadd, 1) := by decide +kernel
theorem dL_law_512 : decode cL_law 512 = .ok (.iaload, 1) := by decide +kernel
theorem dL_law_513 : decode cL_law 513 = .ok (.invokevirtual 62, 3) := by decide +kernel
theorem dL_law_516 : decode cL_law 516 = .ok (.aload_n 2, 1) := by decide +kernel
theorem dL_law_517 : decode cL_law 517 = .ok (.aload_n 0, 1) := by decide +kernel
theorem dL_law_518 : decode cL_law 518 = .ok (.iload_n 3, 1) := by decide +kernel
theorem dL_law_519 : decode cL_law 519 = .ok (.iconst 1, 1) := by decide +kernel
theorem dL_law_520 : decode cL_law 520 = .ok (.iadd, 1) := by decide +kernel
theorem dL_law_521 : decode cL_law 521 = .ok (.iaload, 1) := by decide +kernel
theorem dL_law_522 : decode cL_law 522 = .ok (.aload_n 0, 1) := by decide +kernel
theorem dL_law_523 : decode cL_law 523 = .ok (.iload_n 3, 1) := by decide +kernel
theorem dL_law_524 : decode cL_law 524 = .ok (.iconst 2, 1) := by decide +kernel
theorem dL_law_525 : decode cL_law 525 = .ok (.iadd, 1) := by decide +kernel
theorem dL_law_526 : decode cL_law 526 = .ok (.iaload, 1) := by decide +kernel
theorem dL_law_527 : decode cL_law 527 = .ok (.aload_n 0, 1) := by decide +kernel
theorem dL_law_528 : decode cL_law 528 = .ok (.iload_n 3, 1) := by decide +kernel
theorem dL_law_529 : decode cL_law 529 = .ok (.iconst 3, 1) := by decide +kernel
theorem dL_law_530 : decode cL_law 530 = .ok (.iadd, 1) := by decide +kernel
theorem dL_law_531 : decode cL_law 531 = .ok (.iaload, 1) := by decide +kernel
theorem dL_law_532 : decode cL_law 532 = .ok (.invokevirtual 65, 3) := by decide +kernel
theorem dL_law_535 : decode cL_law 535 = .ok (.if_icmp .eq 479, 3) := by decide +kernel
theorem dL_law_538 : decode cL_law 538 = .ok (.iconst 0, 1) := by decide +kernel
theorem dL_law_539 : decode cL_law 539 = .ok (.ireturn, 1) := by decide +kernel
theorem dL_law_540 : decode cL_law 540 = .ok (.aload_n 1, 1) := by decide +kernel
theorem dL_law_541 : decode cL_law 541 = .ok (.aload_n 0, 1) := by decide +kernel
theorem dL_law_542 : decode cL_law 542 = .ok (.iload_n 3, 1) := by decide +kernel
theorem dL_law_543 : decode cL_law 543 = .ok (.iconst 1, 1) := by decide +kernel
theorem dL_law_544 : decode cL_law 544 = .ok (.iadd, 1) := by decide +kernel
theorem dL_law_545 : decode cL_law 545 = .ok (.iaload, 1) := by decide +kernel
theorem dL_law_546 : decode cL_law 546 = .ok (.aload_n 0, 1) := by decide +kernel
theorem dL_law_547 : decode cL_law 547 = .ok (.iload_n 3, 1) := by decide +kernel
theorem dL_law_548 : decode cL_law 548 = .ok (.iconst 2, 1) := by decide +kernel
theorem dL_law_549 : decode cL_law 549 = .ok (.iadd, 1) := by decide +kernel
theorem dL_law_550 : decode cL_law 550 = .ok (.iaload, 1) := by decide +kernel
theorem dL_law_551 : decode cL_law 551 = .ok (.invokevirtual 66, 3) := by decide +kernel
theorem dL_law_554 : decode cL_law 554 = .ok (.aload_n 2, 1) := by decide +kernel
theorem dL_law_555 : decode cL_law 555 = .ok (.aload_n 0, 1) := by decide +kernel
theorem dL_law_556 : decode cL_law 556 = .ok (.iload_n 3, 1) := by decide +kernel
theorem dL_law_557 : decode cL_law 557 = .ok (.iconst 1, 1) := by decide +kernel
theorem dL_law_558 : decode cL_law 558 = .ok (.iadd, 1) := by decide +kernel
theorem dL_law_559 : decode cL_law 559 = .ok (.iaload, 1) := by decide +kernel
theorem dL_law_560 : decode cL_law 560 = .ok (.aload_n 0, 1) := by decide +kernel
theorem dL_law_561 : decode cL_law 561 = .ok (.iload_n 3, 1) := by decide +kernel
theorem dL_law_562 : decode cL_law 562 = .ok (.iconst 2, 1) := by decide +kernel
theorem dL_law_563 : decode cL_law 563 = .ok (.iadd, 1) := by decide +kernel
theorem dL_law_564 : decode cL_law 564 = .ok (.iaload, 1) := by decide +kernel
theorem dL_law_565 : decode cL_law 565 = .ok (.invokevirtual 69, 3) := by decide +kernel
theorem dL_law_568 : decode cL_law 568 = .ok (.if_icmp .eq 446, 3) := by decide +kernel
theorem dL_law_571 : decode cL_law 571 = .ok (.iconst 0, 1) := by decide +kernel
theorem dL_law_572 : decode cL_law 572 = .ok (.ireturn, 1) := by decide +kernel
theorem dL_law_573 : decode cL_law 573 = .ok (.aload_n 1, 1) := by decide +kernel
theorem dL_law_574 : decode cL_law 574 = .ok (.aload_n 0, 1) := by decide +kernel
theorem dL_law_575 : decode cL_law 575 = .ok (.iload_n 3, 1) := by decide +kernel
theorem dL_law_576 : decode cL_law 576 = .ok (.iconst 1, 1) := by decide +kernel
theorem dL_law_577 : decode cL_law 577 = .ok (.iadd, 1) := by decide +kernel
theorem dL_law_578 : decode cL_law 578 = .ok (.iaload, 1) := by decide +kernel
theorem dL_law_579 : decode cL_law 579 = .ok (.aload_n 0, 1) := by decide +kernel
theorem dL_law_580 : decode cL_law 580 = .ok (.iload_n 3, 1) := by decide +kernel
theorem dL_law_581 : decode cL_law 581 = .ok (.iconst 2, 1) := by decide +kernel
theorem dL_law_582 : decode cL_law 582 = .ok (.iadd, 1) := by decide +kernel
theorem dL_law_583 : decode cL_law 583 = .ok (.iaload, 1) := by decide +kernel
theorem dL_law_584 : decode cL_law 584 = .ok (.invokevirtual 70, 3) := by decide +kernel
theorem dL_law_587 : decode cL_law 587 = .ok (.aload_n 2, 1) := by decide +kernel
theorem dL_law_588 : decode cL_law 588 = .ok (.aload_n 0, 1) := by decide +kernel
theorem dL_law_589 : decode cL_law 589 = .ok (.iload_n 3, 1) := by decide +kernel
theorem dL_law_590 : decode cL_law 590 = .ok (.iconst 1, 1) := by decide +kernel
theorem dL_law_591 : decode cL_law 591 = .ok (.iadd, 1) := by decide +kernel
theorem dL_law_592 : decode cL_law 592 = .ok (.iaload, 1) := by decide +kernel
theorem dL_law_593 : decode cL_law 593 = .ok (.aload_n 0, 1) := by decide +kernel
theorem dL_law_594 : decode cL_law 594 = .ok (.iload_n 3, 1) := by decide +kernel
theorem dL_law_595 : decode cL_law 595 = .ok (.iconst 2, 1) := by decide +kernel
theorem dL_law_596 : decode cL_law 596 = .ok (.iadd, 1) := by decide +kernel
theorem dL_law_597 : decode cL_law 597 = .ok (.iaload, 1) := by decide +kernel
theorem dL_law_598 : decode cL_law 598 = .ok (.invokevirtual 73, 3) := by decide +kernel
theorem dL_law_601 : decode cL_law 601 = .ok (.if_icmp .eq 413, 3) := by decide +kernel
theorem dL_law_604 : decode cL_law 604 = .ok (.iconst 0, 1) := by decide +kernel
theorem dL_law_605 : decode cL_law 605 = .ok (.ireturn, 1) := by decide +kernel
theorem dL_law_606 : decode cL_law 606 = .ok (.aload_n 1, 1) := by decide +kernel
theorem dL_law_607 : decode cL_law 607 = .ok (.aload_n 0, 1) := by decide +kernel
theorem dL_law_608 : decode cL_law 608 = .ok (.iload_n 3, 1) := by decide +kernel
theorem dL_law_609 : decode cL_law 609 = .ok (.iconst 1, 1) := by decide +kernel
theorem dL_law_610 : decode cL_law 610 = .ok (.iadd, 1) := by decide +kernel
theorem dL_law_611 : decode cL_law 611 = .ok (.iaload, 1) := by decide +kernel
theorem dL_law_612 : decode cL_law 612 = .ok (.invokevirtual 74, 3) := by decide +kernel
theorem dL_law_615 : decode cL_law 615 = .ok (.aload_n 2, 1) := by decide +kernel
theorem dL_law_616 : decode cL_law 616 = .ok (.aload_n 0, 1) := by decide +kernel
theorem dL_law_617 : decode cL_law 617 = .ok (.iload_n 3, 1) := by decide +kernel
theorem dL_law_618 : decode cL_law 618 = .ok (.iconst 1, 1) := by decide +kernel
theorem dL_law_619 : decode cL_law 619 = .ok (.iadd, 1) := by decide +kernel
theorem dL_law_620 : decode cL_law 620 = .ok (.iaload, 1) := by decide +kernel
theorem dL_law_621 : decode cL_law 621 = .ok (.invokevirtual 77, 3) := by decide +kernel
theorem dL_law_624 : decode cL_law 624 = .ok (.if_icmp .eq 390, 3) := by decide +kernel
theorem dL_law_627 : decode cL_law 627 = .ok (.iconst 0, 1) := by decide +kernel
theorem dL_law_628 : decode cL_law 628 = .ok (.ireturn, 1) := by decide +kernel
theorem dL_law_629 : decode cL_law 629 = .ok (.aload_n 1, 1) := by decide +kernel
theorem dL_law_630 : decode cL_law 630 = .ok (.invokevirtual 78, 3) := by decide +kernel
theorem dL_law_633 : decode cL_law 633 = .ok (.aload_n 2, 1) := by decide +kernel
theorem dL_law_634 : decode cL_law 634 = .ok (.invokevirtual 81, 3) := by decide +kernel
theorem dL_law_637 : decode cL_law 637 = .ok (.if_icmp .eq 377, 3) := by decide +kernel
theorem dL_law_640 : decode cL_law 640 = .ok (.iconst 0, 1) := by decide +kernel
theorem dL_law_641 : decode cL_law 641 = .ok (.ireturn, 1) := by decide +kernel
theorem dL_law_642 : decode cL_law 642 = .ok (.aload_n 1, 1) := by decide +kernel
theorem dL_law_643 : decode cL_law 643 = .ok (.aload_n 0, 1) := by decide +kernel
theorem dL_law_644 : decode cL_law 644 = .ok (.iload_n 3, 1) := by decide +kernel
theorem dL_law_645 : decode cL_law 645 = .ok (.iconst 1, 1) := by decide +kernel
theorem dL_law_646 : decode cL_law 646 = .ok (.iadd, 1) := by decide +kernel
theorem dL_law_647 : decode cL_law 647 = .ok (.iaload, 1) := by decide +kernel
theorem dL_law_648 : decode cL_law 648 = .ok (.aload_n 0, 1) := by decide +kernel
theorem dL_law_649 : decode cL_law 649 = .ok (.iload_n 3, 1) := by decide +kernel
theorem dL_law_650 : decode cL_law 650 = .ok (.iconst 2, 1) := by decide +kernel
theorem dL_law_651 : decode cL_law 651 = .ok (.iadd, 1) := by decide +kernel
theorem dL_law_652 : decode cL_law 652 = .ok (.iaload, 1) := by decide +kernel
theorem dL_law_653 : decode cL_law 653 = .ok (.invokevirtual 82, 3) := by decide +kernel
theorem dL_law_656 : decode cL_law 656 = .ok (.aload_n 2, 1) := by decide +kernel
theorem dL_law_657 : decode cL_law 657 = .ok (.aload_n 0, 1) := by decide +kernel
theorem dL_law_658 : decode cL_law 658 = .ok (.iload_n 3, 1) := by decide +kernel
theorem dL_law_659 : decode cL_law 659 = .ok (.iconst 1, 1) := by decide +kernel
theorem dL_law_660 : decode cL_law 660 = .ok (.iadd, 1) := by decide +kernel
theorem dL_law_661 : decode cL_law 661 = .ok (.iaload, 1) := by decide +kernel
theorem dL_law_662 : decode cL_law 662 = .ok (.aload_n 0, 1) := by decide +kernel
theorem dL_law_663 : decode cL_law 663 = .ok (.iload_n 3, 1) := by decide +kernel
theorem dL_law_664 : decode cL_law 664 = .ok (.iconst 2, 1) := by decide +kernel
theorem dL_law_665 : decode cL_law 665 = .ok (.iadd, 1) := by decide +kernel
theorem dL_law_666 : decode cL_law 666 = .ok (.iaload, 1) := by decide +kernel
theorem dL_law_667 : decode cL_law 667 = .ok (.invokevirtual 85, 3) := by decide +kernel
theorem dL_law_670 : decode cL_law 670 = .ok (.if_icmp .eq 344, 3) := by decide +kernel
theorem dL_law_673 : decode cL_law 673 = .ok (.iconst 0, 1) := by decide +kernel
theorem dL_law_674 : decode cL_law 674 = .ok (.ireturn, 1) := by decide +kernel
theorem dL_law_675 : decode cL_law 675 = .ok (.aload_n 1, 1) := by decide +kernel
theorem dL_law_676 : decode cL_law 676 = .ok (.aload_n 0, 1) := by decide +kernel
theorem dL_law_677 : decode cL_law 677 = .ok (.iload_n 3, 1) := by decide +kernel
theorem dL_law_678 : decode cL_law 678 = .ok (.iconst 1, 1) := by decide +kernel
theorem dL_law_679 : decode cL_law 679 = .ok (.iadd, 1) := by decide +kernel
theorem dL_law_680 : decode cL_law 680 = .ok (.iaload, 1) := by decide +kernel
theorem dL_law_681 : decode cL_law 681 = .ok (.invokevirtual 86, 3) := by decide +kernel
theorem dL_law_684 : decode cL_law 684 = .ok (.aload_n 2, 1) := by decide +kernel
theorem dL_law_685 : decode cL_law 685 = .ok (.aload_n 0, 1) := by decide +kernel
theorem dL_law_686 : decode cL_law 686 = .ok (.iload_n 3, 1) := by decide +kernel
theorem dL_law_687 : decode cL_law 687 = .ok (.iconst 1, 1) := by decide +kernel
theorem dL_law_688 : decode cL_law 688 = .ok (.iadd, 1) := by decide +kernel
theorem dL_law_689 : decode cL_law 689 = .ok (.iaload, 1) := by decide +kernel
theorem dL_law_690 : decode cL_law 690 = .ok (.invokevirtual 89, 3) := by decide +kernel
theorem dL_law_693 : decode cL_law 693 = .ok (.if_icmp .eq 321, 3) := by decide +kernel
theorem dL_law_696 : decode cL_law 696 = .ok (.iconst 0, 1) := by decide +kernel
theorem dL_law_697 : decode cL_law 697 = .ok (.ireturn, 1) := by decide +kernel
theorem dL_law_698 : decode cL_law 698 = .ok (.aload_n 1, 1) := by decide +kernel
theorem dL_law_699 : decode cL_law 699 = .ok (.aload_n 0, 1) := by decide +kernel
theorem dL_law_700 : decode cL_law 700 = .ok (.iload_n 3, 1) := by decide +kernel
theorem dL_law_701 : decode cL_law 701 = .ok (.iconst 1, 1) := by decide +kernel
theorem dL_law_702 : decode cL_law 702 = .ok (.iadd, 1) := by decide +kernel
theorem dL_law_703 : decode cL_law 703 = .ok (.iaload, 1) := by decide +kernel
theorem dL_law_704 : decode cL_law 704 = .ok (.aload_n 0, 1) := by decide +kernel
theorem dL_law_705 : decode cL_law 705 = .ok (.iload_n 3, 1) := by decide +kernel
theorem dL_law_706 : decode cL_law 706 = .ok (.iconst 2, 1) := by decide +kernel
theorem dL_law_707 : decode cL_law 707 = .ok (.iadd, 1) := by decide +kernel
theorem dL_law_708 : decode cL_law 708 = .ok (.iaload, 1) := by decide +kernel
theorem dL_law_709 : decode cL_law 709 = .ok (.aload_n 0, 1) := by decide +kernel
theorem dL_law_710 : decode cL_law 710 = .ok (.iload_n 3, 1) := by decide +kernel
theorem dL_law_711 : decode cL_law 711 = .ok (.iconst 3, 1) := by decide +kernel
theorem dL_law_712 : decode cL_law 712 = .ok (.iadd, 1) := by decide +kernel
theorem dL_law_713 : decode cL_law 713 = .ok (.iaload, 1) := by decide +kernel
theorem dL_law_714 : decode cL_law 714 = .ok (.invokevirtual 90, 3) := by decide +kernel
theorem dL_law_717 : decode cL_law 717 = .ok (.aload_n 2, 1) := by decide +kernel
theorem dL_law_718 : decode cL_law 718 = .ok (.aload_n 0, 1) := by decide +kernel
theorem dL_law_719 : decode cL_law 719 = .ok (.iload_n 3, 1) := by decide +kernel
theorem dL_law_720 : decode cL_law 720 = .ok (.iconst 1, 1) := by decide +kernel
theorem dL_law_721 : decode cL_law 721 = .ok (.iadd, 1) := by decide +kernel
theorem dL_law_722 : decode cL_law 722 = .ok (.iaload, 1) := by decide +kernel
theorem dL_law_723 : decode cL_law 723 = .ok (.aload_n 0, 1) := by decide +kernel
theorem dL_law_724 : decode cL_law 724 = .ok (.iload_n 3, 1) := by decide +kernel
theorem dL_law_725 : decode cL_law 725 = .ok (.iconst 2, 1) := by decide +kernel
theorem dL_law_726 : decode cL_law 726 = .ok (.iadd, 1) := by decide +kernel
theorem dL_law_727 : decode cL_law 727 = .ok (.iaload, 1) := by decide +kernel
theorem dL_law_728 : decode cL_law 728 = .ok (.aload_n 0, 1) := by decide +kernel
theorem dL_law_729 : decode cL_law 729 = .ok (.iload_n 3, 1) := by decide +kernel
theorem dL_law_730 : decode cL_law 730 = .ok (.iconst 3, 1) := by decide +kernel
theorem dL_law_731 : decode cL_law 731 = .ok (.iadd, 1) := by decide +kernel
theorem dL_law_732 : decode cL_law 732 = .ok (.iaload, 1) := by decide +kernel
theorem dL_law_733 : decode cL_law 733 = .ok (.invokevirtual 93, 3) := by decide +kernel
theorem dL_law_736 : decode cL_law 736 = .ok (.if_icmp .eq 278, 3) := by decide +kernel
theorem dL_law_739 : decode cL_law 739 = .ok (.iconst 0, 1) := by decide +kernel
theorem dL_law_740 : decode cL_law 740 = .ok (.ireturn, 1) := by decide +kernel
theorem dL_law_741 : decode cL_law 741 = .ok (.aload_n 1, 1) := by decide +kernel
theorem dL_law_742 : decode cL_law 742 = .ok (.aload_n 0, 1) := by decide +kernel
theorem dL_law_743 : decode cL_law 743 = .ok (.iload_n 3, 1) := by decide +kernel
theorem dL_law_744 : decode cL_law 744 = .ok (.iconst 1, 1) := by decide +kernel
theorem dL_law_745 : decode cL_law 745 = .ok (.iadd, 1) := by decide +kernel
theorem dL_law_746 : decode cL_law 746 = .ok (.iaload, 1) := by decide +kernel
theorem dL_law_747 : decode cL_law 747 = .ok (.aload_n 0, 1) := by decide +kernel
theorem dL_law_748 : decode cL_law 748 = .ok (.iload_n 3, 1) := by decide +kernel
theorem dL_law_749 : decode cL_law 749 = .ok (.iconst 2, 1) := by decide +kernel
theorem dL_law_750 : decode cL_law 750 = .ok (.iadd, 1) := by decide +kernel
theorem dL_law_751 : decode cL_law 751 = .ok (.iaload, 1) := by decide +kernel
theorem dL_law_752 : decode cL_law 752 = .ok (.invokevirtual 94, 3) := by decide +kernel
theorem dL_law_755 : decode cL_law 755 = .ok (.aload_n 2, 1) := by decide +kernel
theorem dL_law_756 : decode cL_law 756 = .ok (.aload_n 0, 1) := by decide +kernel
theorem dL_law_757 : decode cL_law 757 = .ok (.iload_n 3, 1) := by decide +kernel
theorem dL_law_758 : decode cL_law 758 = .ok (.iconst 1, 1) := by decide +kernel
theorem dL_law_759 : decode cL_law 759 = .ok (.iadd, 1) := by decide +kernel
theorem dL_law_760 : decode cL_law 760 = .ok (.iaload, 1) := by decide +kernel
theorem dL_law_761 : decode cL_law 761 = .ok (.aload_n 0, 1) := by decide +kernel
theorem dL_law_762 : decode cL_law 762 = .ok (.iload_n 3, 1) := by decide +kernel
theorem dL_law_763 : decode cL_law 763 = .ok (.iconst 2, 1) := by decide +kernel
theorem dL_law_764 : decode cL_law 764 = .ok (.iadd, 1) := by decide +kernel
theorem dL_law_765 : decode cL_law 765 = .ok (.iaload, 1) := by decide +kernel
theorem dL_law_766 : decode cL_law 766 = .ok (.invokevirtual 97, 3) := by decide +kernel
theorem dL_law_769 : decode cL_law 769 = .ok (.if_icmp .eq 245, 3) := by decide +kernel
theorem dL_law_772 : decode cL_law 772 = .ok (.iconst 0, 1) := by decide +kernel
theorem dL_law_773 : decode cL_law 773 = .ok (.ireturn, 1) := by decide +kernel
theorem dL_law_774 : decode cL_law 774 = .ok (.aload_n 1, 1) := by decide +kernel
theorem dL_law_775 : decode cL_law 775 = .ok (.aload_n 0, 1) := by decide +kernel
theorem dL_law_776 : decode cL_law 776 = .ok (.iload_n 3, 1) := by decide +kernel
theorem dL_law_777 : decode cL_law 777 = .ok (.iconst 1, 1) := by decide +kernel
theorem dL_law_778 : decode cL_law 778 = .ok (.iadd, 1) := by decide +kernel
theorem dL_law_779 : decode cL_law 779 = .ok (.iaload, 1) := by decide +kernel
theorem dL_law_780 : decode cL_law 780 = .ok (.aload_n 0, 1) := by decide +kernel
theorem dL_law_781 : decode cL_law 781 = .ok (.iload_n 3, 1) := by decide +kernel
theorem dL_law_782 : decode cL_law 782 = .ok (.iconst 2, 1) := by decide +kernel
theorem dL_law_783 : decode cL_law 783 = .ok (.iadd, 1) := by decide +kernel
theorem dL_law_784 : decode cL_law 784 = .ok (.iaload, 1) := by decide +kernel
theorem dL_law_785 : decode cL_law 785 = .ok (.invokevirtual 98, 3) := by decide +kernel
theorem dL_law_788 : decode cL_law 788 = .ok (.aload_n 2, 1) := by decide +kernel
theorem dL_law_789 : decode cL_law 789 = .ok (.aload_n 0, 1) := by decide +kernel
theorem dL_law_790 : decode cL_law 790 = .ok (.iload_n 3, 1) := by decide +kernel
theorem dL_law_791 : decode cL_law 791 = .ok (.iconst 1, 1) := by decide +kernel
theorem dL_law_792 : decode cL_law 792 = .ok (.iadd, 1) := by decide +kernel
theorem dL_law_793 : decode cL_law 793 = .ok (.iaload, 1) := by decide +kernel
theorem dL_law_794 : decode cL_law 794 = .ok (.aload_n 0, 1) := by decide +kernel
theorem dL_law_795 : decode cL_law 795 = .ok (.iload_n 3, 1) := by decide +kernel
theorem dL_law_796 : decode cL_law 796 = .ok (.iconst 2, 1) := by decide +kernel
theorem dL_law_797 : decode cL_law 797 = .ok (.iadd, 1) := by decide +kernel
theorem dL_law_798 : decode cL_law 798 = .ok (.iaload, 1) := by decide +kernel
theorem dL_law_799 : decode cL_law 799 = .ok (.invokevirtual 101, 3) := by decide +kernel
theorem dL_law_802 : decode cL_law 802 = .ok (.if_icmp .eq 212, 3) := by decide +kernel
theorem dL_law_805 : decode cL_law 805 = .ok (.iconst 0, 1) := by decide +kernel
theorem dL_law_806 : decode cL_law 806 = .ok (.ireturn, 1) := by decide +kernel
theorem dL_law_807 : decode cL_law 807 = .ok (.aload_n 1, 1) := by decide +kernel
theorem dL_law_808 : decode cL_law 808 = .ok (.aload_n 0, 1) := by decide +kernel
theorem dL_law_809 : decode cL_law 809 = .ok (.iload_n 3, 1) := by decide +kernel
theorem dL_law_810 : decode cL_law 810 = .ok (.iconst 1, 1) := by decide +kernel
theorem dL_law_811 : decode cL_law 811 = .ok (.iadd, 1) := by decide +kernel
theorem dL_law_812 : decode cL_law 812 = .ok (.iaload, 1) := by decide +kernel
theorem dL_law_813 : decode cL_law 813 = .ok (.aload_n 0, 1) := by decide +kernel
theorem dL_law_814 : decode cL_law 814 = .ok (.iload_n 3, 1) := by decide +kernel
theorem dL_law_815 : decode cL_law 815 = .ok (.iconst 2, 1) := by decide +kernel
theorem dL_law_816 : decode cL_law 816 = .ok (.iadd, 1) := by decide +kernel
theorem dL_law_817 : decode cL_law 817 = .ok (.iaload, 1) := by decide +kernel
theorem dL_law_818 : decode cL_law 818 = .ok (.aload_n 0, 1) := by decide +kernel
theorem dL_law_819 : decode cL_law 819 = .ok (.iload_n 3, 1) := by decide +kernel
theorem dL_law_820 : decode cL_law 820 = .ok (.iconst 3, 1) := by decide +kernel
theorem dL_law_821 : decode cL_law 821 = .ok (.iadd, 1) := by decide +kernel
theorem dL_law_822 : decode cL_law 822 = .ok (.iaload, 1) := by decide +kernel
theorem dL_law_823 : decode cL_law 823 = .ok (.invokevirtual 102, 3) := by decide +kernel
theorem dL_law_826 : decode cL_law 826 = .ok (.aload_n 2, 1) := by decide +kernel
theorem dL_law_827 : decode cL_law 827 = .ok (.aload_n 0, 1) := by decide +kernel
theorem dL_law_828 : decode cL_law 828 = .ok (.iload_n 3, 1) := by decide +kernel
theorem dL_law_829 : decode cL_law 829 = .ok (.iconst 1, 1) := by decide +kernel
theorem dL_law_830 : decode cL_law 830 = .ok (.iadd, 1) := by decide +kernel
theorem dL_law_831 : decode cL_law 831 = .ok (.iaload, 1) := by decide +kernel
theorem dL_law_832 : decode cL_law 832 = .ok (.aload_n 0, 1) := by decide +kernel
theorem dL_law_833 : decode cL_law 833 = .ok (.iload_n 3, 1) := by decide +kernel
theorem dL_law_834 : decode cL_law 834 = .ok (.iconst 2, 1) := by decide +kernel
theorem dL_law_835 : decode cL_law 835 = .ok (.iadd, 1) := by decide +kernel
theorem dL_law_836 : decode cL_law 836 = .ok (.iaload, 1) := by decide +kernel
theorem dL_law_837 : decode cL_law 837 = .ok (.aload_n 0, 1) := by decide +kernel
theorem dL_law_838 : decode cL_law 838 = .ok (.iload_n 3, 1) := by decide +kernel
theorem dL_law_839 : decode cL_law 839 = .ok (.iconst 3, 1) := by decide +kernel
theorem dL_law_840 : decode cL_law 840 = .ok (.iadd, 1) := by decide +kernel
theorem dL_law_841 : decode cL_law 841 = .ok (.iaload, 1) := by decide +kernel
theorem dL_law_842 : decode cL_law 842 = .ok (.invokevirtual 105, 3) := by decide +kernel
theorem dL_law_845 : decode cL_law 845 = .ok (.if_icmp .eq 169, 3) := by decide +kernel
theorem dL_law_848 : decode cL_law 848 = .ok (.iconst 0, 1) := by decide +kernel
theorem dL_law_849 : decode cL_law 849 = .ok (.ireturn, 1) := by decide +kernel
theorem dL_law_850 : decode cL_law 850 = .ok (.aload_n 1, 1) := by decide +kernel
theorem dL_law_851 : decode cL_law 851 = .ok (.aload_n 0, 1) := by decide +kernel
theorem dL_law_852 : decode cL_law 852 = .ok (.iload_n 3, 1) := by decide +kernel
theorem dL_law_853 : decode cL_law 853 = .ok (.iconst 1, 1) := by decide +kernel
theorem dL_law_854 : decode cL_law 854 = .ok (.iadd, 1) := by decide +kernel
theorem dL_law_855 : decode cL_law 855 = .ok (.iaload, 1) := by decide +kernel
theorem dL_law_856 : decode cL_law 856 = .ok (.invokevirtual 106, 3) := by decide +kernel
theorem dL_law_859 : decode cL_law 859 = .ok (.aload_n 2, 1) := by decide +kernel
theorem dL_law_860 : decode cL_law 860 = .ok (.aload_n 0, 1) := by decide +kernel
theorem dL_law_861 : decode cL_law 861 = .ok (.iload_n 3, 1) := by decide +kernel
theorem dL_law_862 : decode cL_law 862 = .ok (.iconst 1, 1) := by decide +kernel
theorem dL_law_863 : decode cL_law 863 = .ok (.iadd, 1) := by decide +kernel
theorem dL_law_864 : decode cL_law 864 = .ok (.iaload, 1) := by decide +kernel
theorem dL_law_865 : decode cL_law 865 = .ok (.invokevirtual 109, 3) := by decide +kernel
theorem dL_law_868 : decode cL_law 868 = .ok (.if_icmp .eq 146, 3) := by decide +kernel
theorem dL_law_871 : decode cL_law 871 = .ok (.iconst 0, 1) := by decide +kernel
theorem dL_law_872 : decode cL_law 872 = .ok (.ireturn, 1) := by decide +kernel
theorem dL_law_873 : decode cL_law 873 = .ok (.aload_n 1, 1) := by decide +kernel
theorem dL_law_874 : decode cL_law 874 = .ok (.invokevirtual 110, 3) := by decide +kernel
theorem dL_law_877 : decode cL_law 877 = .ok (.aload_n 2, 1) := by decide +kernel
theorem dL_law_878 : decode cL_law 878 = .ok (.invokevirtual 113, 3) := by decide +kernel
theorem dL_law_881 : decode cL_law 881 = .ok (.if_icmp .eq 133, 3) := by decide +kernel
theorem dL_law_884 : decode cL_law 884 = .ok (.iconst 0, 1) := by decide +kernel
theorem dL_law_885 : decode cL_law 885 = .ok (.ireturn, 1) := by decide +kernel
theorem dL_law_886 : decode cL_law 886 = .ok (.aload_n 1, 1) := by decide +kernel
theorem dL_law_887 : decode cL_law 887 = .ok (.aload_n 0, 1) := by decide +kernel
theorem dL_law_888 : decode cL_law 888 = .ok (.iload_n 3, 1) := by decide +kernel
theorem dL_law_889 : decode cL_law 889 = .ok (.iconst 1, 1) := by decide +kernel
theorem dL_law_890 : decode cL_law 890 = .ok (.iadd, 1) := by decide +kernel
theorem dL_law_891 : decode cL_law 891 = .ok (.iaload, 1) := by decide +kernel
theorem dL_law_892 : decode cL_law 892 = .ok (.aload_n 0, 1) := by decide +kernel
theorem dL_law_893 : decode cL_law 893 = .ok (.iload_n 3, 1) := by decide +kernel
theorem dL_law_894 : decode cL_law 894 = .ok (.iconst 2, 1) := by decide +kernel
theorem dL_law_895 : decode cL_law 895 = .ok (.iadd, 1) := by decide +kernel
theorem dL_law_896 : decode cL_law 896 = .ok (.iaload, 1) := by decide +kernel
theorem dL_law_897 : decode cL_law 897 = .ok (.invokevirtual 114, 3) := by decide +kernel
theorem dL_law_900 : decode cL_law 900 = .ok (.aload_n 2, 1) := by decide +kernel
theorem dL_law_901 : decode cL_law 901 = .ok (.aload_n 0, 1) := by decide +kernel
theorem dL_law_902 : decode cL_law 902 = .ok (.iload_n 3, 1) := by decide +kernel
theorem dL_law_903 : decode cL_law 903 = .ok (.iconst 1, 1) := by decide +kernel
theorem dL_law_904 : decode cL_law 904 = .ok (.iadd, 1) := by decide +kernel
theorem dL_law_905 : decode cL_law 905 = .ok (.iaload, 1) := by decide +kernel
theorem dL_law_906 : decode cL_law 906 = .ok (.aload_n 0, 1) := by decide +kernel
theorem dL_law_907 : decode cL_law 907 = .ok (.iload_n 3, 1) := by decide +kernel
theorem dL_law_908 : decode cL_law 908 = .ok (.iconst 2, 1) := by decide +kernel
theorem dL_law_909 : decode cL_law 909 = .ok (.iadd, 1) := by decide +kernel
theorem dL_law_910 : decode cL_law 910 = .ok (.iaload, 1) := by decide +kernel
theorem dL_law_911 : decode cL_law 911 = .ok (.invokevirtual 117, 3) := by decide +kernel
theorem dL_law_914 : decode cL_law 914 = .ok (.if_icmp .eq 100, 3) := by decide +kernel
theorem dL_law_917 : decode cL_law 917 = .ok (.iconst 0, 1) := by decide +kernel
theorem dL_law_918 : decode cL_law 918 = .ok (.ireturn, 1) := by decide +kernel
theorem dL_law_919 : decode cL_law 919 = .ok (.aload_n 1, 1) := by decide +kernel
theorem dL_law_920 : decode cL_law 920 = .ok (.invokevirtual 118, 3) := by decide +kernel
theorem dL_law_923 : decode cL_law 923 = .ok (.aload_n 2, 1) := by decide +kernel
theorem dL_law_924 : decode cL_law 924 = .ok (.invokevirtual 121, 3) := by decide +kernel
theorem dL_law_927 : decode cL_law 927 = .ok (.if_icmp .eq 87, 3) := by decide +kernel
theorem dL_law_930 : decode cL_law 930 = .ok (.iconst 0, 1) := by decide +kernel
theorem dL_law_931 : decode cL_law 931 = .ok (.ireturn, 1) := by decide +kernel
theorem dL_law_932 : decode cL_law 932 = .ok (.aload_n 1, 1) := by decide +kernel
theorem dL_law_933 : decode cL_law 933 = .ok (.invokevirtual 122, 3) := by decide +kernel
theorem dL_law_936 : decode cL_law 936 = .ok (.aload_n 2, 1) := by decide +kernel
theorem dL_law_937 : decode cL_law 937 = .ok (.invokevirtual 125, 3) := by decide +kernel
theorem dL_law_940 : decode cL_law 940 = .ok (.if_icmp .eq 74, 3) := by decide +kernel
theorem dL_law_943 : decode cL_law 943 = .ok (.iconst 0, 1) := by decide +kernel
theorem dL_law_944 : decode cL_law 944 = .ok (.ireturn, 1) := by decide +kernel
theorem dL_law_945 : decode cL_law 945 = .ok (.aload_n 1, 1) := by decide +kernel
theorem dL_law_946 : decode cL_law 946 = .ok (.aload_n 0, 1) := by decide +kernel
theorem dL_law_947 : decode cL_law 947 = .ok (.iload_n 3, 1) := by decide +kernel
theorem dL_law_948 : decode cL_law 948 = .ok (.iconst 1, 1) := by decide +kernel
theorem dL_law_949 : decode cL_law 949 = .ok (.iadd, 1) := by decide +kernel
theorem dL_law_950 : decode cL_law 950 = .ok (.iaload, 1) := by decide +kernel
theorem dL_law_951 : decode cL_law 951 = .ok (.invokevirtual 126, 3) := by decide +kernel
theorem dL_law_954 : decode cL_law 954 = .ok (.aload_n 2, 1) := by decide +kernel
theorem dL_law_955 : decode cL_law 955 = .ok (.aload_n 0, 1) := by decide +kernel
theorem dL_law_956 : decode cL_law 956 = .ok (.iload_n 3, 1) := by decide +kernel
theorem dL_law_957 : decode cL_law 957 = .ok (.iconst 1, 1) := by decide +kernel
theorem dL_law_958 : decode cL_law 958 = .ok (.iadd, 1) := by decide +kernel
theorem dL_law_959 : decode cL_law 959 = .ok (.iaload, 1) := by decide +kernel
theorem dL_law_960 : decode cL_law 960 = .ok (.invokevirtual 129, 3) := by decide +kernel
theorem dL_law_963 : decode cL_law 963 = .ok (.if_icmp .eq 51, 3) := by decide +kernel
theorem dL_law_966 : decode cL_law 966 = .ok (.iconst 0, 1) := by decide +kernel
theorem dL_law_967 : decode cL_law 967 = .ok (.ireturn, 1) := by decide +kernel
theorem dL_law_968 : decode cL_law 968 = .ok (.aload_n 1, 1) := by decide +kernel
theorem dL_law_969 : decode cL_law 969 = .ok (.aload_n 0, 1) := by decide +kernel
theorem dL_law_970 : decode cL_law 970 = .ok (.iload_n 3, 1) := by decide +kernel
theorem dL_law_971 : decode cL_law 971 = .ok (.iconst 1, 1) := by decide +kernel
theorem dL_law_972 : decode cL_law 972 = .ok (.iadd, 1) := by decide +kernel
theorem dL_law_973 : decode cL_law 973 = .ok (.iaload, 1) := by decide +kernel
theorem dL_law_974 : decode cL_law 974 = .ok (.invokevirtual 130, 3) := by decide +kernel
theorem dL_law_977 : decode cL_law 977 = .ok (.aload_n 2, 1) := by decide +kernel
theorem dL_law_978 : decode cL_law 978 = .ok (.aload_n 0, 1) := by decide +kernel
theorem dL_law_979 : decode cL_law 979 = .ok (.iload_n 3, 1) := by decide +kernel
theorem dL_law_980 : decode cL_law 980 = .ok (.iconst 1, 1) := by decide +kernel
theorem dL_law_981 : decode cL_law 981 = .ok (.iadd, 1) := by decide +kernel
theorem dL_law_982 : decode cL_law 982 = .ok (.iaload, 1) := by decide +kernel
theorem dL_law_983 : decode cL_law 983 = .ok (.invokevirtual 133, 3) := by decide +kernel
theorem dL_law_986 : decode cL_law 986 = .ok (.if_icmp .eq 28, 3) := by decide +kernel
theorem dL_law_989 : decode cL_law 989 = .ok (.iconst 0, 1) := by decide +kernel
theorem dL_law_990 : decode cL_law 990 = .ok (.ireturn, 1) := by decide +kernel
theorem dL_law_991 : decode cL_law 991 = .ok (.aload_n 1, 1) := by decide +kernel
theorem dL_law_992 : decode cL_law 992 = .ok (.aload_n 0, 1) := by decide +kernel
theorem dL_law_993 : decode cL_law 993 = .ok (.iload_n 3, 1) := by decide +kernel
theorem dL_law_994 : decode cL_law 994 = .ok (.iconst 1, 1) := by decide +kernel
theorem dL_law_995 : decode cL_law 995 = .ok (.iadd, 1) := by decide +kernel
theorem dL_law_996 : decode cL_law 996 = .ok (.iaload, 1) := by decide +kernel
theorem dL_law_997 : decode cL_law 997 = .ok (.invokevirtual 134, 3) := by decide +kernel
theorem dL_law_1000 : decode cL_law 1000 = .ok (.aload_n 2, 1) := by decide +kernel
theorem dL_law_1001 : decode cL_law 1001 = .ok (.aload_n 0, 1) := by decide +kernel
theorem dL_law_1002 : decode cL_law 1002 = .ok (.iload_n 3, 1) := by decide +kernel
theorem dL_law_1003 : decode cL_law 1003 = .ok (.iconst 1, 1) := by decide +kernel
theorem dL_law_1004 : decode cL_law 1004 = .ok (.iadd, 1) := by decide +kernel
theorem dL_law_1005 : decode cL_law 1005 = .ok (.iaload, 1) := by decide +kernel
theorem dL_law_1006 : decode cL_law 1006 = .ok (.invokevirtual 137, 3) := by decide +kernel
theorem dL_law_1009 : decode cL_law 1009 = .ok (.if_icmp .eq 5, 3) := by decide +kernel
theorem dL_law_1012 : decode cL_law 1012 = .ok (.iconst 0, 1) := by decide +kernel
theorem dL_law_1013 : decode cL_law 1013 = .ok (.ireturn, 1) := by decide +kernel
theorem dL_law_1014 : decode cL_law 1014 = .ok (.iinc 3 4, 3) := by decide +kernel
theorem dL_law_1017 : decode cL_law 1017 = .ok (.goto (-999), 3) := by decide +kernel
theorem dL_law_1020 : decode cL_law 1020 = .ok (.iconst 1, 1) := by decide +kernel
theorem dL_law_1021 : decode cL_law 1021 = .ok (.ireturn, 1) := by decide +kernel
