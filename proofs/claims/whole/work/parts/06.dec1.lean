theorem dX11_told_133 : decode cX11_told 133 = .ok (.iconst 1, 1) := by decide +kernel
theorem dX11_told_134 : decode cX11_told 134 = .ok (.invokevirtual 135, 3) := by decide +kernel
theorem dX11_told_137 : decode cX11_told 137 = .ok (.ireturn, 1) := by decide +kernel
theorem dX11_told_138 : decode cX11_told 138 = .ok (.aload_n 0, 1) := by decide +kernel
theorem dX11_told_139 : decode cX11_told 139 = .ok (.getfield 10, 3) := by decide +kernel
theorem dX11_told_142 : decode cX11_told 142 = .ok (.iconst 2, 1) := by decide +kernel
theorem dX11_told_143 : decode cX11_told 143 = .ok (.invokevirtual 135, 3) := by decide +kernel
theorem dX11_told_146 : decode cX11_told 146 = .ok (.ireturn, 1) := by decide +kernel
theorem dX11_told_147 : decode cX11_told 147 = .ok (.aload_n 0, 1) := by decide +kernel
theorem dX11_told_148 : decode cX11_told 148 = .ok (.getfield 10, 3) := by decide +kernel
theorem dX11_told_151 : decode cX11_told 151 = .ok (.invokevirtual 138, 3) := by decide +kernel
theorem dX11_told_154 : decode cX11_told 154 = .ok (.ireturn, 1) := by decide +kernel
theorem dX11_told_155 : decode cX11_told 155 = .ok (.aload_n 0, 1) := by decide +kernel
theorem dX11_told_156 : decode cX11_told 156 = .ok (.getfield 10, 3) := by decide +kernel
theorem dX11_told_159 : decode cX11_told 159 = .ok (.invokevirtual 141, 3) := by decide +kernel
theorem dX11_told_162 : decode cX11_told 162 = .ok (.ireturn, 1) := by decide +kernel
theorem dX11_told_163 : decode cX11_told 163 = .ok (.aload_n 0, 1) := by decide +kernel
theorem dX11_told_164 : decode cX11_told 164 = .ok (.getfield 10, 3) := by decide +kernel
theorem dX11_told_167 : decode cX11_told 167 = .ok (.invokestatic 144, 3) := by decide +kernel
theorem dX11_told_170 : decode cX11_told 170 = .ok (.ireturn, 1) := by decide +kernel
theorem dX11_told_171 : decode cX11_told 171 = .ok (.aload_n 0, 1) := by decide +kernel
theorem dX11_told_172 : decode cX11_told 172 = .ok (.getfield 10, 3) := by decide +kernel
theorem dX11_told_175 : decode cX11_told 175 = .ok (.invokestatic 150, 3) := by decide +kernel
theorem dX11_told_178 : decode cX11_told 178 = .ok (.ireturn, 1) := by decide +kernel
theorem dX11_told_179 : decode cX11_told 179 = .ok (.aload_n 0, 1) := by decide +kernel
theorem dX11_told_180 : decode cX11_told 180 = .ok (.getfield 61, 3) := by decide +kernel
theorem dX11_told_183 : decode cX11_told 183 = .ok (.aload_n 0, 1) := by decide +kernel
theorem dX11_told_184 : decode cX11_told 184 = .ok (.getfield 10, 3) := by decide +kernel
theorem dX11_told_187 : decode cX11_told 187 = .ok (.invokevirtual 153, 3) := by decide +kernel
theorem dX11_told_190 : decode cX11_told 190 = .ok (.ireturn, 1) := by decide +kernel
theorem dX11_told_191 : decode cX11_told 191 = .ok (.aload_n 0, 1) := by decide +kernel
theorem dX11_told_192 : decode cX11_told 192 = .ok (.getfield 68, 3) := by decide +kernel
theorem dX11_told_195 : decode cX11_told 195 = .ok (.getfield 156, 3) := by decide +kernel
theorem dX11_told_198 : decode cX11_told 198 = .ok (.ireturn, 1) := by decide +kernel
theorem dX11_told_199 : decode cX11_told 199 = .ok (.aload_n 0, 1) := by decide +kernel
theorem dX11_told_200 : decode cX11_told 200 = .ok (.getfield 75, 3) := by decide +kernel
theorem dX11_told_203 : decode cX11_told 203 = .ok (.getfield 159, 3) := by decide +kernel
theorem dX11_told_206 : decode cX11_told 206 = .ok (.ireturn, 1) := by decide +kernel
theorem dX11_told_207 : decode cX11_told 207 = .ok (.aload_n 0, 1) := by decide +kernel
theorem dX11_told_208 : decode cX11_told 208 = .ok (.getfield 26, 3) := by decide +kernel
theorem dX11_told_211 : decode cX11_told 211 = .ok (.getfield 160, 3) := by decide +kernel
theorem dX11_told_214 : decode cX11_told 214 = .ok (.ireturn, 1) := by decide +kernel
theorem dX11_told_215 : decode cX11_told 215 = .ok (.ldc 83, 2) := by decide +kernel
theorem dX11_told_217 : decode cX11_told 217 = .ok (.ireturn, 1) := by decide +kernel
theorem dX11_couple_0 : decode cX11_couple 0 = .ok (.aload_n 0, 1) := by decide +kernel
theorem dX11_couple_1 : decode cX11_couple 1 = .ok (.getfield 10, 3) := by decide +kernel
theorem dX11_couple_4 : decode cX11_couple 4 = .ok (.iload_n 1, 1) := by decide +kernel
theorem dX11_couple_5 : decode cX11_couple 5 = .ok (.invokevirtual 161, 3) := by decide +kernel
theorem dX11_couple_8 : decode cX11_couple 8 = .ok (.ifCond .ne 6, 3) := by decide +kernel
theorem dX11_couple_11 : decode cX11_couple 11 = .ok (.ldc 165, 2) := by decide +kernel
theorem dX11_couple_13 : decode cX11_couple 13 = .ok (.ireturn, 1) := by decide +kernel
theorem dX11_couple_14 : decode cX11_couple 14 = .ok (.iload_n 2, 1) := by decide +kernel
theorem dX11_couple_15 : decode cX11_couple 15 = .ok (.iconst 0, 1) := by decide +kernel
theorem dX11_couple_16 : decode cX11_couple 16 = .ok (.iconst 4, 1) := by decide +kernel
theorem dX11_couple_17 : decode cX11_couple 17 = .ok (.invokestatic 79, 3) := by decide +kernel
theorem dX11_couple_20 : decode cX11_couple 20 = .ok (.ifCond .ne 13, 3) := by decide +kernel
theorem dX11_couple_23 : decode cX11_couple 23 = .ok (.aload_n 0, 1) := by decide +kernel
theorem dX11_couple_24 : decode cX11_couple 24 = .ok (.getfield 10, 3) := by decide +kernel
theorem dX11_couple_27 : decode cX11_couple 27 = .ok (.iload_n 1, 1) := by decide +kernel
theorem dX11_couple_28 : decode cX11_couple 28 = .ok (.iload_n 2, 1) := by decide +kernel
theorem dX11_couple_29 : decode cX11_couple 29 = .ok (.invokevirtual 166, 3) := by decide +kernel
theorem dX11_couple_32 : decode cX11_couple 32 = .ok (.ireturn, 1) := by decide +kernel
theorem dX11_couple_33 : decode cX11_couple 33 = .ok (.iload_n 2, 1) := by decide +kernel
theorem dX11_couple_34 : decode cX11_couple 34 = .ok (.tableswitch 95 5 9 #[34, 43, 52, 77, 86], 34) := by decide +kernel
theorem dX11_couple_68 : decode cX11_couple 68 = .ok (.aload_n 0, 1) := by decide +kernel
theorem dX11_couple_69 : decode cX11_couple 69 = .ok (.getfield 10, 3) := by decide +kernel
theorem dX11_couple_72 : decode cX11_couple 72 = .ok (.iload_n 1, 1) := by decide +kernel
theorem dX11_couple_73 : decode cX11_couple 73 = .ok (.invokevirtual 170, 3) := by decide +kernel
theorem dX11_couple_76 : decode cX11_couple 76 = .ok (.ireturn, 1) := by decide +kernel
theorem dX11_couple_77 : decode cX11_couple 77 = .ok (.aload_n 0, 1) := by decide +kernel
theorem dX11_couple_78 : decode cX11_couple 78 = .ok (.getfield 10, 3) := by decide +kernel
theorem dX11_couple_81 : decode cX11_couple 81 = .ok (.iload_n 1, 1) := by decide +kernel
theorem dX11_couple_82 : decode cX11_couple 82 = .ok (.invokevirtual 173, 3) := by decide +kernel
theorem dX11_couple_85 : decode cX11_couple 85 = .ok (.ireturn, 1) := by decide +kernel
theorem dX11_couple_86 : decode cX11_couple 86 = .ok (.aload_n 0, 1) := by decide +kernel
theorem dX11_couple_87 : decode cX11_couple 87 = .ok (.getfield 10, 3) := by decide +kernel
theorem dX11_couple_90 : decode cX11_couple 90 = .ok (.iload_n 1, 1) := by decide +kernel
theorem dX11_couple_91 : decode cX11_couple 91 = .ok (.invokevirtual 173, 3) := by decide +kernel
theorem dX11_couple_94 : decode cX11_couple 94 = .ok (.iconst 1, 1) := by decide +kernel
theorem dX11_couple_95 : decode cX11_couple 95 = .ok (.if_icmp .ne 14, 3) := by decide +kernel
theorem dX11_couple_98 : decode cX11_couple 98 = .ok (.aload_n 0, 1) := by decide +kernel
theorem dX11_couple_99 : decode cX11_couple 99 = .ok (.getfield 10, 3) := by decide +kernel
theorem dX11_couple_102 : decode cX11_couple 102 = .ok (.iload_n 1, 1) := by decide +kernel
theorem dX11_couple_103 : decode cX11_couple 103 = .ok (.invokevirtual 176, 3) := by decide +kernel
theorem dX11_couple_106 : decode cX11_couple 106 = .ok (.goto 4, 3) := by decide +kernel
theorem dX11_couple_109 : decode cX11_couple 109 = .ok (.iconst (-1), 1) := by decide +kernel
theorem dX11_couple_110 : decode cX11_couple 110 = .ok (.ireturn, 1) := by decide +kernel
theorem dX11_couple_111 : decode cX11_couple 111 = .ok (.aload_n 0, 1) := by decide +kernel
theorem dX11_couple_112 : decode cX11_couple 112 = .ok (.getfield 10, 3) := by decide +kernel
theorem dX11_couple_115 : decode cX11_couple 115 = .ok (.iload_n 1, 1) := by decide +kernel
theorem dX11_couple_116 : decode cX11_couple 116 = .ok (.invokestatic 179, 3) := by decide +kernel
theorem dX11_couple_119 : decode cX11_couple 119 = .ok (.ireturn, 1) := by decide +kernel
theorem dX11_couple_120 : decode cX11_couple 120 = .ok (.aload_n 0, 1) := by decide +kernel
theorem dX11_couple_121 : decode cX11_couple 121 = .ok (.getfield 10, 3) := by decide +kernel
theorem dX11_couple_124 : decode cX11_couple 124 = .ok (.iload_n 1, 1) := by decide +kernel
theorem dX11_couple_125 : decode cX11_couple 125 = .ok (.invokestatic 183, 3) := by decide +kernel
theorem dX11_couple_128 : decode cX11_couple 128 = .ok (.ireturn, 1) := by decide +kernel
theorem dX11_couple_129 : decode cX11_couple 129 = .ok (.ldc 83, 2) := by decide +kernel
theorem dX11_couple_131 : decode cX11_couple 131 = .ok (.ireturn, 1) := by decide +kernel
theorem dX11_objector_0 : decode cX11_objector 0 = .ok (.aload_n 0, 1) := by decide +kernel
theorem dX11_objector_1 : decode cX11_objector 1 = .ok (.getfield 10, 3) := by decide +kernel
theorem dX11_objector_4 : decode cX11_objector 4 = .ok (.iload_n 1, 1) := by decide +kernel
theorem dX11_objector_5 : decode cX11_objector 5 = .ok (.invokevirtual 186, 3) := by decide +kernel
theorem dX11_objector_8 : decode cX11_objector 8 = .ok (.ifCond .ne 6, 3) := by decide +kernel
theorem dX11_objector_11 : decode cX11_objector 11 = .ok (.ldc 165, 2) := by decide +kernel
theorem dX11_objector_13 : decode cX11_objector 13 = .ok (.ireturn, 1) := by decide +kernel
theorem dX11_objector_14 : decode cX11_objector 14 = .ok (.iload_n 2, 1) := by decide +kernel
theorem dX11_objector_15 : decode cX11_objector 15 = .ok (.tableswitch 73 0 3 #[29, 38, 47, 56], 29) := by decide +kernel
theorem dX11_objector_44 : decode cX11_objector 44 = .ok (.aload_n 0, 1) := by decide +kernel
theorem dX11_objector_45 : decode cX11_objector 45 = .ok (.getfield 10, 3) := by decide +kernel
theorem dX11_objector_48 : decode cX11_objector 48 = .ok (.iload_n 1, 1) := by decide +kernel
theorem dX11_objector_49 : decode cX11_objector 49 = .ok (.invokevirtual 189, 3) := by decide +kernel
theorem dX11_objector_52 : decode cX11_objector 52 = .ok (.ireturn, 1) := by decide +kernel
theorem dX11_objector_53 : decode cX11_objector 53 = .ok (.aload_n 0, 1) := by decide +kernel
theorem dX11_objector_54 : decode cX11_objector 54 = .ok (.getfield 10, 3) := by decide +kernel
theorem dX11_objector_57 : decode cX11_objector 57 = .ok (.iload_n 1, 1) := by decide +kernel
theorem dX11_objector_58 : decode cX11_objector 58 = .ok (.invokevirtual 192, 3) := by decide +kernel
theorem dX11_objector_61 : decode cX11_objector 61 = .ok (.ireturn, 1) := by decide +kernel
theorem dX11_objector_62 : decode cX11_objector 62 = .ok (.aload_n 0, 1) := by decide +kernel
theorem dX11_objector_63 : decode cX11_objector 63 = .ok (.getfield 10, 3) := by decide +kernel
theorem dX11_objector_66 : decode cX11_objector 66 = .ok (.iload_n 1, 1) := by decide +kernel
theorem dX11_objector_67 : decode cX11_objector 67 = .ok (.invokevirtual 195, 3) := by decide +kernel
theorem dX11_objector_70 : decode cX11_objector 70 = .ok (.ireturn, 1) := by decide +kernel
theorem dX11_objector_71 : decode cX11_objector 71 = .ok (.aload_n 0, 1) := by decide +kernel
theorem dX11_objector_72 : decode cX11_objector 72 = .ok (.getfield 10, 3) := by decide +kernel
theorem dX11_objector_75 : decode cX11_objector 75 = .ok (.iload_n 1, 1) := by decide +kernel
theorem dX11_objector_76 : decode cX11_objector 76 = .ok (.invokevirtual 198, 3) := by decide +kernel
theorem dX11_objector_79 : decode cX11_objector 79 = .ok (.ifCond .eq 7, 3) := by decide +kernel
theorem dX11_objector_82 : decode cX11_objector 82 = .ok (.iconst 1, 1) := by decide +kernel
theorem dX11_objector_83 : decode cX11_objector 83 = .ok (.goto 4, 3) := by decide +kernel
theorem dX11_objector_86 : decode cX11_objector 86 = .ok (.iconst 0, 1) := by decide +kernel
theorem dX11_objector_87 : decode cX11_objector 87 = .ok (.ireturn, 1) := by decide +kernel
theorem dX11_objector_88 : decode cX11_objector 88 = .ok (.ldc 83, 2) := by decide +kernel
theorem dX11_objector_90 : decode cX11_objector 90 = .ok (.ireturn, 1) := by decide +kernel
theorem dX11_box_0 : decode cX11_box 0 = .ok (.iload_n 2, 1) := by decide +kernel
theorem dX11_box_1 : decode cX11_box 1 = .ok (.iconst 0, 1) := by decide +kernel
theorem dX11_box_2 : decode cX11_box 2 = .ok (.iconst 4, 1) := by decide +kernel
theorem dX11_box_3 : decode cX11_box 3 = .ok (.invokestatic 79, 3) := by decide +kernel
theorem dX11_box_6 : decode cX11_box 6 = .ok (.ifCond .eq 6, 3) := by decide +kernel
theorem dX11_box_9 : decode cX11_box 9 = .ok (.ldc 83, 2) := by decide +kernel
theorem dX11_box_11 : decode cX11_box 11 = .ok (.ireturn, 1) := by decide +kernel
theorem dX11_box_12 : decode cX11_box 12 = .ok (.iload_n 1, 1) := by decide +kernel
theorem dX11_box_13 : decode cX11_box 13 = .ok (.iconst 0, 1) := by decide +kernel
theorem dX11_box_14 : decode cX11_box 14 = .ok (.aload_n 0, 1) := by decide +kernel
theorem dX11_box_15 : decode cX11_box 15 = .ok (.getfield 10, 3) := by decide +kernel
theorem dX11_box_18 : decode cX11_box 18 = .ok (.invokevirtual 141, 3) := by decide +kernel
theorem dX11_box_21 : decode cX11_box 21 = .ok (.iconst 1, 1) := by decide +kernel
theorem dX11_box_22 : decode cX11_box 22 = .ok (.isub, 1) := by decide +kernel
theorem dX11_box_23 : decode cX11_box 23 = .ok (.invokestatic 79, 3) := by decide +kernel
theorem dX11_box_26 : decode cX11_box 26 = .ok (.ifCond .eq 7, 3) := by decide +kernel
theorem dX11_box_29 : decode cX11_box 29 = .ok (.iconst (-1), 1) := by decide +kernel
theorem dX11_box_30 : decode cX11_box 30 = .ok (.goto 12, 3) := by decide +kernel
theorem dX11_box_33 : decode cX11_box 33 = .ok (.aload_n 0, 1) := by decide +kernel
theorem dX11_box_34 : decode cX11_box 34 = .ok (.getfield 10, 3) := by decide +kernel
theorem dX11_box_37 : decode cX11_box 37 = .ok (.iload_n 1, 1) := by decide +kernel
theorem dX11_box_38 : decode cX11_box 38 = .ok (.iload_n 2, 1) := by decide +kernel
theorem dX11_box_39 : decode cX11_box 39 = .ok (.invokevirtual 201, 3) := by decide +kernel
theorem dX11_box_42 : decode cX11_box 42 = .ok (.ireturn, 1) := by decide +kernel
theorem dX11_against_0 : decode cX11_against 0 = .ok (.aload_n 0, 1) := by decide +kernel
theorem dX11_against_1 : decode cX11_against 1 = .ok (.getfield 10, 3) := by decide +kernel
theorem dX11_against_4 : decode cX11_against 4 = .ok (.iload_n 1, 1) := by decide +kernel
theorem dX11_against_5 : decode cX11_against 5 = .ok (.invokevirtual 186, 3) := by decide +kernel
theorem dX11_against_8 : decode cX11_against 8 = .ok (.ifCond .eq 14, 3) := by decide +kernel
theorem dX11_against_11 : decode cX11_against 11 = .ok (.aload_n 0, 1) := by decide +kernel
theorem dX11_against_12 : decode cX11_against 12 = .ok (.getfield 10, 3) := by decide +kernel
theorem dX11_against_15 : decode cX11_against 15 = .ok (.iload_n 2, 1) := by decide +kernel
theorem dX11_against_16 : decode cX11_against 16 = .ok (.invokevirtual 161, 3) := by decide +kernel
theorem dX11_against_19 : decode cX11_against 19 = .ok (.ifCond .ne 6, 3) := by decide +kernel
theorem dX11_against_22 : decode cX11_against 22 = .ok (.ldc 165, 2) := by decide +kernel
theorem dX11_against_24 : decode cX11_against 24 = .ok (.ireturn, 1) := by decide +kernel
theorem dX11_against_25 : decode cX11_against 25 = .ok (.iload_n 3, 1) := by decide +kernel
theorem dX11_against_26 : decode cX11_against 26 = .ok (.lookupswitch 47 #[(0, 26), (1, 37)], 26) := by decide +kernel
theorem dX11_against_52 : decode cX11_against 52 = .ok (.aload_n 0, 1) := by decide +kernel
theorem dX11_against_53 : decode cX11_against 53 = .ok (.getfield 10, 3) := by decide +kernel
theorem dX11_against_56 : decode cX11_against 56 = .ok (.iload_n 1, 1) := by decide +kernel
theorem dX11_against_57 : decode cX11_against 57 = .ok (.iload_n 2, 1) := by decide +kernel
theorem dX11_against_58 : decode cX11_against 58 = .ok (.iconst 0, 1) := by decide +kernel
theorem dX11_against_59 : decode cX11_against 59 = .ok (.invokevirtual 204, 3) := by decide +kernel
theorem dX11_against_62 : decode cX11_against 62 = .ok (.ireturn, 1) := by decide +kernel
theorem dX11_against_63 : decode cX11_against 63 = .ok (.aload_n 0, 1) := by decide +kernel
theorem dX11_against_64 : decode cX11_against 64 = .ok (.getfield 10, 3) := by decide +kernel
theorem dX11_against_67 : decode cX11_against 67 = .ok (.iload_n 1, 1) := by decide +kernel
theorem dX11_against_68 : decode cX11_against 68 = .ok (.iload_n 2, 1) := by decide +kernel
theorem dX11_against_69 : decode cX11_against 69 = .ok (.invokevirtual 208, 3) := by decide +kernel
theorem dX11_against_72 : decode cX11_against 72 = .ok (.ireturn, 1) := by decide +kernel
theorem dX11_against_73 : decode cX11_against 73 = .ok (.ldc 83, 2) := by decide +kernel
theorem dX11_against_75 : decode cX11_against 75 = .ok (.ireturn, 1) := by decide +kernel
theorem dX11_stand_0 : decode cX11_stand 0 = .ok (.aload_n 0, 1) := by decide +kernel
theorem dX11_stand_1 : decode cX11_stand 1 = .ok (.getfield 10, 3) := by decide +kernel
theorem dX11_stand_4 : decode cX11_stand 4 = .ok (.iload_n 1, 1) := by decide +kernel
theorem dX11_stand_5 : decode cX11_stand 5 = .ok (.invokevirtual 186, 3) := by decide +kernel
theorem dX11_stand_8 : decode cX11_stand 8 = .ok (.ifCond .eq 14, 3) := by decide +kernel
theorem dX11_stand_11 : decode cX11_stand 11 = .ok (.aload_n 0, 1) := by decide +kernel
theorem dX11_stand_12 : decode cX11_stand 12 = .ok (.getfield 10, 3) := by decide +kernel
theorem dX11_stand_15 : decode cX11_stand 15 = .ok (.iload_n 2, 1) := by decide +kernel
theorem dX11_stand_16 : decode cX11_stand 16 = .ok (.invokevirtual 161, 3) := by decide +kernel
theorem dX11_stand_19 : decode cX11_stand 19 = .ok (.ifCond .ne 6, 3) := by decide +kernel
theorem dX11_stand_22 : decode cX11_stand 22 = .ok (.ldc 165, 2) := by decide +kernel
theorem dX11_stand_24 : decode cX11_stand 24 = .ok (.ireturn, 1) := by decide +kernel
theorem dX11_stand_25 : decode cX11_stand 25 = .ok (.aload_n 0, 1) := by decide +kernel
theorem dX11_stand_26 : decode cX11_stand 26 = .ok (.getfield 10, 3) := by decide +kernel
theorem dX11_stand_29 : decode cX11_stand 29 = .ok (.iload_n 1, 1) := by decide +kernel
theorem dX11_stand_30 : decode cX11_stand 30 = .ok (.iload_n 2, 1) := by decide +kernel
theorem dX11_stand_31 : decode cX11_stand 31 = .ok (.invokevirtual 211, 3) := by decide +kernel
theorem dX11_stand_34 : decode cX11_stand 34 = .ok (.ifCond .ne 6, 3) := by decide +kernel
theorem dX11_stand_37 : decode cX11_stand 37 = .ok (.ldc 215, 2) := by decide +kernel
theorem dX11_stand_39 : decode cX11_stand 39 = .ok (.ireturn, 1) := by decide +kernel
theorem dX11_stand_40 : decode cX11_stand 40 = .ok (.aload_n 0, 1) := by decide +kernel
theorem dX11_stand_41 : decode cX11_stand 41 = .ok (.getfield 26, 3) := by decide +kernel
theorem dX11_stand_44 : decode cX11_stand 44 = .ok (.aload_n 0, 1) := by decide +kernel
theorem dX11_stand_45 : decode cX11_stand 45 = .ok (.getfield 10, 3) := by decide +kernel
theorem dX11_stand_48 : decode cX11_stand 48 = .ok (.invokevirtual 216, 3) := by decide +kernel
theorem dX11_stand_51 : decode cX11_stand 51 = .ok (.aload_n 0, 1) := by decide +kernel
theorem dX11_stand_52 : decode cX11_stand 52 = .ok (.getfield 10, 3) := by decide +kernel
theorem dX11_stand_55 : decode cX11_stand 55 = .ok (.iload_n 1, 1) := by decide +kernel
theorem dX11_stand_56 : decode cX11_stand 56 = .ok (.iload_n 2, 1) := by decide +kernel
theorem dX11_stand_57 : decode cX11_stand 57 = .ok (.invokevirtual 220, 3) := by decide +kernel
theorem dX11_stand_60 : decode cX11_stand 60 = .ok (.aload_n 0, 1) := by decide +kernel
theorem dX11_stand_61 : decode cX11_stand 61 = .ok (.getfield 10, 3) := by decide +kernel
theorem dX11_stand_64 : decode cX11_stand 64 = .ok (.iload_n 2, 1) := by decide +kernel
theorem dX11_stand_65 : decode cX11_stand 65 = .ok (.invokevirtual 173, 3) := by decide +kernel
theorem dX11_stand_68 : decode cX11_stand 68 = .ok (.iconst 1, 1) := by decide +kernel
theorem dX11_stand_69 : decode cX11_stand 69 = .ok (.if_icmp .ne 7, 3) := by decide +kernel
theorem dX11_stand_72 : decode cX11_stand 72 = .ok (.iconst 1, 1) := by decide +kernel
theorem dX11_stand_73 : decode cX11_stand 73 = .ok (.goto 4, 3) := by decide +kernel
theorem dX11_stand_76 : decode cX11_stand 76 = .ok (.iconst 0, 1) := by decide +kernel
theorem dX11_stand_77 : decode cX11_stand 77 = .ok (.ireturn, 1) := by decide +kernel
theorem dX11_year_0 : decode cX11_year 0 = .ok (.aload_n 0, 1) := by decide +kernel
theorem dX11_year_1 : decode cX11_year 1 = .ok (.iload_n 1, 1) := by decide +kernel
theorem dX11_year_2 : decode cX11_year 2 = .ok (.invokevirtual 224, 3) := by decide +kernel
theorem dX11_year_5 : decode cX11_year 5 = .ok (.istore_n 2, 1) := by decide +kernel
theorem dX11_year_6 : decode cX11_year 6 = .ok (.iload_n 2, 1) := by decide +kernel
theorem dX11_year_7 : decode cX11_year 7 = .ok (.ifCond .eq 5, 3) := by decide +kernel
theorem dX11_year_10 : decode cX11_year 10 = .ok (.iload_n 2, 1) := by decide +kernel
theorem dX11_year_11 : decode cX11_year 11 = .ok (.ireturn, 1) := by decide +kernel
theorem dX11_year_12 : decode cX11_year 12 = .ok (.aload_n 0, 1) := by decide +kernel
theorem dX11_year_13 : decode cX11_year 13 = .ok (.getfield 26, 3) := by decide +kernel
theorem dX11_year_16 : decode cX11_year 16 = .ok (.aload_n 0, 1) := by decide +kernel
theorem dX11_year_17 : decode cX11_year 17 = .ok (.getfield 10, 3) := by decide +kernel
theorem dX11_year_20 : decode cX11_year 20 = .ok (.invokevirtual 216, 3) := by decide +kernel
theorem dX11_year_23 : decode cX11_year 23 = .ok (.iconst 0, 1) := by decide +kernel
theorem dX11_year_24 : decode cX11_year 24 = .ok (.istore_n 3, 1) := by decide +kernel
theorem dX11_year_25 : decode cX11_year 25 = .ok (.iload_n 3, 1) := by decide +kernel
theorem dX11_year_26 : decode cX11_year 26 = .ok (.iload_n 1, 1) := by decide +kernel
theorem dX11_year_27 : decode cX11_year 27 = .ok (.if_icmp .ge 16, 3) := by decide +kernel
theorem dX11_year_30 : decode cX11_year 30 = .ok (.aload_n 0, 1) := by decide +kernel
theorem dX11_year_31 : decode cX11_year 31 = .ok (.getfield 10, 3) := by decide +kernel
theorem dX11_year_34 : decode cX11_year 34 = .ok (.invokevirtual 227, 3) := by decide +kernel
theorem dX11_year_37 : decode cX11_year 37 = .ok (.iinc 3 1, 3) := by decide +kernel
theorem dX11_year_40 : decode cX11_year 40 = .ok (.goto (-15), 3) := by decide +kernel
theorem dX11_year_43 : decode cX11_year 43 = .ok (.aload_n 0, 1) := by decide +kernel
theorem dX11_year_44 : decode cX11_year 44 = .ok (.getfield 10, 3) := by decide +kernel
theorem dX11_year_47 : decode cX11_year 47 = .ok (.invokevirtual 132, 3) := by decide +kernel
theorem dX11_year_50 : decode cX11_year 50 = .ok (.ireturn, 1) := by decide +kernel
theorem dX11_teach_0 : decode cX11_teach 0 = .ok (.aload_n 0, 1) := by decide +kernel
theorem dX11_teach_1 : decode cX11_teach 1 = .ok (.getfield 10, 3) := by decide +kernel
theorem dX11_teach_4 : decode cX11_teach 4 = .ok (.iload_n 1, 1) := by decide +kernel
theorem dX11_teach_5 : decode cX11_teach 5 = .ok (.invokevirtual 186, 3) := by decide +kernel
theorem dX11_teach_8 : decode cX11_teach 8 = .ok (.ifCond .ne 6, 3) := by decide +kernel
theorem dX11_teach_11 : decode cX11_teach 11 = .ok (.ldc 165, 2) := by decide +kernel
theorem dX11_teach_13 : decode cX11_teach 13 = .ok (.ireturn, 1) := by decide +kernel
theorem dX11_teach_14 : decode cX11_teach 14 = .ok (.iload_n 2, 1) := by decide +kernel
theorem dX11_teach_15 : decode cX11_teach 15 = .ok (.iconst 0, 1) := by decide +kernel
theorem dX11_teach_16 : decode cX11_teach 16 = .ok (.iconst 4, 1) := by decide +kernel
theorem dX11_teach_17 : decode cX11_teach 17 = .ok (.invokestatic 79, 3) := by decide +kernel
theorem dX11_teach_20 : decode cX11_teach 20 = .ok (.ifCond .eq 6, 3) := by decide +kernel
theorem dX11_teach_23 : decode cX11_teach 23 = .ok (.ldc 83, 2) := by decide +kernel
theorem dX11_teach_25 : decode cX11_teach 25 = .ok (.ireturn, 1) := by decide +kernel
theorem dX11_teach_26 : decode cX11_teach 26 = .ok (.aload_n 0, 1) := by decide +kernel
theorem dX11_teach_27 : decode cX11_teach 27 = .ok (.getfield 26, 3) := by decide +kernel
theorem dX11_teach_30 : decode cX11_teach 30 = .ok (.aload_n 0, 1) := by decide +kernel
theorem dX11_teach_31 : decode cX11_teach 31 = .ok (.getfield 10, 3) := by decide +kernel
theorem dX11_teach_34 : decode cX11_teach 34 = .ok (.invokevirtual 216, 3) := by decide +kernel
theorem dX11_teach_37 : decode cX11_teach 37 = .ok (.aload_n 0, 1) := by decide +kernel
theorem dX11_teach_38 : decode cX11_teach 38 = .ok (.getfield 10, 3) := by decide +kernel
theorem dX11_teach_41 : decode cX11_teach 41 = .ok (.iload_n 1, 1) := by decide +kernel
theorem dX11_teach_42 : decode cX11_teach 42 = .ok (.iload_n 3, 1) := by decide +kernel
theorem dX11_teach_43 : decode cX11_teach 43 = .ok (.ifCond .eq 18, 3) := by decide +kernel
theorem dX11_teach_46 : decode cX11_teach 46 = .ok (.aload_n 0, 1) := by decide +kernel
theorem dX11_teach_47 : decode cX11_teach 47 = .ok (.getfield 10, 3) := by decide +kernel
theorem dX11_teach_50 : decode cX11_teach 50 = .ok (.iload_n 1, 1) := by decide +kernel
theorem dX11_teach_51 : decode cX11_teach 51 = .ok (.invokevirtual 195, 3) := by decide +kernel
theorem dX11_teach_54 : decode cX11_teach 54 = .ok (.iconst 1, 1) := by decide +kernel
theorem dX11_teach_55 : decode cX11_teach 55 = .ok (.iload_n 2, 1) := by decide +kernel
theorem dX11_teach_56 : decode cX11_teach 56 = .ok (.ishl, 1) := by decide +kernel
theorem dX11_teach_57 : decode cX11_teach 57 = .ok (.ior, 1) := by decide +kernel
theorem dX11_teach_58 : decode cX11_teach 58 = .ok (.goto 17, 3) := by decide +kernel
theorem dX11_teach_61 : decode cX11_teach 61 = .ok (.aload_n 0, 1) := by decide +kernel
theorem dX11_teach_62 : decode cX11_teach 62 = .ok (.getfield 10, 3) := by decide +kernel
theorem dX11_teach_65 : decode cX11_teach 65 = .ok (.iload_n 1, 1) := by decide +kernel
theorem dX11_teach_66 : decode cX11_teach 66 = .ok (.invokevirtual 195, 3) := by decide +kernel
theorem dX11_teach_69 : decode cX11_teach 69 = .ok (.iconst 1, 1) := by decide +kernel
theorem dX11_teach_70 : decode cX11_teach 70 = .ok (.iload_n 2, 1) := by decide +kernel
theorem dX11_teach_71 : decode cX11_teach 71 = .ok (.ishl, 1) := by decide +kernel
theorem dX11_teach_72 : decode cX11_teach 72 = .ok (.iconst (-1), 1) := by decide +kernel
theorem dX11_teach_73 : decode cX11_teach 73 = .ok (.ixor, 1) := by decide +kernel
theorem dX11_teach_74 : decode cX11_teach 74 = .ok (.iand, 1) := by decide +kernel
theorem dX11_teach_75 : decode cX11_teach 75 = .ok (.invokevirtual 230, 3) := by decide +kernel
theorem dX11_teach_78 : decode cX11_teach 78 = .ok (.aload_n 0, 1) := by decide +kernel
theorem dX11_teach_79 : decode cX11_teach 79 = .ok (.getfield 10, 3) := by decide +kernel
theorem dX11_teach_82 : decode cX11_teach 82 = .ok (.iload_n 1, 1) := by decide +kernel
theorem dX11_teach_83 : decode cX11_teach 83 = .ok (.invokevirtual 195, 3) := by decide +kernel
theorem dX11_teach_86 : decode cX11_teach 86 = .ok (.ireturn, 1) := by decide +kernel
theorem dX11_hear_0 : decode cX11_hear 0 = .ok (.aload_n 0, 1) := by decide +kernel
theorem dX11_hear_1 : decode cX11_hear 1 = .ok (.getfield 10, 3) := by decide +kernel
theorem dX11_hear_4 : decode cX11_hear 4 = .ok (.iload_n 1, 1) := by decide +kernel
theorem dX11_hear_5 : decode cX11_hear 5 = .ok (.invokevirtual 161, 3) := by decide +kernel
theorem dX11_hear_8 : decode cX11_hear 8 = .ok (.ifCond .ne 6, 3) := by decide +kernel
theorem dX11_hear_11 : decode cX11_hear 11 = .ok (.ldc 165, 2) := by decide +kernel
theorem dX11_hear_13 : decode cX11_hear 13 = .ok (.ireturn, 1) := by decide +kernel
theorem dX11_hear_14 : decode cX11_hear 14 = .ok (.iload_n 2, 1) := by decide +kernel
theorem dX11_hear_15 : decode cX11_hear 15 = .ok (.iconst 0, 1) := by decide +kernel
theorem dX11_hear_16 : decode cX11_hear 16 = .ok (.iconst 4, 1) := by decide +kernel
theorem dX11_hear_17 : decode cX11_hear 17 = .ok (.invokestatic 79, 3) := by decide +kernel
theorem dX11_hear_20 : decode cX11_hear 20 = .ok (.ifCond .ne 13, 3) := by decide +kernel
theorem dX11_hear_23 : decode cX11_hear 23 = .ok (.iload_n 3, 1) := by decide +kernel
theorem dX11_hear_24 : decode cX11_hear 24 = .ok (.iconst 0, 1) := by decide +kernel
theorem dX11_hear_25 : decode cX11_hear 25 = .ok (.bipush 20, 2) := by decide +kernel
theorem dX11_hear_27 : decode cX11_hear 27 = .ok (.invokestatic 79, 3) := by decide +kernel
theorem dX11_hear_30 : decode cX11_hear 30 = .ok (.ifCond .eq 6, 3) := by decide +kernel
theorem dX11_hear_33 : decode cX11_hear 33 = .ok (.ldc 83, 2) := by decide +kernel
theorem dX11_hear_35 : decode cX11_hear 35 = .ok (.ireturn, 1) := by decide +kernel
theorem dX11_hear_36 : decode cX11_hear 36 = .ok (.aload_n 0, 1) := by decide +kernel
theorem dX11_hear_37 : decode cX11_hear 37 = .ok (.getfield 10, 3) := by decide +kernel
theorem dX11_hear_40 : decode cX11_hear 40 = .ok (.iload_n 1, 1) := by decide +kernel
theorem dX11_hear_41 : decode cX11_hear 41 = .ok (.iload_n 2, 1) := by decide +kernel
theorem dX11_hear_42 : decode cX11_hear 42 = .ok (.invokevirtual 166, 3) := by decide +kernel
theorem dX11_hear_45 : decode cX11_hear 45 = .ok (.istore 4, 2) := by decide +kernel
theorem dX11_hear_47 : decode cX11_hear 47 = .ok (.aload_n 0, 1) := by decide +kernel
theorem dX11_hear_48 : decode cX11_hear 48 = .ok (.getfield 26, 3) := by decide +kernel
theorem dX11_hear_51 : decode cX11_hear 51 = .ok (.aload_n 0, 1) := by decide +kernel
theorem dX11_hear_52 : decode cX11_hear 52 = .ok (.getfield 10, 3) := by decide +kernel
theorem dX11_hear_55 : decode cX11_hear 55 = .ok (.invokevirtual 216, 3) := by decide +kernel
theorem dX11_hear_58 : decode cX11_hear 58 = .ok (.aload_n 0, 1) := by decide +kernel
theorem dX11_hear_59 : decode cX11_hear 59 = .ok (.getfield 10, 3) := by decide +kernel
theorem dX11_hear_62 : decode cX11_hear 62 = .ok (.iload_n 1, 1) := by decide +kernel
theorem dX11_hear_63 : decode cX11_hear 63 = .ok (.iload_n 2, 1) := by decide +kernel
theorem dX11_hear_64 : decode cX11_hear 64 = .ok (.iload_n 3, 1) := by decide +kernel
theorem dX11_hear_65 : decode cX11_hear 65 = .ok (.invokevirtual 233, 3) := by decide +kernel
theorem dX11_hear_68 : decode cX11_hear 68 = .ok (.iload 4, 2) := by decide +kernel
theorem dX11_hear_70 : decode cX11_hear 70 = .ok (.ireturn, 1) := by decide +kernel
theorem dX11_practise_0 : decode cX11_practise 0 = .ok (.aload_n 0, 1) := by decide +kernel
theorem dX11_practise_1 : decode cX11_practise 1 = .ok (.getfield 10, 3) := by decide +kernel
theorem dX11_practise_4 : decode cX11_practise 4 = .ok (.iload_n 1, 1) := by decide +kernel
theorem dX11_practise_5 : decode cX11_practise 5 = .ok (.invokevirtual 161, 3) := by decide +kernel
theorem dX11_practise_8 : decode cX11_practise 8 = .ok (.ifCond .ne 6, 3) := by decide +kernel
theorem dX11_practise_11 : decode cX11_practise 11 = .ok (.ldc 165, 2) := by decide +kernel
theorem dX11_practise_13 : decode cX11_practise 13 = .ok (.ireturn, 1) := by decide +kernel
theorem dX11_practise_14 : decode cX11_practise 14 = .ok (.iload_n 2, 1) := by decide +kernel
theorem dX11_practise_15 : decode cX11_practise 15 = .ok (.iconst 0, 1) := by decide +kernel
theorem dX11_practise_16 : decode cX11_practise 16 = .ok (.bipush 99, 2) := by decide +kernel
theorem dX11_practise_18 : decode cX11_practise 18 = .ok (.invokestatic 79, 3) := by decide +kernel
theorem dX11_practise_21 : decode cX11_practise 21 = .ok (.ifCond .eq 6, 3) := by decide +kernel
theorem dX11_practise_24 : decode cX11_practise 24 = .ok (.ldc 83, 2) := by decide +kernel
theorem dX11_practise_26 : decode cX11_practise 26 = .ok (.ireturn, 1) := by decide +kernel
theorem dX11_practise_27 : decode cX11_practise 27 = .ok (.aload_n 0, 1) := by decide +kernel
theorem dX11_practise_28 : decode cX11_practise 28 = .ok (.getfield 10, 3) := by decide +kernel
theorem dX11_practise_31 : decode cX11_practise 31 = .ok (.iload_n 1, 1) := by decide +kernel
theorem dX11_practise_32 : decode cX11_practise 32 = .ok (.invokevirtual 237, 3) := by decide +kernel
theorem dX11_practise_35 : decode cX11_practise 35 = .ok (.ifCond .ne 6, 3) := by decide +kernel
theorem dX11_practise_38 : decode cX11_practise 38 = .ok (.ldc 215, 2) := by decide +kernel
theorem dX11_practise_40 : decode cX11_practise 40 = .ok (.ireturn, 1) := by decide +kernel
theorem dX11_practise_41 : decode cX11_practise 41 = .ok (.aload_n 0, 1) := by decide +kernel
theorem dX11_practise_42 : decode cX11_practise 42 = .ok (.getfield 10, 3) := by decide +kernel
theorem dX11_practise_45 : decode cX11_practise 45 = .ok (.iload_n 1, 1) := by decide +kernel
theorem dX11_practise_46 : decode cX11_practise 46 = .ok (.invokevirtual 170, 3) := by decide +kernel
theorem dX11_practise_49 : decode cX11_practise 49 = .ok (.istore_n 3, 1) := by decide +kernel
theorem dX11_practise_50 : decode cX11_practise 50 = .ok (.aload_n 0, 1) := by decide +kernel
theorem dX11_practise_51 : decode cX11_practise 51 = .ok (.getfield 26, 3) := by decide +kernel
theorem dX11_practise_54 : decode cX11_practise 54 = .ok (.aload_n 0, 1) := by decide +kernel
theorem dX11_practise_55 : decode cX11_practise 55 = .ok (.getfield 10, 3) := by decide +kernel
theorem dX11_practise_58 : decode cX11_practise 58 = .ok (.invokevirtual 216, 3) := by decide +kernel
theorem dX11_practise_61 : decode cX11_practise 61 = .ok (.aload_n 0, 1) := by decide +kernel
theorem dX11_practise_62 : decode cX11_practise 62 = .ok (.getfield 10, 3) := by decide +kernel
theorem dX11_practise_65 : decode cX11_practise 65 = .ok (.iload_n 1, 1) := by decide +kernel
theorem dX11_practise_66 : decode cX11_practise 66 = .ok (.iload_n 2, 1) := by decide +kernel
theorem dX11_practise_67 : decode cX11_practise 67 = .ok (.invokevirtual 240, 3) := by decide +kernel
theorem dX11_practise_70 : decode cX11_practise 70 = .ok (.iload_n 3, 1) := by decide +kernel
theorem dX11_practise_71 : decode cX11_practise 71 = .ok (.ireturn, 1) := by decide +kernel
theorem dX11_sour_0 : decode cX11_sour 0 = .ok (.aload_n 0, 1) := by decide +kernel
theorem dX11_sour_1 : decode cX11_sour 1 = .ok (.getfield 10, 3) := by decide +kernel
theorem dX11_sour_4 : decode cX11_sour 4 = .ok (.iload_n 1, 1) := by decide +kernel
theorem dX11_sour_5 : decode cX11_sour 5 = .ok (.invokevirtual 186, 3) := by decide +kernel
theorem dX11_sour_8 : decode cX11_sour 8 = .ok (.ifCond .ne 6, 3) := by decide +kernel
theorem dX11_sour_11 : decode cX11_sour 11 = .ok (.ldc 165, 2) := by decide +kernel
theorem dX11_sour_13 : decode cX11_sour 13 = .ok (.ireturn, 1) := by decide +kernel
theorem dX11_sour_14 : decode cX11_sour 14 = .ok (.iload_n 2, 1) := by decide +kernel
theorem dX11_sour_15 : decode cX11_sour 15 = .ok (.iconst 0, 1) := by decide +kernel
theorem dX11_sour_16 : decode cX11_sour 16 = .ok (.bipush 40, 2) := by decide +kernel
theorem dX11_sour_18 : decode cX11_sour 18 = .ok (.invokestatic 79, 3) := by decide +kernel
theorem dX11_sour_21 : decode cX11_sour 21 = .ok (.ifCond .eq 6, 3) := by decide +kernel
theorem dX11_sour_24 : decode cX11_sour 24 = .ok (.ldc 83, 2) := by decide +kernel
theorem dX11_sour_26 : decode cX11_sour 26 = .ok (.ireturn, 1) := by decide +kernel
theorem dX11_sour_27 : decode cX11_sour 27 = .ok (.aload_n 0, 1) := by decide +kernel
theorem dX11_sour_28 : decode cX11_sour 28 = .ok (.getfield 10, 3) := by decide +kernel
theorem dX11_sour_31 : decode cX11_sour 31 = .ok (.iload_n 1, 1) := by decide +kernel
theorem dX11_sour_32 : decode cX11_sour 32 = .ok (.invokevirtual 192, 3) := by decide +kernel
theorem dX11_sour_35 : decode cX11_sour 35 = .ok (.istore_n 3, 1) := by decide +kernel
theorem dX11_sour_36 : decode cX11_sour 36 = .ok (.aload_n 0, 1) := by decide +kernel
theorem dX11_sour_37 : decode cX11_sour 37 = .ok (.getfield 26, 3) := by decide +kernel
theorem dX11_sour_40 : decode cX11_sour 40 = .ok (.aload_n 0, 1) := by decide +kernel
theorem dX11_sour_41 : decode cX11_sour 41 = .ok (.getfield 10, 3) := by decide +kernel
theorem dX11_sour_44 : decode cX11_sour 44 = .ok (.invokevirtual 216, 3) := by decide +kernel
theorem dX11_sour_47 : decode cX11_sour 47 = .ok (.aload_n 0, 1) := by decide +kernel
theorem dX11_sour_48 : decode cX11_sour 48 = .ok (.getfield 10, 3) := by decide +kernel
theorem dX11_sour_51 : decode cX11_sour 51 = .ok (.iload_n 1, 1) := by decide +kernel
theorem dX11_sour_52 : decode cX11_sour 52 = .ok (.iload_n 2, 1) := by decide +kernel
theorem dX11_sour_53 : decode cX11_sour 53 = .ok (.invokevirtual 243, 3) := by decide +kernel
theorem dX11_sour_56 : decode cX11_sour 56 = .ok (.iload_n 3, 1) := by decide +kernel
theorem dX11_sour_57 : decode cX11_sour 57 = .ok (.ireturn, 1) := by decide +kernel
theorem dX11_drift_0 : decode cX11_drift 0 = .ok (.aload_n 0, 1) := by decide +kernel
theorem dX11_drift_1 : decode cX11_drift 1 = .ok (.iload_n 1, 1) := by decide +kernel
theorem dX11_drift_2 : decode cX11_drift 2 = .ok (.invokevirtual 224, 3) := by decide +kernel
theorem dX11_drift_5 : decode cX11_drift 5 = .ok (.istore_n 2, 1) := by decide +kernel
theorem dX11_drift_6 : decode cX11_drift 6 = .ok (.iload_n 2, 1) := by decide +kernel
theorem dX11_drift_7 : decode cX11_drift 7 = .ok (.ifCond .eq 5, 3) := by decide +kernel
theorem dX11_drift_10 : decode cX11_drift 10 = .ok (.iload_n 2, 1) := by decide +kernel
theorem dX11_drift_11 : decode cX11_drift 11 = .ok (.ireturn, 1) := by decide +kernel
theorem dX11_drift_12 : decode cX11_drift 12 = .ok (.aload_n 0, 1) := by decide +kernel
theorem dX11_drift_13 : decode cX11_drift 13 = .ok (.getfield 26, 3) := by decide +kernel
theorem dX11_drift_16 : decode cX11_drift 16 = .ok (.aload_n 0, 1) := by decide +kernel
theorem dX11_drift_17 : decode cX11_drift 17 = .ok (.getfield 10, 3) := by decide +kernel
theorem dX11_drift_20 : decode cX11_drift 20 = .ok (.invokevirtual 216, 3) := by decide +kernel
theorem dX11_drift_23 : decode cX11_drift 23 = .ok (.iconst 0, 1) := by decide +kernel
theorem dX11_drift_24 : decode cX11_drift 24 = .ok (.istore_n 3, 1) := by decide +kernel
theorem dX11_drift_25 : decode cX11_drift 25 = .ok (.iload_n 3, 1) := by decide +kernel
theorem dX11_drift_26 : decode cX11_drift 26 = .ok (.iload_n 1, 1) := by decide +kernel
theorem dX11_drift_27 : decode cX11_drift 27 = .ok (.if_icmp .ge 27, 3) := by decide +kernel
theorem dX11_drift_30 : decode cX11_drift 30 = .ok (.aload_n 0, 1) := by decide +kernel
theorem dX11_drift_31 : decode cX11_drift 31 = .ok (.getfield 40, 3) := by decide +kernel
theorem dX11_drift_34 : decode cX11_drift 34 = .ok (.aload_n 0, 1) := by decide +kernel
theorem dX11_drift_35 : decode cX11_drift 35 = .ok (.getfield 10, 3) := by decide +kernel
theorem dX11_drift_38 : decode cX11_drift 38 = .ok (.invokevirtual 246, 3) := by decide +kernel
theorem dX11_drift_41 : decode cX11_drift 41 = .ok (.aload_n 0, 1) := by decide +kernel
theorem dX11_drift_42 : decode cX11_drift 42 = .ok (.getfield 10, 3) := by decide +kernel
theorem dX11_drift_45 : decode cX11_drift 45 = .ok (.invokevirtual 227, 3) := by decide +kernel
theorem dX11_drift_48 : decode cX11_drift 48 = .ok (.iinc 3 1, 3) := by decide +kernel
theorem dX11_drift_51 : decode cX11_drift 51 = .ok (.goto (-26), 3) := by decide +kernel
theorem dX11_drift_54 : decode cX11_drift 54 = .ok (.aload_n 0, 1) := by decide +kernel
theorem dX11_drift_55 : decode cX11_drift 55 = .ok (.getfield 10, 3) := by decide +kernel
theorem dX11_drift_58 : decode cX11_drift 58 = .ok (.invokevirtual 132, 3) := by decide +kernel
theorem dX11_drift_61 : decode cX11_drift 61 = .ok (.ireturn, 1) := by decide +kernel
theorem dX11_undo_0 : decode cX11_undo 0 = .ok (.aload_n 0, 1) := by decide +kernel
theorem dX11_undo_1 : decode cX11_undo 1 = .ok (.getfield 26, 3) := by decide +kernel
theorem dX11_undo_4 : decode cX11_undo 4 = .ok (.getfield 160, 3) := by decide +kernel
theorem dX11_undo_7 : decode cX11_undo 7 = .ok (.ifCond .ne 6, 3) := by decide +kernel
theorem dX11_undo_10 : decode cX11_undo 10 = .ok (.ldc 215, 2) := by decide +kernel
theorem dX11_undo_12 : decode cX11_undo 12 = .ok (.ireturn, 1) := by decide +kernel
theorem dX11_undo_13 : decode cX11_undo 13 = .ok (.aload_n 0, 1) := by decide +kernel
theorem dX11_undo_14 : decode cX11_undo 14 = .ok (.getfield 26, 3) := by decide +kernel
theorem dX11_undo_17 : decode cX11_undo 17 = .ok (.aload_n 0, 1) := by decide +kernel
theorem dX11_undo_18 : decode cX11_undo 18 = .ok (.getfield 10, 3) := by decide +kernel
theorem dX11_undo_21 : decode cX11_undo 21 = .ok (.invokevirtual 249, 3) := by decide +kernel
theorem dX11_undo_24 : decode cX11_undo 24 = .ok (.aload_n 0, 1) := by decide +kernel
theorem dX11_undo_25 : decode cX11_undo 25 = .ok (.getfield 26, 3) := by decide +kernel
theorem dX11_undo_28 : decode cX11_undo 28 = .ok (.getfield 160, 3) := by decide +kernel
theorem dX11_undo_31 : decode cX11_undo 31 = .ok (.ireturn, 1) := by decide +kernel
theorem dX11_soonest_0 : decode cX11_soonest 0 = .ok (.aload_n 0, 1) := by decide +kernel
theorem dX11_soonest_1 : decode cX11_soonest 1 = .ok (.getfield 10, 3) := by decide +kernel
theorem dX11_soonest_4 : decode cX11_soonest 4 = .ok (.iload_n 1, 1) := by decide +kernel
theorem dX11_soonest_5 : decode cX11_soonest 5 = .ok (.invokevirtual 161, 3) := by decide +kernel
theorem dX11_soonest_8 : decode cX11_soonest 8 = .ok (.ifCond .eq 14, 3) := by decide +kernel
theorem dX11_soonest_11 : decode cX11_soonest 11 = .ok (.aload_n 0, 1) := by decide +kernel
theorem dX11_soonest_12 : decode cX11_soonest 12 = .ok (.getfield 10, 3) := by decide +kernel
theorem dX11_soonest_15 : decode cX11_soonest 15 = .ok (.iload_n 2, 1) := by decide +kernel
theorem dX11_soonest_16 : decode cX11_soonest 16 = .ok (.invokevirtual 186, 3) := by decide +kernel
theorem dX11_soonest_19 : decode cX11_soonest 19 = .ok (.ifCond .ne 6, 3) := by decide +kernel
theorem dX11_soonest_22 : decode cX11_soonest 22 = .ok (.ldc 165, 2) := by decide +kernel
theorem dX11_soonest_24 : decode cX11_soonest 24 = .ok (.ireturn, 1) := by decide +kernel
theorem dX11_soonest_25 : decode cX11_soonest 25 = .ok (.aload_n 0, 1) := by decide +kernel
theorem dX11_soonest_26 : decode cX11_soonest 26 = .ok (.getfield 10, 3) := by decide +kernel
theorem dX11_soonest_29 : decode cX11_soonest 29 = .ok (.iload_n 1, 1) := by decide +kernel
theorem dX11_soonest_30 : decode cX11_soonest 30 = .ok (.invokevirtual 237, 3) := by decide +kernel
theorem dX11_soonest_33 : decode cX11_soonest 33 = .ok (.ifCond .eq 15, 3) := by decide +kernel
theorem dX11_soonest_36 : decode cX11_soonest 36 = .ok (.aload_n 0, 1) := by decide +kernel
theorem dX11_soonest_37 : decode cX11_soonest 37 = .ok (.getfield 10, 3) := by decide +kernel
theorem dX11_soonest_40 : decode cX11_soonest 40 = .ok (.iload_n 1, 1) := by decide +kernel
theorem dX11_soonest_41 : decode cX11_soonest 41 = .ok (.iload_n 2, 1) := by decide +kernel
theorem dX11_soonest_42 : decode cX11_soonest 42 = .ok (.invokestatic 252, 3) := by decide +kernel
theorem dX11_soonest_45 : decode cX11_soonest 45 = .ok (.goto 5, 3) := by decide +kernel
theorem dX11_soonest_48 : decode cX11_soonest 48 = .ok (.ldc 215, 2) := by decide +kernel
theorem dX11_soonest_50 : decode cX11_soonest 50 = .ok (.ireturn, 1) := by decide +kernel
theorem dX11_match_0 : decode cX11_match 0 = .ok (.iload_n 1, 1) := by decide +kernel
theorem dX11_match_1 : decode cX11_match 1 = .ok (.iconst (-1), 1) := by decide +kernel
theorem dX11_match_2 : decode cX11_match 2 = .ok (.if_icmp .eq 23, 3) := by decide +kernel
theorem dX11_match_5 : decode cX11_match 5 = .ok (.iload_n 1, 1) := by decide +kernel
theorem dX11_match_6 : decode cX11_match 6 = .ok (.bipush (-2), 2) := by decide +kernel
theorem dX11_match_8 : decode cX11_match 8 = .ok (.if_icmp .eq 17, 3) := by decide +kernel
theorem dX11_match_11 : decode cX11_match 11 = .ok (.aload_n 0, 1) := by decide +kernel
theorem dX11_match_12 : decode cX11_match 12 = .ok (.getfield 10, 3) := by decide +kernel
theorem dX11_match_15 : decode cX11_match 15 = .ok (.iload_n 1, 1) := by decide +kernel
theorem dX11_match_16 : decode cX11_match 16 = .ok (.invokevirtual 161, 3) := by decide +kernel
theorem dX11_match_19 : decode cX11_match 19 = .ok (.ifCond .ne 6, 3) := by decide +kernel
theorem dX11_match_22 : decode cX11_match 22 = .ok (.ldc 165, 2) := by decide +kernel
theorem dX11_match_24 : decode cX11_match 24 = .ok (.ireturn, 1) := by decide +kernel
theorem dX11_match_25 : decode cX11_match 25 = .ok (.aload_n 0, 1) := by decide +kernel
theorem dX11_match_26 : decode cX11_match 26 = .ok (.getfield 47, 3) := by decide +kernel
theorem dX11_match_29 : decode cX11_match 29 = .ok (.aload_n 0, 1) := by decide +kernel
theorem dX11_match_30 : decode cX11_match 30 = .ok (.getfield 10, 3) := by decide +kernel
theorem dX11_match_33 : decode cX11_match 33 = .ok (.invokevirtual 256, 3) := by decide +kernel
theorem dX11_match_36 : decode cX11_match 36 = .ok (.iload_n 1, 1) := by decide +kernel
theorem dX11_match_37 : decode cX11_match 37 = .ok (.iconst (-1), 1) := by decide +kernel
theorem dX11_match_38 : decode cX11_match 38 = .ok (.if_icmp .ne 11, 3) := by decide +kernel
theorem dX11_match_41 : decode cX11_match 41 = .ok (.aload_n 0, 1) := by decide +kernel
theorem dX11_match_42 : decode cX11_match 42 = .ok (.getfield 47, 3) := by decide +kernel
theorem dX11_match_45 : decode cX11_match 45 = .ok (.invokevirtual 259, 3) := by decide +kernel
theorem dX11_match_48 : decode cX11_match 48 = .ok (.ireturn, 1) := by decide +kernel
theorem dX11_match_49 : decode cX11_match 49 = .ok (.iload_n 1, 1) := by decide +kernel
theorem dX11_match_50 : decode cX11_match 50 = .ok (.bipush (-2), 2) := by decide +kernel
theorem dX11_match_52 : decode cX11_match 52 = .ok (.if_icmp .ne 13, 3) := by decide +kernel
theorem dX11_match_55 : decode cX11_match 55 = .ok (.aload_n 0, 1) := by decide +kernel
theorem dX11_match_56 : decode cX11_match 56 = .ok (.getfield 47, 3) := by decide +kernel
theorem dX11_match_59 : decode cX11_match 59 = .ok (.invokevirtual 262, 3) := by decide +kernel
theorem dX11_match_62 : decode cX11_match 62 = .ok (.goto 15, 3) := by decide +kernel
theorem dX11_match_65 : decode cX11_match 65 = .ok (.aload_n 0, 1) := by decide +kernel
theorem dX11_match_66 : decode cX11_match 66 = .ok (.getfield 47, 3) := by decide +kernel
theorem dX11_match_69 : decode cX11_match 69 = .ok (.aload_n 0, 1) := by decide +kernel
theorem dX11_match_70 : decode cX11_match 70 = .ok (.getfield 10, 3) := by decide +kernel
theorem dX11_match_73 : decode cX11_match 73 = .ok (.iload_n 1, 1) := by decide +kernel
theorem dX11_match_74 : decode cX11_match 74 = .ok (.invokevirtual 265, 3) := by decide +kernel
theorem dX11_match_77 : decode cX11_match 77 = .ok (.ireturn, 1) := by decide +kernel
theorem dX11_rounds_0 : decode cX11_rounds 0 = .ok (.aload_n 0, 1) := by decide +kernel
theorem dX11_rounds_1 : decode cX11_rounds 1 = .ok (.getfield 10, 3) := by decide +kernel
theorem dX11_rounds_4 : decode cX11_rounds 4 = .ok (.iload_n 1, 1) := by decide +kernel
theorem dX11_rounds_5 : decode cX11_rounds 5 = .ok (.invokevirtual 186, 3) := by decide +kernel
theorem dX11_rounds_8 : decode cX11_rounds 8 = .ok (.ifCond .eq 17, 3) := by decide +kernel
theorem dX11_rounds_11 : decode cX11_rounds 11 = .ok (.iload_n 2, 1) := by decide +kernel
theorem dX11_rounds_12 : decode cX11_rounds 12 = .ok (.aload_n 0, 1) := by decide +kernel
theorem dX11_rounds_13 : decode cX11_rounds 13 = .ok (.getfield 10, 3) := by decide +kernel
theorem dX11_rounds_16 : decode cX11_rounds 16 = .ok (.invokevirtual 116, 3) := by decide +kernel
theorem dX11_rounds_19 : decode cX11_rounds 19 = .ok (.invokestatic 268, 3) := by decide +kernel
theorem dX11_rounds_22 : decode cX11_rounds 22 = .ok (.ifCond .ne 6, 3) := by decide +kernel
theorem dX11_rounds_25 : decode cX11_rounds 25 = .ok (.ldc 165, 2) := by decide +kernel
theorem dX11_rounds_27 : decode cX11_rounds 27 = .ok (.ireturn, 1) := by decide +kernel
theorem dX11_rounds_28 : decode cX11_rounds 28 = .ok (.iload_n 3, 1) := by decide +kernel
theorem dX11_rounds_29 : decode cX11_rounds 29 = .ok (.iconst 0, 1) := by decide +kernel
theorem dX11_rounds_30 : decode cX11_rounds 30 = .ok (.iconst 1, 1) := by decide +kernel
theorem dX11_rounds_31 : decode cX11_rounds 31 = .ok (.invokestatic 79, 3) := by decide +kernel
theorem dX11_rounds_34 : decode cX11_rounds 34 = .ok (.ifCond .eq 6, 3) := by decide +kernel
theorem dX11_rounds_37 : decode cX11_rounds 37 = .ok (.ldc 83, 2) := by decide +kernel
theorem dX11_rounds_39 : decode cX11_rounds 39 = .ok (.ireturn, 1) := by decide +kernel
theorem dX11_rounds_40 : decode cX11_rounds 40 = .ok (.iload_n 2, 1) := by decide +kernel
theorem dX11_rounds_41 : decode cX11_rounds 41 = .ok (.aload_n 0, 1) := by decide +kernel
theorem dX11_rounds_42 : decode cX11_rounds 42 = .ok (.getfield 10, 3) := by decide +kernel
theorem dX11_rounds_45 : decode cX11_rounds 45 = .ok (.iconst 0, 1) := by decide +kernel
theorem dX11_rounds_46 : decode cX11_rounds 46 = .ok (.invokevirtual 135, 3) := by decide +kernel
theorem dX11_rounds_49 : decode cX11_rounds 49 = .ok (.iconst (-1), 1) := by decide +kernel
theorem dX11_rounds_50 : decode cX11_rounds 50 = .ok (.ixor, 1) := by decide +kernel
theorem dX11_rounds_51 : decode cX11_rounds 51 = .ok (.iand, 1) := by decide +kernel
theorem dX11_rounds_52 : decode cX11_rounds 52 = .ok (.ifCond .ne 11, 3) := by decide +kernel
theorem dX11_rounds_55 : decode cX11_rounds 55 = .ok (.iload_n 2, 1) := by decide +kernel
theorem dX11_rounds_56 : decode cX11_rounds 56 = .ok (.invokestatic 271, 3) := by decide +kernel
theorem dX11_rounds_59 : decode cX11_rounds 59 = .ok (.iconst 5, 1) := by decide +kernel
theorem dX11_rounds_60 : decode cX11_rounds 60 = .ok (.if_icmp .le 6, 3) := by decide +kernel
theorem dX11_rounds_63 : decode cX11_rounds 63 = .ok (.ldc 215, 2) := by decide +kernel
theorem dX11_rounds_65 : decode cX11_rounds 65 = .ok (.ireturn, 1) := by decide +kernel
theorem dX11_rounds_66 : decode cX11_rounds 66 = .ok (.aload_n 0, 1) := by decide +kernel
theorem dX11_rounds_67 : decode cX11_rounds 67 = .ok (.getfield 54, 3) := by decide +kernel
theorem dX11_rounds_70 : decode cX11_rounds 70 = .ok (.aload_n 0, 1) := by decide +kernel
theorem dX11_rounds_71 : decode cX11_rounds 71 = .ok (.getfield 10, 3) := by decide +kernel
theorem dX11_rounds_74 : decode cX11_rounds 74 = .ok (.iload_n 1, 1) := by decide +kernel
theorem dX11_rounds_75 : decode cX11_rounds 75 = .ok (.iload_n 2, 1) := by decide +kernel
theorem dX11_rounds_76 : decode cX11_rounds 76 = .ok (.invokevirtual 276, 3) := by decide +kernel
theorem dX11_rounds_79 : decode cX11_rounds 79 = .ok (.iload_n 3, 1) := by decide +kernel
theorem dX11_rounds_80 : decode cX11_rounds 80 = .ok (.ifCond .ne 14, 3) := by decide +kernel
theorem dX11_rounds_83 : decode cX11_rounds 83 = .ok (.aload_n 0, 1) := by decide +kernel
theorem dX11_rounds_84 : decode cX11_rounds 84 = .ok (.getfield 54, 3) := by decide +kernel
theorem dX11_rounds_87 : decode cX11_rounds 87 = .ok (.iload_n 2, 1) := by decide +kernel
theorem dX11_rounds_88 : decode cX11_rounds 88 = .ok (.invokevirtual 279, 3) := by decide +kernel
theorem dX11_rounds_91 : decode cX11_rounds 91 = .ok (.goto 16, 3) := by decide +kernel
theorem dX11_rounds_94 : decode cX11_rounds 94 = .ok (.aload_n 0, 1) := by decide +kernel
theorem dX11_rounds_95 : decode cX11_rounds 95 = .ok (.getfield 54, 3) := by decide +kernel
theorem dX11_rounds_98 : decode cX11_rounds 98 = .ok (.aload_n 0, 1) := by decide +kernel
theorem dX11_rounds_99 : decode cX11_rounds 99 = .ok (.getfield 10, 3) := by decide +kernel
theorem dX11_rounds_102 : decode cX11_rounds 102 = .ok (.iload_n 1, 1) := by decide +kernel
theorem dX11_rounds_103 : decode cX11_rounds 103 = .ok (.iload_n 2, 1) := by decide +kernel
theorem dX11_rounds_104 : decode cX11_rounds 104 = .ok (.invokevirtual 281, 3) := by decide +kernel
theorem dX11_rounds_107 : decode cX11_rounds 107 = .ok (.ireturn, 1) := by decide +kernel
theorem dX11_holds_0 : decode cX11_holds 0 = .ok (.aload_n 0, 1) := by decide +kernel
theorem dX11_holds_1 : decode cX11_holds 1 = .ok (.getfield 10, 3) := by decide +kernel
theorem dX11_holds_4 : decode cX11_holds 4 = .ok (.iload_n 1, 1) := by decide +kernel
theorem dX11_holds_5 : decode cX11_holds 5 = .ok (.invokevirtual 161, 3) := by decide +kernel
theorem dX11_holds_8 : decode cX11_holds 8 = .ok (.ifCond .eq 17, 3) := by decide +kernel
theorem dX11_holds_11 : decode cX11_holds 11 = .ok (.iload_n 2, 1) := by decide +kernel
theorem dX11_holds_12 : decode cX11_holds 12 = .ok (.aload_n 0, 1) := by decide +kernel
theorem dX11_holds_13 : decode cX11_holds 13 = .ok (.getfield 10, 3) := by decide +kernel
theorem dX11_holds_16 : decode cX11_holds 16 = .ok (.invokevirtual 126, 3) := by decide +kernel
theorem dX11_holds_19 : decode cX11_holds 19 = .ok (.invokestatic 268, 3) := by decide +kernel
theorem dX11_holds_22 : decode cX11_holds 22 = .ok (.ifCond .ne 6, 3) := by decide +kernel
theorem dX11_holds_25 : decode cX11_holds 25 = .ok (.ldc 165, 2) := by decide +kernel
theorem dX11_holds_27 : decode cX11_holds 27 = .ok (.ireturn, 1) := by decide +kernel
theorem dX11_holds_28 : decode cX11_holds 28 = .ok (.aload_n 0, 1) := by decide +kernel
theorem dX11_holds_29 : decode cX11_holds 29 = .ok (.getfield 10, 3) := by decide +kernel
theorem dX11_holds_32 : decode cX11_holds 32 = .ok (.iload_n 1, 1) := by decide +kernel
theorem dX11_holds_33 : decode cX11_holds 33 = .ok (.iload_n 2, 1) := by decide +kernel
theorem dX11_holds_34 : decode cX11_holds 34 = .ok (.invokestatic 284, 3) := by decide +kernel
theorem dX11_holds_37 : decode cX11_holds 37 = .ok (.ireturn, 1) := by decide +kernel
theorem dX11_dry_0 : decode cX11_dry 0 = .ok (.iload_n 1, 1) := by decide +kernel
theorem dX11_dry_1 : decode cX11_dry 1 = .ok (.iconst 0, 1) := by decide +kernel
theorem dX11_dry_2 : decode cX11_dry 2 = .ok (.bipush 60, 2) := by decide +kernel
theorem dX11_dry_4 : decode cX11_dry 4 = .ok (.invokestatic 79, 3) := by decide +kernel
theorem dX11_dry_7 : decode cX11_dry 7 = .ok (.ifCond .ne 13, 3) := by decide +kernel
theorem dX11_dry_10 : decode cX11_dry 10 = .ok (.iload_n 2, 1) := by decide +kernel
theorem dX11_dry_11 : decode cX11_dry 11 = .ok (.iconst 0, 1) := by decide +kernel
theorem dX11_dry_12 : decode cX11_dry 12 = .ok (.bipush 100, 2) := by decide +kernel
theorem dX11_dry_14 : decode cX11_dry 14 = .ok (.invokestatic 79, 3) := by decide +kernel
theorem dX11_dry_17 : decode cX11_dry 17 = .ok (.ifCond .eq 6, 3) := by decide +kernel
theorem dX11_dry_20 : decode cX11_dry 20 = .ok (.ldc 83, 2) := by decide +kernel
theorem dX11_dry_22 : decode cX11_dry 22 = .ok (.ireturn, 1) := by decide +kernel
theorem dX11_dry_23 : decode cX11_dry 23 = .ok (.iload_n 1, 1) := by decide +kernel
theorem dX11_dry_24 : decode cX11_dry 24 = .ok (.iload_n 2, 1) := by decide +kernel
theorem dX11_dry_25 : decode cX11_dry 25 = .ok (.invokestatic 287, 3) := by decide +kernel
theorem dX11_dry_28 : decode cX11_dry 28 = .ok (.ireturn, 1) := by decide +kernel
theorem dX11_say_0 : decode cX11_say 0 = .ok (.iload_n 1, 1) := by decide +kernel
theorem dX11_say_1 : decode cX11_say 1 = .ok (.iconst 0, 1) := by decide +kernel
theorem dX11_say_2 : decode cX11_say 2 = .ok (.iconst 2, 1) := by decide +kernel
theorem dX11_say_3 : decode cX11_say 3 = .ok (.invokestatic 79, 3) := by decide +kernel
theorem dX11_say_6 : decode cX11_say 6 = .ok (.ifCond .ne 23, 3) := by decide +kernel
theorem dX11_say_9 : decode cX11_say 9 = .ok (.iload_n 2, 1) := by decide +kernel
theorem dX11_say_10 : decode cX11_say 10 = .ok (.iconst 0, 1) := by decide +kernel
theorem dX11_say_11 : decode cX11_say 11 = .ok (.bipush 40, 2) := by decide +kernel
theorem dX11_say_13 : decode cX11_say 13 = .ok (.invokestatic 79, 3) := by decide +kernel
theorem dX11_say_16 : decode cX11_say 16 = .ok (.ifCond .ne 13, 3) := by decide +kernel
theorem dX11_say_19 : decode cX11_say 19 = .ok (.iload_n 3, 1) := by decide +kernel
theorem dX11_say_20 : decode cX11_say 20 = .ok (.iconst 0, 1) := by decide +kernel
theorem dX11_say_21 : decode cX11_say 21 = .ok (.bipush 99, 2) := by decide +kernel
theorem dX11_say_23 : decode cX11_say 23 = .ok (.invokestatic 79, 3) := by decide +kernel
theorem dX11_say_26 : decode cX11_say 26 = .ok (.ifCond .eq 6, 3) := by decide +kernel
theorem dX11_say_29 : decode cX11_say 29 = .ok (.ldc 83, 2) := by decide +kernel
theorem dX11_say_31 : decode cX11_say 31 = .ok (.ireturn, 1) := by decide +kernel
theorem dX11_say_32 : decode cX11_say 32 = .ok (.aload_n 0, 1) := by decide +kernel
theorem dX11_say_33 : decode cX11_say 33 = .ok (.getfield 68, 3) := by decide +kernel
theorem dX11_say_36 : decode cX11_say 36 = .ok (.invokevirtual 290, 3) := by decide +kernel
theorem dX11_say_39 : decode cX11_say 39 = .ok (.ifCond .eq 8, 3) := by decide +kernel
theorem dX11_say_42 : decode cX11_say 42 = .ok (.ldc 88, 2) := by decide +kernel
theorem dX11_say_44 : decode cX11_say 44 = .ok (.goto 13, 3) := by decide +kernel
theorem dX11_say_47 : decode cX11_say 47 = .ok (.aload_n 0, 1) := by decide +kernel
theorem dX11_say_48 : decode cX11_say 48 = .ok (.getfield 68, 3) := by decide +kernel
theorem dX11_say_51 : decode cX11_say 51 = .ok (.iload_n 1, 1) := by decide +kernel
theorem dX11_say_52 : decode cX11_say 52 = .ok (.iload_n 2, 1) := by decide +kernel
theorem dX11_say_53 : decode cX11_say 53 = .ok (.iload_n 3, 1) := by decide +kernel
theorem dX11_say_54 : decode cX11_say 54 = .ok (.invokevirtual 291, 3) := by decide +kernel
theorem dX11_say_57 : decode cX11_say 57 = .ok (.ireturn, 1) := by decide +kernel
theorem dX11_weights_0 : decode cX11_weights 0 = .ok (.iload_n 1, 1) := by decide +kernel
theorem dX11_weights_1 : decode cX11_weights 1 = .ok (.tableswitch 51 0 2 #[27, 35, 43], 27) := by decide +kernel
theorem dX11_weights_28 : decode cX11_weights 28 = .ok (.aload_n 0, 1) := by decide +kernel
theorem dX11_weights_29 : decode cX11_weights 29 = .ok (.getfield 68, 3) := by decide +kernel
theorem dX11_weights_32 : decode cX11_weights 32 = .ok (.invokevirtual 294, 3) := by decide +kernel
theorem dX11_weights_35 : decode cX11_weights 35 = .ok (.ireturn, 1) := by decide +kernel
theorem dX11_weights_36 : decode cX11_weights 36 = .ok (.aload_n 0, 1) := by decide +kernel
theorem dX11_weights_37 : decode cX11_weights 37 = .ok (.getfield 68, 3) := by decide +kernel
theorem dX11_weights_40 : decode cX11_weights 40 = .ok (.invokevirtual 297, 3) := by decide +kernel
theorem dX11_weights_43 : decode cX11_weights 43 = .ok (.ireturn, 1) := by decide +kernel
theorem dX11_weights_44 : decode cX11_weights 44 = .ok (.aload_n 0, 1) := by decide +kernel
theorem dX11_weights_45 : decode cX11_weights 45 = .ok (.getfield 68, 3) := by decide +kernel
theorem dX11_weights_48 : decode cX11_weights 48 = .ok (.invokevirtual 300, 3) := by decide +kernel
theorem dX11_weights_51 : decode cX11_weights 51 = .ok (.ireturn, 1) := by decide +kernel
theorem dX11_weights_52 : decode cX11_weights 52 = .ok (.ldc 83, 2) := by decide +kernel
theorem dX11_weights_54 : decode cX11_weights 54 = .ok (.ireturn, 1) := by decide +kernel
theorem dX11_ask_0 : decode cX11_ask 0 = .ok (.aload_n 0, 1) := by decide +kernel
theorem dX11_ask_1 : decode cX11_ask 1 = .ok (.getfield 68, 3) := by decide +kernel
theorem dX11_ask_4 : decode cX11_ask 4 = .ok (.invokevirtual 303, 3) := by decide +kernel
theorem dX11_ask_7 : decode cX11_ask 7 = .ok (.ireturn, 1) := by decide +kernel
theorem dX11_write_0 : decode cX11_write 0 = .ok (.aload_n 0, 1) := by decide +kernel
theorem dX11_write_1 : decode cX11_write 1 = .ok (.getfield 10, 3) := by decide +kernel
theorem dX11_write_4 : decode cX11_write 4 = .ok (.iload_n 1, 1) := by decide +kernel
theorem dX11_write_5 : decode cX11_write 5 = .ok (.invokevirtual 161, 3) := by decide +kernel
theorem dX11_write_8 : decode cX11_write 8 = .ok (.ifCond .ne 6, 3) := by decide +kernel
theorem dX11_write_11 : decode cX11_write 11 = .ok (.ldc 165, 2) := by decide +kernel
theorem dX11_write_13 : decode cX11_write 13 = .ok (.ireturn, 1) := by decide +kernel
theorem dX11_write_14 : decode cX11_write 14 = .ok (.iload_n 2, 1) := by decide +kernel
theorem dX11_write_15 : decode cX11_write 15 = .ok (.iconst 0, 1) := by decide +kernel
theorem dX11_write_16 : decode cX11_write 16 = .ok (.bipush 99, 2) := by decide +kernel
theorem dX11_write_18 : decode cX11_write 18 = .ok (.invokestatic 79, 3) := by decide +kernel
theorem dX11_write_21 : decode cX11_write 21 = .ok (.ifCond .eq 6, 3) := by decide +kernel
theorem dX11_write_24 : decode cX11_write 24 = .ok (.ldc 83, 2) := by decide +kernel
theorem dX11_write_26 : decode cX11_write 26 = .ok (.ireturn, 1) := by decide +kernel
theorem dX11_write_27 : decode cX11_write 27 = .ok (.aload_n 0, 1) := by decide +kernel
theorem dX11_write_28 : decode cX11_write 28 = .ok (.getfield 75, 3) := by decide +kernel
theorem dX11_write_31 : decode cX11_write 31 = .ok (.invokevirtual 306, 3) := by decide +kernel
theorem dX11_write_34 : decode cX11_write 34 = .ok (.ifCond .eq 8, 3) := by decide +kernel
theorem dX11_write_37 : decode cX11_write 37 = .ok (.ldc 88, 2) := by decide +kernel
theorem dX11_write_39 : decode cX11_write 39 = .ok (.goto 12, 3) := by decide +kernel
theorem dX11_write_42 : decode cX11_write 42 = .ok (.aload_n 0, 1) := by decide +kernel
theorem dX11_write_43 : decode cX11_write 43 = .ok (.getfield 75, 3) := by decide +kernel
theorem dX11_write_46 : decode cX11_write 46 = .ok (.iload_n 1, 1) := by decide +kernel
theorem dX11_write_47 : decode cX11_write 47 = .ok (.iload_n 2, 1) := by decide +kernel
theorem dX11_write_48 : decode cX11_write 48 = .ok (.invokevirtual 307, 3) := by decide +kernel
theorem dX11_write_51 : decode cX11_write 51 = .ok (.ireturn, 1) := by decide +kernel
theorem dX11_tear_0 : decode cX11_tear 0 = .ok (.aload_n 0, 1) := by decide +kernel
theorem dX11_tear_1 : decode cX11_tear 1 = .ok (.getfield 68, 3) := by decide +kernel
theorem dX11_tear_4 : decode cX11_tear 4 = .ok (.getfield 156, 3) := by decide +kernel
theorem dX11_tear_7 : decode cX11_tear 7 = .ok (.aload_n 0, 1) := by decide +kernel
theorem dX11_tear_8 : decode cX11_tear 8 = .ok (.getfield 75, 3) := by decide +kernel
theorem dX11_tear_11 : decode cX11_tear 11 = .ok (.getfield 159, 3) := by decide +kernel
theorem dX11_tear_14 : decode cX11_tear 14 = .ok (.iadd, 1) := by decide +kernel
theorem dX11_tear_15 : decode cX11_tear 15 = .ok (.istore_n 1, 1) := by decide +kernel
theorem dX11_tear_16 : decode cX11_tear 16 = .ok (.aload_n 0, 1) := by decide +kernel
theorem dX11_tear_17 : decode cX11_tear 17 = .ok (.getfield 68, 3) := by decide +kernel
theorem dX11_tear_20 : decode cX11_tear 20 = .ok (.invokevirtual 112, 3) := by decide +kernel
theorem dX11_tear_23 : decode cX11_tear 23 = .ok (.aload_n 0, 1) := by decide +kernel
theorem dX11_tear_24 : decode cX11_tear 24 = .ok (.getfield 75, 3) := by decide +kernel
theorem dX11_tear_27 : decode cX11_tear 27 = .ok (.invokevirtual 115, 3) := by decide +kernel
theorem dX11_tear_30 : decode cX11_tear 30 = .ok (.iload_n 1, 1) := by decide +kernel
theorem dX11_tear_31 : decode cX11_tear 31 = .ok (.ireturn, 1) := by decide +kernel
theorem dX11_judge_0 : decode cX11_judge 0 = .ok (.aload_n 0, 1) := by decide +kernel
theorem dX11_judge_1 : decode cX11_judge 1 = .ok (.getfield 75, 3) := by decide +kernel
theorem dX11_judge_4 : decode cX11_judge 4 = .ok (.aload_n 0, 1) := by decide +kernel
theorem dX11_judge_5 : decode cX11_judge 5 = .ok (.getfield 10, 3) := by decide +kernel
theorem dX11_judge_8 : decode cX11_judge 8 = .ok (.invokevirtual 309, 3) := by decide +kernel
theorem dX11_judge_11 : decode cX11_judge 11 = .ok (.ireturn, 1) := by decide +kernel
theorem dX11_seed_0 : decode cX11_seed 0 = .ok (.iload_n 1, 1) := by decide +kernel
theorem dX11_seed_1 : decode cX11_seed 1 = .ok (.ifCond .ge 6, 3) := by decide +kernel
theorem dX11_seed_4 : decode cX11_seed 4 = .ok (.ldc 83, 2) := by decide +kernel
theorem dX11_seed_6 : decode cX11_seed 6 = .ok (.ireturn, 1) := by decide +kernel
theorem dX11_seed_7 : decode cX11_seed 7 = .ok (.aload_n 0, 1) := by decide +kernel
theorem dX11_seed_8 : decode cX11_seed 8 = .ok (.getfield 40, 3) := by decide +kernel
theorem dX11_seed_11 : decode cX11_seed 11 = .ok (.getfield 312, 3) := by decide +kernel
theorem dX11_seed_14 : decode cX11_seed 14 = .ok (.istore_n 2, 1) := by decide +kernel
theorem dX11_seed_15 : decode cX11_seed 15 = .ok (.aload_n 0, 1) := by decide +kernel
theorem dX11_seed_16 : decode cX11_seed 16 = .ok (.getfield 40, 3) := by decide +kernel
theorem dX11_seed_19 : decode cX11_seed 19 = .ok (.iload_n 1, 1) := by decide +kernel
theorem dX11_seed_20 : decode cX11_seed 20 = .ok (.putfield 312, 3) := by decide +kernel
theorem dX11_seed_23 : decode cX11_seed 23 = .ok (.iload_n 2, 1) := by decide +kernel
theorem dX11_seed_24 : decode cX11_seed 24 = .ok (.ireturn, 1) := by decide +kernel
theorem dX11_keep_0 : decode cX11_keep 0 = .ok (.iload_n 1, 1) := by decide +kernel
theorem dX11_keep_1 : decode cX11_keep 1 = .ok (.iconst 0, 1) := by decide +kernel
theorem dX11_keep_2 : decode cX11_keep 2 = .ok (.iconst 1, 1) := by decide +kernel
theorem dX11_keep_3 : decode cX11_keep 3 = .ok (.invokestatic 79, 3) := by decide +kernel
theorem dX11_keep_6 : decode cX11_keep 6 = .ok (.ifCond .eq 6, 3) := by decide +kernel
theorem dX11_keep_9 : decode cX11_keep 9 = .ok (.ldc 165, 2) := by decide +kernel
theorem dX11_keep_11 : decode cX11_keep 11 = .ok (.ireturn, 1) := by decide +kernel
theorem dX11_keep_12 : decode cX11_keep 12 = .ok (.aload_n 0, 1) := by decide +kernel
theorem dX11_keep_13 : decode cX11_keep 13 = .ok (.getfield 33, 3) := by decide +kernel
theorem dX11_keep_16 : decode cX11_keep 16 = .ok (.iload_n 1, 1) := by decide +kernel
theorem dX11_keep_17 : decode cX11_keep 17 = .ok (.aload_n 0, 1) := by decide +kernel
theorem dX11_keep_18 : decode cX11_keep 18 = .ok (.getfield 10, 3) := by decide +kernel
theorem dX11_keep_21 : decode cX11_keep 21 = .ok (.aload_n 0, 1) := by decide +kernel
theorem dX11_keep_22 : decode cX11_keep 22 = .ok (.getfield 40, 3) := by decide +kernel
theorem dX11_keep_25 : decode cX11_keep 25 = .ok (.getfield 312, 3) := by decide +kernel
theorem dX11_keep_28 : decode cX11_keep 28 = .ok (.invokevirtual 315, 3) := by decide +kernel
theorem dX11_keep_31 : decode cX11_keep 31 = .ok (.aload_n 0, 1) := by decide +kernel
theorem dX11_keep_32 : decode cX11_keep 32 = .ok (.getfield 26, 3) := by decide +kernel
theorem dX11_keep_35 : decode cX11_keep 35 = .ok (.invokevirtual 108, 3) := by decide +kernel
theorem dX11_keep_38 : decode cX11_keep 38 = .ok (.iconst 1, 1) := by decide +kernel
theorem dX11_keep_39 : decode cX11_keep 39 = .ok (.ireturn, 1) := by decide +kernel
theorem dX11_goBack_0 : decode cX11_goBack 0 = .ok (.iload_n 1, 1) := by decide +kernel
theorem dX11_goBack_1 : decode cX11_goBack 1 = .ok (.iconst 0, 1) := by decide +kernel
theorem dX11_goBack_2 : decode cX11_goBack 2 = .ok (.iconst 1, 1) := by decide +kernel
theorem dX11_goBack_3 : decode cX11_goBack 3 = .ok (.invokestatic 79, 3) := by decide +kernel
theorem dX11_goBack_6 : decode cX11_goBack 6 = .ok (.ifCond .eq 6, 3) := by decide +kernel
theorem dX11_goBack_9 : decode cX11_goBack 9 = .ok (.ldc 165, 2) := by decide +kernel
theorem dX11_goBack_11 : decode cX11_goBack 11 = .ok (.ireturn, 1) := by decide +kernel
theorem dX11_goBack_12 : decode cX11_goBack 12 = .ok (.aload_n 0, 1) := by decide +kernel
theorem dX11_goBack_13 : decode cX11_goBack 13 = .ok (.getfield 33, 3) := by decide +kernel
theorem dX11_goBack_16 : decode cX11_goBack 16 = .ok (.iload_n 1, 1) := by decide +kernel
theorem dX11_goBack_17 : decode cX11_goBack 17 = .ok (.invokevirtual 319, 3) := by decide +kernel
theorem dX11_goBack_20 : decode cX11_goBack 20 = .ok (.ifCond .ne 6, 3) := by decide +kernel
theorem dX11_goBack_23 : decode cX11_goBack 23 = .ok (.ldc 215, 2) := by decide +kernel
theorem dX11_goBack_25 : decode cX11_goBack 25 = .ok (.ireturn, 1) := by decide +kernel
theorem dX11_goBack_26 : decode cX11_goBack 26 = .ok (.aload_n 0, 1) := by decide +kernel
theorem dX11_goBack_27 : decode cX11_goBack 27 = .ok (.getfield 40, 3) := by decide +kernel
theorem dX11_goBack_30 : decode cX11_goBack 30 = .ok (.aload_n 0, 1) := by decide +kernel
theorem dX11_goBack_31 : decode cX11_goBack 31 = .ok (.getfield 33, 3) := by decide +kernel
theorem dX11_goBack_34 : decode cX11_goBack 34 = .ok (.iload_n 1, 1) := by decide +kernel
theorem dX11_goBack_35 : decode cX11_goBack 35 = .ok (.aload_n 0, 1) := by decide +kernel
theorem dX11_goBack_36 : decode cX11_goBack 36 = .ok (.getfield 10, 3) := by decide +kernel
theorem dX11_goBack_39 : decode cX11_goBack 39 = .ok (.invokevirtual 322, 3) := by decide +kernel
theorem dX11_goBack_42 : decode cX11_goBack 42 = .ok (.putfield 312, 3) := by decide +kernel
theorem dX11_goBack_45 : decode cX11_goBack 45 = .ok (.aload_n 0, 1) := by decide +kernel
theorem dX11_goBack_46 : decode cX11_goBack 46 = .ok (.getfield 26, 3) := by decide +kernel
theorem dX11_goBack_49 : decode cX11_goBack 49 = .ok (.invokevirtual 108, 3) := by decide +kernel
theorem dX11_goBack_52 : decode cX11_goBack 52 = .ok (.iconst 1, 1) := by decide +kernel
theorem dX11_goBack_53 : decode cX11_goBack 53 = .ok (.ireturn, 1) := by decide +kernel
theorem dX11_refusalOfYears_0 : decode cX11_refusalOfYears 0 = .ok (.iload_n 1, 1) := by decide +kernel
theorem dX11_refusalOfYears_1 : decode cX11_refusalOfYears 1 = .ok (.iconst 1, 1) := by decide +kernel
theorem dX11_refusalOfYears_2 : decode cX11_refusalOfYears 2 = .ok (.bipush 60, 2) := by decide +kernel
theorem dX11_refusalOfYears_4 : decode cX11_refusalOfYears 4 = .ok (.invokestatic 79, 3) := by decide +kernel
theorem dX11_refusalOfYears_7 : decode cX11_refusalOfYears 7 = .ok (.ifCond .eq 6, 3) := by decide +kernel
theorem dX11_refusalOfYears_10 : decode cX11_refusalOfYears 10 = .ok (.ldc 83, 2) := by decide +kernel
theorem dX11_refusalOfYears_12 : decode cX11_refusalOfYears 12 = .ok (.ireturn, 1) := by decide +kernel
theorem dX11_refusalOfYears_13 : decode cX11_refusalOfYears 13 = .ok (.aload_n 0, 1) := by decide +kernel
theorem dX11_refusalOfYears_14 : decode cX11_refusalOfYears 14 = .ok (.getfield 10, 3) := by decide +kernel
theorem dX11_refusalOfYears_17 : decode cX11_refusalOfYears 17 = .ok (.invokevirtual 123, 3) := by decide +kernel
theorem dX11_refusalOfYears_20 : decode cX11_refusalOfYears 20 = .ok (.ifCond .ne 6, 3) := by decide +kernel
theorem dX11_refusalOfYears_23 : decode cX11_refusalOfYears 23 = .ok (.ldc 215, 2) := by decide +kernel
theorem dX11_refusalOfYears_25 : decode cX11_refusalOfYears 25 = .ok (.ireturn, 1) := by decide +kernel
theorem dX11_refusalOfYears_26 : decode cX11_refusalOfYears 26 = .ok (.aload_n 0, 1) := by decide +kernel
theorem dX11_refusalOfYears_27 : decode cX11_refusalOfYears 27 = .ok (.getfield 10, 3) := by decide +kernel
theorem dX11_refusalOfYears_30 : decode cX11_refusalOfYears 30 = .ok (.invokevirtual 132, 3) := by decide +kernel
theorem dX11_refusalOfYears_33 : decode cX11_refusalOfYears 33 = .ok (.sipush 9000, 3) := by decide +kernel
theorem dX11_refusalOfYears_36 : decode cX11_refusalOfYears 36 = .ok (.if_icmp .le 8, 3) := by decide +kernel
theorem dX11_refusalOfYears_39 : decode cX11_refusalOfYears 39 = .ok (.ldc 88, 2) := by decide +kernel
theorem dX11_refusalOfYears_41 : decode cX11_refusalOfYears 41 = .ok (.goto 4, 3) := by decide +kernel
theorem dX11_refusalOfYears_44 : decode cX11_refusalOfYears 44 = .ok (.iconst 0, 1) := by decide +kernel
theorem dX11_refusalOfYears_45 : decode cX11_refusalOfYears 45 = .ok (.ireturn, 1) := by decide +kernel
theorem dX11_isOutside_0 : decode cX11_isOutside 0 = .ok (.iload_n 0, 1) := by decide +kernel
theorem dX11_isOutside_1 : decode cX11_isOutside 1 = .ok (.iload_n 1, 1) := by decide +kernel
theorem dX11_isOutside_2 : decode cX11_isOutside 2 = .ok (.if_icmp .lt 8, 3) := by decide +kernel
theorem dX11_isOutside_5 : decode cX11_isOutside 5 = .ok (.iload_n 0, 1) := by decide +kernel
theorem dX11_isOutside_6 : decode cX11_isOutside 6 = .ok (.iload_n 2, 1) := by decide +kernel
theorem dX11_isOutside_7 : decode cX11_isOutside 7 = .ok (.if_icmp .le 7, 3) := by decide +kernel
theorem dX11_isOutside_10 : decode cX11_isOutside 10 = .ok (.iconst 1, 1) := by decide +kernel
theorem dX11_isOutside_11 : decode cX11_isOutside 11 = .ok (.goto 4, 3) := by decide +kernel
theorem dX11_isOutside_14 : decode cX11_isOutside 14 = .ok (.iconst 0, 1) := by decide +kernel
theorem dX11_isOutside_15 : decode cX11_isOutside 15 = .ok (.ireturn, 1) := by decide +kernel
theorem dX11_isSetOf_0 : decode cX11_isSetOf 0 = .ok (.iload_n 0, 1) := by decide +kernel
theorem dX11_isSetOf_1 : decode cX11_isSetOf 1 = .ok (.ifCond .lt 14, 3) := by decide +kernel
theorem dX11_isSetOf_4 : decode cX11_isSetOf 4 = .ok (.iload_n 0, 1) := by decide +kernel
theorem dX11_isSetOf_5 : decode cX11_isSetOf 5 = .ok (.iconst 1, 1) := by decide +kernel
theorem dX11_isSetOf_6 : decode cX11_isSetOf 6 = .ok (.iload_n 1, 1) := by decide +kernel
theorem dX11_isSetOf_7 : decode cX11_isSetOf 7 = .ok (.ishl, 1) := by decide +kernel
theorem dX11_isSetOf_8 : decode cX11_isSetOf 8 = .ok (.if_icmp .ge 7, 3) := by decide +kernel
theorem dX11_isSetOf_11 : decode cX11_isSetOf 11 = .ok (.iconst 1, 1) := by decide +kernel
theorem dX11_isSetOf_12 : decode cX11_isSetOf 12 = .ok (.goto 4, 3) := by decide +kernel
theorem dX11_isSetOf_15 : decode cX11_isSetOf 15 = .ok (.iconst 0, 1) := by decide +kernel
theorem dX11_isSetOf_16 : decode cX11_isSetOf 16 = .ok (.ireturn, 1) := by decide +kernel
theorem dX11_strengthBy_0 : decode cX11_strengthBy 0 = .ok (.iload_n 0, 1) := by decide +kernel
theorem dX11_strengthBy_1 : decode cX11_strengthBy 1 = .ok (.tableswitch 45 0 2 #[27, 31, 39], 27) := by decide +kernel
theorem dX11_strengthBy_28 : decode cX11_strengthBy 28 = .ok (.iload_n 2, 1) := by decide +kernel
theorem dX11_strengthBy_29 : decode cX11_strengthBy 29 = .ok (.iload_n 1, 1) := by decide +kernel
theorem dX11_strengthBy_30 : decode cX11_strengthBy 30 = .ok (.iadd, 1) := by decide +kernel
theorem dX11_strengthBy_31 : decode cX11_strengthBy 31 = .ok (.ireturn, 1) := by decide +kernel
theorem dX11_strengthBy_32 : decode cX11_strengthBy 32 = .ok (.iconst 2, 1) := by decide +kernel
theorem dX11_strengthBy_33 : decode cX11_strengthBy 33 = .ok (.iload_n 2, 1) := by decide +kernel
theorem dX11_strengthBy_34 : decode cX11_strengthBy 34 = .ok (.imul, 1) := by decide +kernel
theorem dX11_strengthBy_35 : decode cX11_strengthBy 35 = .ok (.iload_n 1, 1) := by decide +kernel
theorem dX11_strengthBy_36 : decode cX11_strengthBy 36 = .ok (.iconst 2, 1) := by decide +kernel
theorem dX11_strengthBy_37 : decode cX11_strengthBy 37 = .ok (.idiv, 1) := by decide +kernel
theorem dX11_strengthBy_38 : decode cX11_strengthBy 38 = .ok (.iadd, 1) := by decide +kernel
theorem dX11_strengthBy_39 : decode cX11_strengthBy 39 = .ok (.ireturn, 1) := by decide +kernel
theorem dX11_strengthBy_40 : decode cX11_strengthBy 40 = .ok (.iload_n 2, 1) := by decide +kernel
theorem dX11_strengthBy_41 : decode cX11_strengthBy 41 = .ok (.iload_n 1, 1) := by decide +kernel
theorem dX11_strengthBy_42 : decode cX11_strengthBy 42 = .ok (.imul, 1) := by decide +kernel
theorem dX11_strengthBy_43 : decode cX11_strengthBy 43 = .ok (.iconst 4, 1) := by decide +kernel
theorem dX11_strengthBy_44 : decode cX11_strengthBy 44 = .ok (.idiv, 1) := by decide +kernel
theorem dX11_strengthBy_45 : decode cX11_strengthBy 45 = .ok (.ireturn, 1) := by decide +kernel
theorem dX11_strengthBy_46 : decode cX11_strengthBy 46 = .ok (.iload_n 1, 1) := by decide +kernel
theorem dX11_strengthBy_47 : decode cX11_strengthBy 47 = .ok (.ireturn, 1) := by decide +kernel
theorem dX12_init_0 : decode cX12_init 0 = .ok (.aload_n 0, 1) := by decide +kernel
theorem dX12_init_1 : decode cX12_init 1 = .ok (.invokespecial 1, 3) := by decide +kernel
theorem dX12_init_4 : decode cX12_init 4 = .ok (.aload_n 0, 1) := by decide +kernel
theorem dX12_init_5 : decode cX12_init 5 = .ok (.bipush 57, 2) := by decide +kernel
theorem dX12_init_7 : decode cX12_init 7 = .ok (.newarray .int, 2) := by decide +kernel
theorem dX12_init_9 : decode cX12_init 9 = .ok (.putfield 7, 3) := by decide +kernel
theorem dX12_init_12 : decode cX12_init 12 = .ok (.aload_n 0, 1) := by decide +kernel
theorem dX12_init_13 : decode cX12_init 13 = .ok (.bipush 57, 2) := by decide +kernel
theorem dX12_init_15 : decode cX12_init 15 = .ok (.newarray .int, 2) := by decide +kernel
theorem dX12_init_17 : decode cX12_init 17 = .ok (.putfield 13, 3) := by decide +kernel
theorem dX12_init_20 : decode cX12_init 20 = .ok (.aload_n 0, 1) := by decide +kernel
theorem dX12_init_21 : decode cX12_init 21 = .ok (.sipush 163, 3) := by decide +kernel
theorem dX12_init_24 : decode cX12_init 24 = .ok (.newarray .int, 2) := by decide +kernel
theorem dX12_init_26 : decode cX12_init 26 = .ok (.putfield 16, 3) := by decide +kernel
theorem dX12_init_29 : decode cX12_init 29 = .ok (.aload_n 0, 1) := by decide +kernel
theorem dX12_init_30 : decode cX12_init 30 = .ok (.sipush 163, 3) := by decide +kernel
theorem dX12_init_33 : decode cX12_init 33 = .ok (.newarray .int, 2) := by decide +kernel
theorem dX12_init_35 : decode cX12_init 35 = .ok (.putfield 19, 3) := by decide +kernel
theorem dX12_init_38 : decode cX12_init 38 = .ok (.aload_n 0, 1) := by decide +kernel
theorem dX12_init_39 : decode cX12_init 39 = .ok (.sipush 2608, 3) := by decide +kernel
theorem dX12_init_42 : decode cX12_init 42 = .ok (.newarray .int, 2) := by decide +kernel
theorem dX12_init_44 : decode cX12_init 44 = .ok (.putfield 22, 3) := by decide +kernel
theorem dX12_init_47 : decode cX12_init 47 = .ok (.aload_n 0, 1) := by decide +kernel
theorem dX12_init_48 : decode cX12_init 48 = .ok (.sipush 328, 3) := by decide +kernel
theorem dX12_init_51 : decode cX12_init 51 = .ok (.newarray .int, 2) := by decide +kernel
theorem dX12_init_53 : decode cX12_init 53 = .ok (.putfield 25, 3) := by decide +kernel
theorem dX12_init_56 : decode cX12_init 56 = .ok (.aload_n 0, 1) := by decide +kernel
theorem dX12_init_57 : decode cX12_init 57 = .ok (.iconst 2, 1) := by decide +kernel
theorem dX12_init_58 : decode cX12_init 58 = .ok (.newarray .boolean, 2) := by decide +kernel
theorem dX12_init_60 : decode cX12_init 60 = .ok (.putfield 28, 3) := by decide +kernel
theorem dX12_init_63 : decode cX12_init 63 = .ok (.aload_n 0, 1) := by decide +kernel
theorem dX12_init_64 : decode cX12_init 64 = .ok (.sipush 240, 3) := by decide +kernel
theorem dX12_init_67 : decode cX12_init 67 = .ok (.newarray .int, 2) := by decide +kernel
theorem dX12_init_69 : decode cX12_init 69 = .ok (.putfield 32, 3) := by decide +kernel
theorem dX12_init_72 : decode cX12_init 72 = .ok (.aload_n 0, 1) := by decide +kernel
theorem dX12_init_73 : decode cX12_init 73 = .ok (.iconst (-1), 1) := by decide +kernel
theorem dX12_init_74 : decode cX12_init 74 = .ok (.putfield 35, 3) := by decide +kernel
theorem dX12_init_77 : decode cX12_init 77 = .ok (.aload_n 0, 1) := by decide +kernel
theorem dX12_init_78 : decode cX12_init 78 = .ok (.bipush 18, 2) := by decide +kernel
theorem dX12_init_80 : decode cX12_init 80 = .ok (.newarray .int, 2) := by decide +kernel
theorem dX12_init_82 : decode cX12_init 82 = .ok (.putfield 39, 3) := by decide +kernel
theorem dX12_init_85 : decode cX12_init 85 = .ok (.aload_n 0, 1) := by decide +kernel
theorem dX12_init_86 : decode cX12_init 86 = .ok (.bipush 30, 2) := by decide +kernel
theorem dX12_init_88 : decode cX12_init 88 = .ok (.newarray .int, 2) := by decide +kernel
theorem dX12_init_90 : decode cX12_init 90 = .ok (.putfield 42, 3) := by decide +kernel
theorem dX12_init_93 : decode cX12_init 93 = .ok (.aload_n 0, 1) := by decide +kernel
theorem dX12_init_94 : decode cX12_init 94 = .ok (.sipush 448, 3) := by decide +kernel
theorem dX12_init_97 : decode cX12_init 97 = .ok (.newarray .int, 2) := by decide +kernel
theorem dX12_init_99 : decode cX12_init 99 = .ok (.putfield 45, 3) := by decide +kernel
theorem dX12_init_102 : decode cX12_init 102 = .ok (.aload_n 0, 1) := by decide +kernel
theorem dX12_init_103 : decode cX12_init 103 = .ok (.bipush 6, 2) := by decide +kernel
theorem dX12_init_105 : decode cX12_init 105 = .ok (.newarray .int, 2) := by decide +kernel
theorem dX12_init_107 : decode cX12_init 107 = .ok (.putfield 48, 3) := by decide +kernel
theorem dX12_init_110 : decode cX12_init 110 = .ok (.aload_n 0, 1) := by decide +kernel
theorem dX12_init_111 : decode cX12_init 111 = .ok (.invokevirtual 51, 3) := by decide +kernel
theorem dX12_init_114 : decode cX12_init 114 = .ok (.return_, 1) := by decide +kernel
theorem dX12_in_0 : decode cX12_in 0 = .ok (.lload_n 0, 1) := by decide +kernel
theorem dX12_in_1 : decode cX12_in 1 = .ok (.lload_n 2, 1) := by decide +kernel
theorem dX12_in_2 : decode cX12_in 2 = .ok (.lcmp, 1) := by decide +kernel
theorem dX12_in_3 : decode cX12_in 3 = .ok (.ifCond .lt 14, 3) := by decide +kernel
theorem dX12_in_6 : decode cX12_in 6 = .ok (.lload_n 0, 1) := by decide +kernel
theorem dX12_in_7 : decode cX12_in 7 = .ok (.lload 4, 2) := by decide +kernel
theorem dX12_in_9 : decode cX12_in 9 = .ok (.lcmp, 1) := by decide +kernel
theorem dX12_in_10 : decode cX12_in 10 = .ok (.ifCond .gt 7, 3) := by decide +kernel
theorem dX12_in_13 : decode cX12_in 13 = .ok (.iconst 1, 1) := by decide +kernel
theorem dX12_in_14 : decode cX12_in 14 = .ok (.goto 4, 3) := by decide +kernel
theorem dX12_in_17 : decode cX12_in 17 = .ok (.iconst 0, 1) := by decide +kernel
theorem dX12_in_18 : decode cX12_in 18 = .ok (.ireturn, 1) := by decide +kernel
theorem dX12_has_0 : decode cX12_has 0 = .ok (.iload_n 0, 1) := by decide +kernel
theorem dX12_has_1 : decode cX12_has 1 = .ok (.iload_n 1, 1) := by decide +kernel
theorem dX12_has_2 : decode cX12_has 2 = .ok (.ishr, 1) := by decide +kernel
theorem dX12_has_3 : decode cX12_has 3 = .ok (.iconst 1, 1) := by decide +kernel
theorem dX12_has_4 : decode cX12_has 4 = .ok (.iand, 1) := by decide +kernel
theorem dX12_has_5 : decode cX12_has 5 = .ok (.iconst 1, 1) := by decide +kernel
theorem dX12_has_6 : decode cX12_has 6 = .ok (.if_icmp .ne 7, 3) := by decide +kernel
theorem dX12_has_9 : decode cX12_has 9 = .ok (.iconst 1, 1) := by decide +kernel
theorem dX12_has_10 : decode cX12_has 10 = .ok (.goto 4, 3) := by decide +kernel
theorem dX12_has_13 : decode cX12_has 13 = .ok (.iconst 0, 1) := by decide +kernel
theorem dX12_has_14 : decode cX12_has 14 = .ok (.ireturn, 1) := by decide +kernel
theorem dX12_bits_0 : decode cX12_bits 0 = .ok (.iconst 0, 1) := by decide +kernel
theorem dX12_bits_1 : decode cX12_bits 1 = .ok (.istore_n 1, 1) := by decide +kernel
theorem dX12_bits_2 : decode cX12_bits 2 = .ok (.iload_n 0, 1) := by decide +kernel
theorem dX12_bits_3 : decode cX12_bits 3 = .ok (.istore_n 2, 1) := by decide +kernel
theorem dX12_bits_4 : decode cX12_bits 4 = .ok (.iload_n 2, 1) := by decide +kernel
theorem dX12_bits_5 : decode cX12_bits 5 = .ok (.ifCond .eq 15, 3) := by decide +kernel
theorem dX12_bits_8 : decode cX12_bits 8 = .ok (.iinc 1 1, 3) := by decide +kernel
theorem dX12_bits_11 : decode cX12_bits 11 = .ok (.iload_n 2, 1) := by decide +kernel
theorem dX12_bits_12 : decode cX12_bits 12 = .ok (.iload_n 2, 1) := by decide +kernel
theorem dX12_bits_13 : decode cX12_bits 13 = .ok (.iconst 1, 1) := by decide +kernel
theorem dX12_bits_14 : decode cX12_bits 14 = .ok (.isub, 1) := by decide +kernel
theorem dX12_bits_15 : decode cX12_bits 15 = .ok (.iand, 1) := by decide +kernel
theorem dX12_bits_16 : decode cX12_bits 16 = .ok (.istore_n 2, 1) := by decide +kernel
theorem dX12_bits_17 : decode cX12_bits 17 = .ok (.goto (-13), 3) := by decide +kernel
theorem dX12_bits_20 : decode cX12_bits 20 = .ok (.iload_n 1, 1) := by decide +kernel
theorem dX12_bits_21 : decode cX12_bits 21 = .ok (.ireturn, 1) := by decide +kernel
theorem dX12_lesser_0 : decode cX12_lesser 0 = .ok (.iload_n 0, 1) := by decide +kernel
theorem dX12_lesser_1 : decode cX12_lesser 1 = .ok (.iload_n 1, 1) := by decide +kernel
theorem dX12_lesser_2 : decode cX12_lesser 2 = .ok (.if_icmp .ge 7, 3) := by decide +kernel
theorem dX12_lesser_5 : decode cX12_lesser 5 = .ok (.iload_n 0, 1) := by decide +kernel
theorem dX12_lesser_6 : decode cX12_lesser 6 = .ok (.goto 4, 3) := by decide +kernel
theorem dX12_lesser_9 : decode cX12_lesser 9 = .ok (.iload_n 1, 1) := by decide +kernel
theorem dX12_lesser_10 : decode cX12_lesser 10 = .ok (.ireturn, 1) := by decide +kernel
theorem dX12_greater_0 : decode cX12_greater 0 = .ok (.iload_n 0, 1) := by decide +kernel
theorem dX12_greater_1 : decode cX12_greater 1 = .ok (.iload_n 1, 1) := by decide +kernel
theorem dX12_greater_2 : decode cX12_greater 2 = .ok (.if_icmp .le 7, 3) := by decide +kernel
theorem dX12_greater_5 : decode cX12_greater 5 = .ok (.iload_n 0, 1) := by decide +kernel
theorem dX12_greater_6 : decode cX12_greater 6 = .ok (.goto 4, 3) := by decide +kernel
theorem dX12_greater_9 : decode cX12_greater 9 = .ok (.iload_n 1, 1) := by decide +kernel
theorem dX12_greater_10 : decode cX12_greater 10 = .ok (.ireturn, 1) := by decide +kernel
theorem dX12_copies_0 : decode cX12_copies 0 = .ok (.iconst 0, 1) := by decide +kernel
theorem dX12_copies_1 : decode cX12_copies 1 = .ok (.istore 5, 2) := by decide +kernel
theorem dX12_copies_3 : decode cX12_copies 3 = .ok (.iload 5, 2) := by decide +kernel
theorem dX12_copies_5 : decode cX12_copies 5 = .ok (.iload 4, 2) := by decide +kernel
theorem dX12_copies_7 : decode cX12_copies 7 = .ok (.if_icmp .ge 21, 3) := by decide +kernel
theorem dX12_copies_10 : decode cX12_copies 10 = .ok (.aload_n 2, 1) := by decide +kernel
theorem dX12_copies_11 : decode cX12_copies 11 = .ok (.iload_n 3, 1) := by decide +kernel
theorem dX12_copies_12 : decode cX12_copies 12 = .ok (.iload 5, 2) := by decide +kernel
theorem dX12_copies_14 : decode cX12_copies 14 = .ok (.iadd, 1) := by decide +kernel
theorem dX12_copies_15 : decode cX12_copies 15 = .ok (.aload_n 0, 1) := by decide +kernel
theorem dX12_copies_16 : decode cX12_copies 16 = .ok (.iload_n 1, 1) := by decide +kernel
theorem dX12_copies_17 : decode cX12_copies 17 = .ok (.iload 5, 2) := by decide +kernel
theorem dX12_copies_19 : decode cX12_copies 19 = .ok (.iadd, 1) := by decide +kernel
theorem dX12_copies_20 : decode cX12_copies 20 = .ok (.iaload, 1) := by decide +kernel
theorem dX12_copies_21 : decode cX12_copies 21 = .ok (.iastore, 1) := by decide +kernel
theorem dX12_copies_22 : decode cX12_copies 22 = .ok (.iinc 5 1, 3) := by decide +kernel
theorem dX12_copies_25 : decode cX12_copies 25 = .ok (.goto (-22), 3) := by decide +kernel
theorem dX12_copies_28 : decode cX12_copies 28 = .ok (.return_, 1) := by decide +kernel
theorem dX12_begins_0 : decode cX12_begins 0 = .ok (.iconst 0, 1) := by decide +kernel
theorem dX12_begins_1 : decode cX12_begins 1 = .ok (.istore_n 1, 1) := by decide +kernel
theorem dX12_begins_2 : decode cX12_begins 2 = .ok (.iload_n 1, 1) := by decide +kernel
theorem dX12_begins_3 : decode cX12_begins 3 = .ok (.sipush 163, 3) := by decide +kernel
theorem dX12_begins_6 : decode cX12_begins 6 = .ok (.if_icmp .ge 34, 3) := by decide +kernel
theorem dX12_begins_9 : decode cX12_begins 9 = .ok (.aload_n 0, 1) := by decide +kernel
theorem dX12_begins_10 : decode cX12_begins 10 = .ok (.getfield 16, 3) := by decide +kernel
theorem dX12_begins_13 : decode cX12_begins 13 = .ok (.iload_n 1, 1) := by decide +kernel
theorem dX12_begins_14 : decode cX12_begins 14 = .ok (.iload_n 1, 1) := by decide +kernel
theorem dX12_begins_15 : decode cX12_begins 15 = .ok (.i2l, 1) := by decide +kernel
theorem dX12_begins_16 : decode cX12_begins 16 = .ok (.ldc2_w 54, 3) := by decide +kernel
theorem dX12_begins_19 : decode cX12_begins 19 = .ok (.ldc2_w 56, 3) := by decide +kernel
theorem dX12_begins_22 : decode cX12_begins 22 = .ok (.invokestatic 58, 3) := by decide +kernel
theorem dX12_begins_25 : decode cX12_begins 25 = .ok (.ifCond .eq 7, 3) := by decide +kernel
theorem dX12_begins_28 : decode cX12_begins 28 = .ok (.iconst (-1), 1) := by decide +kernel
theorem dX12_begins_29 : decode cX12_begins 29 = .ok (.goto 4, 3) := by decide +kernel
theorem dX12_begins_32 : decode cX12_begins 32 = .ok (.iconst 0, 1) := by decide +kernel
theorem dX12_begins_33 : decode cX12_begins 33 = .ok (.iastore, 1) := by decide +kernel
theorem dX12_begins_34 : decode cX12_begins 34 = .ok (.iinc 1 1, 3) := by decide +kernel
theorem dX12_begins_37 : decode cX12_begins 37 = .ok (.goto (-35), 3) := by decide +kernel
theorem dX12_begins_40 : decode cX12_begins 40 = .ok (.aload_n 0, 1) := by decide +kernel
theorem dX12_begins_41 : decode cX12_begins 41 = .ok (.getfield 7, 3) := by decide +kernel
theorem dX12_begins_44 : decode cX12_begins 44 = .ok (.iconst 3, 1) := by decide +kernel
theorem dX12_begins_45 : decode cX12_begins 45 = .ok (.aload_n 0, 1) := by decide +kernel
theorem dX12_begins_46 : decode cX12_begins 46 = .ok (.getfield 16, 3) := by decide +kernel
theorem dX12_begins_49 : decode cX12_begins 49 = .ok (.iconst 1, 1) := by decide +kernel
theorem dX12_begins_50 : decode cX12_begins 50 = .ok (.bipush 6, 2) := by decide +kernel
theorem dX12_begins_52 : decode cX12_begins 52 = .ok (.invokestatic 62, 3) := by decide +kernel
theorem dX12_begins_55 : decode cX12_begins 55 = .ok (.aload_n 0, 1) := by decide +kernel
theorem dX12_begins_56 : decode cX12_begins 56 = .ok (.getfield 7, 3) := by decide +kernel
theorem dX12_begins_59 : decode cX12_begins 59 = .ok (.bipush 9, 2) := by decide +kernel
theorem dX12_begins_61 : decode cX12_begins 61 = .ok (.aload_n 0, 1) := by decide +kernel
theorem dX12_begins_62 : decode cX12_begins 62 = .ok (.getfield 16, 3) := by decide +kernel
theorem dX12_begins_65 : decode cX12_begins 65 = .ok (.bipush 19, 2) := by decide +kernel
theorem dX12_begins_67 : decode cX12_begins 67 = .ok (.bipush 30, 2) := by decide +kernel
theorem dX12_begins_69 : decode cX12_begins 69 = .ok (.invokestatic 62, 3) := by decide +kernel
theorem dX12_begins_72 : decode cX12_begins 72 = .ok (.aload_n 0, 1) := by decide +kernel
theorem dX12_begins_73 : decode cX12_begins 73 = .ok (.getfield 7, 3) := by decide +kernel
theorem dX12_begins_76 : decode cX12_begins 76 = .ok (.bipush 45, 2) := by decide +kernel
theorem dX12_begins_78 : decode cX12_begins 78 = .ok (.aload_n 0, 1) := by decide +kernel
theorem dX12_begins_79 : decode cX12_begins 79 = .ok (.getfield 16, 3) := by decide +kernel
theorem dX12_begins_82 : decode cX12_begins 82 = .ok (.bipush 49, 2) := by decide +kernel
theorem dX12_begins_84 : decode cX12_begins 84 = .ok (.bipush 6, 2) := by decide +kernel
theorem dX12_begins_86 : decode cX12_begins 86 = .ok (.invokestatic 62, 3) := by decide +kernel
theorem dX12_begins_89 : decode cX12_begins 89 = .ok (.aload_n 0, 1) := by decide +kernel
theorem dX12_begins_90 : decode cX12_begins 90 = .ok (.getfield 7, 3) := by decide +kernel
theorem dX12_begins_93 : decode cX12_begins 93 = .ok (.bipush 51, 2) := by decide +kernel
theorem dX12_begins_95 : decode cX12_begins 95 = .ok (.aload_n 0, 1) := by decide +kernel
theorem dX12_begins_96 : decode cX12_begins 96 = .ok (.getfield 16, 3) := by decide +kernel
theorem dX12_begins_99 : decode cX12_begins 99 = .ok (.bipush 55, 2) := by decide +kernel
theorem dX12_begins_101 : decode cX12_begins 101 = .ok (.bipush 6, 2) := by decide +kernel
theorem dX12_begins_103 : decode cX12_begins 103 = .ok (.invokestatic 62, 3) := by decide +kernel
theorem dX12_begins_106 : decode cX12_begins 106 = .ok (.aload_n 0, 1) := by decide +kernel
theorem dX12_begins_107 : decode cX12_begins 107 = .ok (.iconst 0, 1) := by decide +kernel
theorem dX12_begins_108 : decode cX12_begins 108 = .ok (.putfield 66, 3) := by decide +kernel
theorem dX12_begins_111 : decode cX12_begins 111 = .ok (.aload_n 0, 1) := by decide +kernel
theorem dX12_begins_112 : decode cX12_begins 112 = .ok (.iconst 0, 1) := by decide +kernel
theorem dX12_begins_113 : decode cX12_begins 113 = .ok (.putfield 69, 3) := by decide +kernel
theorem dX12_begins_116 : decode cX12_begins 116 = .ok (.aload_n 0, 1) := by decide +kernel
theorem dX12_begins_117 : decode cX12_begins 117 = .ok (.iconst 0, 1) := by decide +kernel
theorem dX12_begins_118 : decode cX12_begins 118 = .ok (.putfield 72, 3) := by decide +kernel
theorem dX12_begins_121 : decode cX12_begins 121 = .ok (.aload_n 0, 1) := by decide +kernel
theorem dX12_begins_122 : decode cX12_begins 122 = .ok (.getfield 28, 3) := by decide +kernel
theorem dX12_begins_125 : decode cX12_begins 125 = .ok (.iconst 0, 1) := by decide +kernel
theorem dX12_begins_126 : decode cX12_begins 126 = .ok (.iconst 0, 1) := by decide +kernel
theorem dX12_begins_127 : decode cX12_begins 127 = .ok (.bastore, 1) := by decide +kernel
theorem dX12_begins_128 : decode cX12_begins 128 = .ok (.aload_n 0, 1) := by decide +kernel
theorem dX12_begins_129 : decode cX12_begins 129 = .ok (.getfield 28, 3) := by decide +kernel
theorem dX12_begins_132 : decode cX12_begins 132 = .ok (.iconst 1, 1) := by decide +kernel
theorem dX12_begins_133 : decode cX12_begins 133 = .ok (.iconst 0, 1) := by decide +kernel
theorem dX12_begins_134 : decode cX12_begins 134 = .ok (.bastore, 1) := by decide +kernel
theorem dX12_begins_135 : decode cX12_begins 135 = .ok (.return_, 1) := by decide +kernel
theorem dX12_feed_0 : decode cX12_feed 0 = .ok (.iload_n 1, 1) := by decide +kernel
theorem dX12_feed_1 : decode cX12_feed 1 = .ok (.i2l, 1) := by decide +kernel
theorem dX12_feed_2 : decode cX12_feed 2 = .ok (.lconst 0, 1) := by decide +kernel
theorem dX12_feed_3 : decode cX12_feed 3 = .ok (.ldc2_w 75, 3) := by decide +kernel
theorem dX12_feed_6 : decode cX12_feed 6 = .ok (.invokestatic 58, 3) := by decide +kernel
theorem dX12_feed_9 : decode cX12_feed 9 = .ok (.ifCond .ne 6, 3) := by decide +kernel
theorem dX12_feed_12 : decode cX12_feed 12 = .ok (.ldc 77, 2) := by decide +kernel
theorem dX12_feed_14 : decode cX12_feed 14 = .ok (.ireturn, 1) := by decide +kernel
theorem dX12_feed_15 : decode cX12_feed 15 = .ok (.aload_n 0, 1) := by decide +kernel
theorem dX12_feed_16 : decode cX12_feed 16 = .ok (.getfield 78, 3) := by decide +kernel
theorem dX12_feed_19 : decode cX12_feed 19 = .ok (.sipush 240, 3) := by decide +kernel
theorem dX12_feed_22 : decode cX12_feed 22 = .ok (.if_icmp .ne 6, 3) := by decide +kernel
theorem dX12_feed_25 : decode cX12_feed 25 = .ok (.ldc 81, 2) := by decide +kernel
theorem dX12_feed_27 : decode cX12_feed 27 = .ok (.ireturn, 1) := by decide +kernel
theorem dX12_feed_28 : decode cX12_feed 28 = .ok (.aload_n 0, 1) := by decide +kernel
theorem dX12_feed_29 : decode cX12_feed 29 = .ok (.getfield 32, 3) := by decide +kernel
theorem dX12_feed_32 : decode cX12_feed 32 = .ok (.aload_n 0, 1) := by decide +kernel
theorem dX12_feed_33 : decode cX12_feed 33 = .ok (.getfield 78, 3) := by decide +kernel
theorem dX12_feed_36 : decode cX12_feed 36 = .ok (.iload_n 1, 1) := by decide +kernel
theorem dX12_feed_37 : decode cX12_feed 37 = .ok (.iastore, 1) := by decide +kernel
theorem dX12_feed_38 : decode cX12_feed 38 = .ok (.aload_n 0, 1) := by decide +kernel
theorem dX12_feed_39 : decode cX12_feed 39 = .ok (.dup, 1) := by decide +kernel
theorem dX12_feed_40 : decode cX12_feed 40 = .ok (.getfield 78, 3) := by decide +kernel
theorem dX12_feed_43 : decode cX12_feed 43 = .ok (.iconst 1, 1) := by decide +kernel
theorem dX12_feed_44 : decode cX12_feed 44 = .ok (.iadd, 1) := by decide +kernel
theorem dX12_feed_45 : decode cX12_feed 45 = .ok (.putfield 78, 3) := by decide +kernel
theorem dX12_feed_48 : decode cX12_feed 48 = .ok (.aload_n 0, 1) := by decide +kernel
theorem dX12_feed_49 : decode cX12_feed 49 = .ok (.getfield 78, 3) := by decide +kernel
theorem dX12_feed_52 : decode cX12_feed 52 = .ok (.ireturn, 1) := by decide +kernel
theorem dX12_here_0 : decode cX12_here 0 = .ok (.aload_n 0, 1) := by decide +kernel
theorem dX12_here_1 : decode cX12_here 1 = .ok (.getfield 82, 3) := by decide +kernel
theorem dX12_here_4 : decode cX12_here 4 = .ok (.aload_n 0, 1) := by decide +kernel
theorem dX12_here_5 : decode cX12_here 5 = .ok (.getfield 78, 3) := by decide +kernel
theorem dX12_here_8 : decode cX12_here 8 = .ok (.if_icmp .ge 15, 3) := by decide +kernel
theorem dX12_here_11 : decode cX12_here 11 = .ok (.aload_n 0, 1) := by decide +kernel
theorem dX12_here_12 : decode cX12_here 12 = .ok (.getfield 32, 3) := by decide +kernel
theorem dX12_here_15 : decode cX12_here 15 = .ok (.aload_n 0, 1) := by decide +kernel
theorem dX12_here_16 : decode cX12_here 16 = .ok (.getfield 82, 3) := by decide +kernel
theorem dX12_here_19 : decode cX12_here 19 = .ok (.iaload, 1) := by decide +kernel
theorem dX12_here_20 : decode cX12_here 20 = .ok (.goto 4, 3) := by decide +kernel
theorem dX12_here_23 : decode cX12_here 23 = .ok (.iconst (-1), 1) := by decide +kernel
theorem dX12_here_24 : decode cX12_here 24 = .ok (.ireturn, 1) := by decide +kernel
theorem dX12_step_0 : decode cX12_step 0 = .ok (.aload_n 0, 1) := by decide +kernel
theorem dX12_step_1 : decode cX12_step 1 = .ok (.invokevirtual 85, 3) := by decide +kernel
theorem dX12_step_4 : decode cX12_step 4 = .ok (.bipush 32, 2) := by decide +kernel
theorem dX12_step_6 : decode cX12_step 6 = .ok (.if_icmp .ne 16, 3) := by decide +kernel
theorem dX12_step_9 : decode cX12_step 9 = .ok (.aload_n 0, 1) := by decide +kernel
theorem dX12_step_10 : decode cX12_step 10 = .ok (.dup, 1) := by decide +kernel
theorem dX12_step_11 : decode cX12_step 11 = .ok (.getfield 82, 3) := by decide +kernel
theorem dX12_step_14 : decode cX12_step 14 = .ok (.iconst 1, 1) := by decide +kernel
theorem dX12_step_15 : decode cX12_step 15 = .ok (.iadd, 1) := by decide +kernel
theorem dX12_step_16 : decode cX12_step 16 = .ok (.putfield 82, 3) := by decide +kernel
theorem dX12_step_19 : decode cX12_step 19 = .ok (.goto (-19), 3) := by decide +kernel
theorem dX12_step_22 : decode cX12_step 22 = .ok (.aload_n 0, 1) := by decide +kernel
theorem dX12_step_23 : decode cX12_step 23 = .ok (.aload_n 0, 1) := by decide +kernel
theorem dX12_step_24 : decode cX12_step 24 = .ok (.getfield 82, 3) := by decide +kernel
theorem dX12_step_27 : decode cX12_step 27 = .ok (.putfield 89, 3) := by decide +kernel
theorem dX12_step_30 : decode cX12_step 30 = .ok (.aload_n 0, 1) := by decide +kernel
theorem dX12_step_31 : decode cX12_step 31 = .ok (.aload_n 0, 1) := by decide +kernel
theorem dX12_step_32 : decode cX12_step 32 = .ok (.invokevirtual 85, 3) := by decide +kernel
theorem dX12_step_35 : decode cX12_step 35 = .ok (.putfield 92, 3) := by decide +kernel
theorem dX12_step_38 : decode cX12_step 38 = .ok (.aload_n 0, 1) := by decide +kernel
theorem dX12_step_39 : decode cX12_step 39 = .ok (.iconst 0, 1) := by decide +kernel
theorem dX12_step_40 : decode cX12_step 40 = .ok (.putfield 95, 3) := by decide +kernel
theorem dX12_step_43 : decode cX12_step 43 = .ok (.aload_n 0, 1) := by decide +kernel
theorem dX12_step_44 : decode cX12_step 44 = .ok (.iconst 0, 1) := by decide +kernel
theorem dX12_step_45 : decode cX12_step 45 = .ok (.putfield 98, 3) := by decide +kernel
theorem dX12_step_48 : decode cX12_step 48 = .ok (.aload_n 0, 1) := by decide +kernel
theorem dX12_step_49 : decode cX12_step 49 = .ok (.getfield 92, 3) := by decide +kernel
theorem dX12_step_52 : decode cX12_step 52 = .ok (.i2l, 1) := by decide +kernel
theorem dX12_step_53 : decode cX12_step 53 = .ok (.ldc2_w 101, 3) := by decide +kernel
theorem dX12_step_56 : decode cX12_step 56 = .ok (.ldc2_w 103, 3) := by decide +kernel
theorem dX12_step_59 : decode cX12_step 59 = .ok (.invokestatic 58, 3) := by decide +kernel
theorem dX12_step_62 : decode cX12_step 62 = .ok (.ifCond .ne 25, 3) := by decide +kernel
theorem dX12_step_65 : decode cX12_step 65 = .ok (.aload_n 0, 1) := by decide +kernel
theorem dX12_step_66 : decode cX12_step 66 = .ok (.dup, 1) := by decide +kernel
theorem dX12_step_67 : decode cX12_step 67 = .ok (.getfield 82, 3) := by decide +kernel
theorem dX12_step_70 : decode cX12_step 70 = .ok (.aload_n 0, 1) := by decide +kernel
theorem dX12_step_71 : decode cX12_step 71 = .ok (.getfield 92, 3) := by decide +kernel
theorem dX12_step_74 : decode cX12_step 74 = .ok (.ifCond .ge 7, 3) := by decide +kernel
theorem dX12_step_77 : decode cX12_step 77 = .ok (.iconst 0, 1) := by decide +kernel
theorem dX12_step_78 : decode cX12_step 78 = .ok (.goto 4, 3) := by decide +kernel
theorem dX12_step_81 : decode cX12_step 81 = .ok (.iconst 1, 1) := by decide +kernel
theorem dX12_step_82 : decode cX12_step 82 = .ok (.iadd, 1) := by decide +kernel
theorem dX12_step_83 : decode cX12_step 83 = .ok (.putfield 82, 3) := by decide +kernel
theorem dX12_step_86 : decode cX12_step 86 = .ok (.return_, 1) := by decide +kernel
theorem dX12_step_87 : decode cX12_step 87 = .ok (.aload_n 0, 1) := by decide +kernel
theorem dX12_step_88 : decode cX12_step 88 = .ok (.bipush 48, 2) := by decide +kernel
theorem dX12_step_90 : decode cX12_step 90 = .ok (.putfield 92, 3) := by decide +kernel
theorem dX12_step_93 : decode cX12_step 93 = .ok (.aload_n 0, 1) := by decide +kernel
theorem dX12_step_94 : decode cX12_step 94 = .ok (.invokevirtual 85, 3) := by decide +kernel
theorem dX12_step_97 : decode cX12_step 97 = .ok (.i2l, 1) := by decide +kernel
theorem dX12_step_98 : decode cX12_step 98 = .ok (.ldc2_w 101, 3) := by decide +kernel
theorem dX12_step_101 : decode cX12_step 101 = .ok (.ldc2_w 103, 3) := by decide +kernel
theorem dX12_step_104 : decode cX12_step 104 = .ok (.invokestatic 58, 3) := by decide +kernel
theorem dX12_step_107 : decode cX12_step 107 = .ok (.ifCond .eq 60, 3) := by decide +kernel
theorem dX12_step_110 : decode cX12_step 110 = .ok (.aload_n 0, 1) := by decide +kernel
theorem dX12_step_111 : decode cX12_step 111 = .ok (.aload_n 0, 1) := by decide +kernel
theorem dX12_step_112 : decode cX12_step 112 = .ok (.getfield 95, 3) := by decide +kernel
theorem dX12_step_115 : decode cX12_step 115 = .ok (.iconst 3, 1) := by decide +kernel
theorem dX12_step_116 : decode cX12_step 116 = .ok (.if_icmp .ge 21, 3) := by decide +kernel
theorem dX12_step_119 : decode cX12_step 119 = .ok (.bipush 10, 2) := by decide +kernel
theorem dX12_step_121 : decode cX12_step 121 = .ok (.aload_n 0, 1) := by decide +kernel
theorem dX12_step_122 : decode cX12_step 122 = .ok (.getfield 98, 3) := by decide +kernel
theorem dX12_step_125 : decode cX12_step 125 = .ok (.imul, 1) := by decide +kernel
theorem dX12_step_126 : decode cX12_step 126 = .ok (.aload_n 0, 1) := by decide +kernel
theorem dX12_step_127 : decode cX12_step 127 = .ok (.invokevirtual 85, 3) := by decide +kernel
theorem dX12_step_130 : decode cX12_step 130 = .ok (.iadd, 1) := by decide +kernel
theorem dX12_step_131 : decode cX12_step 131 = .ok (.bipush 48, 2) := by decide +kernel
theorem dX12_step_133 : decode cX12_step 133 = .ok (.isub, 1) := by decide +kernel
theorem dX12_step_134 : decode cX12_step 134 = .ok (.goto 7, 3) := by decide +kernel
theorem dX12_step_137 : decode cX12_step 137 = .ok (.aload_n 0, 1) := by decide +kernel
theorem dX12_step_138 : decode cX12_step 138 = .ok (.getfield 98, 3) := by decide +kernel
theorem dX12_step_141 : decode cX12_step 141 = .ok (.putfield 98, 3) := by decide +kernel
theorem dX12_step_144 : decode cX12_step 144 = .ok (.aload_n 0, 1) := by decide +kernel
theorem dX12_step_145 : decode cX12_step 145 = .ok (.dup, 1) := by decide +kernel
theorem dX12_step_146 : decode cX12_step 146 = .ok (.getfield 95, 3) := by decide +kernel
theorem dX12_step_149 : decode cX12_step 149 = .ok (.iconst 1, 1) := by decide +kernel
theorem dX12_step_150 : decode cX12_step 150 = .ok (.iadd, 1) := by decide +kernel
theorem dX12_step_151 : decode cX12_step 151 = .ok (.putfield 95, 3) := by decide +kernel
theorem dX12_step_154 : decode cX12_step 154 = .ok (.aload_n 0, 1) := by decide +kernel
theorem dX12_step_155 : decode cX12_step 155 = .ok (.dup, 1) := by decide +kernel
theorem dX12_step_156 : decode cX12_step 156 = .ok (.getfield 82, 3) := by decide +kernel
theorem dX12_step_159 : decode cX12_step 159 = .ok (.iconst 1, 1) := by decide +kernel
theorem dX12_step_160 : decode cX12_step 160 = .ok (.iadd, 1) := by decide +kernel
theorem dX12_step_161 : decode cX12_step 161 = .ok (.putfield 82, 3) := by decide +kernel
theorem dX12_step_164 : decode cX12_step 164 = .ok (.goto (-71), 3) := by decide +kernel
theorem dX12_step_167 : decode cX12_step 167 = .ok (.return_, 1) := by decide +kernel
theorem dX12_fails_0 : decode cX12_fails 0 = .ok (.aload_n 0, 1) := by decide +kernel
theorem dX12_fails_1 : decode cX12_fails 1 = .ok (.iload_n 1, 1) := by decide +kernel
theorem dX12_fails_2 : decode cX12_fails 2 = .ok (.putfield 105, 3) := by decide +kernel
theorem dX12_fails_5 : decode cX12_fails 5 = .ok (.iconst 0, 1) := by decide +kernel
theorem dX12_fails_6 : decode cX12_fails 6 = .ok (.ireturn, 1) := by decide +kernel
theorem dX12_number_0 : decode cX12_number 0 = .ok (.aload_n 0, 1) := by decide +kernel
theorem dX12_number_1 : decode cX12_number 1 = .ok (.invokevirtual 108, 3) := by decide +kernel
theorem dX12_number_4 : decode cX12_number 4 = .ok (.aload_n 0, 1) := by decide +kernel
theorem dX12_number_5 : decode cX12_number 5 = .ok (.getfield 92, 3) := by decide +kernel
theorem dX12_number_8 : decode cX12_number 8 = .ok (.bipush 48, 2) := by decide +kernel
theorem dX12_number_10 : decode cX12_number 10 = .ok (.if_icmp .eq 9, 3) := by decide +kernel
theorem dX12_number_13 : decode cX12_number 13 = .ok (.aload_n 0, 1) := by decide +kernel
theorem dX12_number_14 : decode cX12_number 14 = .ok (.iconst 1, 1) := by decide +kernel
theorem dX12_number_15 : decode cX12_number 15 = .ok (.invokevirtual 111, 3) := by decide +kernel
theorem dX12_number_18 : decode cX12_number 18 = .ok (.ireturn, 1) := by decide +kernel
theorem dX12_number_19 : decode cX12_number 19 = .ok (.aload_n 0, 1) := by decide +kernel
theorem dX12_number_20 : decode cX12_number 20 = .ok (.getfield 95, 3) := by decide +kernel
theorem dX12_number_23 : decode cX12_number 23 = .ok (.iconst 3, 1) := by decide +kernel
theorem dX12_number_24 : decode cX12_number 24 = .ok (.if_icmp .gt 18, 3) := by decide +kernel
theorem dX12_number_27 : decode cX12_number 27 = .ok (.aload_n 0, 1) := by decide +kernel
theorem dX12_number_28 : decode cX12_number 28 = .ok (.getfield 98, 3) := by decide +kernel
theorem dX12_number_31 : decode cX12_number 31 = .ok (.i2l, 1) := by decide +kernel
theorem dX12_number_32 : decode cX12_number 32 = .ok (.iload_n 2, 1) := by decide +kernel
theorem dX12_number_33 : decode cX12_number 33 = .ok (.i2l, 1) := by decide +kernel
theorem dX12_number_34 : decode cX12_number 34 = .ok (.iload_n 3, 1) := by decide +kernel
theorem dX12_number_35 : decode cX12_number 35 = .ok (.i2l, 1) := by decide +kernel
theorem dX12_number_36 : decode cX12_number 36 = .ok (.invokestatic 58, 3) := by decide +kernel
theorem dX12_number_39 : decode cX12_number 39 = .ok (.ifCond .ne 9, 3) := by decide +kernel
theorem dX12_number_42 : decode cX12_number 42 = .ok (.aload_n 0, 1) := by decide +kernel
theorem dX12_number_43 : decode cX12_number 43 = .ok (.iconst 2, 1) := by decide +kernel
theorem dX12_number_44 : decode cX12_number 44 = .ok (.invokevirtual 111, 3) := by decide +kernel
theorem dX12_number_47 : decode cX12_number 47 = .ok (.ireturn, 1) := by decide +kernel
theorem dX12_number_48 : decode cX12_number 48 = .ok (.aload_n 0, 1) := by decide +kernel
theorem dX12_number_49 : decode cX12_number 49 = .ok (.getfield 13, 3) := by decide +kernel
theorem dX12_number_52 : decode cX12_number 52 = .ok (.iload_n 1, 1) := by decide +kernel
theorem dX12_number_53 : decode cX12_number 53 = .ok (.aload_n 0, 1) := by decide +kernel
theorem dX12_number_54 : decode cX12_number 54 = .ok (.getfield 98, 3) := by decide +kernel
theorem dX12_number_57 : decode cX12_number 57 = .ok (.iastore, 1) := by decide +kernel
theorem dX12_number_58 : decode cX12_number 58 = .ok (.iconst 1, 1) := by decide +kernel
theorem dX12_number_59 : decode cX12_number 59 = .ok (.ireturn, 1) := by decide +kernel
theorem dX12_ends_0 : decode cX12_ends 0 = .ok (.aload_n 0, 1) := by decide +kernel
theorem dX12_ends_1 : decode cX12_ends 1 = .ok (.invokevirtual 108, 3) := by decide +kernel
theorem dX12_ends_4 : decode cX12_ends 4 = .ok (.aload_n 0, 1) := by decide +kernel
theorem dX12_ends_5 : decode cX12_ends 5 = .ok (.getfield 92, 3) := by decide +kernel
theorem dX12_ends_8 : decode cX12_ends 8 = .ok (.bipush 59, 2) := by decide +kernel
theorem dX12_ends_10 : decode cX12_ends 10 = .ok (.if_icmp .eq 11, 3) := by decide +kernel
theorem dX12_ends_13 : decode cX12_ends 13 = .ok (.aload_n 0, 1) := by decide +kernel
theorem dX12_ends_14 : decode cX12_ends 14 = .ok (.iconst 1, 1) := by decide +kernel
theorem dX12_ends_15 : decode cX12_ends 15 = .ok (.invokevirtual 111, 3) := by decide +kernel
theorem dX12_ends_18 : decode cX12_ends 18 = .ok (.ifCond .eq 7, 3) := by decide +kernel
theorem dX12_ends_21 : decode cX12_ends 21 = .ok (.iconst 1, 1) := by decide +kernel
theorem dX12_ends_22 : decode cX12_ends 22 = .ok (.goto 4, 3) := by decide +kernel
theorem dX12_ends_25 : decode cX12_ends 25 = .ok (.iconst 0, 1) := by decide +kernel
theorem dX12_ends_26 : decode cX12_ends 26 = .ok (.ireturn, 1) := by decide +kernel
theorem dX12_readsCouple_0 : decode cX12_readsCouple 0 = .ok (.aload_n 0, 1) := by decide +kernel
theorem dX12_readsCouple_1 : decode cX12_readsCouple 1 = .ok (.getfield 13, 3) := by decide +kernel
theorem dX12_readsCouple_4 : decode cX12_readsCouple 4 = .ok (.iconst 1, 1) := by decide +kernel
theorem dX12_readsCouple_5 : decode cX12_readsCouple 5 = .ok (.iaload, 1) := by decide +kernel
theorem dX12_readsCouple_6 : decode cX12_readsCouple 6 = .ok (.istore_n 1, 1) := by decide +kernel
theorem dX12_readsCouple_7 : decode cX12_readsCouple 7 = .ok (.iload_n 1, 1) := by decide +kernel
theorem dX12_readsCouple_8 : decode cX12_readsCouple 8 = .ok (.bipush 6, 2) := by decide +kernel
theorem dX12_readsCouple_10 : decode cX12_readsCouple 10 = .ok (.if_icmp .ne 9, 3) := by decide +kernel
theorem dX12_readsCouple_13 : decode cX12_readsCouple 13 = .ok (.aload_n 0, 1) := by decide +kernel
theorem dX12_readsCouple_14 : decode cX12_readsCouple 14 = .ok (.iconst 3, 1) := by decide +kernel
theorem dX12_readsCouple_15 : decode cX12_readsCouple 15 = .ok (.invokevirtual 111, 3) := by decide +kernel
theorem dX12_readsCouple_18 : decode cX12_readsCouple 18 = .ok (.ireturn, 1) := by decide +kernel
theorem dX12_readsCouple_19 : decode cX12_readsCouple 19 = .ok (.aload_n 0, 1) := by decide +kernel
theorem dX12_readsCouple_20 : decode cX12_readsCouple 20 = .ok (.getfield 13, 3) := by decide +kernel
theorem dX12_readsCouple_23 : decode cX12_readsCouple 23 = .ok (.iconst 1, 1) := by decide +kernel
theorem dX12_readsCouple_24 : decode cX12_readsCouple 24 = .ok (.dup2, 1) := by decide +kernel
theorem dX12_readsCouple_25 : decode cX12_readsCouple 25 = .ok (.iaload, 1) := by decide +kernel
theorem dX12_readsCouple_26 : decode cX12_readsCouple 26 = .ok (.iconst 1, 1) := by decide +kernel
theorem dX12_readsCouple_27 : decode cX12_readsCouple 27 = .ok (.iadd, 1) := by decide +kernel
theorem dX12_readsCouple_28 : decode cX12_readsCouple 28 = .ok (.iastore, 1) := by decide +kernel
theorem dX12_readsCouple_29 : decode cX12_readsCouple 29 = .ok (.aload_n 0, 1) := by decide +kernel
theorem dX12_readsCouple_30 : decode cX12_readsCouple 30 = .ok (.iconst 3, 1) := by decide +kernel
theorem dX12_readsCouple_31 : decode cX12_readsCouple 31 = .ok (.iload_n 1, 1) := by decide +kernel
theorem dX12_readsCouple_32 : decode cX12_readsCouple 32 = .ok (.iadd, 1) := by decide +kernel
theorem dX12_readsCouple_33 : decode cX12_readsCouple 33 = .ok (.iconst 0, 1) := by decide +kernel
theorem dX12_readsCouple_34 : decode cX12_readsCouple 34 = .ok (.bipush 60, 2) := by decide +kernel
theorem dX12_readsCouple_36 : decode cX12_readsCouple 36 = .ok (.invokevirtual 115, 3) := by decide +kernel
theorem dX12_readsCouple_39 : decode cX12_readsCouple 39 = .ok (.ifCond .ne 5, 3) := by decide +kernel
theorem dX12_readsCouple_42 : decode cX12_readsCouple 42 = .ok (.iconst 0, 1) := by decide +kernel
theorem dX12_readsCouple_43 : decode cX12_readsCouple 43 = .ok (.ireturn, 1) := by decide +kernel
theorem dX12_readsCouple_44 : decode cX12_readsCouple 44 = .ok (.iconst 0, 1) := by decide +kernel
theorem dX12_readsCouple_45 : decode cX12_readsCouple 45 = .ok (.istore_n 2, 1) := by decide +kernel
theorem dX12_readsCouple_46 : decode cX12_readsCouple 46 = .ok (.iload_n 2, 1) := by decide +kernel
theorem dX12_readsCouple_47 : decode cX12_readsCouple 47 = .ok (.iconst 5, 1) := by decide +kernel
theorem dX12_readsCouple_48 : decode cX12_readsCouple 48 = .ok (.if_icmp .ge 52, 3) := by decide +kernel
theorem dX12_readsCouple_51 : decode cX12_readsCouple 51 = .ok (.iload_n 2, 1) := by decide +kernel
theorem dX12_readsCouple_52 : decode cX12_readsCouple 52 = .ok (.ifCond .le 22, 3) := by decide +kernel
theorem dX12_readsCouple_55 : decode cX12_readsCouple 55 = .ok (.aload_n 0, 1) := by decide +kernel
theorem dX12_readsCouple_56 : decode cX12_readsCouple 56 = .ok (.invokevirtual 108, 3) := by decide +kernel
theorem dX12_readsCouple_59 : decode cX12_readsCouple 59 = .ok (.aload_n 0, 1) := by decide +kernel
theorem dX12_readsCouple_60 : decode cX12_readsCouple 60 = .ok (.getfield 92, 3) := by decide +kernel
theorem dX12_readsCouple_63 : decode cX12_readsCouple 63 = .ok (.bipush 44, 2) := by decide +kernel
theorem dX12_readsCouple_65 : decode cX12_readsCouple 65 = .ok (.if_icmp .eq 9, 3) := by decide +kernel
theorem dX12_readsCouple_68 : decode cX12_readsCouple 68 = .ok (.aload_n 0, 1) := by decide +kernel
theorem dX12_readsCouple_69 : decode cX12_readsCouple 69 = .ok (.iconst 1, 1) := by decide +kernel
theorem dX12_readsCouple_70 : decode cX12_readsCouple 70 = .ok (.invokevirtual 111, 3) := by decide +kernel
theorem dX12_readsCouple_73 : decode cX12_readsCouple 73 = .ok (.ireturn, 1) := by decide +kernel
theorem dX12_readsCouple_74 : decode cX12_readsCouple 74 = .ok (.aload_n 0, 1) := by decide +kernel
theorem dX12_readsCouple_75 : decode cX12_readsCouple 75 = .ok (.bipush 9, 2) := by decide +kernel
theorem dX12_readsCouple_77 : decode cX12_readsCouple 77 = .ok (.iconst 5, 1) := by decide +kernel
theorem dX12_readsCouple_78 : decode cX12_readsCouple 78 = .ok (.iload_n 1, 1) := by decide +kernel
theorem dX12_readsCouple_79 : decode cX12_readsCouple 79 = .ok (.imul, 1) := by decide +kernel
theorem dX12_readsCouple_80 : decode cX12_readsCouple 80 = .ok (.iadd, 1) := by decide +kernel
theorem dX12_readsCouple_81 : decode cX12_readsCouple 81 = .ok (.iload_n 2, 1) := by decide +kernel
theorem dX12_readsCouple_82 : decode cX12_readsCouple 82 = .ok (.iadd, 1) := by decide +kernel
theorem dX12_readsCouple_83 : decode cX12_readsCouple 83 = .ok (.iconst 0, 1) := by decide +kernel
theorem dX12_readsCouple_84 : decode cX12_readsCouple 84 = .ok (.bipush 20, 2) := by decide +kernel
theorem dX12_readsCouple_86 : decode cX12_readsCouple 86 = .ok (.invokevirtual 115, 3) := by decide +kernel
theorem dX12_readsCouple_89 : decode cX12_readsCouple 89 = .ok (.ifCond .ne 5, 3) := by decide +kernel
theorem dX12_readsCouple_92 : decode cX12_readsCouple 92 = .ok (.iconst 0, 1) := by decide +kernel
theorem dX12_readsCouple_93 : decode cX12_readsCouple 93 = .ok (.ireturn, 1) := by decide +kernel
theorem dX12_readsCouple_94 : decode cX12_readsCouple 94 = .ok (.iinc 2 1, 3) := by decide +kernel
theorem dX12_readsCouple_97 : decode cX12_readsCouple 97 = .ok (.goto (-51), 3) := by decide +kernel
theorem dX12_readsCouple_100 : decode cX12_readsCouple 100 = .ok (.aload_n 0, 1) := by decide +kernel
theorem dX12_readsCouple_101 : decode cX12_readsCouple 101 = .ok (.invokevirtual 119, 3) := by decide +kernel
theorem dX12_readsCouple_104 : decode cX12_readsCouple 104 = .ok (.ireturn, 1) := by decide +kernel
theorem dX12_readsObjector_0 : decode cX12_readsObjector 0 = .ok (.aload_n 0, 1) := by decide +kernel
theorem dX12_readsObjector_1 : decode cX12_readsObjector 1 = .ok (.getfield 13, 3) := by decide +kernel
theorem dX12_readsObjector_4 : decode cX12_readsObjector 4 = .ok (.iconst 2, 1) := by decide +kernel
theorem dX12_readsObjector_5 : decode cX12_readsObjector 5 = .ok (.iaload, 1) := by decide +kernel
theorem dX12_readsObjector_6 : decode cX12_readsObjector 6 = .ok (.istore_n 1, 1) := by decide +kernel
theorem dX12_readsObjector_7 : decode cX12_readsObjector 7 = .ok (.iload_n 1, 1) := by decide +kernel
theorem dX12_readsObjector_8 : decode cX12_readsObjector 8 = .ok (.bipush 6, 2) := by decide +kernel
theorem dX12_readsObjector_10 : decode cX12_readsObjector 10 = .ok (.if_icmp .ne 9, 3) := by decide +kernel
theorem dX12_readsObjector_13 : decode cX12_readsObjector 13 = .ok (.aload_n 0, 1) := by decide +kernel
theorem dX12_readsObjector_14 : decode cX12_readsObjector 14 = .ok (.iconst 3, 1) := by decide +kernel
theorem dX12_readsObjector_15 : decode cX12_readsObjector 15 = .ok (.invokevirtual 111, 3) := by decide +kernel
theorem dX12_readsObjector_18 : decode cX12_readsObjector 18 = .ok (.ireturn, 1) := by decide +kernel
theorem dX12_readsObjector_19 : decode cX12_readsObjector 19 = .ok (.aload_n 0, 1) := by decide +kernel
theorem dX12_readsObjector_20 : decode cX12_readsObjector 20 = .ok (.getfield 13, 3) := by decide +kernel
theorem dX12_readsObjector_23 : decode cX12_readsObjector 23 = .ok (.iconst 2, 1) := by decide +kernel
theorem dX12_readsObjector_24 : decode cX12_readsObjector 24 = .ok (.dup2, 1) := by decide +kernel
theorem dX12_readsObjector_25 : decode cX12_readsObjector 25 = .ok (.iaload, 1) := by decide +kernel
theorem dX12_readsObjector_26 : decode cX12_readsObjector 26 = .ok (.iconst 1, 1) := by decide +kernel
theorem dX12_readsObjector_27 : decode cX12_readsObjector 27 = .ok (.iadd, 1) := by decide +kernel
theorem dX12_readsObjector_28 : decode cX12_readsObjector 28 = .ok (.iastore, 1) := by decide +kernel
theorem dX12_readsObjector_29 : decode cX12_readsObjector 29 = .ok (.aload_n 0, 1) := by decide +kernel
theorem dX12_readsObjector_30 : decode cX12_readsObjector 30 = .ok (.bipush 39, 2) := by decide +kernel
theorem dX12_readsObjector_32 : decode cX12_readsObjector 32 = .ok (.iload_n 1, 1) := by decide +kernel
theorem dX12_readsObjector_33 : decode cX12_readsObjector 33 = .ok (.iadd, 1) := by decide +kernel
theorem dX12_readsObjector_34 : decode cX12_readsObjector 34 = .ok (.iconst 0, 1) := by decide +kernel
theorem dX12_readsObjector_35 : decode cX12_readsObjector 35 = .ok (.iconst 3, 1) := by decide +kernel
theorem dX12_readsObjector_36 : decode cX12_readsObjector 36 = .ok (.invokevirtual 115, 3) := by decide +kernel
theorem dX12_readsObjector_39 : decode cX12_readsObjector 39 = .ok (.ifCond .eq 42, 3) := by decide +kernel
theorem dX12_readsObjector_42 : decode cX12_readsObjector 42 = .ok (.aload_n 0, 1) := by decide +kernel
theorem dX12_readsObjector_43 : decode cX12_readsObjector 43 = .ok (.bipush 45, 2) := by decide +kernel
theorem dX12_readsObjector_45 : decode cX12_readsObjector 45 = .ok (.iload_n 1, 1) := by decide +kernel
theorem dX12_readsObjector_46 : decode cX12_readsObjector 46 = .ok (.iadd, 1) := by decide +kernel
theorem dX12_readsObjector_47 : decode cX12_readsObjector 47 = .ok (.iconst 0, 1) := by decide +kernel
theorem dX12_readsObjector_48 : decode cX12_readsObjector 48 = .ok (.bipush 20, 2) := by decide +kernel
theorem dX12_readsObjector_50 : decode cX12_readsObjector 50 = .ok (.invokevirtual 115, 3) := by decide +kernel
theorem dX12_readsObjector_53 : decode cX12_readsObjector 53 = .ok (.ifCond .eq 28, 3) := by decide +kernel
theorem dX12_readsObjector_56 : decode cX12_readsObjector 56 = .ok (.aload_n 0, 1) := by decide +kernel
theorem dX12_readsObjector_57 : decode cX12_readsObjector 57 = .ok (.bipush 51, 2) := by decide +kernel
theorem dX12_readsObjector_59 : decode cX12_readsObjector 59 = .ok (.iload_n 1, 1) := by decide +kernel
theorem dX12_readsObjector_60 : decode cX12_readsObjector 60 = .ok (.iadd, 1) := by decide +kernel
theorem dX12_readsObjector_61 : decode cX12_readsObjector 61 = .ok (.iconst 0, 1) := by decide +kernel
theorem dX12_readsObjector_62 : decode cX12_readsObjector 62 = .ok (.bipush 31, 2) := by decide +kernel
theorem dX12_readsObjector_64 : decode cX12_readsObjector 64 = .ok (.invokevirtual 115, 3) := by decide +kernel
theorem dX12_readsObjector_67 : decode cX12_readsObjector 67 = .ok (.ifCond .eq 14, 3) := by decide +kernel
theorem dX12_readsObjector_70 : decode cX12_readsObjector 70 = .ok (.aload_n 0, 1) := by decide +kernel
theorem dX12_readsObjector_71 : decode cX12_readsObjector 71 = .ok (.invokevirtual 119, 3) := by decide +kernel
theorem dX12_readsObjector_74 : decode cX12_readsObjector 74 = .ok (.ifCond .eq 7, 3) := by decide +kernel
theorem dX12_readsObjector_77 : decode cX12_readsObjector 77 = .ok (.iconst 1, 1) := by decide +kernel
theorem dX12_readsObjector_78 : decode cX12_readsObjector 78 = .ok (.goto 4, 3) := by decide +kernel
theorem dX12_readsObjector_81 : decode cX12_readsObjector 81 = .ok (.iconst 0, 1) := by decide +kernel
theorem dX12_readsObjector_82 : decode cX12_readsObjector 82 = .ok (.ireturn, 1) := by decide +kernel
theorem dX12_readsClause_0 : decode cX12_readsClause 0 = .ok (.aload_n 0, 1) := by decide +kernel
theorem dX12_readsClause_1 : decode cX12_readsClause 1 = .ok (.getfield 92, 3) := by decide +kernel
theorem dX12_readsClause_4 : decode cX12_readsClause 4 = .ok (.bipush 100, 2) := by decide +kernel
theorem dX12_readsClause_6 : decode cX12_readsClause 6 = .ok (.if_icmp .ne 44, 3) := by decide +kernel
theorem dX12_readsClause_9 : decode cX12_readsClause 9 = .ok (.aload_n 0, 1) := by decide +kernel
theorem dX12_readsClause_10 : decode cX12_readsClause 10 = .ok (.getfield 13, 3) := by decide +kernel
theorem dX12_readsClause_13 : decode cX12_readsClause 13 = .ok (.iconst 0, 1) := by decide +kernel
theorem dX12_readsClause_14 : decode cX12_readsClause 14 = .ok (.iaload, 1) := by decide +kernel
theorem dX12_readsClause_15 : decode cX12_readsClause 15 = .ok (.ifCond .le 11, 3) := by decide +kernel
theorem dX12_readsClause_18 : decode cX12_readsClause 18 = .ok (.aload_n 0, 1) := by decide +kernel
theorem dX12_readsClause_19 : decode cX12_readsClause 19 = .ok (.iconst 3, 1) := by decide +kernel
theorem dX12_readsClause_20 : decode cX12_readsClause 20 = .ok (.invokevirtual 111, 3) := by decide +kernel
theorem dX12_readsClause_23 : decode cX12_readsClause 23 = .ok (.goto 26, 3) := by decide +kernel
theorem dX12_readsClause_26 : decode cX12_readsClause 26 = .ok (.aload_n 0, 1) := by decide +kernel
theorem dX12_readsClause_27 : decode cX12_readsClause 27 = .ok (.iconst 0, 1) := by decide +kernel
theorem dX12_readsClause_28 : decode cX12_readsClause 28 = .ok (.iconst 1, 1) := by decide +kernel
theorem dX12_readsClause_29 : decode cX12_readsClause 29 = .ok (.bipush 20, 2) := by decide +kernel
theorem dX12_readsClause_31 : decode cX12_readsClause 31 = .ok (.invokevirtual 115, 3) := by decide +kernel
theorem dX12_readsClause_34 : decode cX12_readsClause 34 = .ok (.ifCond .eq 14, 3) := by decide +kernel
theorem dX12_readsClause_37 : decode cX12_readsClause 37 = .ok (.aload_n 0, 1) := by decide +kernel
theorem dX12_readsClause_38 : decode cX12_readsClause 38 = .ok (.invokevirtual 119, 3) := by decide +kernel
theorem dX12_readsClause_41 : decode cX12_readsClause 41 = .ok (.ifCond .eq 7, 3) := by decide +kernel
theorem dX12_readsClause_44 : decode cX12_readsClause 44 = .ok (.iconst 1, 1) := by decide +kernel
theorem dX12_readsClause_45 : decode cX12_readsClause 45 = .ok (.goto 4, 3) := by decide +kernel
theorem dX12_readsClause_48 : decode cX12_readsClause 48 = .ok (.iconst 0, 1) := by decide +kernel
theorem dX12_readsClause_49 : decode cX12_readsClause 49 = .ok (.ireturn, 1) := by decide +kernel
theorem dX12_readsClause_50 : decode cX12_readsClause 50 = .ok (.aload_n 0, 1) := by decide +kernel
theorem dX12_readsClause_51 : decode cX12_readsClause 51 = .ok (.getfield 13, 3) := by decide +kernel
theorem dX12_readsClause_54 : decode cX12_readsClause 54 = .ok (.iconst 0, 1) := by decide +kernel
theorem dX12_readsClause_55 : decode cX12_readsClause 55 = .ok (.iaload, 1) := by decide +kernel
theorem dX12_readsClause_56 : decode cX12_readsClause 56 = .ok (.ifCond .ne 9, 3) := by decide +kernel
theorem dX12_readsClause_59 : decode cX12_readsClause 59 = .ok (.aload_n 0, 1) := by decide +kernel
theorem dX12_readsClause_60 : decode cX12_readsClause 60 = .ok (.iconst 1, 1) := by decide +kernel
theorem dX12_readsClause_61 : decode cX12_readsClause 61 = .ok (.invokevirtual 111, 3) := by decide +kernel
theorem dX12_readsClause_64 : decode cX12_readsClause 64 = .ok (.ireturn, 1) := by decide +kernel
theorem dX12_readsClause_65 : decode cX12_readsClause 65 = .ok (.aload_n 0, 1) := by decide +kernel
theorem dX12_readsClause_66 : decode cX12_readsClause 66 = .ok (.getfield 92, 3) := by decide +kernel
theorem dX12_readsClause_69 : decode cX12_readsClause 69 = .ok (.lookupswitch 37 #[(99, 27), (111, 32)], 27) := by decide +kernel
theorem dX12_readsClause_96 : decode cX12_readsClause 96 = .ok (.aload_n 0, 1) := by decide +kernel
theorem dX12_readsClause_97 : decode cX12_readsClause 97 = .ok (.invokevirtual 123, 3) := by decide +kernel
theorem dX12_readsClause_100 : decode cX12_readsClause 100 = .ok (.ireturn, 1) := by decide +kernel
theorem dX12_readsClause_101 : decode cX12_readsClause 101 = .ok (.aload_n 0, 1) := by decide +kernel
theorem dX12_readsClause_102 : decode cX12_readsClause 102 = .ok (.invokevirtual 126, 3) := by decide +kernel
theorem dX12_readsClause_105 : decode cX12_readsClause 105 = .ok (.ireturn, 1) := by decide +kernel
theorem dX12_readsClause_106 : decode cX12_readsClause 106 = .ok (.aload_n 0, 1) := by decide +kernel
theorem dX12_readsClause_107 : decode cX12_readsClause 107 = .ok (.iconst 1, 1) := by decide +kernel
theorem dX12_readsClause_108 : decode cX12_readsClause 108 = .ok (.invokevirtual 111, 3) := by decide +kernel
theorem dX12_readsClause_111 : decode cX12_readsClause 111 = .ok (.ireturn, 1) := by decide +kernel
theorem dX12_deanery_0 : decode cX12_deanery 0 = .ok (.iconst 0, 1) := by decide +kernel
theorem dX12_deanery_1 : decode cX12_deanery 1 = .ok (.istore_n 1, 1) := by decide +kernel
theorem dX12_deanery_2 : decode cX12_deanery 2 = .ok (.iload_n 1, 1) := by decide +kernel
theorem dX12_deanery_3 : decode cX12_deanery 3 = .ok (.bipush 57, 2) := by decide +kernel
theorem dX12_deanery_5 : decode cX12_deanery 5 = .ok (.if_icmp .ge 16, 3) := by decide +kernel
theorem dX12_deanery_8 : decode cX12_deanery 8 = .ok (.aload_n 0, 1) := by decide +kernel
theorem dX12_deanery_9 : decode cX12_deanery 9 = .ok (.getfield 13, 3) := by decide +kernel
theorem dX12_deanery_12 : decode cX12_deanery 12 = .ok (.iload_n 1, 1) := by decide +kernel
theorem dX12_deanery_13 : decode cX12_deanery 13 = .ok (.iconst 0, 1) := by decide +kernel
theorem dX12_deanery_14 : decode cX12_deanery 14 = .ok (.iastore, 1) := by decide +kernel
theorem dX12_deanery_15 : decode cX12_deanery 15 = .ok (.iinc 1 1, 3) := by decide +kernel
theorem dX12_deanery_18 : decode cX12_deanery 18 = .ok (.goto (-16), 3) := by decide +kernel
theorem dX12_deanery_21 : decode cX12_deanery 21 = .ok (.aload_n 0, 1) := by decide +kernel
theorem dX12_deanery_22 : decode cX12_deanery 22 = .ok (.iconst 0, 1) := by decide +kernel
theorem dX12_deanery_23 : decode cX12_deanery 23 = .ok (.putfield 82, 3) := by decide +kernel
theorem dX12_deanery_26 : decode cX12_deanery 26 = .ok (.aload_n 0, 1) := by decide +kernel
theorem dX12_deanery_27 : decode cX12_deanery 27 = .ok (.iconst (-1), 1) := by decide +kernel
theorem dX12_deanery_28 : decode cX12_deanery 28 = .ok (.putfield 35, 3) := by decide +kernel
theorem dX12_deanery_31 : decode cX12_deanery 31 = .ok (.iconst 1, 1) := by decide +kernel
theorem dX12_deanery_32 : decode cX12_deanery 32 = .ok (.istore_n 1, 1) := by decide +kernel
theorem dX12_deanery_33 : decode cX12_deanery 33 = .ok (.aload_n 0, 1) := by decide +kernel
theorem dX12_deanery_34 : decode cX12_deanery 34 = .ok (.invokevirtual 108, 3) := by decide +kernel
theorem dX12_deanery_37 : decode cX12_deanery 37 = .ok (.aload_n 0, 1) := by decide +kernel
theorem dX12_deanery_38 : decode cX12_deanery 38 = .ok (.getfield 92, 3) := by decide +kernel
theorem dX12_deanery_41 : decode cX12_deanery 41 = .ok (.ifCond .lt 23, 3) := by decide +kernel
theorem dX12_deanery_44 : decode cX12_deanery 44 = .ok (.iload_n 1, 1) := by decide +kernel
theorem dX12_deanery_45 : decode cX12_deanery 45 = .ok (.ifCond .eq 19, 3) := by decide +kernel
theorem dX12_deanery_48 : decode cX12_deanery 48 = .ok (.aload_n 0, 1) := by decide +kernel
theorem dX12_deanery_49 : decode cX12_deanery 49 = .ok (.invokevirtual 129, 3) := by decide +kernel
theorem dX12_deanery_52 : decode cX12_deanery 52 = .ok (.istore_n 1, 1) := by decide +kernel
theorem dX12_deanery_53 : decode cX12_deanery 53 = .ok (.iload_n 1, 1) := by decide +kernel
theorem dX12_deanery_54 : decode cX12_deanery 54 = .ok (.ifCond .eq (-17), 3) := by decide +kernel
theorem dX12_deanery_57 : decode cX12_deanery 57 = .ok (.aload_n 0, 1) := by decide +kernel
theorem dX12_deanery_58 : decode cX12_deanery 58 = .ok (.invokevirtual 108, 3) := by decide +kernel
theorem dX12_deanery_61 : decode cX12_deanery 61 = .ok (.goto (-24), 3) := by decide +kernel
theorem dX12_deanery_64 : decode cX12_deanery 64 = .ok (.aload_n 0, 1) := by decide +kernel
theorem dX12_deanery_65 : decode cX12_deanery 65 = .ok (.iconst 0, 1) := by decide +kernel
theorem dX12_deanery_66 : decode cX12_deanery 66 = .ok (.putfield 78, 3) := by decide +kernel
theorem dX12_deanery_69 : decode cX12_deanery 69 = .ok (.iload_n 1, 1) := by decide +kernel
theorem dX12_deanery_70 : decode cX12_deanery 70 = .ok (.ifCond .ne 19, 3) := by decide +kernel
theorem dX12_deanery_73 : decode cX12_deanery 73 = .ok (.aload_n 0, 1) := by decide +kernel
theorem dX12_deanery_74 : decode cX12_deanery 74 = .ok (.aload_n 0, 1) := by decide +kernel
theorem dX12_deanery_75 : decode cX12_deanery 75 = .ok (.getfield 89, 3) := by decide +kernel
theorem dX12_deanery_78 : decode cX12_deanery 78 = .ok (.putfield 35, 3) := by decide +kernel
theorem dX12_deanery_81 : decode cX12_deanery 81 = .ok (.bipush (-10), 2) := by decide +kernel
theorem dX12_deanery_83 : decode cX12_deanery 83 = .ok (.aload_n 0, 1) := by decide +kernel
theorem dX12_deanery_84 : decode cX12_deanery 84 = .ok (.getfield 105, 3) := by decide +kernel
theorem dX12_deanery_87 : decode cX12_deanery 87 = .ok (.isub, 1) := by decide +kernel
theorem dX12_deanery_88 : decode cX12_deanery 88 = .ok (.ireturn, 1) := by decide +kernel
theorem dX12_deanery_89 : decode cX12_deanery 89 = .ok (.aload_n 0, 1) := by decide +kernel
theorem dX12_deanery_90 : decode cX12_deanery 90 = .ok (.getfield 13, 3) := by decide +kernel
theorem dX12_deanery_93 : decode cX12_deanery 93 = .ok (.iconst 0, 1) := by decide +kernel
theorem dX12_deanery_94 : decode cX12_deanery 94 = .ok (.aload_n 0, 1) := by decide +kernel
theorem dX12_deanery_95 : decode cX12_deanery 95 = .ok (.getfield 7, 3) := by decide +kernel
theorem dX12_deanery_98 : decode cX12_deanery 98 = .ok (.iconst 0, 1) := by decide +kernel
theorem dX12_deanery_99 : decode cX12_deanery 99 = .ok (.bipush 57, 2) := by decide +kernel
theorem dX12_deanery_101 : decode cX12_deanery 101 = .ok (.invokestatic 62, 3) := by decide +kernel
theorem dX12_deanery_104 : decode cX12_deanery 104 = .ok (.aload_n 0, 1) := by decide +kernel
theorem dX12_deanery_105 : decode cX12_deanery 105 = .ok (.invokevirtual 51, 3) := by decide +kernel
theorem dX12_deanery_108 : decode cX12_deanery 108 = .ok (.aload_n 0, 1) := by decide +kernel
theorem dX12_deanery_109 : decode cX12_deanery 109 = .ok (.getfield 7, 3) := by decide +kernel
theorem dX12_deanery_112 : decode cX12_deanery 112 = .ok (.iconst 1, 1) := by decide +kernel
theorem dX12_deanery_113 : decode cX12_deanery 113 = .ok (.iaload, 1) := by decide +kernel
theorem dX12_deanery_114 : decode cX12_deanery 114 = .ok (.ireturn, 1) := by decide +kernel
theorem dX12_fault_0 : decode cX12_fault 0 = .ok (.aload_n 0, 1) := by decide +kernel
theorem dX12_fault_1 : decode cX12_fault 1 = .ok (.getfield 35, 3) := by decide +kernel
theorem dX12_fault_4 : decode cX12_fault 4 = .ok (.ireturn, 1) := by decide +kernel
theorem dX12_isCouple_0 : decode cX12_isCouple 0 = .ok (.iload_n 1, 1) := by decide +kernel
theorem dX12_isCouple_1 : decode cX12_isCouple 1 = .ok (.i2l, 1) := by decide +kernel
theorem dX12_isCouple_2 : decode cX12_isCouple 2 = .ok (.lconst 0, 1) := by decide +kernel
theorem dX12_isCouple_3 : decode cX12_isCouple 3 = .ok (.aload_n 0, 1) := by decide +kernel
theorem dX12_isCouple_4 : decode cX12_isCouple 4 = .ok (.getfield 7, 3) := by decide +kernel
theorem dX12_isCouple_7 : decode cX12_isCouple 7 = .ok (.iconst 1, 1) := by decide +kernel
theorem dX12_isCouple_8 : decode cX12_isCouple 8 = .ok (.iaload, 1) := by decide +kernel
theorem dX12_isCouple_9 : decode cX12_isCouple 9 = .ok (.iconst 1, 1) := by decide +kernel
theorem dX12_isCouple_10 : decode cX12_isCouple 10 = .ok (.isub, 1) := by decide +kernel
theorem dX12_isCouple_11 : decode cX12_isCouple 11 = .ok (.i2l, 1) := by decide +kernel
theorem dX12_isCouple_12 : decode cX12_isCouple 12 = .ok (.invokestatic 58, 3) := by decide +kernel
theorem dX12_isCouple_15 : decode cX12_isCouple 15 = .ok (.ireturn, 1) := by decide +kernel
theorem dX12_isObjector_0 : decode cX12_isObjector 0 = .ok (.iload_n 1, 1) := by decide +kernel
theorem dX12_isObjector_1 : decode cX12_isObjector 1 = .ok (.i2l, 1) := by decide +kernel
theorem dX12_isObjector_2 : decode cX12_isObjector 2 = .ok (.lconst 0, 1) := by decide +kernel
theorem dX12_isObjector_3 : decode cX12_isObjector 3 = .ok (.aload_n 0, 1) := by decide +kernel
theorem dX12_isObjector_4 : decode cX12_isObjector 4 = .ok (.getfield 7, 3) := by decide +kernel
theorem dX12_isObjector_7 : decode cX12_isObjector 7 = .ok (.iconst 2, 1) := by decide +kernel
theorem dX12_isObjector_8 : decode cX12_isObjector 8 = .ok (.iaload, 1) := by decide +kernel
theorem dX12_isObjector_9 : decode cX12_isObjector 9 = .ok (.iconst 1, 1) := by decide +kernel
theorem dX12_isObjector_10 : decode cX12_isObjector 10 = .ok (.isub, 1) := by decide +kernel
theorem dX12_isObjector_11 : decode cX12_isObjector 11 = .ok (.i2l, 1) := by decide +kernel
theorem dX12_isObjector_12 : decode cX12_isObjector 12 = .ok (.invokestatic 58, 3) := by decide +kernel
theorem dX12_isObjector_15 : decode cX12_isObjector 15 = .ok (.ireturn, 1) := by decide +kernel
theorem dX12_reasonOn_0 : decode cX12_reasonOn 0 = .ok (.iconst (-1), 1) := by decide +kernel
theorem dX12_reasonOn_1 : decode cX12_reasonOn 1 = .ok (.istore 4, 2) := by decide +kernel
theorem dX12_reasonOn_3 : decode cX12_reasonOn 3 = .ok (.iconst 0, 1) := by decide +kernel
theorem dX12_reasonOn_4 : decode cX12_reasonOn 4 = .ok (.istore 5, 2) := by decide +kernel
theorem dX12_reasonOn_6 : decode cX12_reasonOn 6 = .ok (.iload 5, 2) := by decide +kernel
theorem dX12_reasonOn_8 : decode cX12_reasonOn 8 = .ok (.iconst 5, 1) := by decide +kernel
theorem dX12_reasonOn_9 : decode cX12_reasonOn 9 = .ok (.if_icmp .ge 88, 3) := by decide +kernel
theorem dX12_reasonOn_12 : decode cX12_reasonOn 12 = .ok (.aload_n 0, 1) := by decide +kernel
theorem dX12_reasonOn_13 : decode cX12_reasonOn 13 = .ok (.getfield 7, 3) := by decide +kernel
theorem dX12_reasonOn_16 : decode cX12_reasonOn 16 = .ok (.bipush 39, 2) := by decide +kernel
theorem dX12_reasonOn_18 : decode cX12_reasonOn 18 = .ok (.iload_n 2, 1) := by decide +kernel
theorem dX12_reasonOn_19 : decode cX12_reasonOn 19 = .ok (.iadd, 1) := by decide +kernel
theorem dX12_reasonOn_20 : decode cX12_reasonOn 20 = .ok (.iaload, 1) := by decide +kernel
theorem dX12_reasonOn_21 : decode cX12_reasonOn 21 = .ok (.iconst 3, 1) := by decide +kernel
theorem dX12_reasonOn_22 : decode cX12_reasonOn 22 = .ok (.if_icmp .eq 75, 3) := by decide +kernel
theorem dX12_reasonOn_25 : decode cX12_reasonOn 25 = .ok (.iload 4, 2) := by decide +kernel
theorem dX12_reasonOn_27 : decode cX12_reasonOn 27 = .ok (.iconst (-1), 1) := by decide +kernel
theorem dX12_reasonOn_28 : decode cX12_reasonOn 28 = .ok (.if_icmp .eq 28, 3) := by decide +kernel
theorem dX12_reasonOn_31 : decode cX12_reasonOn 31 = .ok (.aload_n 1, 1) := by decide +kernel
theorem dX12_reasonOn_32 : decode cX12_reasonOn 32 = .ok (.bipush 19, 2) := by decide +kernel
theorem dX12_reasonOn_34 : decode cX12_reasonOn 34 = .ok (.iconst 5, 1) := by decide +kernel
theorem dX12_reasonOn_35 : decode cX12_reasonOn 35 = .ok (.iload_n 3, 1) := by decide +kernel
theorem dX12_reasonOn_36 : decode cX12_reasonOn 36 = .ok (.imul, 1) := by decide +kernel
theorem dX12_reasonOn_37 : decode cX12_reasonOn 37 = .ok (.iadd, 1) := by decide +kernel
theorem dX12_reasonOn_38 : decode cX12_reasonOn 38 = .ok (.iload 5, 2) := by decide +kernel
theorem dX12_reasonOn_40 : decode cX12_reasonOn 40 = .ok (.iadd, 1) := by decide +kernel
theorem dX12_reasonOn_41 : decode cX12_reasonOn 41 = .ok (.iaload, 1) := by decide +kernel
theorem dX12_reasonOn_42 : decode cX12_reasonOn 42 = .ok (.aload_n 1, 1) := by decide +kernel
theorem dX12_reasonOn_43 : decode cX12_reasonOn 43 = .ok (.bipush 19, 2) := by decide +kernel
theorem dX12_reasonOn_45 : decode cX12_reasonOn 45 = .ok (.iconst 5, 1) := by decide +kernel
theorem dX12_reasonOn_46 : decode cX12_reasonOn 46 = .ok (.iload_n 3, 1) := by decide +kernel
theorem dX12_reasonOn_47 : decode cX12_reasonOn 47 = .ok (.imul, 1) := by decide +kernel
theorem dX12_reasonOn_48 : decode cX12_reasonOn 48 = .ok (.iadd, 1) := by decide +kernel
theorem dX12_reasonOn_49 : decode cX12_reasonOn 49 = .ok (.iload 4, 2) := by decide +kernel
theorem dX12_reasonOn_51 : decode cX12_reasonOn 51 = .ok (.iadd, 1) := by decide +kernel
theorem dX12_reasonOn_52 : decode cX12_reasonOn 52 = .ok (.iaload, 1) := by decide +kernel
theorem dX12_reasonOn_53 : decode cX12_reasonOn 53 = .ok (.if_icmp .le 7, 3) := by decide +kernel
theorem dX12_reasonOn_56 : decode cX12_reasonOn 56 = .ok (.iconst 1, 1) := by decide +kernel
theorem dX12_reasonOn_57 : decode cX12_reasonOn 57 = .ok (.goto 4, 3) := by decide +kernel
theorem dX12_reasonOn_60 : decode cX12_reasonOn 60 = .ok (.iconst 0, 1) := by decide +kernel
theorem dX12_reasonOn_61 : decode cX12_reasonOn 61 = .ok (.istore 6, 2) := by decide +kernel
theorem dX12_reasonOn_63 : decode cX12_reasonOn 63 = .ok (.aload_n 1, 1) := by decide +kernel
theorem dX12_reasonOn_64 : decode cX12_reasonOn 64 = .ok (.bipush 55, 2) := by decide +kernel
theorem dX12_reasonOn_66 : decode cX12_reasonOn 66 = .ok (.iload_n 2, 1) := by decide +kernel
theorem dX12_reasonOn_67 : decode cX12_reasonOn 67 = .ok (.iadd, 1) := by decide +kernel
theorem dX12_reasonOn_68 : decode cX12_reasonOn 68 = .ok (.iaload, 1) := by decide +kernel
theorem dX12_reasonOn_69 : decode cX12_reasonOn 69 = .ok (.iload 5, 2) := by decide +kernel
theorem dX12_reasonOn_71 : decode cX12_reasonOn 71 = .ok (.invokestatic 132, 3) := by decide +kernel
theorem dX12_reasonOn_74 : decode cX12_reasonOn 74 = .ok (.ifCond .eq 13, 3) := by decide +kernel
theorem dX12_reasonOn_77 : decode cX12_reasonOn 77 = .ok (.iload 6, 2) := by decide +kernel
theorem dX12_reasonOn_79 : decode cX12_reasonOn 79 = .ok (.ifCond .eq 8, 3) := by decide +kernel
theorem dX12_reasonOn_82 : decode cX12_reasonOn 82 = .ok (.iload 5, 2) := by decide +kernel
theorem dX12_reasonOn_84 : decode cX12_reasonOn 84 = .ok (.goto 5, 3) := by decide +kernel
theorem dX12_reasonOn_87 : decode cX12_reasonOn 87 = .ok (.iload 4, 2) := by decide +kernel
theorem dX12_reasonOn_89 : decode cX12_reasonOn 89 = .ok (.istore 4, 2) := by decide +kernel
theorem dX12_reasonOn_91 : decode cX12_reasonOn 91 = .ok (.iinc 5 1, 3) := by decide +kernel
theorem dX12_reasonOn_94 : decode cX12_reasonOn 94 = .ok (.goto (-88), 3) := by decide +kernel
theorem dX12_reasonOn_97 : decode cX12_reasonOn 97 = .ok (.iload 4, 2) := by decide +kernel
theorem dX12_reasonOn_99 : decode cX12_reasonOn 99 = .ok (.ireturn, 1) := by decide +kernel
theorem dX12_strengthBy_0 : decode cX12_strengthBy 0 = .ok (.iload_n 0, 1) := by decide +kernel
theorem dX12_strengthBy_1 : decode cX12_strengthBy 1 = .ok (.tableswitch 45 0 2 #[27, 31, 39], 27) := by decide +kernel
theorem dX12_strengthBy_28 : decode cX12_strengthBy 28 = .ok (.iload_n 2, 1) := by decide +kernel
theorem dX12_strengthBy_29 : decode cX12_strengthBy 29 = .ok (.iload_n 1, 1) := by decide +kernel
theorem dX12_strengthBy_30 : decode cX12_strengthBy 30 = .ok (.iadd, 1) := by decide +kernel
theorem dX12_strengthBy_31 : decode cX12_strengthBy 31 = .ok (.ireturn, 1) := by decide +kernel
theorem dX12_strengthBy_32 : decode cX12_strengthBy 32 = .ok (.iconst 2, 1) := by decide +kernel
theorem dX12_strengthBy_33 : decode cX12_strengthBy 33 = .ok (.iload_n 2, 1) := by decide +kernel
theorem dX12_strengthBy_34 : decode cX12_strengthBy 34 = .ok (.imul, 1) := by decide +kernel
theorem dX12_strengthBy_35 : decode cX12_strengthBy 35 = .ok (.iload_n 1, 1) := by decide +kernel
theorem dX12_strengthBy_36 : decode cX12_strengthBy 36 = .ok (.iconst 2, 1) := by decide +kernel
theorem dX12_strengthBy_37 : decode cX12_strengthBy 37 = .ok (.idiv, 1) := by decide +kernel
theorem dX12_strengthBy_38 : decode cX12_strengthBy 38 = .ok (.iadd, 1) := by decide +kernel
theorem dX12_strengthBy_39 : decode cX12_strengthBy 39 = .ok (.ireturn, 1) := by decide +kernel
theorem dX12_strengthBy_40 : decode cX12_strengthBy 40 = .ok (.iload_n 2, 1) := by decide +kernel
theorem dX12_strengthBy_41 : decode cX12_strengthBy 41 = .ok (.iload_n 1, 1) := by decide +kernel
theorem dX12_strengthBy_42 : decode cX12_strengthBy 42 = .ok (.imul, 1) := by decide +kernel
theorem dX12_strengthBy_43 : decode cX12_strengthBy 43 = .ok (.iconst 4, 1) := by decide +kernel
theorem dX12_strengthBy_44 : decode cX12_strengthBy 44 = .ok (.idiv, 1) := by decide +kernel
theorem dX12_strengthBy_45 : decode cX12_strengthBy 45 = .ok (.ireturn, 1) := by decide +kernel
theorem dX12_strengthBy_46 : decode cX12_strengthBy 46 = .ok (.iload_n 1, 1) := by decide +kernel
theorem dX12_strengthBy_47 : decode cX12_strengthBy 47 = .ok (.ireturn, 1) := by decide +kernel
theorem dX12_strengthOn_0 : decode cX12_strengthOn 0 = .ok (.aload_n 0, 1) := by decide +kernel
theorem dX12_strengthOn_1 : decode cX12_strengthOn 1 = .ok (.aload_n 1, 1) := by decide +kernel
theorem dX12_strengthOn_2 : decode cX12_strengthOn 2 = .ok (.iload_n 2, 1) := by decide +kernel
theorem dX12_strengthOn_3 : decode cX12_strengthOn 3 = .ok (.iload_n 3, 1) := by decide +kernel
theorem dX12_strengthOn_4 : decode cX12_strengthOn 4 = .ok (.invokevirtual 136, 3) := by decide +kernel
theorem dX12_strengthOn_7 : decode cX12_strengthOn 7 = .ok (.istore 4, 2) := by decide +kernel
theorem dX12_strengthOn_9 : decode cX12_strengthOn 9 = .ok (.aload_n 0, 1) := by decide +kernel
theorem dX12_strengthOn_10 : decode cX12_strengthOn 10 = .ok (.getfield 7, 3) := by decide +kernel
theorem dX12_strengthOn_13 : decode cX12_strengthOn 13 = .ok (.bipush 39, 2) := by decide +kernel
theorem dX12_strengthOn_15 : decode cX12_strengthOn 15 = .ok (.iload_n 2, 1) := by decide +kernel
theorem dX12_strengthOn_16 : decode cX12_strengthOn 16 = .ok (.iadd, 1) := by decide +kernel
theorem dX12_strengthOn_17 : decode cX12_strengthOn 17 = .ok (.iaload, 1) := by decide +kernel
theorem dX12_strengthOn_18 : decode cX12_strengthOn 18 = .ok (.aload_n 1, 1) := by decide +kernel
theorem dX12_strengthOn_19 : decode cX12_strengthOn 19 = .ok (.bipush 49, 2) := by decide +kernel
theorem dX12_strengthOn_21 : decode cX12_strengthOn 21 = .ok (.iload_n 2, 1) := by decide +kernel
theorem dX12_strengthOn_22 : decode cX12_strengthOn 22 = .ok (.iadd, 1) := by decide +kernel
theorem dX12_strengthOn_23 : decode cX12_strengthOn 23 = .ok (.iaload, 1) := by decide +kernel
theorem dX12_strengthOn_24 : decode cX12_strengthOn 24 = .ok (.iload 4, 2) := by decide +kernel
theorem dX12_strengthOn_26 : decode cX12_strengthOn 26 = .ok (.iconst (-1), 1) := by decide +kernel
theorem dX12_strengthOn_27 : decode cX12_strengthOn 27 = .ok (.if_icmp .ne 7, 3) := by decide +kernel
theorem dX12_strengthOn_30 : decode cX12_strengthOn 30 = .ok (.iconst 0, 1) := by decide +kernel
theorem dX12_strengthOn_31 : decode cX12_strengthOn 31 = .ok (.goto 14, 3) := by decide +kernel
theorem dX12_strengthOn_34 : decode cX12_strengthOn 34 = .ok (.aload_n 1, 1) := by decide +kernel
theorem dX12_strengthOn_35 : decode cX12_strengthOn 35 = .ok (.bipush 19, 2) := by decide +kernel
theorem dX12_strengthOn_37 : decode cX12_strengthOn 37 = .ok (.iconst 5, 1) := by decide +kernel
theorem dX12_strengthOn_38 : decode cX12_strengthOn 38 = .ok (.iload_n 3, 1) := by decide +kernel
theorem dX12_strengthOn_39 : decode cX12_strengthOn 39 = .ok (.imul, 1) := by decide +kernel
theorem dX12_strengthOn_40 : decode cX12_strengthOn 40 = .ok (.iadd, 1) := by decide +kernel
theorem dX12_strengthOn_41 : decode cX12_strengthOn 41 = .ok (.iload 4, 2) := by decide +kernel
theorem dX12_strengthOn_43 : decode cX12_strengthOn 43 = .ok (.iadd, 1) := by decide +kernel
theorem dX12_strengthOn_44 : decode cX12_strengthOn 44 = .ok (.iaload, 1) := by decide +kernel
theorem dX12_strengthOn_45 : decode cX12_strengthOn 45 = .ok (.invokestatic 140, 3) := by decide +kernel
theorem dX12_strengthOn_48 : decode cX12_strengthOn 48 = .ok (.ireturn, 1) := by decide +kernel
theorem dX12_counts_0 : decode cX12_counts 0 = .ok (.aload_n 0, 1) := by decide +kernel
theorem dX12_counts_1 : decode cX12_counts 1 = .ok (.aload_n 1, 1) := by decide +kernel
theorem dX12_counts_2 : decode cX12_counts 2 = .ok (.iload_n 2, 1) := by decide +kernel
theorem dX12_counts_3 : decode cX12_counts 3 = .ok (.iload_n 3, 1) := by decide +kernel
theorem dX12_counts_4 : decode cX12_counts 4 = .ok (.invokevirtual 144, 3) := by decide +kernel
theorem dX12_counts_7 : decode cX12_counts 7 = .ok (.aload_n 0, 1) := by decide +kernel
theorem dX12_counts_8 : decode cX12_counts 8 = .ok (.getfield 7, 3) := by decide +kernel
theorem dX12_counts_11 : decode cX12_counts 11 = .ok (.iconst 0, 1) := by decide +kernel
theorem dX12_counts_12 : decode cX12_counts 12 = .ok (.iaload, 1) := by decide +kernel
theorem dX12_counts_13 : decode cX12_counts 13 = .ok (.if_icmp .lt 7, 3) := by decide +kernel
theorem dX12_counts_16 : decode cX12_counts 16 = .ok (.iconst 1, 1) := by decide +kernel
theorem dX12_counts_17 : decode cX12_counts 17 = .ok (.goto 4, 3) := by decide +kernel
theorem dX12_counts_20 : decode cX12_counts 20 = .ok (.iconst 0, 1) := by decide +kernel
theorem dX12_counts_21 : decode cX12_counts 21 = .ok (.ireturn, 1) := by decide +kernel
theorem dX12_weds_0 : decode cX12_weds 0 = .ok (.aload_n 0, 1) := by decide +kernel
theorem dX12_weds_1 : decode cX12_weds 1 = .ok (.aload_n 1, 1) := by decide +kernel
theorem dX12_weds_2 : decode cX12_weds 2 = .ok (.iload_n 2, 1) := by decide +kernel
theorem dX12_weds_3 : decode cX12_weds 3 = .ok (.iload_n 3, 1) := by decide +kernel
theorem dX12_weds_4 : decode cX12_weds 4 = .ok (.invokevirtual 147, 3) := by decide +kernel
theorem dX12_weds_7 : decode cX12_weds 7 = .ok (.ifCond .eq 22, 3) := by decide +kernel
theorem dX12_weds_10 : decode cX12_weds 10 = .ok (.aload_n 1, 1) := by decide +kernel
theorem dX12_weds_11 : decode cX12_weds 11 = .ok (.iconst 1, 1) := by decide +kernel
theorem dX12_weds_12 : decode cX12_weds 12 = .ok (.iload_n 3, 1) := by decide +kernel
theorem dX12_weds_13 : decode cX12_weds 13 = .ok (.iadd, 1) := by decide +kernel
theorem dX12_weds_14 : decode cX12_weds 14 = .ok (.iaload, 1) := by decide +kernel
theorem dX12_weds_15 : decode cX12_weds 15 = .ok (.aload_n 0, 1) := by decide +kernel
theorem dX12_weds_16 : decode cX12_weds 16 = .ok (.aload_n 1, 1) := by decide +kernel
theorem dX12_weds_17 : decode cX12_weds 17 = .ok (.iload_n 2, 1) := by decide +kernel
theorem dX12_weds_18 : decode cX12_weds 18 = .ok (.iload_n 3, 1) := by decide +kernel
theorem dX12_weds_19 : decode cX12_weds 19 = .ok (.invokevirtual 144, 3) := by decide +kernel
theorem dX12_weds_22 : decode cX12_weds 22 = .ok (.if_icmp .lt 7, 3) := by decide +kernel
theorem dX12_weds_25 : decode cX12_weds 25 = .ok (.iconst 1, 1) := by decide +kernel
theorem dX12_weds_26 : decode cX12_weds 26 = .ok (.goto 4, 3) := by decide +kernel
theorem dX12_weds_29 : decode cX12_weds 29 = .ok (.iconst 0, 1) := by decide +kernel
theorem dX12_weds_30 : decode cX12_weds 30 = .ok (.ireturn, 1) := by decide +kernel
theorem dX12_those_0 : decode cX12_those 0 = .ok (.iconst 0, 1) := by decide +kernel
theorem dX12_those_1 : decode cX12_those 1 = .ok (.istore_n 2, 1) := by decide +kernel
theorem dX12_those_2 : decode cX12_those 2 = .ok (.iconst 0, 1) := by decide +kernel
theorem dX12_those_3 : decode cX12_those 3 = .ok (.istore_n 3, 1) := by decide +kernel
theorem dX12_those_4 : decode cX12_those 4 = .ok (.iload_n 3, 1) := by decide +kernel
theorem dX12_those_5 : decode cX12_those 5 = .ok (.aload_n 0, 1) := by decide +kernel
theorem dX12_those_6 : decode cX12_those 6 = .ok (.getfield 7, 3) := by decide +kernel
theorem dX12_those_9 : decode cX12_those 9 = .ok (.iconst 1, 1) := by decide +kernel
theorem dX12_those_10 : decode cX12_those 10 = .ok (.iaload, 1) := by decide +kernel
theorem dX12_those_11 : decode cX12_those 11 = .ok (.if_icmp .ge 32, 3) := by decide +kernel
theorem dX12_those_14 : decode cX12_those 14 = .ok (.iload_n 2, 1) := by decide +kernel
theorem dX12_those_15 : decode cX12_those 15 = .ok (.aload_n 0, 1) := by decide +kernel
theorem dX12_those_16 : decode cX12_those 16 = .ok (.getfield 16, 3) := by decide +kernel
theorem dX12_those_19 : decode cX12_those 19 = .ok (.bipush 7, 2) := by decide +kernel
theorem dX12_those_21 : decode cX12_those 21 = .ok (.iload_n 3, 1) := by decide +kernel
theorem dX12_those_22 : decode cX12_those 22 = .ok (.iadd, 1) := by decide +kernel
theorem dX12_those_23 : decode cX12_those 23 = .ok (.iaload, 1) := by decide +kernel
theorem dX12_those_24 : decode cX12_those 24 = .ok (.iload_n 1, 1) := by decide +kernel
theorem dX12_those_25 : decode cX12_those 25 = .ok (.if_icmp .ne 9, 3) := by decide +kernel
theorem dX12_those_28 : decode cX12_those 28 = .ok (.iconst 1, 1) := by decide +kernel
theorem dX12_those_29 : decode cX12_those 29 = .ok (.iload_n 3, 1) := by decide +kernel
theorem dX12_those_30 : decode cX12_those 30 = .ok (.ishl, 1) := by decide +kernel
theorem dX12_those_31 : decode cX12_those 31 = .ok (.goto 4, 3) := by decide +kernel
theorem dX12_those_34 : decode cX12_those 34 = .ok (.iconst 0, 1) := by decide +kernel
theorem dX12_those_35 : decode cX12_those 35 = .ok (.ior, 1) := by decide +kernel
theorem dX12_those_36 : decode cX12_those 36 = .ok (.istore_n 2, 1) := by decide +kernel
theorem dX12_those_37 : decode cX12_those 37 = .ok (.iinc 3 1, 3) := by decide +kernel
theorem dX12_those_40 : decode cX12_those 40 = .ok (.goto (-36), 3) := by decide +kernel
theorem dX12_those_43 : decode cX12_those 43 = .ok (.iload_n 2, 1) := by decide +kernel
theorem dX12_those_44 : decode cX12_those 44 = .ok (.ireturn, 1) := by decide +kernel
theorem dX12_can_0 : decode cX12_can 0 = .ok (.iconst 0, 1) := by decide +kernel
theorem dX12_can_1 : decode cX12_can 1 = .ok (.istore_n 2, 1) := by decide +kernel
theorem dX12_can_2 : decode cX12_can 2 = .ok (.iconst 0, 1) := by decide +kernel
theorem dX12_can_3 : decode cX12_can 3 = .ok (.istore_n 3, 1) := by decide +kernel
theorem dX12_can_4 : decode cX12_can 4 = .ok (.iload_n 3, 1) := by decide +kernel
theorem dX12_can_5 : decode cX12_can 5 = .ok (.aload_n 0, 1) := by decide +kernel
theorem dX12_can_6 : decode cX12_can 6 = .ok (.getfield 7, 3) := by decide +kernel
theorem dX12_can_9 : decode cX12_can 9 = .ok (.iconst 2, 1) := by decide +kernel
theorem dX12_can_10 : decode cX12_can 10 = .ok (.iaload, 1) := by decide +kernel
theorem dX12_can_11 : decode cX12_can 11 = .ok (.if_icmp .ge 44, 3) := by decide +kernel
theorem dX12_can_14 : decode cX12_can 14 = .ok (.iload_n 2, 1) := by decide +kernel
theorem dX12_can_15 : decode cX12_can 15 = .ok (.aload_n 0, 1) := by decide +kernel
theorem dX12_can_16 : decode cX12_can 16 = .ok (.getfield 16, 3) := by decide +kernel
theorem dX12_can_19 : decode cX12_can 19 = .ok (.bipush 7, 2) := by decide +kernel
theorem dX12_can_21 : decode cX12_can 21 = .ok (.iload_n 1, 1) := by decide +kernel
theorem dX12_can_22 : decode cX12_can 22 = .ok (.iadd, 1) := by decide +kernel
theorem dX12_can_23 : decode cX12_can 23 = .ok (.iaload, 1) := by decide +kernel
theorem dX12_can_24 : decode cX12_can 24 = .ok (.ifCond .ne 22, 3) := by decide +kernel
theorem dX12_can_27 : decode cX12_can 27 = .ok (.aload_n 0, 1) := by decide +kernel
theorem dX12_can_28 : decode cX12_can 28 = .ok (.aload_n 0, 1) := by decide +kernel
theorem dX12_can_29 : decode cX12_can 29 = .ok (.getfield 16, 3) := by decide +kernel
theorem dX12_can_32 : decode cX12_can 32 = .ok (.iload_n 3, 1) := by decide +kernel
theorem dX12_can_33 : decode cX12_can 33 = .ok (.iload_n 1, 1) := by decide +kernel
theorem dX12_can_34 : decode cX12_can 34 = .ok (.invokevirtual 151, 3) := by decide +kernel
theorem dX12_can_37 : decode cX12_can 37 = .ok (.ifCond .eq 9, 3) := by decide +kernel
theorem dX12_can_40 : decode cX12_can 40 = .ok (.iconst 1, 1) := by decide +kernel
theorem dX12_can_41 : decode cX12_can 41 = .ok (.iload_n 3, 1) := by decide +kernel
theorem dX12_can_42 : decode cX12_can 42 = .ok (.ishl, 1) := by decide +kernel
theorem dX12_can_43 : decode cX12_can 43 = .ok (.goto 4, 3) := by decide +kernel
theorem dX12_can_46 : decode cX12_can 46 = .ok (.iconst 0, 1) := by decide +kernel
theorem dX12_can_47 : decode cX12_can 47 = .ok (.ior, 1) := by decide +kernel
theorem dX12_can_48 : decode cX12_can 48 = .ok (.istore_n 2, 1) := by decide +kernel
theorem dX12_can_49 : decode cX12_can 49 = .ok (.iinc 3 1, 3) := by decide +kernel
theorem dX12_can_52 : decode cX12_can 52 = .ok (.goto (-48), 3) := by decide +kernel
theorem dX12_can_55 : decode cX12_can 55 = .ok (.iload_n 2, 1) := by decide +kernel
theorem dX12_can_56 : decode cX12_can 56 = .ok (.ireturn, 1) := by decide +kernel
theorem dX12_plain_0 : decode cX12_plain 0 = .ok (.aload_n 0, 1) := by decide +kernel
theorem dX12_plain_1 : decode cX12_plain 1 = .ok (.iconst 0, 1) := by decide +kernel
theorem dX12_plain_2 : decode cX12_plain 2 = .ok (.invokevirtual 154, 3) := by decide +kernel
theorem dX12_plain_5 : decode cX12_plain 5 = .ok (.istore_n 1, 1) := by decide +kernel
theorem dX12_plain_6 : decode cX12_plain 6 = .ok (.iconst 0, 1) := by decide +kernel
theorem dX12_plain_7 : decode cX12_plain 7 = .ok (.istore_n 2, 1) := by decide +kernel
theorem dX12_plain_8 : decode cX12_plain 8 = .ok (.iload_n 2, 1) := by decide +kernel
theorem dX12_plain_9 : decode cX12_plain 9 = .ok (.aload_n 0, 1) := by decide +kernel
theorem dX12_plain_10 : decode cX12_plain 10 = .ok (.getfield 7, 3) := by decide +kernel
theorem dX12_plain_13 : decode cX12_plain 13 = .ok (.iconst 1, 1) := by decide +kernel
theorem dX12_plain_14 : decode cX12_plain 14 = .ok (.iaload, 1) := by decide +kernel
theorem dX12_plain_15 : decode cX12_plain 15 = .ok (.if_icmp .ge 52, 3) := by decide +kernel
theorem dX12_plain_18 : decode cX12_plain 18 = .ok (.iconst 0, 1) := by decide +kernel
theorem dX12_plain_19 : decode cX12_plain 19 = .ok (.istore_n 3, 1) := by decide +kernel
theorem dX12_plain_20 : decode cX12_plain 20 = .ok (.iload_n 3, 1) := by decide +kernel
theorem dX12_plain_21 : decode cX12_plain 21 = .ok (.aload_n 0, 1) := by decide +kernel
theorem dX12_plain_22 : decode cX12_plain 22 = .ok (.getfield 7, 3) := by decide +kernel
theorem dX12_plain_25 : decode cX12_plain 25 = .ok (.iconst 2, 1) := by decide +kernel
theorem dX12_plain_26 : decode cX12_plain 26 = .ok (.iaload, 1) := by decide +kernel
theorem dX12_plain_27 : decode cX12_plain 27 = .ok (.if_icmp .ge 34, 3) := by decide +kernel
theorem dX12_plain_30 : decode cX12_plain 30 = .ok (.iload_n 1, 1) := by decide +kernel
theorem dX12_plain_31 : decode cX12_plain 31 = .ok (.aload_n 0, 1) := by decide +kernel
theorem dX12_plain_32 : decode cX12_plain 32 = .ok (.aload_n 0, 1) := by decide +kernel
theorem dX12_plain_33 : decode cX12_plain 33 = .ok (.getfield 16, 3) := by decide +kernel
theorem dX12_plain_36 : decode cX12_plain 36 = .ok (.iload_n 3, 1) := by decide +kernel
theorem dX12_plain_37 : decode cX12_plain 37 = .ok (.iload_n 2, 1) := by decide +kernel
theorem dX12_plain_38 : decode cX12_plain 38 = .ok (.invokevirtual 147, 3) := by decide +kernel
theorem dX12_plain_41 : decode cX12_plain 41 = .ok (.ifCond .eq 11, 3) := by decide +kernel
theorem dX12_plain_44 : decode cX12_plain 44 = .ok (.iconst 1, 1) := by decide +kernel
theorem dX12_plain_45 : decode cX12_plain 45 = .ok (.iload_n 2, 1) := by decide +kernel
theorem dX12_plain_46 : decode cX12_plain 46 = .ok (.ishl, 1) := by decide +kernel
theorem dX12_plain_47 : decode cX12_plain 47 = .ok (.iconst (-1), 1) := by decide +kernel
theorem dX12_plain_48 : decode cX12_plain 48 = .ok (.ixor, 1) := by decide +kernel
theorem dX12_plain_49 : decode cX12_plain 49 = .ok (.goto 4, 3) := by decide +kernel
theorem dX12_plain_52 : decode cX12_plain 52 = .ok (.iconst (-1), 1) := by decide +kernel
theorem dX12_plain_53 : decode cX12_plain 53 = .ok (.iand, 1) := by decide +kernel
theorem dX12_plain_54 : decode cX12_plain 54 = .ok (.istore_n 1, 1) := by decide +kernel
theorem dX12_plain_55 : decode cX12_plain 55 = .ok (.iinc 3 1, 3) := by decide +kernel
theorem dX12_plain_58 : decode cX12_plain 58 = .ok (.goto (-38), 3) := by decide +kernel
theorem dX12_plain_61 : decode cX12_plain 61 = .ok (.iinc 2 1, 3) := by decide +kernel
theorem dX12_plain_64 : decode cX12_plain 64 = .ok (.goto (-56), 3) := by decide +kernel
theorem dX12_plain_67 : decode cX12_plain 67 = .ok (.iload_n 1, 1) := by decide +kernel
theorem dX12_plain_68 : decode cX12_plain 68 = .ok (.ireturn, 1) := by decide +kernel
theorem dX12_firmest_0 : decode cX12_firmest 0 = .ok (.iconst (-1), 1) := by decide +kernel
theorem dX12_firmest_1 : decode cX12_firmest 1 = .ok (.istore_n 1, 1) := by decide +kernel
theorem dX12_firmest_2 : decode cX12_firmest 2 = .ok (.iconst 0, 1) := by decide +kernel
theorem dX12_firmest_3 : decode cX12_firmest 3 = .ok (.istore_n 2, 1) := by decide +kernel
theorem dX12_firmest_4 : decode cX12_firmest 4 = .ok (.iload_n 2, 1) := by decide +kernel
theorem dX12_firmest_5 : decode cX12_firmest 5 = .ok (.aload_n 0, 1) := by decide +kernel
theorem dX12_firmest_6 : decode cX12_firmest 6 = .ok (.getfield 7, 3) := by decide +kernel
theorem dX12_firmest_9 : decode cX12_firmest 9 = .ok (.iconst 1, 1) := by decide +kernel
theorem dX12_firmest_10 : decode cX12_firmest 10 = .ok (.iaload, 1) := by decide +kernel
theorem dX12_firmest_11 : decode cX12_firmest 11 = .ok (.if_icmp .ge 64, 3) := by decide +kernel
theorem dX12_firmest_14 : decode cX12_firmest 14 = .ok (.aload_n 0, 1) := by decide +kernel
theorem dX12_firmest_15 : decode cX12_firmest 15 = .ok (.getfield 16, 3) := by decide +kernel
theorem dX12_firmest_18 : decode cX12_firmest 18 = .ok (.bipush 7, 2) := by decide +kernel
theorem dX12_firmest_20 : decode cX12_firmest 20 = .ok (.iload_n 2, 1) := by decide +kernel
theorem dX12_firmest_21 : decode cX12_firmest 21 = .ok (.iadd, 1) := by decide +kernel
theorem dX12_firmest_22 : decode cX12_firmest 22 = .ok (.iaload, 1) := by decide +kernel
theorem dX12_firmest_23 : decode cX12_firmest 23 = .ok (.iconst 1, 1) := by decide +kernel
theorem dX12_firmest_24 : decode cX12_firmest 24 = .ok (.if_icmp .ne 7, 3) := by decide +kernel
theorem dX12_firmest_27 : decode cX12_firmest 27 = .ok (.iconst 1, 1) := by decide +kernel
theorem dX12_firmest_28 : decode cX12_firmest 28 = .ok (.goto 4, 3) := by decide +kernel
theorem dX12_firmest_31 : decode cX12_firmest 31 = .ok (.iconst 0, 1) := by decide +kernel
theorem dX12_firmest_32 : decode cX12_firmest 32 = .ok (.istore_n 3, 1) := by decide +kernel
theorem dX12_firmest_33 : decode cX12_firmest 33 = .ok (.iload_n 3, 1) := by decide +kernel
theorem dX12_firmest_34 : decode cX12_firmest 34 = .ok (.ifCond .eq 33, 3) := by decide +kernel
theorem dX12_firmest_37 : decode cX12_firmest 37 = .ok (.iload_n 1, 1) := by decide +kernel
theorem dX12_firmest_38 : decode cX12_firmest 38 = .ok (.iconst (-1), 1) := by decide +kernel
theorem dX12_firmest_39 : decode cX12_firmest 39 = .ok (.if_icmp .eq 24, 3) := by decide +kernel
theorem dX12_firmest_42 : decode cX12_firmest 42 = .ok (.aload_n 0, 1) := by decide +kernel
theorem dX12_firmest_43 : decode cX12_firmest 43 = .ok (.getfield 16, 3) := by decide +kernel
theorem dX12_firmest_46 : decode cX12_firmest 46 = .ok (.bipush 13, 2) := by decide +kernel
theorem dX12_firmest_48 : decode cX12_firmest 48 = .ok (.iload_n 2, 1) := by decide +kernel
theorem dX12_firmest_49 : decode cX12_firmest 49 = .ok (.iadd, 1) := by decide +kernel
theorem dX12_firmest_50 : decode cX12_firmest 50 = .ok (.iaload, 1) := by decide +kernel
theorem dX12_firmest_51 : decode cX12_firmest 51 = .ok (.aload_n 0, 1) := by decide +kernel
theorem dX12_firmest_52 : decode cX12_firmest 52 = .ok (.getfield 16, 3) := by decide +kernel
theorem dX12_firmest_55 : decode cX12_firmest 55 = .ok (.bipush 13, 2) := by decide +kernel
theorem dX12_firmest_57 : decode cX12_firmest 57 = .ok (.iload_n 1, 1) := by decide +kernel
theorem dX12_firmest_58 : decode cX12_firmest 58 = .ok (.iadd, 1) := by decide +kernel
theorem dX12_firmest_59 : decode cX12_firmest 59 = .ok (.iaload, 1) := by decide +kernel
theorem dX12_firmest_60 : decode cX12_firmest 60 = .ok (.if_icmp .le 7, 3) := by decide +kernel
theorem dX12_firmest_63 : decode cX12_firmest 63 = .ok (.iload_n 2, 1) := by decide +kernel
theorem dX12_firmest_64 : decode cX12_firmest 64 = .ok (.goto 4, 3) := by decide +kernel
theorem dX12_firmest_67 : decode cX12_firmest 67 = .ok (.iload_n 1, 1) := by decide +kernel
theorem dX12_firmest_68 : decode cX12_firmest 68 = .ok (.istore_n 1, 1) := by decide +kernel
theorem dX12_firmest_69 : decode cX12_firmest 69 = .ok (.iinc 2 1, 3) := by decide +kernel
theorem dX12_firmest_72 : decode cX12_firmest 72 = .ok (.goto (-68), 3) := by decide +kernel
theorem dX12_firmest_75 : decode cX12_firmest 75 = .ok (.iload_n 1, 1) := by decide +kernel
theorem dX12_firmest_76 : decode cX12_firmest 76 = .ok (.ireturn, 1) := by decide +kernel
theorem dX12_weakest_0 : decode cX12_weakest 0 = .ok (.iconst (-1), 1) := by decide +kernel
theorem dX12_weakest_1 : decode cX12_weakest 1 = .ok (.istore_n 2, 1) := by decide +kernel
theorem dX12_weakest_2 : decode cX12_weakest 2 = .ok (.iconst 0, 1) := by decide +kernel
theorem dX12_weakest_3 : decode cX12_weakest 3 = .ok (.istore_n 3, 1) := by decide +kernel
theorem dX12_weakest_4 : decode cX12_weakest 4 = .ok (.iload_n 3, 1) := by decide +kernel
theorem dX12_weakest_5 : decode cX12_weakest 5 = .ok (.aload_n 0, 1) := by decide +kernel
theorem dX12_weakest_6 : decode cX12_weakest 6 = .ok (.getfield 7, 3) := by decide +kernel
theorem dX12_weakest_9 : decode cX12_weakest 9 = .ok (.iconst 2, 1) := by decide +kernel
theorem dX12_weakest_10 : decode cX12_weakest 10 = .ok (.iaload, 1) := by decide +kernel
theorem dX12_weakest_11 : decode cX12_weakest 11 = .ok (.if_icmp .ge 43, 3) := by decide +kernel
theorem dX12_weakest_14 : decode cX12_weakest 14 = .ok (.iload_n 2, 1) := by decide +kernel
theorem dX12_weakest_15 : decode cX12_weakest 15 = .ok (.iconst (-1), 1) := by decide +kernel
theorem dX12_weakest_16 : decode cX12_weakest 16 = .ok (.if_icmp .eq 26, 3) := by decide +kernel
theorem dX12_weakest_19 : decode cX12_weakest 19 = .ok (.aload_n 0, 1) := by decide +kernel
theorem dX12_weakest_20 : decode cX12_weakest 20 = .ok (.aload_n 0, 1) := by decide +kernel
theorem dX12_weakest_21 : decode cX12_weakest 21 = .ok (.getfield 16, 3) := by decide +kernel
theorem dX12_weakest_24 : decode cX12_weakest 24 = .ok (.iload_n 3, 1) := by decide +kernel
theorem dX12_weakest_25 : decode cX12_weakest 25 = .ok (.iload_n 1, 1) := by decide +kernel
theorem dX12_weakest_26 : decode cX12_weakest 26 = .ok (.invokevirtual 144, 3) := by decide +kernel
theorem dX12_weakest_29 : decode cX12_weakest 29 = .ok (.aload_n 0, 1) := by decide +kernel
theorem dX12_weakest_30 : decode cX12_weakest 30 = .ok (.aload_n 0, 1) := by decide +kernel
theorem dX12_weakest_31 : decode cX12_weakest 31 = .ok (.getfield 16, 3) := by decide +kernel
theorem dX12_weakest_34 : decode cX12_weakest 34 = .ok (.iload_n 2, 1) := by decide +kernel
theorem dX12_weakest_35 : decode cX12_weakest 35 = .ok (.iload_n 1, 1) := by decide +kernel
theorem dX12_weakest_36 : decode cX12_weakest 36 = .ok (.invokevirtual 144, 3) := by decide +kernel
theorem dX12_weakest_39 : decode cX12_weakest 39 = .ok (.if_icmp .ge 7, 3) := by decide +kernel
theorem dX12_weakest_42 : decode cX12_weakest 42 = .ok (.iload_n 3, 1) := by decide +kernel
theorem dX12_weakest_43 : decode cX12_weakest 43 = .ok (.goto 4, 3) := by decide +kernel
theorem dX12_weakest_46 : decode cX12_weakest 46 = .ok (.iload_n 2, 1) := by decide +kernel
theorem dX12_weakest_47 : decode cX12_weakest 47 = .ok (.istore_n 2, 1) := by decide +kernel
theorem dX12_weakest_48 : decode cX12_weakest 48 = .ok (.iinc 3 1, 3) := by decide +kernel
theorem dX12_weakest_51 : decode cX12_weakest 51 = .ok (.goto (-47), 3) := by decide +kernel
theorem dX12_weakest_54 : decode cX12_weakest 54 = .ok (.iload_n 2, 1) := by decide +kernel
theorem dX12_weakest_55 : decode cX12_weakest 55 = .ok (.ireturn, 1) := by decide +kernel
theorem dX12_few_0 : decode cX12_few 0 = .ok (.iconst (-1), 1) := by decide +kernel
theorem dX12_few_1 : decode cX12_few 1 = .ok (.istore_n 1, 1) := by decide +kernel
theorem dX12_few_2 : decode cX12_few 2 = .ok (.iconst 0, 1) := by decide +kernel
theorem dX12_few_3 : decode cX12_few 3 = .ok (.istore_n 2, 1) := by decide +kernel
theorem dX12_few_4 : decode cX12_few 4 = .ok (.iload_n 2, 1) := by decide +kernel
theorem dX12_few_5 : decode cX12_few 5 = .ok (.iconst 1, 1) := by decide +kernel
theorem dX12_few_6 : decode cX12_few 6 = .ok (.aload_n 0, 1) := by decide +kernel
theorem dX12_few_7 : decode cX12_few 7 = .ok (.getfield 7, 3) := by decide +kernel
theorem dX12_few_10 : decode cX12_few 10 = .ok (.iconst 2, 1) := by decide +kernel
theorem dX12_few_11 : decode cX12_few 11 = .ok (.iaload, 1) := by decide +kernel
theorem dX12_few_12 : decode cX12_few 12 = .ok (.ishl, 1) := by decide +kernel
theorem dX12_few_13 : decode cX12_few 13 = .ok (.if_icmp .ge 91, 3) := by decide +kernel
theorem dX12_few_16 : decode cX12_few 16 = .ok (.iconst 1, 1) := by decide +kernel
theorem dX12_few_17 : decode cX12_few 17 = .ok (.istore_n 3, 1) := by decide +kernel
theorem dX12_few_18 : decode cX12_few 18 = .ok (.iconst 0, 1) := by decide +kernel
theorem dX12_few_19 : decode cX12_few 19 = .ok (.istore 4, 2) := by decide +kernel
theorem dX12_few_21 : decode cX12_few 21 = .ok (.iload 4, 2) := by decide +kernel
theorem dX12_few_23 : decode cX12_few 23 = .ok (.aload_n 0, 1) := by decide +kernel
theorem dX12_few_24 : decode cX12_few 24 = .ok (.getfield 7, 3) := by decide +kernel
theorem dX12_few_27 : decode cX12_few 27 = .ok (.iconst 1, 1) := by decide +kernel
theorem dX12_few_28 : decode cX12_few 28 = .ok (.iaload, 1) := by decide +kernel
theorem dX12_few_29 : decode cX12_few 29 = .ok (.if_icmp .ge 43, 3) := by decide +kernel
theorem dX12_few_32 : decode cX12_few 32 = .ok (.iload_n 3, 1) := by decide +kernel
theorem dX12_few_33 : decode cX12_few 33 = .ok (.ifCond .eq 31, 3) := by decide +kernel
theorem dX12_few_36 : decode cX12_few 36 = .ok (.aload_n 0, 1) := by decide +kernel
theorem dX12_few_37 : decode cX12_few 37 = .ok (.getfield 16, 3) := by decide +kernel
theorem dX12_few_40 : decode cX12_few 40 = .ok (.bipush 7, 2) := by decide +kernel
theorem dX12_few_42 : decode cX12_few 42 = .ok (.iload 4, 2) := by decide +kernel
theorem dX12_few_44 : decode cX12_few 44 = .ok (.iadd, 1) := by decide +kernel
theorem dX12_few_45 : decode cX12_few 45 = .ok (.iaload, 1) := by decide +kernel
theorem dX12_few_46 : decode cX12_few 46 = .ok (.ifCond .ne 14, 3) := by decide +kernel
theorem dX12_few_49 : decode cX12_few 49 = .ok (.aload_n 0, 1) := by decide +kernel
theorem dX12_few_50 : decode cX12_few 50 = .ok (.iload 4, 2) := by decide +kernel
theorem dX12_few_52 : decode cX12_few 52 = .ok (.invokevirtual 158, 3) := by decide +kernel
theorem dX12_few_55 : decode cX12_few 55 = .ok (.iload_n 2, 1) := by decide +kernel
theorem dX12_few_56 : decode cX12_few 56 = .ok (.iand, 1) := by decide +kernel
theorem dX12_few_57 : decode cX12_few 57 = .ok (.ifCond .eq 7, 3) := by decide +kernel
theorem dX12_few_60 : decode cX12_few 60 = .ok (.iconst 1, 1) := by decide +kernel
theorem dX12_few_61 : decode cX12_few 61 = .ok (.goto 4, 3) := by decide +kernel
theorem dX12_few_64 : decode cX12_few 64 = .ok (.iconst 0, 1) := by decide +kernel
theorem dX12_few_65 : decode cX12_few 65 = .ok (.istore_n 3, 1) := by decide +kernel
theorem dX12_few_66 : decode cX12_few 66 = .ok (.iinc 4 1, 3) := by decide +kernel
theorem dX12_few_69 : decode cX12_few 69 = .ok (.goto (-48), 3) := by decide +kernel
theorem dX12_few_72 : decode cX12_few 72 = .ok (.iload_n 3, 1) := by decide +kernel
theorem dX12_few_73 : decode cX12_few 73 = .ok (.ifCond .eq 23, 3) := by decide +kernel
theorem dX12_few_76 : decode cX12_few 76 = .ok (.iload_n 1, 1) := by decide +kernel
theorem dX12_few_77 : decode cX12_few 77 = .ok (.iconst (-1), 1) := by decide +kernel
theorem dX12_few_78 : decode cX12_few 78 = .ok (.if_icmp .eq 14, 3) := by decide +kernel
theorem dX12_few_81 : decode cX12_few 81 = .ok (.iload_n 2, 1) := by decide +kernel
theorem dX12_few_82 : decode cX12_few 82 = .ok (.invokestatic 161, 3) := by decide +kernel
theorem dX12_few_85 : decode cX12_few 85 = .ok (.iload_n 1, 1) := by decide +kernel
theorem dX12_few_86 : decode cX12_few 86 = .ok (.invokestatic 161, 3) := by decide +kernel
theorem dX12_few_89 : decode cX12_few 89 = .ok (.if_icmp .ge 7, 3) := by decide +kernel
theorem dX12_few_92 : decode cX12_few 92 = .ok (.iload_n 2, 1) := by decide +kernel
theorem dX12_few_93 : decode cX12_few 93 = .ok (.goto 4, 3) := by decide +kernel
theorem dX12_few_96 : decode cX12_few 96 = .ok (.iload_n 1, 1) := by decide +kernel
theorem dX12_few_97 : decode cX12_few 97 = .ok (.istore_n 1, 1) := by decide +kernel
theorem dX12_few_98 : decode cX12_few 98 = .ok (.iinc 2 1, 3) := by decide +kernel
theorem dX12_few_101 : decode cX12_few 101 = .ok (.goto (-97), 3) := by decide +kernel
theorem dX12_few_104 : decode cX12_few 104 = .ok (.iload_n 1, 1) := by decide +kernel
theorem dX12_few_105 : decode cX12_few 105 = .ok (.ireturn, 1) := by decide +kernel
theorem dX12_told_0 : decode cX12_told 0 = .ok (.iload_n 1, 1) := by decide +kernel
theorem dX12_told_1 : decode cX12_told 1 = .ok (.tableswitch 152 0 15 #[79, 79, 79, 86, 91, 98, 98, 98, 106, 114, 122, 127, 132, 137, 142, 147], 79) := by decide +kernel
theorem dX12_told_80 : decode cX12_told 80 = .ok (.aload_n 0, 1) := by decide +kernel
theorem dX12_told_81 : decode cX12_told 81 = .ok (.getfield 7, 3) := by decide +kernel
theorem dX12_told_84 : decode cX12_told 84 = .ok (.iload_n 1, 1) := by decide +kernel
theorem dX12_told_85 : decode cX12_told 85 = .ok (.iaload, 1) := by decide +kernel
theorem dX12_told_86 : decode cX12_told 86 = .ok (.ireturn, 1) := by decide +kernel
theorem dX12_told_87 : decode cX12_told 87 = .ok (.aload_n 0, 1) := by decide +kernel
theorem dX12_told_88 : decode cX12_told 88 = .ok (.getfield 78, 3) := by decide +kernel
theorem dX12_told_91 : decode cX12_told 91 = .ok (.ireturn, 1) := by decide +kernel
theorem dX12_told_92 : decode cX12_told 92 = .ok (.aload_n 0, 1) := by decide +kernel
theorem dX12_told_93 : decode cX12_told 93 = .ok (.getfield 16, 3) := by decide +kernel
theorem dX12_told_96 : decode cX12_told 96 = .ok (.iconst 0, 1) := by decide +kernel
theorem dX12_told_97 : decode cX12_told 97 = .ok (.iaload, 1) := by decide +kernel
theorem dX12_told_98 : decode cX12_told 98 = .ok (.ireturn, 1) := by decide +kernel
theorem dX12_told_99 : decode cX12_told 99 = .ok (.aload_n 0, 1) := by decide +kernel
theorem dX12_told_100 : decode cX12_told 100 = .ok (.iload_n 1, 1) := by decide +kernel
theorem dX12_told_101 : decode cX12_told 101 = .ok (.iconst 5, 1) := by decide +kernel
theorem dX12_told_102 : decode cX12_told 102 = .ok (.isub, 1) := by decide +kernel
theorem dX12_told_103 : decode cX12_told 103 = .ok (.invokevirtual 154, 3) := by decide +kernel
theorem dX12_told_106 : decode cX12_told 106 = .ok (.ireturn, 1) := by decide +kernel
theorem dX12_told_107 : decode cX12_told 107 = .ok (.aload_n 0, 1) := by decide +kernel
theorem dX12_told_108 : decode cX12_told 108 = .ok (.getfield 16, 3) := by decide +kernel
theorem dX12_told_111 : decode cX12_told 111 = .ok (.bipush 61, 2) := by decide +kernel
theorem dX12_told_113 : decode cX12_told 113 = .ok (.iaload, 1) := by decide +kernel
theorem dX12_told_114 : decode cX12_told 114 = .ok (.ireturn, 1) := by decide +kernel
theorem dX12_told_115 : decode cX12_told 115 = .ok (.aload_n 0, 1) := by decide +kernel
theorem dX12_told_116 : decode cX12_told 116 = .ok (.getfield 16, 3) := by decide +kernel
theorem dX12_told_119 : decode cX12_told 119 = .ok (.bipush 62, 2) := by decide +kernel
theorem dX12_told_121 : decode cX12_told 121 = .ok (.iaload, 1) := by decide +kernel
theorem dX12_told_122 : decode cX12_told 122 = .ok (.ireturn, 1) := by decide +kernel
theorem dX12_told_123 : decode cX12_told 123 = .ok (.aload_n 0, 1) := by decide +kernel
theorem dX12_told_124 : decode cX12_told 124 = .ok (.invokevirtual 164, 3) := by decide +kernel
theorem dX12_told_127 : decode cX12_told 127 = .ok (.ireturn, 1) := by decide +kernel
theorem dX12_told_128 : decode cX12_told 128 = .ok (.aload_n 0, 1) := by decide +kernel
theorem dX12_told_129 : decode cX12_told 129 = .ok (.invokevirtual 167, 3) := by decide +kernel
theorem dX12_told_132 : decode cX12_told 132 = .ok (.ireturn, 1) := by decide +kernel
theorem dX12_told_133 : decode cX12_told 133 = .ok (.aload_n 0, 1) := by decide +kernel
theorem dX12_told_134 : decode cX12_told 134 = .ok (.invokevirtual 170, 3) := by decide +kernel
theorem dX12_told_137 : decode cX12_told 137 = .ok (.ireturn, 1) := by decide +kernel
theorem dX12_told_138 : decode cX12_told 138 = .ok (.aload_n 0, 1) := by decide +kernel
theorem dX12_told_139 : decode cX12_told 139 = .ok (.getfield 69, 3) := by decide +kernel
theorem dX12_told_142 : decode cX12_told 142 = .ok (.ireturn, 1) := by decide +kernel
theorem dX12_told_143 : decode cX12_told 143 = .ok (.aload_n 0, 1) := by decide +kernel
theorem dX12_told_144 : decode cX12_told 144 = .ok (.getfield 72, 3) := by decide +kernel
theorem dX12_told_147 : decode cX12_told 147 = .ok (.ireturn, 1) := by decide +kernel
theorem dX12_told_148 : decode cX12_told 148 = .ok (.aload_n 0, 1) := by decide +kernel
theorem dX12_told_149 : decode cX12_told 149 = .ok (.getfield 66, 3) := by decide +kernel
theorem dX12_told_152 : decode cX12_told 152 = .ok (.ireturn, 1) := by decide +kernel
theorem dX12_told_153 : decode cX12_told 153 = .ok (.ldc 77, 2) := by decide +kernel
theorem dX12_told_155 : decode cX12_told 155 = .ok (.ireturn, 1) := by decide +kernel
theorem dX12_couple_0 : decode cX12_couple 0 = .ok (.aload_n 0, 1) := by decide +kernel
theorem dX12_couple_1 : decode cX12_couple 1 = .ok (.iload_n 1, 1) := by decide +kernel
theorem dX12_couple_2 : decode cX12_couple 2 = .ok (.invokevirtual 173, 3) := by decide +kernel
theorem dX12_couple_5 : decode cX12_couple 5 = .ok (.ifCond .ne 6, 3) := by decide +kernel
theorem dX12_couple_8 : decode cX12_couple 8 = .ok (.ldc 176, 2) := by decide +kernel
theorem dX12_couple_10 : decode cX12_couple 10 = .ok (.ireturn, 1) := by decide +kernel
theorem dX12_couple_11 : decode cX12_couple 11 = .ok (.iload_n 2, 1) := by decide +kernel
theorem dX12_couple_12 : decode cX12_couple 12 = .ok (.tableswitch 111 0 9 #[56, 56, 56, 56, 56, 70, 79, 89, 99, 105], 56) := by decide +kernel
theorem dX12_couple_68 : decode cX12_couple 68 = .ok (.aload_n 0, 1) := by decide +kernel
theorem dX12_couple_69 : decode cX12_couple 69 = .ok (.getfield 16, 3) := by decide +kernel
theorem dX12_couple_72 : decode cX12_couple 72 = .ok (.bipush 19, 2) := by decide +kernel
theorem dX12_couple_74 : decode cX12_couple 74 = .ok (.iconst 5, 1) := by decide +kernel
theorem dX12_couple_75 : decode cX12_couple 75 = .ok (.iload_n 1, 1) := by decide +kernel
theorem dX12_couple_76 : decode cX12_couple 76 = .ok (.imul, 1) := by decide +kernel
theorem dX12_couple_77 : decode cX12_couple 77 = .ok (.iadd, 1) := by decide +kernel
theorem dX12_couple_78 : decode cX12_couple 78 = .ok (.iload_n 2, 1) := by decide +kernel
theorem dX12_couple_79 : decode cX12_couple 79 = .ok (.iadd, 1) := by decide +kernel
theorem dX12_couple_80 : decode cX12_couple 80 = .ok (.iaload, 1) := by decide +kernel
theorem dX12_couple_81 : decode cX12_couple 81 = .ok (.ireturn, 1) := by decide +kernel
theorem dX12_couple_82 : decode cX12_couple 82 = .ok (.aload_n 0, 1) := by decide +kernel
theorem dX12_couple_83 : decode cX12_couple 83 = .ok (.getfield 16, 3) := by decide +kernel
theorem dX12_couple_86 : decode cX12_couple 86 = .ok (.iconst 1, 1) := by decide +kernel
theorem dX12_couple_87 : decode cX12_couple 87 = .ok (.iload_n 1, 1) := by decide +kernel
theorem dX12_couple_88 : decode cX12_couple 88 = .ok (.iadd, 1) := by decide +kernel
theorem dX12_couple_89 : decode cX12_couple 89 = .ok (.iaload, 1) := by decide +kernel
theorem dX12_couple_90 : decode cX12_couple 90 = .ok (.ireturn, 1) := by decide +kernel
theorem dX12_couple_91 : decode cX12_couple 91 = .ok (.aload_n 0, 1) := by decide +kernel
theorem dX12_couple_92 : decode cX12_couple 92 = .ok (.getfield 16, 3) := by decide +kernel
theorem dX12_couple_95 : decode cX12_couple 95 = .ok (.bipush 7, 2) := by decide +kernel
theorem dX12_couple_97 : decode cX12_couple 97 = .ok (.iload_n 1, 1) := by decide +kernel
theorem dX12_couple_98 : decode cX12_couple 98 = .ok (.iadd, 1) := by decide +kernel
theorem dX12_couple_99 : decode cX12_couple 99 = .ok (.iaload, 1) := by decide +kernel
theorem dX12_couple_100 : decode cX12_couple 100 = .ok (.ireturn, 1) := by decide +kernel
theorem dX12_couple_101 : decode cX12_couple 101 = .ok (.aload_n 0, 1) := by decide +kernel
theorem dX12_couple_102 : decode cX12_couple 102 = .ok (.getfield 16, 3) := by decide +kernel
theorem dX12_couple_105 : decode cX12_couple 105 = .ok (.bipush 13, 2) := by decide +kernel
theorem dX12_couple_107 : decode cX12_couple 107 = .ok (.iload_n 1, 1) := by decide +kernel
theorem dX12_couple_108 : decode cX12_couple 108 = .ok (.iadd, 1) := by decide +kernel
theorem dX12_couple_109 : decode cX12_couple 109 = .ok (.iaload, 1) := by decide +kernel
theorem dX12_couple_110 : decode cX12_couple 110 = .ok (.ireturn, 1) := by decide +kernel
theorem dX12_couple_111 : decode cX12_couple 111 = .ok (.aload_n 0, 1) := by decide +kernel
theorem dX12_couple_112 : decode cX12_couple 112 = .ok (.iload_n 1, 1) := by decide +kernel
theorem dX12_couple_113 : decode cX12_couple 113 = .ok (.invokevirtual 158, 3) := by decide +kernel
theorem dX12_couple_116 : decode cX12_couple 116 = .ok (.ireturn, 1) := by decide +kernel
theorem dX12_couple_117 : decode cX12_couple 117 = .ok (.aload_n 0, 1) := by decide +kernel
theorem dX12_couple_118 : decode cX12_couple 118 = .ok (.iload_n 1, 1) := by decide +kernel
theorem dX12_couple_119 : decode cX12_couple 119 = .ok (.invokevirtual 177, 3) := by decide +kernel
theorem dX12_couple_122 : decode cX12_couple 122 = .ok (.ireturn, 1) := by decide +kernel
theorem dX12_couple_123 : decode cX12_couple 123 = .ok (.ldc 77, 2) := by decide +kernel
theorem dX12_couple_125 : decode cX12_couple 125 = .ok (.ireturn, 1) := by decide +kernel
theorem dX12_objector_0 : decode cX12_objector 0 = .ok (.aload_n 0, 1) := by decide +kernel
theorem dX12_objector_1 : decode cX12_objector 1 = .ok (.iload_n 1, 1) := by decide +kernel
theorem dX12_objector_2 : decode cX12_objector 2 = .ok (.invokevirtual 180, 3) := by decide +kernel
theorem dX12_objector_5 : decode cX12_objector 5 = .ok (.ifCond .ne 6, 3) := by decide +kernel
theorem dX12_objector_8 : decode cX12_objector 8 = .ok (.ldc 176, 2) := by decide +kernel
theorem dX12_objector_10 : decode cX12_objector 10 = .ok (.ireturn, 1) := by decide +kernel
theorem dX12_objector_11 : decode cX12_objector 11 = .ok (.iload_n 2, 1) := by decide +kernel
theorem dX12_objector_12 : decode cX12_objector 12 = .ok (.tableswitch 74 0 3 #[32, 42, 52, 62], 32) := by decide +kernel
theorem dX12_objector_44 : decode cX12_objector 44 = .ok (.aload_n 0, 1) := by decide +kernel
theorem dX12_objector_45 : decode cX12_objector 45 = .ok (.getfield 7, 3) := by decide +kernel
theorem dX12_objector_48 : decode cX12_objector 48 = .ok (.bipush 39, 2) := by decide +kernel
theorem dX12_objector_50 : decode cX12_objector 50 = .ok (.iload_n 1, 1) := by decide +kernel
theorem dX12_objector_51 : decode cX12_objector 51 = .ok (.iadd, 1) := by decide +kernel
theorem dX12_objector_52 : decode cX12_objector 52 = .ok (.iaload, 1) := by decide +kernel
theorem dX12_objector_53 : decode cX12_objector 53 = .ok (.ireturn, 1) := by decide +kernel
theorem dX12_objector_54 : decode cX12_objector 54 = .ok (.aload_n 0, 1) := by decide +kernel
theorem dX12_objector_55 : decode cX12_objector 55 = .ok (.getfield 16, 3) := by decide +kernel
theorem dX12_objector_58 : decode cX12_objector 58 = .ok (.bipush 49, 2) := by decide +kernel
theorem dX12_objector_60 : decode cX12_objector 60 = .ok (.iload_n 1, 1) := by decide +kernel
theorem dX12_objector_61 : decode cX12_objector 61 = .ok (.iadd, 1) := by decide +kernel
theorem dX12_objector_62 : decode cX12_objector 62 = .ok (.iaload, 1) := by decide +kernel
theorem dX12_objector_63 : decode cX12_objector 63 = .ok (.ireturn, 1) := by decide +kernel
theorem dX12_objector_64 : decode cX12_objector 64 = .ok (.aload_n 0, 1) := by decide +kernel
theorem dX12_objector_65 : decode cX12_objector 65 = .ok (.getfield 16, 3) := by decide +kernel
theorem dX12_objector_68 : decode cX12_objector 68 = .ok (.bipush 55, 2) := by decide +kernel
theorem dX12_objector_70 : decode cX12_objector 70 = .ok (.iload_n 1, 1) := by decide +kernel
theorem dX12_objector_71 : decode cX12_objector 71 = .ok (.iadd, 1) := by decide +kernel
theorem dX12_objector_72 : decode cX12_objector 72 = .ok (.iaload, 1) := by decide +kernel
theorem dX12_objector_73 : decode cX12_objector 73 = .ok (.ireturn, 1) := by decide +kernel
theorem dX12_objector_74 : decode cX12_objector 74 = .ok (.aload_n 0, 1) := by decide +kernel
theorem dX12_objector_75 : decode cX12_objector 75 = .ok (.getfield 16, 3) := by decide +kernel
theorem dX12_objector_78 : decode cX12_objector 78 = .ok (.bipush 61, 2) := by decide +kernel
theorem dX12_objector_80 : decode cX12_objector 80 = .ok (.iaload, 1) := by decide +kernel
theorem dX12_objector_81 : decode cX12_objector 81 = .ok (.iload_n 1, 1) := by decide +kernel
theorem dX12_objector_82 : decode cX12_objector 82 = .ok (.ishr, 1) := by decide +kernel
theorem dX12_objector_83 : decode cX12_objector 83 = .ok (.iconst 1, 1) := by decide +kernel
theorem dX12_objector_84 : decode cX12_objector 84 = .ok (.iand, 1) := by decide +kernel
theorem dX12_objector_85 : decode cX12_objector 85 = .ok (.ireturn, 1) := by decide +kernel
theorem dX12_objector_86 : decode cX12_objector 86 = .ok (.ldc 77, 2) := by decide +kernel
theorem dX12_objector_88 : decode cX12_objector 88 = .ok (.ireturn, 1) := by decide +kernel
theorem dX12_box_0 : decode cX12_box 0 = .ok (.iload_n 2, 1) := by decide +kernel
theorem dX12_box_1 : decode cX12_box 1 = .ok (.i2l, 1) := by decide +kernel
theorem dX12_box_2 : decode cX12_box 2 = .ok (.lconst 0, 1) := by decide +kernel
theorem dX12_box_3 : decode cX12_box 3 = .ok (.ldc2_w 183, 3) := by decide +kernel
theorem dX12_box_6 : decode cX12_box 6 = .ok (.invokestatic 58, 3) := by decide +kernel
theorem dX12_box_9 : decode cX12_box 9 = .ok (.ifCond .ne 6, 3) := by decide +kernel
theorem dX12_box_12 : decode cX12_box 12 = .ok (.ldc 77, 2) := by decide +kernel
theorem dX12_box_14 : decode cX12_box 14 = .ok (.ireturn, 1) := by decide +kernel
theorem dX12_box_15 : decode cX12_box 15 = .ok (.iload_n 1, 1) := by decide +kernel
theorem dX12_box_16 : decode cX12_box 16 = .ok (.i2l, 1) := by decide +kernel
theorem dX12_box_17 : decode cX12_box 17 = .ok (.lconst 0, 1) := by decide +kernel
theorem dX12_box_18 : decode cX12_box 18 = .ok (.aload_n 0, 1) := by decide +kernel
theorem dX12_box_19 : decode cX12_box 19 = .ok (.getfield 16, 3) := by decide +kernel
theorem dX12_box_22 : decode cX12_box 22 = .ok (.bipush 62, 2) := by decide +kernel
theorem dX12_box_24 : decode cX12_box 24 = .ok (.iaload, 1) := by decide +kernel
theorem dX12_box_25 : decode cX12_box 25 = .ok (.iconst 1, 1) := by decide +kernel
theorem dX12_box_26 : decode cX12_box 26 = .ok (.isub, 1) := by decide +kernel
theorem dX12_box_27 : decode cX12_box 27 = .ok (.i2l, 1) := by decide +kernel
theorem dX12_box_28 : decode cX12_box 28 = .ok (.invokestatic 58, 3) := by decide +kernel
theorem dX12_box_31 : decode cX12_box 31 = .ok (.ifCond .eq 29, 3) := by decide +kernel
theorem dX12_box_34 : decode cX12_box 34 = .ok (.aload_n 0, 1) := by decide +kernel
theorem dX12_box_35 : decode cX12_box 35 = .ok (.getfield 16, 3) := by decide +kernel
theorem dX12_box_38 : decode cX12_box 38 = .ok (.bipush 63, 2) := by decide +kernel
theorem dX12_box_40 : decode cX12_box 40 = .ok (.iconst 5, 1) := by decide +kernel
theorem dX12_box_41 : decode cX12_box 41 = .ok (.aload_n 0, 1) := by decide +kernel
theorem dX12_box_42 : decode cX12_box 42 = .ok (.getfield 16, 3) := by decide +kernel
theorem dX12_box_45 : decode cX12_box 45 = .ok (.bipush 62, 2) := by decide +kernel
theorem dX12_box_47 : decode cX12_box 47 = .ok (.iaload, 1) := by decide +kernel
theorem dX12_box_48 : decode cX12_box 48 = .ok (.iconst 1, 1) := by decide +kernel
theorem dX12_box_49 : decode cX12_box 49 = .ok (.isub, 1) := by decide +kernel
theorem dX12_box_50 : decode cX12_box 50 = .ok (.iload_n 1, 1) := by decide +kernel
theorem dX12_box_51 : decode cX12_box 51 = .ok (.isub, 1) := by decide +kernel
theorem dX12_box_52 : decode cX12_box 52 = .ok (.imul, 1) := by decide +kernel
theorem dX12_box_53 : decode cX12_box 53 = .ok (.iadd, 1) := by decide +kernel
theorem dX12_box_54 : decode cX12_box 54 = .ok (.iload_n 2, 1) := by decide +kernel
theorem dX12_box_55 : decode cX12_box 55 = .ok (.iadd, 1) := by decide +kernel
theorem dX12_box_56 : decode cX12_box 56 = .ok (.iaload, 1) := by decide +kernel
theorem dX12_box_57 : decode cX12_box 57 = .ok (.goto 4, 3) := by decide +kernel
theorem dX12_box_60 : decode cX12_box 60 = .ok (.iconst (-1), 1) := by decide +kernel
theorem dX12_box_61 : decode cX12_box 61 = .ok (.ireturn, 1) := by decide +kernel
theorem dX12_against_0 : decode cX12_against 0 = .ok (.aload_n 0, 1) := by decide +kernel
theorem dX12_against_1 : decode cX12_against 1 = .ok (.iload_n 1, 1) := by decide +kernel
theorem dX12_against_2 : decode cX12_against 2 = .ok (.invokevirtual 180, 3) := by decide +kernel
theorem dX12_against_5 : decode cX12_against 5 = .ok (.ifCond .eq 11, 3) := by decide +kernel
theorem dX12_against_8 : decode cX12_against 8 = .ok (.aload_n 0, 1) := by decide +kernel
theorem dX12_against_9 : decode cX12_against 9 = .ok (.iload_n 2, 1) := by decide +kernel
theorem dX12_against_10 : decode cX12_against 10 = .ok (.invokevirtual 173, 3) := by decide +kernel
theorem dX12_against_13 : decode cX12_against 13 = .ok (.ifCond .ne 6, 3) := by decide +kernel
theorem dX12_against_16 : decode cX12_against 16 = .ok (.ldc 176, 2) := by decide +kernel
theorem dX12_against_18 : decode cX12_against 18 = .ok (.ireturn, 1) := by decide +kernel
theorem dX12_against_19 : decode cX12_against 19 = .ok (.iload_n 3, 1) := by decide +kernel
theorem dX12_against_20 : decode cX12_against 20 = .ok (.i2l, 1) := by decide +kernel
theorem dX12_against_21 : decode cX12_against 21 = .ok (.lconst 0, 1) := by decide +kernel
theorem dX12_against_22 : decode cX12_against 22 = .ok (.lconst 1, 1) := by decide +kernel
theorem dX12_against_23 : decode cX12_against 23 = .ok (.invokestatic 58, 3) := by decide +kernel
theorem dX12_against_26 : decode cX12_against 26 = .ok (.ifCond .ne 6, 3) := by decide +kernel
theorem dX12_against_29 : decode cX12_against 29 = .ok (.ldc 77, 2) := by decide +kernel
theorem dX12_against_31 : decode cX12_against 31 = .ok (.ireturn, 1) := by decide +kernel
theorem dX12_against_32 : decode cX12_against 32 = .ok (.iload_n 3, 1) := by decide +kernel
theorem dX12_against_33 : decode cX12_against 33 = .ok (.ifCond .ne 16, 3) := by decide +kernel
theorem dX12_against_36 : decode cX12_against 36 = .ok (.aload_n 0, 1) := by decide +kernel
theorem dX12_against_37 : decode cX12_against 37 = .ok (.aload_n 0, 1) := by decide +kernel
theorem dX12_against_38 : decode cX12_against 38 = .ok (.getfield 16, 3) := by decide +kernel
theorem dX12_against_41 : decode cX12_against 41 = .ok (.iload_n 1, 1) := by decide +kernel
theorem dX12_against_42 : decode cX12_against 42 = .ok (.iload_n 2, 1) := by decide +kernel
theorem dX12_against_43 : decode cX12_against 43 = .ok (.invokevirtual 144, 3) := by decide +kernel
theorem dX12_against_46 : decode cX12_against 46 = .ok (.goto 13, 3) := by decide +kernel
theorem dX12_against_49 : decode cX12_against 49 = .ok (.aload_n 0, 1) := by decide +kernel
theorem dX12_against_50 : decode cX12_against 50 = .ok (.aload_n 0, 1) := by decide +kernel
theorem dX12_against_51 : decode cX12_against 51 = .ok (.getfield 16, 3) := by decide +kernel
theorem dX12_against_54 : decode cX12_against 54 = .ok (.iload_n 1, 1) := by decide +kernel
theorem dX12_against_55 : decode cX12_against 55 = .ok (.iload_n 2, 1) := by decide +kernel
theorem dX12_against_56 : decode cX12_against 56 = .ok (.invokevirtual 136, 3) := by decide +kernel
theorem dX12_against_59 : decode cX12_against 59 = .ok (.ireturn, 1) := by decide +kernel
theorem dX12_remember_0 : decode cX12_remember 0 = .ok (.aload_n 0, 1) := by decide +kernel
theorem dX12_remember_1 : decode cX12_remember 1 = .ok (.getfield 66, 3) := by decide +kernel
theorem dX12_remember_4 : decode cX12_remember 4 = .ok (.bipush 16, 2) := by decide +kernel
theorem dX12_remember_6 : decode cX12_remember 6 = .ok (.if_icmp .ne 44, 3) := by decide +kernel
theorem dX12_remember_9 : decode cX12_remember 9 = .ok (.iconst 0, 1) := by decide +kernel
theorem dX12_remember_10 : decode cX12_remember 10 = .ok (.istore_n 1, 1) := by decide +kernel
theorem dX12_remember_11 : decode cX12_remember 11 = .ok (.iload_n 1, 1) := by decide +kernel
theorem dX12_remember_12 : decode cX12_remember 12 = .ok (.sipush 2445, 3) := by decide +kernel
theorem dX12_remember_15 : decode cX12_remember 15 = .ok (.if_icmp .ge 25, 3) := by decide +kernel
theorem dX12_remember_18 : decode cX12_remember 18 = .ok (.aload_n 0, 1) := by decide +kernel
theorem dX12_remember_19 : decode cX12_remember 19 = .ok (.getfield 22, 3) := by decide +kernel
theorem dX12_remember_22 : decode cX12_remember 22 = .ok (.iload_n 1, 1) := by decide +kernel
theorem dX12_remember_23 : decode cX12_remember 23 = .ok (.aload_n 0, 1) := by decide +kernel
theorem dX12_remember_24 : decode cX12_remember 24 = .ok (.getfield 22, 3) := by decide +kernel
theorem dX12_remember_27 : decode cX12_remember 27 = .ok (.iload_n 1, 1) := by decide +kernel
theorem dX12_remember_28 : decode cX12_remember 28 = .ok (.sipush 163, 3) := by decide +kernel
theorem dX12_remember_31 : decode cX12_remember 31 = .ok (.iadd, 1) := by decide +kernel
theorem dX12_remember_32 : decode cX12_remember 32 = .ok (.iaload, 1) := by decide +kernel
theorem dX12_remember_33 : decode cX12_remember 33 = .ok (.iastore, 1) := by decide +kernel
theorem dX12_remember_34 : decode cX12_remember 34 = .ok (.iinc 1 1, 3) := by decide +kernel
theorem dX12_remember_37 : decode cX12_remember 37 = .ok (.goto (-26), 3) := by decide +kernel
theorem dX12_remember_40 : decode cX12_remember 40 = .ok (.aload_n 0, 1) := by decide +kernel
theorem dX12_remember_41 : decode cX12_remember 41 = .ok (.dup, 1) := by decide +kernel
theorem dX12_remember_42 : decode cX12_remember 42 = .ok (.getfield 66, 3) := by decide +kernel
theorem dX12_remember_45 : decode cX12_remember 45 = .ok (.iconst 1, 1) := by decide +kernel
theorem dX12_remember_46 : decode cX12_remember 46 = .ok (.isub, 1) := by decide +kernel
theorem dX12_remember_47 : decode cX12_remember 47 = .ok (.putfield 66, 3) := by decide +kernel
theorem dX12_remember_50 : decode cX12_remember 50 = .ok (.aload_n 0, 1) := by decide +kernel
theorem dX12_remember_51 : decode cX12_remember 51 = .ok (.getfield 16, 3) := by decide +kernel
theorem dX12_remember_54 : decode cX12_remember 54 = .ok (.iconst 0, 1) := by decide +kernel
theorem dX12_remember_55 : decode cX12_remember 55 = .ok (.aload_n 0, 1) := by decide +kernel
theorem dX12_remember_56 : decode cX12_remember 56 = .ok (.getfield 22, 3) := by decide +kernel
theorem dX12_remember_59 : decode cX12_remember 59 = .ok (.sipush 163, 3) := by decide +kernel
theorem dX12_remember_62 : decode cX12_remember 62 = .ok (.aload_n 0, 1) := by decide +kernel
theorem dX12_remember_63 : decode cX12_remember 63 = .ok (.getfield 66, 3) := by decide +kernel
theorem dX12_remember_66 : decode cX12_remember 66 = .ok (.imul, 1) := by decide +kernel
theorem dX12_remember_67 : decode cX12_remember 67 = .ok (.sipush 163, 3) := by decide +kernel
theorem dX12_remember_70 : decode cX12_remember 70 = .ok (.invokestatic 62, 3) := by decide +kernel
theorem dX12_remember_73 : decode cX12_remember 73 = .ok (.aload_n 0, 1) := by decide +kernel
theorem dX12_remember_74 : decode cX12_remember 74 = .ok (.dup, 1) := by decide +kernel
theorem dX12_remember_75 : decode cX12_remember 75 = .ok (.getfield 66, 3) := by decide +kernel
theorem dX12_remember_78 : decode cX12_remember 78 = .ok (.iconst 1, 1) := by decide +kernel
theorem dX12_remember_79 : decode cX12_remember 79 = .ok (.iadd, 1) := by decide +kernel
theorem dX12_remember_80 : decode cX12_remember 80 = .ok (.putfield 66, 3) := by decide +kernel
theorem dX12_remember_83 : decode cX12_remember 83 = .ok (.return_, 1) := by decide +kernel
theorem dX12_boxes_0 : decode cX12_boxes 0 = .ok (.aload_n 1, 1) := by decide +kernel
theorem dX12_boxes_1 : decode cX12_boxes 1 = .ok (.bipush 62, 2) := by decide +kernel
theorem dX12_boxes_3 : decode cX12_boxes 3 = .ok (.iaload, 1) := by decide +kernel
theorem dX12_boxes_4 : decode cX12_boxes 4 = .ok (.bipush 20, 2) := by decide +kernel
theorem dX12_boxes_6 : decode cX12_boxes 6 = .ok (.if_icmp .ne 43, 3) := by decide +kernel
theorem dX12_boxes_9 : decode cX12_boxes 9 = .ok (.iconst 0, 1) := by decide +kernel
theorem dX12_boxes_10 : decode cX12_boxes 10 = .ok (.istore 4, 2) := by decide +kernel
theorem dX12_boxes_12 : decode cX12_boxes 12 = .ok (.iload 4, 2) := by decide +kernel
theorem dX12_boxes_14 : decode cX12_boxes 14 = .ok (.bipush 95, 2) := by decide +kernel
theorem dX12_boxes_16 : decode cX12_boxes 16 = .ok (.if_icmp .ge 25, 3) := by decide +kernel
theorem dX12_boxes_19 : decode cX12_boxes 19 = .ok (.aload_n 1, 1) := by decide +kernel
theorem dX12_boxes_20 : decode cX12_boxes 20 = .ok (.bipush 63, 2) := by decide +kernel
theorem dX12_boxes_22 : decode cX12_boxes 22 = .ok (.iload 4, 2) := by decide +kernel
theorem dX12_boxes_24 : decode cX12_boxes 24 = .ok (.iadd, 1) := by decide +kernel
theorem dX12_boxes_25 : decode cX12_boxes 25 = .ok (.aload_n 1, 1) := by decide +kernel
theorem dX12_boxes_26 : decode cX12_boxes 26 = .ok (.bipush 63, 2) := by decide +kernel
theorem dX12_boxes_28 : decode cX12_boxes 28 = .ok (.iload 4, 2) := by decide +kernel
theorem dX12_boxes_30 : decode cX12_boxes 30 = .ok (.iadd, 1) := by decide +kernel
theorem dX12_boxes_31 : decode cX12_boxes 31 = .ok (.iconst 5, 1) := by decide +kernel
theorem dX12_boxes_32 : decode cX12_boxes 32 = .ok (.iadd, 1) := by decide +kernel
theorem dX12_boxes_33 : decode cX12_boxes 33 = .ok (.iaload, 1) := by decide +kernel
theorem dX12_boxes_34 : decode cX12_boxes 34 = .ok (.iastore, 1) := by decide +kernel
theorem dX12_boxes_35 : decode cX12_boxes 35 = .ok (.iinc 4 1, 3) := by decide +kernel
theorem dX12_boxes_38 : decode cX12_boxes 38 = .ok (.goto (-26), 3) := by decide +kernel
theorem dX12_boxes_41 : decode cX12_boxes 41 = .ok (.aload_n 1, 1) := by decide +kernel
theorem dX12_boxes_42 : decode cX12_boxes 42 = .ok (.bipush 62, 2) := by decide +kernel
theorem dX12_boxes_44 : decode cX12_boxes 44 = .ok (.dup2, 1) := by decide +kernel
theorem dX12_boxes_45 : decode cX12_boxes 45 = .ok (.iaload, 1) := by decide +kernel
theorem dX12_boxes_46 : decode cX12_boxes 46 = .ok (.iconst 1, 1) := by decide +kernel
theorem dX12_boxes_47 : decode cX12_boxes 47 = .ok (.isub, 1) := by decide +kernel
theorem dX12_boxes_48 : decode cX12_boxes 48 = .ok (.iastore, 1) := by decide +kernel
theorem dX12_boxes_49 : decode cX12_boxes 49 = .ok (.bipush 63, 2) := by decide +kernel
theorem dX12_boxes_51 : decode cX12_boxes 51 = .ok (.iconst 5, 1) := by decide +kernel
theorem dX12_boxes_52 : decode cX12_boxes 52 = .ok (.aload_n 1, 1) := by decide +kernel
theorem dX12_boxes_53 : decode cX12_boxes 53 = .ok (.bipush 62, 2) := by decide +kernel
theorem dX12_boxes_55 : decode cX12_boxes 55 = .ok (.iaload, 1) := by decide +kernel
theorem dX12_boxes_56 : decode cX12_boxes 56 = .ok (.imul, 1) := by decide +kernel
theorem dX12_boxes_57 : decode cX12_boxes 57 = .ok (.iadd, 1) := by decide +kernel
theorem dX12_boxes_58 : decode cX12_boxes 58 = .ok (.istore 4, 2) := by decide +kernel
theorem dX12_boxes_60 : decode cX12_boxes 60 = .ok (.aload_n 1, 1) := by decide +kernel
theorem dX12_boxes_61 : decode cX12_boxes 61 = .ok (.iload 4, 2) := by decide +kernel
theorem dX12_boxes_63 : decode cX12_boxes 63 = .ok (.aload_n 1, 1) := by decide +kernel
theorem dX12_boxes_64 : decode cX12_boxes 64 = .ok (.iconst 0, 1) := by decide +kernel
theorem dX12_boxes_65 : decode cX12_boxes 65 = .ok (.iaload, 1) := by decide +kernel
theorem dX12_boxes_66 : decode cX12_boxes 66 = .ok (.iastore, 1) := by decide +kernel
theorem dX12_boxes_67 : decode cX12_boxes 67 = .ok (.aload_n 1, 1) := by decide +kernel
theorem dX12_boxes_68 : decode cX12_boxes 68 = .ok (.iload 4, 2) := by decide +kernel
theorem dX12_boxes_70 : decode cX12_boxes 70 = .ok (.iconst 1, 1) := by decide +kernel
theorem dX12_boxes_71 : decode cX12_boxes 71 = .ok (.iadd, 1) := by decide +kernel
theorem dX12_boxes_72 : decode cX12_boxes 72 = .ok (.iload_n 3, 1) := by decide +kernel
theorem dX12_boxes_73 : decode cX12_boxes 73 = .ok (.iastore, 1) := by decide +kernel
theorem dX12_boxes_74 : decode cX12_boxes 74 = .ok (.aload_n 1, 1) := by decide +kernel
theorem dX12_boxes_75 : decode cX12_boxes 75 = .ok (.iload 4, 2) := by decide +kernel
theorem dX12_boxes_77 : decode cX12_boxes 77 = .ok (.iconst 2, 1) := by decide +kernel
theorem dX12_boxes_78 : decode cX12_boxes 78 = .ok (.iadd, 1) := by decide +kernel
theorem dX12_boxes_79 : decode cX12_boxes 79 = .ok (.iload_n 2, 1) := by decide +kernel
theorem dX12_boxes_80 : decode cX12_boxes 80 = .ok (.iastore, 1) := by decide +kernel
theorem dX12_boxes_81 : decode cX12_boxes 81 = .ok (.aload_n 1, 1) := by decide +kernel
theorem dX12_boxes_82 : decode cX12_boxes 82 = .ok (.iload 4, 2) := by decide +kernel
theorem dX12_boxes_84 : decode cX12_boxes 84 = .ok (.iconst 3, 1) := by decide +kernel
theorem dX12_boxes_85 : decode cX12_boxes 85 = .ok (.iadd, 1) := by decide +kernel
theorem dX12_boxes_86 : decode cX12_boxes 86 = .ok (.aload_n 0, 1) := by decide +kernel
theorem dX12_boxes_87 : decode cX12_boxes 87 = .ok (.aload_n 1, 1) := by decide +kernel
theorem dX12_boxes_88 : decode cX12_boxes 88 = .ok (.iload_n 2, 1) := by decide +kernel
theorem dX12_boxes_89 : decode cX12_boxes 89 = .ok (.iload_n 3, 1) := by decide +kernel
theorem dX12_boxes_90 : decode cX12_boxes 90 = .ok (.invokevirtual 136, 3) := by decide +kernel
theorem dX12_boxes_93 : decode cX12_boxes 93 = .ok (.iastore, 1) := by decide +kernel
theorem dX12_boxes_94 : decode cX12_boxes 94 = .ok (.aload_n 1, 1) := by decide +kernel
theorem dX12_boxes_95 : decode cX12_boxes 95 = .ok (.iload 4, 2) := by decide +kernel
theorem dX12_boxes_97 : decode cX12_boxes 97 = .ok (.iconst 4, 1) := by decide +kernel
theorem dX12_boxes_98 : decode cX12_boxes 98 = .ok (.iadd, 1) := by decide +kernel
theorem dX12_boxes_99 : decode cX12_boxes 99 = .ok (.aload_n 0, 1) := by decide +kernel
theorem dX12_boxes_100 : decode cX12_boxes 100 = .ok (.aload_n 1, 1) := by decide +kernel
theorem dX12_boxes_101 : decode cX12_boxes 101 = .ok (.iload_n 2, 1) := by decide +kernel
theorem dX12_boxes_102 : decode cX12_boxes 102 = .ok (.iload_n 3, 1) := by decide +kernel
theorem dX12_boxes_103 : decode cX12_boxes 103 = .ok (.invokevirtual 144, 3) := by decide +kernel
theorem dX12_boxes_106 : decode cX12_boxes 106 = .ok (.iastore, 1) := by decide +kernel
theorem dX12_boxes_107 : decode cX12_boxes 107 = .ok (.aload_n 1, 1) := by decide +kernel
theorem dX12_boxes_108 : decode cX12_boxes 108 = .ok (.bipush 62, 2) := by decide +kernel
theorem dX12_boxes_110 : decode cX12_boxes 110 = .ok (.dup2, 1) := by decide +kernel
theorem dX12_boxes_111 : decode cX12_boxes 111 = .ok (.iaload, 1) := by decide +kernel
theorem dX12_boxes_112 : decode cX12_boxes 112 = .ok (.iconst 1, 1) := by decide +kernel
theorem dX12_boxes_113 : decode cX12_boxes 113 = .ok (.iadd, 1) := by decide +kernel
theorem dX12_boxes_114 : decode cX12_boxes 114 = .ok (.iastore, 1) := by decide +kernel
theorem dX12_boxes_115 : decode cX12_boxes 115 = .ok (.return_, 1) := by decide +kernel
theorem dX12_mayStand_0 : decode cX12_mayStand 0 = .ok (.aload_n 0, 1) := by decide +kernel
theorem dX12_mayStand_1 : decode cX12_mayStand 1 = .ok (.getfield 16, 3) := by decide +kernel
theorem dX12_mayStand_4 : decode cX12_mayStand 4 = .ok (.bipush 7, 2) := by decide +kernel
theorem dX12_mayStand_6 : decode cX12_mayStand 6 = .ok (.iload_n 2, 1) := by decide +kernel
theorem dX12_mayStand_7 : decode cX12_mayStand 7 = .ok (.iadd, 1) := by decide +kernel
theorem dX12_mayStand_8 : decode cX12_mayStand 8 = .ok (.iaload, 1) := by decide +kernel
theorem dX12_mayStand_9 : decode cX12_mayStand 9 = .ok (.ifCond .ne 34, 3) := by decide +kernel
theorem dX12_mayStand_12 : decode cX12_mayStand 12 = .ok (.aload_n 0, 1) := by decide +kernel
theorem dX12_mayStand_13 : decode cX12_mayStand 13 = .ok (.getfield 16, 3) := by decide +kernel
theorem dX12_mayStand_16 : decode cX12_mayStand 16 = .ok (.bipush 61, 2) := by decide +kernel
theorem dX12_mayStand_18 : decode cX12_mayStand 18 = .ok (.iaload, 1) := by decide +kernel
theorem dX12_mayStand_19 : decode cX12_mayStand 19 = .ok (.iload_n 1, 1) := by decide +kernel
theorem dX12_mayStand_20 : decode cX12_mayStand 20 = .ok (.invokestatic 132, 3) := by decide +kernel
theorem dX12_mayStand_23 : decode cX12_mayStand 23 = .ok (.ifCond .ne 20, 3) := by decide +kernel
theorem dX12_mayStand_26 : decode cX12_mayStand 26 = .ok (.aload_n 0, 1) := by decide +kernel
theorem dX12_mayStand_27 : decode cX12_mayStand 27 = .ok (.aload_n 0, 1) := by decide +kernel
theorem dX12_mayStand_28 : decode cX12_mayStand 28 = .ok (.getfield 16, 3) := by decide +kernel
theorem dX12_mayStand_31 : decode cX12_mayStand 31 = .ok (.iload_n 1, 1) := by decide +kernel
theorem dX12_mayStand_32 : decode cX12_mayStand 32 = .ok (.iload_n 2, 1) := by decide +kernel
theorem dX12_mayStand_33 : decode cX12_mayStand 33 = .ok (.invokevirtual 147, 3) := by decide +kernel
theorem dX12_mayStand_36 : decode cX12_mayStand 36 = .ok (.ifCond .eq 7, 3) := by decide +kernel
theorem dX12_mayStand_39 : decode cX12_mayStand 39 = .ok (.iconst 1, 1) := by decide +kernel
theorem dX12_mayStand_40 : decode cX12_mayStand 40 = .ok (.goto 4, 3) := by decide +kernel
theorem dX12_mayStand_43 : decode cX12_mayStand 43 = .ok (.iconst 0, 1) := by decide +kernel
theorem dX12_mayStand_44 : decode cX12_mayStand 44 = .ok (.ireturn, 1) := by decide +kernel
theorem dX12_stands_0 : decode cX12_stands 0 = .ok (.aload_n 0, 1) := by decide +kernel
theorem dX12_stands_1 : decode cX12_stands 1 = .ok (.aload_n 1, 1) := by decide +kernel
theorem dX12_stands_2 : decode cX12_stands 2 = .ok (.iload_n 2, 1) := by decide +kernel
theorem dX12_stands_3 : decode cX12_stands 3 = .ok (.iload_n 3, 1) := by decide +kernel
theorem dX12_stands_4 : decode cX12_stands 4 = .ok (.invokevirtual 151, 3) := by decide +kernel
theorem dX12_stands_7 : decode cX12_stands 7 = .ok (.istore 4, 2) := by decide +kernel
theorem dX12_stands_9 : decode cX12_stands 9 = .ok (.aload_n 0, 1) := by decide +kernel
theorem dX12_stands_10 : decode cX12_stands 10 = .ok (.aload_n 1, 1) := by decide +kernel
theorem dX12_stands_11 : decode cX12_stands 11 = .ok (.iload_n 2, 1) := by decide +kernel
theorem dX12_stands_12 : decode cX12_stands 12 = .ok (.iload_n 3, 1) := by decide +kernel
theorem dX12_stands_13 : decode cX12_stands 13 = .ok (.invokevirtual 185, 3) := by decide +kernel
theorem dX12_stands_16 : decode cX12_stands 16 = .ok (.aload_n 1, 1) := by decide +kernel
theorem dX12_stands_17 : decode cX12_stands 17 = .ok (.bipush 7, 2) := by decide +kernel
theorem dX12_stands_19 : decode cX12_stands 19 = .ok (.iload_n 3, 1) := by decide +kernel
theorem dX12_stands_20 : decode cX12_stands 20 = .ok (.iadd, 1) := by decide +kernel
theorem dX12_stands_21 : decode cX12_stands 21 = .ok (.iload 4, 2) := by decide +kernel
theorem dX12_stands_23 : decode cX12_stands 23 = .ok (.ifCond .eq 7, 3) := by decide +kernel
theorem dX12_stands_26 : decode cX12_stands 26 = .ok (.iconst 1, 1) := by decide +kernel
theorem dX12_stands_27 : decode cX12_stands 27 = .ok (.goto 4, 3) := by decide +kernel
theorem dX12_stands_30 : decode cX12_stands 30 = .ok (.iconst 2, 1) := by decide +kernel
theorem dX12_stands_31 : decode cX12_stands 31 = .ok (.iastore, 1) := by decide +kernel
theorem dX12_stands_32 : decode cX12_stands 32 = .ok (.aload_n 1, 1) := by decide +kernel
theorem dX12_stands_33 : decode cX12_stands 33 = .ok (.bipush 13, 2) := by decide +kernel
theorem dX12_stands_35 : decode cX12_stands 35 = .ok (.iload_n 3, 1) := by decide +kernel
theorem dX12_stands_36 : decode cX12_stands 36 = .ok (.iadd, 1) := by decide +kernel
theorem dX12_stands_37 : decode cX12_stands 37 = .ok (.iload 4, 2) := by decide +kernel
theorem dX12_stands_39 : decode cX12_stands 39 = .ok (.ifCond .eq 13, 3) := by decide +kernel
theorem dX12_stands_42 : decode cX12_stands 42 = .ok (.aload_n 0, 1) := by decide +kernel
theorem dX12_stands_43 : decode cX12_stands 43 = .ok (.aload_n 1, 1) := by decide +kernel
theorem dX12_stands_44 : decode cX12_stands 44 = .ok (.iload_n 2, 1) := by decide +kernel
theorem dX12_stands_45 : decode cX12_stands 45 = .ok (.iload_n 3, 1) := by decide +kernel
theorem dX12_stands_46 : decode cX12_stands 46 = .ok (.invokevirtual 144, 3) := by decide +kernel
theorem dX12_stands_49 : decode cX12_stands 49 = .ok (.goto 4, 3) := by decide +kernel
theorem dX12_stands_52 : decode cX12_stands 52 = .ok (.iconst (-1), 1) := by decide +kernel
theorem dX12_stands_53 : decode cX12_stands 53 = .ok (.iastore, 1) := by decide +kernel
theorem dX12_stands_54 : decode cX12_stands 54 = .ok (.aload_n 1, 1) := by decide +kernel
theorem dX12_stands_55 : decode cX12_stands 55 = .ok (.bipush 61, 2) := by decide +kernel
theorem dX12_stands_57 : decode cX12_stands 57 = .ok (.dup2, 1) := by decide +kernel
theorem dX12_stands_58 : decode cX12_stands 58 = .ok (.iaload, 1) := by decide +kernel
theorem dX12_stands_59 : decode cX12_stands 59 = .ok (.iconst 1, 1) := by decide +kernel
theorem dX12_stands_60 : decode cX12_stands 60 = .ok (.iload_n 2, 1) := by decide +kernel
theorem dX12_stands_61 : decode cX12_stands 61 = .ok (.ishl, 1) := by decide +kernel
theorem dX12_stands_62 : decode cX12_stands 62 = .ok (.ior, 1) := by decide +kernel
theorem dX12_stands_63 : decode cX12_stands 63 = .ok (.iastore, 1) := by decide +kernel
theorem dX12_stands_64 : decode cX12_stands 64 = .ok (.iload 4, 2) := by decide +kernel
theorem dX12_stands_66 : decode cX12_stands 66 = .ok (.ireturn, 1) := by decide +kernel
theorem dX12_stand_0 : decode cX12_stand 0 = .ok (.aload_n 0, 1) := by decide +kernel
theorem dX12_stand_1 : decode cX12_stand 1 = .ok (.iload_n 1, 1) := by decide +kernel
theorem dX12_stand_2 : decode cX12_stand 2 = .ok (.invokevirtual 180, 3) := by decide +kernel
theorem dX12_stand_5 : decode cX12_stand 5 = .ok (.ifCond .eq 11, 3) := by decide +kernel
theorem dX12_stand_8 : decode cX12_stand 8 = .ok (.aload_n 0, 1) := by decide +kernel
