theorem dX10_gates_1 : decode cX10_gates 1 = .ok (.istore_n 1, 1) := by decide +kernel
theorem dX10_gates_2 : decode cX10_gates 2 = .ok (.iload_n 1, 1) := by decide +kernel
theorem dX10_gates_3 : decode cX10_gates 3 = .ok (.iconst 4, 1) := by decide +kernel
theorem dX10_gates_4 : decode cX10_gates 4 = .ok (.if_icmp .ge 28, 3) := by decide +kernel
theorem dX10_gates_7 : decode cX10_gates 7 = .ok (.aload_n 0, 1) := by decide +kernel
theorem dX10_gates_8 : decode cX10_gates 8 = .ok (.iconst 4, 1) := by decide +kernel
theorem dX10_gates_9 : decode cX10_gates 9 = .ok (.iload_n 1, 1) := by decide +kernel
theorem dX10_gates_10 : decode cX10_gates 10 = .ok (.iconst 0, 1) := by decide +kernel
theorem dX10_gates_11 : decode cX10_gates 11 = .ok (.iload_n 1, 1) := by decide +kernel
theorem dX10_gates_12 : decode cX10_gates 12 = .ok (.iconst 3, 1) := by decide +kernel
theorem dX10_gates_13 : decode cX10_gates 13 = .ok (.if_icmp .ne 9, 3) := by decide +kernel
theorem dX10_gates_16 : decode cX10_gates 16 = .ok (.ldc2_w 90, 3) := by decide +kernel
theorem dX10_gates_19 : decode cX10_gates 19 = .ok (.goto 4, 3) := by decide +kernel
theorem dX10_gates_22 : decode cX10_gates 22 = .ok (.lconst 1, 1) := by decide +kernel
theorem dX10_gates_23 : decode cX10_gates 23 = .ok (.invokevirtual 76, 3) := by decide +kernel
theorem dX10_gates_26 : decode cX10_gates 26 = .ok (.iinc 1 1, 3) := by decide +kernel
theorem dX10_gates_29 : decode cX10_gates 29 = .ok (.goto (-27), 3) := by decide +kernel
theorem dX10_gates_32 : decode cX10_gates 32 = .ok (.aload_n 0, 1) := by decide +kernel
theorem dX10_gates_33 : decode cX10_gates 33 = .ok (.getfield 11, 3) := by decide +kernel
theorem dX10_gates_36 : decode cX10_gates 36 = .ok (.bipush 84, 2) := by decide +kernel
theorem dX10_gates_38 : decode cX10_gates 38 = .ok (.lconst 1, 1) := by decide +kernel
theorem dX10_gates_39 : decode cX10_gates 39 = .ok (.lastore, 1) := by decide +kernel
theorem dX10_gates_40 : decode cX10_gates 40 = .ok (.aload_n 0, 1) := by decide +kernel
theorem dX10_gates_41 : decode cX10_gates 41 = .ok (.bipush 7, 2) := by decide +kernel
theorem dX10_gates_43 : decode cX10_gates 43 = .ok (.iconst 1, 1) := by decide +kernel
theorem dX10_gates_44 : decode cX10_gates 44 = .ok (.iconst 0, 1) := by decide +kernel
theorem dX10_gates_45 : decode cX10_gates 45 = .ok (.lconst 1, 1) := by decide +kernel
theorem dX10_gates_46 : decode cX10_gates 46 = .ok (.invokevirtual 76, 3) := by decide +kernel
theorem dX10_gates_49 : decode cX10_gates 49 = .ok (.aload_n 0, 1) := by decide +kernel
theorem dX10_gates_50 : decode cX10_gates 50 = .ok (.bipush 7, 2) := by decide +kernel
theorem dX10_gates_52 : decode cX10_gates 52 = .ok (.iconst 2, 1) := by decide +kernel
theorem dX10_gates_53 : decode cX10_gates 53 = .ok (.iconst 0, 1) := by decide +kernel
theorem dX10_gates_54 : decode cX10_gates 54 = .ok (.lconst 1, 1) := by decide +kernel
theorem dX10_gates_55 : decode cX10_gates 55 = .ok (.invokevirtual 76, 3) := by decide +kernel
theorem dX10_gates_58 : decode cX10_gates 58 = .ok (.iconst 0, 1) := by decide +kernel
theorem dX10_gates_59 : decode cX10_gates 59 = .ok (.istore_n 1, 1) := by decide +kernel
theorem dX10_gates_60 : decode cX10_gates 60 = .ok (.iload_n 1, 1) := by decide +kernel
theorem dX10_gates_61 : decode cX10_gates 61 = .ok (.bipush 7, 2) := by decide +kernel
theorem dX10_gates_63 : decode cX10_gates 63 = .ok (.if_icmp .ge 33, 3) := by decide +kernel
theorem dX10_gates_66 : decode cX10_gates 66 = .ok (.iload_n 1, 1) := by decide +kernel
theorem dX10_gates_67 : decode cX10_gates 67 = .ok (.ifCond .eq 23, 3) := by decide +kernel
theorem dX10_gates_70 : decode cX10_gates 70 = .ok (.iload_n 1, 1) := by decide +kernel
theorem dX10_gates_71 : decode cX10_gates 71 = .ok (.iconst 3, 1) := by decide +kernel
theorem dX10_gates_72 : decode cX10_gates 72 = .ok (.if_icmp .eq 18, 3) := by decide +kernel
theorem dX10_gates_75 : decode cX10_gates 75 = .ok (.iload_n 1, 1) := by decide +kernel
theorem dX10_gates_76 : decode cX10_gates 76 = .ok (.iconst 5, 1) := by decide +kernel
theorem dX10_gates_77 : decode cX10_gates 77 = .ok (.if_icmp .eq 13, 3) := by decide +kernel
theorem dX10_gates_80 : decode cX10_gates 80 = .ok (.aload_n 0, 1) := by decide +kernel
theorem dX10_gates_81 : decode cX10_gates 81 = .ok (.iconst 4, 1) := by decide +kernel
theorem dX10_gates_82 : decode cX10_gates 82 = .ok (.iload_n 1, 1) := by decide +kernel
theorem dX10_gates_83 : decode cX10_gates 83 = .ok (.iadd, 1) := by decide +kernel
theorem dX10_gates_84 : decode cX10_gates 84 = .ok (.iconst 0, 1) := by decide +kernel
theorem dX10_gates_85 : decode cX10_gates 85 = .ok (.iconst 0, 1) := by decide +kernel
theorem dX10_gates_86 : decode cX10_gates 86 = .ok (.lconst 1, 1) := by decide +kernel
theorem dX10_gates_87 : decode cX10_gates 87 = .ok (.invokevirtual 76, 3) := by decide +kernel
theorem dX10_gates_90 : decode cX10_gates 90 = .ok (.iinc 1 1, 3) := by decide +kernel
theorem dX10_gates_93 : decode cX10_gates 93 = .ok (.goto (-33), 3) := by decide +kernel
theorem dX10_gates_96 : decode cX10_gates 96 = .ok (.aload_n 0, 1) := by decide +kernel
theorem dX10_gates_97 : decode cX10_gates 97 = .ok (.iconst 5, 1) := by decide +kernel
theorem dX10_gates_98 : decode cX10_gates 98 = .ok (.iconst 3, 1) := by decide +kernel
theorem dX10_gates_99 : decode cX10_gates 99 = .ok (.iconst 1, 1) := by decide +kernel
theorem dX10_gates_100 : decode cX10_gates 100 = .ok (.lconst 1, 1) := by decide +kernel
theorem dX10_gates_101 : decode cX10_gates 101 = .ok (.invokevirtual 76, 3) := by decide +kernel
theorem dX10_gates_104 : decode cX10_gates 104 = .ok (.aload_n 0, 1) := by decide +kernel
theorem dX10_gates_105 : decode cX10_gates 105 = .ok (.bipush 6, 2) := by decide +kernel
theorem dX10_gates_107 : decode cX10_gates 107 = .ok (.iconst 3, 1) := by decide +kernel
theorem dX10_gates_108 : decode cX10_gates 108 = .ok (.iconst 2, 1) := by decide +kernel
theorem dX10_gates_109 : decode cX10_gates 109 = .ok (.lconst 1, 1) := by decide +kernel
theorem dX10_gates_110 : decode cX10_gates 110 = .ok (.invokevirtual 76, 3) := by decide +kernel
theorem dX10_gates_113 : decode cX10_gates 113 = .ok (.aload_n 0, 1) := by decide +kernel
theorem dX10_gates_114 : decode cX10_gates 114 = .ok (.bipush 8, 2) := by decide +kernel
theorem dX10_gates_116 : decode cX10_gates 116 = .ok (.iconst 3, 1) := by decide +kernel
theorem dX10_gates_117 : decode cX10_gates 117 = .ok (.iconst 0, 1) := by decide +kernel
theorem dX10_gates_118 : decode cX10_gates 118 = .ok (.ldc2_w 90, 3) := by decide +kernel
theorem dX10_gates_121 : decode cX10_gates 121 = .ok (.invokevirtual 76, 3) := by decide +kernel
theorem dX10_gates_124 : decode cX10_gates 124 = .ok (.aload_n 0, 1) := by decide +kernel
theorem dX10_gates_125 : decode cX10_gates 125 = .ok (.bipush 9, 2) := by decide +kernel
theorem dX10_gates_127 : decode cX10_gates 127 = .ok (.iconst 0, 1) := by decide +kernel
theorem dX10_gates_128 : decode cX10_gates 128 = .ok (.iconst 1, 1) := by decide +kernel
theorem dX10_gates_129 : decode cX10_gates 129 = .ok (.lconst 1, 1) := by decide +kernel
theorem dX10_gates_130 : decode cX10_gates 130 = .ok (.invokevirtual 76, 3) := by decide +kernel
theorem dX10_gates_133 : decode cX10_gates 133 = .ok (.aload_n 0, 1) := by decide +kernel
theorem dX10_gates_134 : decode cX10_gates 134 = .ok (.bipush 9, 2) := by decide +kernel
theorem dX10_gates_136 : decode cX10_gates 136 = .ok (.iconst 3, 1) := by decide +kernel
theorem dX10_gates_137 : decode cX10_gates 137 = .ok (.iconst 1, 1) := by decide +kernel
theorem dX10_gates_138 : decode cX10_gates 138 = .ok (.lconst 1, 1) := by decide +kernel
theorem dX10_gates_139 : decode cX10_gates 139 = .ok (.invokevirtual 76, 3) := by decide +kernel
theorem dX10_gates_142 : decode cX10_gates 142 = .ok (.aload_n 0, 1) := by decide +kernel
theorem dX10_gates_143 : decode cX10_gates 143 = .ok (.bipush 10, 2) := by decide +kernel
theorem dX10_gates_145 : decode cX10_gates 145 = .ok (.iconst 3, 1) := by decide +kernel
theorem dX10_gates_146 : decode cX10_gates 146 = .ok (.iconst 3, 1) := by decide +kernel
theorem dX10_gates_147 : decode cX10_gates 147 = .ok (.ldc2_w 90, 3) := by decide +kernel
theorem dX10_gates_150 : decode cX10_gates 150 = .ok (.invokevirtual 76, 3) := by decide +kernel
theorem dX10_gates_153 : decode cX10_gates 153 = .ok (.aload_n 0, 1) := by decide +kernel
theorem dX10_gates_154 : decode cX10_gates 154 = .ok (.bipush 7, 2) := by decide +kernel
theorem dX10_gates_156 : decode cX10_gates 156 = .ok (.bipush 11, 2) := by decide +kernel
theorem dX10_gates_158 : decode cX10_gates 158 = .ok (.invokevirtual 83, 3) := by decide +kernel
theorem dX10_gates_161 : decode cX10_gates 161 = .ok (.aload_n 0, 1) := by decide +kernel
theorem dX10_gates_162 : decode cX10_gates 162 = .ok (.bipush 12, 2) := by decide +kernel
theorem dX10_gates_164 : decode cX10_gates 164 = .ok (.iconst 1, 1) := by decide +kernel
theorem dX10_gates_165 : decode cX10_gates 165 = .ok (.iconst 2, 1) := by decide +kernel
theorem dX10_gates_166 : decode cX10_gates 166 = .ok (.ldc2_w 90, 3) := by decide +kernel
theorem dX10_gates_169 : decode cX10_gates 169 = .ok (.invokevirtual 76, 3) := by decide +kernel
theorem dX10_gates_172 : decode cX10_gates 172 = .ok (.aload_n 0, 1) := by decide +kernel
theorem dX10_gates_173 : decode cX10_gates 173 = .ok (.bipush 12, 2) := by decide +kernel
theorem dX10_gates_175 : decode cX10_gates 175 = .ok (.iconst 2, 1) := by decide +kernel
theorem dX10_gates_176 : decode cX10_gates 176 = .ok (.iconst 2, 1) := by decide +kernel
theorem dX10_gates_177 : decode cX10_gates 177 = .ok (.lconst 1, 1) := by decide +kernel
theorem dX10_gates_178 : decode cX10_gates 178 = .ok (.invokevirtual 76, 3) := by decide +kernel
theorem dX10_gates_181 : decode cX10_gates 181 = .ok (.aload_n 0, 1) := by decide +kernel
theorem dX10_gates_182 : decode cX10_gates 182 = .ok (.bipush 8, 2) := by decide +kernel
theorem dX10_gates_184 : decode cX10_gates 184 = .ok (.bipush 13, 2) := by decide +kernel
theorem dX10_gates_186 : decode cX10_gates 186 = .ok (.invokevirtual 83, 3) := by decide +kernel
theorem dX10_gates_189 : decode cX10_gates 189 = .ok (.return_, 1) := by decide +kernel
theorem dX10_isOver_0 : decode cX10_isOver 0 = .ok (.iconst 1, 1) := by decide +kernel
theorem dX10_isOver_1 : decode cX10_isOver 1 = .ok (.istore_n 2, 1) := by decide +kernel
theorem dX10_isOver_2 : decode cX10_isOver 2 = .ok (.iconst 0, 1) := by decide +kernel
theorem dX10_isOver_3 : decode cX10_isOver 3 = .ok (.istore_n 3, 1) := by decide +kernel
theorem dX10_isOver_4 : decode cX10_isOver 4 = .ok (.iload_n 3, 1) := by decide +kernel
theorem dX10_isOver_5 : decode cX10_isOver 5 = .ok (.iconst 4, 1) := by decide +kernel
theorem dX10_isOver_6 : decode cX10_isOver 6 = .ok (.if_icmp .ge 65, 3) := by decide +kernel
theorem dX10_isOver_9 : decode cX10_isOver 9 = .ok (.iload_n 2, 1) := by decide +kernel
theorem dX10_isOver_10 : decode cX10_isOver 10 = .ok (.aload_n 0, 1) := by decide +kernel
theorem dX10_isOver_11 : decode cX10_isOver 11 = .ok (.iload_n 1, 1) := by decide +kernel
theorem dX10_isOver_12 : decode cX10_isOver 12 = .ok (.iload_n 3, 1) := by decide +kernel
theorem dX10_isOver_13 : decode cX10_isOver 13 = .ok (.iconst 0, 1) := by decide +kernel
theorem dX10_isOver_14 : decode cX10_isOver 14 = .ok (.invokevirtual 92, 3) := by decide +kernel
theorem dX10_isOver_17 : decode cX10_isOver 17 = .ok (.aload_n 0, 1) := by decide +kernel
theorem dX10_isOver_18 : decode cX10_isOver 18 = .ok (.iload_n 1, 1) := by decide +kernel
theorem dX10_isOver_19 : decode cX10_isOver 19 = .ok (.iload_n 3, 1) := by decide +kernel
theorem dX10_isOver_20 : decode cX10_isOver 20 = .ok (.iconst 2, 1) := by decide +kernel
theorem dX10_isOver_21 : decode cX10_isOver 21 = .ok (.invokevirtual 92, 3) := by decide +kernel
theorem dX10_isOver_24 : decode cX10_isOver 24 = .ok (.ladd, 1) := by decide +kernel
theorem dX10_isOver_25 : decode cX10_isOver 25 = .ok (.ldc2_w 96, 3) := by decide +kernel
theorem dX10_isOver_28 : decode cX10_isOver 28 = .ok (.lrem, 1) := by decide +kernel
theorem dX10_isOver_29 : decode cX10_isOver 29 = .ok (.lconst 0, 1) := by decide +kernel
theorem dX10_isOver_30 : decode cX10_isOver 30 = .ok (.lcmp, 1) := by decide +kernel
theorem dX10_isOver_31 : decode cX10_isOver 31 = .ok (.ifCond .ne 31, 3) := by decide +kernel
theorem dX10_isOver_34 : decode cX10_isOver 34 = .ok (.aload_n 0, 1) := by decide +kernel
theorem dX10_isOver_35 : decode cX10_isOver 35 = .ok (.iload_n 1, 1) := by decide +kernel
theorem dX10_isOver_36 : decode cX10_isOver 36 = .ok (.iload_n 3, 1) := by decide +kernel
theorem dX10_isOver_37 : decode cX10_isOver 37 = .ok (.iconst 1, 1) := by decide +kernel
theorem dX10_isOver_38 : decode cX10_isOver 38 = .ok (.invokevirtual 92, 3) := by decide +kernel
theorem dX10_isOver_41 : decode cX10_isOver 41 = .ok (.aload_n 0, 1) := by decide +kernel
theorem dX10_isOver_42 : decode cX10_isOver 42 = .ok (.iload_n 1, 1) := by decide +kernel
theorem dX10_isOver_43 : decode cX10_isOver 43 = .ok (.iload_n 3, 1) := by decide +kernel
theorem dX10_isOver_44 : decode cX10_isOver 44 = .ok (.iconst 3, 1) := by decide +kernel
theorem dX10_isOver_45 : decode cX10_isOver 45 = .ok (.invokevirtual 92, 3) := by decide +kernel
theorem dX10_isOver_48 : decode cX10_isOver 48 = .ok (.ladd, 1) := by decide +kernel
theorem dX10_isOver_49 : decode cX10_isOver 49 = .ok (.ldc2_w 96, 3) := by decide +kernel
theorem dX10_isOver_52 : decode cX10_isOver 52 = .ok (.lrem, 1) := by decide +kernel
theorem dX10_isOver_53 : decode cX10_isOver 53 = .ok (.lconst 0, 1) := by decide +kernel
theorem dX10_isOver_54 : decode cX10_isOver 54 = .ok (.lcmp, 1) := by decide +kernel
theorem dX10_isOver_55 : decode cX10_isOver 55 = .ok (.ifCond .ne 7, 3) := by decide +kernel
theorem dX10_isOver_58 : decode cX10_isOver 58 = .ok (.iconst 1, 1) := by decide +kernel
theorem dX10_isOver_59 : decode cX10_isOver 59 = .ok (.goto 4, 3) := by decide +kernel
theorem dX10_isOver_62 : decode cX10_isOver 62 = .ok (.iconst 0, 1) := by decide +kernel
theorem dX10_isOver_63 : decode cX10_isOver 63 = .ok (.iand, 1) := by decide +kernel
theorem dX10_isOver_64 : decode cX10_isOver 64 = .ok (.istore_n 2, 1) := by decide +kernel
theorem dX10_isOver_65 : decode cX10_isOver 65 = .ok (.iinc 3 1, 3) := by decide +kernel
theorem dX10_isOver_68 : decode cX10_isOver 68 = .ok (.goto (-64), 3) := by decide +kernel
theorem dX10_isOver_71 : decode cX10_isOver 71 = .ok (.iload_n 2, 1) := by decide +kernel
theorem dX10_isOver_72 : decode cX10_isOver 72 = .ok (.ireturn, 1) := by decide +kernel
theorem dX10_lowers_0 : decode cX10_lowers 0 = .ok (.aload_n 0, 1) := by decide +kernel
theorem dX10_lowers_1 : decode cX10_lowers 1 = .ok (.iload_n 1, 1) := by decide +kernel
theorem dX10_lowers_2 : decode cX10_lowers 2 = .ok (.invokevirtual 98, 3) := by decide +kernel
theorem dX10_lowers_5 : decode cX10_lowers 5 = .ok (.ifCond .le 140, 3) := by decide +kernel
theorem dX10_lowers_8 : decode cX10_lowers 8 = .ok (.aload_n 0, 1) := by decide +kernel
theorem dX10_lowers_9 : decode cX10_lowers 9 = .ok (.iload_n 1, 1) := by decide +kernel
theorem dX10_lowers_10 : decode cX10_lowers 10 = .ok (.invokevirtual 102, 3) := by decide +kernel
theorem dX10_lowers_13 : decode cX10_lowers 13 = .ok (.ifCond .eq 132, 3) := by decide +kernel
theorem dX10_lowers_16 : decode cX10_lowers 16 = .ok (.iconst 0, 1) := by decide +kernel
theorem dX10_lowers_17 : decode cX10_lowers 17 = .ok (.istore_n 2, 1) := by decide +kernel
theorem dX10_lowers_18 : decode cX10_lowers 18 = .ok (.iload_n 2, 1) := by decide +kernel
theorem dX10_lowers_19 : decode cX10_lowers 19 = .ok (.iconst 4, 1) := by decide +kernel
theorem dX10_lowers_20 : decode cX10_lowers 20 = .ok (.if_icmp .ge 106, 3) := by decide +kernel
theorem dX10_lowers_23 : decode cX10_lowers 23 = .ok (.aload_n 0, 1) := by decide +kernel
theorem dX10_lowers_24 : decode cX10_lowers 24 = .ok (.iload_n 1, 1) := by decide +kernel
theorem dX10_lowers_25 : decode cX10_lowers 25 = .ok (.iload_n 2, 1) := by decide +kernel
theorem dX10_lowers_26 : decode cX10_lowers 26 = .ok (.iconst 0, 1) := by decide +kernel
theorem dX10_lowers_27 : decode cX10_lowers 27 = .ok (.invokevirtual 92, 3) := by decide +kernel
theorem dX10_lowers_30 : decode cX10_lowers 30 = .ok (.lstore_n 3, 1) := by decide +kernel
theorem dX10_lowers_31 : decode cX10_lowers 31 = .ok (.aload_n 0, 1) := by decide +kernel
theorem dX10_lowers_32 : decode cX10_lowers 32 = .ok (.iload_n 1, 1) := by decide +kernel
theorem dX10_lowers_33 : decode cX10_lowers 33 = .ok (.iload_n 2, 1) := by decide +kernel
theorem dX10_lowers_34 : decode cX10_lowers 34 = .ok (.iconst 1, 1) := by decide +kernel
theorem dX10_lowers_35 : decode cX10_lowers 35 = .ok (.invokevirtual 92, 3) := by decide +kernel
theorem dX10_lowers_38 : decode cX10_lowers 38 = .ok (.lstore 5, 2) := by decide +kernel
theorem dX10_lowers_40 : decode cX10_lowers 40 = .ok (.aload_n 0, 1) := by decide +kernel
theorem dX10_lowers_41 : decode cX10_lowers 41 = .ok (.iload_n 1, 1) := by decide +kernel
theorem dX10_lowers_42 : decode cX10_lowers 42 = .ok (.iload_n 2, 1) := by decide +kernel
theorem dX10_lowers_43 : decode cX10_lowers 43 = .ok (.iconst 2, 1) := by decide +kernel
theorem dX10_lowers_44 : decode cX10_lowers 44 = .ok (.invokevirtual 92, 3) := by decide +kernel
theorem dX10_lowers_47 : decode cX10_lowers 47 = .ok (.lstore 7, 2) := by decide +kernel
theorem dX10_lowers_49 : decode cX10_lowers 49 = .ok (.aload_n 0, 1) := by decide +kernel
theorem dX10_lowers_50 : decode cX10_lowers 50 = .ok (.iload_n 1, 1) := by decide +kernel
theorem dX10_lowers_51 : decode cX10_lowers 51 = .ok (.iload_n 2, 1) := by decide +kernel
theorem dX10_lowers_52 : decode cX10_lowers 52 = .ok (.iconst 3, 1) := by decide +kernel
theorem dX10_lowers_53 : decode cX10_lowers 53 = .ok (.invokevirtual 92, 3) := by decide +kernel
theorem dX10_lowers_56 : decode cX10_lowers 56 = .ok (.lstore 9, 2) := by decide +kernel
theorem dX10_lowers_58 : decode cX10_lowers 58 = .ok (.aload_n 0, 1) := by decide +kernel
theorem dX10_lowers_59 : decode cX10_lowers 59 = .ok (.iload_n 1, 1) := by decide +kernel
theorem dX10_lowers_60 : decode cX10_lowers 60 = .ok (.iload_n 2, 1) := by decide +kernel
theorem dX10_lowers_61 : decode cX10_lowers 61 = .ok (.iconst 0, 1) := by decide +kernel
theorem dX10_lowers_62 : decode cX10_lowers 62 = .ok (.lload 5, 2) := by decide +kernel
theorem dX10_lowers_64 : decode cX10_lowers 64 = .ok (.lload 9, 2) := by decide +kernel
theorem dX10_lowers_66 : decode cX10_lowers 66 = .ok (.lsub, 1) := by decide +kernel
theorem dX10_lowers_67 : decode cX10_lowers 67 = .ok (.ldc2_w 96, 3) := by decide +kernel
theorem dX10_lowers_70 : decode cX10_lowers 70 = .ok (.ldiv, 1) := by decide +kernel
theorem dX10_lowers_71 : decode cX10_lowers 71 = .ok (.invokevirtual 76, 3) := by decide +kernel
theorem dX10_lowers_74 : decode cX10_lowers 74 = .ok (.aload_n 0, 1) := by decide +kernel
theorem dX10_lowers_75 : decode cX10_lowers 75 = .ok (.iload_n 1, 1) := by decide +kernel
theorem dX10_lowers_76 : decode cX10_lowers 76 = .ok (.iload_n 2, 1) := by decide +kernel
theorem dX10_lowers_77 : decode cX10_lowers 77 = .ok (.iconst 1, 1) := by decide +kernel
theorem dX10_lowers_78 : decode cX10_lowers 78 = .ok (.lload_n 3, 1) := by decide +kernel
theorem dX10_lowers_79 : decode cX10_lowers 79 = .ok (.lload 7, 2) := by decide +kernel
theorem dX10_lowers_81 : decode cX10_lowers 81 = .ok (.ladd, 1) := by decide +kernel
theorem dX10_lowers_82 : decode cX10_lowers 82 = .ok (.ldc2_w 96, 3) := by decide +kernel
theorem dX10_lowers_85 : decode cX10_lowers 85 = .ok (.ldiv, 1) := by decide +kernel
theorem dX10_lowers_86 : decode cX10_lowers 86 = .ok (.invokevirtual 76, 3) := by decide +kernel
theorem dX10_lowers_89 : decode cX10_lowers 89 = .ok (.aload_n 0, 1) := by decide +kernel
theorem dX10_lowers_90 : decode cX10_lowers 90 = .ok (.iload_n 1, 1) := by decide +kernel
theorem dX10_lowers_91 : decode cX10_lowers 91 = .ok (.iload_n 2, 1) := by decide +kernel
theorem dX10_lowers_92 : decode cX10_lowers 92 = .ok (.iconst 2, 1) := by decide +kernel
theorem dX10_lowers_93 : decode cX10_lowers 93 = .ok (.lload 5, 2) := by decide +kernel
theorem dX10_lowers_95 : decode cX10_lowers 95 = .ok (.lload 9, 2) := by decide +kernel
theorem dX10_lowers_97 : decode cX10_lowers 97 = .ok (.ladd, 1) := by decide +kernel
theorem dX10_lowers_98 : decode cX10_lowers 98 = .ok (.ldc2_w 96, 3) := by decide +kernel
theorem dX10_lowers_101 : decode cX10_lowers 101 = .ok (.ldiv, 1) := by decide +kernel
theorem dX10_lowers_102 : decode cX10_lowers 102 = .ok (.invokevirtual 76, 3) := by decide +kernel
theorem dX10_lowers_105 : decode cX10_lowers 105 = .ok (.aload_n 0, 1) := by decide +kernel
theorem dX10_lowers_106 : decode cX10_lowers 106 = .ok (.iload_n 1, 1) := by decide +kernel
theorem dX10_lowers_107 : decode cX10_lowers 107 = .ok (.iload_n 2, 1) := by decide +kernel
theorem dX10_lowers_108 : decode cX10_lowers 108 = .ok (.iconst 3, 1) := by decide +kernel
theorem dX10_lowers_109 : decode cX10_lowers 109 = .ok (.lload 7, 2) := by decide +kernel
theorem dX10_lowers_111 : decode cX10_lowers 111 = .ok (.lload_n 3, 1) := by decide +kernel
theorem dX10_lowers_112 : decode cX10_lowers 112 = .ok (.lsub, 1) := by decide +kernel
theorem dX10_lowers_113 : decode cX10_lowers 113 = .ok (.ldc2_w 96, 3) := by decide +kernel
theorem dX10_lowers_116 : decode cX10_lowers 116 = .ok (.ldiv, 1) := by decide +kernel
theorem dX10_lowers_117 : decode cX10_lowers 117 = .ok (.invokevirtual 76, 3) := by decide +kernel
theorem dX10_lowers_120 : decode cX10_lowers 120 = .ok (.iinc 2 1, 3) := by decide +kernel
theorem dX10_lowers_123 : decode cX10_lowers 123 = .ok (.goto (-105), 3) := by decide +kernel
theorem dX10_lowers_126 : decode cX10_lowers 126 = .ok (.aload_n 0, 1) := by decide +kernel
theorem dX10_lowers_127 : decode cX10_lowers 127 = .ok (.getfield 11, 3) := by decide +kernel
theorem dX10_lowers_130 : decode cX10_lowers 130 = .ok (.bipush 17, 2) := by decide +kernel
theorem dX10_lowers_132 : decode cX10_lowers 132 = .ok (.iload_n 1, 1) := by decide +kernel
theorem dX10_lowers_133 : decode cX10_lowers 133 = .ok (.imul, 1) := by decide +kernel
theorem dX10_lowers_134 : decode cX10_lowers 134 = .ok (.bipush 16, 2) := by decide +kernel
theorem dX10_lowers_136 : decode cX10_lowers 136 = .ok (.iadd, 1) := by decide +kernel
theorem dX10_lowers_137 : decode cX10_lowers 137 = .ok (.dup2, 1) := by decide +kernel
theorem dX10_lowers_138 : decode cX10_lowers 138 = .ok (.laload, 1) := by decide +kernel
theorem dX10_lowers_139 : decode cX10_lowers 139 = .ok (.lconst 1, 1) := by decide +kernel
theorem dX10_lowers_140 : decode cX10_lowers 140 = .ok (.lsub, 1) := by decide +kernel
theorem dX10_lowers_141 : decode cX10_lowers 141 = .ok (.lastore, 1) := by decide +kernel
theorem dX10_lowers_142 : decode cX10_lowers 142 = .ok (.goto (-142), 3) := by decide +kernel
theorem dX10_lowers_145 : decode cX10_lowers 145 = .ok (.return_, 1) := by decide +kernel
theorem dX10_adds_0 : decode cX10_adds 0 = .ok (.iconst 0, 1) := by decide +kernel
theorem dX10_adds_1 : decode cX10_adds 1 = .ok (.istore 7, 2) := by decide +kernel
theorem dX10_adds_3 : decode cX10_adds 3 = .ok (.iload 7, 2) := by decide +kernel
theorem dX10_adds_5 : decode cX10_adds 5 = .ok (.iconst 4, 1) := by decide +kernel
theorem dX10_adds_6 : decode cX10_adds 6 = .ok (.if_icmp .ge 91, 3) := by decide +kernel
theorem dX10_adds_9 : decode cX10_adds 9 = .ok (.iconst 0, 1) := by decide +kernel
theorem dX10_adds_10 : decode cX10_adds 10 = .ok (.istore 8, 2) := by decide +kernel
theorem dX10_adds_12 : decode cX10_adds 12 = .ok (.iload 8, 2) := by decide +kernel
theorem dX10_adds_14 : decode cX10_adds 14 = .ok (.iconst 4, 1) := by decide +kernel
theorem dX10_adds_15 : decode cX10_adds 15 = .ok (.if_icmp .ge 76, 3) := by decide +kernel
theorem dX10_adds_18 : decode cX10_adds 18 = .ok (.aload_n 0, 1) := by decide +kernel
theorem dX10_adds_19 : decode cX10_adds 19 = .ok (.iload_n 3, 1) := by decide +kernel
theorem dX10_adds_20 : decode cX10_adds 20 = .ok (.iload 4, 2) := by decide +kernel
theorem dX10_adds_22 : decode cX10_adds 22 = .ok (.iload 7, 2) := by decide +kernel
theorem dX10_adds_24 : decode cX10_adds 24 = .ok (.invokevirtual 92, 3) := by decide +kernel
theorem dX10_adds_27 : decode cX10_adds 27 = .ok (.aload_n 0, 1) := by decide +kernel
theorem dX10_adds_28 : decode cX10_adds 28 = .ok (.iload 5, 2) := by decide +kernel
theorem dX10_adds_30 : decode cX10_adds 30 = .ok (.iload 6, 2) := by decide +kernel
theorem dX10_adds_32 : decode cX10_adds 32 = .ok (.iload 8, 2) := by decide +kernel
theorem dX10_adds_34 : decode cX10_adds 34 = .ok (.invokevirtual 92, 3) := by decide +kernel
theorem dX10_adds_37 : decode cX10_adds 37 = .ok (.lmul, 1) := by decide +kernel
theorem dX10_adds_38 : decode cX10_adds 38 = .ok (.lstore 9, 2) := by decide +kernel
theorem dX10_adds_40 : decode cX10_adds 40 = .ok (.iload 7, 2) := by decide +kernel
theorem dX10_adds_42 : decode cX10_adds 42 = .ok (.iload 8, 2) := by decide +kernel
theorem dX10_adds_44 : decode cX10_adds 44 = .ok (.iadd, 1) := by decide +kernel
theorem dX10_adds_45 : decode cX10_adds 45 = .ok (.iconst 4, 1) := by decide +kernel
theorem dX10_adds_46 : decode cX10_adds 46 = .ok (.irem, 1) := by decide +kernel
theorem dX10_adds_47 : decode cX10_adds 47 = .ok (.istore 11, 2) := by decide +kernel
theorem dX10_adds_49 : decode cX10_adds 49 = .ok (.aload_n 0, 1) := by decide +kernel
theorem dX10_adds_50 : decode cX10_adds 50 = .ok (.getfield 11, 3) := by decide +kernel
theorem dX10_adds_53 : decode cX10_adds 53 = .ok (.bipush 17, 2) := by decide +kernel
theorem dX10_adds_55 : decode cX10_adds 55 = .ok (.iload_n 1, 1) := by decide +kernel
theorem dX10_adds_56 : decode cX10_adds 56 = .ok (.imul, 1) := by decide +kernel
theorem dX10_adds_57 : decode cX10_adds 57 = .ok (.iconst 4, 1) := by decide +kernel
theorem dX10_adds_58 : decode cX10_adds 58 = .ok (.iload_n 2, 1) := by decide +kernel
theorem dX10_adds_59 : decode cX10_adds 59 = .ok (.imul, 1) := by decide +kernel
theorem dX10_adds_60 : decode cX10_adds 60 = .ok (.iadd, 1) := by decide +kernel
theorem dX10_adds_61 : decode cX10_adds 61 = .ok (.iload 11, 2) := by decide +kernel
theorem dX10_adds_63 : decode cX10_adds 63 = .ok (.iadd, 1) := by decide +kernel
theorem dX10_adds_64 : decode cX10_adds 64 = .ok (.dup2, 1) := by decide +kernel
theorem dX10_adds_65 : decode cX10_adds 65 = .ok (.laload, 1) := by decide +kernel
theorem dX10_adds_66 : decode cX10_adds 66 = .ok (.iload 7, 2) := by decide +kernel
theorem dX10_adds_68 : decode cX10_adds 68 = .ok (.iload 8, 2) := by decide +kernel
theorem dX10_adds_70 : decode cX10_adds 70 = .ok (.iadd, 1) := by decide +kernel
theorem dX10_adds_71 : decode cX10_adds 71 = .ok (.iconst 4, 1) := by decide +kernel
theorem dX10_adds_72 : decode cX10_adds 72 = .ok (.if_icmp .ge 8, 3) := by decide +kernel
theorem dX10_adds_75 : decode cX10_adds 75 = .ok (.lload 9, 2) := by decide +kernel
theorem dX10_adds_77 : decode cX10_adds 77 = .ok (.goto 6, 3) := by decide +kernel
theorem dX10_adds_80 : decode cX10_adds 80 = .ok (.lload 9, 2) := by decide +kernel
theorem dX10_adds_82 : decode cX10_adds 82 = .ok (.lneg, 1) := by decide +kernel
theorem dX10_adds_83 : decode cX10_adds 83 = .ok (.ladd, 1) := by decide +kernel
theorem dX10_adds_84 : decode cX10_adds 84 = .ok (.lastore, 1) := by decide +kernel
theorem dX10_adds_85 : decode cX10_adds 85 = .ok (.iinc 8 1, 3) := by decide +kernel
theorem dX10_adds_88 : decode cX10_adds 88 = .ok (.goto (-76), 3) := by decide +kernel
theorem dX10_adds_91 : decode cX10_adds 91 = .ok (.iinc 7 1, 3) := by decide +kernel
theorem dX10_adds_94 : decode cX10_adds 94 = .ok (.goto (-91), 3) := by decide +kernel
theorem dX10_adds_97 : decode cX10_adds 97 = .ok (.return_, 1) := by decide +kernel
theorem dX10_plainly_0 : decode cX10_plainly 0 = .ok (.iconst 0, 1) := by decide +kernel
theorem dX10_plainly_1 : decode cX10_plainly 1 = .ok (.istore 4, 2) := by decide +kernel
theorem dX10_plainly_3 : decode cX10_plainly 3 = .ok (.iload 4, 2) := by decide +kernel
theorem dX10_plainly_5 : decode cX10_plainly 5 = .ok (.bipush 17, 2) := by decide +kernel
theorem dX10_plainly_7 : decode cX10_plainly 7 = .ok (.if_icmp .ge 21, 3) := by decide +kernel
theorem dX10_plainly_10 : decode cX10_plainly 10 = .ok (.aload_n 0, 1) := by decide +kernel
theorem dX10_plainly_11 : decode cX10_plainly 11 = .ok (.getfield 11, 3) := by decide +kernel
theorem dX10_plainly_14 : decode cX10_plainly 14 = .ok (.sipush 323, 3) := by decide +kernel
theorem dX10_plainly_17 : decode cX10_plainly 17 = .ok (.iload 4, 2) := by decide +kernel
theorem dX10_plainly_19 : decode cX10_plainly 19 = .ok (.iadd, 1) := by decide +kernel
theorem dX10_plainly_20 : decode cX10_plainly 20 = .ok (.lconst 0, 1) := by decide +kernel
theorem dX10_plainly_21 : decode cX10_plainly 21 = .ok (.lastore, 1) := by decide +kernel
theorem dX10_plainly_22 : decode cX10_plainly 22 = .ok (.iinc 4 1, 3) := by decide +kernel
theorem dX10_plainly_25 : decode cX10_plainly 25 = .ok (.goto (-22), 3) := by decide +kernel
theorem dX10_plainly_28 : decode cX10_plainly 28 = .ok (.iconst 0, 1) := by decide +kernel
theorem dX10_plainly_29 : decode cX10_plainly 29 = .ok (.istore 4, 2) := by decide +kernel
theorem dX10_plainly_31 : decode cX10_plainly 31 = .ok (.iload 4, 2) := by decide +kernel
theorem dX10_plainly_33 : decode cX10_plainly 33 = .ok (.iconst 2, 1) := by decide +kernel
theorem dX10_plainly_34 : decode cX10_plainly 34 = .ok (.if_icmp .ge 70, 3) := by decide +kernel
theorem dX10_plainly_37 : decode cX10_plainly 37 = .ok (.iconst 0, 1) := by decide +kernel
theorem dX10_plainly_38 : decode cX10_plainly 38 = .ok (.istore 5, 2) := by decide +kernel
theorem dX10_plainly_40 : decode cX10_plainly 40 = .ok (.iload 5, 2) := by decide +kernel
theorem dX10_plainly_42 : decode cX10_plainly 42 = .ok (.iconst 2, 1) := by decide +kernel
theorem dX10_plainly_43 : decode cX10_plainly 43 = .ok (.if_icmp .ge 55, 3) := by decide +kernel
theorem dX10_plainly_46 : decode cX10_plainly 46 = .ok (.aload_n 0, 1) := by decide +kernel
theorem dX10_plainly_47 : decode cX10_plainly 47 = .ok (.bipush 19, 2) := by decide +kernel
theorem dX10_plainly_49 : decode cX10_plainly 49 = .ok (.iconst 2, 1) := by decide +kernel
theorem dX10_plainly_50 : decode cX10_plainly 50 = .ok (.iload 4, 2) := by decide +kernel
theorem dX10_plainly_52 : decode cX10_plainly 52 = .ok (.imul, 1) := by decide +kernel
theorem dX10_plainly_53 : decode cX10_plainly 53 = .ok (.iload 5, 2) := by decide +kernel
theorem dX10_plainly_55 : decode cX10_plainly 55 = .ok (.iadd, 1) := by decide +kernel
theorem dX10_plainly_56 : decode cX10_plainly 56 = .ok (.iload_n 2, 1) := by decide +kernel
theorem dX10_plainly_57 : decode cX10_plainly 57 = .ok (.iconst 2, 1) := by decide +kernel
theorem dX10_plainly_58 : decode cX10_plainly 58 = .ok (.iload 4, 2) := by decide +kernel
theorem dX10_plainly_60 : decode cX10_plainly 60 = .ok (.imul, 1) := by decide +kernel
theorem dX10_plainly_61 : decode cX10_plainly 61 = .ok (.iload_n 3, 1) := by decide +kernel
theorem dX10_plainly_62 : decode cX10_plainly 62 = .ok (.iload 5, 2) := by decide +kernel
theorem dX10_plainly_64 : decode cX10_plainly 64 = .ok (.invokevirtual 106, 3) := by decide +kernel
theorem dX10_plainly_67 : decode cX10_plainly 67 = .ok (.aload_n 0, 1) := by decide +kernel
theorem dX10_plainly_68 : decode cX10_plainly 68 = .ok (.bipush 19, 2) := by decide +kernel
theorem dX10_plainly_70 : decode cX10_plainly 70 = .ok (.iconst 2, 1) := by decide +kernel
theorem dX10_plainly_71 : decode cX10_plainly 71 = .ok (.iload 4, 2) := by decide +kernel
theorem dX10_plainly_73 : decode cX10_plainly 73 = .ok (.imul, 1) := by decide +kernel
theorem dX10_plainly_74 : decode cX10_plainly 74 = .ok (.iload 5, 2) := by decide +kernel
theorem dX10_plainly_76 : decode cX10_plainly 76 = .ok (.iadd, 1) := by decide +kernel
theorem dX10_plainly_77 : decode cX10_plainly 77 = .ok (.iload_n 2, 1) := by decide +kernel
theorem dX10_plainly_78 : decode cX10_plainly 78 = .ok (.iconst 2, 1) := by decide +kernel
theorem dX10_plainly_79 : decode cX10_plainly 79 = .ok (.iload 4, 2) := by decide +kernel
theorem dX10_plainly_81 : decode cX10_plainly 81 = .ok (.imul, 1) := by decide +kernel
theorem dX10_plainly_82 : decode cX10_plainly 82 = .ok (.iconst 1, 1) := by decide +kernel
theorem dX10_plainly_83 : decode cX10_plainly 83 = .ok (.iadd, 1) := by decide +kernel
theorem dX10_plainly_84 : decode cX10_plainly 84 = .ok (.iload_n 3, 1) := by decide +kernel
theorem dX10_plainly_85 : decode cX10_plainly 85 = .ok (.iconst 2, 1) := by decide +kernel
theorem dX10_plainly_86 : decode cX10_plainly 86 = .ok (.iload 5, 2) := by decide +kernel
theorem dX10_plainly_88 : decode cX10_plainly 88 = .ok (.iadd, 1) := by decide +kernel
theorem dX10_plainly_89 : decode cX10_plainly 89 = .ok (.invokevirtual 106, 3) := by decide +kernel
theorem dX10_plainly_92 : decode cX10_plainly 92 = .ok (.iinc 5 1, 3) := by decide +kernel
theorem dX10_plainly_95 : decode cX10_plainly 95 = .ok (.goto (-55), 3) := by decide +kernel
theorem dX10_plainly_98 : decode cX10_plainly 98 = .ok (.iinc 4 1, 3) := by decide +kernel
theorem dX10_plainly_101 : decode cX10_plainly 101 = .ok (.goto (-70), 3) := by decide +kernel
theorem dX10_plainly_104 : decode cX10_plainly 104 = .ok (.aload_n 0, 1) := by decide +kernel
theorem dX10_plainly_105 : decode cX10_plainly 105 = .ok (.getfield 11, 3) := by decide +kernel
theorem dX10_plainly_108 : decode cX10_plainly 108 = .ok (.sipush 339, 3) := by decide +kernel
theorem dX10_plainly_111 : decode cX10_plainly 111 = .ok (.aload_n 0, 1) := by decide +kernel
theorem dX10_plainly_112 : decode cX10_plainly 112 = .ok (.iload_n 2, 1) := by decide +kernel
theorem dX10_plainly_113 : decode cX10_plainly 113 = .ok (.invokevirtual 98, 3) := by decide +kernel
theorem dX10_plainly_116 : decode cX10_plainly 116 = .ok (.aload_n 0, 1) := by decide +kernel
theorem dX10_plainly_117 : decode cX10_plainly 117 = .ok (.iload_n 3, 1) := by decide +kernel
theorem dX10_plainly_118 : decode cX10_plainly 118 = .ok (.invokevirtual 98, 3) := by decide +kernel
theorem dX10_plainly_121 : decode cX10_plainly 121 = .ok (.iadd, 1) := by decide +kernel
theorem dX10_plainly_122 : decode cX10_plainly 122 = .ok (.i2l, 1) := by decide +kernel
theorem dX10_plainly_123 : decode cX10_plainly 123 = .ok (.lastore, 1) := by decide +kernel
theorem dX10_plainly_124 : decode cX10_plainly 124 = .ok (.aload_n 0, 1) := by decide +kernel
theorem dX10_plainly_125 : decode cX10_plainly 125 = .ok (.bipush 19, 2) := by decide +kernel
theorem dX10_plainly_127 : decode cX10_plainly 127 = .ok (.iload_n 1, 1) := by decide +kernel
theorem dX10_plainly_128 : decode cX10_plainly 128 = .ok (.invokevirtual 83, 3) := by decide +kernel
theorem dX10_plainly_131 : decode cX10_plainly 131 = .ok (.return_, 1) := by decide +kernel
theorem dX10_product_0 : decode cX10_product 0 = .ok (.aload_n 0, 1) := by decide +kernel
theorem dX10_product_1 : decode cX10_product 1 = .ok (.iload_n 1, 1) := by decide +kernel
theorem dX10_product_2 : decode cX10_product 2 = .ok (.iload_n 2, 1) := by decide +kernel
theorem dX10_product_3 : decode cX10_product 3 = .ok (.iload_n 3, 1) := by decide +kernel
theorem dX10_product_4 : decode cX10_product 4 = .ok (.invokevirtual 110, 3) := by decide +kernel
theorem dX10_product_7 : decode cX10_product 7 = .ok (.aload_n 0, 1) := by decide +kernel
theorem dX10_product_8 : decode cX10_product 8 = .ok (.iload_n 1, 1) := by decide +kernel
theorem dX10_product_9 : decode cX10_product 9 = .ok (.invokevirtual 114, 3) := by decide +kernel
theorem dX10_product_12 : decode cX10_product 12 = .ok (.return_, 1) := by decide +kernel
theorem dX10_turns_0 : decode cX10_turns 0 = .ok (.iconst 0, 1) := by decide +kernel
theorem dX10_turns_1 : decode cX10_turns 1 = .ok (.istore_n 3, 1) := by decide +kernel
theorem dX10_turns_2 : decode cX10_turns 2 = .ok (.iload_n 3, 1) := by decide +kernel
theorem dX10_turns_3 : decode cX10_turns 3 = .ok (.iconst 4, 1) := by decide +kernel
theorem dX10_turns_4 : decode cX10_turns 4 = .ok (.if_icmp .ge 97, 3) := by decide +kernel
theorem dX10_turns_7 : decode cX10_turns 7 = .ok (.iload_n 3, 1) := by decide +kernel
theorem dX10_turns_8 : decode cX10_turns 8 = .ok (.iconst 1, 1) := by decide +kernel
theorem dX10_turns_9 : decode cX10_turns 9 = .ok (.if_icmp .ne 7, 3) := by decide +kernel
theorem dX10_turns_12 : decode cX10_turns 12 = .ok (.iconst 2, 1) := by decide +kernel
theorem dX10_turns_13 : decode cX10_turns 13 = .ok (.goto 13, 3) := by decide +kernel
theorem dX10_turns_16 : decode cX10_turns 16 = .ok (.iload_n 3, 1) := by decide +kernel
theorem dX10_turns_17 : decode cX10_turns 17 = .ok (.iconst 2, 1) := by decide +kernel
theorem dX10_turns_18 : decode cX10_turns 18 = .ok (.if_icmp .ne 7, 3) := by decide +kernel
theorem dX10_turns_21 : decode cX10_turns 21 = .ok (.iconst 1, 1) := by decide +kernel
theorem dX10_turns_22 : decode cX10_turns 22 = .ok (.goto 4, 3) := by decide +kernel
theorem dX10_turns_25 : decode cX10_turns 25 = .ok (.iload_n 3, 1) := by decide +kernel
theorem dX10_turns_26 : decode cX10_turns 26 = .ok (.istore 4, 2) := by decide +kernel
theorem dX10_turns_28 : decode cX10_turns 28 = .ok (.aload_n 0, 1) := by decide +kernel
theorem dX10_turns_29 : decode cX10_turns 29 = .ok (.bipush 19, 2) := by decide +kernel
theorem dX10_turns_31 : decode cX10_turns 31 = .ok (.iload_n 3, 1) := by decide +kernel
theorem dX10_turns_32 : decode cX10_turns 32 = .ok (.iconst 0, 1) := by decide +kernel
theorem dX10_turns_33 : decode cX10_turns 33 = .ok (.aload_n 0, 1) := by decide +kernel
theorem dX10_turns_34 : decode cX10_turns 34 = .ok (.iload_n 1, 1) := by decide +kernel
theorem dX10_turns_35 : decode cX10_turns 35 = .ok (.iload 4, 2) := by decide +kernel
theorem dX10_turns_37 : decode cX10_turns 37 = .ok (.iconst 0, 1) := by decide +kernel
theorem dX10_turns_38 : decode cX10_turns 38 = .ok (.invokevirtual 92, 3) := by decide +kernel
theorem dX10_turns_41 : decode cX10_turns 41 = .ok (.invokevirtual 76, 3) := by decide +kernel
theorem dX10_turns_44 : decode cX10_turns 44 = .ok (.aload_n 0, 1) := by decide +kernel
theorem dX10_turns_45 : decode cX10_turns 45 = .ok (.bipush 19, 2) := by decide +kernel
theorem dX10_turns_47 : decode cX10_turns 47 = .ok (.iload_n 3, 1) := by decide +kernel
theorem dX10_turns_48 : decode cX10_turns 48 = .ok (.iconst 1, 1) := by decide +kernel
theorem dX10_turns_49 : decode cX10_turns 49 = .ok (.aload_n 0, 1) := by decide +kernel
theorem dX10_turns_50 : decode cX10_turns 50 = .ok (.iload_n 1, 1) := by decide +kernel
theorem dX10_turns_51 : decode cX10_turns 51 = .ok (.iload 4, 2) := by decide +kernel
theorem dX10_turns_53 : decode cX10_turns 53 = .ok (.iconst 3, 1) := by decide +kernel
theorem dX10_turns_54 : decode cX10_turns 54 = .ok (.invokevirtual 92, 3) := by decide +kernel
theorem dX10_turns_57 : decode cX10_turns 57 = .ok (.lneg, 1) := by decide +kernel
theorem dX10_turns_58 : decode cX10_turns 58 = .ok (.invokevirtual 76, 3) := by decide +kernel
theorem dX10_turns_61 : decode cX10_turns 61 = .ok (.aload_n 0, 1) := by decide +kernel
theorem dX10_turns_62 : decode cX10_turns 62 = .ok (.bipush 19, 2) := by decide +kernel
theorem dX10_turns_64 : decode cX10_turns 64 = .ok (.iload_n 3, 1) := by decide +kernel
theorem dX10_turns_65 : decode cX10_turns 65 = .ok (.iconst 2, 1) := by decide +kernel
theorem dX10_turns_66 : decode cX10_turns 66 = .ok (.aload_n 0, 1) := by decide +kernel
theorem dX10_turns_67 : decode cX10_turns 67 = .ok (.iload_n 1, 1) := by decide +kernel
theorem dX10_turns_68 : decode cX10_turns 68 = .ok (.iload 4, 2) := by decide +kernel
theorem dX10_turns_70 : decode cX10_turns 70 = .ok (.iconst 2, 1) := by decide +kernel
theorem dX10_turns_71 : decode cX10_turns 71 = .ok (.invokevirtual 92, 3) := by decide +kernel
theorem dX10_turns_74 : decode cX10_turns 74 = .ok (.lneg, 1) := by decide +kernel
theorem dX10_turns_75 : decode cX10_turns 75 = .ok (.invokevirtual 76, 3) := by decide +kernel
theorem dX10_turns_78 : decode cX10_turns 78 = .ok (.aload_n 0, 1) := by decide +kernel
theorem dX10_turns_79 : decode cX10_turns 79 = .ok (.bipush 19, 2) := by decide +kernel
theorem dX10_turns_81 : decode cX10_turns 81 = .ok (.iload_n 3, 1) := by decide +kernel
theorem dX10_turns_82 : decode cX10_turns 82 = .ok (.iconst 3, 1) := by decide +kernel
theorem dX10_turns_83 : decode cX10_turns 83 = .ok (.aload_n 0, 1) := by decide +kernel
theorem dX10_turns_84 : decode cX10_turns 84 = .ok (.iload_n 1, 1) := by decide +kernel
theorem dX10_turns_85 : decode cX10_turns 85 = .ok (.iload 4, 2) := by decide +kernel
theorem dX10_turns_87 : decode cX10_turns 87 = .ok (.iconst 1, 1) := by decide +kernel
theorem dX10_turns_88 : decode cX10_turns 88 = .ok (.invokevirtual 92, 3) := by decide +kernel
theorem dX10_turns_91 : decode cX10_turns 91 = .ok (.lneg, 1) := by decide +kernel
theorem dX10_turns_92 : decode cX10_turns 92 = .ok (.invokevirtual 76, 3) := by decide +kernel
theorem dX10_turns_95 : decode cX10_turns 95 = .ok (.iinc 3 1, 3) := by decide +kernel
theorem dX10_turns_98 : decode cX10_turns 98 = .ok (.goto (-96), 3) := by decide +kernel
theorem dX10_turns_101 : decode cX10_turns 101 = .ok (.aload_n 0, 1) := by decide +kernel
theorem dX10_turns_102 : decode cX10_turns 102 = .ok (.getfield 11, 3) := by decide +kernel
theorem dX10_turns_105 : decode cX10_turns 105 = .ok (.sipush 339, 3) := by decide +kernel
theorem dX10_turns_108 : decode cX10_turns 108 = .ok (.aload_n 0, 1) := by decide +kernel
theorem dX10_turns_109 : decode cX10_turns 109 = .ok (.iload_n 1, 1) := by decide +kernel
theorem dX10_turns_110 : decode cX10_turns 110 = .ok (.invokevirtual 98, 3) := by decide +kernel
theorem dX10_turns_113 : decode cX10_turns 113 = .ok (.i2l, 1) := by decide +kernel
theorem dX10_turns_114 : decode cX10_turns 114 = .ok (.lastore, 1) := by decide +kernel
theorem dX10_turns_115 : decode cX10_turns 115 = .ok (.aload_n 0, 1) := by decide +kernel
theorem dX10_turns_116 : decode cX10_turns 116 = .ok (.bipush 19, 2) := by decide +kernel
theorem dX10_turns_118 : decode cX10_turns 118 = .ok (.iload_n 2, 1) := by decide +kernel
theorem dX10_turns_119 : decode cX10_turns 119 = .ok (.invokevirtual 83, 3) := by decide +kernel
theorem dX10_turns_122 : decode cX10_turns 122 = .ok (.return_, 1) := by decide +kernel
theorem dX10_areSame_0 : decode cX10_areSame 0 = .ok (.iconst 1, 1) := by decide +kernel
theorem dX10_areSame_1 : decode cX10_areSame 1 = .ok (.istore_n 3, 1) := by decide +kernel
theorem dX10_areSame_2 : decode cX10_areSame 2 = .ok (.iconst 0, 1) := by decide +kernel
theorem dX10_areSame_3 : decode cX10_areSame 3 = .ok (.istore 4, 2) := by decide +kernel
theorem dX10_areSame_5 : decode cX10_areSame 5 = .ok (.iload 4, 2) := by decide +kernel
theorem dX10_areSame_7 : decode cX10_areSame 7 = .ok (.bipush 17, 2) := by decide +kernel
theorem dX10_areSame_9 : decode cX10_areSame 9 = .ok (.if_icmp .ge 45, 3) := by decide +kernel
theorem dX10_areSame_12 : decode cX10_areSame 12 = .ok (.iload_n 3, 1) := by decide +kernel
theorem dX10_areSame_13 : decode cX10_areSame 13 = .ok (.aload_n 0, 1) := by decide +kernel
theorem dX10_areSame_14 : decode cX10_areSame 14 = .ok (.getfield 11, 3) := by decide +kernel
theorem dX10_areSame_17 : decode cX10_areSame 17 = .ok (.bipush 17, 2) := by decide +kernel
theorem dX10_areSame_19 : decode cX10_areSame 19 = .ok (.iload_n 1, 1) := by decide +kernel
theorem dX10_areSame_20 : decode cX10_areSame 20 = .ok (.imul, 1) := by decide +kernel
theorem dX10_areSame_21 : decode cX10_areSame 21 = .ok (.iload 4, 2) := by decide +kernel
theorem dX10_areSame_23 : decode cX10_areSame 23 = .ok (.iadd, 1) := by decide +kernel
theorem dX10_areSame_24 : decode cX10_areSame 24 = .ok (.laload, 1) := by decide +kernel
theorem dX10_areSame_25 : decode cX10_areSame 25 = .ok (.aload_n 0, 1) := by decide +kernel
theorem dX10_areSame_26 : decode cX10_areSame 26 = .ok (.getfield 11, 3) := by decide +kernel
theorem dX10_areSame_29 : decode cX10_areSame 29 = .ok (.bipush 17, 2) := by decide +kernel
theorem dX10_areSame_31 : decode cX10_areSame 31 = .ok (.iload_n 2, 1) := by decide +kernel
theorem dX10_areSame_32 : decode cX10_areSame 32 = .ok (.imul, 1) := by decide +kernel
theorem dX10_areSame_33 : decode cX10_areSame 33 = .ok (.iload 4, 2) := by decide +kernel
theorem dX10_areSame_35 : decode cX10_areSame 35 = .ok (.iadd, 1) := by decide +kernel
theorem dX10_areSame_36 : decode cX10_areSame 36 = .ok (.laload, 1) := by decide +kernel
theorem dX10_areSame_37 : decode cX10_areSame 37 = .ok (.lcmp, 1) := by decide +kernel
theorem dX10_areSame_38 : decode cX10_areSame 38 = .ok (.ifCond .ne 7, 3) := by decide +kernel
theorem dX10_areSame_41 : decode cX10_areSame 41 = .ok (.iconst 1, 1) := by decide +kernel
theorem dX10_areSame_42 : decode cX10_areSame 42 = .ok (.goto 4, 3) := by decide +kernel
theorem dX10_areSame_45 : decode cX10_areSame 45 = .ok (.iconst 0, 1) := by decide +kernel
theorem dX10_areSame_46 : decode cX10_areSame 46 = .ok (.iand, 1) := by decide +kernel
theorem dX10_areSame_47 : decode cX10_areSame 47 = .ok (.istore_n 3, 1) := by decide +kernel
theorem dX10_areSame_48 : decode cX10_areSame 48 = .ok (.iinc 4 1, 3) := by decide +kernel
theorem dX10_areSame_51 : decode cX10_areSame 51 = .ok (.goto (-46), 3) := by decide +kernel
theorem dX10_areSame_54 : decode cX10_areSame 54 = .ok (.iload_n 3, 1) := by decide +kernel
theorem dX10_areSame_55 : decode cX10_areSame 55 = .ok (.ireturn, 1) := by decide +kernel
theorem dX10_isRegister_0 : decode cX10_isRegister 0 = .ok (.iload_n 0, 1) := by decide +kernel
theorem dX10_isRegister_1 : decode cX10_isRegister 1 = .ok (.i2l, 1) := by decide +kernel
theorem dX10_isRegister_2 : decode cX10_isRegister 2 = .ok (.lconst 0, 1) := by decide +kernel
theorem dX10_isRegister_3 : decode cX10_isRegister 3 = .ok (.ldc2_w 118, 3) := by decide +kernel
theorem dX10_isRegister_6 : decode cX10_isRegister 6 = .ok (.invokestatic 120, 3) := by decide +kernel
theorem dX10_isRegister_9 : decode cX10_isRegister 9 = .ok (.ireturn, 1) := by decide +kernel
theorem dX10_isGate_0 : decode cX10_isGate 0 = .ok (.iload_n 0, 1) := by decide +kernel
theorem dX10_isGate_1 : decode cX10_isGate 1 = .ok (.i2l, 1) := by decide +kernel
theorem dX10_isGate_2 : decode cX10_isGate 2 = .ok (.lconst 0, 1) := by decide +kernel
theorem dX10_isGate_3 : decode cX10_isGate 3 = .ok (.ldc2_w 124, 3) := by decide +kernel
theorem dX10_isGate_6 : decode cX10_isGate 6 = .ok (.invokestatic 120, 3) := by decide +kernel
theorem dX10_isGate_9 : decode cX10_isGate 9 = .ok (.ireturn, 1) := by decide +kernel
theorem dX10_one_0 : decode cX10_one 0 = .ok (.iload_n 1, 1) := by decide +kernel
theorem dX10_one_1 : decode cX10_one 1 = .ok (.invokestatic 126, 3) := by decide +kernel
theorem dX10_one_4 : decode cX10_one 4 = .ok (.ifCond .ne 5, 3) := by decide +kernel
theorem dX10_one_7 : decode cX10_one 7 = .ok (.iconst (-1), 1) := by decide +kernel
theorem dX10_one_8 : decode cX10_one 8 = .ok (.ireturn, 1) := by decide +kernel
theorem dX10_one_9 : decode cX10_one 9 = .ok (.aload_n 0, 1) := by decide +kernel
theorem dX10_one_10 : decode cX10_one 10 = .ok (.iload_n 1, 1) := by decide +kernel
theorem dX10_one_11 : decode cX10_one 11 = .ok (.invokevirtual 98, 3) := by decide +kernel
theorem dX10_one_14 : decode cX10_one 14 = .ok (.istore_n 2, 1) := by decide +kernel
theorem dX10_one_15 : decode cX10_one 15 = .ok (.aload_n 0, 1) := by decide +kernel
theorem dX10_one_16 : decode cX10_one 16 = .ok (.bipush 14, 2) := by decide +kernel
theorem dX10_one_18 : decode cX10_one 18 = .ok (.iload_n 1, 1) := by decide +kernel
theorem dX10_one_19 : decode cX10_one 19 = .ok (.invokevirtual 83, 3) := by decide +kernel
theorem dX10_one_22 : decode cX10_one 22 = .ok (.iload_n 2, 1) := by decide +kernel
theorem dX10_one_23 : decode cX10_one 23 = .ok (.ireturn, 1) := by decide +kernel
theorem dX10_comes_0 : decode cX10_comes 0 = .ok (.aload_n 0, 1) := by decide +kernel
theorem dX10_comes_1 : decode cX10_comes 1 = .ok (.bipush 15, 2) := by decide +kernel
theorem dX10_comes_3 : decode cX10_comes 3 = .ok (.invokevirtual 98, 3) := by decide +kernel
theorem dX10_comes_6 : decode cX10_comes 6 = .ok (.bipush 40, 2) := by decide +kernel
theorem dX10_comes_8 : decode cX10_comes 8 = .ok (.if_icmp .le 6, 3) := by decide +kernel
theorem dX10_comes_11 : decode cX10_comes 11 = .ok (.bipush (-5), 2) := by decide +kernel
theorem dX10_comes_13 : decode cX10_comes 13 = .ok (.ireturn, 1) := by decide +kernel
theorem dX10_comes_14 : decode cX10_comes 14 = .ok (.aload_n 0, 1) := by decide +kernel
theorem dX10_comes_15 : decode cX10_comes 15 = .ok (.bipush 15, 2) := by decide +kernel
theorem dX10_comes_17 : decode cX10_comes 17 = .ok (.iload_n 1, 1) := by decide +kernel
theorem dX10_comes_18 : decode cX10_comes 18 = .ok (.invokevirtual 83, 3) := by decide +kernel
theorem dX10_comes_21 : decode cX10_comes 21 = .ok (.aload_n 0, 1) := by decide +kernel
theorem dX10_comes_22 : decode cX10_comes 22 = .ok (.iload_n 1, 1) := by decide +kernel
theorem dX10_comes_23 : decode cX10_comes 23 = .ok (.invokevirtual 98, 3) := by decide +kernel
theorem dX10_comes_26 : decode cX10_comes 26 = .ok (.ireturn, 1) := by decide +kernel
theorem dX10_gate_0 : decode cX10_gate 0 = .ok (.iload_n 1, 1) := by decide +kernel
theorem dX10_gate_1 : decode cX10_gate 1 = .ok (.invokestatic 126, 3) := by decide +kernel
theorem dX10_gate_4 : decode cX10_gate 4 = .ok (.ifCond .eq 10, 3) := by decide +kernel
theorem dX10_gate_7 : decode cX10_gate 7 = .ok (.iload_n 2, 1) := by decide +kernel
theorem dX10_gate_8 : decode cX10_gate 8 = .ok (.invokestatic 129, 3) := by decide +kernel
theorem dX10_gate_11 : decode cX10_gate 11 = .ok (.ifCond .ne 5, 3) := by decide +kernel
theorem dX10_gate_14 : decode cX10_gate 14 = .ok (.iconst (-1), 1) := by decide +kernel
theorem dX10_gate_15 : decode cX10_gate 15 = .ok (.ireturn, 1) := by decide +kernel
theorem dX10_gate_16 : decode cX10_gate 16 = .ok (.aload_n 0, 1) := by decide +kernel
theorem dX10_gate_17 : decode cX10_gate 17 = .ok (.bipush 15, 2) := by decide +kernel
theorem dX10_gate_19 : decode cX10_gate 19 = .ok (.iload_n 1, 1) := by decide +kernel
theorem dX10_gate_20 : decode cX10_gate 20 = .ok (.iconst 4, 1) := by decide +kernel
theorem dX10_gate_21 : decode cX10_gate 21 = .ok (.iload_n 2, 1) := by decide +kernel
theorem dX10_gate_22 : decode cX10_gate 22 = .ok (.iadd, 1) := by decide +kernel
theorem dX10_gate_23 : decode cX10_gate 23 = .ok (.invokevirtual 132, 3) := by decide +kernel
theorem dX10_gate_26 : decode cX10_gate 26 = .ok (.aload_n 0, 1) := by decide +kernel
theorem dX10_gate_27 : decode cX10_gate 27 = .ok (.iload_n 1, 1) := by decide +kernel
theorem dX10_gate_28 : decode cX10_gate 28 = .ok (.invokevirtual 135, 3) := by decide +kernel
theorem dX10_gate_31 : decode cX10_gate 31 = .ok (.ireturn, 1) := by decide +kernel
theorem dX10_ahead_0 : decode cX10_ahead 0 = .ok (.iload_n 1, 1) := by decide +kernel
theorem dX10_ahead_1 : decode cX10_ahead 1 = .ok (.invokestatic 126, 3) := by decide +kernel
theorem dX10_ahead_4 : decode cX10_ahead 4 = .ok (.ifCond .eq 10, 3) := by decide +kernel
theorem dX10_ahead_7 : decode cX10_ahead 7 = .ok (.iload_n 2, 1) := by decide +kernel
theorem dX10_ahead_8 : decode cX10_ahead 8 = .ok (.invokestatic 129, 3) := by decide +kernel
theorem dX10_ahead_11 : decode cX10_ahead 11 = .ok (.ifCond .ne 5, 3) := by decide +kernel
theorem dX10_ahead_14 : decode cX10_ahead 14 = .ok (.iconst (-1), 1) := by decide +kernel
theorem dX10_ahead_15 : decode cX10_ahead 15 = .ok (.ireturn, 1) := by decide +kernel
theorem dX10_ahead_16 : decode cX10_ahead 16 = .ok (.aload_n 0, 1) := by decide +kernel
theorem dX10_ahead_17 : decode cX10_ahead 17 = .ok (.bipush 15, 2) := by decide +kernel
theorem dX10_ahead_19 : decode cX10_ahead 19 = .ok (.iconst 4, 1) := by decide +kernel
theorem dX10_ahead_20 : decode cX10_ahead 20 = .ok (.iload_n 2, 1) := by decide +kernel
theorem dX10_ahead_21 : decode cX10_ahead 21 = .ok (.iadd, 1) := by decide +kernel
theorem dX10_ahead_22 : decode cX10_ahead 22 = .ok (.iload_n 1, 1) := by decide +kernel
theorem dX10_ahead_23 : decode cX10_ahead 23 = .ok (.invokevirtual 132, 3) := by decide +kernel
theorem dX10_ahead_26 : decode cX10_ahead 26 = .ok (.aload_n 0, 1) := by decide +kernel
theorem dX10_ahead_27 : decode cX10_ahead 27 = .ok (.iload_n 1, 1) := by decide +kernel
theorem dX10_ahead_28 : decode cX10_ahead 28 = .ok (.invokevirtual 135, 3) := by decide +kernel
theorem dX10_ahead_31 : decode cX10_ahead 31 = .ok (.ireturn, 1) := by decide +kernel
theorem dX10_times_0 : decode cX10_times 0 = .ok (.iload_n 1, 1) := by decide +kernel
theorem dX10_times_1 : decode cX10_times 1 = .ok (.invokestatic 126, 3) := by decide +kernel
theorem dX10_times_4 : decode cX10_times 4 = .ok (.ifCond .eq 17, 3) := by decide +kernel
theorem dX10_times_7 : decode cX10_times 7 = .ok (.iload_n 2, 1) := by decide +kernel
theorem dX10_times_8 : decode cX10_times 8 = .ok (.invokestatic 126, 3) := by decide +kernel
theorem dX10_times_11 : decode cX10_times 11 = .ok (.ifCond .eq 10, 3) := by decide +kernel
theorem dX10_times_14 : decode cX10_times 14 = .ok (.iload_n 3, 1) := by decide +kernel
theorem dX10_times_15 : decode cX10_times 15 = .ok (.invokestatic 126, 3) := by decide +kernel
theorem dX10_times_18 : decode cX10_times 18 = .ok (.ifCond .ne 5, 3) := by decide +kernel
theorem dX10_times_21 : decode cX10_times 21 = .ok (.iconst (-1), 1) := by decide +kernel
theorem dX10_times_22 : decode cX10_times 22 = .ok (.ireturn, 1) := by decide +kernel
theorem dX10_times_23 : decode cX10_times 23 = .ok (.aload_n 0, 1) := by decide +kernel
theorem dX10_times_24 : decode cX10_times 24 = .ok (.bipush 15, 2) := by decide +kernel
theorem dX10_times_26 : decode cX10_times 26 = .ok (.iload_n 2, 1) := by decide +kernel
theorem dX10_times_27 : decode cX10_times 27 = .ok (.iload_n 3, 1) := by decide +kernel
theorem dX10_times_28 : decode cX10_times 28 = .ok (.invokevirtual 132, 3) := by decide +kernel
theorem dX10_times_31 : decode cX10_times 31 = .ok (.aload_n 0, 1) := by decide +kernel
theorem dX10_times_32 : decode cX10_times 32 = .ok (.iload_n 1, 1) := by decide +kernel
theorem dX10_times_33 : decode cX10_times 33 = .ok (.invokevirtual 135, 3) := by decide +kernel
theorem dX10_times_36 : decode cX10_times 36 = .ok (.ireturn, 1) := by decide +kernel
theorem dX10_turn_0 : decode cX10_turn 0 = .ok (.iload_n 1, 1) := by decide +kernel
theorem dX10_turn_1 : decode cX10_turn 1 = .ok (.invokestatic 126, 3) := by decide +kernel
theorem dX10_turn_4 : decode cX10_turn 4 = .ok (.ifCond .ne 5, 3) := by decide +kernel
theorem dX10_turn_7 : decode cX10_turn 7 = .ok (.iconst (-1), 1) := by decide +kernel
theorem dX10_turn_8 : decode cX10_turn 8 = .ok (.ireturn, 1) := by decide +kernel
theorem dX10_turn_9 : decode cX10_turn 9 = .ok (.aload_n 0, 1) := by decide +kernel
theorem dX10_turn_10 : decode cX10_turn 10 = .ok (.iload_n 1, 1) := by decide +kernel
theorem dX10_turn_11 : decode cX10_turn 11 = .ok (.iload_n 1, 1) := by decide +kernel
theorem dX10_turn_12 : decode cX10_turn 12 = .ok (.invokevirtual 138, 3) := by decide +kernel
theorem dX10_turn_15 : decode cX10_turn 15 = .ok (.aload_n 0, 1) := by decide +kernel
theorem dX10_turn_16 : decode cX10_turn 16 = .ok (.iload_n 1, 1) := by decide +kernel
theorem dX10_turn_17 : decode cX10_turn 17 = .ok (.invokevirtual 98, 3) := by decide +kernel
theorem dX10_turn_20 : decode cX10_turn 20 = .ok (.ireturn, 1) := by decide +kernel
theorem dX10_part_0 : decode cX10_part 0 = .ok (.iload_n 1, 1) := by decide +kernel
theorem dX10_part_1 : decode cX10_part 1 = .ok (.invokestatic 126, 3) := by decide +kernel
theorem dX10_part_4 : decode cX10_part 4 = .ok (.ifCond .eq 51, 3) := by decide +kernel
theorem dX10_part_7 : decode cX10_part 7 = .ok (.iload_n 2, 1) := by decide +kernel
theorem dX10_part_8 : decode cX10_part 8 = .ok (.i2l, 1) := by decide +kernel
theorem dX10_part_9 : decode cX10_part 9 = .ok (.lconst 0, 1) := by decide +kernel
theorem dX10_part_10 : decode cX10_part 10 = .ok (.lconst 1, 1) := by decide +kernel
theorem dX10_part_11 : decode cX10_part 11 = .ok (.invokestatic 120, 3) := by decide +kernel
theorem dX10_part_14 : decode cX10_part 14 = .ok (.ifCond .eq 41, 3) := by decide +kernel
theorem dX10_part_17 : decode cX10_part 17 = .ok (.iload_n 3, 1) := by decide +kernel
theorem dX10_part_18 : decode cX10_part 18 = .ok (.i2l, 1) := by decide +kernel
theorem dX10_part_19 : decode cX10_part 19 = .ok (.lconst 0, 1) := by decide +kernel
theorem dX10_part_20 : decode cX10_part 20 = .ok (.lconst 1, 1) := by decide +kernel
theorem dX10_part_21 : decode cX10_part 21 = .ok (.invokestatic 120, 3) := by decide +kernel
theorem dX10_part_24 : decode cX10_part 24 = .ok (.ifCond .eq 31, 3) := by decide +kernel
theorem dX10_part_27 : decode cX10_part 27 = .ok (.iload 4, 2) := by decide +kernel
theorem dX10_part_29 : decode cX10_part 29 = .ok (.i2l, 1) := by decide +kernel
theorem dX10_part_30 : decode cX10_part 30 = .ok (.lconst 0, 1) := by decide +kernel
theorem dX10_part_31 : decode cX10_part 31 = .ok (.ldc2_w 118, 3) := by decide +kernel
theorem dX10_part_34 : decode cX10_part 34 = .ok (.invokestatic 120, 3) := by decide +kernel
theorem dX10_part_37 : decode cX10_part 37 = .ok (.ifCond .eq 18, 3) := by decide +kernel
theorem dX10_part_40 : decode cX10_part 40 = .ok (.aload_n 0, 1) := by decide +kernel
theorem dX10_part_41 : decode cX10_part 41 = .ok (.iload_n 1, 1) := by decide +kernel
theorem dX10_part_42 : decode cX10_part 42 = .ok (.iconst 2, 1) := by decide +kernel
theorem dX10_part_43 : decode cX10_part 43 = .ok (.iload_n 2, 1) := by decide +kernel
theorem dX10_part_44 : decode cX10_part 44 = .ok (.imul, 1) := by decide +kernel
theorem dX10_part_45 : decode cX10_part 45 = .ok (.iload_n 3, 1) := by decide +kernel
theorem dX10_part_46 : decode cX10_part 46 = .ok (.iadd, 1) := by decide +kernel
theorem dX10_part_47 : decode cX10_part 47 = .ok (.iload 4, 2) := by decide +kernel
theorem dX10_part_49 : decode cX10_part 49 = .ok (.invokevirtual 92, 3) := by decide +kernel
theorem dX10_part_52 : decode cX10_part 52 = .ok (.goto 6, 3) := by decide +kernel
theorem dX10_part_55 : decode cX10_part 55 = .ok (.ldc2_w 141, 3) := by decide +kernel
theorem dX10_part_58 : decode cX10_part 58 = .ok (.lreturn, 1) := by decide +kernel
theorem dX10_e_0 : decode cX10_e 0 = .ok (.iload_n 1, 1) := by decide +kernel
theorem dX10_e_1 : decode cX10_e 1 = .ok (.invokestatic 126, 3) := by decide +kernel
theorem dX10_e_4 : decode cX10_e 4 = .ok (.ifCond .eq 11, 3) := by decide +kernel
theorem dX10_e_7 : decode cX10_e 7 = .ok (.aload_n 0, 1) := by decide +kernel
theorem dX10_e_8 : decode cX10_e 8 = .ok (.iload_n 1, 1) := by decide +kernel
theorem dX10_e_9 : decode cX10_e 9 = .ok (.invokevirtual 98, 3) := by decide +kernel
theorem dX10_e_12 : decode cX10_e 12 = .ok (.goto 4, 3) := by decide +kernel
theorem dX10_e_15 : decode cX10_e 15 = .ok (.iconst (-1), 1) := by decide +kernel
theorem dX10_e_16 : decode cX10_e 16 = .ok (.ireturn, 1) := by decide +kernel
theorem dX10_phase_0 : decode cX10_phase 0 = .ok (.iload_n 1, 1) := by decide +kernel
theorem dX10_phase_1 : decode cX10_phase 1 = .ok (.invokestatic 126, 3) := by decide +kernel
theorem dX10_phase_4 : decode cX10_phase 4 = .ok (.ifCond .eq 10, 3) := by decide +kernel
theorem dX10_phase_7 : decode cX10_phase 7 = .ok (.iload_n 2, 1) := by decide +kernel
theorem dX10_phase_8 : decode cX10_phase 8 = .ok (.invokestatic 126, 3) := by decide +kernel
theorem dX10_phase_11 : decode cX10_phase 11 = .ok (.ifCond .ne 5, 3) := by decide +kernel
theorem dX10_phase_14 : decode cX10_phase 14 = .ok (.iconst (-1), 1) := by decide +kernel
theorem dX10_phase_15 : decode cX10_phase 15 = .ok (.ireturn, 1) := by decide +kernel
theorem dX10_phase_16 : decode cX10_phase 16 = .ok (.aload_n 0, 1) := by decide +kernel
theorem dX10_phase_17 : decode cX10_phase 17 = .ok (.iload_n 2, 1) := by decide +kernel
theorem dX10_phase_18 : decode cX10_phase 18 = .ok (.bipush 15, 2) := by decide +kernel
theorem dX10_phase_20 : decode cX10_phase 20 = .ok (.invokevirtual 83, 3) := by decide +kernel
theorem dX10_phase_23 : decode cX10_phase 23 = .ok (.iconst 0, 1) := by decide +kernel
theorem dX10_phase_24 : decode cX10_phase 24 = .ok (.istore_n 3, 1) := by decide +kernel
theorem dX10_phase_25 : decode cX10_phase 25 = .ok (.iload_n 3, 1) := by decide +kernel
theorem dX10_phase_26 : decode cX10_phase 26 = .ok (.bipush 8, 2) := by decide +kernel
theorem dX10_phase_28 : decode cX10_phase 28 = .ok (.if_icmp .ge 31, 3) := by decide +kernel
theorem dX10_phase_31 : decode cX10_phase 31 = .ok (.aload_n 0, 1) := by decide +kernel
theorem dX10_phase_32 : decode cX10_phase 32 = .ok (.bipush 15, 2) := by decide +kernel
theorem dX10_phase_34 : decode cX10_phase 34 = .ok (.iload_n 1, 1) := by decide +kernel
theorem dX10_phase_35 : decode cX10_phase 35 = .ok (.invokevirtual 143, 3) := by decide +kernel
theorem dX10_phase_38 : decode cX10_phase 38 = .ok (.ifCond .eq 5, 3) := by decide +kernel
theorem dX10_phase_41 : decode cX10_phase 41 = .ok (.iload_n 3, 1) := by decide +kernel
theorem dX10_phase_42 : decode cX10_phase 42 = .ok (.ireturn, 1) := by decide +kernel
theorem dX10_phase_43 : decode cX10_phase 43 = .ok (.aload_n 0, 1) := by decide +kernel
theorem dX10_phase_44 : decode cX10_phase 44 = .ok (.bipush 15, 2) := by decide +kernel
theorem dX10_phase_46 : decode cX10_phase 46 = .ok (.bipush 9, 2) := by decide +kernel
theorem dX10_phase_48 : decode cX10_phase 48 = .ok (.bipush 15, 2) := by decide +kernel
theorem dX10_phase_50 : decode cX10_phase 50 = .ok (.invokevirtual 132, 3) := by decide +kernel
theorem dX10_phase_53 : decode cX10_phase 53 = .ok (.iinc 3 1, 3) := by decide +kernel
theorem dX10_phase_56 : decode cX10_phase 56 = .ok (.goto (-31), 3) := by decide +kernel
theorem dX10_phase_59 : decode cX10_phase 59 = .ok (.bipush (-2), 2) := by decide +kernel
theorem dX10_phase_61 : decode cX10_phase 61 = .ok (.ireturn, 1) := by decide +kernel
theorem dX10_channels_0 : decode cX10_channels 0 = .ok (.aload_n 0, 1) := by decide +kernel
theorem dX10_channels_1 : decode cX10_channels 1 = .ok (.iload_n 1, 1) := by decide +kernel
theorem dX10_channels_2 : decode cX10_channels 2 = .ok (.bipush 16, 2) := by decide +kernel
theorem dX10_channels_4 : decode cX10_channels 4 = .ok (.invokevirtual 138, 3) := by decide +kernel
theorem dX10_channels_7 : decode cX10_channels 7 = .ok (.iconst 0, 1) := by decide +kernel
theorem dX10_channels_8 : decode cX10_channels 8 = .ok (.istore_n 2, 1) := by decide +kernel
theorem dX10_channels_9 : decode cX10_channels 9 = .ok (.iload_n 2, 1) := by decide +kernel
theorem dX10_channels_10 : decode cX10_channels 10 = .ok (.bipush 9, 2) := by decide +kernel
theorem dX10_channels_12 : decode cX10_channels 12 = .ok (.if_icmp .ge 92, 3) := by decide +kernel
theorem dX10_channels_15 : decode cX10_channels 15 = .ok (.aload_n 0, 1) := by decide +kernel
theorem dX10_channels_16 : decode cX10_channels 16 = .ok (.bipush 17, 2) := by decide +kernel
theorem dX10_channels_18 : decode cX10_channels 18 = .ok (.bipush 11, 2) := by decide +kernel
theorem dX10_channels_20 : decode cX10_channels 20 = .ok (.iload_n 2, 1) := by decide +kernel
theorem dX10_channels_21 : decode cX10_channels 21 = .ok (.iconst 3, 1) := by decide +kernel
theorem dX10_channels_22 : decode cX10_channels 22 = .ok (.idiv, 1) := by decide +kernel
theorem dX10_channels_23 : decode cX10_channels 23 = .ok (.iadd, 1) := by decide +kernel
theorem dX10_channels_24 : decode cX10_channels 24 = .ok (.iload_n 1, 1) := by decide +kernel
theorem dX10_channels_25 : decode cX10_channels 25 = .ok (.invokevirtual 110, 3) := by decide +kernel
theorem dX10_channels_28 : decode cX10_channels 28 = .ok (.aload_n 0, 1) := by decide +kernel
theorem dX10_channels_29 : decode cX10_channels 29 = .ok (.bipush 17, 2) := by decide +kernel
theorem dX10_channels_31 : decode cX10_channels 31 = .ok (.bipush 17, 2) := by decide +kernel
theorem dX10_channels_33 : decode cX10_channels 33 = .ok (.bipush 11, 2) := by decide +kernel
theorem dX10_channels_35 : decode cX10_channels 35 = .ok (.iload_n 2, 1) := by decide +kernel
theorem dX10_channels_36 : decode cX10_channels 36 = .ok (.iconst 3, 1) := by decide +kernel
theorem dX10_channels_37 : decode cX10_channels 37 = .ok (.irem, 1) := by decide +kernel
theorem dX10_channels_38 : decode cX10_channels 38 = .ok (.iadd, 1) := by decide +kernel
theorem dX10_channels_39 : decode cX10_channels 39 = .ok (.invokevirtual 110, 3) := by decide +kernel
theorem dX10_channels_42 : decode cX10_channels 42 = .ok (.aload_n 0, 1) := by decide +kernel
theorem dX10_channels_43 : decode cX10_channels 43 = .ok (.bipush 17, 2) := by decide +kernel
theorem dX10_channels_45 : decode cX10_channels 45 = .ok (.bipush 17, 2) := by decide +kernel
theorem dX10_channels_47 : decode cX10_channels 47 = .ok (.bipush 16, 2) := by decide +kernel
theorem dX10_channels_49 : decode cX10_channels 49 = .ok (.invokevirtual 110, 3) := by decide +kernel
theorem dX10_channels_52 : decode cX10_channels 52 = .ok (.aload_n 0, 1) := by decide +kernel
theorem dX10_channels_53 : decode cX10_channels 53 = .ok (.getfield 40, 3) := by decide +kernel
theorem dX10_channels_56 : decode cX10_channels 56 = .ok (.iload_n 2, 1) := by decide +kernel
theorem dX10_channels_57 : decode cX10_channels 57 = .ok (.aload_n 0, 1) := by decide +kernel
theorem dX10_channels_58 : decode cX10_channels 58 = .ok (.bipush 17, 2) := by decide +kernel
theorem dX10_channels_60 : decode cX10_channels 60 = .ok (.iconst 0, 1) := by decide +kernel
theorem dX10_channels_61 : decode cX10_channels 61 = .ok (.iconst 0, 1) := by decide +kernel
theorem dX10_channels_62 : decode cX10_channels 62 = .ok (.invokevirtual 92, 3) := by decide +kernel
theorem dX10_channels_65 : decode cX10_channels 65 = .ok (.aload_n 0, 1) := by decide +kernel
theorem dX10_channels_66 : decode cX10_channels 66 = .ok (.bipush 17, 2) := by decide +kernel
theorem dX10_channels_68 : decode cX10_channels 68 = .ok (.iconst 3, 1) := by decide +kernel
theorem dX10_channels_69 : decode cX10_channels 69 = .ok (.iconst 0, 1) := by decide +kernel
theorem dX10_channels_70 : decode cX10_channels 70 = .ok (.invokevirtual 92, 3) := by decide +kernel
theorem dX10_channels_73 : decode cX10_channels 73 = .ok (.ladd, 1) := by decide +kernel
theorem dX10_channels_74 : decode cX10_channels 74 = .ok (.lastore, 1) := by decide +kernel
theorem dX10_channels_75 : decode cX10_channels 75 = .ok (.aload_n 0, 1) := by decide +kernel
theorem dX10_channels_76 : decode cX10_channels 76 = .ok (.getfield 43, 3) := by decide +kernel
theorem dX10_channels_79 : decode cX10_channels 79 = .ok (.iload_n 2, 1) := by decide +kernel
theorem dX10_channels_80 : decode cX10_channels 80 = .ok (.aload_n 0, 1) := by decide +kernel
theorem dX10_channels_81 : decode cX10_channels 81 = .ok (.bipush 17, 2) := by decide +kernel
theorem dX10_channels_83 : decode cX10_channels 83 = .ok (.iconst 0, 1) := by decide +kernel
theorem dX10_channels_84 : decode cX10_channels 84 = .ok (.iconst 1, 1) := by decide +kernel
theorem dX10_channels_85 : decode cX10_channels 85 = .ok (.invokevirtual 92, 3) := by decide +kernel
theorem dX10_channels_88 : decode cX10_channels 88 = .ok (.aload_n 0, 1) := by decide +kernel
theorem dX10_channels_89 : decode cX10_channels 89 = .ok (.bipush 17, 2) := by decide +kernel
theorem dX10_channels_91 : decode cX10_channels 91 = .ok (.iconst 3, 1) := by decide +kernel
theorem dX10_channels_92 : decode cX10_channels 92 = .ok (.iconst 1, 1) := by decide +kernel
theorem dX10_channels_93 : decode cX10_channels 93 = .ok (.invokevirtual 92, 3) := by decide +kernel
theorem dX10_channels_96 : decode cX10_channels 96 = .ok (.ladd, 1) := by decide +kernel
theorem dX10_channels_97 : decode cX10_channels 97 = .ok (.lastore, 1) := by decide +kernel
theorem dX10_channels_98 : decode cX10_channels 98 = .ok (.iinc 2 1, 3) := by decide +kernel
theorem dX10_channels_101 : decode cX10_channels 101 = .ok (.goto (-92), 3) := by decide +kernel
theorem dX10_channels_104 : decode cX10_channels 104 = .ok (.iconst 2, 1) := by decide +kernel
theorem dX10_channels_105 : decode cX10_channels 105 = .ok (.aload_n 0, 1) := by decide +kernel
theorem dX10_channels_106 : decode cX10_channels 106 = .ok (.iload_n 1, 1) := by decide +kernel
theorem dX10_channels_107 : decode cX10_channels 107 = .ok (.invokevirtual 98, 3) := by decide +kernel
theorem dX10_channels_110 : decode cX10_channels 110 = .ok (.imul, 1) := by decide +kernel
theorem dX10_channels_111 : decode cX10_channels 111 = .ok (.iconst 2, 1) := by decide +kernel
theorem dX10_channels_112 : decode cX10_channels 112 = .ok (.iadd, 1) := by decide +kernel
theorem dX10_channels_113 : decode cX10_channels 113 = .ok (.istore_n 2, 1) := by decide +kernel
theorem dX10_channels_114 : decode cX10_channels 114 = .ok (.iconst 1, 1) := by decide +kernel
theorem dX10_channels_115 : decode cX10_channels 115 = .ok (.istore_n 3, 1) := by decide +kernel
theorem dX10_channels_116 : decode cX10_channels 116 = .ok (.iload_n 3, 1) := by decide +kernel
theorem dX10_channels_117 : decode cX10_channels 117 = .ok (.ifCond .eq 118, 3) := by decide +kernel
theorem dX10_channels_120 : decode cX10_channels 120 = .ok (.iload_n 2, 1) := by decide +kernel
theorem dX10_channels_121 : decode cX10_channels 121 = .ok (.ifCond .le 114, 3) := by decide +kernel
theorem dX10_channels_124 : decode cX10_channels 124 = .ok (.iconst 0, 1) := by decide +kernel
theorem dX10_channels_125 : decode cX10_channels 125 = .ok (.istore 4, 2) := by decide +kernel
theorem dX10_channels_127 : decode cX10_channels 127 = .ok (.iload 4, 2) := by decide +kernel
theorem dX10_channels_129 : decode cX10_channels 129 = .ok (.bipush 9, 2) := by decide +kernel
theorem dX10_channels_131 : decode cX10_channels 131 = .ok (.if_icmp .ge 33, 3) := by decide +kernel
theorem dX10_channels_134 : decode cX10_channels 134 = .ok (.iload_n 3, 1) := by decide +kernel
theorem dX10_channels_135 : decode cX10_channels 135 = .ok (.aload_n 0, 1) := by decide +kernel
theorem dX10_channels_136 : decode cX10_channels 136 = .ok (.getfield 40, 3) := by decide +kernel
theorem dX10_channels_139 : decode cX10_channels 139 = .ok (.iload 4, 2) := by decide +kernel
theorem dX10_channels_141 : decode cX10_channels 141 = .ok (.laload, 1) := by decide +kernel
theorem dX10_channels_142 : decode cX10_channels 142 = .ok (.ldc2_w 96, 3) := by decide +kernel
theorem dX10_channels_145 : decode cX10_channels 145 = .ok (.lrem, 1) := by decide +kernel
theorem dX10_channels_146 : decode cX10_channels 146 = .ok (.lconst 0, 1) := by decide +kernel
theorem dX10_channels_147 : decode cX10_channels 147 = .ok (.lcmp, 1) := by decide +kernel
theorem dX10_channels_148 : decode cX10_channels 148 = .ok (.ifCond .ne 7, 3) := by decide +kernel
theorem dX10_channels_151 : decode cX10_channels 151 = .ok (.iconst 1, 1) := by decide +kernel
theorem dX10_channels_152 : decode cX10_channels 152 = .ok (.goto 4, 3) := by decide +kernel
theorem dX10_channels_155 : decode cX10_channels 155 = .ok (.iconst 0, 1) := by decide +kernel
theorem dX10_channels_156 : decode cX10_channels 156 = .ok (.iand, 1) := by decide +kernel
theorem dX10_channels_157 : decode cX10_channels 157 = .ok (.istore_n 3, 1) := by decide +kernel
theorem dX10_channels_158 : decode cX10_channels 158 = .ok (.iinc 4 1, 3) := by decide +kernel
theorem dX10_channels_161 : decode cX10_channels 161 = .ok (.goto (-34), 3) := by decide +kernel
theorem dX10_channels_164 : decode cX10_channels 164 = .ok (.iconst 0, 1) := by decide +kernel
theorem dX10_channels_165 : decode cX10_channels 165 = .ok (.istore 4, 2) := by decide +kernel
theorem dX10_channels_167 : decode cX10_channels 167 = .ok (.iload 4, 2) := by decide +kernel
theorem dX10_channels_169 : decode cX10_channels 169 = .ok (.bipush 9, 2) := by decide +kernel
theorem dX10_channels_171 : decode cX10_channels 171 = .ok (.if_icmp .ge 49, 3) := by decide +kernel
theorem dX10_channels_174 : decode cX10_channels 174 = .ok (.iload_n 3, 1) := by decide +kernel
theorem dX10_channels_175 : decode cX10_channels 175 = .ok (.ifCond .eq 45, 3) := by decide +kernel
theorem dX10_channels_178 : decode cX10_channels 178 = .ok (.aload_n 0, 1) := by decide +kernel
theorem dX10_channels_179 : decode cX10_channels 179 = .ok (.getfield 40, 3) := by decide +kernel
theorem dX10_channels_182 : decode cX10_channels 182 = .ok (.iload 4, 2) := by decide +kernel
theorem dX10_channels_184 : decode cX10_channels 184 = .ok (.laload, 1) := by decide +kernel
theorem dX10_channels_185 : decode cX10_channels 185 = .ok (.lstore 5, 2) := by decide +kernel
theorem dX10_channels_187 : decode cX10_channels 187 = .ok (.aload_n 0, 1) := by decide +kernel
theorem dX10_channels_188 : decode cX10_channels 188 = .ok (.getfield 40, 3) := by decide +kernel
theorem dX10_channels_191 : decode cX10_channels 191 = .ok (.iload 4, 2) := by decide +kernel
theorem dX10_channels_193 : decode cX10_channels 193 = .ok (.aload_n 0, 1) := by decide +kernel
theorem dX10_channels_194 : decode cX10_channels 194 = .ok (.getfield 43, 3) := by decide +kernel
theorem dX10_channels_197 : decode cX10_channels 197 = .ok (.iload 4, 2) := by decide +kernel
theorem dX10_channels_199 : decode cX10_channels 199 = .ok (.laload, 1) := by decide +kernel
theorem dX10_channels_200 : decode cX10_channels 200 = .ok (.lastore, 1) := by decide +kernel
theorem dX10_channels_201 : decode cX10_channels 201 = .ok (.aload_n 0, 1) := by decide +kernel
theorem dX10_channels_202 : decode cX10_channels 202 = .ok (.getfield 43, 3) := by decide +kernel
theorem dX10_channels_205 : decode cX10_channels 205 = .ok (.iload 4, 2) := by decide +kernel
theorem dX10_channels_207 : decode cX10_channels 207 = .ok (.lload 5, 2) := by decide +kernel
theorem dX10_channels_209 : decode cX10_channels 209 = .ok (.ldc2_w 96, 3) := by decide +kernel
theorem dX10_channels_212 : decode cX10_channels 212 = .ok (.ldiv, 1) := by decide +kernel
theorem dX10_channels_213 : decode cX10_channels 213 = .ok (.lastore, 1) := by decide +kernel
theorem dX10_channels_214 : decode cX10_channels 214 = .ok (.iinc 4 1, 3) := by decide +kernel
theorem dX10_channels_217 : decode cX10_channels 217 = .ok (.goto (-50), 3) := by decide +kernel
theorem dX10_channels_220 : decode cX10_channels 220 = .ok (.iload_n 2, 1) := by decide +kernel
theorem dX10_channels_221 : decode cX10_channels 221 = .ok (.iload_n 3, 1) := by decide +kernel
theorem dX10_channels_222 : decode cX10_channels 222 = .ok (.ifCond .eq 7, 3) := by decide +kernel
theorem dX10_channels_225 : decode cX10_channels 225 = .ok (.iconst 1, 1) := by decide +kernel
theorem dX10_channels_226 : decode cX10_channels 226 = .ok (.goto 4, 3) := by decide +kernel
theorem dX10_channels_229 : decode cX10_channels 229 = .ok (.iconst 0, 1) := by decide +kernel
theorem dX10_channels_230 : decode cX10_channels 230 = .ok (.isub, 1) := by decide +kernel
theorem dX10_channels_231 : decode cX10_channels 231 = .ok (.istore_n 2, 1) := by decide +kernel
theorem dX10_channels_232 : decode cX10_channels 232 = .ok (.goto (-116), 3) := by decide +kernel
theorem dX10_channels_235 : decode cX10_channels 235 = .ok (.iload_n 2, 1) := by decide +kernel
theorem dX10_channels_236 : decode cX10_channels 236 = .ok (.ireturn, 1) := by decide +kernel
theorem dX10_channel_0 : decode cX10_channel 0 = .ok (.iload_n 1, 1) := by decide +kernel
theorem dX10_channel_1 : decode cX10_channel 1 = .ok (.invokestatic 126, 3) := by decide +kernel
theorem dX10_channel_4 : decode cX10_channel 4 = .ok (.ifCond .eq 38, 3) := by decide +kernel
theorem dX10_channel_7 : decode cX10_channel 7 = .ok (.iload_n 2, 1) := by decide +kernel
theorem dX10_channel_8 : decode cX10_channel 8 = .ok (.i2l, 1) := by decide +kernel
theorem dX10_channel_9 : decode cX10_channel 9 = .ok (.lconst 0, 1) := by decide +kernel
theorem dX10_channel_10 : decode cX10_channel 10 = .ok (.ldc2_w 96, 3) := by decide +kernel
theorem dX10_channel_13 : decode cX10_channel 13 = .ok (.invokestatic 120, 3) := by decide +kernel
theorem dX10_channel_16 : decode cX10_channel 16 = .ok (.ifCond .eq 26, 3) := by decide +kernel
theorem dX10_channel_19 : decode cX10_channel 19 = .ok (.iload_n 3, 1) := by decide +kernel
theorem dX10_channel_20 : decode cX10_channel 20 = .ok (.i2l, 1) := by decide +kernel
theorem dX10_channel_21 : decode cX10_channel 21 = .ok (.lconst 0, 1) := by decide +kernel
theorem dX10_channel_22 : decode cX10_channel 22 = .ok (.ldc2_w 96, 3) := by decide +kernel
theorem dX10_channel_25 : decode cX10_channel 25 = .ok (.invokestatic 120, 3) := by decide +kernel
theorem dX10_channel_28 : decode cX10_channel 28 = .ok (.ifCond .eq 14, 3) := by decide +kernel
theorem dX10_channel_31 : decode cX10_channel 31 = .ok (.iload 4, 2) := by decide +kernel
theorem dX10_channel_33 : decode cX10_channel 33 = .ok (.i2l, 1) := by decide +kernel
theorem dX10_channel_34 : decode cX10_channel 34 = .ok (.lconst 0, 1) := by decide +kernel
theorem dX10_channel_35 : decode cX10_channel 35 = .ok (.lconst 1, 1) := by decide +kernel
theorem dX10_channel_36 : decode cX10_channel 36 = .ok (.invokestatic 120, 3) := by decide +kernel
theorem dX10_channel_39 : decode cX10_channel 39 = .ok (.ifCond .ne 7, 3) := by decide +kernel
theorem dX10_channel_42 : decode cX10_channel 42 = .ok (.ldc2_w 141, 3) := by decide +kernel
theorem dX10_channel_45 : decode cX10_channel 45 = .ok (.lreturn, 1) := by decide +kernel
theorem dX10_channel_46 : decode cX10_channel 46 = .ok (.aload_n 0, 1) := by decide +kernel
theorem dX10_channel_47 : decode cX10_channel 47 = .ok (.iload_n 1, 1) := by decide +kernel
theorem dX10_channel_48 : decode cX10_channel 48 = .ok (.invokevirtual 147, 3) := by decide +kernel
theorem dX10_channel_51 : decode cX10_channel 51 = .ok (.istore 5, 2) := by decide +kernel
theorem dX10_channel_53 : decode cX10_channel 53 = .ok (.iload 4, 2) := by decide +kernel
theorem dX10_channel_55 : decode cX10_channel 55 = .ok (.ifCond .ne 16, 3) := by decide +kernel
theorem dX10_channel_58 : decode cX10_channel 58 = .ok (.aload_n 0, 1) := by decide +kernel
theorem dX10_channel_59 : decode cX10_channel 59 = .ok (.getfield 40, 3) := by decide +kernel
theorem dX10_channel_62 : decode cX10_channel 62 = .ok (.iconst 3, 1) := by decide +kernel
theorem dX10_channel_63 : decode cX10_channel 63 = .ok (.iload_n 2, 1) := by decide +kernel
theorem dX10_channel_64 : decode cX10_channel 64 = .ok (.imul, 1) := by decide +kernel
theorem dX10_channel_65 : decode cX10_channel 65 = .ok (.iload_n 3, 1) := by decide +kernel
theorem dX10_channel_66 : decode cX10_channel 66 = .ok (.iadd, 1) := by decide +kernel
theorem dX10_channel_67 : decode cX10_channel 67 = .ok (.laload, 1) := by decide +kernel
theorem dX10_channel_68 : decode cX10_channel 68 = .ok (.goto 13, 3) := by decide +kernel
theorem dX10_channel_71 : decode cX10_channel 71 = .ok (.aload_n 0, 1) := by decide +kernel
theorem dX10_channel_72 : decode cX10_channel 72 = .ok (.getfield 43, 3) := by decide +kernel
theorem dX10_channel_75 : decode cX10_channel 75 = .ok (.iconst 3, 1) := by decide +kernel
theorem dX10_channel_76 : decode cX10_channel 76 = .ok (.iload_n 2, 1) := by decide +kernel
theorem dX10_channel_77 : decode cX10_channel 77 = .ok (.imul, 1) := by decide +kernel
theorem dX10_channel_78 : decode cX10_channel 78 = .ok (.iload_n 3, 1) := by decide +kernel
theorem dX10_channel_79 : decode cX10_channel 79 = .ok (.iadd, 1) := by decide +kernel
theorem dX10_channel_80 : decode cX10_channel 80 = .ok (.laload, 1) := by decide +kernel
theorem dX10_channel_81 : decode cX10_channel 81 = .ok (.lreturn, 1) := by decide +kernel
theorem dX10_count_0 : decode cX10_count 0 = .ok (.iload_n 1, 1) := by decide +kernel
theorem dX10_count_1 : decode cX10_count 1 = .ok (.invokestatic 126, 3) := by decide +kernel
theorem dX10_count_4 : decode cX10_count 4 = .ok (.ifCond .eq 11, 3) := by decide +kernel
theorem dX10_count_7 : decode cX10_count 7 = .ok (.aload_n 0, 1) := by decide +kernel
theorem dX10_count_8 : decode cX10_count 8 = .ok (.iload_n 1, 1) := by decide +kernel
theorem dX10_count_9 : decode cX10_count 9 = .ok (.invokevirtual 147, 3) := by decide +kernel
theorem dX10_count_12 : decode cX10_count 12 = .ok (.goto 4, 3) := by decide +kernel
theorem dX10_count_15 : decode cX10_count 15 = .ok (.iconst (-1), 1) := by decide +kernel
theorem dX10_count_16 : decode cX10_count 16 = .ok (.ireturn, 1) := by decide +kernel
theorem dX10_cliffordOf_0 : decode cX10_cliffordOf 0 = .ok (.iconst 0, 1) := by decide +kernel
theorem dX10_cliffordOf_1 : decode cX10_cliffordOf 1 = .ok (.istore_n 2, 1) := by decide +kernel
theorem dX10_cliffordOf_2 : decode cX10_cliffordOf 2 = .ok (.iload_n 2, 1) := by decide +kernel
theorem dX10_cliffordOf_3 : decode cX10_cliffordOf 3 = .ok (.aload_n 0, 1) := by decide +kernel
theorem dX10_cliffordOf_4 : decode cX10_cliffordOf 4 = .ok (.getfield 150, 3) := by decide +kernel
theorem dX10_cliffordOf_7 : decode cX10_cliffordOf 7 = .ok (.if_icmp .ge 71, 3) := by decide +kernel
theorem dX10_cliffordOf_10 : decode cX10_cliffordOf 10 = .ok (.iconst 1, 1) := by decide +kernel
theorem dX10_cliffordOf_11 : decode cX10_cliffordOf 11 = .ok (.istore_n 3, 1) := by decide +kernel
theorem dX10_cliffordOf_12 : decode cX10_cliffordOf 12 = .ok (.iconst 0, 1) := by decide +kernel
theorem dX10_cliffordOf_13 : decode cX10_cliffordOf 13 = .ok (.istore 4, 2) := by decide +kernel
theorem dX10_cliffordOf_15 : decode cX10_cliffordOf 15 = .ok (.iload 4, 2) := by decide +kernel
theorem dX10_cliffordOf_17 : decode cX10_cliffordOf 17 = .ok (.bipush 17, 2) := by decide +kernel
theorem dX10_cliffordOf_19 : decode cX10_cliffordOf 19 = .ok (.if_icmp .ge 47, 3) := by decide +kernel
theorem dX10_cliffordOf_22 : decode cX10_cliffordOf 22 = .ok (.iload_n 3, 1) := by decide +kernel
theorem dX10_cliffordOf_23 : decode cX10_cliffordOf 23 = .ok (.ifCond .eq 43, 3) := by decide +kernel
theorem dX10_cliffordOf_26 : decode cX10_cliffordOf 26 = .ok (.aload_n 0, 1) := by decide +kernel
theorem dX10_cliffordOf_27 : decode cX10_cliffordOf 27 = .ok (.getfield 15, 3) := by decide +kernel
theorem dX10_cliffordOf_30 : decode cX10_cliffordOf 30 = .ok (.bipush 17, 2) := by decide +kernel
theorem dX10_cliffordOf_32 : decode cX10_cliffordOf 32 = .ok (.iload_n 2, 1) := by decide +kernel
theorem dX10_cliffordOf_33 : decode cX10_cliffordOf 33 = .ok (.imul, 1) := by decide +kernel
theorem dX10_cliffordOf_34 : decode cX10_cliffordOf 34 = .ok (.iload 4, 2) := by decide +kernel
theorem dX10_cliffordOf_36 : decode cX10_cliffordOf 36 = .ok (.iadd, 1) := by decide +kernel
theorem dX10_cliffordOf_37 : decode cX10_cliffordOf 37 = .ok (.laload, 1) := by decide +kernel
theorem dX10_cliffordOf_38 : decode cX10_cliffordOf 38 = .ok (.aload_n 0, 1) := by decide +kernel
theorem dX10_cliffordOf_39 : decode cX10_cliffordOf 39 = .ok (.getfield 11, 3) := by decide +kernel
theorem dX10_cliffordOf_42 : decode cX10_cliffordOf 42 = .ok (.bipush 17, 2) := by decide +kernel
theorem dX10_cliffordOf_44 : decode cX10_cliffordOf 44 = .ok (.iload_n 1, 1) := by decide +kernel
theorem dX10_cliffordOf_45 : decode cX10_cliffordOf 45 = .ok (.imul, 1) := by decide +kernel
theorem dX10_cliffordOf_46 : decode cX10_cliffordOf 46 = .ok (.iload 4, 2) := by decide +kernel
theorem dX10_cliffordOf_48 : decode cX10_cliffordOf 48 = .ok (.iadd, 1) := by decide +kernel
theorem dX10_cliffordOf_49 : decode cX10_cliffordOf 49 = .ok (.laload, 1) := by decide +kernel
theorem dX10_cliffordOf_50 : decode cX10_cliffordOf 50 = .ok (.lcmp, 1) := by decide +kernel
theorem dX10_cliffordOf_51 : decode cX10_cliffordOf 51 = .ok (.ifCond .ne 7, 3) := by decide +kernel
theorem dX10_cliffordOf_54 : decode cX10_cliffordOf 54 = .ok (.iconst 1, 1) := by decide +kernel
theorem dX10_cliffordOf_55 : decode cX10_cliffordOf 55 = .ok (.goto 4, 3) := by decide +kernel
theorem dX10_cliffordOf_58 : decode cX10_cliffordOf 58 = .ok (.iconst 0, 1) := by decide +kernel
theorem dX10_cliffordOf_59 : decode cX10_cliffordOf 59 = .ok (.istore_n 3, 1) := by decide +kernel
theorem dX10_cliffordOf_60 : decode cX10_cliffordOf 60 = .ok (.iinc 4 1, 3) := by decide +kernel
theorem dX10_cliffordOf_63 : decode cX10_cliffordOf 63 = .ok (.goto (-48), 3) := by decide +kernel
theorem dX10_cliffordOf_66 : decode cX10_cliffordOf 66 = .ok (.iload_n 3, 1) := by decide +kernel
theorem dX10_cliffordOf_67 : decode cX10_cliffordOf 67 = .ok (.ifCond .eq 5, 3) := by decide +kernel
theorem dX10_cliffordOf_70 : decode cX10_cliffordOf 70 = .ok (.iload_n 2, 1) := by decide +kernel
theorem dX10_cliffordOf_71 : decode cX10_cliffordOf 71 = .ok (.ireturn, 1) := by decide +kernel
theorem dX10_cliffordOf_72 : decode cX10_cliffordOf 72 = .ok (.iinc 2 1, 3) := by decide +kernel
theorem dX10_cliffordOf_75 : decode cX10_cliffordOf 75 = .ok (.goto (-73), 3) := by decide +kernel
theorem dX10_cliffordOf_78 : decode cX10_cliffordOf 78 = .ok (.bipush (-2), 2) := by decide +kernel
theorem dX10_cliffordOf_80 : decode cX10_cliffordOf 80 = .ok (.ireturn, 1) := by decide +kernel
theorem dX10_loads_0 : decode cX10_loads 0 = .ok (.iconst 0, 1) := by decide +kernel
theorem dX10_loads_1 : decode cX10_loads 1 = .ok (.istore_n 3, 1) := by decide +kernel
theorem dX10_loads_2 : decode cX10_loads 2 = .ok (.iload_n 3, 1) := by decide +kernel
theorem dX10_loads_3 : decode cX10_loads 3 = .ok (.bipush 17, 2) := by decide +kernel
theorem dX10_loads_5 : decode cX10_loads 5 = .ok (.if_icmp .ge 31, 3) := by decide +kernel
theorem dX10_loads_8 : decode cX10_loads 8 = .ok (.aload_n 0, 1) := by decide +kernel
theorem dX10_loads_9 : decode cX10_loads 9 = .ok (.getfield 11, 3) := by decide +kernel
theorem dX10_loads_12 : decode cX10_loads 12 = .ok (.bipush 17, 2) := by decide +kernel
theorem dX10_loads_14 : decode cX10_loads 14 = .ok (.iload_n 2, 1) := by decide +kernel
theorem dX10_loads_15 : decode cX10_loads 15 = .ok (.imul, 1) := by decide +kernel
theorem dX10_loads_16 : decode cX10_loads 16 = .ok (.iload_n 3, 1) := by decide +kernel
theorem dX10_loads_17 : decode cX10_loads 17 = .ok (.iadd, 1) := by decide +kernel
theorem dX10_loads_18 : decode cX10_loads 18 = .ok (.aload_n 0, 1) := by decide +kernel
theorem dX10_loads_19 : decode cX10_loads 19 = .ok (.getfield 15, 3) := by decide +kernel
theorem dX10_loads_22 : decode cX10_loads 22 = .ok (.bipush 17, 2) := by decide +kernel
theorem dX10_loads_24 : decode cX10_loads 24 = .ok (.iload_n 1, 1) := by decide +kernel
theorem dX10_loads_25 : decode cX10_loads 25 = .ok (.imul, 1) := by decide +kernel
theorem dX10_loads_26 : decode cX10_loads 26 = .ok (.iload_n 3, 1) := by decide +kernel
theorem dX10_loads_27 : decode cX10_loads 27 = .ok (.iadd, 1) := by decide +kernel
theorem dX10_loads_28 : decode cX10_loads 28 = .ok (.laload, 1) := by decide +kernel
theorem dX10_loads_29 : decode cX10_loads 29 = .ok (.lastore, 1) := by decide +kernel
theorem dX10_loads_30 : decode cX10_loads 30 = .ok (.iinc 3 1, 3) := by decide +kernel
theorem dX10_loads_33 : decode cX10_loads 33 = .ok (.goto (-31), 3) := by decide +kernel
theorem dX10_loads_36 : decode cX10_loads 36 = .ok (.return_, 1) := by decide +kernel
theorem dX10_saves_0 : decode cX10_saves 0 = .ok (.iconst 0, 1) := by decide +kernel
theorem dX10_saves_1 : decode cX10_saves 1 = .ok (.istore_n 2, 1) := by decide +kernel
theorem dX10_saves_2 : decode cX10_saves 2 = .ok (.iload_n 2, 1) := by decide +kernel
theorem dX10_saves_3 : decode cX10_saves 3 = .ok (.bipush 17, 2) := by decide +kernel
theorem dX10_saves_5 : decode cX10_saves 5 = .ok (.if_icmp .ge 34, 3) := by decide +kernel
theorem dX10_saves_8 : decode cX10_saves 8 = .ok (.aload_n 0, 1) := by decide +kernel
theorem dX10_saves_9 : decode cX10_saves 9 = .ok (.getfield 15, 3) := by decide +kernel
theorem dX10_saves_12 : decode cX10_saves 12 = .ok (.bipush 17, 2) := by decide +kernel
theorem dX10_saves_14 : decode cX10_saves 14 = .ok (.aload_n 0, 1) := by decide +kernel
theorem dX10_saves_15 : decode cX10_saves 15 = .ok (.getfield 150, 3) := by decide +kernel
theorem dX10_saves_18 : decode cX10_saves 18 = .ok (.imul, 1) := by decide +kernel
theorem dX10_saves_19 : decode cX10_saves 19 = .ok (.iload_n 2, 1) := by decide +kernel
theorem dX10_saves_20 : decode cX10_saves 20 = .ok (.iadd, 1) := by decide +kernel
theorem dX10_saves_21 : decode cX10_saves 21 = .ok (.aload_n 0, 1) := by decide +kernel
theorem dX10_saves_22 : decode cX10_saves 22 = .ok (.getfield 11, 3) := by decide +kernel
theorem dX10_saves_25 : decode cX10_saves 25 = .ok (.bipush 17, 2) := by decide +kernel
theorem dX10_saves_27 : decode cX10_saves 27 = .ok (.iload_n 1, 1) := by decide +kernel
theorem dX10_saves_28 : decode cX10_saves 28 = .ok (.imul, 1) := by decide +kernel
theorem dX10_saves_29 : decode cX10_saves 29 = .ok (.iload_n 2, 1) := by decide +kernel
theorem dX10_saves_30 : decode cX10_saves 30 = .ok (.iadd, 1) := by decide +kernel
theorem dX10_saves_31 : decode cX10_saves 31 = .ok (.laload, 1) := by decide +kernel
theorem dX10_saves_32 : decode cX10_saves 32 = .ok (.lastore, 1) := by decide +kernel
theorem dX10_saves_33 : decode cX10_saves 33 = .ok (.iinc 2 1, 3) := by decide +kernel
theorem dX10_saves_36 : decode cX10_saves 36 = .ok (.goto (-34), 3) := by decide +kernel
theorem dX10_saves_39 : decode cX10_saves 39 = .ok (.aload_n 0, 1) := by decide +kernel
theorem dX10_saves_40 : decode cX10_saves 40 = .ok (.dup, 1) := by decide +kernel
theorem dX10_saves_41 : decode cX10_saves 41 = .ok (.getfield 150, 3) := by decide +kernel
theorem dX10_saves_44 : decode cX10_saves 44 = .ok (.iconst 1, 1) := by decide +kernel
theorem dX10_saves_45 : decode cX10_saves 45 = .ok (.iadd, 1) := by decide +kernel
theorem dX10_saves_46 : decode cX10_saves 46 = .ok (.putfield 150, 3) := by decide +kernel
theorem dX10_saves_49 : decode cX10_saves 49 = .ok (.return_, 1) := by decide +kernel
theorem dX10_isClifford_0 : decode cX10_isClifford 0 = .ok (.iload_n 0, 1) := by decide +kernel
theorem dX10_isClifford_1 : decode cX10_isClifford 1 = .ok (.ifCond .eq 23, 3) := by decide +kernel
theorem dX10_isClifford_4 : decode cX10_isClifford 4 = .ok (.iload_n 0, 1) := by decide +kernel
theorem dX10_isClifford_5 : decode cX10_isClifford 5 = .ok (.iconst 2, 1) := by decide +kernel
theorem dX10_isClifford_6 : decode cX10_isClifford 6 = .ok (.if_icmp .eq 18, 3) := by decide +kernel
theorem dX10_isClifford_9 : decode cX10_isClifford 9 = .ok (.iload_n 0, 1) := by decide +kernel
theorem dX10_isClifford_10 : decode cX10_isClifford 10 = .ok (.iconst 3, 1) := by decide +kernel
theorem dX10_isClifford_11 : decode cX10_isClifford 11 = .ok (.if_icmp .eq 13, 3) := by decide +kernel
theorem dX10_isClifford_14 : decode cX10_isClifford 14 = .ok (.iload_n 0, 1) := by decide +kernel
theorem dX10_isClifford_15 : decode cX10_isClifford 15 = .ok (.iconst 4, 1) := by decide +kernel
theorem dX10_isClifford_16 : decode cX10_isClifford 16 = .ok (.if_icmp .eq 8, 3) := by decide +kernel
theorem dX10_isClifford_19 : decode cX10_isClifford 19 = .ok (.iload_n 0, 1) := by decide +kernel
theorem dX10_isClifford_20 : decode cX10_isClifford 20 = .ok (.iconst 5, 1) := by decide +kernel
theorem dX10_isClifford_21 : decode cX10_isClifford 21 = .ok (.if_icmp .ne 7, 3) := by decide +kernel
theorem dX10_isClifford_24 : decode cX10_isClifford 24 = .ok (.iconst 1, 1) := by decide +kernel
theorem dX10_isClifford_25 : decode cX10_isClifford 25 = .ok (.goto 4, 3) := by decide +kernel
theorem dX10_isClifford_28 : decode cX10_isClifford 28 = .ok (.iconst 0, 1) := by decide +kernel
theorem dX10_isClifford_29 : decode cX10_isClifford 29 = .ok (.ireturn, 1) := by decide +kernel
theorem dX10_walks_0 : decode cX10_walks 0 = .ok (.aload_n 0, 1) := by decide +kernel
theorem dX10_walks_1 : decode cX10_walks 1 = .ok (.bipush 14, 2) := by decide +kernel
theorem dX10_walks_3 : decode cX10_walks 3 = .ok (.invokevirtual 154, 3) := by decide +kernel
theorem dX10_walks_6 : decode cX10_walks 6 = .ok (.iconst 0, 1) := by decide +kernel
theorem dX10_walks_7 : decode cX10_walks 7 = .ok (.istore_n 1, 1) := by decide +kernel
theorem dX10_walks_8 : decode cX10_walks 8 = .ok (.iload_n 1, 1) := by decide +kernel
theorem dX10_walks_9 : decode cX10_walks 9 = .ok (.aload_n 0, 1) := by decide +kernel
theorem dX10_walks_10 : decode cX10_walks 10 = .ok (.getfield 150, 3) := by decide +kernel
theorem dX10_walks_13 : decode cX10_walks 13 = .ok (.if_icmp .ge 74, 3) := by decide +kernel
theorem dX10_walks_16 : decode cX10_walks 16 = .ok (.iconst 0, 1) := by decide +kernel
theorem dX10_walks_17 : decode cX10_walks 17 = .ok (.istore_n 2, 1) := by decide +kernel
theorem dX10_walks_18 : decode cX10_walks 18 = .ok (.iload_n 2, 1) := by decide +kernel
theorem dX10_walks_19 : decode cX10_walks 19 = .ok (.iconst 3, 1) := by decide +kernel
theorem dX10_walks_20 : decode cX10_walks 20 = .ok (.if_icmp .ge 61, 3) := by decide +kernel
theorem dX10_walks_23 : decode cX10_walks 23 = .ok (.aload_n 0, 1) := by decide +kernel
theorem dX10_walks_24 : decode cX10_walks 24 = .ok (.iload_n 1, 1) := by decide +kernel
theorem dX10_walks_25 : decode cX10_walks 25 = .ok (.bipush 15, 2) := by decide +kernel
theorem dX10_walks_27 : decode cX10_walks 27 = .ok (.invokevirtual 157, 3) := by decide +kernel
theorem dX10_walks_30 : decode cX10_walks 30 = .ok (.aload_n 0, 1) := by decide +kernel
theorem dX10_walks_31 : decode cX10_walks 31 = .ok (.bipush 15, 2) := by decide +kernel
theorem dX10_walks_33 : decode cX10_walks 33 = .ok (.bipush 15, 2) := by decide +kernel
theorem dX10_walks_35 : decode cX10_walks 35 = .ok (.iconst 4, 1) := by decide +kernel
theorem dX10_walks_36 : decode cX10_walks 36 = .ok (.iload_n 2, 1) := by decide +kernel
theorem dX10_walks_37 : decode cX10_walks 37 = .ok (.ifCond .ne 7, 3) := by decide +kernel
theorem dX10_walks_40 : decode cX10_walks 40 = .ok (.iconst 0, 1) := by decide +kernel
theorem dX10_walks_41 : decode cX10_walks 41 = .ok (.goto 13, 3) := by decide +kernel
theorem dX10_walks_44 : decode cX10_walks 44 = .ok (.iload_n 2, 1) := by decide +kernel
theorem dX10_walks_45 : decode cX10_walks 45 = .ok (.iconst 1, 1) := by decide +kernel
theorem dX10_walks_46 : decode cX10_walks 46 = .ok (.if_icmp .ne 7, 3) := by decide +kernel
theorem dX10_walks_49 : decode cX10_walks 49 = .ok (.iconst 2, 1) := by decide +kernel
theorem dX10_walks_50 : decode cX10_walks 50 = .ok (.goto 4, 3) := by decide +kernel
theorem dX10_walks_53 : decode cX10_walks 53 = .ok (.iconst 5, 1) := by decide +kernel
theorem dX10_walks_54 : decode cX10_walks 54 = .ok (.iadd, 1) := by decide +kernel
theorem dX10_walks_55 : decode cX10_walks 55 = .ok (.invokevirtual 132, 3) := by decide +kernel
theorem dX10_walks_58 : decode cX10_walks 58 = .ok (.aload_n 0, 1) := by decide +kernel
theorem dX10_walks_59 : decode cX10_walks 59 = .ok (.bipush 15, 2) := by decide +kernel
theorem dX10_walks_61 : decode cX10_walks 61 = .ok (.invokevirtual 160, 3) := by decide +kernel
theorem dX10_walks_64 : decode cX10_walks 64 = .ok (.bipush (-2), 2) := by decide +kernel
theorem dX10_walks_66 : decode cX10_walks 66 = .ok (.if_icmp .ne 9, 3) := by decide +kernel
theorem dX10_walks_69 : decode cX10_walks 69 = .ok (.aload_n 0, 1) := by decide +kernel
theorem dX10_walks_70 : decode cX10_walks 70 = .ok (.bipush 15, 2) := by decide +kernel
theorem dX10_walks_72 : decode cX10_walks 72 = .ok (.invokevirtual 154, 3) := by decide +kernel
theorem dX10_walks_75 : decode cX10_walks 75 = .ok (.iinc 2 1, 3) := by decide +kernel
theorem dX10_walks_78 : decode cX10_walks 78 = .ok (.goto (-60), 3) := by decide +kernel
theorem dX10_walks_81 : decode cX10_walks 81 = .ok (.iinc 1 1, 3) := by decide +kernel
theorem dX10_walks_84 : decode cX10_walks 84 = .ok (.goto (-76), 3) := by decide +kernel
theorem dX10_walks_87 : decode cX10_walks 87 = .ok (.iconst 0, 1) := by decide +kernel
theorem dX10_walks_88 : decode cX10_walks 88 = .ok (.istore_n 1, 1) := by decide +kernel
theorem dX10_walks_89 : decode cX10_walks 89 = .ok (.iload_n 1, 1) := by decide +kernel
theorem dX10_walks_90 : decode cX10_walks 90 = .ok (.aload_n 0, 1) := by decide +kernel
theorem dX10_walks_91 : decode cX10_walks 91 = .ok (.getfield 150, 3) := by decide +kernel
theorem dX10_walks_94 : decode cX10_walks 94 = .ok (.if_icmp .ge 111, 3) := by decide +kernel
theorem dX10_walks_97 : decode cX10_walks 97 = .ok (.iconst 0, 1) := by decide +kernel
theorem dX10_walks_98 : decode cX10_walks 98 = .ok (.istore_n 2, 1) := by decide +kernel
theorem dX10_walks_99 : decode cX10_walks 99 = .ok (.iload_n 2, 1) := by decide +kernel
theorem dX10_walks_100 : decode cX10_walks 100 = .ok (.bipush 7, 2) := by decide +kernel
theorem dX10_walks_102 : decode cX10_walks 102 = .ok (.if_icmp .ge 97, 3) := by decide +kernel
theorem dX10_walks_105 : decode cX10_walks 105 = .ok (.iload_n 2, 1) := by decide +kernel
theorem dX10_walks_106 : decode cX10_walks 106 = .ok (.invokestatic 163, 3) := by decide +kernel
theorem dX10_walks_109 : decode cX10_walks 109 = .ok (.ifCond .ne 6, 3) := by decide +kernel
theorem dX10_walks_112 : decode cX10_walks 112 = .ok (.goto 81, 3) := by decide +kernel
theorem dX10_walks_115 : decode cX10_walks 115 = .ok (.aload_n 0, 1) := by decide +kernel
theorem dX10_walks_116 : decode cX10_walks 116 = .ok (.iload_n 1, 1) := by decide +kernel
theorem dX10_walks_117 : decode cX10_walks 117 = .ok (.bipush 15, 2) := by decide +kernel
theorem dX10_walks_119 : decode cX10_walks 119 = .ok (.invokevirtual 157, 3) := by decide +kernel
theorem dX10_walks_122 : decode cX10_walks 122 = .ok (.aload_n 0, 1) := by decide +kernel
theorem dX10_walks_123 : decode cX10_walks 123 = .ok (.bipush 15, 2) := by decide +kernel
theorem dX10_walks_125 : decode cX10_walks 125 = .ok (.bipush 15, 2) := by decide +kernel
theorem dX10_walks_127 : decode cX10_walks 127 = .ok (.iconst 4, 1) := by decide +kernel
theorem dX10_walks_128 : decode cX10_walks 128 = .ok (.iload_n 2, 1) := by decide +kernel
theorem dX10_walks_129 : decode cX10_walks 129 = .ok (.iadd, 1) := by decide +kernel
theorem dX10_walks_130 : decode cX10_walks 130 = .ok (.invokevirtual 132, 3) := by decide +kernel
theorem dX10_walks_133 : decode cX10_walks 133 = .ok (.aload_n 0, 1) := by decide +kernel
theorem dX10_walks_134 : decode cX10_walks 134 = .ok (.getfield 46, 3) := by decide +kernel
theorem dX10_walks_137 : decode cX10_walks 137 = .ok (.bipush 7, 2) := by decide +kernel
theorem dX10_walks_139 : decode cX10_walks 139 = .ok (.iload_n 1, 1) := by decide +kernel
theorem dX10_walks_140 : decode cX10_walks 140 = .ok (.imul, 1) := by decide +kernel
theorem dX10_walks_141 : decode cX10_walks 141 = .ok (.iload_n 2, 1) := by decide +kernel
theorem dX10_walks_142 : decode cX10_walks 142 = .ok (.iadd, 1) := by decide +kernel
theorem dX10_walks_143 : decode cX10_walks 143 = .ok (.aload_n 0, 1) := by decide +kernel
theorem dX10_walks_144 : decode cX10_walks 144 = .ok (.bipush 15, 2) := by decide +kernel
theorem dX10_walks_146 : decode cX10_walks 146 = .ok (.invokevirtual 160, 3) := by decide +kernel
theorem dX10_walks_149 : decode cX10_walks 149 = .ok (.iastore, 1) := by decide +kernel
theorem dX10_walks_150 : decode cX10_walks 150 = .ok (.aload_n 0, 1) := by decide +kernel
theorem dX10_walks_151 : decode cX10_walks 151 = .ok (.iload_n 1, 1) := by decide +kernel
theorem dX10_walks_152 : decode cX10_walks 152 = .ok (.bipush 15, 2) := by decide +kernel
theorem dX10_walks_154 : decode cX10_walks 154 = .ok (.invokevirtual 157, 3) := by decide +kernel
theorem dX10_walks_157 : decode cX10_walks 157 = .ok (.aload_n 0, 1) := by decide +kernel
theorem dX10_walks_158 : decode cX10_walks 158 = .ok (.iconst 4, 1) := by decide +kernel
theorem dX10_walks_159 : decode cX10_walks 159 = .ok (.iload_n 2, 1) := by decide +kernel
theorem dX10_walks_160 : decode cX10_walks 160 = .ok (.iadd, 1) := by decide +kernel
theorem dX10_walks_161 : decode cX10_walks 161 = .ok (.bipush 16, 2) := by decide +kernel
theorem dX10_walks_163 : decode cX10_walks 163 = .ok (.invokevirtual 138, 3) := by decide +kernel
theorem dX10_walks_166 : decode cX10_walks 166 = .ok (.aload_n 0, 1) := by decide +kernel
theorem dX10_walks_167 : decode cX10_walks 167 = .ok (.bipush 15, 2) := by decide +kernel
theorem dX10_walks_169 : decode cX10_walks 169 = .ok (.bipush 16, 2) := by decide +kernel
theorem dX10_walks_171 : decode cX10_walks 171 = .ok (.bipush 15, 2) := by decide +kernel
theorem dX10_walks_173 : decode cX10_walks 173 = .ok (.invokevirtual 132, 3) := by decide +kernel
theorem dX10_walks_176 : decode cX10_walks 176 = .ok (.aload_n 0, 1) := by decide +kernel
theorem dX10_walks_177 : decode cX10_walks 177 = .ok (.getfield 49, 3) := by decide +kernel
theorem dX10_walks_180 : decode cX10_walks 180 = .ok (.bipush 7, 2) := by decide +kernel
theorem dX10_walks_182 : decode cX10_walks 182 = .ok (.iload_n 1, 1) := by decide +kernel
theorem dX10_walks_183 : decode cX10_walks 183 = .ok (.imul, 1) := by decide +kernel
theorem dX10_walks_184 : decode cX10_walks 184 = .ok (.iload_n 2, 1) := by decide +kernel
theorem dX10_walks_185 : decode cX10_walks 185 = .ok (.iadd, 1) := by decide +kernel
theorem dX10_walks_186 : decode cX10_walks 186 = .ok (.aload_n 0, 1) := by decide +kernel
theorem dX10_walks_187 : decode cX10_walks 187 = .ok (.bipush 15, 2) := by decide +kernel
theorem dX10_walks_189 : decode cX10_walks 189 = .ok (.invokevirtual 160, 3) := by decide +kernel
theorem dX10_walks_192 : decode cX10_walks 192 = .ok (.iastore, 1) := by decide +kernel
theorem dX10_walks_193 : decode cX10_walks 193 = .ok (.iinc 2 1, 3) := by decide +kernel
theorem dX10_walks_196 : decode cX10_walks 196 = .ok (.goto (-97), 3) := by decide +kernel
theorem dX10_walks_199 : decode cX10_walks 199 = .ok (.iinc 1 1, 3) := by decide +kernel
theorem dX10_walks_202 : decode cX10_walks 202 = .ok (.goto (-113), 3) := by decide +kernel
theorem dX10_walks_205 : decode cX10_walks 205 = .ok (.return_, 1) := by decide +kernel
theorem dX10_isNumber_0 : decode cX10_isNumber 0 = .ok (.iload_n 1, 1) := by decide +kernel
theorem dX10_isNumber_1 : decode cX10_isNumber 1 = .ok (.i2l, 1) := by decide +kernel
theorem dX10_isNumber_2 : decode cX10_isNumber 2 = .ok (.lconst 0, 1) := by decide +kernel
theorem dX10_isNumber_3 : decode cX10_isNumber 3 = .ok (.aload_n 0, 1) := by decide +kernel
theorem dX10_isNumber_4 : decode cX10_isNumber 4 = .ok (.getfield 150, 3) := by decide +kernel
theorem dX10_isNumber_7 : decode cX10_isNumber 7 = .ok (.iconst 1, 1) := by decide +kernel
theorem dX10_isNumber_8 : decode cX10_isNumber 8 = .ok (.isub, 1) := by decide +kernel
theorem dX10_isNumber_9 : decode cX10_isNumber 9 = .ok (.i2l, 1) := by decide +kernel
theorem dX10_isNumber_10 : decode cX10_isNumber 10 = .ok (.invokestatic 120, 3) := by decide +kernel
theorem dX10_isNumber_13 : decode cX10_isNumber 13 = .ok (.ireturn, 1) := by decide +kernel
theorem dX10_clifford_0 : decode cX10_clifford 0 = .ok (.iload_n 1, 1) := by decide +kernel
theorem dX10_clifford_1 : decode cX10_clifford 1 = .ok (.invokestatic 126, 3) := by decide +kernel
theorem dX10_clifford_4 : decode cX10_clifford 4 = .ok (.ifCond .eq 11, 3) := by decide +kernel
theorem dX10_clifford_7 : decode cX10_clifford 7 = .ok (.aload_n 0, 1) := by decide +kernel
theorem dX10_clifford_8 : decode cX10_clifford 8 = .ok (.iload_n 1, 1) := by decide +kernel
theorem dX10_clifford_9 : decode cX10_clifford 9 = .ok (.invokevirtual 160, 3) := by decide +kernel
theorem dX10_clifford_12 : decode cX10_clifford 12 = .ok (.goto 4, 3) := by decide +kernel
theorem dX10_clifford_15 : decode cX10_clifford 15 = .ok (.iconst (-1), 1) := by decide +kernel
theorem dX10_clifford_16 : decode cX10_clifford 16 = .ok (.ireturn, 1) := by decide +kernel
theorem dX10_take_0 : decode cX10_take 0 = .ok (.iload_n 1, 1) := by decide +kernel
theorem dX10_take_1 : decode cX10_take 1 = .ok (.invokestatic 126, 3) := by decide +kernel
theorem dX10_take_4 : decode cX10_take 4 = .ok (.ifCond .eq 11, 3) := by decide +kernel
theorem dX10_take_7 : decode cX10_take 7 = .ok (.aload_n 0, 1) := by decide +kernel
theorem dX10_take_8 : decode cX10_take 8 = .ok (.iload_n 2, 1) := by decide +kernel
theorem dX10_take_9 : decode cX10_take 9 = .ok (.invokevirtual 166, 3) := by decide +kernel
theorem dX10_take_12 : decode cX10_take 12 = .ok (.ifCond .ne 5, 3) := by decide +kernel
theorem dX10_take_15 : decode cX10_take 15 = .ok (.iconst (-1), 1) := by decide +kernel
theorem dX10_take_16 : decode cX10_take 16 = .ok (.ireturn, 1) := by decide +kernel
theorem dX10_take_17 : decode cX10_take 17 = .ok (.aload_n 0, 1) := by decide +kernel
theorem dX10_take_18 : decode cX10_take 18 = .ok (.iload_n 2, 1) := by decide +kernel
theorem dX10_take_19 : decode cX10_take 19 = .ok (.iload_n 1, 1) := by decide +kernel
theorem dX10_take_20 : decode cX10_take 20 = .ok (.invokevirtual 157, 3) := by decide +kernel
theorem dX10_take_23 : decode cX10_take 23 = .ok (.aload_n 0, 1) := by decide +kernel
theorem dX10_take_24 : decode cX10_take 24 = .ok (.iload_n 1, 1) := by decide +kernel
theorem dX10_take_25 : decode cX10_take 25 = .ok (.invokevirtual 98, 3) := by decide +kernel
theorem dX10_take_28 : decode cX10_take 28 = .ok (.ireturn, 1) := by decide +kernel
theorem dX10_leads_0 : decode cX10_leads 0 = .ok (.aload_n 0, 1) := by decide +kernel
theorem dX10_leads_1 : decode cX10_leads 1 = .ok (.iload_n 1, 1) := by decide +kernel
theorem dX10_leads_2 : decode cX10_leads 2 = .ok (.invokevirtual 166, 3) := by decide +kernel
theorem dX10_leads_5 : decode cX10_leads 5 = .ok (.ifCond .eq 24, 3) := by decide +kernel
theorem dX10_leads_8 : decode cX10_leads 8 = .ok (.iload_n 2, 1) := by decide +kernel
theorem dX10_leads_9 : decode cX10_leads 9 = .ok (.invokestatic 163, 3) := by decide +kernel
theorem dX10_leads_12 : decode cX10_leads 12 = .ok (.ifCond .eq 17, 3) := by decide +kernel
theorem dX10_leads_15 : decode cX10_leads 15 = .ok (.aload_n 0, 1) := by decide +kernel
theorem dX10_leads_16 : decode cX10_leads 16 = .ok (.getfield 46, 3) := by decide +kernel
theorem dX10_leads_19 : decode cX10_leads 19 = .ok (.bipush 7, 2) := by decide +kernel
theorem dX10_leads_21 : decode cX10_leads 21 = .ok (.iload_n 1, 1) := by decide +kernel
theorem dX10_leads_22 : decode cX10_leads 22 = .ok (.imul, 1) := by decide +kernel
theorem dX10_leads_23 : decode cX10_leads 23 = .ok (.iload_n 2, 1) := by decide +kernel
theorem dX10_leads_24 : decode cX10_leads 24 = .ok (.iadd, 1) := by decide +kernel
theorem dX10_leads_25 : decode cX10_leads 25 = .ok (.iaload, 1) := by decide +kernel
theorem dX10_leads_26 : decode cX10_leads 26 = .ok (.goto 4, 3) := by decide +kernel
theorem dX10_leads_29 : decode cX10_leads 29 = .ok (.iconst (-1), 1) := by decide +kernel
theorem dX10_leads_30 : decode cX10_leads 30 = .ok (.ireturn, 1) := by decide +kernel
theorem dX10_price_0 : decode cX10_price 0 = .ok (.iload_n 1, 1) := by decide +kernel
theorem dX10_price_1 : decode cX10_price 1 = .ok (.invokestatic 129, 3) := by decide +kernel
theorem dX10_price_4 : decode cX10_price 4 = .ok (.ifCond .eq 15, 3) := by decide +kernel
theorem dX10_price_7 : decode cX10_price 7 = .ok (.iload_n 2, 1) := by decide +kernel
theorem dX10_price_8 : decode cX10_price 8 = .ok (.i2l, 1) := by decide +kernel
theorem dX10_price_9 : decode cX10_price 9 = .ok (.lconst 0, 1) := by decide +kernel
theorem dX10_price_10 : decode cX10_price 10 = .ok (.ldc2_w 169, 3) := by decide +kernel
theorem dX10_price_13 : decode cX10_price 13 = .ok (.invokestatic 120, 3) := by decide +kernel
theorem dX10_price_16 : decode cX10_price 16 = .ok (.ifCond .ne 5, 3) := by decide +kernel
theorem dX10_price_19 : decode cX10_price 19 = .ok (.iconst (-1), 1) := by decide +kernel
theorem dX10_price_20 : decode cX10_price 20 = .ok (.ireturn, 1) := by decide +kernel
theorem dX10_price_21 : decode cX10_price 21 = .ok (.aload_n 0, 1) := by decide +kernel
theorem dX10_price_22 : decode cX10_price 22 = .ok (.getfield 21, 3) := by decide +kernel
theorem dX10_price_25 : decode cX10_price 25 = .ok (.iload_n 1, 1) := by decide +kernel
theorem dX10_price_26 : decode cX10_price 26 = .ok (.iaload, 1) := by decide +kernel
theorem dX10_price_27 : decode cX10_price 27 = .ok (.istore_n 3, 1) := by decide +kernel
theorem dX10_price_28 : decode cX10_price 28 = .ok (.aload_n 0, 1) := by decide +kernel
theorem dX10_price_29 : decode cX10_price 29 = .ok (.getfield 21, 3) := by decide +kernel
theorem dX10_price_32 : decode cX10_price 32 = .ok (.iload_n 1, 1) := by decide +kernel
theorem dX10_price_33 : decode cX10_price 33 = .ok (.iload_n 2, 1) := by decide +kernel
theorem dX10_price_34 : decode cX10_price 34 = .ok (.iastore, 1) := by decide +kernel
theorem dX10_price_35 : decode cX10_price 35 = .ok (.iload_n 3, 1) := by decide +kernel
theorem dX10_price_36 : decode cX10_price 36 = .ok (.ireturn, 1) := by decide +kernel
theorem dX10_costs_0 : decode cX10_costs 0 = .ok (.iconst 0, 1) := by decide +kernel
theorem dX10_costs_1 : decode cX10_costs 1 = .ok (.istore_n 1, 1) := by decide +kernel
theorem dX10_costs_2 : decode cX10_costs 2 = .ok (.iload_n 1, 1) := by decide +kernel
theorem dX10_costs_3 : decode cX10_costs 3 = .ok (.aload_n 0, 1) := by decide +kernel
theorem dX10_costs_4 : decode cX10_costs 4 = .ok (.getfield 150, 3) := by decide +kernel
theorem dX10_costs_7 : decode cX10_costs 7 = .ok (.if_icmp .ge 32, 3) := by decide +kernel
theorem dX10_costs_10 : decode cX10_costs 10 = .ok (.aload_n 0, 1) := by decide +kernel
theorem dX10_costs_11 : decode cX10_costs 11 = .ok (.getfield 52, 3) := by decide +kernel
theorem dX10_costs_14 : decode cX10_costs 14 = .ok (.iload_n 1, 1) := by decide +kernel
theorem dX10_costs_15 : decode cX10_costs 15 = .ok (.iload_n 1, 1) := by decide +kernel
theorem dX10_costs_16 : decode cX10_costs 16 = .ok (.ifCond .ne 7, 3) := by decide +kernel
theorem dX10_costs_19 : decode cX10_costs 19 = .ok (.iconst 0, 1) := by decide +kernel
theorem dX10_costs_20 : decode cX10_costs 20 = .ok (.goto 5, 3) := by decide +kernel
theorem dX10_costs_23 : decode cX10_costs 23 = .ok (.ldc 171, 2) := by decide +kernel
theorem dX10_costs_25 : decode cX10_costs 25 = .ok (.iastore, 1) := by decide +kernel
theorem dX10_costs_26 : decode cX10_costs 26 = .ok (.aload_n 0, 1) := by decide +kernel
theorem dX10_costs_27 : decode cX10_costs 27 = .ok (.getfield 55, 3) := by decide +kernel
theorem dX10_costs_30 : decode cX10_costs 30 = .ok (.iload_n 1, 1) := by decide +kernel
theorem dX10_costs_31 : decode cX10_costs 31 = .ok (.iconst 0, 1) := by decide +kernel
theorem dX10_costs_32 : decode cX10_costs 32 = .ok (.iastore, 1) := by decide +kernel
theorem dX10_costs_33 : decode cX10_costs 33 = .ok (.iinc 1 1, 3) := by decide +kernel
theorem dX10_costs_36 : decode cX10_costs 36 = .ok (.goto (-34), 3) := by decide +kernel
theorem dX10_costs_39 : decode cX10_costs 39 = .ok (.iconst 1, 1) := by decide +kernel
theorem dX10_costs_40 : decode cX10_costs 40 = .ok (.istore_n 1, 1) := by decide +kernel
theorem dX10_costs_41 : decode cX10_costs 41 = .ok (.iload_n 1, 1) := by decide +kernel
theorem dX10_costs_42 : decode cX10_costs 42 = .ok (.ifCond .eq 155, 3) := by decide +kernel
theorem dX10_costs_45 : decode cX10_costs 45 = .ok (.iconst 0, 1) := by decide +kernel
theorem dX10_costs_46 : decode cX10_costs 46 = .ok (.istore_n 1, 1) := by decide +kernel
theorem dX10_costs_47 : decode cX10_costs 47 = .ok (.iconst 0, 1) := by decide +kernel
theorem dX10_costs_48 : decode cX10_costs 48 = .ok (.istore_n 2, 1) := by decide +kernel
theorem dX10_costs_49 : decode cX10_costs 49 = .ok (.iload_n 2, 1) := by decide +kernel
theorem dX10_costs_50 : decode cX10_costs 50 = .ok (.aload_n 0, 1) := by decide +kernel
theorem dX10_costs_51 : decode cX10_costs 51 = .ok (.getfield 150, 3) := by decide +kernel
theorem dX10_costs_54 : decode cX10_costs 54 = .ok (.if_icmp .ge 140, 3) := by decide +kernel
theorem dX10_costs_57 : decode cX10_costs 57 = .ok (.iconst 0, 1) := by decide +kernel
theorem dX10_costs_58 : decode cX10_costs 58 = .ok (.istore_n 3, 1) := by decide +kernel
theorem dX10_costs_59 : decode cX10_costs 59 = .ok (.iload_n 3, 1) := by decide +kernel
theorem dX10_costs_60 : decode cX10_costs 60 = .ok (.bipush 7, 2) := by decide +kernel
theorem dX10_costs_62 : decode cX10_costs 62 = .ok (.if_icmp .ge 126, 3) := by decide +kernel
theorem dX10_costs_65 : decode cX10_costs 65 = .ok (.aload_n 0, 1) := by decide +kernel
theorem dX10_costs_66 : decode cX10_costs 66 = .ok (.getfield 52, 3) := by decide +kernel
theorem dX10_costs_69 : decode cX10_costs 69 = .ok (.iload_n 2, 1) := by decide +kernel
theorem dX10_costs_70 : decode cX10_costs 70 = .ok (.iaload, 1) := by decide +kernel
theorem dX10_costs_71 : decode cX10_costs 71 = .ok (.ldc 171, 2) := by decide +kernel
theorem dX10_costs_73 : decode cX10_costs 73 = .ok (.if_icmp .ge 115, 3) := by decide +kernel
theorem dX10_costs_76 : decode cX10_costs 76 = .ok (.iload_n 3, 1) := by decide +kernel
theorem dX10_costs_77 : decode cX10_costs 77 = .ok (.invokestatic 163, 3) := by decide +kernel
theorem dX10_costs_80 : decode cX10_costs 80 = .ok (.ifCond .ne 6, 3) := by decide +kernel
theorem dX10_costs_83 : decode cX10_costs 83 = .ok (.goto 99, 3) := by decide +kernel
theorem dX10_costs_86 : decode cX10_costs 86 = .ok (.aload_n 0, 1) := by decide +kernel
theorem dX10_costs_87 : decode cX10_costs 87 = .ok (.getfield 46, 3) := by decide +kernel
theorem dX10_costs_90 : decode cX10_costs 90 = .ok (.bipush 7, 2) := by decide +kernel
theorem dX10_costs_92 : decode cX10_costs 92 = .ok (.iload_n 2, 1) := by decide +kernel
theorem dX10_costs_93 : decode cX10_costs 93 = .ok (.imul, 1) := by decide +kernel
theorem dX10_costs_94 : decode cX10_costs 94 = .ok (.iload_n 3, 1) := by decide +kernel
theorem dX10_costs_95 : decode cX10_costs 95 = .ok (.iadd, 1) := by decide +kernel
theorem dX10_costs_96 : decode cX10_costs 96 = .ok (.iaload, 1) := by decide +kernel
theorem dX10_costs_97 : decode cX10_costs 97 = .ok (.istore 4, 2) := by decide +kernel
theorem dX10_costs_99 : decode cX10_costs 99 = .ok (.aload_n 0, 1) := by decide +kernel
theorem dX10_costs_100 : decode cX10_costs 100 = .ok (.getfield 52, 3) := by decide +kernel
theorem dX10_costs_103 : decode cX10_costs 103 = .ok (.iload_n 2, 1) := by decide +kernel
theorem dX10_costs_104 : decode cX10_costs 104 = .ok (.iaload, 1) := by decide +kernel
theorem dX10_costs_105 : decode cX10_costs 105 = .ok (.aload_n 0, 1) := by decide +kernel
theorem dX10_costs_106 : decode cX10_costs 106 = .ok (.getfield 21, 3) := by decide +kernel
theorem dX10_costs_109 : decode cX10_costs 109 = .ok (.iload_n 3, 1) := by decide +kernel
theorem dX10_costs_110 : decode cX10_costs 110 = .ok (.iaload, 1) := by decide +kernel
theorem dX10_costs_111 : decode cX10_costs 111 = .ok (.iadd, 1) := by decide +kernel
theorem dX10_costs_112 : decode cX10_costs 112 = .ok (.istore 5, 2) := by decide +kernel
theorem dX10_costs_114 : decode cX10_costs 114 = .ok (.iload 5, 2) := by decide +kernel
theorem dX10_costs_116 : decode cX10_costs 116 = .ok (.aload_n 0, 1) := by decide +kernel
theorem dX10_costs_117 : decode cX10_costs 117 = .ok (.getfield 52, 3) := by decide +kernel
theorem dX10_costs_120 : decode cX10_costs 120 = .ok (.iload 4, 2) := by decide +kernel
theorem dX10_costs_122 : decode cX10_costs 122 = .ok (.iaload, 1) := by decide +kernel
theorem dX10_costs_123 : decode cX10_costs 123 = .ok (.if_icmp .lt 33, 3) := by decide +kernel
theorem dX10_costs_126 : decode cX10_costs 126 = .ok (.iload 5, 2) := by decide +kernel
theorem dX10_costs_128 : decode cX10_costs 128 = .ok (.aload_n 0, 1) := by decide +kernel
theorem dX10_costs_129 : decode cX10_costs 129 = .ok (.getfield 52, 3) := by decide +kernel
theorem dX10_costs_132 : decode cX10_costs 132 = .ok (.iload 4, 2) := by decide +kernel
theorem dX10_costs_134 : decode cX10_costs 134 = .ok (.iaload, 1) := by decide +kernel
theorem dX10_costs_135 : decode cX10_costs 135 = .ok (.if_icmp .ne 47, 3) := by decide +kernel
theorem dX10_costs_138 : decode cX10_costs 138 = .ok (.aload_n 0, 1) := by decide +kernel
theorem dX10_costs_139 : decode cX10_costs 139 = .ok (.getfield 55, 3) := by decide +kernel
theorem dX10_costs_142 : decode cX10_costs 142 = .ok (.iload_n 2, 1) := by decide +kernel
theorem dX10_costs_143 : decode cX10_costs 143 = .ok (.iaload, 1) := by decide +kernel
theorem dX10_costs_144 : decode cX10_costs 144 = .ok (.iconst 1, 1) := by decide +kernel
theorem dX10_costs_145 : decode cX10_costs 145 = .ok (.iadd, 1) := by decide +kernel
theorem dX10_costs_146 : decode cX10_costs 146 = .ok (.aload_n 0, 1) := by decide +kernel
theorem dX10_costs_147 : decode cX10_costs 147 = .ok (.getfield 55, 3) := by decide +kernel
theorem dX10_costs_150 : decode cX10_costs 150 = .ok (.iload 4, 2) := by decide +kernel
theorem dX10_costs_152 : decode cX10_costs 152 = .ok (.iaload, 1) := by decide +kernel
theorem dX10_costs_153 : decode cX10_costs 153 = .ok (.if_icmp .ge 29, 3) := by decide +kernel
theorem dX10_costs_156 : decode cX10_costs 156 = .ok (.aload_n 0, 1) := by decide +kernel
theorem dX10_costs_157 : decode cX10_costs 157 = .ok (.getfield 52, 3) := by decide +kernel
theorem dX10_costs_160 : decode cX10_costs 160 = .ok (.iload 4, 2) := by decide +kernel
theorem dX10_costs_162 : decode cX10_costs 162 = .ok (.iload 5, 2) := by decide +kernel
theorem dX10_costs_164 : decode cX10_costs 164 = .ok (.iastore, 1) := by decide +kernel
theorem dX10_costs_165 : decode cX10_costs 165 = .ok (.aload_n 0, 1) := by decide +kernel
theorem dX10_costs_166 : decode cX10_costs 166 = .ok (.getfield 55, 3) := by decide +kernel
theorem dX10_costs_169 : decode cX10_costs 169 = .ok (.iload 4, 2) := by decide +kernel
theorem dX10_costs_171 : decode cX10_costs 171 = .ok (.aload_n 0, 1) := by decide +kernel
theorem dX10_costs_172 : decode cX10_costs 172 = .ok (.getfield 55, 3) := by decide +kernel
theorem dX10_costs_175 : decode cX10_costs 175 = .ok (.iload_n 2, 1) := by decide +kernel
theorem dX10_costs_176 : decode cX10_costs 176 = .ok (.iaload, 1) := by decide +kernel
theorem dX10_costs_177 : decode cX10_costs 177 = .ok (.iconst 1, 1) := by decide +kernel
theorem dX10_costs_178 : decode cX10_costs 178 = .ok (.iadd, 1) := by decide +kernel
theorem dX10_costs_179 : decode cX10_costs 179 = .ok (.iastore, 1) := by decide +kernel
theorem dX10_costs_180 : decode cX10_costs 180 = .ok (.iconst 1, 1) := by decide +kernel
theorem dX10_costs_181 : decode cX10_costs 181 = .ok (.istore_n 1, 1) := by decide +kernel
theorem dX10_costs_182 : decode cX10_costs 182 = .ok (.iinc 3 1, 3) := by decide +kernel
theorem dX10_costs_185 : decode cX10_costs 185 = .ok (.goto (-126), 3) := by decide +kernel
theorem dX10_costs_188 : decode cX10_costs 188 = .ok (.iinc 2 1, 3) := by decide +kernel
theorem dX10_costs_191 : decode cX10_costs 191 = .ok (.goto (-142), 3) := by decide +kernel
theorem dX10_costs_194 : decode cX10_costs 194 = .ok (.goto (-153), 3) := by decide +kernel
theorem dX10_costs_197 : decode cX10_costs 197 = .ok (.return_, 1) := by decide +kernel
theorem dX10_cheapestBehind_0 : decode cX10_cheapestBehind 0 = .ok (.aload_n 0, 1) := by decide +kernel
theorem dX10_cheapestBehind_1 : decode cX10_cheapestBehind 1 = .ok (.invokevirtual 172, 3) := by decide +kernel
theorem dX10_cheapestBehind_4 : decode cX10_cheapestBehind 4 = .ok (.iload_n 1, 1) := by decide +kernel
theorem dX10_cheapestBehind_5 : decode cX10_cheapestBehind 5 = .ok (.istore_n 2, 1) := by decide +kernel
theorem dX10_cheapestBehind_6 : decode cX10_cheapestBehind 6 = .ok (.aload_n 0, 1) := by decide +kernel
theorem dX10_cheapestBehind_7 : decode cX10_cheapestBehind 7 = .ok (.getfield 55, 3) := by decide +kernel
theorem dX10_cheapestBehind_10 : decode cX10_cheapestBehind 10 = .ok (.iload_n 2, 1) := by decide +kernel
theorem dX10_cheapestBehind_11 : decode cX10_cheapestBehind 11 = .ok (.iaload, 1) := by decide +kernel
theorem dX10_cheapestBehind_12 : decode cX10_cheapestBehind 12 = .ok (.ifCond .le 112, 3) := by decide +kernel
theorem dX10_cheapestBehind_15 : decode cX10_cheapestBehind 15 = .ok (.iconst 0, 1) := by decide +kernel
theorem dX10_cheapestBehind_16 : decode cX10_cheapestBehind 16 = .ok (.istore_n 3, 1) := by decide +kernel
theorem dX10_cheapestBehind_17 : decode cX10_cheapestBehind 17 = .ok (.iload_n 3, 1) := by decide +kernel
theorem dX10_cheapestBehind_18 : decode cX10_cheapestBehind 18 = .ok (.invokestatic 163, 3) := by decide +kernel
theorem dX10_cheapestBehind_21 : decode cX10_cheapestBehind 21 = .ok (.ifCond .eq 62, 3) := by decide +kernel
theorem dX10_cheapestBehind_24 : decode cX10_cheapestBehind 24 = .ok (.aload_n 0, 1) := by decide +kernel
theorem dX10_cheapestBehind_25 : decode cX10_cheapestBehind 25 = .ok (.getfield 52, 3) := by decide +kernel
theorem dX10_cheapestBehind_28 : decode cX10_cheapestBehind 28 = .ok (.aload_n 0, 1) := by decide +kernel
theorem dX10_cheapestBehind_29 : decode cX10_cheapestBehind 29 = .ok (.getfield 49, 3) := by decide +kernel
theorem dX10_cheapestBehind_32 : decode cX10_cheapestBehind 32 = .ok (.bipush 7, 2) := by decide +kernel
theorem dX10_cheapestBehind_34 : decode cX10_cheapestBehind 34 = .ok (.iload_n 2, 1) := by decide +kernel
theorem dX10_cheapestBehind_35 : decode cX10_cheapestBehind 35 = .ok (.imul, 1) := by decide +kernel
theorem dX10_cheapestBehind_36 : decode cX10_cheapestBehind 36 = .ok (.iload_n 3, 1) := by decide +kernel
theorem dX10_cheapestBehind_37 : decode cX10_cheapestBehind 37 = .ok (.iadd, 1) := by decide +kernel
theorem dX10_cheapestBehind_38 : decode cX10_cheapestBehind 38 = .ok (.iaload, 1) := by decide +kernel
theorem dX10_cheapestBehind_39 : decode cX10_cheapestBehind 39 = .ok (.iaload, 1) := by decide +kernel
theorem dX10_cheapestBehind_40 : decode cX10_cheapestBehind 40 = .ok (.aload_n 0, 1) := by decide +kernel
theorem dX10_cheapestBehind_41 : decode cX10_cheapestBehind 41 = .ok (.getfield 21, 3) := by decide +kernel
theorem dX10_cheapestBehind_44 : decode cX10_cheapestBehind 44 = .ok (.iload_n 3, 1) := by decide +kernel
theorem dX10_cheapestBehind_45 : decode cX10_cheapestBehind 45 = .ok (.iaload, 1) := by decide +kernel
theorem dX10_cheapestBehind_46 : decode cX10_cheapestBehind 46 = .ok (.iadd, 1) := by decide +kernel
theorem dX10_cheapestBehind_47 : decode cX10_cheapestBehind 47 = .ok (.aload_n 0, 1) := by decide +kernel
theorem dX10_cheapestBehind_48 : decode cX10_cheapestBehind 48 = .ok (.getfield 52, 3) := by decide +kernel
theorem dX10_cheapestBehind_51 : decode cX10_cheapestBehind 51 = .ok (.iload_n 2, 1) := by decide +kernel
theorem dX10_cheapestBehind_52 : decode cX10_cheapestBehind 52 = .ok (.iaload, 1) := by decide +kernel
theorem dX10_cheapestBehind_53 : decode cX10_cheapestBehind 53 = .ok (.if_icmp .ne 30, 3) := by decide +kernel
theorem dX10_cheapestBehind_56 : decode cX10_cheapestBehind 56 = .ok (.aload_n 0, 1) := by decide +kernel
theorem dX10_cheapestBehind_57 : decode cX10_cheapestBehind 57 = .ok (.getfield 55, 3) := by decide +kernel
theorem dX10_cheapestBehind_60 : decode cX10_cheapestBehind 60 = .ok (.aload_n 0, 1) := by decide +kernel
theorem dX10_cheapestBehind_61 : decode cX10_cheapestBehind 61 = .ok (.getfield 49, 3) := by decide +kernel
theorem dX10_cheapestBehind_64 : decode cX10_cheapestBehind 64 = .ok (.bipush 7, 2) := by decide +kernel
theorem dX10_cheapestBehind_66 : decode cX10_cheapestBehind 66 = .ok (.iload_n 2, 1) := by decide +kernel
theorem dX10_cheapestBehind_67 : decode cX10_cheapestBehind 67 = .ok (.imul, 1) := by decide +kernel
theorem dX10_cheapestBehind_68 : decode cX10_cheapestBehind 68 = .ok (.iload_n 3, 1) := by decide +kernel
theorem dX10_cheapestBehind_69 : decode cX10_cheapestBehind 69 = .ok (.iadd, 1) := by decide +kernel
theorem dX10_cheapestBehind_70 : decode cX10_cheapestBehind 70 = .ok (.iaload, 1) := by decide +kernel
theorem dX10_cheapestBehind_71 : decode cX10_cheapestBehind 71 = .ok (.iaload, 1) := by decide +kernel
theorem dX10_cheapestBehind_72 : decode cX10_cheapestBehind 72 = .ok (.iconst 1, 1) := by decide +kernel
theorem dX10_cheapestBehind_73 : decode cX10_cheapestBehind 73 = .ok (.iadd, 1) := by decide +kernel
theorem dX10_cheapestBehind_74 : decode cX10_cheapestBehind 74 = .ok (.aload_n 0, 1) := by decide +kernel
theorem dX10_cheapestBehind_75 : decode cX10_cheapestBehind 75 = .ok (.getfield 55, 3) := by decide +kernel
theorem dX10_cheapestBehind_78 : decode cX10_cheapestBehind 78 = .ok (.iload_n 2, 1) := by decide +kernel
theorem dX10_cheapestBehind_79 : decode cX10_cheapestBehind 79 = .ok (.iaload, 1) := by decide +kernel
theorem dX10_cheapestBehind_80 : decode cX10_cheapestBehind 80 = .ok (.if_icmp .eq 9, 3) := by decide +kernel
theorem dX10_cheapestBehind_83 : decode cX10_cheapestBehind 83 = .ok (.iinc 3 1, 3) := by decide +kernel
theorem dX10_cheapestBehind_86 : decode cX10_cheapestBehind 86 = .ok (.goto (-69), 3) := by decide +kernel
theorem dX10_cheapestBehind_89 : decode cX10_cheapestBehind 89 = .ok (.aload_n 0, 1) := by decide +kernel
theorem dX10_cheapestBehind_90 : decode cX10_cheapestBehind 90 = .ok (.getfield 58, 3) := by decide +kernel
theorem dX10_cheapestBehind_93 : decode cX10_cheapestBehind 93 = .ok (.aload_n 0, 1) := by decide +kernel
theorem dX10_cheapestBehind_94 : decode cX10_cheapestBehind 94 = .ok (.getfield 175, 3) := by decide +kernel
theorem dX10_cheapestBehind_97 : decode cX10_cheapestBehind 97 = .ok (.iload_n 3, 1) := by decide +kernel
theorem dX10_cheapestBehind_98 : decode cX10_cheapestBehind 98 = .ok (.iastore, 1) := by decide +kernel
theorem dX10_cheapestBehind_99 : decode cX10_cheapestBehind 99 = .ok (.aload_n 0, 1) := by decide +kernel
theorem dX10_cheapestBehind_100 : decode cX10_cheapestBehind 100 = .ok (.dup, 1) := by decide +kernel
theorem dX10_cheapestBehind_101 : decode cX10_cheapestBehind 101 = .ok (.getfield 175, 3) := by decide +kernel
theorem dX10_cheapestBehind_104 : decode cX10_cheapestBehind 104 = .ok (.iconst 1, 1) := by decide +kernel
theorem dX10_cheapestBehind_105 : decode cX10_cheapestBehind 105 = .ok (.iadd, 1) := by decide +kernel
theorem dX10_cheapestBehind_106 : decode cX10_cheapestBehind 106 = .ok (.putfield 175, 3) := by decide +kernel
theorem dX10_cheapestBehind_109 : decode cX10_cheapestBehind 109 = .ok (.aload_n 0, 1) := by decide +kernel
theorem dX10_cheapestBehind_110 : decode cX10_cheapestBehind 110 = .ok (.getfield 49, 3) := by decide +kernel
theorem dX10_cheapestBehind_113 : decode cX10_cheapestBehind 113 = .ok (.bipush 7, 2) := by decide +kernel
theorem dX10_cheapestBehind_115 : decode cX10_cheapestBehind 115 = .ok (.iload_n 2, 1) := by decide +kernel
theorem dX10_cheapestBehind_116 : decode cX10_cheapestBehind 116 = .ok (.imul, 1) := by decide +kernel
theorem dX10_cheapestBehind_117 : decode cX10_cheapestBehind 117 = .ok (.iload_n 3, 1) := by decide +kernel
theorem dX10_cheapestBehind_118 : decode cX10_cheapestBehind 118 = .ok (.iadd, 1) := by decide +kernel
theorem dX10_cheapestBehind_119 : decode cX10_cheapestBehind 119 = .ok (.iaload, 1) := by decide +kernel
theorem dX10_cheapestBehind_120 : decode cX10_cheapestBehind 120 = .ok (.istore_n 2, 1) := by decide +kernel
theorem dX10_cheapestBehind_121 : decode cX10_cheapestBehind 121 = .ok (.goto (-115), 3) := by decide +kernel
theorem dX10_cheapestBehind_124 : decode cX10_cheapestBehind 124 = .ok (.return_, 1) := by decide +kernel
theorem dX10_cheapest_0 : decode cX10_cheapest 0 = .ok (.aload_n 0, 1) := by decide +kernel
theorem dX10_cheapest_1 : decode cX10_cheapest 1 = .ok (.iload_n 1, 1) := by decide +kernel
theorem dX10_cheapest_2 : decode cX10_cheapest 2 = .ok (.invokevirtual 166, 3) := by decide +kernel
theorem dX10_cheapest_5 : decode cX10_cheapest 5 = .ok (.ifCond .eq 9, 3) := by decide +kernel
