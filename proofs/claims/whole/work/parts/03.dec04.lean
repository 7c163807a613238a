theorem dX10_cheapest_8 : decode cX10_cheapest 8 = .ok (.iload_n 2, 1) := by decide +kernel
theorem dX10_cheapest_9 : decode cX10_cheapest 9 = .ok (.bipush (-2), 2) := by decide +kernel
theorem dX10_cheapest_11 : decode cX10_cheapest 11 = .ok (.if_icmp .ge 5, 3) := by decide +kernel
theorem dX10_cheapest_14 : decode cX10_cheapest 14 = .ok (.iconst (-1), 1) := by decide +kernel
theorem dX10_cheapest_15 : decode cX10_cheapest 15 = .ok (.ireturn, 1) := by decide +kernel
theorem dX10_cheapest_16 : decode cX10_cheapest 16 = .ok (.aload_n 0, 1) := by decide +kernel
theorem dX10_cheapest_17 : decode cX10_cheapest 17 = .ok (.iconst 0, 1) := by decide +kernel
theorem dX10_cheapest_18 : decode cX10_cheapest 18 = .ok (.putfield 175, 3) := by decide +kernel
theorem dX10_cheapest_21 : decode cX10_cheapest 21 = .ok (.aload_n 0, 1) := by decide +kernel
theorem dX10_cheapest_22 : decode cX10_cheapest 22 = .ok (.iload_n 1, 1) := by decide +kernel
theorem dX10_cheapest_23 : decode cX10_cheapest 23 = .ok (.invokevirtual 178, 3) := by decide +kernel
theorem dX10_cheapest_26 : decode cX10_cheapest 26 = .ok (.iload_n 2, 1) := by decide +kernel
theorem dX10_cheapest_27 : decode cX10_cheapest 27 = .ok (.bipush (-2), 2) := by decide +kernel
theorem dX10_cheapest_29 : decode cX10_cheapest 29 = .ok (.if_icmp .ne 12, 3) := by decide +kernel
theorem dX10_cheapest_32 : decode cX10_cheapest 32 = .ok (.aload_n 0, 1) := by decide +kernel
theorem dX10_cheapest_33 : decode cX10_cheapest 33 = .ok (.getfield 52, 3) := by decide +kernel
theorem dX10_cheapest_36 : decode cX10_cheapest 36 = .ok (.iload_n 1, 1) := by decide +kernel
theorem dX10_cheapest_37 : decode cX10_cheapest 37 = .ok (.iaload, 1) := by decide +kernel
theorem dX10_cheapest_38 : decode cX10_cheapest 38 = .ok (.goto 34, 3) := by decide +kernel
theorem dX10_cheapest_41 : decode cX10_cheapest 41 = .ok (.iload_n 2, 1) := by decide +kernel
theorem dX10_cheapest_42 : decode cX10_cheapest 42 = .ok (.iconst (-1), 1) := by decide +kernel
theorem dX10_cheapest_43 : decode cX10_cheapest 43 = .ok (.if_icmp .ne 10, 3) := by decide +kernel
theorem dX10_cheapest_46 : decode cX10_cheapest 46 = .ok (.aload_n 0, 1) := by decide +kernel
theorem dX10_cheapest_47 : decode cX10_cheapest 47 = .ok (.getfield 175, 3) := by decide +kernel
theorem dX10_cheapest_50 : decode cX10_cheapest 50 = .ok (.goto 22, 3) := by decide +kernel
theorem dX10_cheapest_53 : decode cX10_cheapest 53 = .ok (.iload_n 2, 1) := by decide +kernel
theorem dX10_cheapest_54 : decode cX10_cheapest 54 = .ok (.aload_n 0, 1) := by decide +kernel
theorem dX10_cheapest_55 : decode cX10_cheapest 55 = .ok (.getfield 175, 3) := by decide +kernel
theorem dX10_cheapest_58 : decode cX10_cheapest 58 = .ok (.if_icmp .ge 12, 3) := by decide +kernel
theorem dX10_cheapest_61 : decode cX10_cheapest 61 = .ok (.aload_n 0, 1) := by decide +kernel
theorem dX10_cheapest_62 : decode cX10_cheapest 62 = .ok (.getfield 58, 3) := by decide +kernel
theorem dX10_cheapest_65 : decode cX10_cheapest 65 = .ok (.iload_n 2, 1) := by decide +kernel
theorem dX10_cheapest_66 : decode cX10_cheapest 66 = .ok (.iaload, 1) := by decide +kernel
theorem dX10_cheapest_67 : decode cX10_cheapest 67 = .ok (.goto 5, 3) := by decide +kernel
theorem dX10_cheapest_70 : decode cX10_cheapest 70 = .ok (.bipush (-2), 2) := by decide +kernel
theorem dX10_cheapest_72 : decode cX10_cheapest 72 = .ok (.ireturn, 1) := by decide +kernel
theorem dX10_isWord_0 : decode cX10_isWord 0 = .ok (.iload_n 0, 1) := by decide +kernel
theorem dX10_isWord_1 : decode cX10_isWord 1 = .ok (.i2l, 1) := by decide +kernel
theorem dX10_isWord_2 : decode cX10_isWord 2 = .ok (.lconst 0, 1) := by decide +kernel
theorem dX10_isWord_3 : decode cX10_isWord 3 = .ok (.ldc2_w 96, 3) := by decide +kernel
theorem dX10_isWord_6 : decode cX10_isWord 6 = .ok (.invokestatic 120, 3) := by decide +kernel
theorem dX10_isWord_9 : decode cX10_isWord 9 = .ok (.ireturn, 1) := by decide +kernel
theorem dX10_isOther_0 : decode cX10_isOther 0 = .ok (.aload_n 0, 1) := by decide +kernel
theorem dX10_isOther_1 : decode cX10_isOther 1 = .ok (.getfield 31, 3) := by decide +kernel
theorem dX10_isOther_4 : decode cX10_isOther 4 = .ok (.iload_n 1, 1) := by decide +kernel
theorem dX10_isOther_5 : decode cX10_isOther 5 = .ok (.iaload, 1) := by decide +kernel
theorem dX10_isOther_6 : decode cX10_isOther 6 = .ok (.aload_n 0, 1) := by decide +kernel
theorem dX10_isOther_7 : decode cX10_isOther 7 = .ok (.getfield 175, 3) := by decide +kernel
theorem dX10_isOther_10 : decode cX10_isOther 10 = .ok (.if_icmp .eq 7, 3) := by decide +kernel
theorem dX10_isOther_13 : decode cX10_isOther 13 = .ok (.iconst 1, 1) := by decide +kernel
theorem dX10_isOther_14 : decode cX10_isOther 14 = .ok (.goto 4, 3) := by decide +kernel
theorem dX10_isOther_17 : decode cX10_isOther 17 = .ok (.iconst 0, 1) := by decide +kernel
theorem dX10_isOther_18 : decode cX10_isOther 18 = .ok (.istore_n 2, 1) := by decide +kernel
theorem dX10_isOther_19 : decode cX10_isOther 19 = .ok (.iconst 0, 1) := by decide +kernel
theorem dX10_isOther_20 : decode cX10_isOther 20 = .ok (.istore_n 3, 1) := by decide +kernel
theorem dX10_isOther_21 : decode cX10_isOther 21 = .ok (.iload_n 3, 1) := by decide +kernel
theorem dX10_isOther_22 : decode cX10_isOther 22 = .ok (.aload_n 0, 1) := by decide +kernel
theorem dX10_isOther_23 : decode cX10_isOther 23 = .ok (.getfield 175, 3) := by decide +kernel
theorem dX10_isOther_26 : decode cX10_isOther 26 = .ok (.if_icmp .ge 39, 3) := by decide +kernel
theorem dX10_isOther_29 : decode cX10_isOther 29 = .ok (.iload_n 2, 1) := by decide +kernel
theorem dX10_isOther_30 : decode cX10_isOther 30 = .ok (.ifCond .ne 35, 3) := by decide +kernel
theorem dX10_isOther_33 : decode cX10_isOther 33 = .ok (.aload_n 0, 1) := by decide +kernel
theorem dX10_isOther_34 : decode cX10_isOther 34 = .ok (.getfield 28, 3) := by decide +kernel
theorem dX10_isOther_37 : decode cX10_isOther 37 = .ok (.bipush 60, 2) := by decide +kernel
theorem dX10_isOther_39 : decode cX10_isOther 39 = .ok (.iload_n 1, 1) := by decide +kernel
theorem dX10_isOther_40 : decode cX10_isOther 40 = .ok (.imul, 1) := by decide +kernel
theorem dX10_isOther_41 : decode cX10_isOther 41 = .ok (.iload_n 3, 1) := by decide +kernel
theorem dX10_isOther_42 : decode cX10_isOther 42 = .ok (.iadd, 1) := by decide +kernel
theorem dX10_isOther_43 : decode cX10_isOther 43 = .ok (.iaload, 1) := by decide +kernel
theorem dX10_isOther_44 : decode cX10_isOther 44 = .ok (.aload_n 0, 1) := by decide +kernel
theorem dX10_isOther_45 : decode cX10_isOther 45 = .ok (.getfield 58, 3) := by decide +kernel
theorem dX10_isOther_48 : decode cX10_isOther 48 = .ok (.iload_n 3, 1) := by decide +kernel
theorem dX10_isOther_49 : decode cX10_isOther 49 = .ok (.iaload, 1) := by decide +kernel
theorem dX10_isOther_50 : decode cX10_isOther 50 = .ok (.if_icmp .eq 7, 3) := by decide +kernel
theorem dX10_isOther_53 : decode cX10_isOther 53 = .ok (.iconst 1, 1) := by decide +kernel
theorem dX10_isOther_54 : decode cX10_isOther 54 = .ok (.goto 4, 3) := by decide +kernel
theorem dX10_isOther_57 : decode cX10_isOther 57 = .ok (.iconst 0, 1) := by decide +kernel
theorem dX10_isOther_58 : decode cX10_isOther 58 = .ok (.istore_n 2, 1) := by decide +kernel
theorem dX10_isOther_59 : decode cX10_isOther 59 = .ok (.iinc 3 1, 3) := by decide +kernel
theorem dX10_isOther_62 : decode cX10_isOther 62 = .ok (.goto (-41), 3) := by decide +kernel
theorem dX10_isOther_65 : decode cX10_isOther 65 = .ok (.iload_n 2, 1) := by decide +kernel
theorem dX10_isOther_66 : decode cX10_isOther 66 = .ok (.ireturn, 1) := by decide +kernel
theorem dX10_becomes_0 : decode cX10_becomes 0 = .ok (.aload_n 0, 1) := by decide +kernel
theorem dX10_becomes_1 : decode cX10_becomes 1 = .ok (.iload_n 1, 1) := by decide +kernel
theorem dX10_becomes_2 : decode cX10_becomes 2 = .ok (.invokevirtual 181, 3) := by decide +kernel
theorem dX10_becomes_5 : decode cX10_becomes 5 = .ok (.ifCond .ne 8, 3) := by decide +kernel
theorem dX10_becomes_8 : decode cX10_becomes 8 = .ok (.aload_n 0, 1) := by decide +kernel
theorem dX10_becomes_9 : decode cX10_becomes 9 = .ok (.getfield 175, 3) := by decide +kernel
theorem dX10_becomes_12 : decode cX10_becomes 12 = .ok (.ireturn, 1) := by decide +kernel
theorem dX10_becomes_13 : decode cX10_becomes 13 = .ok (.aload_n 0, 1) := by decide +kernel
theorem dX10_becomes_14 : decode cX10_becomes 14 = .ok (.getfield 184, 3) := by decide +kernel
theorem dX10_becomes_17 : decode cX10_becomes 17 = .ok (.bipush 8, 2) := by decide +kernel
theorem dX10_becomes_19 : decode cX10_becomes 19 = .ok (.if_icmp .ne 93, 3) := by decide +kernel
theorem dX10_becomes_22 : decode cX10_becomes 22 = .ok (.iconst 1, 1) := by decide +kernel
theorem dX10_becomes_23 : decode cX10_becomes 23 = .ok (.istore_n 2, 1) := by decide +kernel
theorem dX10_becomes_24 : decode cX10_becomes 24 = .ok (.iload_n 2, 1) := by decide +kernel
theorem dX10_becomes_25 : decode cX10_becomes 25 = .ok (.bipush 8, 2) := by decide +kernel
theorem dX10_becomes_27 : decode cX10_becomes 27 = .ok (.if_icmp .ge 75, 3) := by decide +kernel
theorem dX10_becomes_30 : decode cX10_becomes 30 = .ok (.aload_n 0, 1) := by decide +kernel
theorem dX10_becomes_31 : decode cX10_becomes 31 = .ok (.getfield 67, 3) := by decide +kernel
theorem dX10_becomes_34 : decode cX10_becomes 34 = .ok (.iload_n 2, 1) := by decide +kernel
theorem dX10_becomes_35 : decode cX10_becomes 35 = .ok (.iconst 1, 1) := by decide +kernel
theorem dX10_becomes_36 : decode cX10_becomes 36 = .ok (.isub, 1) := by decide +kernel
theorem dX10_becomes_37 : decode cX10_becomes 37 = .ok (.aload_n 0, 1) := by decide +kernel
theorem dX10_becomes_38 : decode cX10_becomes 38 = .ok (.getfield 67, 3) := by decide +kernel
theorem dX10_becomes_41 : decode cX10_becomes 41 = .ok (.iload_n 2, 1) := by decide +kernel
theorem dX10_becomes_42 : decode cX10_becomes 42 = .ok (.iaload, 1) := by decide +kernel
theorem dX10_becomes_43 : decode cX10_becomes 43 = .ok (.iastore, 1) := by decide +kernel
theorem dX10_becomes_44 : decode cX10_becomes 44 = .ok (.aload_n 0, 1) := by decide +kernel
theorem dX10_becomes_45 : decode cX10_becomes 45 = .ok (.getfield 64, 3) := by decide +kernel
theorem dX10_becomes_48 : decode cX10_becomes 48 = .ok (.iload_n 2, 1) := by decide +kernel
theorem dX10_becomes_49 : decode cX10_becomes 49 = .ok (.iconst 1, 1) := by decide +kernel
theorem dX10_becomes_50 : decode cX10_becomes 50 = .ok (.isub, 1) := by decide +kernel
theorem dX10_becomes_51 : decode cX10_becomes 51 = .ok (.aload_n 0, 1) := by decide +kernel
theorem dX10_becomes_52 : decode cX10_becomes 52 = .ok (.getfield 64, 3) := by decide +kernel
theorem dX10_becomes_55 : decode cX10_becomes 55 = .ok (.iload_n 2, 1) := by decide +kernel
theorem dX10_becomes_56 : decode cX10_becomes 56 = .ok (.iaload, 1) := by decide +kernel
theorem dX10_becomes_57 : decode cX10_becomes 57 = .ok (.iastore, 1) := by decide +kernel
theorem dX10_becomes_58 : decode cX10_becomes 58 = .ok (.iconst 0, 1) := by decide +kernel
theorem dX10_becomes_59 : decode cX10_becomes 59 = .ok (.istore_n 3, 1) := by decide +kernel
theorem dX10_becomes_60 : decode cX10_becomes 60 = .ok (.iload_n 3, 1) := by decide +kernel
theorem dX10_becomes_61 : decode cX10_becomes 61 = .ok (.bipush 60, 2) := by decide +kernel
theorem dX10_becomes_63 : decode cX10_becomes 63 = .ok (.if_icmp .ge 33, 3) := by decide +kernel
theorem dX10_becomes_66 : decode cX10_becomes 66 = .ok (.aload_n 0, 1) := by decide +kernel
theorem dX10_becomes_67 : decode cX10_becomes 67 = .ok (.getfield 61, 3) := by decide +kernel
theorem dX10_becomes_70 : decode cX10_becomes 70 = .ok (.bipush 60, 2) := by decide +kernel
theorem dX10_becomes_72 : decode cX10_becomes 72 = .ok (.iload_n 2, 1) := by decide +kernel
theorem dX10_becomes_73 : decode cX10_becomes 73 = .ok (.iconst 1, 1) := by decide +kernel
theorem dX10_becomes_74 : decode cX10_becomes 74 = .ok (.isub, 1) := by decide +kernel
theorem dX10_becomes_75 : decode cX10_becomes 75 = .ok (.imul, 1) := by decide +kernel
theorem dX10_becomes_76 : decode cX10_becomes 76 = .ok (.iload_n 3, 1) := by decide +kernel
theorem dX10_becomes_77 : decode cX10_becomes 77 = .ok (.iadd, 1) := by decide +kernel
theorem dX10_becomes_78 : decode cX10_becomes 78 = .ok (.aload_n 0, 1) := by decide +kernel
theorem dX10_becomes_79 : decode cX10_becomes 79 = .ok (.getfield 61, 3) := by decide +kernel
theorem dX10_becomes_82 : decode cX10_becomes 82 = .ok (.bipush 60, 2) := by decide +kernel
theorem dX10_becomes_84 : decode cX10_becomes 84 = .ok (.iload_n 2, 1) := by decide +kernel
theorem dX10_becomes_85 : decode cX10_becomes 85 = .ok (.imul, 1) := by decide +kernel
theorem dX10_becomes_86 : decode cX10_becomes 86 = .ok (.iload_n 3, 1) := by decide +kernel
theorem dX10_becomes_87 : decode cX10_becomes 87 = .ok (.iadd, 1) := by decide +kernel
theorem dX10_becomes_88 : decode cX10_becomes 88 = .ok (.iaload, 1) := by decide +kernel
theorem dX10_becomes_89 : decode cX10_becomes 89 = .ok (.iastore, 1) := by decide +kernel
theorem dX10_becomes_90 : decode cX10_becomes 90 = .ok (.iinc 3 1, 3) := by decide +kernel
theorem dX10_becomes_93 : decode cX10_becomes 93 = .ok (.goto (-33), 3) := by decide +kernel
theorem dX10_becomes_96 : decode cX10_becomes 96 = .ok (.iinc 2 1, 3) := by decide +kernel
theorem dX10_becomes_99 : decode cX10_becomes 99 = .ok (.goto (-75), 3) := by decide +kernel
theorem dX10_becomes_102 : decode cX10_becomes 102 = .ok (.aload_n 0, 1) := by decide +kernel
theorem dX10_becomes_103 : decode cX10_becomes 103 = .ok (.dup, 1) := by decide +kernel
theorem dX10_becomes_104 : decode cX10_becomes 104 = .ok (.getfield 184, 3) := by decide +kernel
theorem dX10_becomes_107 : decode cX10_becomes 107 = .ok (.iconst 1, 1) := by decide +kernel
theorem dX10_becomes_108 : decode cX10_becomes 108 = .ok (.isub, 1) := by decide +kernel
theorem dX10_becomes_109 : decode cX10_becomes 109 = .ok (.putfield 184, 3) := by decide +kernel
theorem dX10_becomes_112 : decode cX10_becomes 112 = .ok (.aload_n 0, 1) := by decide +kernel
theorem dX10_becomes_113 : decode cX10_becomes 113 = .ok (.getfield 67, 3) := by decide +kernel
theorem dX10_becomes_116 : decode cX10_becomes 116 = .ok (.aload_n 0, 1) := by decide +kernel
theorem dX10_becomes_117 : decode cX10_becomes 117 = .ok (.getfield 184, 3) := by decide +kernel
theorem dX10_becomes_120 : decode cX10_becomes 120 = .ok (.iload_n 1, 1) := by decide +kernel
theorem dX10_becomes_121 : decode cX10_becomes 121 = .ok (.iastore, 1) := by decide +kernel
theorem dX10_becomes_122 : decode cX10_becomes 122 = .ok (.aload_n 0, 1) := by decide +kernel
theorem dX10_becomes_123 : decode cX10_becomes 123 = .ok (.getfield 64, 3) := by decide +kernel
theorem dX10_becomes_126 : decode cX10_becomes 126 = .ok (.aload_n 0, 1) := by decide +kernel
theorem dX10_becomes_127 : decode cX10_becomes 127 = .ok (.getfield 184, 3) := by decide +kernel
theorem dX10_becomes_130 : decode cX10_becomes 130 = .ok (.aload_n 0, 1) := by decide +kernel
theorem dX10_becomes_131 : decode cX10_becomes 131 = .ok (.getfield 31, 3) := by decide +kernel
theorem dX10_becomes_134 : decode cX10_becomes 134 = .ok (.iload_n 1, 1) := by decide +kernel
theorem dX10_becomes_135 : decode cX10_becomes 135 = .ok (.iaload, 1) := by decide +kernel
theorem dX10_becomes_136 : decode cX10_becomes 136 = .ok (.iastore, 1) := by decide +kernel
theorem dX10_becomes_137 : decode cX10_becomes 137 = .ok (.iconst 0, 1) := by decide +kernel
theorem dX10_becomes_138 : decode cX10_becomes 138 = .ok (.istore_n 2, 1) := by decide +kernel
theorem dX10_becomes_139 : decode cX10_becomes 139 = .ok (.iload_n 2, 1) := by decide +kernel
theorem dX10_becomes_140 : decode cX10_becomes 140 = .ok (.bipush 60, 2) := by decide +kernel
theorem dX10_becomes_142 : decode cX10_becomes 142 = .ok (.if_icmp .ge 34, 3) := by decide +kernel
theorem dX10_becomes_145 : decode cX10_becomes 145 = .ok (.aload_n 0, 1) := by decide +kernel
theorem dX10_becomes_146 : decode cX10_becomes 146 = .ok (.getfield 61, 3) := by decide +kernel
theorem dX10_becomes_149 : decode cX10_becomes 149 = .ok (.bipush 60, 2) := by decide +kernel
theorem dX10_becomes_151 : decode cX10_becomes 151 = .ok (.aload_n 0, 1) := by decide +kernel
theorem dX10_becomes_152 : decode cX10_becomes 152 = .ok (.getfield 184, 3) := by decide +kernel
theorem dX10_becomes_155 : decode cX10_becomes 155 = .ok (.imul, 1) := by decide +kernel
theorem dX10_becomes_156 : decode cX10_becomes 156 = .ok (.iload_n 2, 1) := by decide +kernel
theorem dX10_becomes_157 : decode cX10_becomes 157 = .ok (.iadd, 1) := by decide +kernel
theorem dX10_becomes_158 : decode cX10_becomes 158 = .ok (.aload_n 0, 1) := by decide +kernel
theorem dX10_becomes_159 : decode cX10_becomes 159 = .ok (.getfield 28, 3) := by decide +kernel
theorem dX10_becomes_162 : decode cX10_becomes 162 = .ok (.bipush 60, 2) := by decide +kernel
theorem dX10_becomes_164 : decode cX10_becomes 164 = .ok (.iload_n 1, 1) := by decide +kernel
theorem dX10_becomes_165 : decode cX10_becomes 165 = .ok (.imul, 1) := by decide +kernel
theorem dX10_becomes_166 : decode cX10_becomes 166 = .ok (.iload_n 2, 1) := by decide +kernel
theorem dX10_becomes_167 : decode cX10_becomes 167 = .ok (.iadd, 1) := by decide +kernel
theorem dX10_becomes_168 : decode cX10_becomes 168 = .ok (.iaload, 1) := by decide +kernel
theorem dX10_becomes_169 : decode cX10_becomes 169 = .ok (.iastore, 1) := by decide +kernel
theorem dX10_becomes_170 : decode cX10_becomes 170 = .ok (.iinc 2 1, 3) := by decide +kernel
theorem dX10_becomes_173 : decode cX10_becomes 173 = .ok (.goto (-34), 3) := by decide +kernel
theorem dX10_becomes_176 : decode cX10_becomes 176 = .ok (.aload_n 0, 1) := by decide +kernel
theorem dX10_becomes_177 : decode cX10_becomes 177 = .ok (.dup, 1) := by decide +kernel
theorem dX10_becomes_178 : decode cX10_becomes 178 = .ok (.getfield 184, 3) := by decide +kernel
theorem dX10_becomes_181 : decode cX10_becomes 181 = .ok (.iconst 1, 1) := by decide +kernel
theorem dX10_becomes_182 : decode cX10_becomes 182 = .ok (.iadd, 1) := by decide +kernel
theorem dX10_becomes_183 : decode cX10_becomes 183 = .ok (.putfield 184, 3) := by decide +kernel
theorem dX10_becomes_186 : decode cX10_becomes 186 = .ok (.aload_n 0, 1) := by decide +kernel
theorem dX10_becomes_187 : decode cX10_becomes 187 = .ok (.getfield 31, 3) := by decide +kernel
theorem dX10_becomes_190 : decode cX10_becomes 190 = .ok (.iload_n 1, 1) := by decide +kernel
theorem dX10_becomes_191 : decode cX10_becomes 191 = .ok (.aload_n 0, 1) := by decide +kernel
theorem dX10_becomes_192 : decode cX10_becomes 192 = .ok (.getfield 175, 3) := by decide +kernel
theorem dX10_becomes_195 : decode cX10_becomes 195 = .ok (.iastore, 1) := by decide +kernel
theorem dX10_becomes_196 : decode cX10_becomes 196 = .ok (.iconst 0, 1) := by decide +kernel
theorem dX10_becomes_197 : decode cX10_becomes 197 = .ok (.istore_n 2, 1) := by decide +kernel
theorem dX10_becomes_198 : decode cX10_becomes 198 = .ok (.iload_n 2, 1) := by decide +kernel
theorem dX10_becomes_199 : decode cX10_becomes 199 = .ok (.aload_n 0, 1) := by decide +kernel
theorem dX10_becomes_200 : decode cX10_becomes 200 = .ok (.getfield 175, 3) := by decide +kernel
theorem dX10_becomes_203 : decode cX10_becomes 203 = .ok (.if_icmp .ge 26, 3) := by decide +kernel
theorem dX10_becomes_206 : decode cX10_becomes 206 = .ok (.aload_n 0, 1) := by decide +kernel
theorem dX10_becomes_207 : decode cX10_becomes 207 = .ok (.getfield 28, 3) := by decide +kernel
theorem dX10_becomes_210 : decode cX10_becomes 210 = .ok (.bipush 60, 2) := by decide +kernel
theorem dX10_becomes_212 : decode cX10_becomes 212 = .ok (.iload_n 1, 1) := by decide +kernel
theorem dX10_becomes_213 : decode cX10_becomes 213 = .ok (.imul, 1) := by decide +kernel
theorem dX10_becomes_214 : decode cX10_becomes 214 = .ok (.iload_n 2, 1) := by decide +kernel
theorem dX10_becomes_215 : decode cX10_becomes 215 = .ok (.iadd, 1) := by decide +kernel
theorem dX10_becomes_216 : decode cX10_becomes 216 = .ok (.aload_n 0, 1) := by decide +kernel
theorem dX10_becomes_217 : decode cX10_becomes 217 = .ok (.getfield 58, 3) := by decide +kernel
theorem dX10_becomes_220 : decode cX10_becomes 220 = .ok (.iload_n 2, 1) := by decide +kernel
theorem dX10_becomes_221 : decode cX10_becomes 221 = .ok (.iaload, 1) := by decide +kernel
theorem dX10_becomes_222 : decode cX10_becomes 222 = .ok (.iastore, 1) := by decide +kernel
theorem dX10_becomes_223 : decode cX10_becomes 223 = .ok (.iinc 2 1, 3) := by decide +kernel
theorem dX10_becomes_226 : decode cX10_becomes 226 = .ok (.goto (-28), 3) := by decide +kernel
theorem dX10_becomes_229 : decode cX10_becomes 229 = .ok (.aload_n 0, 1) := by decide +kernel
theorem dX10_becomes_230 : decode cX10_becomes 230 = .ok (.getfield 175, 3) := by decide +kernel
theorem dX10_becomes_233 : decode cX10_becomes 233 = .ok (.ireturn, 1) := by decide +kernel
theorem dX10_takes_0 : decode cX10_takes 0 = .ok (.aload_n 0, 1) := by decide +kernel
theorem dX10_takes_1 : decode cX10_takes 1 = .ok (.aload_n 0, 1) := by decide +kernel
theorem dX10_takes_2 : decode cX10_takes 2 = .ok (.getfield 31, 3) := by decide +kernel
theorem dX10_takes_5 : decode cX10_takes 5 = .ok (.iload_n 1, 1) := by decide +kernel
theorem dX10_takes_6 : decode cX10_takes 6 = .ok (.iaload, 1) := by decide +kernel
theorem dX10_takes_7 : decode cX10_takes 7 = .ok (.putfield 175, 3) := by decide +kernel
theorem dX10_takes_10 : decode cX10_takes 10 = .ok (.iconst 0, 1) := by decide +kernel
theorem dX10_takes_11 : decode cX10_takes 11 = .ok (.istore_n 2, 1) := by decide +kernel
theorem dX10_takes_12 : decode cX10_takes 12 = .ok (.iload_n 2, 1) := by decide +kernel
theorem dX10_takes_13 : decode cX10_takes 13 = .ok (.aload_n 0, 1) := by decide +kernel
theorem dX10_takes_14 : decode cX10_takes 14 = .ok (.getfield 175, 3) := by decide +kernel
theorem dX10_takes_17 : decode cX10_takes 17 = .ok (.if_icmp .ge 26, 3) := by decide +kernel
theorem dX10_takes_20 : decode cX10_takes 20 = .ok (.aload_n 0, 1) := by decide +kernel
theorem dX10_takes_21 : decode cX10_takes 21 = .ok (.getfield 58, 3) := by decide +kernel
theorem dX10_takes_24 : decode cX10_takes 24 = .ok (.iload_n 2, 1) := by decide +kernel
theorem dX10_takes_25 : decode cX10_takes 25 = .ok (.aload_n 0, 1) := by decide +kernel
theorem dX10_takes_26 : decode cX10_takes 26 = .ok (.getfield 28, 3) := by decide +kernel
theorem dX10_takes_29 : decode cX10_takes 29 = .ok (.bipush 60, 2) := by decide +kernel
theorem dX10_takes_31 : decode cX10_takes 31 = .ok (.iload_n 1, 1) := by decide +kernel
theorem dX10_takes_32 : decode cX10_takes 32 = .ok (.imul, 1) := by decide +kernel
theorem dX10_takes_33 : decode cX10_takes 33 = .ok (.iload_n 2, 1) := by decide +kernel
theorem dX10_takes_34 : decode cX10_takes 34 = .ok (.iadd, 1) := by decide +kernel
theorem dX10_takes_35 : decode cX10_takes 35 = .ok (.iaload, 1) := by decide +kernel
theorem dX10_takes_36 : decode cX10_takes 36 = .ok (.iastore, 1) := by decide +kernel
theorem dX10_takes_37 : decode cX10_takes 37 = .ok (.iinc 2 1, 3) := by decide +kernel
theorem dX10_takes_40 : decode cX10_takes 40 = .ok (.goto (-28), 3) := by decide +kernel
theorem dX10_takes_43 : decode cX10_takes 43 = .ok (.return_, 1) := by decide +kernel
theorem dX10_push_0 : decode cX10_push 0 = .ok (.iload_n 1, 1) := by decide +kernel
theorem dX10_push_1 : decode cX10_push 1 = .ok (.invokestatic 187, 3) := by decide +kernel
theorem dX10_push_4 : decode cX10_push 4 = .ok (.ifCond .eq 10, 3) := by decide +kernel
theorem dX10_push_7 : decode cX10_push 7 = .ok (.iload_n 2, 1) := by decide +kernel
theorem dX10_push_8 : decode cX10_push 8 = .ok (.invokestatic 129, 3) := by decide +kernel
theorem dX10_push_11 : decode cX10_push 11 = .ok (.ifCond .ne 5, 3) := by decide +kernel
theorem dX10_push_14 : decode cX10_push 14 = .ok (.iconst (-1), 1) := by decide +kernel
theorem dX10_push_15 : decode cX10_push 15 = .ok (.ireturn, 1) := by decide +kernel
theorem dX10_push_16 : decode cX10_push 16 = .ok (.aload_n 0, 1) := by decide +kernel
theorem dX10_push_17 : decode cX10_push 17 = .ok (.getfield 31, 3) := by decide +kernel
theorem dX10_push_20 : decode cX10_push 20 = .ok (.iload_n 1, 1) := by decide +kernel
theorem dX10_push_21 : decode cX10_push 21 = .ok (.iaload, 1) := by decide +kernel
theorem dX10_push_22 : decode cX10_push 22 = .ok (.bipush 60, 2) := by decide +kernel
theorem dX10_push_24 : decode cX10_push 24 = .ok (.if_icmp .ne 6, 3) := by decide +kernel
theorem dX10_push_27 : decode cX10_push 27 = .ok (.bipush (-3), 2) := by decide +kernel
theorem dX10_push_29 : decode cX10_push 29 = .ok (.ireturn, 1) := by decide +kernel
theorem dX10_push_30 : decode cX10_push 30 = .ok (.aload_n 0, 1) := by decide +kernel
theorem dX10_push_31 : decode cX10_push 31 = .ok (.iload_n 1, 1) := by decide +kernel
theorem dX10_push_32 : decode cX10_push 32 = .ok (.invokevirtual 190, 3) := by decide +kernel
theorem dX10_push_35 : decode cX10_push 35 = .ok (.aload_n 0, 1) := by decide +kernel
theorem dX10_push_36 : decode cX10_push 36 = .ok (.getfield 58, 3) := by decide +kernel
theorem dX10_push_39 : decode cX10_push 39 = .ok (.aload_n 0, 1) := by decide +kernel
theorem dX10_push_40 : decode cX10_push 40 = .ok (.getfield 175, 3) := by decide +kernel
theorem dX10_push_43 : decode cX10_push 43 = .ok (.iload_n 2, 1) := by decide +kernel
theorem dX10_push_44 : decode cX10_push 44 = .ok (.iastore, 1) := by decide +kernel
theorem dX10_push_45 : decode cX10_push 45 = .ok (.aload_n 0, 1) := by decide +kernel
theorem dX10_push_46 : decode cX10_push 46 = .ok (.dup, 1) := by decide +kernel
theorem dX10_push_47 : decode cX10_push 47 = .ok (.getfield 175, 3) := by decide +kernel
theorem dX10_push_50 : decode cX10_push 50 = .ok (.iconst 1, 1) := by decide +kernel
theorem dX10_push_51 : decode cX10_push 51 = .ok (.iadd, 1) := by decide +kernel
theorem dX10_push_52 : decode cX10_push 52 = .ok (.putfield 175, 3) := by decide +kernel
theorem dX10_push_55 : decode cX10_push 55 = .ok (.aload_n 0, 1) := by decide +kernel
theorem dX10_push_56 : decode cX10_push 56 = .ok (.iload_n 1, 1) := by decide +kernel
theorem dX10_push_57 : decode cX10_push 57 = .ok (.invokevirtual 193, 3) := by decide +kernel
theorem dX10_push_60 : decode cX10_push 60 = .ok (.ireturn, 1) := by decide +kernel
theorem dX10_pull_0 : decode cX10_pull 0 = .ok (.iload_n 1, 1) := by decide +kernel
theorem dX10_pull_1 : decode cX10_pull 1 = .ok (.invokestatic 187, 3) := by decide +kernel
theorem dX10_pull_4 : decode cX10_pull 4 = .ok (.ifCond .ne 5, 3) := by decide +kernel
theorem dX10_pull_7 : decode cX10_pull 7 = .ok (.iconst (-1), 1) := by decide +kernel
theorem dX10_pull_8 : decode cX10_pull 8 = .ok (.ireturn, 1) := by decide +kernel
theorem dX10_pull_9 : decode cX10_pull 9 = .ok (.aload_n 0, 1) := by decide +kernel
theorem dX10_pull_10 : decode cX10_pull 10 = .ok (.getfield 31, 3) := by decide +kernel
theorem dX10_pull_13 : decode cX10_pull 13 = .ok (.iload_n 1, 1) := by decide +kernel
theorem dX10_pull_14 : decode cX10_pull 14 = .ok (.iaload, 1) := by decide +kernel
theorem dX10_pull_15 : decode cX10_pull 15 = .ok (.ifCond .ne 6, 3) := by decide +kernel
theorem dX10_pull_18 : decode cX10_pull 18 = .ok (.bipush (-2), 2) := by decide +kernel
theorem dX10_pull_20 : decode cX10_pull 20 = .ok (.ireturn, 1) := by decide +kernel
theorem dX10_pull_21 : decode cX10_pull 21 = .ok (.aload_n 0, 1) := by decide +kernel
theorem dX10_pull_22 : decode cX10_pull 22 = .ok (.iload_n 1, 1) := by decide +kernel
theorem dX10_pull_23 : decode cX10_pull 23 = .ok (.invokevirtual 190, 3) := by decide +kernel
theorem dX10_pull_26 : decode cX10_pull 26 = .ok (.aload_n 0, 1) := by decide +kernel
theorem dX10_pull_27 : decode cX10_pull 27 = .ok (.dup, 1) := by decide +kernel
theorem dX10_pull_28 : decode cX10_pull 28 = .ok (.getfield 175, 3) := by decide +kernel
theorem dX10_pull_31 : decode cX10_pull 31 = .ok (.iconst 1, 1) := by decide +kernel
theorem dX10_pull_32 : decode cX10_pull 32 = .ok (.isub, 1) := by decide +kernel
theorem dX10_pull_33 : decode cX10_pull 33 = .ok (.putfield 175, 3) := by decide +kernel
theorem dX10_pull_36 : decode cX10_pull 36 = .ok (.aload_n 0, 1) := by decide +kernel
theorem dX10_pull_37 : decode cX10_pull 37 = .ok (.getfield 58, 3) := by decide +kernel
theorem dX10_pull_40 : decode cX10_pull 40 = .ok (.aload_n 0, 1) := by decide +kernel
theorem dX10_pull_41 : decode cX10_pull 41 = .ok (.getfield 175, 3) := by decide +kernel
theorem dX10_pull_44 : decode cX10_pull 44 = .ok (.iaload, 1) := by decide +kernel
theorem dX10_pull_45 : decode cX10_pull 45 = .ok (.istore_n 2, 1) := by decide +kernel
theorem dX10_pull_46 : decode cX10_pull 46 = .ok (.aload_n 0, 1) := by decide +kernel
theorem dX10_pull_47 : decode cX10_pull 47 = .ok (.iload_n 1, 1) := by decide +kernel
theorem dX10_pull_48 : decode cX10_pull 48 = .ok (.invokevirtual 193, 3) := by decide +kernel
theorem dX10_pull_51 : decode cX10_pull 51 = .ok (.istore_n 3, 1) := by decide +kernel
theorem dX10_pull_52 : decode cX10_pull 52 = .ok (.iload_n 2, 1) := by decide +kernel
theorem dX10_pull_53 : decode cX10_pull 53 = .ok (.ireturn, 1) := by decide +kernel
theorem dX10_word_0 : decode cX10_word 0 = .ok (.iload_n 1, 1) := by decide +kernel
theorem dX10_word_1 : decode cX10_word 1 = .ok (.invokestatic 187, 3) := by decide +kernel
theorem dX10_word_4 : decode cX10_word 4 = .ok (.ifCond .eq 9, 3) := by decide +kernel
theorem dX10_word_7 : decode cX10_word 7 = .ok (.iload_n 2, 1) := by decide +kernel
theorem dX10_word_8 : decode cX10_word 8 = .ok (.bipush (-2), 2) := by decide +kernel
theorem dX10_word_10 : decode cX10_word 10 = .ok (.if_icmp .ge 5, 3) := by decide +kernel
theorem dX10_word_13 : decode cX10_word 13 = .ok (.iconst (-1), 1) := by decide +kernel
theorem dX10_word_14 : decode cX10_word 14 = .ok (.ireturn, 1) := by decide +kernel
theorem dX10_word_15 : decode cX10_word 15 = .ok (.iconst 0, 1) := by decide +kernel
theorem dX10_word_16 : decode cX10_word 16 = .ok (.istore_n 3, 1) := by decide +kernel
theorem dX10_word_17 : decode cX10_word 17 = .ok (.iconst 0, 1) := by decide +kernel
theorem dX10_word_18 : decode cX10_word 18 = .ok (.istore 4, 2) := by decide +kernel
theorem dX10_word_20 : decode cX10_word 20 = .ok (.iload 4, 2) := by decide +kernel
theorem dX10_word_22 : decode cX10_word 22 = .ok (.aload_n 0, 1) := by decide +kernel
theorem dX10_word_23 : decode cX10_word 23 = .ok (.getfield 31, 3) := by decide +kernel
theorem dX10_word_26 : decode cX10_word 26 = .ok (.iload_n 1, 1) := by decide +kernel
theorem dX10_word_27 : decode cX10_word 27 = .ok (.iaload, 1) := by decide +kernel
theorem dX10_word_28 : decode cX10_word 28 = .ok (.if_icmp .ge 29, 3) := by decide +kernel
theorem dX10_word_31 : decode cX10_word 31 = .ok (.iload_n 3, 1) := by decide +kernel
theorem dX10_word_32 : decode cX10_word 32 = .ok (.aload_n 0, 1) := by decide +kernel
theorem dX10_word_33 : decode cX10_word 33 = .ok (.getfield 21, 3) := by decide +kernel
theorem dX10_word_36 : decode cX10_word 36 = .ok (.aload_n 0, 1) := by decide +kernel
theorem dX10_word_37 : decode cX10_word 37 = .ok (.getfield 28, 3) := by decide +kernel
theorem dX10_word_40 : decode cX10_word 40 = .ok (.bipush 60, 2) := by decide +kernel
theorem dX10_word_42 : decode cX10_word 42 = .ok (.iload_n 1, 1) := by decide +kernel
theorem dX10_word_43 : decode cX10_word 43 = .ok (.imul, 1) := by decide +kernel
theorem dX10_word_44 : decode cX10_word 44 = .ok (.iload 4, 2) := by decide +kernel
theorem dX10_word_46 : decode cX10_word 46 = .ok (.iadd, 1) := by decide +kernel
theorem dX10_word_47 : decode cX10_word 47 = .ok (.iaload, 1) := by decide +kernel
theorem dX10_word_48 : decode cX10_word 48 = .ok (.iaload, 1) := by decide +kernel
theorem dX10_word_49 : decode cX10_word 49 = .ok (.iadd, 1) := by decide +kernel
theorem dX10_word_50 : decode cX10_word 50 = .ok (.istore_n 3, 1) := by decide +kernel
theorem dX10_word_51 : decode cX10_word 51 = .ok (.iinc 4 1, 3) := by decide +kernel
theorem dX10_word_54 : decode cX10_word 54 = .ok (.goto (-34), 3) := by decide +kernel
theorem dX10_word_57 : decode cX10_word 57 = .ok (.iload_n 2, 1) := by decide +kernel
theorem dX10_word_58 : decode cX10_word 58 = .ok (.bipush (-2), 2) := by decide +kernel
theorem dX10_word_60 : decode cX10_word 60 = .ok (.if_icmp .ne 7, 3) := by decide +kernel
theorem dX10_word_63 : decode cX10_word 63 = .ok (.iload_n 3, 1) := by decide +kernel
theorem dX10_word_64 : decode cX10_word 64 = .ok (.goto 43, 3) := by decide +kernel
theorem dX10_word_67 : decode cX10_word 67 = .ok (.iload_n 2, 1) := by decide +kernel
theorem dX10_word_68 : decode cX10_word 68 = .ok (.iconst (-1), 1) := by decide +kernel
theorem dX10_word_69 : decode cX10_word 69 = .ok (.if_icmp .ne 12, 3) := by decide +kernel
theorem dX10_word_72 : decode cX10_word 72 = .ok (.aload_n 0, 1) := by decide +kernel
theorem dX10_word_73 : decode cX10_word 73 = .ok (.getfield 31, 3) := by decide +kernel
theorem dX10_word_76 : decode cX10_word 76 = .ok (.iload_n 1, 1) := by decide +kernel
theorem dX10_word_77 : decode cX10_word 77 = .ok (.iaload, 1) := by decide +kernel
theorem dX10_word_78 : decode cX10_word 78 = .ok (.goto 29, 3) := by decide +kernel
theorem dX10_word_81 : decode cX10_word 81 = .ok (.iload_n 2, 1) := by decide +kernel
theorem dX10_word_82 : decode cX10_word 82 = .ok (.aload_n 0, 1) := by decide +kernel
theorem dX10_word_83 : decode cX10_word 83 = .ok (.getfield 31, 3) := by decide +kernel
theorem dX10_word_86 : decode cX10_word 86 = .ok (.iload_n 1, 1) := by decide +kernel
theorem dX10_word_87 : decode cX10_word 87 = .ok (.iaload, 1) := by decide +kernel
theorem dX10_word_88 : decode cX10_word 88 = .ok (.if_icmp .ge 17, 3) := by decide +kernel
theorem dX10_word_91 : decode cX10_word 91 = .ok (.aload_n 0, 1) := by decide +kernel
theorem dX10_word_92 : decode cX10_word 92 = .ok (.getfield 28, 3) := by decide +kernel
theorem dX10_word_95 : decode cX10_word 95 = .ok (.bipush 60, 2) := by decide +kernel
theorem dX10_word_97 : decode cX10_word 97 = .ok (.iload_n 1, 1) := by decide +kernel
theorem dX10_word_98 : decode cX10_word 98 = .ok (.imul, 1) := by decide +kernel
theorem dX10_word_99 : decode cX10_word 99 = .ok (.iload_n 2, 1) := by decide +kernel
theorem dX10_word_100 : decode cX10_word 100 = .ok (.iadd, 1) := by decide +kernel
theorem dX10_word_101 : decode cX10_word 101 = .ok (.iaload, 1) := by decide +kernel
theorem dX10_word_102 : decode cX10_word 102 = .ok (.goto 5, 3) := by decide +kernel
theorem dX10_word_105 : decode cX10_word 105 = .ok (.bipush (-2), 2) := by decide +kernel
theorem dX10_word_107 : decode cX10_word 107 = .ok (.ireturn, 1) := by decide +kernel
theorem dX10_valueOf_0 : decode cX10_valueOf 0 = .ok (.aload_n 0, 1) := by decide +kernel
theorem dX10_valueOf_1 : decode cX10_valueOf 1 = .ok (.bipush 14, 2) := by decide +kernel
theorem dX10_valueOf_3 : decode cX10_valueOf 3 = .ok (.iload_n 1, 1) := by decide +kernel
theorem dX10_valueOf_4 : decode cX10_valueOf 4 = .ok (.invokevirtual 83, 3) := by decide +kernel
theorem dX10_valueOf_7 : decode cX10_valueOf 7 = .ok (.iconst 0, 1) := by decide +kernel
theorem dX10_valueOf_8 : decode cX10_valueOf 8 = .ok (.istore 6, 2) := by decide +kernel
theorem dX10_valueOf_10 : decode cX10_valueOf 10 = .ok (.iload 6, 2) := by decide +kernel
theorem dX10_valueOf_12 : decode cX10_valueOf 12 = .ok (.iload_n 3, 1) := by decide +kernel
theorem dX10_valueOf_13 : decode cX10_valueOf 13 = .ok (.if_icmp .ge 52, 3) := by decide +kernel
theorem dX10_valueOf_16 : decode cX10_valueOf 16 = .ok (.iload 6, 2) := by decide +kernel
theorem dX10_valueOf_18 : decode cX10_valueOf 18 = .ok (.aload_n 0, 1) := by decide +kernel
theorem dX10_valueOf_19 : decode cX10_valueOf 19 = .ok (.getfield 31, 3) := by decide +kernel
theorem dX10_valueOf_22 : decode cX10_valueOf 22 = .ok (.iload_n 2, 1) := by decide +kernel
theorem dX10_valueOf_23 : decode cX10_valueOf 23 = .ok (.iaload, 1) := by decide +kernel
theorem dX10_valueOf_24 : decode cX10_valueOf 24 = .ok (.if_icmp .ge 41, 3) := by decide +kernel
theorem dX10_valueOf_27 : decode cX10_valueOf 27 = .ok (.aload_n 0, 1) := by decide +kernel
theorem dX10_valueOf_28 : decode cX10_valueOf 28 = .ok (.iload_n 1, 1) := by decide +kernel
theorem dX10_valueOf_29 : decode cX10_valueOf 29 = .ok (.iload_n 1, 1) := by decide +kernel
theorem dX10_valueOf_30 : decode cX10_valueOf 30 = .ok (.iconst 4, 1) := by decide +kernel
theorem dX10_valueOf_31 : decode cX10_valueOf 31 = .ok (.iload 6, 2) := by decide +kernel
theorem dX10_valueOf_33 : decode cX10_valueOf 33 = .ok (.iload 4, 2) := by decide +kernel
theorem dX10_valueOf_35 : decode cX10_valueOf 35 = .ok (.if_icmp .ne 8, 3) := by decide +kernel
theorem dX10_valueOf_38 : decode cX10_valueOf 38 = .ok (.iload 5, 2) := by decide +kernel
theorem dX10_valueOf_40 : decode cX10_valueOf 40 = .ok (.goto 15, 3) := by decide +kernel
theorem dX10_valueOf_43 : decode cX10_valueOf 43 = .ok (.aload_n 0, 1) := by decide +kernel
theorem dX10_valueOf_44 : decode cX10_valueOf 44 = .ok (.getfield 28, 3) := by decide +kernel
theorem dX10_valueOf_47 : decode cX10_valueOf 47 = .ok (.bipush 60, 2) := by decide +kernel
theorem dX10_valueOf_49 : decode cX10_valueOf 49 = .ok (.iload_n 2, 1) := by decide +kernel
theorem dX10_valueOf_50 : decode cX10_valueOf 50 = .ok (.imul, 1) := by decide +kernel
theorem dX10_valueOf_51 : decode cX10_valueOf 51 = .ok (.iload 6, 2) := by decide +kernel
theorem dX10_valueOf_53 : decode cX10_valueOf 53 = .ok (.iadd, 1) := by decide +kernel
theorem dX10_valueOf_54 : decode cX10_valueOf 54 = .ok (.iaload, 1) := by decide +kernel
theorem dX10_valueOf_55 : decode cX10_valueOf 55 = .ok (.iadd, 1) := by decide +kernel
theorem dX10_valueOf_56 : decode cX10_valueOf 56 = .ok (.invokevirtual 132, 3) := by decide +kernel
theorem dX10_valueOf_59 : decode cX10_valueOf 59 = .ok (.iinc 6 1, 3) := by decide +kernel
theorem dX10_valueOf_62 : decode cX10_valueOf 62 = .ok (.goto (-52), 3) := by decide +kernel
theorem dX10_valueOf_65 : decode cX10_valueOf 65 = .ok (.return_, 1) := by decide +kernel
theorem dX10_value_0 : decode cX10_value 0 = .ok (.iload_n 1, 1) := by decide +kernel
theorem dX10_value_1 : decode cX10_value 1 = .ok (.invokestatic 126, 3) := by decide +kernel
theorem dX10_value_4 : decode cX10_value 4 = .ok (.ifCond .eq 10, 3) := by decide +kernel
theorem dX10_value_7 : decode cX10_value 7 = .ok (.iload_n 2, 1) := by decide +kernel
theorem dX10_value_8 : decode cX10_value 8 = .ok (.invokestatic 187, 3) := by decide +kernel
theorem dX10_value_11 : decode cX10_value 11 = .ok (.ifCond .ne 5, 3) := by decide +kernel
theorem dX10_value_14 : decode cX10_value 14 = .ok (.iconst (-1), 1) := by decide +kernel
theorem dX10_value_15 : decode cX10_value 15 = .ok (.ireturn, 1) := by decide +kernel
theorem dX10_value_16 : decode cX10_value 16 = .ok (.aload_n 0, 1) := by decide +kernel
theorem dX10_value_17 : decode cX10_value 17 = .ok (.bipush 15, 2) := by decide +kernel
theorem dX10_value_19 : decode cX10_value 19 = .ok (.iload_n 2, 1) := by decide +kernel
theorem dX10_value_20 : decode cX10_value 20 = .ok (.bipush 60, 2) := by decide +kernel
theorem dX10_value_22 : decode cX10_value 22 = .ok (.bipush (-2), 2) := by decide +kernel
theorem dX10_value_24 : decode cX10_value 24 = .ok (.iconst 0, 1) := by decide +kernel
theorem dX10_value_25 : decode cX10_value 25 = .ok (.invokevirtual 196, 3) := by decide +kernel
theorem dX10_value_28 : decode cX10_value 28 = .ok (.aload_n 0, 1) := by decide +kernel
theorem dX10_value_29 : decode cX10_value 29 = .ok (.iload_n 1, 1) := by decide +kernel
theorem dX10_value_30 : decode cX10_value 30 = .ok (.invokevirtual 135, 3) := by decide +kernel
theorem dX10_value_33 : decode cX10_value 33 = .ok (.ireturn, 1) := by decide +kernel
theorem dX10_isPair_0 : decode cX10_isPair 0 = .ok (.iload_n 1, 1) := by decide +kernel
theorem dX10_isPair_1 : decode cX10_isPair 1 = .ok (.iconst 1, 1) := by decide +kernel
theorem dX10_isPair_2 : decode cX10_isPair 2 = .ok (.iadd, 1) := by decide +kernel
theorem dX10_isPair_3 : decode cX10_isPair 3 = .ok (.aload_n 0, 1) := by decide +kernel
theorem dX10_isPair_4 : decode cX10_isPair 4 = .ok (.getfield 175, 3) := by decide +kernel
theorem dX10_isPair_7 : decode cX10_isPair 7 = .ok (.if_icmp .ge 29, 3) := by decide +kernel
theorem dX10_isPair_10 : decode cX10_isPair 10 = .ok (.aload_n 0, 1) := by decide +kernel
theorem dX10_isPair_11 : decode cX10_isPair 11 = .ok (.getfield 58, 3) := by decide +kernel
theorem dX10_isPair_14 : decode cX10_isPair 14 = .ok (.iload_n 1, 1) := by decide +kernel
theorem dX10_isPair_15 : decode cX10_isPair 15 = .ok (.iaload, 1) := by decide +kernel
theorem dX10_isPair_16 : decode cX10_isPair 16 = .ok (.iload_n 2, 1) := by decide +kernel
theorem dX10_isPair_17 : decode cX10_isPair 17 = .ok (.if_icmp .ne 19, 3) := by decide +kernel
theorem dX10_isPair_20 : decode cX10_isPair 20 = .ok (.aload_n 0, 1) := by decide +kernel
theorem dX10_isPair_21 : decode cX10_isPair 21 = .ok (.getfield 58, 3) := by decide +kernel
theorem dX10_isPair_24 : decode cX10_isPair 24 = .ok (.iload_n 1, 1) := by decide +kernel
theorem dX10_isPair_25 : decode cX10_isPair 25 = .ok (.iconst 1, 1) := by decide +kernel
theorem dX10_isPair_26 : decode cX10_isPair 26 = .ok (.iadd, 1) := by decide +kernel
theorem dX10_isPair_27 : decode cX10_isPair 27 = .ok (.iaload, 1) := by decide +kernel
theorem dX10_isPair_28 : decode cX10_isPair 28 = .ok (.iload_n 3, 1) := by decide +kernel
theorem dX10_isPair_29 : decode cX10_isPair 29 = .ok (.if_icmp .ne 7, 3) := by decide +kernel
theorem dX10_isPair_32 : decode cX10_isPair 32 = .ok (.iconst 1, 1) := by decide +kernel
theorem dX10_isPair_33 : decode cX10_isPair 33 = .ok (.goto 4, 3) := by decide +kernel
theorem dX10_isPair_36 : decode cX10_isPair 36 = .ok (.iconst 0, 1) := by decide +kernel
theorem dX10_isPair_37 : decode cX10_isPair 37 = .ok (.ireturn, 1) := by decide +kernel
theorem dX10_cuts_0 : decode cX10_cuts 0 = .ok (.iload_n 3, 1) := by decide +kernel
theorem dX10_cuts_1 : decode cX10_cuts 1 = .ok (.ifCond .ge 7, 3) := by decide +kernel
theorem dX10_cuts_4 : decode cX10_cuts 4 = .ok (.iconst 0, 1) := by decide +kernel
theorem dX10_cuts_5 : decode cX10_cuts 5 = .ok (.goto 13, 3) := by decide +kernel
theorem dX10_cuts_8 : decode cX10_cuts 8 = .ok (.iload 4, 2) := by decide +kernel
theorem dX10_cuts_10 : decode cX10_cuts 10 = .ok (.ifCond .ge 7, 3) := by decide +kernel
theorem dX10_cuts_13 : decode cX10_cuts 13 = .ok (.iconst 1, 1) := by decide +kernel
theorem dX10_cuts_14 : decode cX10_cuts 14 = .ok (.goto 4, 3) := by decide +kernel
theorem dX10_cuts_17 : decode cX10_cuts 17 = .ok (.iconst 2, 1) := by decide +kernel
theorem dX10_cuts_18 : decode cX10_cuts 18 = .ok (.istore 5, 2) := by decide +kernel
theorem dX10_cuts_20 : decode cX10_cuts 20 = .ok (.iload_n 1, 1) := by decide +kernel
theorem dX10_cuts_21 : decode cX10_cuts 21 = .ok (.iload_n 2, 1) := by decide +kernel
theorem dX10_cuts_22 : decode cX10_cuts 22 = .ok (.iadd, 1) := by decide +kernel
theorem dX10_cuts_23 : decode cX10_cuts 23 = .ok (.istore 6, 2) := by decide +kernel
theorem dX10_cuts_25 : decode cX10_cuts 25 = .ok (.iload 6, 2) := by decide +kernel
theorem dX10_cuts_27 : decode cX10_cuts 27 = .ok (.aload_n 0, 1) := by decide +kernel
theorem dX10_cuts_28 : decode cX10_cuts 28 = .ok (.getfield 175, 3) := by decide +kernel
theorem dX10_cuts_31 : decode cX10_cuts 31 = .ok (.if_icmp .ge 28, 3) := by decide +kernel
theorem dX10_cuts_34 : decode cX10_cuts 34 = .ok (.aload_n 0, 1) := by decide +kernel
theorem dX10_cuts_35 : decode cX10_cuts 35 = .ok (.getfield 58, 3) := by decide +kernel
theorem dX10_cuts_38 : decode cX10_cuts 38 = .ok (.iload 6, 2) := by decide +kernel
theorem dX10_cuts_40 : decode cX10_cuts 40 = .ok (.iload_n 2, 1) := by decide +kernel
theorem dX10_cuts_41 : decode cX10_cuts 41 = .ok (.isub, 1) := by decide +kernel
theorem dX10_cuts_42 : decode cX10_cuts 42 = .ok (.iload 5, 2) := by decide +kernel
theorem dX10_cuts_44 : decode cX10_cuts 44 = .ok (.iadd, 1) := by decide +kernel
theorem dX10_cuts_45 : decode cX10_cuts 45 = .ok (.aload_n 0, 1) := by decide +kernel
theorem dX10_cuts_46 : decode cX10_cuts 46 = .ok (.getfield 58, 3) := by decide +kernel
theorem dX10_cuts_49 : decode cX10_cuts 49 = .ok (.iload 6, 2) := by decide +kernel
theorem dX10_cuts_51 : decode cX10_cuts 51 = .ok (.iaload, 1) := by decide +kernel
theorem dX10_cuts_52 : decode cX10_cuts 52 = .ok (.iastore, 1) := by decide +kernel
theorem dX10_cuts_53 : decode cX10_cuts 53 = .ok (.iinc 6 1, 3) := by decide +kernel
theorem dX10_cuts_56 : decode cX10_cuts 56 = .ok (.goto (-31), 3) := by decide +kernel
theorem dX10_cuts_59 : decode cX10_cuts 59 = .ok (.aload_n 0, 1) := by decide +kernel
theorem dX10_cuts_60 : decode cX10_cuts 60 = .ok (.dup, 1) := by decide +kernel
theorem dX10_cuts_61 : decode cX10_cuts 61 = .ok (.getfield 175, 3) := by decide +kernel
theorem dX10_cuts_64 : decode cX10_cuts 64 = .ok (.iload 5, 2) := by decide +kernel
theorem dX10_cuts_66 : decode cX10_cuts 66 = .ok (.iload_n 2, 1) := by decide +kernel
theorem dX10_cuts_67 : decode cX10_cuts 67 = .ok (.isub, 1) := by decide +kernel
theorem dX10_cuts_68 : decode cX10_cuts 68 = .ok (.iadd, 1) := by decide +kernel
theorem dX10_cuts_69 : decode cX10_cuts 69 = .ok (.putfield 175, 3) := by decide +kernel
theorem dX10_cuts_72 : decode cX10_cuts 72 = .ok (.iload 5, 2) := by decide +kernel
theorem dX10_cuts_74 : decode cX10_cuts 74 = .ok (.ifCond .le 10, 3) := by decide +kernel
theorem dX10_cuts_77 : decode cX10_cuts 77 = .ok (.aload_n 0, 1) := by decide +kernel
theorem dX10_cuts_78 : decode cX10_cuts 78 = .ok (.getfield 58, 3) := by decide +kernel
theorem dX10_cuts_81 : decode cX10_cuts 81 = .ok (.iload_n 1, 1) := by decide +kernel
theorem dX10_cuts_82 : decode cX10_cuts 82 = .ok (.iload_n 3, 1) := by decide +kernel
theorem dX10_cuts_83 : decode cX10_cuts 83 = .ok (.iastore, 1) := by decide +kernel
theorem dX10_cuts_84 : decode cX10_cuts 84 = .ok (.iload 5, 2) := by decide +kernel
theorem dX10_cuts_86 : decode cX10_cuts 86 = .ok (.iconst 1, 1) := by decide +kernel
theorem dX10_cuts_87 : decode cX10_cuts 87 = .ok (.if_icmp .le 13, 3) := by decide +kernel
theorem dX10_cuts_90 : decode cX10_cuts 90 = .ok (.aload_n 0, 1) := by decide +kernel
theorem dX10_cuts_91 : decode cX10_cuts 91 = .ok (.getfield 58, 3) := by decide +kernel
theorem dX10_cuts_94 : decode cX10_cuts 94 = .ok (.iload_n 1, 1) := by decide +kernel
theorem dX10_cuts_95 : decode cX10_cuts 95 = .ok (.iconst 1, 1) := by decide +kernel
theorem dX10_cuts_96 : decode cX10_cuts 96 = .ok (.iadd, 1) := by decide +kernel
theorem dX10_cuts_97 : decode cX10_cuts 97 = .ok (.iload 4, 2) := by decide +kernel
theorem dX10_cuts_99 : decode cX10_cuts 99 = .ok (.iastore, 1) := by decide +kernel
theorem dX10_cuts_100 : decode cX10_cuts 100 = .ok (.return_, 1) := by decide +kernel
theorem dX10_isRuled_0 : decode cX10_isRuled 0 = .ok (.aload_n 0, 1) := by decide +kernel
theorem dX10_isRuled_1 : decode cX10_isRuled 1 = .ok (.iload_n 1, 1) := by decide +kernel
theorem dX10_isRuled_2 : decode cX10_isRuled 2 = .ok (.iconst 0, 1) := by decide +kernel
theorem dX10_isRuled_3 : decode cX10_isRuled 3 = .ok (.iconst 0, 1) := by decide +kernel
theorem dX10_isRuled_4 : decode cX10_isRuled 4 = .ok (.invokevirtual 200, 3) := by decide +kernel
theorem dX10_isRuled_7 : decode cX10_isRuled 7 = .ok (.ifCond .ne 45, 3) := by decide +kernel
theorem dX10_isRuled_10 : decode cX10_isRuled 10 = .ok (.aload_n 0, 1) := by decide +kernel
theorem dX10_isRuled_11 : decode cX10_isRuled 11 = .ok (.iload_n 1, 1) := by decide +kernel
theorem dX10_isRuled_12 : decode cX10_isRuled 12 = .ok (.iconst 3, 1) := by decide +kernel
theorem dX10_isRuled_13 : decode cX10_isRuled 13 = .ok (.iconst 3, 1) := by decide +kernel
theorem dX10_isRuled_14 : decode cX10_isRuled 14 = .ok (.invokevirtual 200, 3) := by decide +kernel
theorem dX10_isRuled_17 : decode cX10_isRuled 17 = .ok (.ifCond .ne 35, 3) := by decide +kernel
theorem dX10_isRuled_20 : decode cX10_isRuled 20 = .ok (.aload_n 0, 1) := by decide +kernel
theorem dX10_isRuled_21 : decode cX10_isRuled 21 = .ok (.iload_n 1, 1) := by decide +kernel
theorem dX10_isRuled_22 : decode cX10_isRuled 22 = .ok (.iconst 4, 1) := by decide +kernel
theorem dX10_isRuled_23 : decode cX10_isRuled 23 = .ok (.iconst 4, 1) := by decide +kernel
theorem dX10_isRuled_24 : decode cX10_isRuled 24 = .ok (.invokevirtual 200, 3) := by decide +kernel
theorem dX10_isRuled_27 : decode cX10_isRuled 27 = .ok (.ifCond .ne 25, 3) := by decide +kernel
theorem dX10_isRuled_30 : decode cX10_isRuled 30 = .ok (.aload_n 0, 1) := by decide +kernel
theorem dX10_isRuled_31 : decode cX10_isRuled 31 = .ok (.iload_n 1, 1) := by decide +kernel
theorem dX10_isRuled_32 : decode cX10_isRuled 32 = .ok (.iconst 1, 1) := by decide +kernel
theorem dX10_isRuled_33 : decode cX10_isRuled 33 = .ok (.bipush 6, 2) := by decide +kernel
theorem dX10_isRuled_35 : decode cX10_isRuled 35 = .ok (.invokevirtual 200, 3) := by decide +kernel
theorem dX10_isRuled_38 : decode cX10_isRuled 38 = .ok (.ifCond .ne 14, 3) := by decide +kernel
theorem dX10_isRuled_41 : decode cX10_isRuled 41 = .ok (.aload_n 0, 1) := by decide +kernel
theorem dX10_isRuled_42 : decode cX10_isRuled 42 = .ok (.iload_n 1, 1) := by decide +kernel
theorem dX10_isRuled_43 : decode cX10_isRuled 43 = .ok (.bipush 6, 2) := by decide +kernel
theorem dX10_isRuled_45 : decode cX10_isRuled 45 = .ok (.iconst 1, 1) := by decide +kernel
theorem dX10_isRuled_46 : decode cX10_isRuled 46 = .ok (.invokevirtual 200, 3) := by decide +kernel
theorem dX10_isRuled_49 : decode cX10_isRuled 49 = .ok (.ifCond .eq 15, 3) := by decide +kernel
theorem dX10_isRuled_52 : decode cX10_isRuled 52 = .ok (.aload_n 0, 1) := by decide +kernel
theorem dX10_isRuled_53 : decode cX10_isRuled 53 = .ok (.iload_n 1, 1) := by decide +kernel
theorem dX10_isRuled_54 : decode cX10_isRuled 54 = .ok (.iconst 2, 1) := by decide +kernel
theorem dX10_isRuled_55 : decode cX10_isRuled 55 = .ok (.bipush (-2), 2) := by decide +kernel
theorem dX10_isRuled_57 : decode cX10_isRuled 57 = .ok (.bipush (-2), 2) := by decide +kernel
theorem dX10_isRuled_59 : decode cX10_isRuled 59 = .ok (.invokevirtual 204, 3) := by decide +kernel
theorem dX10_isRuled_62 : decode cX10_isRuled 62 = .ok (.iconst 1, 1) := by decide +kernel
theorem dX10_isRuled_63 : decode cX10_isRuled 63 = .ok (.ireturn, 1) := by decide +kernel
theorem dX10_isRuled_64 : decode cX10_isRuled 64 = .ok (.iconst 0, 1) := by decide +kernel
theorem dX10_isRuled_65 : decode cX10_isRuled 65 = .ok (.istore_n 2, 1) := by decide +kernel
theorem dX10_isRuled_66 : decode cX10_isRuled 66 = .ok (.iload_n 2, 1) := by decide +kernel
theorem dX10_isRuled_67 : decode cX10_isRuled 67 = .ok (.bipush 8, 2) := by decide +kernel
theorem dX10_isRuled_69 : decode cX10_isRuled 69 = .ok (.if_icmp .ge 31, 3) := by decide +kernel
theorem dX10_isRuled_72 : decode cX10_isRuled 72 = .ok (.iload_n 1, 1) := by decide +kernel
theorem dX10_isRuled_73 : decode cX10_isRuled 73 = .ok (.iload_n 2, 1) := by decide +kernel
theorem dX10_isRuled_74 : decode cX10_isRuled 74 = .ok (.iadd, 1) := by decide +kernel
theorem dX10_isRuled_75 : decode cX10_isRuled 75 = .ok (.aload_n 0, 1) := by decide +kernel
theorem dX10_isRuled_76 : decode cX10_isRuled 76 = .ok (.getfield 175, 3) := by decide +kernel
theorem dX10_isRuled_79 : decode cX10_isRuled 79 = .ok (.if_icmp .ge 21, 3) := by decide +kernel
theorem dX10_isRuled_82 : decode cX10_isRuled 82 = .ok (.aload_n 0, 1) := by decide +kernel
theorem dX10_isRuled_83 : decode cX10_isRuled 83 = .ok (.getfield 58, 3) := by decide +kernel
theorem dX10_isRuled_86 : decode cX10_isRuled 86 = .ok (.iload_n 1, 1) := by decide +kernel
theorem dX10_isRuled_87 : decode cX10_isRuled 87 = .ok (.iload_n 2, 1) := by decide +kernel
theorem dX10_isRuled_88 : decode cX10_isRuled 88 = .ok (.iadd, 1) := by decide +kernel
theorem dX10_isRuled_89 : decode cX10_isRuled 89 = .ok (.iaload, 1) := by decide +kernel
theorem dX10_isRuled_90 : decode cX10_isRuled 90 = .ok (.iconst 5, 1) := by decide +kernel
theorem dX10_isRuled_91 : decode cX10_isRuled 91 = .ok (.if_icmp .ne 9, 3) := by decide +kernel
theorem dX10_isRuled_94 : decode cX10_isRuled 94 = .ok (.iinc 2 1, 3) := by decide +kernel
theorem dX10_isRuled_97 : decode cX10_isRuled 97 = .ok (.goto (-31), 3) := by decide +kernel
theorem dX10_isRuled_100 : decode cX10_isRuled 100 = .ok (.iload_n 2, 1) := by decide +kernel
theorem dX10_isRuled_101 : decode cX10_isRuled 101 = .ok (.bipush 8, 2) := by decide +kernel
theorem dX10_isRuled_103 : decode cX10_isRuled 103 = .ok (.if_icmp .ne 16, 3) := by decide +kernel
theorem dX10_isRuled_106 : decode cX10_isRuled 106 = .ok (.aload_n 0, 1) := by decide +kernel
theorem dX10_isRuled_107 : decode cX10_isRuled 107 = .ok (.iload_n 1, 1) := by decide +kernel
theorem dX10_isRuled_108 : decode cX10_isRuled 108 = .ok (.bipush 8, 2) := by decide +kernel
theorem dX10_isRuled_110 : decode cX10_isRuled 110 = .ok (.bipush (-2), 2) := by decide +kernel
theorem dX10_isRuled_112 : decode cX10_isRuled 112 = .ok (.bipush (-2), 2) := by decide +kernel
theorem dX10_isRuled_114 : decode cX10_isRuled 114 = .ok (.invokevirtual 204, 3) := by decide +kernel
theorem dX10_isRuled_117 : decode cX10_isRuled 117 = .ok (.iconst 1, 1) := by decide +kernel
theorem dX10_isRuled_118 : decode cX10_isRuled 118 = .ok (.ireturn, 1) := by decide +kernel
theorem dX10_isRuled_119 : decode cX10_isRuled 119 = .ok (.aload_n 0, 1) := by decide +kernel
theorem dX10_isRuled_120 : decode cX10_isRuled 120 = .ok (.iload_n 1, 1) := by decide +kernel
theorem dX10_isRuled_121 : decode cX10_isRuled 121 = .ok (.iconst 1, 1) := by decide +kernel
theorem dX10_isRuled_122 : decode cX10_isRuled 122 = .ok (.iconst 1, 1) := by decide +kernel
theorem dX10_isRuled_123 : decode cX10_isRuled 123 = .ok (.invokevirtual 200, 3) := by decide +kernel
theorem dX10_isRuled_126 : decode cX10_isRuled 126 = .ok (.ifCond .eq 14, 3) := by decide +kernel
theorem dX10_isRuled_129 : decode cX10_isRuled 129 = .ok (.aload_n 0, 1) := by decide +kernel
theorem dX10_isRuled_130 : decode cX10_isRuled 130 = .ok (.iload_n 1, 1) := by decide +kernel
theorem dX10_isRuled_131 : decode cX10_isRuled 131 = .ok (.iconst 2, 1) := by decide +kernel
theorem dX10_isRuled_132 : decode cX10_isRuled 132 = .ok (.iconst 2, 1) := by decide +kernel
theorem dX10_isRuled_133 : decode cX10_isRuled 133 = .ok (.bipush (-2), 2) := by decide +kernel
theorem dX10_isRuled_135 : decode cX10_isRuled 135 = .ok (.invokevirtual 204, 3) := by decide +kernel
theorem dX10_isRuled_138 : decode cX10_isRuled 138 = .ok (.iconst 1, 1) := by decide +kernel
theorem dX10_isRuled_139 : decode cX10_isRuled 139 = .ok (.ireturn, 1) := by decide +kernel
theorem dX10_isRuled_140 : decode cX10_isRuled 140 = .ok (.aload_n 0, 1) := by decide +kernel
theorem dX10_isRuled_141 : decode cX10_isRuled 141 = .ok (.iload_n 1, 1) := by decide +kernel
theorem dX10_isRuled_142 : decode cX10_isRuled 142 = .ok (.bipush 6, 2) := by decide +kernel
theorem dX10_isRuled_144 : decode cX10_isRuled 144 = .ok (.bipush 6, 2) := by decide +kernel
theorem dX10_isRuled_146 : decode cX10_isRuled 146 = .ok (.invokevirtual 200, 3) := by decide +kernel
theorem dX10_isRuled_149 : decode cX10_isRuled 149 = .ok (.ifCond .eq 13, 3) := by decide +kernel
theorem dX10_isRuled_152 : decode cX10_isRuled 152 = .ok (.aload_n 0, 1) := by decide +kernel
theorem dX10_isRuled_153 : decode cX10_isRuled 153 = .ok (.iload_n 1, 1) := by decide +kernel
theorem dX10_isRuled_154 : decode cX10_isRuled 154 = .ok (.iconst 2, 1) := by decide +kernel
theorem dX10_isRuled_155 : decode cX10_isRuled 155 = .ok (.iconst 2, 1) := by decide +kernel
theorem dX10_isRuled_156 : decode cX10_isRuled 156 = .ok (.iconst 4, 1) := by decide +kernel
theorem dX10_isRuled_157 : decode cX10_isRuled 157 = .ok (.invokevirtual 204, 3) := by decide +kernel
theorem dX10_isRuled_160 : decode cX10_isRuled 160 = .ok (.iconst 1, 1) := by decide +kernel
theorem dX10_isRuled_161 : decode cX10_isRuled 161 = .ok (.ireturn, 1) := by decide +kernel
theorem dX10_isRuled_162 : decode cX10_isRuled 162 = .ok (.aload_n 0, 1) := by decide +kernel
theorem dX10_isRuled_163 : decode cX10_isRuled 163 = .ok (.iload_n 1, 1) := by decide +kernel
theorem dX10_isRuled_164 : decode cX10_isRuled 164 = .ok (.iconst 2, 1) := by decide +kernel
theorem dX10_isRuled_165 : decode cX10_isRuled 165 = .ok (.iconst 2, 1) := by decide +kernel
theorem dX10_isRuled_166 : decode cX10_isRuled 166 = .ok (.invokevirtual 200, 3) := by decide +kernel
theorem dX10_isRuled_169 : decode cX10_isRuled 169 = .ok (.ifCond .eq 14, 3) := by decide +kernel
theorem dX10_isRuled_172 : decode cX10_isRuled 172 = .ok (.aload_n 0, 1) := by decide +kernel
theorem dX10_isRuled_173 : decode cX10_isRuled 173 = .ok (.iload_n 1, 1) := by decide +kernel
theorem dX10_isRuled_174 : decode cX10_isRuled 174 = .ok (.iconst 2, 1) := by decide +kernel
theorem dX10_isRuled_175 : decode cX10_isRuled 175 = .ok (.iconst 4, 1) := by decide +kernel
theorem dX10_isRuled_176 : decode cX10_isRuled 176 = .ok (.bipush (-2), 2) := by decide +kernel
theorem dX10_isRuled_178 : decode cX10_isRuled 178 = .ok (.invokevirtual 204, 3) := by decide +kernel
theorem dX10_isRuled_181 : decode cX10_isRuled 181 = .ok (.iconst 1, 1) := by decide +kernel
theorem dX10_isRuled_182 : decode cX10_isRuled 182 = .ok (.ireturn, 1) := by decide +kernel
theorem dX10_isRuled_183 : decode cX10_isRuled 183 = .ok (.aload_n 0, 1) := by decide +kernel
theorem dX10_isRuled_184 : decode cX10_isRuled 184 = .ok (.iload_n 1, 1) := by decide +kernel
theorem dX10_isRuled_185 : decode cX10_isRuled 185 = .ok (.iconst 2, 1) := by decide +kernel
theorem dX10_isRuled_186 : decode cX10_isRuled 186 = .ok (.bipush 6, 2) := by decide +kernel
theorem dX10_isRuled_188 : decode cX10_isRuled 188 = .ok (.invokevirtual 200, 3) := by decide +kernel
theorem dX10_isRuled_191 : decode cX10_isRuled 191 = .ok (.ifCond .ne 14, 3) := by decide +kernel
theorem dX10_isRuled_194 : decode cX10_isRuled 194 = .ok (.aload_n 0, 1) := by decide +kernel
theorem dX10_isRuled_195 : decode cX10_isRuled 195 = .ok (.iload_n 1, 1) := by decide +kernel
theorem dX10_isRuled_196 : decode cX10_isRuled 196 = .ok (.bipush 6, 2) := by decide +kernel
theorem dX10_isRuled_198 : decode cX10_isRuled 198 = .ok (.iconst 2, 1) := by decide +kernel
theorem dX10_isRuled_199 : decode cX10_isRuled 199 = .ok (.invokevirtual 200, 3) := by decide +kernel
theorem dX10_isRuled_202 : decode cX10_isRuled 202 = .ok (.ifCond .eq 14, 3) := by decide +kernel
theorem dX10_isRuled_205 : decode cX10_isRuled 205 = .ok (.aload_n 0, 1) := by decide +kernel
theorem dX10_isRuled_206 : decode cX10_isRuled 206 = .ok (.iload_n 1, 1) := by decide +kernel
theorem dX10_isRuled_207 : decode cX10_isRuled 207 = .ok (.iconst 2, 1) := by decide +kernel
theorem dX10_isRuled_208 : decode cX10_isRuled 208 = .ok (.iconst 1, 1) := by decide +kernel
theorem dX10_isRuled_209 : decode cX10_isRuled 209 = .ok (.bipush (-2), 2) := by decide +kernel
theorem dX10_isRuled_211 : decode cX10_isRuled 211 = .ok (.invokevirtual 204, 3) := by decide +kernel
theorem dX10_isRuled_214 : decode cX10_isRuled 214 = .ok (.iconst 1, 1) := by decide +kernel
theorem dX10_isRuled_215 : decode cX10_isRuled 215 = .ok (.ireturn, 1) := by decide +kernel
theorem dX10_isRuled_216 : decode cX10_isRuled 216 = .ok (.iconst 0, 1) := by decide +kernel
theorem dX10_isRuled_217 : decode cX10_isRuled 217 = .ok (.ireturn, 1) := by decide +kernel
theorem dX10_shorter_0 : decode cX10_shorter 0 = .ok (.iload_n 1, 1) := by decide +kernel
theorem dX10_shorter_1 : decode cX10_shorter 1 = .ok (.invokestatic 187, 3) := by decide +kernel
theorem dX10_shorter_4 : decode cX10_shorter 4 = .ok (.ifCond .ne 5, 3) := by decide +kernel
theorem dX10_shorter_7 : decode cX10_shorter 7 = .ok (.iconst (-1), 1) := by decide +kernel
theorem dX10_shorter_8 : decode cX10_shorter 8 = .ok (.ireturn, 1) := by decide +kernel
theorem dX10_shorter_9 : decode cX10_shorter 9 = .ok (.aload_n 0, 1) := by decide +kernel
theorem dX10_shorter_10 : decode cX10_shorter 10 = .ok (.iload_n 1, 1) := by decide +kernel
theorem dX10_shorter_11 : decode cX10_shorter 11 = .ok (.invokevirtual 190, 3) := by decide +kernel
theorem dX10_shorter_14 : decode cX10_shorter 14 = .ok (.iconst 0, 1) := by decide +kernel
theorem dX10_shorter_15 : decode cX10_shorter 15 = .ok (.istore_n 2, 1) := by decide +kernel
theorem dX10_shorter_16 : decode cX10_shorter 16 = .ok (.iload_n 2, 1) := by decide +kernel
theorem dX10_shorter_17 : decode cX10_shorter 17 = .ok (.aload_n 0, 1) := by decide +kernel
theorem dX10_shorter_18 : decode cX10_shorter 18 = .ok (.getfield 175, 3) := by decide +kernel
theorem dX10_shorter_21 : decode cX10_shorter 21 = .ok (.if_icmp .ge 22, 3) := by decide +kernel
theorem dX10_shorter_24 : decode cX10_shorter 24 = .ok (.aload_n 0, 1) := by decide +kernel
theorem dX10_shorter_25 : decode cX10_shorter 25 = .ok (.iload_n 2, 1) := by decide +kernel
theorem dX10_shorter_26 : decode cX10_shorter 26 = .ok (.invokevirtual 208, 3) := by decide +kernel
theorem dX10_shorter_29 : decode cX10_shorter 29 = .ok (.ifCond .eq 7, 3) := by decide +kernel
theorem dX10_shorter_32 : decode cX10_shorter 32 = .ok (.iconst 0, 1) := by decide +kernel
theorem dX10_shorter_33 : decode cX10_shorter 33 = .ok (.goto 6, 3) := by decide +kernel
theorem dX10_shorter_36 : decode cX10_shorter 36 = .ok (.iload_n 2, 1) := by decide +kernel
theorem dX10_shorter_37 : decode cX10_shorter 37 = .ok (.iconst 1, 1) := by decide +kernel
theorem dX10_shorter_38 : decode cX10_shorter 38 = .ok (.iadd, 1) := by decide +kernel
theorem dX10_shorter_39 : decode cX10_shorter 39 = .ok (.istore_n 2, 1) := by decide +kernel
theorem dX10_shorter_40 : decode cX10_shorter 40 = .ok (.goto (-24), 3) := by decide +kernel
theorem dX10_shorter_43 : decode cX10_shorter 43 = .ok (.aload_n 0, 1) := by decide +kernel
theorem dX10_shorter_44 : decode cX10_shorter 44 = .ok (.iload_n 1, 1) := by decide +kernel
theorem dX10_shorter_45 : decode cX10_shorter 45 = .ok (.invokevirtual 193, 3) := by decide +kernel
theorem dX10_shorter_48 : decode cX10_shorter 48 = .ok (.ireturn, 1) := by decide +kernel
theorem dX10_isLess_0 : decode cX10_isLess 0 = .ok (.aload_n 0, 1) := by decide +kernel
theorem dX10_isLess_1 : decode cX10_isLess 1 = .ok (.bipush 18, 2) := by decide +kernel
theorem dX10_isLess_3 : decode cX10_isLess 3 = .ok (.bipush 15, 2) := by decide +kernel
theorem dX10_isLess_5 : decode cX10_isLess 5 = .ok (.invokevirtual 83, 3) := by decide +kernel
theorem dX10_isLess_8 : decode cX10_isLess 8 = .ok (.iload_n 1, 1) := by decide +kernel
theorem dX10_isLess_9 : decode cX10_isLess 9 = .ok (.istore_n 3, 1) := by decide +kernel
theorem dX10_isLess_10 : decode cX10_isLess 10 = .ok (.iload_n 3, 1) := by decide +kernel
theorem dX10_isLess_11 : decode cX10_isLess 11 = .ok (.ifCond .lt 46, 3) := by decide +kernel
theorem dX10_isLess_14 : decode cX10_isLess 14 = .ok (.aload_n 0, 1) := by decide +kernel
theorem dX10_isLess_15 : decode cX10_isLess 15 = .ok (.iconst 4, 1) := by decide +kernel
theorem dX10_isLess_16 : decode cX10_isLess 16 = .ok (.iload_n 3, 1) := by decide +kernel
theorem dX10_isLess_17 : decode cX10_isLess 17 = .ok (.iconst 2, 1) := by decide +kernel
theorem dX10_isLess_18 : decode cX10_isLess 18 = .ok (.if_icmp .ne 7, 3) := by decide +kernel
theorem dX10_isLess_21 : decode cX10_isLess 21 = .ok (.iconst 2, 1) := by decide +kernel
theorem dX10_isLess_22 : decode cX10_isLess 22 = .ok (.goto 13, 3) := by decide +kernel
theorem dX10_isLess_25 : decode cX10_isLess 25 = .ok (.iload_n 3, 1) := by decide +kernel
theorem dX10_isLess_26 : decode cX10_isLess 26 = .ok (.iconst 1, 1) := by decide +kernel
theorem dX10_isLess_27 : decode cX10_isLess 27 = .ok (.if_icmp .ne 7, 3) := by decide +kernel
theorem dX10_isLess_30 : decode cX10_isLess 30 = .ok (.iconst 0, 1) := by decide +kernel
theorem dX10_isLess_31 : decode cX10_isLess 31 = .ok (.goto 4, 3) := by decide +kernel
theorem dX10_isLess_34 : decode cX10_isLess 34 = .ok (.iconst 1, 1) := by decide +kernel
theorem dX10_isLess_35 : decode cX10_isLess 35 = .ok (.iadd, 1) := by decide +kernel
theorem dX10_isLess_36 : decode cX10_isLess 36 = .ok (.bipush 16, 2) := by decide +kernel
theorem dX10_isLess_38 : decode cX10_isLess 38 = .ok (.invokevirtual 138, 3) := by decide +kernel
theorem dX10_isLess_41 : decode cX10_isLess 41 = .ok (.aload_n 0, 1) := by decide +kernel
theorem dX10_isLess_42 : decode cX10_isLess 42 = .ok (.bipush 15, 2) := by decide +kernel
theorem dX10_isLess_44 : decode cX10_isLess 44 = .ok (.bipush 16, 2) := by decide +kernel
theorem dX10_isLess_46 : decode cX10_isLess 46 = .ok (.bipush 15, 2) := by decide +kernel
theorem dX10_isLess_48 : decode cX10_isLess 48 = .ok (.invokevirtual 132, 3) := by decide +kernel
theorem dX10_isLess_51 : decode cX10_isLess 51 = .ok (.iinc 3 (-1), 3) := by decide +kernel
theorem dX10_isLess_54 : decode cX10_isLess 54 = .ok (.goto (-44), 3) := by decide +kernel
theorem dX10_isLess_57 : decode cX10_isLess 57 = .ok (.aload_n 0, 1) := by decide +kernel
theorem dX10_isLess_58 : decode cX10_isLess 58 = .ok (.bipush 15, 2) := by decide +kernel
theorem dX10_isLess_60 : decode cX10_isLess 60 = .ok (.invokevirtual 147, 3) := by decide +kernel
theorem dX10_isLess_63 : decode cX10_isLess 63 = .ok (.iload_n 2, 1) := by decide +kernel
theorem dX10_isLess_64 : decode cX10_isLess 64 = .ok (.iconst 1, 1) := by decide +kernel
theorem dX10_isLess_65 : decode cX10_isLess 65 = .ok (.isub, 1) := by decide +kernel
theorem dX10_isLess_66 : decode cX10_isLess 66 = .ok (.if_icmp .eq 5, 3) := by decide +kernel
theorem dX10_isLess_69 : decode cX10_isLess 69 = .ok (.iconst 0, 1) := by decide +kernel
theorem dX10_isLess_70 : decode cX10_isLess 70 = .ok (.ireturn, 1) := by decide +kernel
theorem dX10_isLess_71 : decode cX10_isLess 71 = .ok (.aload_n 0, 1) := by decide +kernel
theorem dX10_isLess_72 : decode cX10_isLess 72 = .ok (.bipush 15, 2) := by decide +kernel
theorem dX10_isLess_74 : decode cX10_isLess 74 = .ok (.bipush 18, 2) := by decide +kernel
theorem dX10_isLess_76 : decode cX10_isLess 76 = .ok (.invokevirtual 83, 3) := by decide +kernel
theorem dX10_isLess_79 : decode cX10_isLess 79 = .ok (.iload_n 1, 1) := by decide +kernel
theorem dX10_isLess_80 : decode cX10_isLess 80 = .ok (.istore_n 3, 1) := by decide +kernel
theorem dX10_isLess_81 : decode cX10_isLess 81 = .ok (.iload_n 3, 1) := by decide +kernel
theorem dX10_isLess_82 : decode cX10_isLess 82 = .ok (.ifCond .lt 56, 3) := by decide +kernel
theorem dX10_isLess_85 : decode cX10_isLess 85 = .ok (.aload_n 0, 1) := by decide +kernel
theorem dX10_isLess_86 : decode cX10_isLess 86 = .ok (.getfield 175, 3) := by decide +kernel
theorem dX10_isLess_89 : decode cX10_isLess 89 = .ok (.bipush 60, 2) := by decide +kernel
theorem dX10_isLess_91 : decode cX10_isLess 91 = .ok (.if_icmp .gt 47, 3) := by decide +kernel
theorem dX10_isLess_94 : decode cX10_isLess 94 = .ok (.aload_n 0, 1) := by decide +kernel
theorem dX10_isLess_95 : decode cX10_isLess 95 = .ok (.getfield 58, 3) := by decide +kernel
theorem dX10_isLess_98 : decode cX10_isLess 98 = .ok (.aload_n 0, 1) := by decide +kernel
theorem dX10_isLess_99 : decode cX10_isLess 99 = .ok (.getfield 175, 3) := by decide +kernel
theorem dX10_isLess_102 : decode cX10_isLess 102 = .ok (.iload_n 3, 1) := by decide +kernel
theorem dX10_isLess_103 : decode cX10_isLess 103 = .ok (.iconst 2, 1) := by decide +kernel
theorem dX10_isLess_104 : decode cX10_isLess 104 = .ok (.if_icmp .ne 7, 3) := by decide +kernel
theorem dX10_isLess_107 : decode cX10_isLess 107 = .ok (.iconst 2, 1) := by decide +kernel
theorem dX10_isLess_108 : decode cX10_isLess 108 = .ok (.goto 13, 3) := by decide +kernel
theorem dX10_isLess_111 : decode cX10_isLess 111 = .ok (.iload_n 3, 1) := by decide +kernel
theorem dX10_isLess_112 : decode cX10_isLess 112 = .ok (.iconst 1, 1) := by decide +kernel
theorem dX10_isLess_113 : decode cX10_isLess 113 = .ok (.if_icmp .ne 7, 3) := by decide +kernel
theorem dX10_isLess_116 : decode cX10_isLess 116 = .ok (.iconst 0, 1) := by decide +kernel
theorem dX10_isLess_117 : decode cX10_isLess 117 = .ok (.goto 4, 3) := by decide +kernel
theorem dX10_isLess_120 : decode cX10_isLess 120 = .ok (.iconst 1, 1) := by decide +kernel
theorem dX10_isLess_121 : decode cX10_isLess 121 = .ok (.iastore, 1) := by decide +kernel
theorem dX10_isLess_122 : decode cX10_isLess 122 = .ok (.aload_n 0, 1) := by decide +kernel
theorem dX10_isLess_123 : decode cX10_isLess 123 = .ok (.dup, 1) := by decide +kernel
theorem dX10_isLess_124 : decode cX10_isLess 124 = .ok (.getfield 175, 3) := by decide +kernel
theorem dX10_isLess_127 : decode cX10_isLess 127 = .ok (.iconst 1, 1) := by decide +kernel
theorem dX10_isLess_128 : decode cX10_isLess 128 = .ok (.iadd, 1) := by decide +kernel
theorem dX10_isLess_129 : decode cX10_isLess 129 = .ok (.putfield 175, 3) := by decide +kernel
theorem dX10_isLess_132 : decode cX10_isLess 132 = .ok (.iinc 3 (-1), 3) := by decide +kernel
theorem dX10_isLess_135 : decode cX10_isLess 135 = .ok (.goto (-54), 3) := by decide +kernel
theorem dX10_isLess_138 : decode cX10_isLess 138 = .ok (.iconst 1, 1) := by decide +kernel
theorem dX10_isLess_139 : decode cX10_isLess 139 = .ok (.ireturn, 1) := by decide +kernel
theorem dX10_normal_0 : decode cX10_normal 0 = .ok (.iload_n 1, 1) := by decide +kernel
theorem dX10_normal_1 : decode cX10_normal 1 = .ok (.invokestatic 187, 3) := by decide +kernel
theorem dX10_normal_4 : decode cX10_normal 4 = .ok (.ifCond .eq 10, 3) := by decide +kernel
theorem dX10_normal_7 : decode cX10_normal 7 = .ok (.iload_n 2, 1) := by decide +kernel
theorem dX10_normal_8 : decode cX10_normal 8 = .ok (.invokestatic 126, 3) := by decide +kernel
theorem dX10_normal_11 : decode cX10_normal 11 = .ok (.ifCond .ne 5, 3) := by decide +kernel
theorem dX10_normal_14 : decode cX10_normal 14 = .ok (.iconst (-1), 1) := by decide +kernel
theorem dX10_normal_15 : decode cX10_normal 15 = .ok (.ireturn, 1) := by decide +kernel
theorem dX10_normal_16 : decode cX10_normal 16 = .ok (.aload_n 0, 1) := by decide +kernel
theorem dX10_normal_17 : decode cX10_normal 17 = .ok (.iconst 0, 1) := by decide +kernel
theorem dX10_normal_18 : decode cX10_normal 18 = .ok (.putfield 175, 3) := by decide +kernel
theorem dX10_normal_21 : decode cX10_normal 21 = .ok (.aload_n 0, 1) := by decide +kernel
theorem dX10_normal_22 : decode cX10_normal 22 = .ok (.iload_n 2, 1) := by decide +kernel
theorem dX10_normal_23 : decode cX10_normal 23 = .ok (.bipush 18, 2) := by decide +kernel
theorem dX10_normal_25 : decode cX10_normal 25 = .ok (.invokevirtual 83, 3) := by decide +kernel
theorem dX10_normal_28 : decode cX10_normal 28 = .ok (.aload_n 0, 1) := by decide +kernel
theorem dX10_normal_29 : decode cX10_normal 29 = .ok (.bipush 18, 2) := by decide +kernel
theorem dX10_normal_31 : decode cX10_normal 31 = .ok (.invokevirtual 147, 3) := by decide +kernel
theorem dX10_normal_34 : decode cX10_normal 34 = .ok (.istore_n 3, 1) := by decide +kernel
theorem dX10_normal_35 : decode cX10_normal 35 = .ok (.iload_n 3, 1) := by decide +kernel
theorem dX10_normal_36 : decode cX10_normal 36 = .ok (.ifCond .le 52, 3) := by decide +kernel
theorem dX10_normal_39 : decode cX10_normal 39 = .ok (.aload_n 0, 1) := by decide +kernel
theorem dX10_normal_40 : decode cX10_normal 40 = .ok (.getfield 175, 3) := by decide +kernel
theorem dX10_normal_43 : decode cX10_normal 43 = .ok (.bipush 60, 2) := by decide +kernel
theorem dX10_normal_45 : decode cX10_normal 45 = .ok (.if_icmp .gt 43, 3) := by decide +kernel
theorem dX10_normal_48 : decode cX10_normal 48 = .ok (.aload_n 0, 1) := by decide +kernel
theorem dX10_normal_49 : decode cX10_normal 49 = .ok (.iconst 0, 1) := by decide +kernel
theorem dX10_normal_50 : decode cX10_normal 50 = .ok (.iload_n 3, 1) := by decide +kernel
theorem dX10_normal_51 : decode cX10_normal 51 = .ok (.invokevirtual 211, 3) := by decide +kernel
theorem dX10_normal_54 : decode cX10_normal 54 = .ok (.ifCond .ne 21, 3) := by decide +kernel
theorem dX10_normal_57 : decode cX10_normal 57 = .ok (.aload_n 0, 1) := by decide +kernel
theorem dX10_normal_58 : decode cX10_normal 58 = .ok (.iconst 1, 1) := by decide +kernel
theorem dX10_normal_59 : decode cX10_normal 59 = .ok (.iload_n 3, 1) := by decide +kernel
theorem dX10_normal_60 : decode cX10_normal 60 = .ok (.invokevirtual 211, 3) := by decide +kernel
theorem dX10_normal_63 : decode cX10_normal 63 = .ok (.ifCond .ne 12, 3) := by decide +kernel
theorem dX10_normal_66 : decode cX10_normal 66 = .ok (.aload_n 0, 1) := by decide +kernel
theorem dX10_normal_67 : decode cX10_normal 67 = .ok (.iconst 2, 1) := by decide +kernel
theorem dX10_normal_68 : decode cX10_normal 68 = .ok (.iload_n 3, 1) := by decide +kernel
theorem dX10_normal_69 : decode cX10_normal 69 = .ok (.invokevirtual 211, 3) := by decide +kernel
theorem dX10_normal_72 : decode cX10_normal 72 = .ok (.ifCond .eq 7, 3) := by decide +kernel
theorem dX10_normal_75 : decode cX10_normal 75 = .ok (.iconst 1, 1) := by decide +kernel
theorem dX10_normal_76 : decode cX10_normal 76 = .ok (.goto 4, 3) := by decide +kernel
theorem dX10_normal_79 : decode cX10_normal 79 = .ok (.iconst 0, 1) := by decide +kernel
theorem dX10_normal_80 : decode cX10_normal 80 = .ok (.istore 4, 2) := by decide +kernel
theorem dX10_normal_82 : decode cX10_normal 82 = .ok (.iinc 3 (-1), 3) := by decide +kernel
theorem dX10_normal_85 : decode cX10_normal 85 = .ok (.goto (-50), 3) := by decide +kernel
theorem dX10_normal_88 : decode cX10_normal 88 = .ok (.aload_n 0, 1) := by decide +kernel
theorem dX10_normal_89 : decode cX10_normal 89 = .ok (.getfield 175, 3) := by decide +kernel
theorem dX10_normal_92 : decode cX10_normal 92 = .ok (.bipush 60, 2) := by decide +kernel
theorem dX10_normal_94 : decode cX10_normal 94 = .ok (.if_icmp .le 6, 3) := by decide +kernel
theorem dX10_normal_97 : decode cX10_normal 97 = .ok (.bipush (-3), 2) := by decide +kernel
theorem dX10_normal_99 : decode cX10_normal 99 = .ok (.ireturn, 1) := by decide +kernel
theorem dX10_normal_100 : decode cX10_normal 100 = .ok (.aload_n 0, 1) := by decide +kernel
theorem dX10_normal_101 : decode cX10_normal 101 = .ok (.aload_n 0, 1) := by decide +kernel
theorem dX10_normal_102 : decode cX10_normal 102 = .ok (.bipush 18, 2) := by decide +kernel
theorem dX10_normal_104 : decode cX10_normal 104 = .ok (.invokevirtual 160, 3) := by decide +kernel
theorem dX10_normal_107 : decode cX10_normal 107 = .ok (.invokevirtual 178, 3) := by decide +kernel
theorem dX10_normal_110 : decode cX10_normal 110 = .ok (.aload_n 0, 1) := by decide +kernel
theorem dX10_normal_111 : decode cX10_normal 111 = .ok (.getfield 175, 3) := by decide +kernel
theorem dX10_normal_114 : decode cX10_normal 114 = .ok (.bipush 60, 2) := by decide +kernel
theorem dX10_normal_116 : decode cX10_normal 116 = .ok (.if_icmp .le 8, 3) := by decide +kernel
theorem dX10_normal_119 : decode cX10_normal 119 = .ok (.bipush (-3), 2) := by decide +kernel
theorem dX10_normal_121 : decode cX10_normal 121 = .ok (.goto 8, 3) := by decide +kernel
theorem dX10_normal_124 : decode cX10_normal 124 = .ok (.aload_n 0, 1) := by decide +kernel
theorem dX10_normal_125 : decode cX10_normal 125 = .ok (.iload_n 1, 1) := by decide +kernel
theorem dX10_normal_126 : decode cX10_normal 126 = .ok (.invokevirtual 193, 3) := by decide +kernel
theorem dX10_normal_129 : decode cX10_normal 129 = .ok (.ireturn, 1) := by decide +kernel
theorem dX10_fits_0 : decode cX10_fits 0 = .ok (.iload_n 1, 1) := by decide +kernel
theorem dX10_fits_1 : decode cX10_fits 1 = .ok (.invokestatic 187, 3) := by decide +kernel
theorem dX10_fits_4 : decode cX10_fits 4 = .ok (.ifCond .eq 28, 3) := by decide +kernel
theorem dX10_fits_7 : decode cX10_fits 7 = .ok (.iload_n 2, 1) := by decide +kernel
theorem dX10_fits_8 : decode cX10_fits 8 = .ok (.i2l, 1) := by decide +kernel
theorem dX10_fits_9 : decode cX10_fits 9 = .ok (.lconst 0, 1) := by decide +kernel
theorem dX10_fits_10 : decode cX10_fits 10 = .ok (.aload_n 0, 1) := by decide +kernel
theorem dX10_fits_11 : decode cX10_fits 11 = .ok (.getfield 31, 3) := by decide +kernel
theorem dX10_fits_14 : decode cX10_fits 14 = .ok (.iload_n 1, 1) := by decide +kernel
theorem dX10_fits_15 : decode cX10_fits 15 = .ok (.iaload, 1) := by decide +kernel
theorem dX10_fits_16 : decode cX10_fits 16 = .ok (.iconst 1, 1) := by decide +kernel
theorem dX10_fits_17 : decode cX10_fits 17 = .ok (.isub, 1) := by decide +kernel
theorem dX10_fits_18 : decode cX10_fits 18 = .ok (.i2l, 1) := by decide +kernel
theorem dX10_fits_19 : decode cX10_fits 19 = .ok (.invokestatic 120, 3) := by decide +kernel
theorem dX10_fits_22 : decode cX10_fits 22 = .ok (.ifCond .eq 10, 3) := by decide +kernel
theorem dX10_fits_25 : decode cX10_fits 25 = .ok (.iload_n 3, 1) := by decide +kernel
theorem dX10_fits_26 : decode cX10_fits 26 = .ok (.invokestatic 126, 3) := by decide +kernel
theorem dX10_fits_29 : decode cX10_fits 29 = .ok (.ifCond .ne 5, 3) := by decide +kernel
theorem dX10_fits_32 : decode cX10_fits 32 = .ok (.iconst (-1), 1) := by decide +kernel
theorem dX10_fits_33 : decode cX10_fits 33 = .ok (.ireturn, 1) := by decide +kernel
theorem dX10_fits_34 : decode cX10_fits 34 = .ok (.iconst 0, 1) := by decide +kernel
theorem dX10_fits_35 : decode cX10_fits 35 = .ok (.istore 4, 2) := by decide +kernel
theorem dX10_fits_37 : decode cX10_fits 37 = .ok (.iconst 0, 1) := by decide +kernel
theorem dX10_fits_38 : decode cX10_fits 38 = .ok (.istore 5, 2) := by decide +kernel
theorem dX10_fits_40 : decode cX10_fits 40 = .ok (.iload 5, 2) := by decide +kernel
theorem dX10_fits_42 : decode cX10_fits 42 = .ok (.bipush 7, 2) := by decide +kernel
theorem dX10_fits_44 : decode cX10_fits 44 = .ok (.if_icmp .ge 44, 3) := by decide +kernel
theorem dX10_fits_47 : decode cX10_fits 47 = .ok (.aload_n 0, 1) := by decide +kernel
theorem dX10_fits_48 : decode cX10_fits 48 = .ok (.bipush 15, 2) := by decide +kernel
theorem dX10_fits_50 : decode cX10_fits 50 = .ok (.iload_n 1, 1) := by decide +kernel
theorem dX10_fits_51 : decode cX10_fits 51 = .ok (.bipush 60, 2) := by decide +kernel
theorem dX10_fits_53 : decode cX10_fits 53 = .ok (.iload_n 2, 1) := by decide +kernel
theorem dX10_fits_54 : decode cX10_fits 54 = .ok (.iload 5, 2) := by decide +kernel
theorem dX10_fits_56 : decode cX10_fits 56 = .ok (.invokevirtual 196, 3) := by decide +kernel
theorem dX10_fits_59 : decode cX10_fits 59 = .ok (.iload 4, 2) := by decide +kernel
theorem dX10_fits_61 : decode cX10_fits 61 = .ok (.aload_n 0, 1) := by decide +kernel
theorem dX10_fits_62 : decode cX10_fits 62 = .ok (.bipush 15, 2) := by decide +kernel
theorem dX10_fits_64 : decode cX10_fits 64 = .ok (.iload_n 3, 1) := by decide +kernel
theorem dX10_fits_65 : decode cX10_fits 65 = .ok (.invokevirtual 143, 3) := by decide +kernel
theorem dX10_fits_68 : decode cX10_fits 68 = .ok (.ifCond .eq 10, 3) := by decide +kernel
theorem dX10_fits_71 : decode cX10_fits 71 = .ok (.iconst 1, 1) := by decide +kernel
theorem dX10_fits_72 : decode cX10_fits 72 = .ok (.iload 5, 2) := by decide +kernel
theorem dX10_fits_74 : decode cX10_fits 74 = .ok (.ishl, 1) := by decide +kernel
theorem dX10_fits_75 : decode cX10_fits 75 = .ok (.goto 4, 3) := by decide +kernel
theorem dX10_fits_78 : decode cX10_fits 78 = .ok (.iconst 0, 1) := by decide +kernel
theorem dX10_fits_79 : decode cX10_fits 79 = .ok (.ior, 1) := by decide +kernel
theorem dX10_fits_80 : decode cX10_fits 80 = .ok (.istore 4, 2) := by decide +kernel
theorem dX10_fits_82 : decode cX10_fits 82 = .ok (.iinc 5 1, 3) := by decide +kernel
theorem dX10_fits_85 : decode cX10_fits 85 = .ok (.goto (-45), 3) := by decide +kernel
theorem dX10_fits_88 : decode cX10_fits 88 = .ok (.iload 4, 2) := by decide +kernel
theorem dX10_fits_90 : decode cX10_fits 90 = .ok (.ireturn, 1) := by decide +kernel
theorem dX10_parts_0 : decode cX10_parts 0 = .ok (.iload_n 1, 1) := by decide +kernel
theorem dX10_parts_1 : decode cX10_parts 1 = .ok (.invokestatic 187, 3) := by decide +kernel
theorem dX10_parts_4 : decode cX10_parts 4 = .ok (.ifCond .eq 10, 3) := by decide +kernel
theorem dX10_parts_7 : decode cX10_parts 7 = .ok (.iload_n 2, 1) := by decide +kernel
theorem dX10_parts_8 : decode cX10_parts 8 = .ok (.invokestatic 187, 3) := by decide +kernel
theorem dX10_parts_11 : decode cX10_parts 11 = .ok (.ifCond .ne 5, 3) := by decide +kernel
theorem dX10_parts_14 : decode cX10_parts 14 = .ok (.iconst (-1), 1) := by decide +kernel
theorem dX10_parts_15 : decode cX10_parts 15 = .ok (.ireturn, 1) := by decide +kernel
theorem dX10_parts_16 : decode cX10_parts 16 = .ok (.iconst 0, 1) := by decide +kernel
theorem dX10_parts_17 : decode cX10_parts 17 = .ok (.istore_n 3, 1) := by decide +kernel
theorem dX10_parts_18 : decode cX10_parts 18 = .ok (.iload_n 3, 1) := by decide +kernel
theorem dX10_parts_19 : decode cX10_parts 19 = .ok (.aload_n 0, 1) := by decide +kernel
theorem dX10_parts_20 : decode cX10_parts 20 = .ok (.getfield 31, 3) := by decide +kernel
theorem dX10_parts_23 : decode cX10_parts 23 = .ok (.iload_n 1, 1) := by decide +kernel
theorem dX10_parts_24 : decode cX10_parts 24 = .ok (.iaload, 1) := by decide +kernel
theorem dX10_parts_25 : decode cX10_parts 25 = .ok (.if_icmp .lt 13, 3) := by decide +kernel
theorem dX10_parts_28 : decode cX10_parts 28 = .ok (.iload_n 3, 1) := by decide +kernel
theorem dX10_parts_29 : decode cX10_parts 29 = .ok (.aload_n 0, 1) := by decide +kernel
theorem dX10_parts_30 : decode cX10_parts 30 = .ok (.getfield 31, 3) := by decide +kernel
theorem dX10_parts_33 : decode cX10_parts 33 = .ok (.iload_n 2, 1) := by decide +kernel
theorem dX10_parts_34 : decode cX10_parts 34 = .ok (.iaload, 1) := by decide +kernel
theorem dX10_parts_35 : decode cX10_parts 35 = .ok (.if_icmp .ge 48, 3) := by decide +kernel
theorem dX10_parts_38 : decode cX10_parts 38 = .ok (.aload_n 0, 1) := by decide +kernel
theorem dX10_parts_39 : decode cX10_parts 39 = .ok (.bipush 15, 2) := by decide +kernel
theorem dX10_parts_41 : decode cX10_parts 41 = .ok (.iload_n 1, 1) := by decide +kernel
theorem dX10_parts_42 : decode cX10_parts 42 = .ok (.iload_n 3, 1) := by decide +kernel
theorem dX10_parts_43 : decode cX10_parts 43 = .ok (.iconst 1, 1) := by decide +kernel
theorem dX10_parts_44 : decode cX10_parts 44 = .ok (.iadd, 1) := by decide +kernel
theorem dX10_parts_45 : decode cX10_parts 45 = .ok (.bipush (-2), 2) := by decide +kernel
theorem dX10_parts_47 : decode cX10_parts 47 = .ok (.iconst 0, 1) := by decide +kernel
theorem dX10_parts_48 : decode cX10_parts 48 = .ok (.invokevirtual 196, 3) := by decide +kernel
theorem dX10_parts_51 : decode cX10_parts 51 = .ok (.aload_n 0, 1) := by decide +kernel
theorem dX10_parts_52 : decode cX10_parts 52 = .ok (.bipush 16, 2) := by decide +kernel
theorem dX10_parts_54 : decode cX10_parts 54 = .ok (.iload_n 2, 1) := by decide +kernel
theorem dX10_parts_55 : decode cX10_parts 55 = .ok (.iload_n 3, 1) := by decide +kernel
theorem dX10_parts_56 : decode cX10_parts 56 = .ok (.iconst 1, 1) := by decide +kernel
theorem dX10_parts_57 : decode cX10_parts 57 = .ok (.iadd, 1) := by decide +kernel
theorem dX10_parts_58 : decode cX10_parts 58 = .ok (.bipush (-2), 2) := by decide +kernel
theorem dX10_parts_60 : decode cX10_parts 60 = .ok (.iconst 0, 1) := by decide +kernel
theorem dX10_parts_61 : decode cX10_parts 61 = .ok (.invokevirtual 196, 3) := by decide +kernel
theorem dX10_parts_64 : decode cX10_parts 64 = .ok (.aload_n 0, 1) := by decide +kernel
theorem dX10_parts_65 : decode cX10_parts 65 = .ok (.bipush 15, 2) := by decide +kernel
theorem dX10_parts_67 : decode cX10_parts 67 = .ok (.bipush 16, 2) := by decide +kernel
theorem dX10_parts_69 : decode cX10_parts 69 = .ok (.invokevirtual 143, 3) := by decide +kernel
theorem dX10_parts_72 : decode cX10_parts 72 = .ok (.ifCond .ne 5, 3) := by decide +kernel
theorem dX10_parts_75 : decode cX10_parts 75 = .ok (.iload_n 3, 1) := by decide +kernel
theorem dX10_parts_76 : decode cX10_parts 76 = .ok (.ireturn, 1) := by decide +kernel
theorem dX10_parts_77 : decode cX10_parts 77 = .ok (.iinc 3 1, 3) := by decide +kernel
theorem dX10_parts_80 : decode cX10_parts 80 = .ok (.goto (-62), 3) := by decide +kernel
theorem dX10_parts_83 : decode cX10_parts 83 = .ok (.bipush (-2), 2) := by decide +kernel
theorem dX10_parts_85 : decode cX10_parts 85 = .ok (.ireturn, 1) := by decide +kernel
theorem dX10_undo_0 : decode cX10_undo 0 = .ok (.aload_n 0, 1) := by decide +kernel
theorem dX10_undo_1 : decode cX10_undo 1 = .ok (.getfield 184, 3) := by decide +kernel
theorem dX10_undo_4 : decode cX10_undo 4 = .ok (.ifCond .ne 6, 3) := by decide +kernel
theorem dX10_undo_7 : decode cX10_undo 7 = .ok (.bipush (-5), 2) := by decide +kernel
theorem dX10_undo_9 : decode cX10_undo 9 = .ok (.ireturn, 1) := by decide +kernel
theorem dX10_undo_10 : decode cX10_undo 10 = .ok (.aload_n 0, 1) := by decide +kernel
theorem dX10_undo_11 : decode cX10_undo 11 = .ok (.dup, 1) := by decide +kernel
theorem dX10_undo_12 : decode cX10_undo 12 = .ok (.getfield 184, 3) := by decide +kernel
theorem dX10_undo_15 : decode cX10_undo 15 = .ok (.iconst 1, 1) := by decide +kernel
theorem dX10_undo_16 : decode cX10_undo 16 = .ok (.isub, 1) := by decide +kernel
theorem dX10_undo_17 : decode cX10_undo 17 = .ok (.putfield 184, 3) := by decide +kernel
theorem dX10_undo_20 : decode cX10_undo 20 = .ok (.aload_n 0, 1) := by decide +kernel
theorem dX10_undo_21 : decode cX10_undo 21 = .ok (.getfield 67, 3) := by decide +kernel
theorem dX10_undo_24 : decode cX10_undo 24 = .ok (.aload_n 0, 1) := by decide +kernel
theorem dX10_undo_25 : decode cX10_undo 25 = .ok (.getfield 184, 3) := by decide +kernel
theorem dX10_undo_28 : decode cX10_undo 28 = .ok (.iaload, 1) := by decide +kernel
theorem dX10_undo_29 : decode cX10_undo 29 = .ok (.istore_n 1, 1) := by decide +kernel
theorem dX10_undo_30 : decode cX10_undo 30 = .ok (.aload_n 0, 1) := by decide +kernel
theorem dX10_undo_31 : decode cX10_undo 31 = .ok (.getfield 31, 3) := by decide +kernel
theorem dX10_undo_34 : decode cX10_undo 34 = .ok (.iload_n 1, 1) := by decide +kernel
theorem dX10_undo_35 : decode cX10_undo 35 = .ok (.aload_n 0, 1) := by decide +kernel
theorem dX10_undo_36 : decode cX10_undo 36 = .ok (.getfield 64, 3) := by decide +kernel
theorem dX10_undo_39 : decode cX10_undo 39 = .ok (.aload_n 0, 1) := by decide +kernel
theorem dX10_undo_40 : decode cX10_undo 40 = .ok (.getfield 184, 3) := by decide +kernel
theorem dX10_undo_43 : decode cX10_undo 43 = .ok (.iaload, 1) := by decide +kernel
theorem dX10_undo_44 : decode cX10_undo 44 = .ok (.iastore, 1) := by decide +kernel
theorem dX10_undo_45 : decode cX10_undo 45 = .ok (.iconst 0, 1) := by decide +kernel
theorem dX10_undo_46 : decode cX10_undo 46 = .ok (.istore_n 2, 1) := by decide +kernel
theorem dX10_undo_47 : decode cX10_undo 47 = .ok (.iload_n 2, 1) := by decide +kernel
theorem dX10_undo_48 : decode cX10_undo 48 = .ok (.bipush 60, 2) := by decide +kernel
theorem dX10_undo_50 : decode cX10_undo 50 = .ok (.if_icmp .ge 34, 3) := by decide +kernel
theorem dX10_undo_53 : decode cX10_undo 53 = .ok (.aload_n 0, 1) := by decide +kernel
theorem dX10_undo_54 : decode cX10_undo 54 = .ok (.getfield 28, 3) := by decide +kernel
theorem dX10_undo_57 : decode cX10_undo 57 = .ok (.bipush 60, 2) := by decide +kernel
theorem dX10_undo_59 : decode cX10_undo 59 = .ok (.iload_n 1, 1) := by decide +kernel
theorem dX10_undo_60 : decode cX10_undo 60 = .ok (.imul, 1) := by decide +kernel
theorem dX10_undo_61 : decode cX10_undo 61 = .ok (.iload_n 2, 1) := by decide +kernel
theorem dX10_undo_62 : decode cX10_undo 62 = .ok (.iadd, 1) := by decide +kernel
theorem dX10_undo_63 : decode cX10_undo 63 = .ok (.aload_n 0, 1) := by decide +kernel
theorem dX10_undo_64 : decode cX10_undo 64 = .ok (.getfield 61, 3) := by decide +kernel
theorem dX10_undo_67 : decode cX10_undo 67 = .ok (.bipush 60, 2) := by decide +kernel
theorem dX10_undo_69 : decode cX10_undo 69 = .ok (.aload_n 0, 1) := by decide +kernel
theorem dX10_undo_70 : decode cX10_undo 70 = .ok (.getfield 184, 3) := by decide +kernel
theorem dX10_undo_73 : decode cX10_undo 73 = .ok (.imul, 1) := by decide +kernel
theorem dX10_undo_74 : decode cX10_undo 74 = .ok (.iload_n 2, 1) := by decide +kernel
theorem dX10_undo_75 : decode cX10_undo 75 = .ok (.iadd, 1) := by decide +kernel
theorem dX10_undo_76 : decode cX10_undo 76 = .ok (.iaload, 1) := by decide +kernel
theorem dX10_undo_77 : decode cX10_undo 77 = .ok (.iastore, 1) := by decide +kernel
theorem dX10_undo_78 : decode cX10_undo 78 = .ok (.iinc 2 1, 3) := by decide +kernel
theorem dX10_undo_81 : decode cX10_undo 81 = .ok (.goto (-34), 3) := by decide +kernel
theorem dX10_undo_84 : decode cX10_undo 84 = .ok (.aload_n 0, 1) := by decide +kernel
theorem dX10_undo_85 : decode cX10_undo 85 = .ok (.getfield 184, 3) := by decide +kernel
theorem dX10_undo_88 : decode cX10_undo 88 = .ok (.ireturn, 1) := by decide +kernel
theorem dX10_feed_0 : decode cX10_feed 0 = .ok (.iload_n 1, 1) := by decide +kernel
theorem dX10_feed_1 : decode cX10_feed 1 = .ok (.i2l, 1) := by decide +kernel
theorem dX10_feed_2 : decode cX10_feed 2 = .ok (.ldc2_w 214, 3) := by decide +kernel
theorem dX10_feed_5 : decode cX10_feed 5 = .ok (.ldc2_w 216, 3) := by decide +kernel
theorem dX10_feed_8 : decode cX10_feed 8 = .ok (.invokestatic 120, 3) := by decide +kernel
theorem dX10_feed_11 : decode cX10_feed 11 = .ok (.ifCond .ne 5, 3) := by decide +kernel
theorem dX10_feed_14 : decode cX10_feed 14 = .ok (.iconst (-1), 1) := by decide +kernel
theorem dX10_feed_15 : decode cX10_feed 15 = .ok (.ireturn, 1) := by decide +kernel
theorem dX10_feed_16 : decode cX10_feed 16 = .ok (.aload_n 0, 1) := by decide +kernel
theorem dX10_feed_17 : decode cX10_feed 17 = .ok (.getfield 218, 3) := by decide +kernel
theorem dX10_feed_20 : decode cX10_feed 20 = .ok (.bipush 80, 2) := by decide +kernel
theorem dX10_feed_22 : decode cX10_feed 22 = .ok (.if_icmp .ne 6, 3) := by decide +kernel
theorem dX10_feed_25 : decode cX10_feed 25 = .ok (.bipush (-3), 2) := by decide +kernel
theorem dX10_feed_27 : decode cX10_feed 27 = .ok (.ireturn, 1) := by decide +kernel
theorem dX10_feed_28 : decode cX10_feed 28 = .ok (.aload_n 0, 1) := by decide +kernel
theorem dX10_feed_29 : decode cX10_feed 29 = .ok (.getfield 70, 3) := by decide +kernel
theorem dX10_feed_32 : decode cX10_feed 32 = .ok (.aload_n 0, 1) := by decide +kernel
theorem dX10_feed_33 : decode cX10_feed 33 = .ok (.getfield 218, 3) := by decide +kernel
theorem dX10_feed_36 : decode cX10_feed 36 = .ok (.iload_n 1, 1) := by decide +kernel
theorem dX10_feed_37 : decode cX10_feed 37 = .ok (.iastore, 1) := by decide +kernel
theorem dX10_feed_38 : decode cX10_feed 38 = .ok (.aload_n 0, 1) := by decide +kernel
theorem dX10_feed_39 : decode cX10_feed 39 = .ok (.dup, 1) := by decide +kernel
theorem dX10_feed_40 : decode cX10_feed 40 = .ok (.getfield 218, 3) := by decide +kernel
theorem dX10_feed_43 : decode cX10_feed 43 = .ok (.iconst 1, 1) := by decide +kernel
theorem dX10_feed_44 : decode cX10_feed 44 = .ok (.iadd, 1) := by decide +kernel
theorem dX10_feed_45 : decode cX10_feed 45 = .ok (.putfield 218, 3) := by decide +kernel
theorem dX10_feed_48 : decode cX10_feed 48 = .ok (.aload_n 0, 1) := by decide +kernel
theorem dX10_feed_49 : decode cX10_feed 49 = .ok (.getfield 218, 3) := by decide +kernel
theorem dX10_feed_52 : decode cX10_feed 52 = .ok (.ireturn, 1) := by decide +kernel
theorem dX10_wipe_0 : decode cX10_wipe 0 = .ok (.aload_n 0, 1) := by decide +kernel
theorem dX10_wipe_1 : decode cX10_wipe 1 = .ok (.getfield 218, 3) := by decide +kernel
theorem dX10_wipe_4 : decode cX10_wipe 4 = .ok (.istore_n 1, 1) := by decide +kernel
theorem dX10_wipe_5 : decode cX10_wipe 5 = .ok (.aload_n 0, 1) := by decide +kernel
theorem dX10_wipe_6 : decode cX10_wipe 6 = .ok (.iconst 0, 1) := by decide +kernel
theorem dX10_wipe_7 : decode cX10_wipe 7 = .ok (.putfield 218, 3) := by decide +kernel
theorem dX10_wipe_10 : decode cX10_wipe 10 = .ok (.iload_n 1, 1) := by decide +kernel
theorem dX10_wipe_11 : decode cX10_wipe 11 = .ok (.ireturn, 1) := by decide +kernel
theorem dX10_here_0 : decode cX10_here 0 = .ok (.aload_n 0, 1) := by decide +kernel
theorem dX10_here_1 : decode cX10_here 1 = .ok (.getfield 221, 3) := by decide +kernel
theorem dX10_here_4 : decode cX10_here 4 = .ok (.aload_n 0, 1) := by decide +kernel
theorem dX10_here_5 : decode cX10_here 5 = .ok (.getfield 218, 3) := by decide +kernel
theorem dX10_here_8 : decode cX10_here 8 = .ok (.if_icmp .ge 15, 3) := by decide +kernel
theorem dX10_here_11 : decode cX10_here 11 = .ok (.aload_n 0, 1) := by decide +kernel
theorem dX10_here_12 : decode cX10_here 12 = .ok (.getfield 70, 3) := by decide +kernel
theorem dX10_here_15 : decode cX10_here 15 = .ok (.aload_n 0, 1) := by decide +kernel
theorem dX10_here_16 : decode cX10_here 16 = .ok (.getfield 221, 3) := by decide +kernel
theorem dX10_here_19 : decode cX10_here 19 = .ok (.iaload, 1) := by decide +kernel
theorem dX10_here_20 : decode cX10_here 20 = .ok (.goto 5, 3) := by decide +kernel
theorem dX10_here_23 : decode cX10_here 23 = .ok (.bipush (-2), 2) := by decide +kernel
theorem dX10_here_25 : decode cX10_here 25 = .ok (.ireturn, 1) := by decide +kernel
theorem dX10_gateBy_0 : decode cX10_gateBy 0 = .ok (.iload_n 0, 1) := by decide +kernel
theorem dX10_gateBy_1 : decode cX10_gateBy 1 = .ok (.tableswitch 106 72 90 #[91, 106, 106, 106, 106, 106, 106, 106, 106, 106, 106, 95, 93, 103, 106, 101, 97, 106, 99], 91) := by decide +kernel
theorem dX10_gateBy_92 : decode cX10_gateBy 92 = .ok (.iconst 0, 1) := by decide +kernel
theorem dX10_gateBy_93 : decode cX10_gateBy 93 = .ok (.ireturn, 1) := by decide +kernel
theorem dX10_gateBy_94 : decode cX10_gateBy 94 = .ok (.iconst 1, 1) := by decide +kernel
theorem dX10_gateBy_95 : decode cX10_gateBy 95 = .ok (.ireturn, 1) := by decide +kernel
theorem dX10_gateBy_96 : decode cX10_gateBy 96 = .ok (.iconst 2, 1) := by decide +kernel
theorem dX10_gateBy_97 : decode cX10_gateBy 97 = .ok (.ireturn, 1) := by decide +kernel
theorem dX10_gateBy_98 : decode cX10_gateBy 98 = .ok (.iconst 3, 1) := by decide +kernel
theorem dX10_gateBy_99 : decode cX10_gateBy 99 = .ok (.ireturn, 1) := by decide +kernel
theorem dX10_gateBy_100 : decode cX10_gateBy 100 = .ok (.iconst 4, 1) := by decide +kernel
theorem dX10_gateBy_101 : decode cX10_gateBy 101 = .ok (.ireturn, 1) := by decide +kernel
theorem dX10_gateBy_102 : decode cX10_gateBy 102 = .ok (.iconst 5, 1) := by decide +kernel
theorem dX10_gateBy_103 : decode cX10_gateBy 103 = .ok (.ireturn, 1) := by decide +kernel
theorem dX10_gateBy_104 : decode cX10_gateBy 104 = .ok (.bipush 6, 2) := by decide +kernel
theorem dX10_gateBy_106 : decode cX10_gateBy 106 = .ok (.ireturn, 1) := by decide +kernel
theorem dX10_gateBy_107 : decode cX10_gateBy 107 = .ok (.bipush (-2), 2) := by decide +kernel
theorem dX10_gateBy_109 : decode cX10_gateBy 109 = .ok (.ireturn, 1) := by decide +kernel
theorem dX10_begins_0 : decode cX10_begins 0 = .ok (.aload_n 0, 1) := by decide +kernel
theorem dX10_begins_1 : decode cX10_begins 1 = .ok (.invokevirtual 224, 3) := by decide +kernel
theorem dX10_begins_4 : decode cX10_begins 4 = .ok (.invokestatic 228, 3) := by decide +kernel
theorem dX10_begins_7 : decode cX10_begins 7 = .ok (.bipush (-2), 2) := by decide +kernel
theorem dX10_begins_9 : decode cX10_begins 9 = .ok (.if_icmp .ne 29, 3) := by decide +kernel
theorem dX10_begins_12 : decode cX10_begins 12 = .ok (.aload_n 0, 1) := by decide +kernel
theorem dX10_begins_13 : decode cX10_begins 13 = .ok (.invokevirtual 224, 3) := by decide +kernel
theorem dX10_begins_16 : decode cX10_begins 16 = .ok (.bipush 126, 2) := by decide +kernel
theorem dX10_begins_18 : decode cX10_begins 18 = .ok (.if_icmp .eq 20, 3) := by decide +kernel
theorem dX10_begins_21 : decode cX10_begins 21 = .ok (.aload_n 0, 1) := by decide +kernel
theorem dX10_begins_22 : decode cX10_begins 22 = .ok (.invokevirtual 224, 3) := by decide +kernel
theorem dX10_begins_25 : decode cX10_begins 25 = .ok (.bipush 40, 2) := by decide +kernel
theorem dX10_begins_27 : decode cX10_begins 27 = .ok (.if_icmp .ne 15, 3) := by decide +kernel
theorem dX10_begins_30 : decode cX10_begins 30 = .ok (.aload_n 0, 1) := by decide +kernel
theorem dX10_begins_31 : decode cX10_begins 31 = .ok (.getfield 231, 3) := by decide +kernel
theorem dX10_begins_34 : decode cX10_begins 34 = .ok (.iconst 4, 1) := by decide +kernel
theorem dX10_begins_35 : decode cX10_begins 35 = .ok (.if_icmp .ge 7, 3) := by decide +kernel
theorem dX10_begins_38 : decode cX10_begins 38 = .ok (.iconst 1, 1) := by decide +kernel
theorem dX10_begins_39 : decode cX10_begins 39 = .ok (.goto 4, 3) := by decide +kernel
theorem dX10_begins_42 : decode cX10_begins 42 = .ok (.iconst 0, 1) := by decide +kernel
theorem dX10_begins_43 : decode cX10_begins 43 = .ok (.ireturn, 1) := by decide +kernel
theorem dX10_puts_0 : decode cX10_puts 0 = .ok (.aload_n 0, 1) := by decide +kernel
theorem dX10_puts_1 : decode cX10_puts 1 = .ok (.getfield 234, 3) := by decide +kernel
theorem dX10_puts_4 : decode cX10_puts 4 = .ok (.ifCond .ne 23, 3) := by decide +kernel
theorem dX10_puts_7 : decode cX10_puts 7 = .ok (.aload_n 0, 1) := by decide +kernel
theorem dX10_puts_8 : decode cX10_puts 8 = .ok (.getfield 58, 3) := by decide +kernel
theorem dX10_puts_11 : decode cX10_puts 11 = .ok (.aload_n 0, 1) := by decide +kernel
theorem dX10_puts_12 : decode cX10_puts 12 = .ok (.getfield 175, 3) := by decide +kernel
theorem dX10_puts_15 : decode cX10_puts 15 = .ok (.iload_n 1, 1) := by decide +kernel
theorem dX10_puts_16 : decode cX10_puts 16 = .ok (.iastore, 1) := by decide +kernel
theorem dX10_puts_17 : decode cX10_puts 17 = .ok (.aload_n 0, 1) := by decide +kernel
theorem dX10_puts_18 : decode cX10_puts 18 = .ok (.dup, 1) := by decide +kernel
theorem dX10_puts_19 : decode cX10_puts 19 = .ok (.getfield 175, 3) := by decide +kernel
theorem dX10_puts_22 : decode cX10_puts 22 = .ok (.iconst 1, 1) := by decide +kernel
theorem dX10_puts_23 : decode cX10_puts 23 = .ok (.iadd, 1) := by decide +kernel
theorem dX10_puts_24 : decode cX10_puts 24 = .ok (.putfield 175, 3) := by decide +kernel
theorem dX10_puts_27 : decode cX10_puts 27 = .ok (.return_, 1) := by decide +kernel
theorem dX10_reverses_0 : decode cX10_reverses 0 = .ok (.aload_n 0, 1) := by decide +kernel
theorem dX10_reverses_1 : decode cX10_reverses 1 = .ok (.getfield 175, 3) := by decide +kernel
theorem dX10_reverses_4 : decode cX10_reverses 4 = .ok (.iload_n 1, 1) := by decide +kernel
theorem dX10_reverses_5 : decode cX10_reverses 5 = .ok (.isub, 1) := by decide +kernel
theorem dX10_reverses_6 : decode cX10_reverses 6 = .ok (.istore_n 2, 1) := by decide +kernel
theorem dX10_reverses_7 : decode cX10_reverses 7 = .ok (.iconst 0, 1) := by decide +kernel
theorem dX10_reverses_8 : decode cX10_reverses 8 = .ok (.istore_n 3, 1) := by decide +kernel
theorem dX10_reverses_9 : decode cX10_reverses 9 = .ok (.iconst 0, 1) := by decide +kernel
theorem dX10_reverses_10 : decode cX10_reverses 10 = .ok (.istore 4, 2) := by decide +kernel
theorem dX10_reverses_12 : decode cX10_reverses 12 = .ok (.iload 4, 2) := by decide +kernel
theorem dX10_reverses_14 : decode cX10_reverses 14 = .ok (.iload_n 2, 1) := by decide +kernel
theorem dX10_reverses_15 : decode cX10_reverses 15 = .ok (.if_icmp .ge 67, 3) := by decide +kernel
theorem dX10_reverses_18 : decode cX10_reverses 18 = .ok (.aload_n 0, 1) := by decide +kernel
theorem dX10_reverses_19 : decode cX10_reverses 19 = .ok (.getfield 234, 3) := by decide +kernel
theorem dX10_reverses_22 : decode cX10_reverses 22 = .ok (.ifCond .ne 60, 3) := by decide +kernel
theorem dX10_reverses_25 : decode cX10_reverses 25 = .ok (.aload_n 0, 1) := by decide +kernel
theorem dX10_reverses_26 : decode cX10_reverses 26 = .ok (.getfield 73, 3) := by decide +kernel
theorem dX10_reverses_29 : decode cX10_reverses 29 = .ok (.iload 4, 2) := by decide +kernel
theorem dX10_reverses_31 : decode cX10_reverses 31 = .ok (.aload_n 0, 1) := by decide +kernel
theorem dX10_reverses_32 : decode cX10_reverses 32 = .ok (.getfield 58, 3) := by decide +kernel
theorem dX10_reverses_35 : decode cX10_reverses 35 = .ok (.iload_n 1, 1) := by decide +kernel
theorem dX10_reverses_36 : decode cX10_reverses 36 = .ok (.iload 4, 2) := by decide +kernel
theorem dX10_reverses_38 : decode cX10_reverses 38 = .ok (.iadd, 1) := by decide +kernel
theorem dX10_reverses_39 : decode cX10_reverses 39 = .ok (.iaload, 1) := by decide +kernel
theorem dX10_reverses_40 : decode cX10_reverses 40 = .ok (.iastore, 1) := by decide +kernel
theorem dX10_reverses_41 : decode cX10_reverses 41 = .ok (.iload_n 3, 1) := by decide +kernel
theorem dX10_reverses_42 : decode cX10_reverses 42 = .ok (.aload_n 0, 1) := by decide +kernel
theorem dX10_reverses_43 : decode cX10_reverses 43 = .ok (.getfield 73, 3) := by decide +kernel
theorem dX10_reverses_46 : decode cX10_reverses 46 = .ok (.iload 4, 2) := by decide +kernel
theorem dX10_reverses_48 : decode cX10_reverses 48 = .ok (.iaload, 1) := by decide +kernel
theorem dX10_reverses_49 : decode cX10_reverses 49 = .ok (.iconst 2, 1) := by decide +kernel
theorem dX10_reverses_50 : decode cX10_reverses 50 = .ok (.if_icmp .ne 7, 3) := by decide +kernel
theorem dX10_reverses_53 : decode cX10_reverses 53 = .ok (.iconst 2, 1) := by decide +kernel
theorem dX10_reverses_54 : decode cX10_reverses 54 = .ok (.goto 20, 3) := by decide +kernel
theorem dX10_reverses_57 : decode cX10_reverses 57 = .ok (.aload_n 0, 1) := by decide +kernel
theorem dX10_reverses_58 : decode cX10_reverses 58 = .ok (.getfield 73, 3) := by decide +kernel
theorem dX10_reverses_61 : decode cX10_reverses 61 = .ok (.iload 4, 2) := by decide +kernel
theorem dX10_reverses_63 : decode cX10_reverses 63 = .ok (.iaload, 1) := by decide +kernel
theorem dX10_reverses_64 : decode cX10_reverses 64 = .ok (.iconst 5, 1) := by decide +kernel
theorem dX10_reverses_65 : decode cX10_reverses 65 = .ok (.if_icmp .ne 8, 3) := by decide +kernel
theorem dX10_reverses_68 : decode cX10_reverses 68 = .ok (.bipush 7, 2) := by decide +kernel
theorem dX10_reverses_70 : decode cX10_reverses 70 = .ok (.goto 4, 3) := by decide +kernel
theorem dX10_reverses_73 : decode cX10_reverses 73 = .ok (.iconst 1, 1) := by decide +kernel
theorem dX10_reverses_74 : decode cX10_reverses 74 = .ok (.iadd, 1) := by decide +kernel
theorem dX10_reverses_75 : decode cX10_reverses 75 = .ok (.istore_n 3, 1) := by decide +kernel
theorem dX10_reverses_76 : decode cX10_reverses 76 = .ok (.iinc 4 1, 3) := by decide +kernel
theorem dX10_reverses_79 : decode cX10_reverses 79 = .ok (.goto (-67), 3) := by decide +kernel
theorem dX10_reverses_82 : decode cX10_reverses 82 = .ok (.aload_n 0, 1) := by decide +kernel
theorem dX10_reverses_83 : decode cX10_reverses 83 = .ok (.dup, 1) := by decide +kernel
theorem dX10_reverses_84 : decode cX10_reverses 84 = .ok (.getfield 234, 3) := by decide +kernel
theorem dX10_reverses_87 : decode cX10_reverses 87 = .ok (.iload_n 3, 1) := by decide +kernel
theorem dX10_reverses_88 : decode cX10_reverses 88 = .ok (.bipush 60, 2) := by decide +kernel
theorem dX10_reverses_90 : decode cX10_reverses 90 = .ok (.if_icmp .le 7, 3) := by decide +kernel
theorem dX10_reverses_93 : decode cX10_reverses 93 = .ok (.iconst 1, 1) := by decide +kernel
theorem dX10_reverses_94 : decode cX10_reverses 94 = .ok (.goto 4, 3) := by decide +kernel
theorem dX10_reverses_97 : decode cX10_reverses 97 = .ok (.iconst 0, 1) := by decide +kernel
theorem dX10_reverses_98 : decode cX10_reverses 98 = .ok (.ior, 1) := by decide +kernel
theorem dX10_reverses_99 : decode cX10_reverses 99 = .ok (.putfield 234, 3) := by decide +kernel
theorem dX10_reverses_102 : decode cX10_reverses 102 = .ok (.aload_n 0, 1) := by decide +kernel
theorem dX10_reverses_103 : decode cX10_reverses 103 = .ok (.getfield 234, 3) := by decide +kernel
theorem dX10_reverses_106 : decode cX10_reverses 106 = .ok (.ifCond .eq 4, 3) := by decide +kernel
theorem dX10_reverses_109 : decode cX10_reverses 109 = .ok (.return_, 1) := by decide +kernel
theorem dX10_reverses_110 : decode cX10_reverses 110 = .ok (.aload_n 0, 1) := by decide +kernel
theorem dX10_reverses_111 : decode cX10_reverses 111 = .ok (.iload_n 1, 1) := by decide +kernel
theorem dX10_reverses_112 : decode cX10_reverses 112 = .ok (.putfield 175, 3) := by decide +kernel
theorem dX10_reverses_115 : decode cX10_reverses 115 = .ok (.iload_n 2, 1) := by decide +kernel
theorem dX10_reverses_116 : decode cX10_reverses 116 = .ok (.iconst 1, 1) := by decide +kernel
theorem dX10_reverses_117 : decode cX10_reverses 117 = .ok (.isub, 1) := by decide +kernel
theorem dX10_reverses_118 : decode cX10_reverses 118 = .ok (.istore 4, 2) := by decide +kernel
theorem dX10_reverses_120 : decode cX10_reverses 120 = .ok (.iload 4, 2) := by decide +kernel
theorem dX10_reverses_122 : decode cX10_reverses 122 = .ok (.ifCond .lt 84, 3) := by decide +kernel
theorem dX10_reverses_125 : decode cX10_reverses 125 = .ok (.aload_n 0, 1) := by decide +kernel
theorem dX10_reverses_126 : decode cX10_reverses 126 = .ok (.getfield 73, 3) := by decide +kernel
theorem dX10_reverses_129 : decode cX10_reverses 129 = .ok (.iload 4, 2) := by decide +kernel
theorem dX10_reverses_131 : decode cX10_reverses 131 = .ok (.iaload, 1) := by decide +kernel
theorem dX10_reverses_132 : decode cX10_reverses 132 = .ok (.istore 5, 2) := by decide +kernel
theorem dX10_reverses_134 : decode cX10_reverses 134 = .ok (.aload_n 0, 1) := by decide +kernel
theorem dX10_reverses_135 : decode cX10_reverses 135 = .ok (.iload 5, 2) := by decide +kernel
theorem dX10_reverses_137 : decode cX10_reverses 137 = .ok (.iconst 1, 1) := by decide +kernel
theorem dX10_reverses_138 : decode cX10_reverses 138 = .ok (.if_icmp .ne 8, 3) := by decide +kernel
theorem dX10_reverses_141 : decode cX10_reverses 141 = .ok (.bipush 6, 2) := by decide +kernel
theorem dX10_reverses_143 : decode cX10_reverses 143 = .ok (.goto 16, 3) := by decide +kernel
theorem dX10_reverses_146 : decode cX10_reverses 146 = .ok (.iload 5, 2) := by decide +kernel
theorem dX10_reverses_148 : decode cX10_reverses 148 = .ok (.bipush 6, 2) := by decide +kernel
theorem dX10_reverses_150 : decode cX10_reverses 150 = .ok (.if_icmp .ne 7, 3) := by decide +kernel
theorem dX10_reverses_153 : decode cX10_reverses 153 = .ok (.iconst 1, 1) := by decide +kernel
theorem dX10_reverses_154 : decode cX10_reverses 154 = .ok (.goto 5, 3) := by decide +kernel
theorem dX10_reverses_157 : decode cX10_reverses 157 = .ok (.iload 5, 2) := by decide +kernel
theorem dX10_reverses_159 : decode cX10_reverses 159 = .ok (.invokevirtual 238, 3) := by decide +kernel
theorem dX10_reverses_162 : decode cX10_reverses 162 = .ok (.iload 5, 2) := by decide +kernel
theorem dX10_reverses_164 : decode cX10_reverses 164 = .ok (.iconst 2, 1) := by decide +kernel
theorem dX10_reverses_165 : decode cX10_reverses 165 = .ok (.if_icmp .ne 8, 3) := by decide +kernel
theorem dX10_reverses_168 : decode cX10_reverses 168 = .ok (.aload_n 0, 1) := by decide +kernel
theorem dX10_reverses_169 : decode cX10_reverses 169 = .ok (.iconst 4, 1) := by decide +kernel
theorem dX10_reverses_170 : decode cX10_reverses 170 = .ok (.invokevirtual 238, 3) := by decide +kernel
theorem dX10_reverses_173 : decode cX10_reverses 173 = .ok (.iconst 1, 1) := by decide +kernel
theorem dX10_reverses_174 : decode cX10_reverses 174 = .ok (.istore 6, 2) := by decide +kernel
theorem dX10_reverses_176 : decode cX10_reverses 176 = .ok (.iload 6, 2) := by decide +kernel
theorem dX10_reverses_178 : decode cX10_reverses 178 = .ok (.bipush 7, 2) := by decide +kernel
theorem dX10_reverses_180 : decode cX10_reverses 180 = .ok (.if_icmp .ge 20, 3) := by decide +kernel
theorem dX10_reverses_183 : decode cX10_reverses 183 = .ok (.iload 5, 2) := by decide +kernel
theorem dX10_reverses_185 : decode cX10_reverses 185 = .ok (.iconst 5, 1) := by decide +kernel
theorem dX10_reverses_186 : decode cX10_reverses 186 = .ok (.if_icmp .ne 14, 3) := by decide +kernel
theorem dX10_reverses_189 : decode cX10_reverses 189 = .ok (.aload_n 0, 1) := by decide +kernel
theorem dX10_reverses_190 : decode cX10_reverses 190 = .ok (.iconst 5, 1) := by decide +kernel
theorem dX10_reverses_191 : decode cX10_reverses 191 = .ok (.invokevirtual 238, 3) := by decide +kernel
theorem dX10_reverses_194 : decode cX10_reverses 194 = .ok (.iinc 6 1, 3) := by decide +kernel
theorem dX10_reverses_197 : decode cX10_reverses 197 = .ok (.goto (-21), 3) := by decide +kernel
theorem dX10_reverses_200 : decode cX10_reverses 200 = .ok (.iinc 4 (-1), 3) := by decide +kernel
theorem dX10_reverses_203 : decode cX10_reverses 203 = .ok (.goto (-83), 3) := by decide +kernel
theorem dX10_reverses_206 : decode cX10_reverses 206 = .ok (.return_, 1) := by decide +kernel
theorem dX10_item_0 : decode cX10_item 0 = .ok (.aload_n 0, 1) := by decide +kernel
theorem dX10_item_1 : decode cX10_item 1 = .ok (.invokevirtual 224, 3) := by decide +kernel
theorem dX10_item_4 : decode cX10_item 4 = .ok (.invokestatic 228, 3) := by decide +kernel
theorem dX10_item_7 : decode cX10_item 7 = .ok (.istore_n 1, 1) := by decide +kernel
theorem dX10_item_8 : decode cX10_item 8 = .ok (.iload_n 1, 1) := by decide +kernel
theorem dX10_item_9 : decode cX10_item 9 = .ok (.bipush (-2), 2) := by decide +kernel
theorem dX10_item_11 : decode cX10_item 11 = .ok (.if_icmp .eq 20, 3) := by decide +kernel
theorem dX10_item_14 : decode cX10_item 14 = .ok (.aload_n 0, 1) := by decide +kernel
theorem dX10_item_15 : decode cX10_item 15 = .ok (.dup, 1) := by decide +kernel
theorem dX10_item_16 : decode cX10_item 16 = .ok (.getfield 221, 3) := by decide +kernel
theorem dX10_item_19 : decode cX10_item 19 = .ok (.iconst 1, 1) := by decide +kernel
theorem dX10_item_20 : decode cX10_item 20 = .ok (.iadd, 1) := by decide +kernel
theorem dX10_item_21 : decode cX10_item 21 = .ok (.putfield 221, 3) := by decide +kernel
theorem dX10_item_24 : decode cX10_item 24 = .ok (.aload_n 0, 1) := by decide +kernel
theorem dX10_item_25 : decode cX10_item 25 = .ok (.iload_n 1, 1) := by decide +kernel
theorem dX10_item_26 : decode cX10_item 26 = .ok (.invokevirtual 238, 3) := by decide +kernel
theorem dX10_item_29 : decode cX10_item 29 = .ok (.iconst 1, 1) := by decide +kernel
theorem dX10_item_30 : decode cX10_item 30 = .ok (.ireturn, 1) := by decide +kernel
theorem dX10_item_31 : decode cX10_item 31 = .ok (.aload_n 0, 1) := by decide +kernel
theorem dX10_item_32 : decode cX10_item 32 = .ok (.getfield 175, 3) := by decide +kernel
theorem dX10_item_35 : decode cX10_item 35 = .ok (.istore_n 2, 1) := by decide +kernel
theorem dX10_item_36 : decode cX10_item 36 = .ok (.aload_n 0, 1) := by decide +kernel
theorem dX10_item_37 : decode cX10_item 37 = .ok (.invokevirtual 224, 3) := by decide +kernel
theorem dX10_item_40 : decode cX10_item 40 = .ok (.bipush 126, 2) := by decide +kernel
theorem dX10_item_42 : decode cX10_item 42 = .ok (.if_icmp .ne 36, 3) := by decide +kernel
theorem dX10_item_45 : decode cX10_item 45 = .ok (.aload_n 0, 1) := by decide +kernel
theorem dX10_item_46 : decode cX10_item 46 = .ok (.dup, 1) := by decide +kernel
theorem dX10_item_47 : decode cX10_item 47 = .ok (.getfield 221, 3) := by decide +kernel
theorem dX10_item_50 : decode cX10_item 50 = .ok (.iconst 1, 1) := by decide +kernel
theorem dX10_item_51 : decode cX10_item 51 = .ok (.iadd, 1) := by decide +kernel
theorem dX10_item_52 : decode cX10_item 52 = .ok (.putfield 221, 3) := by decide +kernel
theorem dX10_item_55 : decode cX10_item 55 = .ok (.aload_n 0, 1) := by decide +kernel
theorem dX10_item_56 : decode cX10_item 56 = .ok (.invokevirtual 241, 3) := by decide +kernel
theorem dX10_item_59 : decode cX10_item 59 = .ok (.ifCond .eq 10, 3) := by decide +kernel
theorem dX10_item_62 : decode cX10_item 62 = .ok (.aload_n 0, 1) := by decide +kernel
theorem dX10_item_63 : decode cX10_item 63 = .ok (.invokevirtual 245, 3) := by decide +kernel
theorem dX10_item_66 : decode cX10_item 66 = .ok (.ifCond .ne 5, 3) := by decide +kernel
theorem dX10_item_69 : decode cX10_item 69 = .ok (.iconst 0, 1) := by decide +kernel
theorem dX10_item_70 : decode cX10_item 70 = .ok (.ireturn, 1) := by decide +kernel
theorem dX10_item_71 : decode cX10_item 71 = .ok (.aload_n 0, 1) := by decide +kernel
theorem dX10_item_72 : decode cX10_item 72 = .ok (.iload_n 2, 1) := by decide +kernel
theorem dX10_item_73 : decode cX10_item 73 = .ok (.invokevirtual 248, 3) := by decide +kernel
theorem dX10_item_76 : decode cX10_item 76 = .ok (.iconst 1, 1) := by decide +kernel
theorem dX10_item_77 : decode cX10_item 77 = .ok (.ireturn, 1) := by decide +kernel
theorem dX10_item_78 : decode cX10_item 78 = .ok (.aload_n 0, 1) := by decide +kernel
theorem dX10_item_79 : decode cX10_item 79 = .ok (.dup, 1) := by decide +kernel
theorem dX10_item_80 : decode cX10_item 80 = .ok (.getfield 231, 3) := by decide +kernel
theorem dX10_item_83 : decode cX10_item 83 = .ok (.iconst 1, 1) := by decide +kernel
theorem dX10_item_84 : decode cX10_item 84 = .ok (.iadd, 1) := by decide +kernel
theorem dX10_item_85 : decode cX10_item 85 = .ok (.putfield 231, 3) := by decide +kernel
theorem dX10_item_88 : decode cX10_item 88 = .ok (.aload_n 0, 1) := by decide +kernel
theorem dX10_item_89 : decode cX10_item 89 = .ok (.dup, 1) := by decide +kernel
theorem dX10_item_90 : decode cX10_item 90 = .ok (.getfield 221, 3) := by decide +kernel
theorem dX10_item_93 : decode cX10_item 93 = .ok (.iconst 1, 1) := by decide +kernel
theorem dX10_item_94 : decode cX10_item 94 = .ok (.iadd, 1) := by decide +kernel
theorem dX10_item_95 : decode cX10_item 95 = .ok (.putfield 221, 3) := by decide +kernel
theorem dX10_item_98 : decode cX10_item 98 = .ok (.aload_n 0, 1) := by decide +kernel
theorem dX10_item_99 : decode cX10_item 99 = .ok (.invokevirtual 251, 3) := by decide +kernel
theorem dX10_item_102 : decode cX10_item 102 = .ok (.ifCond .eq 12, 3) := by decide +kernel
theorem dX10_item_105 : decode cX10_item 105 = .ok (.aload_n 0, 1) := by decide +kernel
theorem dX10_item_106 : decode cX10_item 106 = .ok (.invokevirtual 224, 3) := by decide +kernel
theorem dX10_item_109 : decode cX10_item 109 = .ok (.bipush 41, 2) := by decide +kernel
theorem dX10_item_111 : decode cX10_item 111 = .ok (.if_icmp .eq 5, 3) := by decide +kernel
theorem dX10_item_114 : decode cX10_item 114 = .ok (.iconst 0, 1) := by decide +kernel
theorem dX10_item_115 : decode cX10_item 115 = .ok (.ireturn, 1) := by decide +kernel
theorem dX10_item_116 : decode cX10_item 116 = .ok (.aload_n 0, 1) := by decide +kernel
theorem dX10_item_117 : decode cX10_item 117 = .ok (.dup, 1) := by decide +kernel
theorem dX10_item_118 : decode cX10_item 118 = .ok (.getfield 231, 3) := by decide +kernel
theorem dX10_item_121 : decode cX10_item 121 = .ok (.iconst 1, 1) := by decide +kernel
theorem dX10_item_122 : decode cX10_item 122 = .ok (.isub, 1) := by decide +kernel
theorem dX10_item_123 : decode cX10_item 123 = .ok (.putfield 231, 3) := by decide +kernel
theorem dX10_item_126 : decode cX10_item 126 = .ok (.aload_n 0, 1) := by decide +kernel
theorem dX10_item_127 : decode cX10_item 127 = .ok (.dup, 1) := by decide +kernel
theorem dX10_item_128 : decode cX10_item 128 = .ok (.getfield 221, 3) := by decide +kernel
theorem dX10_item_131 : decode cX10_item 131 = .ok (.iconst 1, 1) := by decide +kernel
theorem dX10_item_132 : decode cX10_item 132 = .ok (.iadd, 1) := by decide +kernel
theorem dX10_item_133 : decode cX10_item 133 = .ok (.putfield 221, 3) := by decide +kernel
theorem dX10_item_136 : decode cX10_item 136 = .ok (.iconst 1, 1) := by decide +kernel
theorem dX10_item_137 : decode cX10_item 137 = .ok (.istore_n 3, 1) := by decide +kernel
theorem dX10_item_138 : decode cX10_item 138 = .ok (.aload_n 0, 1) := by decide +kernel
theorem dX10_item_139 : decode cX10_item 139 = .ok (.invokevirtual 224, 3) := by decide +kernel
theorem dX10_item_142 : decode cX10_item 142 = .ok (.i2l, 1) := by decide +kernel
theorem dX10_item_143 : decode cX10_item 143 = .ok (.ldc2_w 254, 3) := by decide +kernel
theorem dX10_item_146 : decode cX10_item 146 = .ok (.ldc2_w 256, 3) := by decide +kernel
theorem dX10_item_149 : decode cX10_item 149 = .ok (.invokestatic 120, 3) := by decide +kernel
theorem dX10_item_152 : decode cX10_item 152 = .ok (.ifCond .eq 21, 3) := by decide +kernel
theorem dX10_item_155 : decode cX10_item 155 = .ok (.aload_n 0, 1) := by decide +kernel
theorem dX10_item_156 : decode cX10_item 156 = .ok (.invokevirtual 224, 3) := by decide +kernel
theorem dX10_item_159 : decode cX10_item 159 = .ok (.bipush 48, 2) := by decide +kernel
theorem dX10_item_161 : decode cX10_item 161 = .ok (.isub, 1) := by decide +kernel
theorem dX10_item_162 : decode cX10_item 162 = .ok (.istore_n 3, 1) := by decide +kernel
theorem dX10_item_163 : decode cX10_item 163 = .ok (.aload_n 0, 1) := by decide +kernel
theorem dX10_item_164 : decode cX10_item 164 = .ok (.dup, 1) := by decide +kernel
theorem dX10_item_165 : decode cX10_item 165 = .ok (.getfield 221, 3) := by decide +kernel
theorem dX10_item_168 : decode cX10_item 168 = .ok (.iconst 1, 1) := by decide +kernel
theorem dX10_item_169 : decode cX10_item 169 = .ok (.iadd, 1) := by decide +kernel
theorem dX10_item_170 : decode cX10_item 170 = .ok (.putfield 221, 3) := by decide +kernel
theorem dX10_item_173 : decode cX10_item 173 = .ok (.aload_n 0, 1) := by decide +kernel
theorem dX10_item_174 : decode cX10_item 174 = .ok (.getfield 175, 3) := by decide +kernel
theorem dX10_item_177 : decode cX10_item 177 = .ok (.iload_n 2, 1) := by decide +kernel
theorem dX10_item_178 : decode cX10_item 178 = .ok (.isub, 1) := by decide +kernel
theorem dX10_item_179 : decode cX10_item 179 = .ok (.istore 4, 2) := by decide +kernel
theorem dX10_item_181 : decode cX10_item 181 = .ok (.aload_n 0, 1) := by decide +kernel
theorem dX10_item_182 : decode cX10_item 182 = .ok (.dup, 1) := by decide +kernel
theorem dX10_item_183 : decode cX10_item 183 = .ok (.getfield 234, 3) := by decide +kernel
theorem dX10_item_186 : decode cX10_item 186 = .ok (.iload 4, 2) := by decide +kernel
theorem dX10_item_188 : decode cX10_item 188 = .ok (.iload_n 3, 1) := by decide +kernel
theorem dX10_item_189 : decode cX10_item 189 = .ok (.imul, 1) := by decide +kernel
theorem dX10_item_190 : decode cX10_item 190 = .ok (.bipush 60, 2) := by decide +kernel
theorem dX10_item_192 : decode cX10_item 192 = .ok (.if_icmp .le 7, 3) := by decide +kernel
theorem dX10_item_195 : decode cX10_item 195 = .ok (.iconst 1, 1) := by decide +kernel
theorem dX10_item_196 : decode cX10_item 196 = .ok (.goto 4, 3) := by decide +kernel
theorem dX10_item_199 : decode cX10_item 199 = .ok (.iconst 0, 1) := by decide +kernel
theorem dX10_item_200 : decode cX10_item 200 = .ok (.ior, 1) := by decide +kernel
theorem dX10_item_201 : decode cX10_item 201 = .ok (.putfield 234, 3) := by decide +kernel
theorem dX10_item_204 : decode cX10_item 204 = .ok (.aload_n 0, 1) := by decide +kernel
theorem dX10_item_205 : decode cX10_item 205 = .ok (.iload_n 3, 1) := by decide +kernel
theorem dX10_item_206 : decode cX10_item 206 = .ok (.ifCond .ne 7, 3) := by decide +kernel
theorem dX10_item_209 : decode cX10_item 209 = .ok (.iload_n 2, 1) := by decide +kernel
theorem dX10_item_210 : decode cX10_item 210 = .ok (.goto 7, 3) := by decide +kernel
theorem dX10_item_213 : decode cX10_item 213 = .ok (.aload_n 0, 1) := by decide +kernel
theorem dX10_item_214 : decode cX10_item 214 = .ok (.getfield 175, 3) := by decide +kernel
theorem dX10_item_217 : decode cX10_item 217 = .ok (.putfield 175, 3) := by decide +kernel
theorem dX10_item_220 : decode cX10_item 220 = .ok (.iload 4, 2) := by decide +kernel
theorem dX10_item_222 : decode cX10_item 222 = .ok (.istore 5, 2) := by decide +kernel
theorem dX10_item_224 : decode cX10_item 224 = .ok (.iload 5, 2) := by decide +kernel
theorem dX10_item_226 : decode cX10_item 226 = .ok (.iload 4, 2) := by decide +kernel
theorem dX10_item_228 : decode cX10_item 228 = .ok (.iload_n 3, 1) := by decide +kernel
theorem dX10_item_229 : decode cX10_item 229 = .ok (.imul, 1) := by decide +kernel
theorem dX10_item_230 : decode cX10_item 230 = .ok (.if_icmp .ge 32, 3) := by decide +kernel
theorem dX10_item_233 : decode cX10_item 233 = .ok (.aload_n 0, 1) := by decide +kernel
theorem dX10_item_234 : decode cX10_item 234 = .ok (.getfield 234, 3) := by decide +kernel
theorem dX10_item_237 : decode cX10_item 237 = .ok (.ifCond .ne 25, 3) := by decide +kernel
theorem dX10_item_240 : decode cX10_item 240 = .ok (.aload_n 0, 1) := by decide +kernel
theorem dX10_item_241 : decode cX10_item 241 = .ok (.aload_n 0, 1) := by decide +kernel
theorem dX10_item_242 : decode cX10_item 242 = .ok (.getfield 58, 3) := by decide +kernel
theorem dX10_item_245 : decode cX10_item 245 = .ok (.iload_n 2, 1) := by decide +kernel
theorem dX10_item_246 : decode cX10_item 246 = .ok (.iload 5, 2) := by decide +kernel
theorem dX10_item_248 : decode cX10_item 248 = .ok (.iadd, 1) := by decide +kernel
theorem dX10_item_249 : decode cX10_item 249 = .ok (.iload 4, 2) := by decide +kernel
theorem dX10_item_251 : decode cX10_item 251 = .ok (.isub, 1) := by decide +kernel
theorem dX10_item_252 : decode cX10_item 252 = .ok (.iaload, 1) := by decide +kernel
theorem dX10_item_253 : decode cX10_item 253 = .ok (.invokevirtual 238, 3) := by decide +kernel
theorem dX10_item_256 : decode cX10_item 256 = .ok (.iinc 5 1, 3) := by decide +kernel
theorem dX10_item_259 : decode cX10_item 259 = .ok (.goto (-35), 3) := by decide +kernel
theorem dX10_item_262 : decode cX10_item 262 = .ok (.iconst 1, 1) := by decide +kernel
theorem dX10_item_263 : decode cX10_item 263 = .ok (.ireturn, 1) := by decide +kernel
theorem dX10_items_0 : decode cX10_items 0 = .ok (.aload_n 0, 1) := by decide +kernel
theorem dX10_items_1 : decode cX10_items 1 = .ok (.invokevirtual 241, 3) := by decide +kernel
theorem dX10_items_4 : decode cX10_items 4 = .ok (.ifCond .ne 5, 3) := by decide +kernel
theorem dX10_items_7 : decode cX10_items 7 = .ok (.iconst 0, 1) := by decide +kernel
theorem dX10_items_8 : decode cX10_items 8 = .ok (.ireturn, 1) := by decide +kernel
theorem dX10_items_9 : decode cX10_items 9 = .ok (.iconst 1, 1) := by decide +kernel
theorem dX10_items_10 : decode cX10_items 10 = .ok (.istore_n 1, 1) := by decide +kernel
theorem dX10_items_11 : decode cX10_items 11 = .ok (.aload_n 0, 1) := by decide +kernel
theorem dX10_items_12 : decode cX10_items 12 = .ok (.getfield 175, 3) := by decide +kernel
theorem dX10_items_15 : decode cX10_items 15 = .ok (.istore_n 2, 1) := by decide +kernel
theorem dX10_items_16 : decode cX10_items 16 = .ok (.iload_n 1, 1) := by decide +kernel
theorem dX10_items_17 : decode cX10_items 17 = .ok (.ifCond .eq 43, 3) := by decide +kernel
theorem dX10_items_20 : decode cX10_items 20 = .ok (.aload_n 0, 1) := by decide +kernel
theorem dX10_items_21 : decode cX10_items 21 = .ok (.invokevirtual 241, 3) := by decide +kernel
theorem dX10_items_24 : decode cX10_items 24 = .ok (.ifCond .eq 36, 3) := by decide +kernel
theorem dX10_items_27 : decode cX10_items 27 = .ok (.aload_n 0, 1) := by decide +kernel
theorem dX10_items_28 : decode cX10_items 28 = .ok (.invokevirtual 245, 3) := by decide +kernel
theorem dX10_items_31 : decode cX10_items 31 = .ok (.istore_n 1, 1) := by decide +kernel
theorem dX10_items_32 : decode cX10_items 32 = .ok (.aload_n 0, 1) := by decide +kernel
theorem dX10_items_33 : decode cX10_items 33 = .ok (.dup, 1) := by decide +kernel
theorem dX10_items_34 : decode cX10_items 34 = .ok (.getfield 234, 3) := by decide +kernel
theorem dX10_items_37 : decode cX10_items 37 = .ok (.aload_n 0, 1) := by decide +kernel
theorem dX10_items_38 : decode cX10_items 38 = .ok (.getfield 175, 3) := by decide +kernel
theorem dX10_items_41 : decode cX10_items 41 = .ok (.iload_n 2, 1) := by decide +kernel
theorem dX10_items_42 : decode cX10_items 42 = .ok (.isub, 1) := by decide +kernel
theorem dX10_items_43 : decode cX10_items 43 = .ok (.bipush 60, 2) := by decide +kernel
theorem dX10_items_45 : decode cX10_items 45 = .ok (.if_icmp .le 7, 3) := by decide +kernel
theorem dX10_items_48 : decode cX10_items 48 = .ok (.iconst 1, 1) := by decide +kernel
theorem dX10_items_49 : decode cX10_items 49 = .ok (.goto 4, 3) := by decide +kernel
theorem dX10_items_52 : decode cX10_items 52 = .ok (.iconst 0, 1) := by decide +kernel
theorem dX10_items_53 : decode cX10_items 53 = .ok (.ior, 1) := by decide +kernel
theorem dX10_items_54 : decode cX10_items 54 = .ok (.putfield 234, 3) := by decide +kernel
theorem dX10_items_57 : decode cX10_items 57 = .ok (.goto (-41), 3) := by decide +kernel
theorem dX10_items_60 : decode cX10_items 60 = .ok (.iload_n 1, 1) := by decide +kernel
theorem dX10_items_61 : decode cX10_items 61 = .ok (.ireturn, 1) := by decide +kernel
theorem dX10_write_0 : decode cX10_write 0 = .ok (.iload_n 1, 1) := by decide +kernel
theorem dX10_write_1 : decode cX10_write 1 = .ok (.invokestatic 187, 3) := by decide +kernel
theorem dX10_write_4 : decode cX10_write 4 = .ok (.ifCond .ne 5, 3) := by decide +kernel
theorem dX10_write_7 : decode cX10_write 7 = .ok (.iconst (-1), 1) := by decide +kernel
theorem dX10_write_8 : decode cX10_write 8 = .ok (.ireturn, 1) := by decide +kernel
theorem dX10_write_9 : decode cX10_write 9 = .ok (.aload_n 0, 1) := by decide +kernel
theorem dX10_write_10 : decode cX10_write 10 = .ok (.iconst 0, 1) := by decide +kernel
theorem dX10_write_11 : decode cX10_write 11 = .ok (.putfield 221, 3) := by decide +kernel
theorem dX10_write_14 : decode cX10_write 14 = .ok (.aload_n 0, 1) := by decide +kernel
theorem dX10_write_15 : decode cX10_write 15 = .ok (.iconst 0, 1) := by decide +kernel
theorem dX10_write_16 : decode cX10_write 16 = .ok (.putfield 231, 3) := by decide +kernel
theorem dX10_write_19 : decode cX10_write 19 = .ok (.aload_n 0, 1) := by decide +kernel
theorem dX10_write_20 : decode cX10_write 20 = .ok (.iconst 0, 1) := by decide +kernel
theorem dX10_write_21 : decode cX10_write 21 = .ok (.putfield 175, 3) := by decide +kernel
theorem dX10_write_24 : decode cX10_write 24 = .ok (.aload_n 0, 1) := by decide +kernel
theorem dX10_write_25 : decode cX10_write 25 = .ok (.iconst 0, 1) := by decide +kernel
theorem dX10_write_26 : decode cX10_write 26 = .ok (.putfield 234, 3) := by decide +kernel
