theorem dX12_settles_51 : decode cX12_settles 51 = .ok (.putfield 211, 3) := by decide +kernel
theorem dX12_settles_54 : decode cX12_settles 54 = .ok (.goto (-54), 3) := by decide +kernel
theorem dX12_settles_57 : decode cX12_settles 57 = .ok (.return_, 1) := by decide +kernel
theorem dX12_readAny_0 : decode cX12_readAny 0 = .ok (.iconst 0, 1) := by decide +kernel
theorem dX12_readAny_1 : decode cX12_readAny 1 = .ok (.istore_n 1, 1) := by decide +kernel
theorem dX12_readAny_2 : decode cX12_readAny 2 = .ok (.aload_n 0, 1) := by decide +kernel
theorem dX12_readAny_3 : decode cX12_readAny 3 = .ok (.iconst 0, 1) := by decide +kernel
theorem dX12_readAny_4 : decode cX12_readAny 4 = .ok (.putfield 208, 3) := by decide +kernel
theorem dX12_readAny_7 : decode cX12_readAny 7 = .ok (.iconst 1, 1) := by decide +kernel
theorem dX12_readAny_8 : decode cX12_readAny 8 = .ok (.istore_n 2, 1) := by decide +kernel
theorem dX12_readAny_9 : decode cX12_readAny 9 = .ok (.iload_n 2, 1) := by decide +kernel
theorem dX12_readAny_10 : decode cX12_readAny 10 = .ok (.ifCond .eq 99, 3) := by decide +kernel
theorem dX12_readAny_13 : decode cX12_readAny 13 = .ok (.aload_n 0, 1) := by decide +kernel
theorem dX12_readAny_14 : decode cX12_readAny 14 = .ok (.bipush 6, 2) := by decide +kernel
theorem dX12_readAny_16 : decode cX12_readAny 16 = .ok (.invokevirtual 214, 3) := by decide +kernel
theorem dX12_readAny_19 : decode cX12_readAny 19 = .ok (.istore_n 3, 1) := by decide +kernel
theorem dX12_readAny_20 : decode cX12_readAny 20 = .ok (.iload_n 3, 1) := by decide +kernel
theorem dX12_readAny_21 : decode cX12_readAny 21 = .ok (.ifCond .ne 12, 3) := by decide +kernel
theorem dX12_readAny_24 : decode cX12_readAny 24 = .ok (.aload_n 0, 1) := by decide +kernel
theorem dX12_readAny_25 : decode cX12_readAny 25 = .ok (.bipush 40, 2) := by decide +kernel
theorem dX12_readAny_27 : decode cX12_readAny 27 = .ok (.invokevirtual 199, 3) := by decide +kernel
theorem dX12_readAny_30 : decode cX12_readAny 30 = .ok (.ifCond .eq 58, 3) := by decide +kernel
theorem dX12_readAny_33 : decode cX12_readAny 33 = .ok (.aload_n 0, 1) := by decide +kernel
theorem dX12_readAny_34 : decode cX12_readAny 34 = .ok (.getfield 211, 3) := by decide +kernel
theorem dX12_readAny_37 : decode cX12_readAny 37 = .ok (.bipush 8, 2) := by decide +kernel
theorem dX12_readAny_39 : decode cX12_readAny 39 = .ok (.if_icmp .ne 9, 3) := by decide +kernel
theorem dX12_readAny_42 : decode cX12_readAny 42 = .ok (.aload_n 0, 1) := by decide +kernel
theorem dX12_readAny_43 : decode cX12_readAny 43 = .ok (.iconst 3, 1) := by decide +kernel
theorem dX12_readAny_44 : decode cX12_readAny 44 = .ok (.invokevirtual 185, 3) := by decide +kernel
theorem dX12_readAny_47 : decode cX12_readAny 47 = .ok (.ireturn, 1) := by decide +kernel
theorem dX12_readAny_48 : decode cX12_readAny 48 = .ok (.aload_n 0, 1) := by decide +kernel
theorem dX12_readAny_49 : decode cX12_readAny 49 = .ok (.aload_n 0, 1) := by decide +kernel
theorem dX12_readAny_50 : decode cX12_readAny 50 = .ok (.getfield 211, 3) := by decide +kernel
theorem dX12_readAny_53 : decode cX12_readAny 53 = .ok (.iconst 1, 1) := by decide +kernel
theorem dX12_readAny_54 : decode cX12_readAny 54 = .ok (.iadd, 1) := by decide +kernel
theorem dX12_readAny_55 : decode cX12_readAny 55 = .ok (.putfield 211, 3) := by decide +kernel
theorem dX12_readAny_58 : decode cX12_readAny 58 = .ok (.iload_n 3, 1) := by decide +kernel
theorem dX12_readAny_59 : decode cX12_readAny 59 = .ok (.ifCond .ne 7, 3) := by decide +kernel
theorem dX12_readAny_62 : decode cX12_readAny 62 = .ok (.iload_n 1, 1) := by decide +kernel
theorem dX12_readAny_63 : decode cX12_readAny 63 = .ok (.iconst 1, 1) := by decide +kernel
theorem dX12_readAny_64 : decode cX12_readAny 64 = .ok (.iadd, 1) := by decide +kernel
theorem dX12_readAny_65 : decode cX12_readAny 65 = .ok (.istore_n 1, 1) := by decide +kernel
theorem dX12_readAny_66 : decode cX12_readAny 66 = .ok (.aload_n 0, 1) := by decide +kernel
theorem dX12_readAny_67 : decode cX12_readAny 67 = .ok (.iload_n 3, 1) := by decide +kernel
theorem dX12_readAny_68 : decode cX12_readAny 68 = .ok (.ifCond .eq 8, 3) := by decide +kernel
theorem dX12_readAny_71 : decode cX12_readAny 71 = .ok (.bipush 9, 2) := by decide +kernel
theorem dX12_readAny_73 : decode cX12_readAny 73 = .ok (.goto 5, 3) := by decide +kernel
theorem dX12_readAny_76 : decode cX12_readAny 76 = .ok (.bipush 12, 2) := by decide +kernel
theorem dX12_readAny_78 : decode cX12_readAny 78 = .ok (.invokevirtual 217, 3) := by decide +kernel
theorem dX12_readAny_81 : decode cX12_readAny 81 = .ok (.aload_n 0, 1) := by decide +kernel
theorem dX12_readAny_82 : decode cX12_readAny 82 = .ok (.invokevirtual 192, 3) := by decide +kernel
theorem dX12_readAny_85 : decode cX12_readAny 85 = .ok (.goto (-76), 3) := by decide +kernel
theorem dX12_readAny_88 : decode cX12_readAny 88 = .ok (.aload_n 0, 1) := by decide +kernel
theorem dX12_readAny_89 : decode cX12_readAny 89 = .ok (.invokevirtual 220, 3) := by decide +kernel
theorem dX12_readAny_92 : decode cX12_readAny 92 = .ok (.iconst (-1), 1) := by decide +kernel
theorem dX12_readAny_93 : decode cX12_readAny 93 = .ok (.if_icmp .ne 5, 3) := by decide +kernel
theorem dX12_readAny_96 : decode cX12_readAny 96 = .ok (.iconst (-1), 1) := by decide +kernel
theorem dX12_readAny_97 : decode cX12_readAny 97 = .ok (.ireturn, 1) := by decide +kernel
theorem dX12_readAny_98 : decode cX12_readAny 98 = .ok (.aload_n 0, 1) := by decide +kernel
theorem dX12_readAny_99 : decode cX12_readAny 99 = .ok (.bipush 9, 2) := by decide +kernel
theorem dX12_readAny_101 : decode cX12_readAny 101 = .ok (.invokevirtual 223, 3) := by decide +kernel
theorem dX12_readAny_104 : decode cX12_readAny 104 = .ok (.iconst 0, 1) := by decide +kernel
theorem dX12_readAny_105 : decode cX12_readAny 105 = .ok (.istore_n 2, 1) := by decide +kernel
theorem dX12_readAny_106 : decode cX12_readAny 106 = .ok (.goto (-97), 3) := by decide +kernel
theorem dX12_readAny_109 : decode cX12_readAny 109 = .ok (.aload_n 0, 1) := by decide +kernel
theorem dX12_readAny_110 : decode cX12_readAny 110 = .ok (.iconst 5, 1) := by decide +kernel
theorem dX12_readAny_111 : decode cX12_readAny 111 = .ok (.invokevirtual 214, 3) := by decide +kernel
theorem dX12_readAny_114 : decode cX12_readAny 114 = .ok (.ifCond .eq 24, 3) := by decide +kernel
theorem dX12_readAny_117 : decode cX12_readAny 117 = .ok (.aload_n 0, 1) := by decide +kernel
theorem dX12_readAny_118 : decode cX12_readAny 118 = .ok (.bipush 10, 2) := by decide +kernel
theorem dX12_readAny_120 : decode cX12_readAny 120 = .ok (.invokevirtual 223, 3) := by decide +kernel
theorem dX12_readAny_123 : decode cX12_readAny 123 = .ok (.aload_n 0, 1) := by decide +kernel
theorem dX12_readAny_124 : decode cX12_readAny 124 = .ok (.bipush 10, 2) := by decide +kernel
theorem dX12_readAny_126 : decode cX12_readAny 126 = .ok (.invokevirtual 217, 3) := by decide +kernel
theorem dX12_readAny_129 : decode cX12_readAny 129 = .ok (.aload_n 0, 1) := by decide +kernel
theorem dX12_readAny_130 : decode cX12_readAny 130 = .ok (.invokevirtual 192, 3) := by decide +kernel
theorem dX12_readAny_133 : decode cX12_readAny 133 = .ok (.iconst 1, 1) := by decide +kernel
theorem dX12_readAny_134 : decode cX12_readAny 134 = .ok (.istore_n 2, 1) := by decide +kernel
theorem dX12_readAny_135 : decode cX12_readAny 135 = .ok (.goto (-126), 3) := by decide +kernel
theorem dX12_readAny_138 : decode cX12_readAny 138 = .ok (.aload_n 0, 1) := by decide +kernel
theorem dX12_readAny_139 : decode cX12_readAny 139 = .ok (.iconst 4, 1) := by decide +kernel
theorem dX12_readAny_140 : decode cX12_readAny 140 = .ok (.invokevirtual 214, 3) := by decide +kernel
theorem dX12_readAny_143 : decode cX12_readAny 143 = .ok (.ifCond .eq 30, 3) := by decide +kernel
theorem dX12_readAny_146 : decode cX12_readAny 146 = .ok (.aload_n 0, 1) := by decide +kernel
theorem dX12_readAny_147 : decode cX12_readAny 147 = .ok (.bipush 10, 2) := by decide +kernel
theorem dX12_readAny_149 : decode cX12_readAny 149 = .ok (.invokevirtual 223, 3) := by decide +kernel
theorem dX12_readAny_152 : decode cX12_readAny 152 = .ok (.aload_n 0, 1) := by decide +kernel
theorem dX12_readAny_153 : decode cX12_readAny 153 = .ok (.bipush 11, 2) := by decide +kernel
theorem dX12_readAny_155 : decode cX12_readAny 155 = .ok (.invokevirtual 223, 3) := by decide +kernel
theorem dX12_readAny_158 : decode cX12_readAny 158 = .ok (.aload_n 0, 1) := by decide +kernel
theorem dX12_readAny_159 : decode cX12_readAny 159 = .ok (.bipush 11, 2) := by decide +kernel
theorem dX12_readAny_161 : decode cX12_readAny 161 = .ok (.invokevirtual 217, 3) := by decide +kernel
theorem dX12_readAny_164 : decode cX12_readAny 164 = .ok (.aload_n 0, 1) := by decide +kernel
theorem dX12_readAny_165 : decode cX12_readAny 165 = .ok (.invokevirtual 192, 3) := by decide +kernel
theorem dX12_readAny_168 : decode cX12_readAny 168 = .ok (.iconst 1, 1) := by decide +kernel
theorem dX12_readAny_169 : decode cX12_readAny 169 = .ok (.istore_n 2, 1) := by decide +kernel
theorem dX12_readAny_170 : decode cX12_readAny 170 = .ok (.goto (-161), 3) := by decide +kernel
theorem dX12_readAny_173 : decode cX12_readAny 173 = .ok (.aload_n 0, 1) := by decide +kernel
theorem dX12_readAny_174 : decode cX12_readAny 174 = .ok (.bipush 10, 2) := by decide +kernel
theorem dX12_readAny_176 : decode cX12_readAny 176 = .ok (.invokevirtual 223, 3) := by decide +kernel
theorem dX12_readAny_179 : decode cX12_readAny 179 = .ok (.aload_n 0, 1) := by decide +kernel
theorem dX12_readAny_180 : decode cX12_readAny 180 = .ok (.bipush 11, 2) := by decide +kernel
theorem dX12_readAny_182 : decode cX12_readAny 182 = .ok (.invokevirtual 223, 3) := by decide +kernel
theorem dX12_readAny_185 : decode cX12_readAny 185 = .ok (.iload_n 1, 1) := by decide +kernel
theorem dX12_readAny_186 : decode cX12_readAny 186 = .ok (.ifCond .ne 5, 3) := by decide +kernel
theorem dX12_readAny_189 : decode cX12_readAny 189 = .ok (.iconst 0, 1) := by decide +kernel
theorem dX12_readAny_190 : decode cX12_readAny 190 = .ok (.ireturn, 1) := by decide +kernel
theorem dX12_readAny_191 : decode cX12_readAny 191 = .ok (.aload_n 0, 1) := by decide +kernel
theorem dX12_readAny_192 : decode cX12_readAny 192 = .ok (.bipush 41, 2) := by decide +kernel
theorem dX12_readAny_194 : decode cX12_readAny 194 = .ok (.invokevirtual 199, 3) := by decide +kernel
theorem dX12_readAny_197 : decode cX12_readAny 197 = .ok (.ifCond .ne 9, 3) := by decide +kernel
theorem dX12_readAny_200 : decode cX12_readAny 200 = .ok (.aload_n 0, 1) := by decide +kernel
theorem dX12_readAny_201 : decode cX12_readAny 201 = .ok (.iconst 1, 1) := by decide +kernel
theorem dX12_readAny_202 : decode cX12_readAny 202 = .ok (.invokevirtual 185, 3) := by decide +kernel
theorem dX12_readAny_205 : decode cX12_readAny 205 = .ok (.ireturn, 1) := by decide +kernel
theorem dX12_readAny_206 : decode cX12_readAny 206 = .ok (.aload_n 0, 1) := by decide +kernel
theorem dX12_readAny_207 : decode cX12_readAny 207 = .ok (.aload_n 0, 1) := by decide +kernel
theorem dX12_readAny_208 : decode cX12_readAny 208 = .ok (.getfield 208, 3) := by decide +kernel
theorem dX12_readAny_211 : decode cX12_readAny 211 = .ok (.iconst 1, 1) := by decide +kernel
theorem dX12_readAny_212 : decode cX12_readAny 212 = .ok (.isub, 1) := by decide +kernel
theorem dX12_readAny_213 : decode cX12_readAny 213 = .ok (.putfield 208, 3) := by decide +kernel
theorem dX12_readAny_216 : decode cX12_readAny 216 = .ok (.iload_n 1, 1) := by decide +kernel
theorem dX12_readAny_217 : decode cX12_readAny 217 = .ok (.iconst 1, 1) := by decide +kernel
theorem dX12_readAny_218 : decode cX12_readAny 218 = .ok (.isub, 1) := by decide +kernel
theorem dX12_readAny_219 : decode cX12_readAny 219 = .ok (.istore_n 1, 1) := by decide +kernel
theorem dX12_readAny_220 : decode cX12_readAny 220 = .ok (.aload_n 0, 1) := by decide +kernel
theorem dX12_readAny_221 : decode cX12_readAny 221 = .ok (.aload_n 0, 1) := by decide +kernel
theorem dX12_readAny_222 : decode cX12_readAny 222 = .ok (.getfield 211, 3) := by decide +kernel
theorem dX12_readAny_225 : decode cX12_readAny 225 = .ok (.iconst 1, 1) := by decide +kernel
theorem dX12_readAny_226 : decode cX12_readAny 226 = .ok (.isub, 1) := by decide +kernel
theorem dX12_readAny_227 : decode cX12_readAny 227 = .ok (.putfield 211, 3) := by decide +kernel
theorem dX12_readAny_230 : decode cX12_readAny 230 = .ok (.aload_n 0, 1) := by decide +kernel
theorem dX12_readAny_231 : decode cX12_readAny 231 = .ok (.bipush 9, 2) := by decide +kernel
theorem dX12_readAny_233 : decode cX12_readAny 233 = .ok (.invokevirtual 223, 3) := by decide +kernel
theorem dX12_readAny_236 : decode cX12_readAny 236 = .ok (.aload_n 0, 1) := by decide +kernel
theorem dX12_readAny_237 : decode cX12_readAny 237 = .ok (.invokevirtual 192, 3) := by decide +kernel
theorem dX12_readAny_240 : decode cX12_readAny 240 = .ok (.goto (-231), 3) := by decide +kernel
theorem dX12_isLineWord_0 : decode cX12_isLineWord 0 = .ok (.aload_n 0, 1) := by decide +kernel
theorem dX12_isLineWord_1 : decode cX12_isLineWord 1 = .ok (.getfield 154, 3) := by decide +kernel
theorem dX12_isLineWord_4 : decode cX12_isLineWord 4 = .ok (.iconst 2, 1) := by decide +kernel
theorem dX12_isLineWord_5 : decode cX12_isLineWord 5 = .ok (.if_icmp .ne 20, 3) := by decide +kernel
theorem dX12_isLineWord_8 : decode cX12_isLineWord 8 = .ok (.aload_n 0, 1) := by decide +kernel
theorem dX12_isLineWord_9 : decode cX12_isLineWord 9 = .ok (.aload_n 0, 1) := by decide +kernel
theorem dX12_isLineWord_10 : decode cX12_isLineWord 10 = .ok (.getfield 157, 3) := by decide +kernel
theorem dX12_isLineWord_13 : decode cX12_isLineWord 13 = .ok (.iconst 0, 1) := by decide +kernel
theorem dX12_isLineWord_14 : decode cX12_isLineWord 14 = .ok (.iconst 2, 1) := by decide +kernel
theorem dX12_isLineWord_15 : decode cX12_isLineWord 15 = .ok (.invokevirtual 122, 3) := by decide +kernel
theorem dX12_isLineWord_18 : decode cX12_isLineWord 18 = .ok (.ifCond .eq 7, 3) := by decide +kernel
theorem dX12_isLineWord_21 : decode cX12_isLineWord 21 = .ok (.iconst 1, 1) := by decide +kernel
theorem dX12_isLineWord_22 : decode cX12_isLineWord 22 = .ok (.goto 4, 3) := by decide +kernel
theorem dX12_isLineWord_25 : decode cX12_isLineWord 25 = .ok (.iconst 0, 1) := by decide +kernel
theorem dX12_isLineWord_26 : decode cX12_isLineWord 26 = .ok (.ireturn, 1) := by decide +kernel
theorem dX12_readLaw_0 : decode cX12_readLaw 0 = .ok (.iconst 0, 1) := by decide +kernel
theorem dX12_readLaw_1 : decode cX12_readLaw 1 = .ok (.istore_n 1, 1) := by decide +kernel
theorem dX12_readLaw_2 : decode cX12_readLaw 2 = .ok (.aload_n 0, 1) := by decide +kernel
theorem dX12_readLaw_3 : decode cX12_readLaw 3 = .ok (.invokevirtual 226, 3) := by decide +kernel
theorem dX12_readLaw_6 : decode cX12_readLaw 6 = .ok (.ifCond .eq 122, 3) := by decide +kernel
theorem dX12_readLaw_9 : decode cX12_readLaw 9 = .ok (.iload_n 1, 1) := by decide +kernel
theorem dX12_readLaw_10 : decode cX12_readLaw 10 = .ok (.bipush 16, 2) := by decide +kernel
theorem dX12_readLaw_12 : decode cX12_readLaw 12 = .ok (.if_icmp .ne 9, 3) := by decide +kernel
theorem dX12_readLaw_15 : decode cX12_readLaw 15 = .ok (.aload_n 0, 1) := by decide +kernel
theorem dX12_readLaw_16 : decode cX12_readLaw 16 = .ok (.iconst 3, 1) := by decide +kernel
theorem dX12_readLaw_17 : decode cX12_readLaw 17 = .ok (.invokevirtual 185, 3) := by decide +kernel
theorem dX12_readLaw_20 : decode cX12_readLaw 20 = .ok (.ireturn, 1) := by decide +kernel
theorem dX12_readLaw_21 : decode cX12_readLaw 21 = .ok (.bipush 32, 2) := by decide +kernel
theorem dX12_readLaw_23 : decode cX12_readLaw 23 = .ok (.iload_n 1, 1) := by decide +kernel
theorem dX12_readLaw_24 : decode cX12_readLaw 24 = .ok (.iadd, 1) := by decide +kernel
theorem dX12_readLaw_25 : decode cX12_readLaw 25 = .ok (.istore_n 2, 1) := by decide +kernel
theorem dX12_readLaw_26 : decode cX12_readLaw 26 = .ok (.aload_n 0, 1) := by decide +kernel
theorem dX12_readLaw_27 : decode cX12_readLaw 27 = .ok (.getfield 34, 3) := by decide +kernel
theorem dX12_readLaw_30 : decode cX12_readLaw 30 = .ok (.iload_n 2, 1) := by decide +kernel
theorem dX12_readLaw_31 : decode cX12_readLaw 31 = .ok (.aload_n 0, 1) := by decide +kernel
theorem dX12_readLaw_32 : decode cX12_readLaw 32 = .ok (.getfield 157, 3) := by decide +kernel
theorem dX12_readLaw_35 : decode cX12_readLaw 35 = .ok (.iastore, 1) := by decide +kernel
theorem dX12_readLaw_36 : decode cX12_readLaw 36 = .ok (.aload_n 0, 1) := by decide +kernel
theorem dX12_readLaw_37 : decode cX12_readLaw 37 = .ok (.invokevirtual 192, 3) := by decide +kernel
theorem dX12_readLaw_40 : decode cX12_readLaw 40 = .ok (.aload_n 0, 1) := by decide +kernel
theorem dX12_readLaw_41 : decode cX12_readLaw 41 = .ok (.getfield 37, 3) := by decide +kernel
theorem dX12_readLaw_44 : decode cX12_readLaw 44 = .ok (.iload_n 2, 1) := by decide +kernel
theorem dX12_readLaw_45 : decode cX12_readLaw 45 = .ok (.aload_n 0, 1) := by decide +kernel
theorem dX12_readLaw_46 : decode cX12_readLaw 46 = .ok (.getfield 179, 3) := by decide +kernel
theorem dX12_readLaw_49 : decode cX12_readLaw 49 = .ok (.iastore, 1) := by decide +kernel
theorem dX12_readLaw_50 : decode cX12_readLaw 50 = .ok (.aload_n 0, 1) := by decide +kernel
theorem dX12_readLaw_51 : decode cX12_readLaw 51 = .ok (.invokevirtual 205, 3) := by decide +kernel
theorem dX12_readLaw_54 : decode cX12_readLaw 54 = .ok (.iconst (-1), 1) := by decide +kernel
theorem dX12_readLaw_55 : decode cX12_readLaw 55 = .ok (.if_icmp .ne 5, 3) := by decide +kernel
theorem dX12_readLaw_58 : decode cX12_readLaw 58 = .ok (.iconst (-1), 1) := by decide +kernel
theorem dX12_readLaw_59 : decode cX12_readLaw 59 = .ok (.ireturn, 1) := by decide +kernel
theorem dX12_readLaw_60 : decode cX12_readLaw 60 = .ok (.aload_n 0, 1) := by decide +kernel
theorem dX12_readLaw_61 : decode cX12_readLaw 61 = .ok (.getfield 40, 3) := by decide +kernel
theorem dX12_readLaw_64 : decode cX12_readLaw 64 = .ok (.iload_n 2, 1) := by decide +kernel
theorem dX12_readLaw_65 : decode cX12_readLaw 65 = .ok (.aload_n 0, 1) := by decide +kernel
theorem dX12_readLaw_66 : decode cX12_readLaw 66 = .ok (.getfield 179, 3) := by decide +kernel
theorem dX12_readLaw_69 : decode cX12_readLaw 69 = .ok (.iastore, 1) := by decide +kernel
theorem dX12_readLaw_70 : decode cX12_readLaw 70 = .ok (.aload_n 0, 1) := by decide +kernel
theorem dX12_readLaw_71 : decode cX12_readLaw 71 = .ok (.iconst 3, 1) := by decide +kernel
theorem dX12_readLaw_72 : decode cX12_readLaw 72 = .ok (.invokevirtual 214, 3) := by decide +kernel
theorem dX12_readLaw_75 : decode cX12_readLaw 75 = .ok (.ifCond .eq 17, 3) := by decide +kernel
theorem dX12_readLaw_78 : decode cX12_readLaw 78 = .ok (.aload_n 0, 1) := by decide +kernel
theorem dX12_readLaw_79 : decode cX12_readLaw 79 = .ok (.invokevirtual 192, 3) := by decide +kernel
theorem dX12_readLaw_82 : decode cX12_readLaw 82 = .ok (.aload_n 0, 1) := by decide +kernel
theorem dX12_readLaw_83 : decode cX12_readLaw 83 = .ok (.invokevirtual 230, 3) := by decide +kernel
theorem dX12_readLaw_86 : decode cX12_readLaw 86 = .ok (.iconst (-1), 1) := by decide +kernel
theorem dX12_readLaw_87 : decode cX12_readLaw 87 = .ok (.if_icmp .ne 5, 3) := by decide +kernel
theorem dX12_readLaw_90 : decode cX12_readLaw 90 = .ok (.iconst (-1), 1) := by decide +kernel
theorem dX12_readLaw_91 : decode cX12_readLaw 91 = .ok (.ireturn, 1) := by decide +kernel
theorem dX12_readLaw_92 : decode cX12_readLaw 92 = .ok (.aload_n 0, 1) := by decide +kernel
theorem dX12_readLaw_93 : decode cX12_readLaw 93 = .ok (.getfield 43, 3) := by decide +kernel
theorem dX12_readLaw_96 : decode cX12_readLaw 96 = .ok (.iload_n 2, 1) := by decide +kernel
theorem dX12_readLaw_97 : decode cX12_readLaw 97 = .ok (.aload_n 0, 1) := by decide +kernel
theorem dX12_readLaw_98 : decode cX12_readLaw 98 = .ok (.getfield 179, 3) := by decide +kernel
theorem dX12_readLaw_101 : decode cX12_readLaw 101 = .ok (.iastore, 1) := by decide +kernel
theorem dX12_readLaw_102 : decode cX12_readLaw 102 = .ok (.aload_n 0, 1) := by decide +kernel
theorem dX12_readLaw_103 : decode cX12_readLaw 103 = .ok (.bipush 59, 2) := by decide +kernel
theorem dX12_readLaw_105 : decode cX12_readLaw 105 = .ok (.invokevirtual 199, 3) := by decide +kernel
theorem dX12_readLaw_108 : decode cX12_readLaw 108 = .ok (.ifCond .ne 9, 3) := by decide +kernel
theorem dX12_readLaw_111 : decode cX12_readLaw 111 = .ok (.aload_n 0, 1) := by decide +kernel
theorem dX12_readLaw_112 : decode cX12_readLaw 112 = .ok (.iconst 1, 1) := by decide +kernel
theorem dX12_readLaw_113 : decode cX12_readLaw 113 = .ok (.invokevirtual 185, 3) := by decide +kernel
theorem dX12_readLaw_116 : decode cX12_readLaw 116 = .ok (.ireturn, 1) := by decide +kernel
theorem dX12_readLaw_117 : decode cX12_readLaw 117 = .ok (.aload_n 0, 1) := by decide +kernel
theorem dX12_readLaw_118 : decode cX12_readLaw 118 = .ok (.invokevirtual 192, 3) := by decide +kernel
theorem dX12_readLaw_121 : decode cX12_readLaw 121 = .ok (.iload_n 1, 1) := by decide +kernel
theorem dX12_readLaw_122 : decode cX12_readLaw 122 = .ok (.iconst 1, 1) := by decide +kernel
theorem dX12_readLaw_123 : decode cX12_readLaw 123 = .ok (.iadd, 1) := by decide +kernel
theorem dX12_readLaw_124 : decode cX12_readLaw 124 = .ok (.istore_n 1, 1) := by decide +kernel
theorem dX12_readLaw_125 : decode cX12_readLaw 125 = .ok (.goto (-123), 3) := by decide +kernel
theorem dX12_readLaw_128 : decode cX12_readLaw 128 = .ok (.aload_n 0, 1) := by decide +kernel
theorem dX12_readLaw_129 : decode cX12_readLaw 129 = .ok (.getfield 154, 3) := by decide +kernel
theorem dX12_readLaw_132 : decode cX12_readLaw 132 = .ok (.ifCond .ne 7, 3) := by decide +kernel
theorem dX12_readLaw_135 : decode cX12_readLaw 135 = .ok (.iload_n 1, 1) := by decide +kernel
theorem dX12_readLaw_136 : decode cX12_readLaw 136 = .ok (.goto 8, 3) := by decide +kernel
theorem dX12_readLaw_139 : decode cX12_readLaw 139 = .ok (.aload_n 0, 1) := by decide +kernel
theorem dX12_readLaw_140 : decode cX12_readLaw 140 = .ok (.iconst 1, 1) := by decide +kernel
theorem dX12_readLaw_141 : decode cX12_readLaw 141 = .ok (.invokevirtual 185, 3) := by decide +kernel
theorem dX12_readLaw_144 : decode cX12_readLaw 144 = .ok (.ireturn, 1) := by decide +kernel
theorem dX12_takesLaw_0 : decode cX12_takesLaw 0 = .ok (.iconst 0, 1) := by decide +kernel
theorem dX12_takesLaw_1 : decode cX12_takesLaw 1 = .ok (.istore_n 2, 1) := by decide +kernel
theorem dX12_takesLaw_2 : decode cX12_takesLaw 2 = .ok (.iload_n 2, 1) := by decide +kernel
theorem dX12_takesLaw_3 : decode cX12_takesLaw 3 = .ok (.iload_n 1, 1) := by decide +kernel
theorem dX12_takesLaw_4 : decode cX12_takesLaw 4 = .ok (.if_icmp .ge 101, 3) := by decide +kernel
theorem dX12_takesLaw_7 : decode cX12_takesLaw 7 = .ok (.aload_n 0, 1) := by decide +kernel
theorem dX12_takesLaw_8 : decode cX12_takesLaw 8 = .ok (.getfield 34, 3) := by decide +kernel
theorem dX12_takesLaw_11 : decode cX12_takesLaw 11 = .ok (.bipush 16, 2) := by decide +kernel
theorem dX12_takesLaw_13 : decode cX12_takesLaw 13 = .ok (.aload_n 0, 1) := by decide +kernel
theorem dX12_takesLaw_14 : decode cX12_takesLaw 14 = .ok (.getfield 233, 3) := by decide +kernel
theorem dX12_takesLaw_17 : decode cX12_takesLaw 17 = .ok (.imul, 1) := by decide +kernel
theorem dX12_takesLaw_18 : decode cX12_takesLaw 18 = .ok (.iload_n 2, 1) := by decide +kernel
theorem dX12_takesLaw_19 : decode cX12_takesLaw 19 = .ok (.iadd, 1) := by decide +kernel
theorem dX12_takesLaw_20 : decode cX12_takesLaw 20 = .ok (.aload_n 0, 1) := by decide +kernel
theorem dX12_takesLaw_21 : decode cX12_takesLaw 21 = .ok (.getfield 34, 3) := by decide +kernel
theorem dX12_takesLaw_24 : decode cX12_takesLaw 24 = .ok (.bipush 32, 2) := by decide +kernel
theorem dX12_takesLaw_26 : decode cX12_takesLaw 26 = .ok (.iload_n 2, 1) := by decide +kernel
theorem dX12_takesLaw_27 : decode cX12_takesLaw 27 = .ok (.iadd, 1) := by decide +kernel
theorem dX12_takesLaw_28 : decode cX12_takesLaw 28 = .ok (.iaload, 1) := by decide +kernel
theorem dX12_takesLaw_29 : decode cX12_takesLaw 29 = .ok (.iastore, 1) := by decide +kernel
theorem dX12_takesLaw_30 : decode cX12_takesLaw 30 = .ok (.aload_n 0, 1) := by decide +kernel
theorem dX12_takesLaw_31 : decode cX12_takesLaw 31 = .ok (.getfield 37, 3) := by decide +kernel
theorem dX12_takesLaw_34 : decode cX12_takesLaw 34 = .ok (.bipush 16, 2) := by decide +kernel
theorem dX12_takesLaw_36 : decode cX12_takesLaw 36 = .ok (.aload_n 0, 1) := by decide +kernel
theorem dX12_takesLaw_37 : decode cX12_takesLaw 37 = .ok (.getfield 233, 3) := by decide +kernel
theorem dX12_takesLaw_40 : decode cX12_takesLaw 40 = .ok (.imul, 1) := by decide +kernel
theorem dX12_takesLaw_41 : decode cX12_takesLaw 41 = .ok (.iload_n 2, 1) := by decide +kernel
theorem dX12_takesLaw_42 : decode cX12_takesLaw 42 = .ok (.iadd, 1) := by decide +kernel
theorem dX12_takesLaw_43 : decode cX12_takesLaw 43 = .ok (.aload_n 0, 1) := by decide +kernel
theorem dX12_takesLaw_44 : decode cX12_takesLaw 44 = .ok (.getfield 37, 3) := by decide +kernel
theorem dX12_takesLaw_47 : decode cX12_takesLaw 47 = .ok (.bipush 32, 2) := by decide +kernel
theorem dX12_takesLaw_49 : decode cX12_takesLaw 49 = .ok (.iload_n 2, 1) := by decide +kernel
theorem dX12_takesLaw_50 : decode cX12_takesLaw 50 = .ok (.iadd, 1) := by decide +kernel
theorem dX12_takesLaw_51 : decode cX12_takesLaw 51 = .ok (.iaload, 1) := by decide +kernel
theorem dX12_takesLaw_52 : decode cX12_takesLaw 52 = .ok (.iastore, 1) := by decide +kernel
theorem dX12_takesLaw_53 : decode cX12_takesLaw 53 = .ok (.aload_n 0, 1) := by decide +kernel
theorem dX12_takesLaw_54 : decode cX12_takesLaw 54 = .ok (.getfield 40, 3) := by decide +kernel
theorem dX12_takesLaw_57 : decode cX12_takesLaw 57 = .ok (.bipush 16, 2) := by decide +kernel
theorem dX12_takesLaw_59 : decode cX12_takesLaw 59 = .ok (.aload_n 0, 1) := by decide +kernel
theorem dX12_takesLaw_60 : decode cX12_takesLaw 60 = .ok (.getfield 233, 3) := by decide +kernel
theorem dX12_takesLaw_63 : decode cX12_takesLaw 63 = .ok (.imul, 1) := by decide +kernel
theorem dX12_takesLaw_64 : decode cX12_takesLaw 64 = .ok (.iload_n 2, 1) := by decide +kernel
theorem dX12_takesLaw_65 : decode cX12_takesLaw 65 = .ok (.iadd, 1) := by decide +kernel
theorem dX12_takesLaw_66 : decode cX12_takesLaw 66 = .ok (.aload_n 0, 1) := by decide +kernel
theorem dX12_takesLaw_67 : decode cX12_takesLaw 67 = .ok (.getfield 40, 3) := by decide +kernel
theorem dX12_takesLaw_70 : decode cX12_takesLaw 70 = .ok (.bipush 32, 2) := by decide +kernel
theorem dX12_takesLaw_72 : decode cX12_takesLaw 72 = .ok (.iload_n 2, 1) := by decide +kernel
theorem dX12_takesLaw_73 : decode cX12_takesLaw 73 = .ok (.iadd, 1) := by decide +kernel
theorem dX12_takesLaw_74 : decode cX12_takesLaw 74 = .ok (.iaload, 1) := by decide +kernel
theorem dX12_takesLaw_75 : decode cX12_takesLaw 75 = .ok (.iastore, 1) := by decide +kernel
theorem dX12_takesLaw_76 : decode cX12_takesLaw 76 = .ok (.aload_n 0, 1) := by decide +kernel
theorem dX12_takesLaw_77 : decode cX12_takesLaw 77 = .ok (.getfield 43, 3) := by decide +kernel
theorem dX12_takesLaw_80 : decode cX12_takesLaw 80 = .ok (.bipush 16, 2) := by decide +kernel
theorem dX12_takesLaw_82 : decode cX12_takesLaw 82 = .ok (.aload_n 0, 1) := by decide +kernel
theorem dX12_takesLaw_83 : decode cX12_takesLaw 83 = .ok (.getfield 233, 3) := by decide +kernel
theorem dX12_takesLaw_86 : decode cX12_takesLaw 86 = .ok (.imul, 1) := by decide +kernel
theorem dX12_takesLaw_87 : decode cX12_takesLaw 87 = .ok (.iload_n 2, 1) := by decide +kernel
theorem dX12_takesLaw_88 : decode cX12_takesLaw 88 = .ok (.iadd, 1) := by decide +kernel
theorem dX12_takesLaw_89 : decode cX12_takesLaw 89 = .ok (.aload_n 0, 1) := by decide +kernel
theorem dX12_takesLaw_90 : decode cX12_takesLaw 90 = .ok (.getfield 43, 3) := by decide +kernel
theorem dX12_takesLaw_93 : decode cX12_takesLaw 93 = .ok (.bipush 32, 2) := by decide +kernel
theorem dX12_takesLaw_95 : decode cX12_takesLaw 95 = .ok (.iload_n 2, 1) := by decide +kernel
theorem dX12_takesLaw_96 : decode cX12_takesLaw 96 = .ok (.iadd, 1) := by decide +kernel
theorem dX12_takesLaw_97 : decode cX12_takesLaw 97 = .ok (.iaload, 1) := by decide +kernel
theorem dX12_takesLaw_98 : decode cX12_takesLaw 98 = .ok (.iastore, 1) := by decide +kernel
theorem dX12_takesLaw_99 : decode cX12_takesLaw 99 = .ok (.iinc 2 1, 3) := by decide +kernel
theorem dX12_takesLaw_102 : decode cX12_takesLaw 102 = .ok (.goto (-100), 3) := by decide +kernel
theorem dX12_takesLaw_105 : decode cX12_takesLaw 105 = .ok (.iconst 0, 1) := by decide +kernel
theorem dX12_takesLaw_106 : decode cX12_takesLaw 106 = .ok (.istore_n 2, 1) := by decide +kernel
theorem dX12_takesLaw_107 : decode cX12_takesLaw 107 = .ok (.iload_n 2, 1) := by decide +kernel
theorem dX12_takesLaw_108 : decode cX12_takesLaw 108 = .ok (.aload_n 0, 1) := by decide +kernel
theorem dX12_takesLaw_109 : decode cX12_takesLaw 109 = .ok (.getfield 179, 3) := by decide +kernel
theorem dX12_takesLaw_112 : decode cX12_takesLaw 112 = .ok (.if_icmp .ge 59, 3) := by decide +kernel
theorem dX12_takesLaw_115 : decode cX12_takesLaw 115 = .ok (.aload_n 0, 1) := by decide +kernel
theorem dX12_takesLaw_116 : decode cX12_takesLaw 116 = .ok (.getfield 46, 3) := by decide +kernel
theorem dX12_takesLaw_119 : decode cX12_takesLaw 119 = .ok (.sipush 400, 3) := by decide +kernel
theorem dX12_takesLaw_122 : decode cX12_takesLaw 122 = .ok (.aload_n 0, 1) := by decide +kernel
theorem dX12_takesLaw_123 : decode cX12_takesLaw 123 = .ok (.getfield 233, 3) := by decide +kernel
theorem dX12_takesLaw_126 : decode cX12_takesLaw 126 = .ok (.imul, 1) := by decide +kernel
theorem dX12_takesLaw_127 : decode cX12_takesLaw 127 = .ok (.iload_n 2, 1) := by decide +kernel
theorem dX12_takesLaw_128 : decode cX12_takesLaw 128 = .ok (.iadd, 1) := by decide +kernel
theorem dX12_takesLaw_129 : decode cX12_takesLaw 129 = .ok (.aload_n 0, 1) := by decide +kernel
theorem dX12_takesLaw_130 : decode cX12_takesLaw 130 = .ok (.getfield 46, 3) := by decide +kernel
theorem dX12_takesLaw_133 : decode cX12_takesLaw 133 = .ok (.sipush 800, 3) := by decide +kernel
theorem dX12_takesLaw_136 : decode cX12_takesLaw 136 = .ok (.iload_n 2, 1) := by decide +kernel
theorem dX12_takesLaw_137 : decode cX12_takesLaw 137 = .ok (.iadd, 1) := by decide +kernel
theorem dX12_takesLaw_138 : decode cX12_takesLaw 138 = .ok (.iaload, 1) := by decide +kernel
theorem dX12_takesLaw_139 : decode cX12_takesLaw 139 = .ok (.iastore, 1) := by decide +kernel
theorem dX12_takesLaw_140 : decode cX12_takesLaw 140 = .ok (.aload_n 0, 1) := by decide +kernel
theorem dX12_takesLaw_141 : decode cX12_takesLaw 141 = .ok (.getfield 49, 3) := by decide +kernel
theorem dX12_takesLaw_144 : decode cX12_takesLaw 144 = .ok (.sipush 400, 3) := by decide +kernel
theorem dX12_takesLaw_147 : decode cX12_takesLaw 147 = .ok (.aload_n 0, 1) := by decide +kernel
theorem dX12_takesLaw_148 : decode cX12_takesLaw 148 = .ok (.getfield 233, 3) := by decide +kernel
theorem dX12_takesLaw_151 : decode cX12_takesLaw 151 = .ok (.imul, 1) := by decide +kernel
theorem dX12_takesLaw_152 : decode cX12_takesLaw 152 = .ok (.iload_n 2, 1) := by decide +kernel
theorem dX12_takesLaw_153 : decode cX12_takesLaw 153 = .ok (.iadd, 1) := by decide +kernel
theorem dX12_takesLaw_154 : decode cX12_takesLaw 154 = .ok (.aload_n 0, 1) := by decide +kernel
theorem dX12_takesLaw_155 : decode cX12_takesLaw 155 = .ok (.getfield 49, 3) := by decide +kernel
theorem dX12_takesLaw_158 : decode cX12_takesLaw 158 = .ok (.sipush 800, 3) := by decide +kernel
theorem dX12_takesLaw_161 : decode cX12_takesLaw 161 = .ok (.iload_n 2, 1) := by decide +kernel
theorem dX12_takesLaw_162 : decode cX12_takesLaw 162 = .ok (.iadd, 1) := by decide +kernel
theorem dX12_takesLaw_163 : decode cX12_takesLaw 163 = .ok (.iaload, 1) := by decide +kernel
theorem dX12_takesLaw_164 : decode cX12_takesLaw 164 = .ok (.iastore, 1) := by decide +kernel
theorem dX12_takesLaw_165 : decode cX12_takesLaw 165 = .ok (.iinc 2 1, 3) := by decide +kernel
theorem dX12_takesLaw_168 : decode cX12_takesLaw 168 = .ok (.goto (-61), 3) := by decide +kernel
theorem dX12_takesLaw_171 : decode cX12_takesLaw 171 = .ok (.aload_n 0, 1) := by decide +kernel
theorem dX12_takesLaw_172 : decode cX12_takesLaw 172 = .ok (.getfield 31, 3) := by decide +kernel
theorem dX12_takesLaw_175 : decode cX12_takesLaw 175 = .ok (.aload_n 0, 1) := by decide +kernel
theorem dX12_takesLaw_176 : decode cX12_takesLaw 176 = .ok (.getfield 233, 3) := by decide +kernel
theorem dX12_takesLaw_179 : decode cX12_takesLaw 179 = .ok (.iload_n 1, 1) := by decide +kernel
theorem dX12_takesLaw_180 : decode cX12_takesLaw 180 = .ok (.iastore, 1) := by decide +kernel
theorem dX12_takesLaw_181 : decode cX12_takesLaw 181 = .ok (.return_, 1) := by decide +kernel
theorem dX12_readNumber_0 : decode cX12_readNumber 0 = .ok (.aload_n 0, 1) := by decide +kernel
theorem dX12_readNumber_1 : decode cX12_readNumber 1 = .ok (.getfield 154, 3) := by decide +kernel
theorem dX12_readNumber_4 : decode cX12_readNumber 4 = .ok (.iconst 3, 1) := by decide +kernel
theorem dX12_readNumber_5 : decode cX12_readNumber 5 = .ok (.if_icmp .eq 9, 3) := by decide +kernel
theorem dX12_readNumber_8 : decode cX12_readNumber 8 = .ok (.aload_n 0, 1) := by decide +kernel
theorem dX12_readNumber_9 : decode cX12_readNumber 9 = .ok (.iconst 1, 1) := by decide +kernel
theorem dX12_readNumber_10 : decode cX12_readNumber 10 = .ok (.invokevirtual 185, 3) := by decide +kernel
theorem dX12_readNumber_13 : decode cX12_readNumber 13 = .ok (.ireturn, 1) := by decide +kernel
theorem dX12_readNumber_14 : decode cX12_readNumber 14 = .ok (.aload_n 0, 1) := by decide +kernel
theorem dX12_readNumber_15 : decode cX12_readNumber 15 = .ok (.aload_n 0, 1) := by decide +kernel
theorem dX12_readNumber_16 : decode cX12_readNumber 16 = .ok (.getfield 157, 3) := by decide +kernel
theorem dX12_readNumber_19 : decode cX12_readNumber 19 = .ok (.iload_n 1, 1) := by decide +kernel
theorem dX12_readNumber_20 : decode cX12_readNumber 20 = .ok (.iload_n 2, 1) := by decide +kernel
theorem dX12_readNumber_21 : decode cX12_readNumber 21 = .ok (.invokevirtual 122, 3) := by decide +kernel
theorem dX12_readNumber_24 : decode cX12_readNumber 24 = .ok (.ifCond .ne 9, 3) := by decide +kernel
theorem dX12_readNumber_27 : decode cX12_readNumber 27 = .ok (.aload_n 0, 1) := by decide +kernel
theorem dX12_readNumber_28 : decode cX12_readNumber 28 = .ok (.iconst 2, 1) := by decide +kernel
theorem dX12_readNumber_29 : decode cX12_readNumber 29 = .ok (.invokevirtual 185, 3) := by decide +kernel
theorem dX12_readNumber_32 : decode cX12_readNumber 32 = .ok (.ireturn, 1) := by decide +kernel
theorem dX12_readNumber_33 : decode cX12_readNumber 33 = .ok (.aload_n 0, 1) := by decide +kernel
theorem dX12_readNumber_34 : decode cX12_readNumber 34 = .ok (.getfield 157, 3) := by decide +kernel
theorem dX12_readNumber_37 : decode cX12_readNumber 37 = .ok (.istore_n 3, 1) := by decide +kernel
theorem dX12_readNumber_38 : decode cX12_readNumber 38 = .ok (.aload_n 0, 1) := by decide +kernel
theorem dX12_readNumber_39 : decode cX12_readNumber 39 = .ok (.invokevirtual 192, 3) := by decide +kernel
theorem dX12_readNumber_42 : decode cX12_readNumber 42 = .ok (.iload_n 3, 1) := by decide +kernel
theorem dX12_readNumber_43 : decode cX12_readNumber 43 = .ok (.ireturn, 1) := by decide +kernel
theorem dX12_readMark_0 : decode cX12_readMark 0 = .ok (.aload_n 0, 1) := by decide +kernel
theorem dX12_readMark_1 : decode cX12_readMark 1 = .ok (.iload_n 1, 1) := by decide +kernel
theorem dX12_readMark_2 : decode cX12_readMark 2 = .ok (.invokevirtual 199, 3) := by decide +kernel
theorem dX12_readMark_5 : decode cX12_readMark 5 = .ok (.ifCond .ne 9, 3) := by decide +kernel
theorem dX12_readMark_8 : decode cX12_readMark 8 = .ok (.aload_n 0, 1) := by decide +kernel
theorem dX12_readMark_9 : decode cX12_readMark 9 = .ok (.iconst 1, 1) := by decide +kernel
theorem dX12_readMark_10 : decode cX12_readMark 10 = .ok (.invokevirtual 185, 3) := by decide +kernel
theorem dX12_readMark_13 : decode cX12_readMark 13 = .ok (.ireturn, 1) := by decide +kernel
theorem dX12_readMark_14 : decode cX12_readMark 14 = .ok (.aload_n 0, 1) := by decide +kernel
theorem dX12_readMark_15 : decode cX12_readMark 15 = .ok (.invokevirtual 192, 3) := by decide +kernel
theorem dX12_readMark_18 : decode cX12_readMark 18 = .ok (.iconst 0, 1) := by decide +kernel
theorem dX12_readMark_19 : decode cX12_readMark 19 = .ok (.ireturn, 1) := by decide +kernel
theorem dX12_readTold_0 : decode cX12_readTold 0 = .ok (.aload_n 0, 1) := by decide +kernel
theorem dX12_readTold_1 : decode cX12_readTold 1 = .ok (.iload_n 1, 1) := by decide +kernel
theorem dX12_readTold_2 : decode cX12_readTold 2 = .ok (.invokevirtual 214, 3) := by decide +kernel
theorem dX12_readTold_5 : decode cX12_readTold 5 = .ok (.ifCond .ne 9, 3) := by decide +kernel
theorem dX12_readTold_8 : decode cX12_readTold 8 = .ok (.aload_n 0, 1) := by decide +kernel
theorem dX12_readTold_9 : decode cX12_readTold 9 = .ok (.iconst 1, 1) := by decide +kernel
theorem dX12_readTold_10 : decode cX12_readTold 10 = .ok (.invokevirtual 185, 3) := by decide +kernel
theorem dX12_readTold_13 : decode cX12_readTold 13 = .ok (.ireturn, 1) := by decide +kernel
theorem dX12_readTold_14 : decode cX12_readTold 14 = .ok (.aload_n 0, 1) := by decide +kernel
theorem dX12_readTold_15 : decode cX12_readTold 15 = .ok (.invokevirtual 192, 3) := by decide +kernel
theorem dX12_readTold_18 : decode cX12_readTold 18 = .ok (.aload_n 0, 1) := by decide +kernel
theorem dX12_readTold_19 : decode cX12_readTold 19 = .ok (.iload_n 2, 1) := by decide +kernel
theorem dX12_readTold_20 : decode cX12_readTold 20 = .ok (.iload_n 3, 1) := by decide +kernel
theorem dX12_readTold_21 : decode cX12_readTold 21 = .ok (.invokevirtual 236, 3) := by decide +kernel
theorem dX12_readTold_24 : decode cX12_readTold 24 = .ok (.ireturn, 1) := by decide +kernel
theorem dX12_readSky_0 : decode cX12_readSky 0 = .ok (.iconst 0, 1) := by decide +kernel
theorem dX12_readSky_1 : decode cX12_readSky 1 = .ok (.istore_n 1, 1) := by decide +kernel
theorem dX12_readSky_2 : decode cX12_readSky 2 = .ok (.aload_n 0, 1) := by decide +kernel
theorem dX12_readSky_3 : decode cX12_readSky 3 = .ok (.bipush 15, 2) := by decide +kernel
theorem dX12_readSky_5 : decode cX12_readSky 5 = .ok (.invokevirtual 214, 3) := by decide +kernel
theorem dX12_readSky_8 : decode cX12_readSky 8 = .ok (.ifCond .eq 98, 3) := by decide +kernel
theorem dX12_readSky_11 : decode cX12_readSky 11 = .ok (.iload_n 1, 1) := by decide +kernel
theorem dX12_readSky_12 : decode cX12_readSky 12 = .ok (.bipush 16, 2) := by decide +kernel
theorem dX12_readSky_14 : decode cX12_readSky 14 = .ok (.if_icmp .ne 9, 3) := by decide +kernel
theorem dX12_readSky_17 : decode cX12_readSky 17 = .ok (.aload_n 0, 1) := by decide +kernel
theorem dX12_readSky_18 : decode cX12_readSky 18 = .ok (.iconst 3, 1) := by decide +kernel
theorem dX12_readSky_19 : decode cX12_readSky 19 = .ok (.invokevirtual 185, 3) := by decide +kernel
theorem dX12_readSky_22 : decode cX12_readSky 22 = .ok (.ireturn, 1) := by decide +kernel
theorem dX12_readSky_23 : decode cX12_readSky 23 = .ok (.bipush 32, 2) := by decide +kernel
theorem dX12_readSky_25 : decode cX12_readSky 25 = .ok (.iconst 2, 1) := by decide +kernel
theorem dX12_readSky_26 : decode cX12_readSky 26 = .ok (.iload_n 1, 1) := by decide +kernel
theorem dX12_readSky_27 : decode cX12_readSky 27 = .ok (.imul, 1) := by decide +kernel
theorem dX12_readSky_28 : decode cX12_readSky 28 = .ok (.iadd, 1) := by decide +kernel
theorem dX12_readSky_29 : decode cX12_readSky 29 = .ok (.istore_n 2, 1) := by decide +kernel
theorem dX12_readSky_30 : decode cX12_readSky 30 = .ok (.aload_n 0, 1) := by decide +kernel
theorem dX12_readSky_31 : decode cX12_readSky 31 = .ok (.getfield 59, 3) := by decide +kernel
theorem dX12_readSky_34 : decode cX12_readSky 34 = .ok (.iload_n 2, 1) := by decide +kernel
theorem dX12_readSky_35 : decode cX12_readSky 35 = .ok (.aload_n 0, 1) := by decide +kernel
theorem dX12_readSky_36 : decode cX12_readSky 36 = .ok (.bipush 15, 2) := by decide +kernel
theorem dX12_readSky_38 : decode cX12_readSky 38 = .ok (.iconst 0, 1) := by decide +kernel
theorem dX12_readSky_39 : decode cX12_readSky 39 = .ok (.sipush 999, 3) := by decide +kernel
theorem dX12_readSky_42 : decode cX12_readSky 42 = .ok (.invokevirtual 239, 3) := by decide +kernel
theorem dX12_readSky_45 : decode cX12_readSky 45 = .ok (.iastore, 1) := by decide +kernel
theorem dX12_readSky_46 : decode cX12_readSky 46 = .ok (.aload_n 0, 1) := by decide +kernel
theorem dX12_readSky_47 : decode cX12_readSky 47 = .ok (.getfield 59, 3) := by decide +kernel
theorem dX12_readSky_50 : decode cX12_readSky 50 = .ok (.iload_n 2, 1) := by decide +kernel
theorem dX12_readSky_51 : decode cX12_readSky 51 = .ok (.iaload, 1) := by decide +kernel
theorem dX12_readSky_52 : decode cX12_readSky 52 = .ok (.iconst (-1), 1) := by decide +kernel
theorem dX12_readSky_53 : decode cX12_readSky 53 = .ok (.if_icmp .ne 5, 3) := by decide +kernel
theorem dX12_readSky_56 : decode cX12_readSky 56 = .ok (.iconst (-1), 1) := by decide +kernel
theorem dX12_readSky_57 : decode cX12_readSky 57 = .ok (.ireturn, 1) := by decide +kernel
theorem dX12_readSky_58 : decode cX12_readSky 58 = .ok (.aload_n 0, 1) := by decide +kernel
theorem dX12_readSky_59 : decode cX12_readSky 59 = .ok (.getfield 59, 3) := by decide +kernel
theorem dX12_readSky_62 : decode cX12_readSky 62 = .ok (.iload_n 2, 1) := by decide +kernel
theorem dX12_readSky_63 : decode cX12_readSky 63 = .ok (.iconst 1, 1) := by decide +kernel
theorem dX12_readSky_64 : decode cX12_readSky 64 = .ok (.iadd, 1) := by decide +kernel
theorem dX12_readSky_65 : decode cX12_readSky 65 = .ok (.aload_n 0, 1) := by decide +kernel
theorem dX12_readSky_66 : decode cX12_readSky 66 = .ok (.bipush 16, 2) := by decide +kernel
theorem dX12_readSky_68 : decode cX12_readSky 68 = .ok (.iconst 0, 1) := by decide +kernel
theorem dX12_readSky_69 : decode cX12_readSky 69 = .ok (.bipush 9, 2) := by decide +kernel
theorem dX12_readSky_71 : decode cX12_readSky 71 = .ok (.invokevirtual 239, 3) := by decide +kernel
theorem dX12_readSky_74 : decode cX12_readSky 74 = .ok (.iastore, 1) := by decide +kernel
theorem dX12_readSky_75 : decode cX12_readSky 75 = .ok (.aload_n 0, 1) := by decide +kernel
theorem dX12_readSky_76 : decode cX12_readSky 76 = .ok (.getfield 59, 3) := by decide +kernel
theorem dX12_readSky_79 : decode cX12_readSky 79 = .ok (.iload_n 2, 1) := by decide +kernel
theorem dX12_readSky_80 : decode cX12_readSky 80 = .ok (.iconst 1, 1) := by decide +kernel
theorem dX12_readSky_81 : decode cX12_readSky 81 = .ok (.iadd, 1) := by decide +kernel
theorem dX12_readSky_82 : decode cX12_readSky 82 = .ok (.iaload, 1) := by decide +kernel
theorem dX12_readSky_83 : decode cX12_readSky 83 = .ok (.iconst (-1), 1) := by decide +kernel
theorem dX12_readSky_84 : decode cX12_readSky 84 = .ok (.if_icmp .eq 13, 3) := by decide +kernel
theorem dX12_readSky_87 : decode cX12_readSky 87 = .ok (.aload_n 0, 1) := by decide +kernel
theorem dX12_readSky_88 : decode cX12_readSky 88 = .ok (.bipush 59, 2) := by decide +kernel
theorem dX12_readSky_90 : decode cX12_readSky 90 = .ok (.invokevirtual 243, 3) := by decide +kernel
theorem dX12_readSky_93 : decode cX12_readSky 93 = .ok (.iconst (-1), 1) := by decide +kernel
theorem dX12_readSky_94 : decode cX12_readSky 94 = .ok (.if_icmp .ne 5, 3) := by decide +kernel
theorem dX12_readSky_97 : decode cX12_readSky 97 = .ok (.iconst (-1), 1) := by decide +kernel
theorem dX12_readSky_98 : decode cX12_readSky 98 = .ok (.ireturn, 1) := by decide +kernel
theorem dX12_readSky_99 : decode cX12_readSky 99 = .ok (.iload_n 1, 1) := by decide +kernel
theorem dX12_readSky_100 : decode cX12_readSky 100 = .ok (.iconst 1, 1) := by decide +kernel
theorem dX12_readSky_101 : decode cX12_readSky 101 = .ok (.iadd, 1) := by decide +kernel
theorem dX12_readSky_102 : decode cX12_readSky 102 = .ok (.istore_n 1, 1) := by decide +kernel
theorem dX12_readSky_103 : decode cX12_readSky 103 = .ok (.goto (-101), 3) := by decide +kernel
theorem dX12_readSky_106 : decode cX12_readSky 106 = .ok (.aload_n 0, 1) := by decide +kernel
theorem dX12_readSky_107 : decode cX12_readSky 107 = .ok (.getfield 154, 3) := by decide +kernel
theorem dX12_readSky_110 : decode cX12_readSky 110 = .ok (.ifCond .ne 7, 3) := by decide +kernel
theorem dX12_readSky_113 : decode cX12_readSky 113 = .ok (.iload_n 1, 1) := by decide +kernel
theorem dX12_readSky_114 : decode cX12_readSky 114 = .ok (.goto 8, 3) := by decide +kernel
theorem dX12_readSky_117 : decode cX12_readSky 117 = .ok (.aload_n 0, 1) := by decide +kernel
theorem dX12_readSky_118 : decode cX12_readSky 118 = .ok (.iconst 1, 1) := by decide +kernel
theorem dX12_readSky_119 : decode cX12_readSky 119 = .ok (.invokevirtual 185, 3) := by decide +kernel
theorem dX12_readSky_122 : decode cX12_readSky 122 = .ok (.ireturn, 1) := by decide +kernel
theorem dX12_mostFor_0 : decode cX12_mostFor 0 = .ok (.iload_n 1, 1) := by decide +kernel
theorem dX12_mostFor_1 : decode cX12_mostFor 1 = .ok (.ifCond .ne 7, 3) := by decide +kernel
theorem dX12_mostFor_4 : decode cX12_mostFor 4 = .ok (.sipush 999, 3) := by decide +kernel
theorem dX12_mostFor_7 : decode cX12_mostFor 7 = .ok (.ireturn, 1) := by decide +kernel
theorem dX12_mostFor_8 : decode cX12_mostFor 8 = .ok (.iload_n 1, 1) := by decide +kernel
theorem dX12_mostFor_9 : decode cX12_mostFor 9 = .ok (.iconst 1, 1) := by decide +kernel
theorem dX12_mostFor_10 : decode cX12_mostFor 10 = .ok (.if_icmp .ne 6, 3) := by decide +kernel
theorem dX12_mostFor_13 : decode cX12_mostFor 13 = .ok (.bipush 99, 2) := by decide +kernel
theorem dX12_mostFor_15 : decode cX12_mostFor 15 = .ok (.ireturn, 1) := by decide +kernel
theorem dX12_mostFor_16 : decode cX12_mostFor 16 = .ok (.iload_n 1, 1) := by decide +kernel
theorem dX12_mostFor_17 : decode cX12_mostFor 17 = .ok (.iconst 3, 1) := by decide +kernel
theorem dX12_mostFor_18 : decode cX12_mostFor 18 = .ok (.if_icmp .ne 12, 3) := by decide +kernel
theorem dX12_mostFor_21 : decode cX12_mostFor 21 = .ok (.aload_n 0, 1) := by decide +kernel
theorem dX12_mostFor_22 : decode cX12_mostFor 22 = .ok (.getfield 101, 3) := by decide +kernel
theorem dX12_mostFor_25 : decode cX12_mostFor 25 = .ok (.iconst 1, 1) := by decide +kernel
theorem dX12_mostFor_26 : decode cX12_mostFor 26 = .ok (.isub, 1) := by decide +kernel
theorem dX12_mostFor_27 : decode cX12_mostFor 27 = .ok (.goto 9, 3) := by decide +kernel
theorem dX12_mostFor_30 : decode cX12_mostFor 30 = .ok (.aload_n 0, 1) := by decide +kernel
theorem dX12_mostFor_31 : decode cX12_mostFor 31 = .ok (.getfield 104, 3) := by decide +kernel
theorem dX12_mostFor_34 : decode cX12_mostFor 34 = .ok (.iconst 1, 1) := by decide +kernel
theorem dX12_mostFor_35 : decode cX12_mostFor 35 = .ok (.isub, 1) := by decide +kernel
theorem dX12_mostFor_36 : decode cX12_mostFor 36 = .ok (.ireturn, 1) := by decide +kernel
theorem dX12_readDeed_0 : decode cX12_readDeed 0 = .ok (.aload_n 0, 1) := by decide +kernel
theorem dX12_readDeed_1 : decode cX12_readDeed 1 = .ok (.getfield 62, 3) := by decide +kernel
theorem dX12_readDeed_4 : decode cX12_readDeed 4 = .ok (.iload_n 1, 1) := by decide +kernel
theorem dX12_readDeed_5 : decode cX12_readDeed 5 = .ok (.aload_n 0, 1) := by decide +kernel
theorem dX12_readDeed_6 : decode cX12_readDeed 6 = .ok (.bipush 17, 2) := by decide +kernel
theorem dX12_readDeed_8 : decode cX12_readDeed 8 = .ok (.iconst 0, 1) := by decide +kernel
theorem dX12_readDeed_9 : decode cX12_readDeed 9 = .ok (.sipush 999, 3) := by decide +kernel
theorem dX12_readDeed_12 : decode cX12_readDeed 12 = .ok (.invokevirtual 239, 3) := by decide +kernel
theorem dX12_readDeed_15 : decode cX12_readDeed 15 = .ok (.iastore, 1) := by decide +kernel
theorem dX12_readDeed_16 : decode cX12_readDeed 16 = .ok (.aload_n 0, 1) := by decide +kernel
theorem dX12_readDeed_17 : decode cX12_readDeed 17 = .ok (.getfield 62, 3) := by decide +kernel
theorem dX12_readDeed_20 : decode cX12_readDeed 20 = .ok (.iload_n 1, 1) := by decide +kernel
theorem dX12_readDeed_21 : decode cX12_readDeed 21 = .ok (.iaload, 1) := by decide +kernel
theorem dX12_readDeed_22 : decode cX12_readDeed 22 = .ok (.iconst (-1), 1) := by decide +kernel
theorem dX12_readDeed_23 : decode cX12_readDeed 23 = .ok (.if_icmp .ne 5, 3) := by decide +kernel
theorem dX12_readDeed_26 : decode cX12_readDeed 26 = .ok (.iconst (-1), 1) := by decide +kernel
theorem dX12_readDeed_27 : decode cX12_readDeed 27 = .ok (.ireturn, 1) := by decide +kernel
theorem dX12_readDeed_28 : decode cX12_readDeed 28 = .ok (.aload_n 0, 1) := by decide +kernel
theorem dX12_readDeed_29 : decode cX12_readDeed 29 = .ok (.getfield 154, 3) := by decide +kernel
theorem dX12_readDeed_32 : decode cX12_readDeed 32 = .ok (.iconst 2, 1) := by decide +kernel
theorem dX12_readDeed_33 : decode cX12_readDeed 33 = .ok (.if_icmp .ne 18, 3) := by decide +kernel
theorem dX12_readDeed_36 : decode cX12_readDeed 36 = .ok (.aload_n 0, 1) := by decide +kernel
theorem dX12_readDeed_37 : decode cX12_readDeed 37 = .ok (.aload_n 0, 1) := by decide +kernel
theorem dX12_readDeed_38 : decode cX12_readDeed 38 = .ok (.getfield 157, 3) := by decide +kernel
theorem dX12_readDeed_41 : decode cX12_readDeed 41 = .ok (.bipush 18, 2) := by decide +kernel
theorem dX12_readDeed_43 : decode cX12_readDeed 43 = .ok (.bipush 22, 2) := by decide +kernel
theorem dX12_readDeed_45 : decode cX12_readDeed 45 = .ok (.invokevirtual 122, 3) := by decide +kernel
theorem dX12_readDeed_48 : decode cX12_readDeed 48 = .ok (.ifCond .ne 9, 3) := by decide +kernel
theorem dX12_readDeed_51 : decode cX12_readDeed 51 = .ok (.aload_n 0, 1) := by decide +kernel
theorem dX12_readDeed_52 : decode cX12_readDeed 52 = .ok (.iconst 1, 1) := by decide +kernel
theorem dX12_readDeed_53 : decode cX12_readDeed 53 = .ok (.invokevirtual 185, 3) := by decide +kernel
theorem dX12_readDeed_56 : decode cX12_readDeed 56 = .ok (.ireturn, 1) := by decide +kernel
theorem dX12_readDeed_57 : decode cX12_readDeed 57 = .ok (.aload_n 0, 1) := by decide +kernel
theorem dX12_readDeed_58 : decode cX12_readDeed 58 = .ok (.getfield 157, 3) := by decide +kernel
theorem dX12_readDeed_61 : decode cX12_readDeed 61 = .ok (.bipush 18, 2) := by decide +kernel
theorem dX12_readDeed_63 : decode cX12_readDeed 63 = .ok (.isub, 1) := by decide +kernel
theorem dX12_readDeed_64 : decode cX12_readDeed 64 = .ok (.istore_n 2, 1) := by decide +kernel
theorem dX12_readDeed_65 : decode cX12_readDeed 65 = .ok (.aload_n 0, 1) := by decide +kernel
theorem dX12_readDeed_66 : decode cX12_readDeed 66 = .ok (.invokevirtual 192, 3) := by decide +kernel
theorem dX12_readDeed_69 : decode cX12_readDeed 69 = .ok (.aload_n 0, 1) := by decide +kernel
theorem dX12_readDeed_70 : decode cX12_readDeed 70 = .ok (.getfield 62, 3) := by decide +kernel
theorem dX12_readDeed_73 : decode cX12_readDeed 73 = .ok (.iload_n 1, 1) := by decide +kernel
theorem dX12_readDeed_74 : decode cX12_readDeed 74 = .ok (.iconst 1, 1) := by decide +kernel
theorem dX12_readDeed_75 : decode cX12_readDeed 75 = .ok (.iadd, 1) := by decide +kernel
theorem dX12_readDeed_76 : decode cX12_readDeed 76 = .ok (.iload_n 2, 1) := by decide +kernel
theorem dX12_readDeed_77 : decode cX12_readDeed 77 = .ok (.iastore, 1) := by decide +kernel
theorem dX12_readDeed_78 : decode cX12_readDeed 78 = .ok (.aload_n 0, 1) := by decide +kernel
theorem dX12_readDeed_79 : decode cX12_readDeed 79 = .ok (.getfield 62, 3) := by decide +kernel
theorem dX12_readDeed_82 : decode cX12_readDeed 82 = .ok (.iload_n 1, 1) := by decide +kernel
theorem dX12_readDeed_83 : decode cX12_readDeed 83 = .ok (.iconst 2, 1) := by decide +kernel
theorem dX12_readDeed_84 : decode cX12_readDeed 84 = .ok (.iadd, 1) := by decide +kernel
theorem dX12_readDeed_85 : decode cX12_readDeed 85 = .ok (.aload_n 0, 1) := by decide +kernel
theorem dX12_readDeed_86 : decode cX12_readDeed 86 = .ok (.iconst 0, 1) := by decide +kernel
theorem dX12_readDeed_87 : decode cX12_readDeed 87 = .ok (.aload_n 0, 1) := by decide +kernel
theorem dX12_readDeed_88 : decode cX12_readDeed 88 = .ok (.iload_n 2, 1) := by decide +kernel
theorem dX12_readDeed_89 : decode cX12_readDeed 89 = .ok (.invokevirtual 246, 3) := by decide +kernel
theorem dX12_readDeed_92 : decode cX12_readDeed 92 = .ok (.invokevirtual 236, 3) := by decide +kernel
theorem dX12_readDeed_95 : decode cX12_readDeed 95 = .ok (.iastore, 1) := by decide +kernel
theorem dX12_readDeed_96 : decode cX12_readDeed 96 = .ok (.aload_n 0, 1) := by decide +kernel
theorem dX12_readDeed_97 : decode cX12_readDeed 97 = .ok (.getfield 62, 3) := by decide +kernel
theorem dX12_readDeed_100 : decode cX12_readDeed 100 = .ok (.iload_n 1, 1) := by decide +kernel
theorem dX12_readDeed_101 : decode cX12_readDeed 101 = .ok (.iconst 2, 1) := by decide +kernel
theorem dX12_readDeed_102 : decode cX12_readDeed 102 = .ok (.iadd, 1) := by decide +kernel
theorem dX12_readDeed_103 : decode cX12_readDeed 103 = .ok (.iaload, 1) := by decide +kernel
theorem dX12_readDeed_104 : decode cX12_readDeed 104 = .ok (.iconst (-1), 1) := by decide +kernel
theorem dX12_readDeed_105 : decode cX12_readDeed 105 = .ok (.if_icmp .ne 5, 3) := by decide +kernel
theorem dX12_readDeed_108 : decode cX12_readDeed 108 = .ok (.iconst (-1), 1) := by decide +kernel
theorem dX12_readDeed_109 : decode cX12_readDeed 109 = .ok (.ireturn, 1) := by decide +kernel
theorem dX12_readDeed_110 : decode cX12_readDeed 110 = .ok (.aload_n 0, 1) := by decide +kernel
theorem dX12_readDeed_111 : decode cX12_readDeed 111 = .ok (.getfield 62, 3) := by decide +kernel
theorem dX12_readDeed_114 : decode cX12_readDeed 114 = .ok (.iload_n 1, 1) := by decide +kernel
theorem dX12_readDeed_115 : decode cX12_readDeed 115 = .ok (.iconst 3, 1) := by decide +kernel
theorem dX12_readDeed_116 : decode cX12_readDeed 116 = .ok (.iadd, 1) := by decide +kernel
theorem dX12_readDeed_117 : decode cX12_readDeed 117 = .ok (.iload_n 2, 1) := by decide +kernel
theorem dX12_readDeed_118 : decode cX12_readDeed 118 = .ok (.iconst 3, 1) := by decide +kernel
theorem dX12_readDeed_119 : decode cX12_readDeed 119 = .ok (.if_icmp .ne 13, 3) := by decide +kernel
theorem dX12_readDeed_122 : decode cX12_readDeed 122 = .ok (.aload_n 0, 1) := by decide +kernel
theorem dX12_readDeed_123 : decode cX12_readDeed 123 = .ok (.iconst 1, 1) := by decide +kernel
theorem dX12_readDeed_124 : decode cX12_readDeed 124 = .ok (.bipush 99, 2) := by decide +kernel
theorem dX12_readDeed_126 : decode cX12_readDeed 126 = .ok (.invokevirtual 236, 3) := by decide +kernel
theorem dX12_readDeed_129 : decode cX12_readDeed 129 = .ok (.goto 4, 3) := by decide +kernel
theorem dX12_readDeed_132 : decode cX12_readDeed 132 = .ok (.iconst 0, 1) := by decide +kernel
theorem dX12_readDeed_133 : decode cX12_readDeed 133 = .ok (.iastore, 1) := by decide +kernel
theorem dX12_readDeed_134 : decode cX12_readDeed 134 = .ok (.aload_n 0, 1) := by decide +kernel
theorem dX12_readDeed_135 : decode cX12_readDeed 135 = .ok (.getfield 62, 3) := by decide +kernel
theorem dX12_readDeed_138 : decode cX12_readDeed 138 = .ok (.iload_n 1, 1) := by decide +kernel
theorem dX12_readDeed_139 : decode cX12_readDeed 139 = .ok (.iconst 3, 1) := by decide +kernel
theorem dX12_readDeed_140 : decode cX12_readDeed 140 = .ok (.iadd, 1) := by decide +kernel
theorem dX12_readDeed_141 : decode cX12_readDeed 141 = .ok (.iaload, 1) := by decide +kernel
theorem dX12_readDeed_142 : decode cX12_readDeed 142 = .ok (.iconst (-1), 1) := by decide +kernel
theorem dX12_readDeed_143 : decode cX12_readDeed 143 = .ok (.if_icmp .ne 7, 3) := by decide +kernel
theorem dX12_readDeed_146 : decode cX12_readDeed 146 = .ok (.iconst (-1), 1) := by decide +kernel
theorem dX12_readDeed_147 : decode cX12_readDeed 147 = .ok (.goto 9, 3) := by decide +kernel
theorem dX12_readDeed_150 : decode cX12_readDeed 150 = .ok (.aload_n 0, 1) := by decide +kernel
theorem dX12_readDeed_151 : decode cX12_readDeed 151 = .ok (.bipush 59, 2) := by decide +kernel
theorem dX12_readDeed_153 : decode cX12_readDeed 153 = .ok (.invokevirtual 243, 3) := by decide +kernel
theorem dX12_readDeed_156 : decode cX12_readDeed 156 = .ok (.ireturn, 1) := by decide +kernel
theorem dX12_readPlan_0 : decode cX12_readPlan 0 = .ok (.iconst 0, 1) := by decide +kernel
theorem dX12_readPlan_1 : decode cX12_readPlan 1 = .ok (.istore_n 1, 1) := by decide +kernel
theorem dX12_readPlan_2 : decode cX12_readPlan 2 = .ok (.aload_n 0, 1) := by decide +kernel
theorem dX12_readPlan_3 : decode cX12_readPlan 3 = .ok (.bipush 17, 2) := by decide +kernel
theorem dX12_readPlan_5 : decode cX12_readPlan 5 = .ok (.invokevirtual 214, 3) := by decide +kernel
theorem dX12_readPlan_8 : decode cX12_readPlan 8 = .ok (.ifCond .eq 38, 3) := by decide +kernel
theorem dX12_readPlan_11 : decode cX12_readPlan 11 = .ok (.iload_n 1, 1) := by decide +kernel
theorem dX12_readPlan_12 : decode cX12_readPlan 12 = .ok (.bipush 16, 2) := by decide +kernel
theorem dX12_readPlan_14 : decode cX12_readPlan 14 = .ok (.if_icmp .ne 9, 3) := by decide +kernel
theorem dX12_readPlan_17 : decode cX12_readPlan 17 = .ok (.aload_n 0, 1) := by decide +kernel
theorem dX12_readPlan_18 : decode cX12_readPlan 18 = .ok (.iconst 3, 1) := by decide +kernel
theorem dX12_readPlan_19 : decode cX12_readPlan 19 = .ok (.invokevirtual 185, 3) := by decide +kernel
theorem dX12_readPlan_22 : decode cX12_readPlan 22 = .ok (.ireturn, 1) := by decide +kernel
theorem dX12_readPlan_23 : decode cX12_readPlan 23 = .ok (.aload_n 0, 1) := by decide +kernel
theorem dX12_readPlan_24 : decode cX12_readPlan 24 = .ok (.bipush 64, 2) := by decide +kernel
theorem dX12_readPlan_26 : decode cX12_readPlan 26 = .ok (.iconst 4, 1) := by decide +kernel
theorem dX12_readPlan_27 : decode cX12_readPlan 27 = .ok (.iload_n 1, 1) := by decide +kernel
theorem dX12_readPlan_28 : decode cX12_readPlan 28 = .ok (.imul, 1) := by decide +kernel
theorem dX12_readPlan_29 : decode cX12_readPlan 29 = .ok (.iadd, 1) := by decide +kernel
theorem dX12_readPlan_30 : decode cX12_readPlan 30 = .ok (.invokevirtual 249, 3) := by decide +kernel
theorem dX12_readPlan_33 : decode cX12_readPlan 33 = .ok (.iconst (-1), 1) := by decide +kernel
theorem dX12_readPlan_34 : decode cX12_readPlan 34 = .ok (.if_icmp .ne 5, 3) := by decide +kernel
theorem dX12_readPlan_37 : decode cX12_readPlan 37 = .ok (.iconst (-1), 1) := by decide +kernel
theorem dX12_readPlan_38 : decode cX12_readPlan 38 = .ok (.ireturn, 1) := by decide +kernel
theorem dX12_readPlan_39 : decode cX12_readPlan 39 = .ok (.iload_n 1, 1) := by decide +kernel
theorem dX12_readPlan_40 : decode cX12_readPlan 40 = .ok (.iconst 1, 1) := by decide +kernel
theorem dX12_readPlan_41 : decode cX12_readPlan 41 = .ok (.iadd, 1) := by decide +kernel
theorem dX12_readPlan_42 : decode cX12_readPlan 42 = .ok (.istore_n 1, 1) := by decide +kernel
theorem dX12_readPlan_43 : decode cX12_readPlan 43 = .ok (.goto (-41), 3) := by decide +kernel
theorem dX12_readPlan_46 : decode cX12_readPlan 46 = .ok (.aload_n 0, 1) := by decide +kernel
theorem dX12_readPlan_47 : decode cX12_readPlan 47 = .ok (.getfield 154, 3) := by decide +kernel
theorem dX12_readPlan_50 : decode cX12_readPlan 50 = .ok (.ifCond .ne 7, 3) := by decide +kernel
theorem dX12_readPlan_53 : decode cX12_readPlan 53 = .ok (.iload_n 1, 1) := by decide +kernel
theorem dX12_readPlan_54 : decode cX12_readPlan 54 = .ok (.goto 8, 3) := by decide +kernel
theorem dX12_readPlan_57 : decode cX12_readPlan 57 = .ok (.aload_n 0, 1) := by decide +kernel
theorem dX12_readPlan_58 : decode cX12_readPlan 58 = .ok (.iconst 1, 1) := by decide +kernel
theorem dX12_readPlan_59 : decode cX12_readPlan 59 = .ok (.invokevirtual 185, 3) := by decide +kernel
theorem dX12_readPlan_62 : decode cX12_readPlan 62 = .ok (.ireturn, 1) := by decide +kernel
theorem dX12_readTenet_0 : decode cX12_readTenet 0 = .ok (.iconst 0, 1) := by decide +kernel
theorem dX12_readTenet_1 : decode cX12_readTenet 1 = .ok (.istore_n 2, 1) := by decide +kernel
theorem dX12_readTenet_2 : decode cX12_readTenet 2 = .ok (.iconst 1, 1) := by decide +kernel
theorem dX12_readTenet_3 : decode cX12_readTenet 3 = .ok (.istore_n 3, 1) := by decide +kernel
theorem dX12_readTenet_4 : decode cX12_readTenet 4 = .ok (.iload_n 3, 1) := by decide +kernel
theorem dX12_readTenet_5 : decode cX12_readTenet 5 = .ok (.ifCond .eq 44, 3) := by decide +kernel
theorem dX12_readTenet_8 : decode cX12_readTenet 8 = .ok (.aload_n 0, 1) := by decide +kernel
theorem dX12_readTenet_9 : decode cX12_readTenet 9 = .ok (.iconst 0, 1) := by decide +kernel
theorem dX12_readTenet_10 : decode cX12_readTenet 10 = .ok (.bipush 15, 2) := by decide +kernel
theorem dX12_readTenet_12 : decode cX12_readTenet 12 = .ok (.invokevirtual 236, 3) := by decide +kernel
theorem dX12_readTenet_15 : decode cX12_readTenet 15 = .ok (.istore 4, 2) := by decide +kernel
theorem dX12_readTenet_17 : decode cX12_readTenet 17 = .ok (.iload 4, 2) := by decide +kernel
theorem dX12_readTenet_19 : decode cX12_readTenet 19 = .ok (.iconst (-1), 1) := by decide +kernel
theorem dX12_readTenet_20 : decode cX12_readTenet 20 = .ok (.if_icmp .ne 5, 3) := by decide +kernel
theorem dX12_readTenet_23 : decode cX12_readTenet 23 = .ok (.iconst (-1), 1) := by decide +kernel
theorem dX12_readTenet_24 : decode cX12_readTenet 24 = .ok (.ireturn, 1) := by decide +kernel
theorem dX12_readTenet_25 : decode cX12_readTenet 25 = .ok (.iload_n 2, 1) := by decide +kernel
theorem dX12_readTenet_26 : decode cX12_readTenet 26 = .ok (.iconst 1, 1) := by decide +kernel
theorem dX12_readTenet_27 : decode cX12_readTenet 27 = .ok (.iload 4, 2) := by decide +kernel
theorem dX12_readTenet_29 : decode cX12_readTenet 29 = .ok (.ishl, 1) := by decide +kernel
theorem dX12_readTenet_30 : decode cX12_readTenet 30 = .ok (.ior, 1) := by decide +kernel
theorem dX12_readTenet_31 : decode cX12_readTenet 31 = .ok (.istore_n 2, 1) := by decide +kernel
theorem dX12_readTenet_32 : decode cX12_readTenet 32 = .ok (.aload_n 0, 1) := by decide +kernel
theorem dX12_readTenet_33 : decode cX12_readTenet 33 = .ok (.iconst 5, 1) := by decide +kernel
theorem dX12_readTenet_34 : decode cX12_readTenet 34 = .ok (.invokevirtual 214, 3) := by decide +kernel
theorem dX12_readTenet_37 : decode cX12_readTenet 37 = .ok (.istore_n 3, 1) := by decide +kernel
theorem dX12_readTenet_38 : decode cX12_readTenet 38 = .ok (.iload_n 3, 1) := by decide +kernel
theorem dX12_readTenet_39 : decode cX12_readTenet 39 = .ok (.ifCond .eq 7, 3) := by decide +kernel
theorem dX12_readTenet_42 : decode cX12_readTenet 42 = .ok (.aload_n 0, 1) := by decide +kernel
theorem dX12_readTenet_43 : decode cX12_readTenet 43 = .ok (.invokevirtual 192, 3) := by decide +kernel
theorem dX12_readTenet_46 : decode cX12_readTenet 46 = .ok (.goto (-42), 3) := by decide +kernel
theorem dX12_readTenet_49 : decode cX12_readTenet 49 = .ok (.aload_n 0, 1) := by decide +kernel
theorem dX12_readTenet_50 : decode cX12_readTenet 50 = .ok (.getfield 65, 3) := by decide +kernel
theorem dX12_readTenet_53 : decode cX12_readTenet 53 = .ok (.iload_n 1, 1) := by decide +kernel
theorem dX12_readTenet_54 : decode cX12_readTenet 54 = .ok (.iload_n 2, 1) := by decide +kernel
theorem dX12_readTenet_55 : decode cX12_readTenet 55 = .ok (.iastore, 1) := by decide +kernel
theorem dX12_readTenet_56 : decode cX12_readTenet 56 = .ok (.aload_n 0, 1) := by decide +kernel
theorem dX12_readTenet_57 : decode cX12_readTenet 57 = .ok (.getfield 65, 3) := by decide +kernel
theorem dX12_readTenet_60 : decode cX12_readTenet 60 = .ok (.iload_n 1, 1) := by decide +kernel
theorem dX12_readTenet_61 : decode cX12_readTenet 61 = .ok (.iconst 1, 1) := by decide +kernel
theorem dX12_readTenet_62 : decode cX12_readTenet 62 = .ok (.iadd, 1) := by decide +kernel
theorem dX12_readTenet_63 : decode cX12_readTenet 63 = .ok (.aload_n 0, 1) := by decide +kernel
theorem dX12_readTenet_64 : decode cX12_readTenet 64 = .ok (.bipush 23, 2) := by decide +kernel
theorem dX12_readTenet_66 : decode cX12_readTenet 66 = .ok (.iconst 0, 1) := by decide +kernel
theorem dX12_readTenet_67 : decode cX12_readTenet 67 = .ok (.bipush 15, 2) := by decide +kernel
theorem dX12_readTenet_69 : decode cX12_readTenet 69 = .ok (.invokevirtual 239, 3) := by decide +kernel
theorem dX12_readTenet_72 : decode cX12_readTenet 72 = .ok (.iastore, 1) := by decide +kernel
theorem dX12_readTenet_73 : decode cX12_readTenet 73 = .ok (.aload_n 0, 1) := by decide +kernel
theorem dX12_readTenet_74 : decode cX12_readTenet 74 = .ok (.getfield 65, 3) := by decide +kernel
theorem dX12_readTenet_77 : decode cX12_readTenet 77 = .ok (.iload_n 1, 1) := by decide +kernel
theorem dX12_readTenet_78 : decode cX12_readTenet 78 = .ok (.iconst 1, 1) := by decide +kernel
theorem dX12_readTenet_79 : decode cX12_readTenet 79 = .ok (.iadd, 1) := by decide +kernel
theorem dX12_readTenet_80 : decode cX12_readTenet 80 = .ok (.iaload, 1) := by decide +kernel
theorem dX12_readTenet_81 : decode cX12_readTenet 81 = .ok (.iconst (-1), 1) := by decide +kernel
theorem dX12_readTenet_82 : decode cX12_readTenet 82 = .ok (.if_icmp .ne 7, 3) := by decide +kernel
theorem dX12_readTenet_85 : decode cX12_readTenet 85 = .ok (.iconst (-1), 1) := by decide +kernel
theorem dX12_readTenet_86 : decode cX12_readTenet 86 = .ok (.goto 9, 3) := by decide +kernel
theorem dX12_readTenet_89 : decode cX12_readTenet 89 = .ok (.aload_n 0, 1) := by decide +kernel
theorem dX12_readTenet_90 : decode cX12_readTenet 90 = .ok (.bipush 59, 2) := by decide +kernel
theorem dX12_readTenet_92 : decode cX12_readTenet 92 = .ok (.invokevirtual 243, 3) := by decide +kernel
theorem dX12_readTenet_95 : decode cX12_readTenet 95 = .ok (.ireturn, 1) := by decide +kernel
theorem dX12_readTenets_0 : decode cX12_readTenets 0 = .ok (.iconst 0, 1) := by decide +kernel
theorem dX12_readTenets_1 : decode cX12_readTenets 1 = .ok (.istore_n 1, 1) := by decide +kernel
theorem dX12_readTenets_2 : decode cX12_readTenets 2 = .ok (.aload_n 0, 1) := by decide +kernel
theorem dX12_readTenets_3 : decode cX12_readTenets 3 = .ok (.getfield 154, 3) := by decide +kernel
theorem dX12_readTenets_6 : decode cX12_readTenets 6 = .ok (.iconst 3, 1) := by decide +kernel
theorem dX12_readTenets_7 : decode cX12_readTenets 7 = .ok (.if_icmp .ne 51, 3) := by decide +kernel
theorem dX12_readTenets_10 : decode cX12_readTenets 10 = .ok (.iload_n 1, 1) := by decide +kernel
theorem dX12_readTenets_11 : decode cX12_readTenets 11 = .ok (.bipush 16, 2) := by decide +kernel
theorem dX12_readTenets_13 : decode cX12_readTenets 13 = .ok (.if_icmp .ne 22, 3) := by decide +kernel
theorem dX12_readTenets_16 : decode cX12_readTenets 16 = .ok (.aload_n 0, 1) := by decide +kernel
theorem dX12_readTenets_17 : decode cX12_readTenets 17 = .ok (.aload_n 0, 1) := by decide +kernel
theorem dX12_readTenets_18 : decode cX12_readTenets 18 = .ok (.getfield 157, 3) := by decide +kernel
theorem dX12_readTenets_21 : decode cX12_readTenets 21 = .ok (.bipush 15, 2) := by decide +kernel
theorem dX12_readTenets_23 : decode cX12_readTenets 23 = .ok (.if_icmp .le 7, 3) := by decide +kernel
theorem dX12_readTenets_26 : decode cX12_readTenets 26 = .ok (.iconst 2, 1) := by decide +kernel
theorem dX12_readTenets_27 : decode cX12_readTenets 27 = .ok (.goto 4, 3) := by decide +kernel
theorem dX12_readTenets_30 : decode cX12_readTenets 30 = .ok (.iconst 3, 1) := by decide +kernel
theorem dX12_readTenets_31 : decode cX12_readTenets 31 = .ok (.invokevirtual 185, 3) := by decide +kernel
theorem dX12_readTenets_34 : decode cX12_readTenets 34 = .ok (.ireturn, 1) := by decide +kernel
theorem dX12_readTenets_35 : decode cX12_readTenets 35 = .ok (.aload_n 0, 1) := by decide +kernel
theorem dX12_readTenets_36 : decode cX12_readTenets 36 = .ok (.bipush 32, 2) := by decide +kernel
theorem dX12_readTenets_38 : decode cX12_readTenets 38 = .ok (.iconst 2, 1) := by decide +kernel
theorem dX12_readTenets_39 : decode cX12_readTenets 39 = .ok (.iload_n 1, 1) := by decide +kernel
theorem dX12_readTenets_40 : decode cX12_readTenets 40 = .ok (.imul, 1) := by decide +kernel
theorem dX12_readTenets_41 : decode cX12_readTenets 41 = .ok (.iadd, 1) := by decide +kernel
theorem dX12_readTenets_42 : decode cX12_readTenets 42 = .ok (.invokevirtual 252, 3) := by decide +kernel
theorem dX12_readTenets_45 : decode cX12_readTenets 45 = .ok (.iconst (-1), 1) := by decide +kernel
theorem dX12_readTenets_46 : decode cX12_readTenets 46 = .ok (.if_icmp .ne 5, 3) := by decide +kernel
theorem dX12_readTenets_49 : decode cX12_readTenets 49 = .ok (.iconst (-1), 1) := by decide +kernel
theorem dX12_readTenets_50 : decode cX12_readTenets 50 = .ok (.ireturn, 1) := by decide +kernel
theorem dX12_readTenets_51 : decode cX12_readTenets 51 = .ok (.iload_n 1, 1) := by decide +kernel
theorem dX12_readTenets_52 : decode cX12_readTenets 52 = .ok (.iconst 1, 1) := by decide +kernel
theorem dX12_readTenets_53 : decode cX12_readTenets 53 = .ok (.iadd, 1) := by decide +kernel
theorem dX12_readTenets_54 : decode cX12_readTenets 54 = .ok (.istore_n 1, 1) := by decide +kernel
theorem dX12_readTenets_55 : decode cX12_readTenets 55 = .ok (.goto (-53), 3) := by decide +kernel
theorem dX12_readTenets_58 : decode cX12_readTenets 58 = .ok (.aload_n 0, 1) := by decide +kernel
theorem dX12_readTenets_59 : decode cX12_readTenets 59 = .ok (.getfield 154, 3) := by decide +kernel
theorem dX12_readTenets_62 : decode cX12_readTenets 62 = .ok (.ifCond .ne 7, 3) := by decide +kernel
theorem dX12_readTenets_65 : decode cX12_readTenets 65 = .ok (.iload_n 1, 1) := by decide +kernel
theorem dX12_readTenets_66 : decode cX12_readTenets 66 = .ok (.goto 8, 3) := by decide +kernel
theorem dX12_readTenets_69 : decode cX12_readTenets 69 = .ok (.aload_n 0, 1) := by decide +kernel
theorem dX12_readTenets_70 : decode cX12_readTenets 70 = .ok (.iconst 1, 1) := by decide +kernel
theorem dX12_readTenets_71 : decode cX12_readTenets 71 = .ok (.invokevirtual 185, 3) := by decide +kernel
theorem dX12_readTenets_74 : decode cX12_readTenets 74 = .ok (.ireturn, 1) := by decide +kernel
theorem dX12_readsText_0 : decode cX12_readsText 0 = .ok (.aload_n 0, 1) := by decide +kernel
theorem dX12_readsText_1 : decode cX12_readsText 1 = .ok (.iconst 0, 1) := by decide +kernel
theorem dX12_readsText_2 : decode cX12_readsText 2 = .ok (.putfield 233, 3) := by decide +kernel
theorem dX12_readsText_5 : decode cX12_readsText 5 = .ok (.aload_n 0, 1) := by decide +kernel
theorem dX12_readsText_6 : decode cX12_readsText 6 = .ok (.invokevirtual 192, 3) := by decide +kernel
theorem dX12_readsText_9 : decode cX12_readsText 9 = .ok (.iload_n 1, 1) := by decide +kernel
theorem dX12_readsText_10 : decode cX12_readsText 10 = .ok (.iconst 1, 1) := by decide +kernel
theorem dX12_readsText_11 : decode cX12_readsText 11 = .ok (.if_icmp .ne 8, 3) := by decide +kernel
theorem dX12_readsText_14 : decode cX12_readsText 14 = .ok (.aload_n 0, 1) := by decide +kernel
theorem dX12_readsText_15 : decode cX12_readsText 15 = .ok (.invokevirtual 255, 3) := by decide +kernel
theorem dX12_readsText_18 : decode cX12_readsText 18 = .ok (.ireturn, 1) := by decide +kernel
theorem dX12_readsText_19 : decode cX12_readsText 19 = .ok (.iload_n 1, 1) := by decide +kernel
theorem dX12_readsText_20 : decode cX12_readsText 20 = .ok (.iconst 2, 1) := by decide +kernel
theorem dX12_readsText_21 : decode cX12_readsText 21 = .ok (.if_icmp .ne 8, 3) := by decide +kernel
theorem dX12_readsText_24 : decode cX12_readsText 24 = .ok (.aload_n 0, 1) := by decide +kernel
theorem dX12_readsText_25 : decode cX12_readsText 25 = .ok (.invokevirtual 258, 3) := by decide +kernel
theorem dX12_readsText_28 : decode cX12_readsText 28 = .ok (.ireturn, 1) := by decide +kernel
theorem dX12_readsText_29 : decode cX12_readsText 29 = .ok (.iload_n 1, 1) := by decide +kernel
theorem dX12_readsText_30 : decode cX12_readsText 30 = .ok (.iconst 3, 1) := by decide +kernel
theorem dX12_readsText_31 : decode cX12_readsText 31 = .ok (.if_icmp .ne 10, 3) := by decide +kernel
theorem dX12_readsText_34 : decode cX12_readsText 34 = .ok (.aload_n 0, 1) := by decide +kernel
theorem dX12_readsText_35 : decode cX12_readsText 35 = .ok (.invokevirtual 261, 3) := by decide +kernel
theorem dX12_readsText_38 : decode cX12_readsText 38 = .ok (.goto 7, 3) := by decide +kernel
theorem dX12_readsText_41 : decode cX12_readsText 41 = .ok (.aload_n 0, 1) := by decide +kernel
theorem dX12_readsText_42 : decode cX12_readsText 42 = .ok (.invokevirtual 264, 3) := by decide +kernel
theorem dX12_readsText_45 : decode cX12_readsText 45 = .ok (.ireturn, 1) := by decide +kernel
theorem dX12_takesOther_0 : decode cX12_takesOther 0 = .ok (.iload_n 1, 1) := by decide +kernel
theorem dX12_takesOther_1 : decode cX12_takesOther 1 = .ok (.iconst 1, 1) := by decide +kernel
theorem dX12_takesOther_2 : decode cX12_takesOther 2 = .ok (.if_icmp .ne 41, 3) := by decide +kernel
theorem dX12_takesOther_5 : decode cX12_takesOther 5 = .ok (.iconst 0, 1) := by decide +kernel
theorem dX12_takesOther_6 : decode cX12_takesOther 6 = .ok (.istore_n 3, 1) := by decide +kernel
theorem dX12_takesOther_7 : decode cX12_takesOther 7 = .ok (.iload_n 3, 1) := by decide +kernel
theorem dX12_takesOther_8 : decode cX12_takesOther 8 = .ok (.iconst 2, 1) := by decide +kernel
theorem dX12_takesOther_9 : decode cX12_takesOther 9 = .ok (.iload_n 2, 1) := by decide +kernel
theorem dX12_takesOther_10 : decode cX12_takesOther 10 = .ok (.imul, 1) := by decide +kernel
theorem dX12_takesOther_11 : decode cX12_takesOther 11 = .ok (.if_icmp .ge 24, 3) := by decide +kernel
theorem dX12_takesOther_14 : decode cX12_takesOther 14 = .ok (.aload_n 0, 1) := by decide +kernel
theorem dX12_takesOther_15 : decode cX12_takesOther 15 = .ok (.getfield 59, 3) := by decide +kernel
theorem dX12_takesOther_18 : decode cX12_takesOther 18 = .ok (.iload_n 3, 1) := by decide +kernel
theorem dX12_takesOther_19 : decode cX12_takesOther 19 = .ok (.aload_n 0, 1) := by decide +kernel
theorem dX12_takesOther_20 : decode cX12_takesOther 20 = .ok (.getfield 59, 3) := by decide +kernel
theorem dX12_takesOther_23 : decode cX12_takesOther 23 = .ok (.bipush 32, 2) := by decide +kernel
theorem dX12_takesOther_25 : decode cX12_takesOther 25 = .ok (.iload_n 3, 1) := by decide +kernel
theorem dX12_takesOther_26 : decode cX12_takesOther 26 = .ok (.iadd, 1) := by decide +kernel
theorem dX12_takesOther_27 : decode cX12_takesOther 27 = .ok (.iaload, 1) := by decide +kernel
theorem dX12_takesOther_28 : decode cX12_takesOther 28 = .ok (.iastore, 1) := by decide +kernel
theorem dX12_takesOther_29 : decode cX12_takesOther 29 = .ok (.iinc 3 1, 3) := by decide +kernel
theorem dX12_takesOther_32 : decode cX12_takesOther 32 = .ok (.goto (-25), 3) := by decide +kernel
theorem dX12_takesOther_35 : decode cX12_takesOther 35 = .ok (.aload_n 0, 1) := by decide +kernel
theorem dX12_takesOther_36 : decode cX12_takesOther 36 = .ok (.iload_n 2, 1) := by decide +kernel
theorem dX12_takesOther_37 : decode cX12_takesOther 37 = .ok (.putfield 267, 3) := by decide +kernel
theorem dX12_takesOther_40 : decode cX12_takesOther 40 = .ok (.goto 86, 3) := by decide +kernel
theorem dX12_takesOther_43 : decode cX12_takesOther 43 = .ok (.iload_n 1, 1) := by decide +kernel
theorem dX12_takesOther_44 : decode cX12_takesOther 44 = .ok (.iconst 2, 1) := by decide +kernel
theorem dX12_takesOther_45 : decode cX12_takesOther 45 = .ok (.if_icmp .ne 46, 3) := by decide +kernel
theorem dX12_takesOther_48 : decode cX12_takesOther 48 = .ok (.iconst 0, 1) := by decide +kernel
theorem dX12_takesOther_49 : decode cX12_takesOther 49 = .ok (.istore_n 3, 1) := by decide +kernel
theorem dX12_takesOther_50 : decode cX12_takesOther 50 = .ok (.iload_n 3, 1) := by decide +kernel
theorem dX12_takesOther_51 : decode cX12_takesOther 51 = .ok (.iconst 4, 1) := by decide +kernel
theorem dX12_takesOther_52 : decode cX12_takesOther 52 = .ok (.iload_n 2, 1) := by decide +kernel
theorem dX12_takesOther_53 : decode cX12_takesOther 53 = .ok (.imul, 1) := by decide +kernel
theorem dX12_takesOther_54 : decode cX12_takesOther 54 = .ok (.if_icmp .ge 24, 3) := by decide +kernel
theorem dX12_takesOther_57 : decode cX12_takesOther 57 = .ok (.aload_n 0, 1) := by decide +kernel
theorem dX12_takesOther_58 : decode cX12_takesOther 58 = .ok (.getfield 62, 3) := by decide +kernel
theorem dX12_takesOther_61 : decode cX12_takesOther 61 = .ok (.iload_n 3, 1) := by decide +kernel
theorem dX12_takesOther_62 : decode cX12_takesOther 62 = .ok (.aload_n 0, 1) := by decide +kernel
theorem dX12_takesOther_63 : decode cX12_takesOther 63 = .ok (.getfield 62, 3) := by decide +kernel
theorem dX12_takesOther_66 : decode cX12_takesOther 66 = .ok (.bipush 64, 2) := by decide +kernel
theorem dX12_takesOther_68 : decode cX12_takesOther 68 = .ok (.iload_n 3, 1) := by decide +kernel
theorem dX12_takesOther_69 : decode cX12_takesOther 69 = .ok (.iadd, 1) := by decide +kernel
theorem dX12_takesOther_70 : decode cX12_takesOther 70 = .ok (.iaload, 1) := by decide +kernel
theorem dX12_takesOther_71 : decode cX12_takesOther 71 = .ok (.iastore, 1) := by decide +kernel
theorem dX12_takesOther_72 : decode cX12_takesOther 72 = .ok (.iinc 3 1, 3) := by decide +kernel
theorem dX12_takesOther_75 : decode cX12_takesOther 75 = .ok (.goto (-25), 3) := by decide +kernel
theorem dX12_takesOther_78 : decode cX12_takesOther 78 = .ok (.aload_n 0, 1) := by decide +kernel
theorem dX12_takesOther_79 : decode cX12_takesOther 79 = .ok (.iload_n 2, 1) := by decide +kernel
theorem dX12_takesOther_80 : decode cX12_takesOther 80 = .ok (.putfield 270, 3) := by decide +kernel
theorem dX12_takesOther_83 : decode cX12_takesOther 83 = .ok (.aload_n 0, 1) := by decide +kernel
theorem dX12_takesOther_84 : decode cX12_takesOther 84 = .ok (.iconst 0, 1) := by decide +kernel
theorem dX12_takesOther_85 : decode cX12_takesOther 85 = .ok (.putfield 92, 3) := by decide +kernel
theorem dX12_takesOther_88 : decode cX12_takesOther 88 = .ok (.goto 38, 3) := by decide +kernel
theorem dX12_takesOther_91 : decode cX12_takesOther 91 = .ok (.iconst 0, 1) := by decide +kernel
theorem dX12_takesOther_92 : decode cX12_takesOther 92 = .ok (.istore_n 3, 1) := by decide +kernel
theorem dX12_takesOther_93 : decode cX12_takesOther 93 = .ok (.iload_n 3, 1) := by decide +kernel
theorem dX12_takesOther_94 : decode cX12_takesOther 94 = .ok (.iconst 2, 1) := by decide +kernel
theorem dX12_takesOther_95 : decode cX12_takesOther 95 = .ok (.iload_n 2, 1) := by decide +kernel
theorem dX12_takesOther_96 : decode cX12_takesOther 96 = .ok (.imul, 1) := by decide +kernel
theorem dX12_takesOther_97 : decode cX12_takesOther 97 = .ok (.if_icmp .ge 24, 3) := by decide +kernel
theorem dX12_takesOther_100 : decode cX12_takesOther 100 = .ok (.aload_n 0, 1) := by decide +kernel
theorem dX12_takesOther_101 : decode cX12_takesOther 101 = .ok (.getfield 65, 3) := by decide +kernel
theorem dX12_takesOther_104 : decode cX12_takesOther 104 = .ok (.iload_n 3, 1) := by decide +kernel
theorem dX12_takesOther_105 : decode cX12_takesOther 105 = .ok (.aload_n 0, 1) := by decide +kernel
theorem dX12_takesOther_106 : decode cX12_takesOther 106 = .ok (.getfield 65, 3) := by decide +kernel
theorem dX12_takesOther_109 : decode cX12_takesOther 109 = .ok (.bipush 32, 2) := by decide +kernel
theorem dX12_takesOther_111 : decode cX12_takesOther 111 = .ok (.iload_n 3, 1) := by decide +kernel
theorem dX12_takesOther_112 : decode cX12_takesOther 112 = .ok (.iadd, 1) := by decide +kernel
theorem dX12_takesOther_113 : decode cX12_takesOther 113 = .ok (.iaload, 1) := by decide +kernel
theorem dX12_takesOther_114 : decode cX12_takesOther 114 = .ok (.iastore, 1) := by decide +kernel
theorem dX12_takesOther_115 : decode cX12_takesOther 115 = .ok (.iinc 3 1, 3) := by decide +kernel
theorem dX12_takesOther_118 : decode cX12_takesOther 118 = .ok (.goto (-25), 3) := by decide +kernel
theorem dX12_takesOther_121 : decode cX12_takesOther 121 = .ok (.aload_n 0, 1) := by decide +kernel
theorem dX12_takesOther_122 : decode cX12_takesOther 122 = .ok (.iload_n 2, 1) := by decide +kernel
theorem dX12_takesOther_123 : decode cX12_takesOther 123 = .ok (.putfield 273, 3) := by decide +kernel
theorem dX12_takesOther_126 : decode cX12_takesOther 126 = .ok (.return_, 1) := by decide +kernel
theorem dX12_text_0 : decode cX12_text 0 = .ok (.aload_n 0, 1) := by decide +kernel
theorem dX12_text_1 : decode cX12_text 1 = .ok (.iconst 0, 1) := by decide +kernel
theorem dX12_text_2 : decode cX12_text 2 = .ok (.putfield 89, 3) := by decide +kernel
theorem dX12_text_5 : decode cX12_text 5 = .ok (.aload_n 0, 1) := by decide +kernel
theorem dX12_text_6 : decode cX12_text 6 = .ok (.iconst 0, 1) := by decide +kernel
theorem dX12_text_7 : decode cX12_text 7 = .ok (.putfield 276, 3) := by decide +kernel
theorem dX12_text_10 : decode cX12_text 10 = .ok (.aload_n 0, 1) := by decide +kernel
theorem dX12_text_11 : decode cX12_text 11 = .ok (.iconst (-1), 1) := by decide +kernel
theorem dX12_text_12 : decode cX12_text 12 = .ok (.putfield 55, 3) := by decide +kernel
theorem dX12_text_15 : decode cX12_text 15 = .ok (.aload_n 0, 1) := by decide +kernel
theorem dX12_text_16 : decode cX12_text 16 = .ok (.iconst 0, 1) := by decide +kernel
theorem dX12_text_17 : decode cX12_text 17 = .ok (.putfield 145, 3) := by decide +kernel
theorem dX12_text_20 : decode cX12_text 20 = .ok (.aload_n 0, 1) := by decide +kernel
theorem dX12_text_21 : decode cX12_text 21 = .ok (.iconst 0, 1) := by decide +kernel
theorem dX12_text_22 : decode cX12_text 22 = .ok (.putfield 179, 3) := by decide +kernel
theorem dX12_text_25 : decode cX12_text 25 = .ok (.aload_n 0, 1) := by decide +kernel
theorem dX12_text_26 : decode cX12_text 26 = .ok (.iconst 0, 1) := by decide +kernel
theorem dX12_text_27 : decode cX12_text 27 = .ok (.putfield 211, 3) := by decide +kernel
theorem dX12_text_30 : decode cX12_text 30 = .ok (.iconst (-1), 1) := by decide +kernel
theorem dX12_text_31 : decode cX12_text 31 = .ok (.istore_n 2, 1) := by decide +kernel
theorem dX12_text_32 : decode cX12_text 32 = .ok (.aload_n 0, 1) := by decide +kernel
theorem dX12_text_33 : decode cX12_text 33 = .ok (.iload_n 1, 1) := by decide +kernel
theorem dX12_text_34 : decode cX12_text 34 = .ok (.iconst 0, 1) := by decide +kernel
theorem dX12_text_35 : decode cX12_text 35 = .ok (.iconst 3, 1) := by decide +kernel
theorem dX12_text_36 : decode cX12_text 36 = .ok (.invokevirtual 122, 3) := by decide +kernel
theorem dX12_text_39 : decode cX12_text 39 = .ok (.ifCond .eq 30, 3) := by decide +kernel
theorem dX12_text_42 : decode cX12_text 42 = .ok (.aload_n 0, 1) := by decide +kernel
theorem dX12_text_43 : decode cX12_text 43 = .ok (.iload_n 1, 1) := by decide +kernel
theorem dX12_text_44 : decode cX12_text 44 = .ok (.invokevirtual 279, 3) := by decide +kernel
theorem dX12_text_47 : decode cX12_text 47 = .ok (.istore_n 2, 1) := by decide +kernel
theorem dX12_text_48 : decode cX12_text 48 = .ok (.iload_n 2, 1) := by decide +kernel
theorem dX12_text_49 : decode cX12_text 49 = .ok (.iconst (-1), 1) := by decide +kernel
theorem dX12_text_50 : decode cX12_text 50 = .ok (.if_icmp .ne 19, 3) := by decide +kernel
theorem dX12_text_53 : decode cX12_text 53 = .ok (.aload_n 0, 1) := by decide +kernel
theorem dX12_text_54 : decode cX12_text 54 = .ok (.aload_n 0, 1) := by decide +kernel
theorem dX12_text_55 : decode cX12_text 55 = .ok (.getfield 173, 3) := by decide +kernel
theorem dX12_text_58 : decode cX12_text 58 = .ok (.putfield 276, 3) := by decide +kernel
theorem dX12_text_61 : decode cX12_text 61 = .ok (.aload_n 0, 1) := by decide +kernel
theorem dX12_text_62 : decode cX12_text 62 = .ok (.aload_n 0, 1) := by decide +kernel
theorem dX12_text_63 : decode cX12_text 63 = .ok (.getfield 176, 3) := by decide +kernel
theorem dX12_text_66 : decode cX12_text 66 = .ok (.putfield 55, 3) := by decide +kernel
theorem dX12_text_69 : decode cX12_text 69 = .ok (.aload_n 0, 1) := by decide +kernel
theorem dX12_text_70 : decode cX12_text 70 = .ok (.iconst 0, 1) := by decide +kernel
theorem dX12_text_71 : decode cX12_text 71 = .ok (.putfield 139, 3) := by decide +kernel
theorem dX12_text_74 : decode cX12_text 74 = .ok (.iload_n 2, 1) := by decide +kernel
theorem dX12_text_75 : decode cX12_text 75 = .ok (.iconst (-1), 1) := by decide +kernel
theorem dX12_text_76 : decode cX12_text 76 = .ok (.if_icmp .ne 5, 3) := by decide +kernel
theorem dX12_text_79 : decode cX12_text 79 = .ok (.iconst (-1), 1) := by decide +kernel
theorem dX12_text_80 : decode cX12_text 80 = .ok (.ireturn, 1) := by decide +kernel
theorem dX12_text_81 : decode cX12_text 81 = .ok (.iload_n 1, 1) := by decide +kernel
theorem dX12_text_82 : decode cX12_text 82 = .ok (.ifCond .ne 11, 3) := by decide +kernel
theorem dX12_text_85 : decode cX12_text 85 = .ok (.aload_n 0, 1) := by decide +kernel
theorem dX12_text_86 : decode cX12_text 86 = .ok (.iload_n 2, 1) := by decide +kernel
theorem dX12_text_87 : decode cX12_text 87 = .ok (.invokevirtual 282, 3) := by decide +kernel
theorem dX12_text_90 : decode cX12_text 90 = .ok (.goto 9, 3) := by decide +kernel
theorem dX12_text_93 : decode cX12_text 93 = .ok (.aload_n 0, 1) := by decide +kernel
theorem dX12_text_94 : decode cX12_text 94 = .ok (.iload_n 1, 1) := by decide +kernel
theorem dX12_text_95 : decode cX12_text 95 = .ok (.iload_n 2, 1) := by decide +kernel
theorem dX12_text_96 : decode cX12_text 96 = .ok (.invokevirtual 285, 3) := by decide +kernel
theorem dX12_text_99 : decode cX12_text 99 = .ok (.iload_n 2, 1) := by decide +kernel
theorem dX12_text_100 : decode cX12_text 100 = .ok (.ireturn, 1) := by decide +kernel
theorem dX12_fault_0 : decode cX12_fault 0 = .ok (.aload_n 0, 1) := by decide +kernel
theorem dX12_fault_1 : decode cX12_fault 1 = .ok (.iconst 0, 1) := by decide +kernel
theorem dX12_fault_2 : decode cX12_fault 2 = .ok (.putfield 89, 3) := by decide +kernel
theorem dX12_fault_5 : decode cX12_fault 5 = .ok (.iload_n 1, 1) := by decide +kernel
theorem dX12_fault_6 : decode cX12_fault 6 = .ok (.ifCond .ne 10, 3) := by decide +kernel
theorem dX12_fault_9 : decode cX12_fault 9 = .ok (.aload_n 0, 1) := by decide +kernel
theorem dX12_fault_10 : decode cX12_fault 10 = .ok (.getfield 276, 3) := by decide +kernel
theorem dX12_fault_13 : decode cX12_fault 13 = .ok (.goto 16, 3) := by decide +kernel
theorem dX12_fault_16 : decode cX12_fault 16 = .ok (.iload_n 1, 1) := by decide +kernel
theorem dX12_fault_17 : decode cX12_fault 17 = .ok (.iconst 1, 1) := by decide +kernel
theorem dX12_fault_18 : decode cX12_fault 18 = .ok (.if_icmp .ne 10, 3) := by decide +kernel
theorem dX12_fault_21 : decode cX12_fault 21 = .ok (.aload_n 0, 1) := by decide +kernel
theorem dX12_fault_22 : decode cX12_fault 22 = .ok (.getfield 55, 3) := by decide +kernel
theorem dX12_fault_25 : decode cX12_fault 25 = .ok (.goto 4, 3) := by decide +kernel
theorem dX12_fault_28 : decode cX12_fault 28 = .ok (.iconst (-1), 1) := by decide +kernel
theorem dX12_fault_29 : decode cX12_fault 29 = .ok (.ireturn, 1) := by decide +kernel
theorem dX12_twoOf_0 : decode cX12_twoOf 0 = .ok (.iload_n 1, 1) := by decide +kernel
theorem dX12_twoOf_1 : decode cX12_twoOf 1 = .ok (.iconst 2, 1) := by decide +kernel
theorem dX12_twoOf_2 : decode cX12_twoOf 2 = .ok (.if_icmp .ne 7, 3) := by decide +kernel
theorem dX12_twoOf_5 : decode cX12_twoOf 5 = .ok (.iload_n 2, 1) := by decide +kernel
theorem dX12_twoOf_6 : decode cX12_twoOf 6 = .ok (.iload_n 3, 1) := by decide +kernel
theorem dX12_twoOf_7 : decode cX12_twoOf 7 = .ok (.iadd, 1) := by decide +kernel
theorem dX12_twoOf_8 : decode cX12_twoOf 8 = .ok (.ireturn, 1) := by decide +kernel
theorem dX12_twoOf_9 : decode cX12_twoOf 9 = .ok (.iload_n 1, 1) := by decide +kernel
theorem dX12_twoOf_10 : decode cX12_twoOf 10 = .ok (.iconst 3, 1) := by decide +kernel
theorem dX12_twoOf_11 : decode cX12_twoOf 11 = .ok (.if_icmp .ne 7, 3) := by decide +kernel
theorem dX12_twoOf_14 : decode cX12_twoOf 14 = .ok (.iload_n 2, 1) := by decide +kernel
theorem dX12_twoOf_15 : decode cX12_twoOf 15 = .ok (.iload_n 3, 1) := by decide +kernel
theorem dX12_twoOf_16 : decode cX12_twoOf 16 = .ok (.isub, 1) := by decide +kernel
theorem dX12_twoOf_17 : decode cX12_twoOf 17 = .ok (.ireturn, 1) := by decide +kernel
theorem dX12_twoOf_18 : decode cX12_twoOf 18 = .ok (.iload_n 1, 1) := by decide +kernel
theorem dX12_twoOf_19 : decode cX12_twoOf 19 = .ok (.iconst 4, 1) := by decide +kernel
theorem dX12_twoOf_20 : decode cX12_twoOf 20 = .ok (.if_icmp .ne 7, 3) := by decide +kernel
theorem dX12_twoOf_23 : decode cX12_twoOf 23 = .ok (.iload_n 2, 1) := by decide +kernel
theorem dX12_twoOf_24 : decode cX12_twoOf 24 = .ok (.iload_n 3, 1) := by decide +kernel
theorem dX12_twoOf_25 : decode cX12_twoOf 25 = .ok (.imul, 1) := by decide +kernel
theorem dX12_twoOf_26 : decode cX12_twoOf 26 = .ok (.ireturn, 1) := by decide +kernel
theorem dX12_twoOf_27 : decode cX12_twoOf 27 = .ok (.iload_n 1, 1) := by decide +kernel
theorem dX12_twoOf_28 : decode cX12_twoOf 28 = .ok (.iconst 5, 1) := by decide +kernel
theorem dX12_twoOf_29 : decode cX12_twoOf 29 = .ok (.if_icmp .ne 7, 3) := by decide +kernel
theorem dX12_twoOf_32 : decode cX12_twoOf 32 = .ok (.iload_n 2, 1) := by decide +kernel
theorem dX12_twoOf_33 : decode cX12_twoOf 33 = .ok (.iload_n 3, 1) := by decide +kernel
theorem dX12_twoOf_34 : decode cX12_twoOf 34 = .ok (.idiv, 1) := by decide +kernel
theorem dX12_twoOf_35 : decode cX12_twoOf 35 = .ok (.ireturn, 1) := by decide +kernel
theorem dX12_twoOf_36 : decode cX12_twoOf 36 = .ok (.iload_n 1, 1) := by decide +kernel
theorem dX12_twoOf_37 : decode cX12_twoOf 37 = .ok (.bipush 6, 2) := by decide +kernel
theorem dX12_twoOf_39 : decode cX12_twoOf 39 = .ok (.if_icmp .ne 14, 3) := by decide +kernel
theorem dX12_twoOf_42 : decode cX12_twoOf 42 = .ok (.iload_n 2, 1) := by decide +kernel
theorem dX12_twoOf_43 : decode cX12_twoOf 43 = .ok (.iload_n 3, 1) := by decide +kernel
theorem dX12_twoOf_44 : decode cX12_twoOf 44 = .ok (.if_icmp .ge 7, 3) := by decide +kernel
theorem dX12_twoOf_47 : decode cX12_twoOf 47 = .ok (.iconst 1, 1) := by decide +kernel
theorem dX12_twoOf_48 : decode cX12_twoOf 48 = .ok (.goto 4, 3) := by decide +kernel
theorem dX12_twoOf_51 : decode cX12_twoOf 51 = .ok (.iconst 0, 1) := by decide +kernel
theorem dX12_twoOf_52 : decode cX12_twoOf 52 = .ok (.ireturn, 1) := by decide +kernel
theorem dX12_twoOf_53 : decode cX12_twoOf 53 = .ok (.iload_n 1, 1) := by decide +kernel
theorem dX12_twoOf_54 : decode cX12_twoOf 54 = .ok (.bipush 7, 2) := by decide +kernel
theorem dX12_twoOf_56 : decode cX12_twoOf 56 = .ok (.if_icmp .ne 14, 3) := by decide +kernel
theorem dX12_twoOf_59 : decode cX12_twoOf 59 = .ok (.iload_n 2, 1) := by decide +kernel
theorem dX12_twoOf_60 : decode cX12_twoOf 60 = .ok (.iload_n 3, 1) := by decide +kernel
theorem dX12_twoOf_61 : decode cX12_twoOf 61 = .ok (.if_icmp .ne 7, 3) := by decide +kernel
theorem dX12_twoOf_64 : decode cX12_twoOf 64 = .ok (.iconst 1, 1) := by decide +kernel
theorem dX12_twoOf_65 : decode cX12_twoOf 65 = .ok (.goto 4, 3) := by decide +kernel
theorem dX12_twoOf_68 : decode cX12_twoOf 68 = .ok (.iconst 0, 1) := by decide +kernel
theorem dX12_twoOf_69 : decode cX12_twoOf 69 = .ok (.ireturn, 1) := by decide +kernel
theorem dX12_twoOf_70 : decode cX12_twoOf 70 = .ok (.iload_n 1, 1) := by decide +kernel
theorem dX12_twoOf_71 : decode cX12_twoOf 71 = .ok (.bipush 8, 2) := by decide +kernel
theorem dX12_twoOf_73 : decode cX12_twoOf 73 = .ok (.if_icmp .ne 14, 3) := by decide +kernel
theorem dX12_twoOf_76 : decode cX12_twoOf 76 = .ok (.iload_n 2, 1) := by decide +kernel
theorem dX12_twoOf_77 : decode cX12_twoOf 77 = .ok (.iload_n 3, 1) := by decide +kernel
theorem dX12_twoOf_78 : decode cX12_twoOf 78 = .ok (.if_icmp .le 7, 3) := by decide +kernel
theorem dX12_twoOf_81 : decode cX12_twoOf 81 = .ok (.iconst 1, 1) := by decide +kernel
theorem dX12_twoOf_82 : decode cX12_twoOf 82 = .ok (.goto 4, 3) := by decide +kernel
theorem dX12_twoOf_85 : decode cX12_twoOf 85 = .ok (.iconst 0, 1) := by decide +kernel
theorem dX12_twoOf_86 : decode cX12_twoOf 86 = .ok (.ireturn, 1) := by decide +kernel
theorem dX12_twoOf_87 : decode cX12_twoOf 87 = .ok (.iload_n 1, 1) := by decide +kernel
theorem dX12_twoOf_88 : decode cX12_twoOf 88 = .ok (.bipush 10, 2) := by decide +kernel
theorem dX12_twoOf_90 : decode cX12_twoOf 90 = .ok (.if_icmp .ne 9, 3) := by decide +kernel
theorem dX12_twoOf_93 : decode cX12_twoOf 93 = .ok (.iload_n 2, 1) := by decide +kernel
theorem dX12_twoOf_94 : decode cX12_twoOf 94 = .ok (.iload_n 3, 1) := by decide +kernel
theorem dX12_twoOf_95 : decode cX12_twoOf 95 = .ok (.imul, 1) := by decide +kernel
theorem dX12_twoOf_96 : decode cX12_twoOf 96 = .ok (.goto 14, 3) := by decide +kernel
theorem dX12_twoOf_99 : decode cX12_twoOf 99 = .ok (.iload_n 2, 1) := by decide +kernel
theorem dX12_twoOf_100 : decode cX12_twoOf 100 = .ok (.iload_n 3, 1) := by decide +kernel
theorem dX12_twoOf_101 : decode cX12_twoOf 101 = .ok (.iadd, 1) := by decide +kernel
theorem dX12_twoOf_102 : decode cX12_twoOf 102 = .ok (.ifCond .le 7, 3) := by decide +kernel
theorem dX12_twoOf_105 : decode cX12_twoOf 105 = .ok (.iconst 1, 1) := by decide +kernel
theorem dX12_twoOf_106 : decode cX12_twoOf 106 = .ok (.goto 4, 3) := by decide +kernel
theorem dX12_twoOf_109 : decode cX12_twoOf 109 = .ok (.iconst 0, 1) := by decide +kernel
theorem dX12_twoOf_110 : decode cX12_twoOf 110 = .ok (.ireturn, 1) := by decide +kernel
theorem dX12_runs_0 : decode cX12_runs 0 = .ok (.iconst 0, 1) := by decide +kernel
theorem dX12_runs_1 : decode cX12_runs 1 = .ok (.istore 4, 2) := by decide +kernel
theorem dX12_runs_3 : decode cX12_runs 3 = .ok (.sipush 400, 3) := by decide +kernel
theorem dX12_runs_6 : decode cX12_runs 6 = .ok (.iload_n 1, 1) := by decide +kernel
theorem dX12_runs_7 : decode cX12_runs 7 = .ok (.imul, 1) := by decide +kernel
theorem dX12_runs_8 : decode cX12_runs 8 = .ok (.iload_n 2, 1) := by decide +kernel
theorem dX12_runs_9 : decode cX12_runs 9 = .ok (.iadd, 1) := by decide +kernel
theorem dX12_runs_10 : decode cX12_runs 10 = .ok (.istore 5, 2) := by decide +kernel
theorem dX12_runs_12 : decode cX12_runs 12 = .ok (.iload 5, 2) := by decide +kernel
theorem dX12_runs_14 : decode cX12_runs 14 = .ok (.sipush 400, 3) := by decide +kernel
theorem dX12_runs_17 : decode cX12_runs 17 = .ok (.iload_n 1, 1) := by decide +kernel
theorem dX12_runs_18 : decode cX12_runs 18 = .ok (.imul, 1) := by decide +kernel
theorem dX12_runs_19 : decode cX12_runs 19 = .ok (.iload_n 3, 1) := by decide +kernel
theorem dX12_runs_20 : decode cX12_runs 20 = .ok (.iadd, 1) := by decide +kernel
theorem dX12_runs_21 : decode cX12_runs 21 = .ok (.if_icmp .ge 155, 3) := by decide +kernel
theorem dX12_runs_24 : decode cX12_runs 24 = .ok (.aload_n 0, 1) := by decide +kernel
theorem dX12_runs_25 : decode cX12_runs 25 = .ok (.getfield 46, 3) := by decide +kernel
theorem dX12_runs_28 : decode cX12_runs 28 = .ok (.iload 5, 2) := by decide +kernel
theorem dX12_runs_30 : decode cX12_runs 30 = .ok (.iaload, 1) := by decide +kernel
theorem dX12_runs_31 : decode cX12_runs 31 = .ok (.ifCond .eq 14, 3) := by decide +kernel
theorem dX12_runs_34 : decode cX12_runs 34 = .ok (.aload_n 0, 1) := by decide +kernel
theorem dX12_runs_35 : decode cX12_runs 35 = .ok (.getfield 46, 3) := by decide +kernel
theorem dX12_runs_38 : decode cX12_runs 38 = .ok (.iload 5, 2) := by decide +kernel
theorem dX12_runs_40 : decode cX12_runs 40 = .ok (.iaload, 1) := by decide +kernel
theorem dX12_runs_41 : decode cX12_runs 41 = .ok (.iconst 1, 1) := by decide +kernel
theorem dX12_runs_42 : decode cX12_runs 42 = .ok (.if_icmp .ne 51, 3) := by decide +kernel
theorem dX12_runs_45 : decode cX12_runs 45 = .ok (.aload_n 0, 1) := by decide +kernel
theorem dX12_runs_46 : decode cX12_runs 46 = .ok (.getfield 71, 3) := by decide +kernel
theorem dX12_runs_49 : decode cX12_runs 49 = .ok (.iload 4, 2) := by decide +kernel
theorem dX12_runs_51 : decode cX12_runs 51 = .ok (.aload_n 0, 1) := by decide +kernel
theorem dX12_runs_52 : decode cX12_runs 52 = .ok (.getfield 46, 3) := by decide +kernel
theorem dX12_runs_55 : decode cX12_runs 55 = .ok (.iload 5, 2) := by decide +kernel
theorem dX12_runs_57 : decode cX12_runs 57 = .ok (.iaload, 1) := by decide +kernel
theorem dX12_runs_58 : decode cX12_runs 58 = .ok (.ifCond .ne 13, 3) := by decide +kernel
theorem dX12_runs_61 : decode cX12_runs 61 = .ok (.aload_n 0, 1) := by decide +kernel
theorem dX12_runs_62 : decode cX12_runs 62 = .ok (.getfield 49, 3) := by decide +kernel
theorem dX12_runs_65 : decode cX12_runs 65 = .ok (.iload 5, 2) := by decide +kernel
theorem dX12_runs_67 : decode cX12_runs 67 = .ok (.iaload, 1) := by decide +kernel
theorem dX12_runs_68 : decode cX12_runs 68 = .ok (.goto 15, 3) := by decide +kernel
theorem dX12_runs_71 : decode cX12_runs 71 = .ok (.aload_n 0, 1) := by decide +kernel
theorem dX12_runs_72 : decode cX12_runs 72 = .ok (.getfield 68, 3) := by decide +kernel
theorem dX12_runs_75 : decode cX12_runs 75 = .ok (.aload_n 0, 1) := by decide +kernel
theorem dX12_runs_76 : decode cX12_runs 76 = .ok (.getfield 49, 3) := by decide +kernel
theorem dX12_runs_79 : decode cX12_runs 79 = .ok (.iload 5, 2) := by decide +kernel
theorem dX12_runs_81 : decode cX12_runs 81 = .ok (.iaload, 1) := by decide +kernel
theorem dX12_runs_82 : decode cX12_runs 82 = .ok (.iaload, 1) := by decide +kernel
theorem dX12_runs_83 : decode cX12_runs 83 = .ok (.iastore, 1) := by decide +kernel
theorem dX12_runs_84 : decode cX12_runs 84 = .ok (.iload 4, 2) := by decide +kernel
theorem dX12_runs_86 : decode cX12_runs 86 = .ok (.iconst 1, 1) := by decide +kernel
theorem dX12_runs_87 : decode cX12_runs 87 = .ok (.iadd, 1) := by decide +kernel
theorem dX12_runs_88 : decode cX12_runs 88 = .ok (.istore 4, 2) := by decide +kernel
theorem dX12_runs_90 : decode cX12_runs 90 = .ok (.goto 80, 3) := by decide +kernel
theorem dX12_runs_93 : decode cX12_runs 93 = .ok (.aload_n 0, 1) := by decide +kernel
theorem dX12_runs_94 : decode cX12_runs 94 = .ok (.getfield 46, 3) := by decide +kernel
theorem dX12_runs_97 : decode cX12_runs 97 = .ok (.iload 5, 2) := by decide +kernel
theorem dX12_runs_99 : decode cX12_runs 99 = .ok (.iaload, 1) := by decide +kernel
theorem dX12_runs_100 : decode cX12_runs 100 = .ok (.bipush 9, 2) := by decide +kernel
theorem dX12_runs_102 : decode cX12_runs 102 = .ok (.if_icmp .ne 26, 3) := by decide +kernel
theorem dX12_runs_105 : decode cX12_runs 105 = .ok (.aload_n 0, 1) := by decide +kernel
theorem dX12_runs_106 : decode cX12_runs 106 = .ok (.getfield 71, 3) := by decide +kernel
theorem dX12_runs_109 : decode cX12_runs 109 = .ok (.iload 4, 2) := by decide +kernel
theorem dX12_runs_111 : decode cX12_runs 111 = .ok (.iconst 1, 1) := by decide +kernel
theorem dX12_runs_112 : decode cX12_runs 112 = .ok (.isub, 1) := by decide +kernel
theorem dX12_runs_113 : decode cX12_runs 113 = .ok (.iconst 1, 1) := by decide +kernel
theorem dX12_runs_114 : decode cX12_runs 114 = .ok (.aload_n 0, 1) := by decide +kernel
theorem dX12_runs_115 : decode cX12_runs 115 = .ok (.getfield 71, 3) := by decide +kernel
theorem dX12_runs_118 : decode cX12_runs 118 = .ok (.iload 4, 2) := by decide +kernel
theorem dX12_runs_120 : decode cX12_runs 120 = .ok (.iconst 1, 1) := by decide +kernel
theorem dX12_runs_121 : decode cX12_runs 121 = .ok (.isub, 1) := by decide +kernel
theorem dX12_runs_122 : decode cX12_runs 122 = .ok (.iaload, 1) := by decide +kernel
theorem dX12_runs_123 : decode cX12_runs 123 = .ok (.isub, 1) := by decide +kernel
theorem dX12_runs_124 : decode cX12_runs 124 = .ok (.iastore, 1) := by decide +kernel
theorem dX12_runs_125 : decode cX12_runs 125 = .ok (.goto 45, 3) := by decide +kernel
theorem dX12_runs_128 : decode cX12_runs 128 = .ok (.iload 4, 2) := by decide +kernel
theorem dX12_runs_130 : decode cX12_runs 130 = .ok (.iconst 1, 1) := by decide +kernel
theorem dX12_runs_131 : decode cX12_runs 131 = .ok (.isub, 1) := by decide +kernel
theorem dX12_runs_132 : decode cX12_runs 132 = .ok (.istore 4, 2) := by decide +kernel
theorem dX12_runs_134 : decode cX12_runs 134 = .ok (.aload_n 0, 1) := by decide +kernel
theorem dX12_runs_135 : decode cX12_runs 135 = .ok (.getfield 71, 3) := by decide +kernel
theorem dX12_runs_138 : decode cX12_runs 138 = .ok (.iload 4, 2) := by decide +kernel
theorem dX12_runs_140 : decode cX12_runs 140 = .ok (.iconst 1, 1) := by decide +kernel
theorem dX12_runs_141 : decode cX12_runs 141 = .ok (.isub, 1) := by decide +kernel
theorem dX12_runs_142 : decode cX12_runs 142 = .ok (.aload_n 0, 1) := by decide +kernel
theorem dX12_runs_143 : decode cX12_runs 143 = .ok (.aload_n 0, 1) := by decide +kernel
theorem dX12_runs_144 : decode cX12_runs 144 = .ok (.getfield 46, 3) := by decide +kernel
theorem dX12_runs_147 : decode cX12_runs 147 = .ok (.iload 5, 2) := by decide +kernel
theorem dX12_runs_149 : decode cX12_runs 149 = .ok (.iaload, 1) := by decide +kernel
theorem dX12_runs_150 : decode cX12_runs 150 = .ok (.aload_n 0, 1) := by decide +kernel
theorem dX12_runs_151 : decode cX12_runs 151 = .ok (.getfield 71, 3) := by decide +kernel
theorem dX12_runs_154 : decode cX12_runs 154 = .ok (.iload 4, 2) := by decide +kernel
theorem dX12_runs_156 : decode cX12_runs 156 = .ok (.iconst 1, 1) := by decide +kernel
theorem dX12_runs_157 : decode cX12_runs 157 = .ok (.isub, 1) := by decide +kernel
theorem dX12_runs_158 : decode cX12_runs 158 = .ok (.iaload, 1) := by decide +kernel
theorem dX12_runs_159 : decode cX12_runs 159 = .ok (.aload_n 0, 1) := by decide +kernel
theorem dX12_runs_160 : decode cX12_runs 160 = .ok (.getfield 71, 3) := by decide +kernel
theorem dX12_runs_163 : decode cX12_runs 163 = .ok (.iload 4, 2) := by decide +kernel
theorem dX12_runs_165 : decode cX12_runs 165 = .ok (.iaload, 1) := by decide +kernel
theorem dX12_runs_166 : decode cX12_runs 166 = .ok (.invokevirtual 288, 3) := by decide +kernel
theorem dX12_runs_169 : decode cX12_runs 169 = .ok (.iastore, 1) := by decide +kernel
theorem dX12_runs_170 : decode cX12_runs 170 = .ok (.iinc 5 1, 3) := by decide +kernel
theorem dX12_runs_173 : decode cX12_runs 173 = .ok (.goto (-161), 3) := by decide +kernel
theorem dX12_runs_176 : decode cX12_runs 176 = .ok (.aload_n 0, 1) := by decide +kernel
theorem dX12_runs_177 : decode cX12_runs 177 = .ok (.getfield 71, 3) := by decide +kernel
theorem dX12_runs_180 : decode cX12_runs 180 = .ok (.iconst 0, 1) := by decide +kernel
theorem dX12_runs_181 : decode cX12_runs 181 = .ok (.iaload, 1) := by decide +kernel
theorem dX12_runs_182 : decode cX12_runs 182 = .ok (.ireturn, 1) := by decide +kernel
theorem dX12_lineOf_0 : decode cX12_lineOf 0 = .ok (.iconst 0, 1) := by decide +kernel
theorem dX12_lineOf_1 : decode cX12_lineOf 1 = .ok (.istore_n 2, 1) := by decide +kernel
theorem dX12_lineOf_2 : decode cX12_lineOf 2 = .ok (.iload_n 2, 1) := by decide +kernel
theorem dX12_lineOf_3 : decode cX12_lineOf 3 = .ok (.aload_n 0, 1) := by decide +kernel
theorem dX12_lineOf_4 : decode cX12_lineOf 4 = .ok (.getfield 31, 3) := by decide +kernel
theorem dX12_lineOf_7 : decode cX12_lineOf 7 = .ok (.iconst 0, 1) := by decide +kernel
theorem dX12_lineOf_8 : decode cX12_lineOf 8 = .ok (.iaload, 1) := by decide +kernel
theorem dX12_lineOf_9 : decode cX12_lineOf 9 = .ok (.if_icmp .ge 56, 3) := by decide +kernel
theorem dX12_lineOf_12 : decode cX12_lineOf 12 = .ok (.aload_n 0, 1) := by decide +kernel
theorem dX12_lineOf_13 : decode cX12_lineOf 13 = .ok (.getfield 34, 3) := by decide +kernel
theorem dX12_lineOf_16 : decode cX12_lineOf 16 = .ok (.iload_n 2, 1) := by decide +kernel
theorem dX12_lineOf_17 : decode cX12_lineOf 17 = .ok (.iaload, 1) := by decide +kernel
theorem dX12_lineOf_18 : decode cX12_lineOf 18 = .ok (.iload_n 1, 1) := by decide +kernel
theorem dX12_lineOf_19 : decode cX12_lineOf 19 = .ok (.if_icmp .ne 40, 3) := by decide +kernel
theorem dX12_lineOf_22 : decode cX12_lineOf 22 = .ok (.aload_n 0, 1) := by decide +kernel
theorem dX12_lineOf_23 : decode cX12_lineOf 23 = .ok (.getfield 40, 3) := by decide +kernel
theorem dX12_lineOf_26 : decode cX12_lineOf 26 = .ok (.iload_n 2, 1) := by decide +kernel
theorem dX12_lineOf_27 : decode cX12_lineOf 27 = .ok (.iaload, 1) := by decide +kernel
theorem dX12_lineOf_28 : decode cX12_lineOf 28 = .ok (.aload_n 0, 1) := by decide +kernel
theorem dX12_lineOf_29 : decode cX12_lineOf 29 = .ok (.getfield 43, 3) := by decide +kernel
theorem dX12_lineOf_32 : decode cX12_lineOf 32 = .ok (.iload_n 2, 1) := by decide +kernel
theorem dX12_lineOf_33 : decode cX12_lineOf 33 = .ok (.iaload, 1) := by decide +kernel
theorem dX12_lineOf_34 : decode cX12_lineOf 34 = .ok (.if_icmp .eq 23, 3) := by decide +kernel
theorem dX12_lineOf_37 : decode cX12_lineOf 37 = .ok (.aload_n 0, 1) := by decide +kernel
theorem dX12_lineOf_38 : decode cX12_lineOf 38 = .ok (.iconst 0, 1) := by decide +kernel
theorem dX12_lineOf_39 : decode cX12_lineOf 39 = .ok (.aload_n 0, 1) := by decide +kernel
theorem dX12_lineOf_40 : decode cX12_lineOf 40 = .ok (.getfield 40, 3) := by decide +kernel
theorem dX12_lineOf_43 : decode cX12_lineOf 43 = .ok (.iload_n 2, 1) := by decide +kernel
theorem dX12_lineOf_44 : decode cX12_lineOf 44 = .ok (.iaload, 1) := by decide +kernel
theorem dX12_lineOf_45 : decode cX12_lineOf 45 = .ok (.aload_n 0, 1) := by decide +kernel
theorem dX12_lineOf_46 : decode cX12_lineOf 46 = .ok (.getfield 43, 3) := by decide +kernel
theorem dX12_lineOf_49 : decode cX12_lineOf 49 = .ok (.iload_n 2, 1) := by decide +kernel
theorem dX12_lineOf_50 : decode cX12_lineOf 50 = .ok (.iaload, 1) := by decide +kernel
theorem dX12_lineOf_51 : decode cX12_lineOf 51 = .ok (.invokevirtual 291, 3) := by decide +kernel
theorem dX12_lineOf_54 : decode cX12_lineOf 54 = .ok (.ifCond .eq 5, 3) := by decide +kernel
theorem dX12_lineOf_57 : decode cX12_lineOf 57 = .ok (.iload_n 2, 1) := by decide +kernel
theorem dX12_lineOf_58 : decode cX12_lineOf 58 = .ok (.ireturn, 1) := by decide +kernel
theorem dX12_lineOf_59 : decode cX12_lineOf 59 = .ok (.iinc 2 1, 3) := by decide +kernel
theorem dX12_lineOf_62 : decode cX12_lineOf 62 = .ok (.goto (-60), 3) := by decide +kernel
theorem dX12_lineOf_65 : decode cX12_lineOf 65 = .ok (.iconst (-1), 1) := by decide +kernel
theorem dX12_lineOf_66 : decode cX12_lineOf 66 = .ok (.ireturn, 1) := by decide +kernel
theorem dX12_aboveOf_0 : decode cX12_aboveOf 0 = .ok (.aload_n 0, 1) := by decide +kernel
theorem dX12_aboveOf_1 : decode cX12_aboveOf 1 = .ok (.iload_n 1, 1) := by decide +kernel
theorem dX12_aboveOf_2 : decode cX12_aboveOf 2 = .ok (.invokevirtual 294, 3) := by decide +kernel
theorem dX12_aboveOf_5 : decode cX12_aboveOf 5 = .ok (.istore_n 2, 1) := by decide +kernel
theorem dX12_aboveOf_6 : decode cX12_aboveOf 6 = .ok (.iload_n 2, 1) := by decide +kernel
theorem dX12_aboveOf_7 : decode cX12_aboveOf 7 = .ok (.iconst (-1), 1) := by decide +kernel
theorem dX12_aboveOf_8 : decode cX12_aboveOf 8 = .ok (.if_icmp .ne 7, 3) := by decide +kernel
theorem dX12_aboveOf_11 : decode cX12_aboveOf 11 = .ok (.iconst (-1), 1) := by decide +kernel
theorem dX12_aboveOf_12 : decode cX12_aboveOf 12 = .ok (.goto 8, 3) := by decide +kernel
theorem dX12_aboveOf_15 : decode cX12_aboveOf 15 = .ok (.aload_n 0, 1) := by decide +kernel
theorem dX12_aboveOf_16 : decode cX12_aboveOf 16 = .ok (.iload_n 2, 1) := by decide +kernel
theorem dX12_aboveOf_17 : decode cX12_aboveOf 17 = .ok (.invokevirtual 297, 3) := by decide +kernel
theorem dX12_aboveOf_20 : decode cX12_aboveOf 20 = .ok (.istore_n 3, 1) := by decide +kernel
theorem dX12_aboveOf_21 : decode cX12_aboveOf 21 = .ok (.aload_n 0, 1) := by decide +kernel
theorem dX12_aboveOf_22 : decode cX12_aboveOf 22 = .ok (.getfield 7, 3) := by decide +kernel
theorem dX12_aboveOf_25 : decode cX12_aboveOf 25 = .ok (.bipush 21, 2) := by decide +kernel
theorem dX12_aboveOf_27 : decode cX12_aboveOf 27 = .ok (.iload_n 3, 1) := by decide +kernel
theorem dX12_aboveOf_28 : decode cX12_aboveOf 28 = .ok (.iconst (-1), 1) := by decide +kernel
theorem dX12_aboveOf_29 : decode cX12_aboveOf 29 = .ok (.if_icmp .ne 7, 3) := by decide +kernel
theorem dX12_aboveOf_32 : decode cX12_aboveOf 32 = .ok (.iload_n 1, 1) := by decide +kernel
theorem dX12_aboveOf_33 : decode cX12_aboveOf 33 = .ok (.goto 8, 3) := by decide +kernel
theorem dX12_aboveOf_36 : decode cX12_aboveOf 36 = .ok (.aload_n 0, 1) := by decide +kernel
theorem dX12_aboveOf_37 : decode cX12_aboveOf 37 = .ok (.iload_n 3, 1) := by decide +kernel
theorem dX12_aboveOf_38 : decode cX12_aboveOf 38 = .ok (.invokevirtual 107, 3) := by decide +kernel
theorem dX12_aboveOf_41 : decode cX12_aboveOf 41 = .ok (.iadd, 1) := by decide +kernel
theorem dX12_aboveOf_42 : decode cX12_aboveOf 42 = .ok (.iaload, 1) := by decide +kernel
theorem dX12_aboveOf_43 : decode cX12_aboveOf 43 = .ok (.ireturn, 1) := by decide +kernel
theorem dX12_asks_0 : decode cX12_asks 0 = .ok (.aload_n 0, 1) := by decide +kernel
theorem dX12_asks_1 : decode cX12_asks 1 = .ok (.iload_n 1, 1) := by decide +kernel
theorem dX12_asks_2 : decode cX12_asks 2 = .ok (.invokevirtual 294, 3) := by decide +kernel
theorem dX12_asks_5 : decode cX12_asks 5 = .ok (.istore_n 2, 1) := by decide +kernel
theorem dX12_asks_6 : decode cX12_asks 6 = .ok (.aload_n 0, 1) := by decide +kernel
theorem dX12_asks_7 : decode cX12_asks 7 = .ok (.getfield 68, 3) := by decide +kernel
theorem dX12_asks_10 : decode cX12_asks 10 = .ok (.iconst 0, 1) := by decide +kernel
theorem dX12_asks_11 : decode cX12_asks 11 = .ok (.aload_n 0, 1) := by decide +kernel
theorem dX12_asks_12 : decode cX12_asks 12 = .ok (.getfield 7, 3) := by decide +kernel
theorem dX12_asks_15 : decode cX12_asks 15 = .ok (.bipush 7, 2) := by decide +kernel
theorem dX12_asks_17 : decode cX12_asks 17 = .ok (.iload_n 1, 1) := by decide +kernel
theorem dX12_asks_18 : decode cX12_asks 18 = .ok (.iadd, 1) := by decide +kernel
theorem dX12_asks_19 : decode cX12_asks 19 = .ok (.iaload, 1) := by decide +kernel
theorem dX12_asks_20 : decode cX12_asks 20 = .ok (.iastore, 1) := by decide +kernel
theorem dX12_asks_21 : decode cX12_asks 21 = .ok (.aload_n 0, 1) := by decide +kernel
theorem dX12_asks_22 : decode cX12_asks 22 = .ok (.getfield 68, 3) := by decide +kernel
theorem dX12_asks_25 : decode cX12_asks 25 = .ok (.iconst 1, 1) := by decide +kernel
theorem dX12_asks_26 : decode cX12_asks 26 = .ok (.aload_n 0, 1) := by decide +kernel
theorem dX12_asks_27 : decode cX12_asks 27 = .ok (.getfield 19, 3) := by decide +kernel
theorem dX12_asks_30 : decode cX12_asks 30 = .ok (.iload_n 1, 1) := by decide +kernel
theorem dX12_asks_31 : decode cX12_asks 31 = .ok (.iaload, 1) := by decide +kernel
theorem dX12_asks_32 : decode cX12_asks 32 = .ok (.iastore, 1) := by decide +kernel
theorem dX12_asks_33 : decode cX12_asks 33 = .ok (.aload_n 0, 1) := by decide +kernel
theorem dX12_asks_34 : decode cX12_asks 34 = .ok (.getfield 68, 3) := by decide +kernel
theorem dX12_asks_37 : decode cX12_asks 37 = .ok (.iconst 2, 1) := by decide +kernel
theorem dX12_asks_38 : decode cX12_asks 38 = .ok (.aload_n 0, 1) := by decide +kernel
theorem dX12_asks_39 : decode cX12_asks 39 = .ok (.getfield 7, 3) := by decide +kernel
theorem dX12_asks_42 : decode cX12_asks 42 = .ok (.bipush 21, 2) := by decide +kernel
theorem dX12_asks_44 : decode cX12_asks 44 = .ok (.iload_n 1, 1) := by decide +kernel
theorem dX12_asks_45 : decode cX12_asks 45 = .ok (.iadd, 1) := by decide +kernel
theorem dX12_asks_46 : decode cX12_asks 46 = .ok (.iaload, 1) := by decide +kernel
theorem dX12_asks_47 : decode cX12_asks 47 = .ok (.iastore, 1) := by decide +kernel
theorem dX12_asks_48 : decode cX12_asks 48 = .ok (.aload_n 0, 1) := by decide +kernel
theorem dX12_asks_49 : decode cX12_asks 49 = .ok (.getfield 68, 3) := by decide +kernel
theorem dX12_asks_52 : decode cX12_asks 52 = .ok (.iconst 3, 1) := by decide +kernel
theorem dX12_asks_53 : decode cX12_asks 53 = .ok (.aload_n 0, 1) := by decide +kernel
theorem dX12_asks_54 : decode cX12_asks 54 = .ok (.getfield 7, 3) := by decide +kernel
theorem dX12_asks_57 : decode cX12_asks 57 = .ok (.bipush 35, 2) := by decide +kernel
theorem dX12_asks_59 : decode cX12_asks 59 = .ok (.iload_n 1, 1) := by decide +kernel
theorem dX12_asks_60 : decode cX12_asks 60 = .ok (.iadd, 1) := by decide +kernel
theorem dX12_asks_61 : decode cX12_asks 61 = .ok (.iaload, 1) := by decide +kernel
theorem dX12_asks_62 : decode cX12_asks 62 = .ok (.iastore, 1) := by decide +kernel
theorem dX12_asks_63 : decode cX12_asks 63 = .ok (.aload_n 0, 1) := by decide +kernel
theorem dX12_asks_64 : decode cX12_asks 64 = .ok (.getfield 68, 3) := by decide +kernel
theorem dX12_asks_67 : decode cX12_asks 67 = .ok (.iconst 4, 1) := by decide +kernel
theorem dX12_asks_68 : decode cX12_asks 68 = .ok (.iload_n 2, 1) := by decide +kernel
theorem dX12_asks_69 : decode cX12_asks 69 = .ok (.iconst 1, 1) := by decide +kernel
theorem dX12_asks_70 : decode cX12_asks 70 = .ok (.iadd, 1) := by decide +kernel
theorem dX12_asks_71 : decode cX12_asks 71 = .ok (.iastore, 1) := by decide +kernel
theorem dX12_asks_72 : decode cX12_asks 72 = .ok (.aload_n 0, 1) := by decide +kernel
theorem dX12_asks_73 : decode cX12_asks 73 = .ok (.getfield 68, 3) := by decide +kernel
theorem dX12_asks_76 : decode cX12_asks 76 = .ok (.iconst 5, 1) := by decide +kernel
theorem dX12_asks_77 : decode cX12_asks 77 = .ok (.iload_n 2, 1) := by decide +kernel
theorem dX12_asks_78 : decode cX12_asks 78 = .ok (.iconst (-1), 1) := by decide +kernel
theorem dX12_asks_79 : decode cX12_asks 79 = .ok (.if_icmp .ne 7, 3) := by decide +kernel
theorem dX12_asks_82 : decode cX12_asks 82 = .ok (.iconst 0, 1) := by decide +kernel
theorem dX12_asks_83 : decode cX12_asks 83 = .ok (.goto 12, 3) := by decide +kernel
theorem dX12_asks_86 : decode cX12_asks 86 = .ok (.aload_n 0, 1) := by decide +kernel
theorem dX12_asks_87 : decode cX12_asks 87 = .ok (.getfield 7, 3) := by decide +kernel
theorem dX12_asks_90 : decode cX12_asks 90 = .ok (.bipush 63, 2) := by decide +kernel
theorem dX12_asks_92 : decode cX12_asks 92 = .ok (.iload_n 2, 1) := by decide +kernel
theorem dX12_asks_93 : decode cX12_asks 93 = .ok (.iadd, 1) := by decide +kernel
theorem dX12_asks_94 : decode cX12_asks 94 = .ok (.iaload, 1) := by decide +kernel
theorem dX12_asks_95 : decode cX12_asks 95 = .ok (.iastore, 1) := by decide +kernel
theorem dX12_asks_96 : decode cX12_asks 96 = .ok (.aload_n 0, 1) := by decide +kernel
theorem dX12_asks_97 : decode cX12_asks 97 = .ok (.getfield 68, 3) := by decide +kernel
theorem dX12_asks_100 : decode cX12_asks 100 = .ok (.bipush 6, 2) := by decide +kernel
theorem dX12_asks_102 : decode cX12_asks 102 = .ok (.aload_n 0, 1) := by decide +kernel
theorem dX12_asks_103 : decode cX12_asks 103 = .ok (.getfield 7, 3) := by decide +kernel
theorem dX12_asks_106 : decode cX12_asks 106 = .ok (.iconst 5, 1) := by decide +kernel
theorem dX12_asks_107 : decode cX12_asks 107 = .ok (.iaload, 1) := by decide +kernel
theorem dX12_asks_108 : decode cX12_asks 108 = .ok (.iastore, 1) := by decide +kernel
theorem dX12_asks_109 : decode cX12_asks 109 = .ok (.aload_n 0, 1) := by decide +kernel
theorem dX12_asks_110 : decode cX12_asks 110 = .ok (.getfield 68, 3) := by decide +kernel
theorem dX12_asks_113 : decode cX12_asks 113 = .ok (.bipush 7, 2) := by decide +kernel
theorem dX12_asks_115 : decode cX12_asks 115 = .ok (.aload_n 0, 1) := by decide +kernel
theorem dX12_asks_116 : decode cX12_asks 116 = .ok (.iload_n 1, 1) := by decide +kernel
theorem dX12_asks_117 : decode cX12_asks 117 = .ok (.invokevirtual 300, 3) := by decide +kernel
theorem dX12_asks_120 : decode cX12_asks 120 = .ok (.iastore, 1) := by decide +kernel
theorem dX12_asks_121 : decode cX12_asks 121 = .ok (.aload_n 0, 1) := by decide +kernel
theorem dX12_asks_122 : decode cX12_asks 122 = .ok (.getfield 68, 3) := by decide +kernel
theorem dX12_asks_125 : decode cX12_asks 125 = .ok (.bipush 8, 2) := by decide +kernel
theorem dX12_asks_127 : decode cX12_asks 127 = .ok (.aload_n 0, 1) := by decide +kernel
theorem dX12_asks_128 : decode cX12_asks 128 = .ok (.getfield 7, 3) := by decide +kernel
theorem dX12_asks_131 : decode cX12_asks 131 = .ok (.iconst 0, 1) := by decide +kernel
theorem dX12_asks_132 : decode cX12_asks 132 = .ok (.iaload, 1) := by decide +kernel
theorem dX12_asks_133 : decode cX12_asks 133 = .ok (.iastore, 1) := by decide +kernel
theorem dX12_asks_134 : decode cX12_asks 134 = .ok (.return_, 1) := by decide +kernel
theorem dX12_lawTells_0 : decode cX12_lawTells 0 = .ok (.aload_n 0, 1) := by decide +kernel
theorem dX12_lawTells_1 : decode cX12_lawTells 1 = .ok (.iload_n 1, 1) := by decide +kernel
theorem dX12_lawTells_2 : decode cX12_lawTells 2 = .ok (.invokevirtual 303, 3) := by decide +kernel
theorem dX12_lawTells_5 : decode cX12_lawTells 5 = .ok (.istore 5, 2) := by decide +kernel
theorem dX12_lawTells_7 : decode cX12_lawTells 7 = .ok (.aload_n 0, 1) := by decide +kernel
theorem dX12_lawTells_8 : decode cX12_lawTells 8 = .ok (.iload 5, 2) := by decide +kernel
theorem dX12_lawTells_10 : decode cX12_lawTells 10 = .ok (.iconst (-1), 1) := by decide +kernel
theorem dX12_lawTells_11 : decode cX12_lawTells 11 = .ok (.if_icmp .ne 7, 3) := by decide +kernel
theorem dX12_lawTells_14 : decode cX12_lawTells 14 = .ok (.iload_n 2, 1) := by decide +kernel
theorem dX12_lawTells_15 : decode cX12_lawTells 15 = .ok (.goto 22, 3) := by decide +kernel
theorem dX12_lawTells_18 : decode cX12_lawTells 18 = .ok (.aload_n 0, 1) := by decide +kernel
theorem dX12_lawTells_19 : decode cX12_lawTells 19 = .ok (.iconst 0, 1) := by decide +kernel
theorem dX12_lawTells_20 : decode cX12_lawTells 20 = .ok (.aload_n 0, 1) := by decide +kernel
theorem dX12_lawTells_21 : decode cX12_lawTells 21 = .ok (.getfield 37, 3) := by decide +kernel
theorem dX12_lawTells_24 : decode cX12_lawTells 24 = .ok (.iload 5, 2) := by decide +kernel
theorem dX12_lawTells_26 : decode cX12_lawTells 26 = .ok (.iaload, 1) := by decide +kernel
theorem dX12_lawTells_27 : decode cX12_lawTells 27 = .ok (.aload_n 0, 1) := by decide +kernel
theorem dX12_lawTells_28 : decode cX12_lawTells 28 = .ok (.getfield 40, 3) := by decide +kernel
theorem dX12_lawTells_31 : decode cX12_lawTells 31 = .ok (.iload 5, 2) := by decide +kernel
theorem dX12_lawTells_33 : decode cX12_lawTells 33 = .ok (.iaload, 1) := by decide +kernel
theorem dX12_lawTells_34 : decode cX12_lawTells 34 = .ok (.invokevirtual 291, 3) := by decide +kernel
theorem dX12_lawTells_37 : decode cX12_lawTells 37 = .ok (.iload_n 3, 1) := by decide +kernel
theorem dX12_lawTells_38 : decode cX12_lawTells 38 = .ok (.iload 4, 2) := by decide +kernel
theorem dX12_lawTells_40 : decode cX12_lawTells 40 = .ok (.invokevirtual 306, 3) := by decide +kernel
theorem dX12_lawTells_43 : decode cX12_lawTells 43 = .ok (.ireturn, 1) := by decide +kernel
theorem dX12_eatsOf_0 : decode cX12_eatsOf 0 = .ok (.aload_n 0, 1) := by decide +kernel
theorem dX12_eatsOf_1 : decode cX12_eatsOf 1 = .ok (.iload_n 1, 1) := by decide +kernel
theorem dX12_eatsOf_2 : decode cX12_eatsOf 2 = .ok (.invokevirtual 309, 3) := by decide +kernel
theorem dX12_eatsOf_5 : decode cX12_eatsOf 5 = .ok (.aload_n 0, 1) := by decide +kernel
theorem dX12_eatsOf_6 : decode cX12_eatsOf 6 = .ok (.iconst 0, 1) := by decide +kernel
theorem dX12_eatsOf_7 : decode cX12_eatsOf 7 = .ok (.iconst 1, 1) := by decide +kernel
theorem dX12_eatsOf_8 : decode cX12_eatsOf 8 = .ok (.aload_n 0, 1) := by decide +kernel
theorem dX12_eatsOf_9 : decode cX12_eatsOf 9 = .ok (.getfield 7, 3) := by decide +kernel
theorem dX12_eatsOf_12 : decode cX12_eatsOf 12 = .ok (.bipush 35, 2) := by decide +kernel
theorem dX12_eatsOf_14 : decode cX12_eatsOf 14 = .ok (.iload_n 1, 1) := by decide +kernel
theorem dX12_eatsOf_15 : decode cX12_eatsOf 15 = .ok (.iadd, 1) := by decide +kernel
theorem dX12_eatsOf_16 : decode cX12_eatsOf 16 = .ok (.iaload, 1) := by decide +kernel
theorem dX12_eatsOf_17 : decode cX12_eatsOf 17 = .ok (.bipush 20, 2) := by decide +kernel
theorem dX12_eatsOf_19 : decode cX12_eatsOf 19 = .ok (.idiv, 1) := by decide +kernel
theorem dX12_eatsOf_20 : decode cX12_eatsOf 20 = .ok (.iadd, 1) := by decide +kernel
theorem dX12_eatsOf_21 : decode cX12_eatsOf 21 = .ok (.iconst 0, 1) := by decide +kernel
theorem dX12_eatsOf_22 : decode cX12_eatsOf 22 = .ok (.bipush 99, 2) := by decide +kernel
theorem dX12_eatsOf_24 : decode cX12_eatsOf 24 = .ok (.invokevirtual 312, 3) := by decide +kernel
theorem dX12_eatsOf_27 : decode cX12_eatsOf 27 = .ok (.ireturn, 1) := by decide +kernel
theorem dX12_diesOf_0 : decode cX12_diesOf 0 = .ok (.aload_n 0, 1) := by decide +kernel
theorem dX12_diesOf_1 : decode cX12_diesOf 1 = .ok (.iload_n 1, 1) := by decide +kernel
theorem dX12_diesOf_2 : decode cX12_diesOf 2 = .ok (.invokevirtual 309, 3) := by decide +kernel
theorem dX12_diesOf_5 : decode cX12_diesOf 5 = .ok (.aload_n 0, 1) := by decide +kernel
theorem dX12_diesOf_6 : decode cX12_diesOf 6 = .ok (.iconst 1, 1) := by decide +kernel
theorem dX12_diesOf_7 : decode cX12_diesOf 7 = .ok (.iconst 5, 1) := by decide +kernel
theorem dX12_diesOf_8 : decode cX12_diesOf 8 = .ok (.aload_n 0, 1) := by decide +kernel
theorem dX12_diesOf_9 : decode cX12_diesOf 9 = .ok (.iconst 0, 1) := by decide +kernel
theorem dX12_diesOf_10 : decode cX12_diesOf 10 = .ok (.aload_n 0, 1) := by decide +kernel
theorem dX12_diesOf_11 : decode cX12_diesOf 11 = .ok (.getfield 7, 3) := by decide +kernel
theorem dX12_diesOf_14 : decode cX12_diesOf 14 = .ok (.bipush 7, 2) := by decide +kernel
theorem dX12_diesOf_16 : decode cX12_diesOf 16 = .ok (.iload_n 1, 1) := by decide +kernel
theorem dX12_diesOf_17 : decode cX12_diesOf 17 = .ok (.iadd, 1) := by decide +kernel
theorem dX12_diesOf_18 : decode cX12_diesOf 18 = .ok (.iaload, 1) := by decide +kernel
theorem dX12_diesOf_19 : decode cX12_diesOf 19 = .ok (.bipush 70, 2) := by decide +kernel
theorem dX12_diesOf_21 : decode cX12_diesOf 21 = .ok (.isub, 1) := by decide +kernel
theorem dX12_diesOf_22 : decode cX12_diesOf 22 = .ok (.invokevirtual 316, 3) := by decide +kernel
theorem dX12_diesOf_25 : decode cX12_diesOf 25 = .ok (.imul, 1) := by decide +kernel
theorem dX12_diesOf_26 : decode cX12_diesOf 26 = .ok (.bipush 20, 2) := by decide +kernel
theorem dX12_diesOf_28 : decode cX12_diesOf 28 = .ok (.aload_n 0, 1) := by decide +kernel
theorem dX12_diesOf_29 : decode cX12_diesOf 29 = .ok (.iconst 0, 1) := by decide +kernel
theorem dX12_diesOf_30 : decode cX12_diesOf 30 = .ok (.aload_n 0, 1) := by decide +kernel
theorem dX12_diesOf_31 : decode cX12_diesOf 31 = .ok (.getfield 7, 3) := by decide +kernel
theorem dX12_diesOf_34 : decode cX12_diesOf 34 = .ok (.bipush 35, 2) := by decide +kernel
theorem dX12_diesOf_36 : decode cX12_diesOf 36 = .ok (.iload_n 1, 1) := by decide +kernel
theorem dX12_diesOf_37 : decode cX12_diesOf 37 = .ok (.iadd, 1) := by decide +kernel
theorem dX12_diesOf_38 : decode cX12_diesOf 38 = .ok (.iaload, 1) := by decide +kernel
theorem dX12_diesOf_39 : decode cX12_diesOf 39 = .ok (.bipush 80, 2) := by decide +kernel
theorem dX12_diesOf_41 : decode cX12_diesOf 41 = .ok (.isub, 1) := by decide +kernel
theorem dX12_diesOf_42 : decode cX12_diesOf 42 = .ok (.invokevirtual 316, 3) := by decide +kernel
theorem dX12_diesOf_45 : decode cX12_diesOf 45 = .ok (.imul, 1) := by decide +kernel
theorem dX12_diesOf_46 : decode cX12_diesOf 46 = .ok (.iadd, 1) := by decide +kernel
theorem dX12_diesOf_47 : decode cX12_diesOf 47 = .ok (.iconst 0, 1) := by decide +kernel
theorem dX12_diesOf_48 : decode cX12_diesOf 48 = .ok (.sipush 1000, 3) := by decide +kernel
theorem dX12_diesOf_51 : decode cX12_diesOf 51 = .ok (.invokevirtual 312, 3) := by decide +kernel
theorem dX12_diesOf_54 : decode cX12_diesOf 54 = .ok (.ireturn, 1) := by decide +kernel
theorem dX12_leansOf_0 : decode cX12_leansOf 0 = .ok (.aload_n 0, 1) := by decide +kernel
theorem dX12_leansOf_1 : decode cX12_leansOf 1 = .ok (.iload_n 1, 1) := by decide +kernel
theorem dX12_leansOf_2 : decode cX12_leansOf 2 = .ok (.invokevirtual 309, 3) := by decide +kernel
theorem dX12_leansOf_5 : decode cX12_leansOf 5 = .ok (.aload_n 0, 1) := by decide +kernel
theorem dX12_leansOf_6 : decode cX12_leansOf 6 = .ok (.iconst 2, 1) := by decide +kernel
theorem dX12_leansOf_7 : decode cX12_leansOf 7 = .ok (.aload_n 0, 1) := by decide +kernel
theorem dX12_leansOf_8 : decode cX12_leansOf 8 = .ok (.aload_n 0, 1) := by decide +kernel
theorem dX12_leansOf_9 : decode cX12_leansOf 9 = .ok (.getfield 68, 3) := by decide +kernel
theorem dX12_leansOf_12 : decode cX12_leansOf 12 = .ok (.bipush 7, 2) := by decide +kernel
theorem dX12_leansOf_14 : decode cX12_leansOf 14 = .ok (.iaload, 1) := by decide +kernel
theorem dX12_leansOf_15 : decode cX12_leansOf 15 = .ok (.aload_n 0, 1) := by decide +kernel
theorem dX12_leansOf_16 : decode cX12_leansOf 16 = .ok (.getfield 68, 3) := by decide +kernel
theorem dX12_leansOf_19 : decode cX12_leansOf 19 = .ok (.iconst 2, 1) := by decide +kernel
theorem dX12_leansOf_20 : decode cX12_leansOf 20 = .ok (.iaload, 1) := by decide +kernel
theorem dX12_leansOf_21 : decode cX12_leansOf 21 = .ok (.isub, 1) := by decide +kernel
theorem dX12_leansOf_22 : decode cX12_leansOf 22 = .ok (.iconst 4, 1) := by decide +kernel
theorem dX12_leansOf_23 : decode cX12_leansOf 23 = .ok (.invokevirtual 319, 3) := by decide +kernel
theorem dX12_leansOf_26 : decode cX12_leansOf 26 = .ok (.bipush (-99), 2) := by decide +kernel
theorem dX12_leansOf_28 : decode cX12_leansOf 28 = .ok (.bipush 99, 2) := by decide +kernel
theorem dX12_leansOf_30 : decode cX12_leansOf 30 = .ok (.invokevirtual 312, 3) := by decide +kernel
theorem dX12_leansOf_33 : decode cX12_leansOf 33 = .ok (.ireturn, 1) := by decide +kernel
theorem dX12_isDown_0 : decode cX12_isDown 0 = .ok (.aload_n 0, 1) := by decide +kernel
theorem dX12_isDown_1 : decode cX12_isDown 1 = .ok (.iload_n 1, 1) := by decide +kernel
theorem dX12_isDown_2 : decode cX12_isDown 2 = .ok (.invokevirtual 294, 3) := by decide +kernel
theorem dX12_isDown_5 : decode cX12_isDown 5 = .ok (.istore_n 2, 1) := by decide +kernel
theorem dX12_isDown_6 : decode cX12_isDown 6 = .ok (.aload_n 0, 1) := by decide +kernel
theorem dX12_isDown_7 : decode cX12_isDown 7 = .ok (.getfield 7, 3) := by decide +kernel
theorem dX12_isDown_10 : decode cX12_isDown 10 = .ok (.bipush 73, 2) := by decide +kernel
theorem dX12_isDown_12 : decode cX12_isDown 12 = .ok (.iload_n 2, 1) := by decide +kernel
theorem dX12_isDown_13 : decode cX12_isDown 13 = .ok (.iadd, 1) := by decide +kernel
theorem dX12_isDown_14 : decode cX12_isDown 14 = .ok (.iconst 0, 1) := by decide +kernel
theorem dX12_isDown_15 : decode cX12_isDown 15 = .ok (.iastore, 1) := by decide +kernel
theorem dX12_isDown_16 : decode cX12_isDown 16 = .ok (.aload_n 0, 1) := by decide +kernel
theorem dX12_isDown_17 : decode cX12_isDown 17 = .ok (.iload_n 1, 1) := by decide +kernel
theorem dX12_isDown_18 : decode cX12_isDown 18 = .ok (.invokevirtual 129, 3) := by decide +kernel
theorem dX12_isDown_21 : decode cX12_isDown 21 = .ok (.aload_n 0, 1) := by decide +kernel
theorem dX12_isDown_22 : decode cX12_isDown 22 = .ok (.iconst 3, 1) := by decide +kernel
theorem dX12_isDown_23 : decode cX12_isDown 23 = .ok (.iload_n 1, 1) := by decide +kernel
theorem dX12_isDown_24 : decode cX12_isDown 24 = .ok (.iload_n 2, 1) := by decide +kernel
theorem dX12_isDown_25 : decode cX12_isDown 25 = .ok (.invokevirtual 118, 3) := by decide +kernel
theorem dX12_isDown_28 : decode cX12_isDown 28 = .ok (.aload_n 0, 1) := by decide +kernel
theorem dX12_isDown_29 : decode cX12_isDown 29 = .ok (.invokevirtual 126, 3) := by decide +kernel
theorem dX12_isDown_32 : decode cX12_isDown 32 = .ok (.return_, 1) := by decide +kernel
theorem dX12_canAct_0 : decode cX12_canAct 0 = .ok (.iload_n 1, 1) := by decide +kernel
theorem dX12_canAct_1 : decode cX12_canAct 1 = .ok (.ifCond .ne 13, 3) := by decide +kernel
theorem dX12_canAct_4 : decode cX12_canAct 4 = .ok (.aload_n 0, 1) := by decide +kernel
theorem dX12_canAct_5 : decode cX12_canAct 5 = .ok (.iload_n 3, 1) := by decide +kernel
theorem dX12_canAct_6 : decode cX12_canAct 6 = .ok (.iconst 1, 1) := by decide +kernel
theorem dX12_canAct_7 : decode cX12_canAct 7 = .ok (.sipush 999, 3) := by decide +kernel
theorem dX12_canAct_10 : decode cX12_canAct 10 = .ok (.invokevirtual 122, 3) := by decide +kernel
theorem dX12_canAct_13 : decode cX12_canAct 13 = .ok (.ireturn, 1) := by decide +kernel
theorem dX12_canAct_14 : decode cX12_canAct 14 = .ok (.iload_n 1, 1) := by decide +kernel
theorem dX12_canAct_15 : decode cX12_canAct 15 = .ok (.iconst 1, 1) := by decide +kernel
theorem dX12_canAct_16 : decode cX12_canAct 16 = .ok (.if_icmp .ne 29, 3) := by decide +kernel
theorem dX12_canAct_19 : decode cX12_canAct 19 = .ok (.aload_n 0, 1) := by decide +kernel
theorem dX12_canAct_20 : decode cX12_canAct 20 = .ok (.iload_n 3, 1) := by decide +kernel
theorem dX12_canAct_21 : decode cX12_canAct 21 = .ok (.bipush (-99), 2) := by decide +kernel
theorem dX12_canAct_23 : decode cX12_canAct 23 = .ok (.bipush 99, 2) := by decide +kernel
theorem dX12_canAct_25 : decode cX12_canAct 25 = .ok (.invokevirtual 122, 3) := by decide +kernel
theorem dX12_canAct_28 : decode cX12_canAct 28 = .ok (.ifCond .eq 15, 3) := by decide +kernel
theorem dX12_canAct_31 : decode cX12_canAct 31 = .ok (.aload_n 0, 1) := by decide +kernel
theorem dX12_canAct_32 : decode cX12_canAct 32 = .ok (.invokevirtual 322, 3) := by decide +kernel
theorem dX12_canAct_35 : decode cX12_canAct 35 = .ok (.iconst (-1), 1) := by decide +kernel
theorem dX12_canAct_36 : decode cX12_canAct 36 = .ok (.if_icmp .eq 7, 3) := by decide +kernel
theorem dX12_canAct_39 : decode cX12_canAct 39 = .ok (.iconst 1, 1) := by decide +kernel
theorem dX12_canAct_40 : decode cX12_canAct 40 = .ok (.goto 4, 3) := by decide +kernel
theorem dX12_canAct_43 : decode cX12_canAct 43 = .ok (.iconst 0, 1) := by decide +kernel
theorem dX12_canAct_44 : decode cX12_canAct 44 = .ok (.ireturn, 1) := by decide +kernel
theorem dX12_canAct_45 : decode cX12_canAct 45 = .ok (.iload_n 1, 1) := by decide +kernel
theorem dX12_canAct_46 : decode cX12_canAct 46 = .ok (.iconst 2, 1) := by decide +kernel
theorem dX12_canAct_47 : decode cX12_canAct 47 = .ok (.if_icmp .ne 26, 3) := by decide +kernel
theorem dX12_canAct_50 : decode cX12_canAct 50 = .ok (.aload_n 0, 1) := by decide +kernel
theorem dX12_canAct_51 : decode cX12_canAct 51 = .ok (.iload_n 2, 1) := by decide +kernel
theorem dX12_canAct_52 : decode cX12_canAct 52 = .ok (.invokevirtual 132, 3) := by decide +kernel
theorem dX12_canAct_55 : decode cX12_canAct 55 = .ok (.ifCond .eq 16, 3) := by decide +kernel
theorem dX12_canAct_58 : decode cX12_canAct 58 = .ok (.aload_n 0, 1) := by decide +kernel
theorem dX12_canAct_59 : decode cX12_canAct 59 = .ok (.iload_n 2, 1) := by decide +kernel
theorem dX12_canAct_60 : decode cX12_canAct 60 = .ok (.invokevirtual 294, 3) := by decide +kernel
theorem dX12_canAct_63 : decode cX12_canAct 63 = .ok (.iconst (-1), 1) := by decide +kernel
theorem dX12_canAct_64 : decode cX12_canAct 64 = .ok (.if_icmp .eq 7, 3) := by decide +kernel
theorem dX12_canAct_67 : decode cX12_canAct 67 = .ok (.iconst 1, 1) := by decide +kernel
theorem dX12_canAct_68 : decode cX12_canAct 68 = .ok (.goto 4, 3) := by decide +kernel
theorem dX12_canAct_71 : decode cX12_canAct 71 = .ok (.iconst 0, 1) := by decide +kernel
theorem dX12_canAct_72 : decode cX12_canAct 72 = .ok (.ireturn, 1) := by decide +kernel
theorem dX12_canAct_73 : decode cX12_canAct 73 = .ok (.iload_n 1, 1) := by decide +kernel
theorem dX12_canAct_74 : decode cX12_canAct 74 = .ok (.iconst 3, 1) := by decide +kernel
theorem dX12_canAct_75 : decode cX12_canAct 75 = .ok (.if_icmp .ne 26, 3) := by decide +kernel
theorem dX12_canAct_78 : decode cX12_canAct 78 = .ok (.aload_n 0, 1) := by decide +kernel
theorem dX12_canAct_79 : decode cX12_canAct 79 = .ok (.iload_n 2, 1) := by decide +kernel
theorem dX12_canAct_80 : decode cX12_canAct 80 = .ok (.invokevirtual 325, 3) := by decide +kernel
theorem dX12_canAct_83 : decode cX12_canAct 83 = .ok (.ifCond .eq 18, 3) := by decide +kernel
theorem dX12_canAct_86 : decode cX12_canAct 86 = .ok (.aload_n 0, 1) := by decide +kernel
theorem dX12_canAct_87 : decode cX12_canAct 87 = .ok (.iload_n 3, 1) := by decide +kernel
theorem dX12_canAct_88 : decode cX12_canAct 88 = .ok (.iconst 1, 1) := by decide +kernel
theorem dX12_canAct_89 : decode cX12_canAct 89 = .ok (.bipush 99, 2) := by decide +kernel
theorem dX12_canAct_91 : decode cX12_canAct 91 = .ok (.invokevirtual 122, 3) := by decide +kernel
theorem dX12_canAct_94 : decode cX12_canAct 94 = .ok (.ifCond .eq 7, 3) := by decide +kernel
theorem dX12_canAct_97 : decode cX12_canAct 97 = .ok (.iconst 1, 1) := by decide +kernel
theorem dX12_canAct_98 : decode cX12_canAct 98 = .ok (.goto 4, 3) := by decide +kernel
theorem dX12_canAct_101 : decode cX12_canAct 101 = .ok (.iconst 0, 1) := by decide +kernel
theorem dX12_canAct_102 : decode cX12_canAct 102 = .ok (.ireturn, 1) := by decide +kernel
theorem dX12_acts_0 : decode cX12_acts 0 = .ok (.iload_n 1, 1) := by decide +kernel
theorem dX12_acts_1 : decode cX12_acts 1 = .ok (.ifCond .ne 24, 3) := by decide +kernel
theorem dX12_acts_4 : decode cX12_acts 4 = .ok (.aload_n 0, 1) := by decide +kernel
theorem dX12_acts_5 : decode cX12_acts 5 = .ok (.getfield 7, 3) := by decide +kernel
theorem dX12_acts_8 : decode cX12_acts 8 = .ok (.iconst 3, 1) := by decide +kernel
theorem dX12_acts_9 : decode cX12_acts 9 = .ok (.aload_n 0, 1) := by decide +kernel
theorem dX12_acts_10 : decode cX12_acts 10 = .ok (.sipush 999, 3) := by decide +kernel
theorem dX12_acts_13 : decode cX12_acts 13 = .ok (.aload_n 0, 1) := by decide +kernel
theorem dX12_acts_14 : decode cX12_acts 14 = .ok (.getfield 7, 3) := by decide +kernel
theorem dX12_acts_17 : decode cX12_acts 17 = .ok (.iconst 3, 1) := by decide +kernel
theorem dX12_acts_18 : decode cX12_acts 18 = .ok (.iaload, 1) := by decide +kernel
theorem dX12_acts_19 : decode cX12_acts 19 = .ok (.iload_n 3, 1) := by decide +kernel
theorem dX12_acts_20 : decode cX12_acts 20 = .ok (.iadd, 1) := by decide +kernel
theorem dX12_acts_21 : decode cX12_acts 21 = .ok (.invokevirtual 328, 3) := by decide +kernel
theorem dX12_acts_24 : decode cX12_acts 24 = .ok (.iastore, 1) := by decide +kernel
theorem dX12_acts_25 : decode cX12_acts 25 = .ok (.iload_n 1, 1) := by decide +kernel
theorem dX12_acts_26 : decode cX12_acts 26 = .ok (.iconst 1, 1) := by decide +kernel
theorem dX12_acts_27 : decode cX12_acts 27 = .ok (.if_icmp .ne 19, 3) := by decide +kernel
theorem dX12_acts_30 : decode cX12_acts 30 = .ok (.aload_n 0, 1) := by decide +kernel
theorem dX12_acts_31 : decode cX12_acts 31 = .ok (.getfield 7, 3) := by decide +kernel
theorem dX12_acts_34 : decode cX12_acts 34 = .ok (.bipush 83, 2) := by decide +kernel
theorem dX12_acts_36 : decode cX12_acts 36 = .ok (.aload_n 0, 1) := by decide +kernel
theorem dX12_acts_37 : decode cX12_acts 37 = .ok (.invokevirtual 322, 3) := by decide +kernel
theorem dX12_acts_40 : decode cX12_acts 40 = .ok (.iadd, 1) := by decide +kernel
theorem dX12_acts_41 : decode cX12_acts 41 = .ok (.iload_n 3, 1) := by decide +kernel
theorem dX12_acts_42 : decode cX12_acts 42 = .ok (.bipush 100, 2) := by decide +kernel
theorem dX12_acts_44 : decode cX12_acts 44 = .ok (.iadd, 1) := by decide +kernel
theorem dX12_acts_45 : decode cX12_acts 45 = .ok (.iastore, 1) := by decide +kernel
theorem dX12_acts_46 : decode cX12_acts 46 = .ok (.iload_n 1, 1) := by decide +kernel
theorem dX12_acts_47 : decode cX12_acts 47 = .ok (.iconst 2, 1) := by decide +kernel
theorem dX12_acts_48 : decode cX12_acts 48 = .ok (.if_icmp .ne 8, 3) := by decide +kernel
theorem dX12_acts_51 : decode cX12_acts 51 = .ok (.aload_n 0, 1) := by decide +kernel
theorem dX12_acts_52 : decode cX12_acts 52 = .ok (.iload_n 2, 1) := by decide +kernel
theorem dX12_acts_53 : decode cX12_acts 53 = .ok (.invokevirtual 331, 3) := by decide +kernel
theorem dX12_acts_56 : decode cX12_acts 56 = .ok (.iload_n 1, 1) := by decide +kernel
theorem dX12_acts_57 : decode cX12_acts 57 = .ok (.iconst 3, 1) := by decide +kernel
theorem dX12_acts_58 : decode cX12_acts 58 = .ok (.if_icmp .ne 13, 3) := by decide +kernel
theorem dX12_acts_61 : decode cX12_acts 61 = .ok (.aload_n 0, 1) := by decide +kernel
theorem dX12_acts_62 : decode cX12_acts 62 = .ok (.getfield 7, 3) := by decide +kernel
theorem dX12_acts_65 : decode cX12_acts 65 = .ok (.bipush 63, 2) := by decide +kernel
theorem dX12_acts_67 : decode cX12_acts 67 = .ok (.iload_n 2, 1) := by decide +kernel
theorem dX12_acts_68 : decode cX12_acts 68 = .ok (.iadd, 1) := by decide +kernel
theorem dX12_acts_69 : decode cX12_acts 69 = .ok (.iload_n 3, 1) := by decide +kernel
theorem dX12_acts_70 : decode cX12_acts 70 = .ok (.iastore, 1) := by decide +kernel
theorem dX12_acts_71 : decode cX12_acts 71 = .ok (.return_, 1) := by decide +kernel
theorem dX12_act_0 : decode cX12_act 0 = .ok (.aload_n 0, 1) := by decide +kernel
theorem dX12_act_1 : decode cX12_act 1 = .ok (.iconst 0, 1) := by decide +kernel
theorem dX12_act_2 : decode cX12_act 2 = .ok (.putfield 89, 3) := by decide +kernel
theorem dX12_act_5 : decode cX12_act 5 = .ok (.aload_n 0, 1) := by decide +kernel
theorem dX12_act_6 : decode cX12_act 6 = .ok (.iload_n 1, 1) := by decide +kernel
theorem dX12_act_7 : decode cX12_act 7 = .ok (.iload_n 2, 1) := by decide +kernel
theorem dX12_act_8 : decode cX12_act 8 = .ok (.iload_n 3, 1) := by decide +kernel
theorem dX12_act_9 : decode cX12_act 9 = .ok (.invokevirtual 334, 3) := by decide +kernel
theorem dX12_act_12 : decode cX12_act 12 = .ok (.ifCond .ne 5, 3) := by decide +kernel
theorem dX12_act_15 : decode cX12_act 15 = .ok (.iconst 0, 1) := by decide +kernel
theorem dX12_act_16 : decode cX12_act 16 = .ok (.ireturn, 1) := by decide +kernel
theorem dX12_act_17 : decode cX12_act 17 = .ok (.aload_n 0, 1) := by decide +kernel
theorem dX12_act_18 : decode cX12_act 18 = .ok (.invokevirtual 337, 3) := by decide +kernel
theorem dX12_act_21 : decode cX12_act 21 = .ok (.aload_n 0, 1) := by decide +kernel
theorem dX12_act_22 : decode cX12_act 22 = .ok (.iload_n 1, 1) := by decide +kernel
theorem dX12_act_23 : decode cX12_act 23 = .ok (.iload_n 2, 1) := by decide +kernel
theorem dX12_act_24 : decode cX12_act 24 = .ok (.iload_n 3, 1) := by decide +kernel
theorem dX12_act_25 : decode cX12_act 25 = .ok (.invokevirtual 340, 3) := by decide +kernel
theorem dX12_act_28 : decode cX12_act 28 = .ok (.iconst 1, 1) := by decide +kernel
theorem dX12_act_29 : decode cX12_act 29 = .ok (.ireturn, 1) := by decide +kernel
theorem dX12_does_0 : decode cX12_does 0 = .ok (.aload_n 0, 1) := by decide +kernel
theorem dX12_does_1 : decode cX12_does 1 = .ok (.getfield 62, 3) := by decide +kernel
theorem dX12_does_4 : decode cX12_does 4 = .ok (.iload_n 1, 1) := by decide +kernel
theorem dX12_does_5 : decode cX12_does 5 = .ok (.iconst 1, 1) := by decide +kernel
theorem dX12_does_6 : decode cX12_does 6 = .ok (.iadd, 1) := by decide +kernel
theorem dX12_does_7 : decode cX12_does 7 = .ok (.iaload, 1) := by decide +kernel
theorem dX12_does_8 : decode cX12_does 8 = .ok (.istore_n 2, 1) := by decide +kernel
theorem dX12_does_9 : decode cX12_does 9 = .ok (.aload_n 0, 1) := by decide +kernel
theorem dX12_does_10 : decode cX12_does 10 = .ok (.getfield 62, 3) := by decide +kernel
theorem dX12_does_13 : decode cX12_does 13 = .ok (.iload_n 1, 1) := by decide +kernel
theorem dX12_does_14 : decode cX12_does 14 = .ok (.iconst 2, 1) := by decide +kernel
theorem dX12_does_15 : decode cX12_does 15 = .ok (.iadd, 1) := by decide +kernel
theorem dX12_does_16 : decode cX12_does 16 = .ok (.iaload, 1) := by decide +kernel
theorem dX12_does_17 : decode cX12_does 17 = .ok (.istore_n 3, 1) := by decide +kernel
theorem dX12_does_18 : decode cX12_does 18 = .ok (.iload_n 2, 1) := by decide +kernel
theorem dX12_does_19 : decode cX12_does 19 = .ok (.ifCond .ne 10, 3) := by decide +kernel
theorem dX12_does_22 : decode cX12_does 22 = .ok (.aload_n 0, 1) := by decide +kernel
theorem dX12_does_23 : decode cX12_does 23 = .ok (.getfield 7, 3) := by decide +kernel
theorem dX12_does_26 : decode cX12_does 26 = .ok (.iconst 3, 1) := by decide +kernel
theorem dX12_does_27 : decode cX12_does 27 = .ok (.iload_n 3, 1) := by decide +kernel
theorem dX12_does_28 : decode cX12_does 28 = .ok (.iastore, 1) := by decide +kernel
theorem dX12_does_29 : decode cX12_does 29 = .ok (.iload_n 2, 1) := by decide +kernel
theorem dX12_does_30 : decode cX12_does 30 = .ok (.iconst 1, 1) := by decide +kernel
theorem dX12_does_31 : decode cX12_does 31 = .ok (.if_icmp .ne 18, 3) := by decide +kernel
theorem dX12_does_34 : decode cX12_does 34 = .ok (.aload_n 0, 1) := by decide +kernel
theorem dX12_does_35 : decode cX12_does 35 = .ok (.invokevirtual 322, 3) := by decide +kernel
theorem dX12_does_38 : decode cX12_does 38 = .ok (.iconst (-1), 1) := by decide +kernel
theorem dX12_does_39 : decode cX12_does 39 = .ok (.if_icmp .eq 10, 3) := by decide +kernel
theorem dX12_does_42 : decode cX12_does 42 = .ok (.aload_n 0, 1) := by decide +kernel
theorem dX12_does_43 : decode cX12_does 43 = .ok (.iconst 1, 1) := by decide +kernel
theorem dX12_does_44 : decode cX12_does 44 = .ok (.iconst 0, 1) := by decide +kernel
theorem dX12_does_45 : decode cX12_does 45 = .ok (.iload_n 3, 1) := by decide +kernel
theorem dX12_does_46 : decode cX12_does 46 = .ok (.invokevirtual 340, 3) := by decide +kernel
theorem dX12_does_49 : decode cX12_does 49 = .ok (.iload_n 2, 1) := by decide +kernel
theorem dX12_does_50 : decode cX12_does 50 = .ok (.iconst 2, 1) := by decide +kernel
theorem dX12_does_51 : decode cX12_does 51 = .ok (.if_icmp .ne 17, 3) := by decide +kernel
theorem dX12_does_54 : decode cX12_does 54 = .ok (.aload_n 0, 1) := by decide +kernel
theorem dX12_does_55 : decode cX12_does 55 = .ok (.iload_n 3, 1) := by decide +kernel
theorem dX12_does_56 : decode cX12_does 56 = .ok (.invokevirtual 294, 3) := by decide +kernel
theorem dX12_does_59 : decode cX12_does 59 = .ok (.iconst (-1), 1) := by decide +kernel
theorem dX12_does_60 : decode cX12_does 60 = .ok (.if_icmp .eq 8, 3) := by decide +kernel
theorem dX12_does_63 : decode cX12_does 63 = .ok (.aload_n 0, 1) := by decide +kernel
theorem dX12_does_64 : decode cX12_does 64 = .ok (.iload_n 3, 1) := by decide +kernel
theorem dX12_does_65 : decode cX12_does 65 = .ok (.invokevirtual 331, 3) := by decide +kernel
theorem dX12_does_68 : decode cX12_does 68 = .ok (.iload_n 2, 1) := by decide +kernel
theorem dX12_does_69 : decode cX12_does 69 = .ok (.iconst 3, 1) := by decide +kernel
theorem dX12_does_70 : decode cX12_does 70 = .ok (.if_icmp .ne 20, 3) := by decide +kernel
theorem dX12_does_73 : decode cX12_does 73 = .ok (.aload_n 0, 1) := by decide +kernel
theorem dX12_does_74 : decode cX12_does 74 = .ok (.getfield 7, 3) := by decide +kernel
theorem dX12_does_77 : decode cX12_does 77 = .ok (.bipush 63, 2) := by decide +kernel
theorem dX12_does_79 : decode cX12_does 79 = .ok (.iload_n 3, 1) := by decide +kernel
theorem dX12_does_80 : decode cX12_does 80 = .ok (.iadd, 1) := by decide +kernel
theorem dX12_does_81 : decode cX12_does 81 = .ok (.aload_n 0, 1) := by decide +kernel
theorem dX12_does_82 : decode cX12_does 82 = .ok (.getfield 62, 3) := by decide +kernel
theorem dX12_does_85 : decode cX12_does 85 = .ok (.iload_n 1, 1) := by decide +kernel
theorem dX12_does_86 : decode cX12_does 86 = .ok (.iconst 3, 1) := by decide +kernel
theorem dX12_does_87 : decode cX12_does 87 = .ok (.iadd, 1) := by decide +kernel
theorem dX12_does_88 : decode cX12_does 88 = .ok (.iaload, 1) := by decide +kernel
theorem dX12_does_89 : decode cX12_does 89 = .ok (.iastore, 1) := by decide +kernel
theorem dX12_does_90 : decode cX12_does 90 = .ok (.iload_n 2, 1) := by decide +kernel
theorem dX12_does_91 : decode cX12_does 91 = .ok (.iconst 4, 1) := by decide +kernel
theorem dX12_does_92 : decode cX12_does 92 = .ok (.if_icmp .ne 26, 3) := by decide +kernel
theorem dX12_does_95 : decode cX12_does 95 = .ok (.aload_n 0, 1) := by decide +kernel
theorem dX12_does_96 : decode cX12_does 96 = .ok (.getfield 7, 3) := by decide +kernel
theorem dX12_does_99 : decode cX12_does 99 = .ok (.bipush 49, 2) := by decide +kernel
theorem dX12_does_101 : decode cX12_does 101 = .ok (.iload_n 3, 1) := by decide +kernel
theorem dX12_does_102 : decode cX12_does 102 = .ok (.iadd, 1) := by decide +kernel
theorem dX12_does_103 : decode cX12_does 103 = .ok (.iaload, 1) := by decide +kernel
theorem dX12_does_104 : decode cX12_does 104 = .ok (.ifCond .ne 14, 3) := by decide +kernel
theorem dX12_does_107 : decode cX12_does 107 = .ok (.aload_n 0, 1) := by decide +kernel
theorem dX12_does_108 : decode cX12_does 108 = .ok (.getfield 7, 3) := by decide +kernel
theorem dX12_does_111 : decode cX12_does 111 = .ok (.bipush 35, 2) := by decide +kernel
theorem dX12_does_113 : decode cX12_does 113 = .ok (.iload_n 3, 1) := by decide +kernel
theorem dX12_does_114 : decode cX12_does 114 = .ok (.iadd, 1) := by decide +kernel
theorem dX12_does_115 : decode cX12_does 115 = .ok (.bipush 99, 2) := by decide +kernel
theorem dX12_does_117 : decode cX12_does 117 = .ok (.iastore, 1) := by decide +kernel
theorem dX12_does_118 : decode cX12_does 118 = .ok (.return_, 1) := by decide +kernel
theorem dX12_eats_0 : decode cX12_eats 0 = .ok (.aload_n 0, 1) := by decide +kernel
theorem dX12_eats_1 : decode cX12_eats 1 = .ok (.iload_n 1, 1) := by decide +kernel
theorem dX12_eats_2 : decode cX12_eats 2 = .ok (.invokevirtual 343, 3) := by decide +kernel
theorem dX12_eats_5 : decode cX12_eats 5 = .ok (.istore_n 2, 1) := by decide +kernel
theorem dX12_eats_6 : decode cX12_eats 6 = .ok (.aload_n 0, 1) := by decide +kernel
theorem dX12_eats_7 : decode cX12_eats 7 = .ok (.iload_n 2, 1) := by decide +kernel
theorem dX12_eats_8 : decode cX12_eats 8 = .ok (.aload_n 0, 1) := by decide +kernel
theorem dX12_eats_9 : decode cX12_eats 9 = .ok (.getfield 7, 3) := by decide +kernel
theorem dX12_eats_12 : decode cX12_eats 12 = .ok (.iconst 3, 1) := by decide +kernel
theorem dX12_eats_13 : decode cX12_eats 13 = .ok (.iaload, 1) := by decide +kernel
theorem dX12_eats_14 : decode cX12_eats 14 = .ok (.invokevirtual 328, 3) := by decide +kernel
theorem dX12_eats_17 : decode cX12_eats 17 = .ok (.istore_n 3, 1) := by decide +kernel
theorem dX12_eats_18 : decode cX12_eats 18 = .ok (.aload_n 0, 1) := by decide +kernel
theorem dX12_eats_19 : decode cX12_eats 19 = .ok (.getfield 7, 3) := by decide +kernel
theorem dX12_eats_22 : decode cX12_eats 22 = .ok (.iconst 3, 1) := by decide +kernel
theorem dX12_eats_23 : decode cX12_eats 23 = .ok (.aload_n 0, 1) := by decide +kernel
theorem dX12_eats_24 : decode cX12_eats 24 = .ok (.getfield 7, 3) := by decide +kernel
theorem dX12_eats_27 : decode cX12_eats 27 = .ok (.iconst 3, 1) := by decide +kernel
theorem dX12_eats_28 : decode cX12_eats 28 = .ok (.iaload, 1) := by decide +kernel
theorem dX12_eats_29 : decode cX12_eats 29 = .ok (.iload_n 3, 1) := by decide +kernel
theorem dX12_eats_30 : decode cX12_eats 30 = .ok (.isub, 1) := by decide +kernel
theorem dX12_eats_31 : decode cX12_eats 31 = .ok (.iastore, 1) := by decide +kernel
theorem dX12_eats_32 : decode cX12_eats 32 = .ok (.iload_n 3, 1) := by decide +kernel
theorem dX12_eats_33 : decode cX12_eats 33 = .ok (.ifCond .le 10, 3) := by decide +kernel
theorem dX12_eats_36 : decode cX12_eats 36 = .ok (.aload_n 0, 1) := by decide +kernel
theorem dX12_eats_37 : decode cX12_eats 37 = .ok (.iconst 0, 1) := by decide +kernel
theorem dX12_eats_38 : decode cX12_eats 38 = .ok (.iload_n 1, 1) := by decide +kernel
theorem dX12_eats_39 : decode cX12_eats 39 = .ok (.iload_n 3, 1) := by decide +kernel
theorem dX12_eats_40 : decode cX12_eats 40 = .ok (.invokevirtual 118, 3) := by decide +kernel
theorem dX12_eats_43 : decode cX12_eats 43 = .ok (.aload_n 0, 1) := by decide +kernel
theorem dX12_eats_44 : decode cX12_eats 44 = .ok (.getfield 7, 3) := by decide +kernel
theorem dX12_eats_47 : decode cX12_eats 47 = .ok (.bipush 35, 2) := by decide +kernel
theorem dX12_eats_49 : decode cX12_eats 49 = .ok (.iload_n 1, 1) := by decide +kernel
theorem dX12_eats_50 : decode cX12_eats 50 = .ok (.iadd, 1) := by decide +kernel
theorem dX12_eats_51 : decode cX12_eats 51 = .ok (.iload_n 3, 1) := by decide +kernel
theorem dX12_eats_52 : decode cX12_eats 52 = .ok (.iload_n 2, 1) := by decide +kernel
theorem dX12_eats_53 : decode cX12_eats 53 = .ok (.if_icmp .ne 23, 3) := by decide +kernel
theorem dX12_eats_56 : decode cX12_eats 56 = .ok (.aload_n 0, 1) := by decide +kernel
theorem dX12_eats_57 : decode cX12_eats 57 = .ok (.iconst 0, 1) := by decide +kernel
theorem dX12_eats_58 : decode cX12_eats 58 = .ok (.aload_n 0, 1) := by decide +kernel
theorem dX12_eats_59 : decode cX12_eats 59 = .ok (.getfield 7, 3) := by decide +kernel
theorem dX12_eats_62 : decode cX12_eats 62 = .ok (.bipush 35, 2) := by decide +kernel
theorem dX12_eats_64 : decode cX12_eats 64 = .ok (.iload_n 1, 1) := by decide +kernel
theorem dX12_eats_65 : decode cX12_eats 65 = .ok (.iadd, 1) := by decide +kernel
theorem dX12_eats_66 : decode cX12_eats 66 = .ok (.iaload, 1) := by decide +kernel
theorem dX12_eats_67 : decode cX12_eats 67 = .ok (.bipush 10, 2) := by decide +kernel
theorem dX12_eats_69 : decode cX12_eats 69 = .ok (.isub, 1) := by decide +kernel
theorem dX12_eats_70 : decode cX12_eats 70 = .ok (.invokevirtual 316, 3) := by decide +kernel
theorem dX12_eats_73 : decode cX12_eats 73 = .ok (.goto 24, 3) := by decide +kernel
theorem dX12_eats_76 : decode cX12_eats 76 = .ok (.aload_n 0, 1) := by decide +kernel
theorem dX12_eats_77 : decode cX12_eats 77 = .ok (.bipush 99, 2) := by decide +kernel
theorem dX12_eats_79 : decode cX12_eats 79 = .ok (.aload_n 0, 1) := by decide +kernel
theorem dX12_eats_80 : decode cX12_eats 80 = .ok (.getfield 7, 3) := by decide +kernel
theorem dX12_eats_83 : decode cX12_eats 83 = .ok (.bipush 35, 2) := by decide +kernel
theorem dX12_eats_85 : decode cX12_eats 85 = .ok (.iload_n 1, 1) := by decide +kernel
theorem dX12_eats_86 : decode cX12_eats 86 = .ok (.iadd, 1) := by decide +kernel
theorem dX12_eats_87 : decode cX12_eats 87 = .ok (.iaload, 1) := by decide +kernel
theorem dX12_eats_88 : decode cX12_eats 88 = .ok (.iconst 5, 1) := by decide +kernel
theorem dX12_eats_89 : decode cX12_eats 89 = .ok (.iload_n 2, 1) := by decide +kernel
theorem dX12_eats_90 : decode cX12_eats 90 = .ok (.iload_n 3, 1) := by decide +kernel
theorem dX12_eats_91 : decode cX12_eats 91 = .ok (.isub, 1) := by decide +kernel
theorem dX12_eats_92 : decode cX12_eats 92 = .ok (.imul, 1) := by decide +kernel
theorem dX12_eats_93 : decode cX12_eats 93 = .ok (.iadd, 1) := by decide +kernel
theorem dX12_eats_94 : decode cX12_eats 94 = .ok (.invokevirtual 328, 3) := by decide +kernel
theorem dX12_eats_97 : decode cX12_eats 97 = .ok (.iastore, 1) := by decide +kernel
theorem dX12_eats_98 : decode cX12_eats 98 = .ok (.return_, 1) := by decide +kernel
theorem dX12_basketGoes_0 : decode cX12_basketGoes 0 = .ok (.aload_n 0, 1) := by decide +kernel
theorem dX12_basketGoes_1 : decode cX12_basketGoes 1 = .ok (.getfield 101, 3) := by decide +kernel
theorem dX12_basketGoes_4 : decode cX12_basketGoes 4 = .ok (.iconst 1, 1) := by decide +kernel
theorem dX12_basketGoes_5 : decode cX12_basketGoes 5 = .ok (.isub, 1) := by decide +kernel
theorem dX12_basketGoes_6 : decode cX12_basketGoes 6 = .ok (.istore_n 1, 1) := by decide +kernel
theorem dX12_basketGoes_7 : decode cX12_basketGoes 7 = .ok (.iload_n 1, 1) := by decide +kernel
theorem dX12_basketGoes_8 : decode cX12_basketGoes 8 = .ok (.ifCond .lt 27, 3) := by decide +kernel
theorem dX12_basketGoes_11 : decode cX12_basketGoes 11 = .ok (.aload_n 0, 1) := by decide +kernel
theorem dX12_basketGoes_12 : decode cX12_basketGoes 12 = .ok (.iload_n 1, 1) := by decide +kernel
theorem dX12_basketGoes_13 : decode cX12_basketGoes 13 = .ok (.invokevirtual 107, 3) := by decide +kernel
theorem dX12_basketGoes_16 : decode cX12_basketGoes 16 = .ok (.iconst (-1), 1) := by decide +kernel
theorem dX12_basketGoes_17 : decode cX12_basketGoes 17 = .ok (.if_icmp .eq 12, 3) := by decide +kernel
theorem dX12_basketGoes_20 : decode cX12_basketGoes 20 = .ok (.aload_n 0, 1) := by decide +kernel
theorem dX12_basketGoes_21 : decode cX12_basketGoes 21 = .ok (.aload_n 0, 1) := by decide +kernel
theorem dX12_basketGoes_22 : decode cX12_basketGoes 22 = .ok (.iload_n 1, 1) := by decide +kernel
theorem dX12_basketGoes_23 : decode cX12_basketGoes 23 = .ok (.invokevirtual 107, 3) := by decide +kernel
theorem dX12_basketGoes_26 : decode cX12_basketGoes 26 = .ok (.invokevirtual 346, 3) := by decide +kernel
theorem dX12_basketGoes_29 : decode cX12_basketGoes 29 = .ok (.iinc 1 (-1), 3) := by decide +kernel
theorem dX12_basketGoes_32 : decode cX12_basketGoes 32 = .ok (.goto (-25), 3) := by decide +kernel
theorem dX12_basketGoes_35 : decode cX12_basketGoes 35 = .ok (.aload_n 0, 1) := by decide +kernel
theorem dX12_basketGoes_36 : decode cX12_basketGoes 36 = .ok (.getfield 7, 3) := by decide +kernel
theorem dX12_basketGoes_39 : decode cX12_basketGoes 39 = .ok (.iconst 4, 1) := by decide +kernel
theorem dX12_basketGoes_40 : decode cX12_basketGoes 40 = .ok (.aload_n 0, 1) := by decide +kernel
theorem dX12_basketGoes_41 : decode cX12_basketGoes 41 = .ok (.getfield 7, 3) := by decide +kernel
theorem dX12_basketGoes_44 : decode cX12_basketGoes 44 = .ok (.iconst 4, 1) := by decide +kernel
theorem dX12_basketGoes_45 : decode cX12_basketGoes 45 = .ok (.iaload, 1) := by decide +kernel
theorem dX12_basketGoes_46 : decode cX12_basketGoes 46 = .ok (.aload_n 0, 1) := by decide +kernel
theorem dX12_basketGoes_47 : decode cX12_basketGoes 47 = .ok (.getfield 7, 3) := by decide +kernel
theorem dX12_basketGoes_50 : decode cX12_basketGoes 50 = .ok (.iconst 3, 1) := by decide +kernel
theorem dX12_basketGoes_51 : decode cX12_basketGoes 51 = .ok (.iaload, 1) := by decide +kernel
theorem dX12_basketGoes_52 : decode cX12_basketGoes 52 = .ok (.iadd, 1) := by decide +kernel
theorem dX12_basketGoes_53 : decode cX12_basketGoes 53 = .ok (.iastore, 1) := by decide +kernel
theorem dX12_basketGoes_54 : decode cX12_basketGoes 54 = .ok (.aload_n 0, 1) := by decide +kernel
theorem dX12_basketGoes_55 : decode cX12_basketGoes 55 = .ok (.getfield 7, 3) := by decide +kernel
theorem dX12_basketGoes_58 : decode cX12_basketGoes 58 = .ok (.iconst 3, 1) := by decide +kernel
theorem dX12_basketGoes_59 : decode cX12_basketGoes 59 = .ok (.iconst 0, 1) := by decide +kernel
theorem dX12_basketGoes_60 : decode cX12_basketGoes 60 = .ok (.iastore, 1) := by decide +kernel
theorem dX12_basketGoes_61 : decode cX12_basketGoes 61 = .ok (.iconst 0, 1) := by decide +kernel
theorem dX12_basketGoes_62 : decode cX12_basketGoes 62 = .ok (.istore_n 1, 1) := by decide +kernel
theorem dX12_basketGoes_63 : decode cX12_basketGoes 63 = .ok (.iload_n 1, 1) := by decide +kernel
theorem dX12_basketGoes_64 : decode cX12_basketGoes 64 = .ok (.aload_n 0, 1) := by decide +kernel
theorem dX12_basketGoes_65 : decode cX12_basketGoes 65 = .ok (.getfield 7, 3) := by decide +kernel
theorem dX12_basketGoes_68 : decode cX12_basketGoes 68 = .ok (.bipush 6, 2) := by decide +kernel
theorem dX12_basketGoes_70 : decode cX12_basketGoes 70 = .ok (.iaload, 1) := by decide +kernel
theorem dX12_basketGoes_71 : decode cX12_basketGoes 71 = .ok (.if_icmp .ge 51, 3) := by decide +kernel
theorem dX12_basketGoes_74 : decode cX12_basketGoes 74 = .ok (.aload_n 0, 1) := by decide +kernel
theorem dX12_basketGoes_75 : decode cX12_basketGoes 75 = .ok (.getfield 7, 3) := by decide +kernel
theorem dX12_basketGoes_78 : decode cX12_basketGoes 78 = .ok (.bipush 35, 2) := by decide +kernel
theorem dX12_basketGoes_80 : decode cX12_basketGoes 80 = .ok (.aload_n 0, 1) := by decide +kernel
theorem dX12_basketGoes_81 : decode cX12_basketGoes 81 = .ok (.getfield 7, 3) := by decide +kernel
theorem dX12_basketGoes_84 : decode cX12_basketGoes 84 = .ok (.bipush 93, 2) := by decide +kernel
theorem dX12_basketGoes_86 : decode cX12_basketGoes 86 = .ok (.iload_n 1, 1) := by decide +kernel
theorem dX12_basketGoes_87 : decode cX12_basketGoes 87 = .ok (.iadd, 1) := by decide +kernel
theorem dX12_basketGoes_88 : decode cX12_basketGoes 88 = .ok (.iaload, 1) := by decide +kernel
theorem dX12_basketGoes_89 : decode cX12_basketGoes 89 = .ok (.iadd, 1) := by decide +kernel
theorem dX12_basketGoes_90 : decode cX12_basketGoes 90 = .ok (.aload_n 0, 1) := by decide +kernel
theorem dX12_basketGoes_91 : decode cX12_basketGoes 91 = .ok (.bipush 99, 2) := by decide +kernel
theorem dX12_basketGoes_93 : decode cX12_basketGoes 93 = .ok (.aload_n 0, 1) := by decide +kernel
theorem dX12_basketGoes_94 : decode cX12_basketGoes 94 = .ok (.getfield 7, 3) := by decide +kernel
theorem dX12_basketGoes_97 : decode cX12_basketGoes 97 = .ok (.bipush 35, 2) := by decide +kernel
theorem dX12_basketGoes_99 : decode cX12_basketGoes 99 = .ok (.aload_n 0, 1) := by decide +kernel
theorem dX12_basketGoes_100 : decode cX12_basketGoes 100 = .ok (.getfield 7, 3) := by decide +kernel
theorem dX12_basketGoes_103 : decode cX12_basketGoes 103 = .ok (.bipush 93, 2) := by decide +kernel
theorem dX12_basketGoes_105 : decode cX12_basketGoes 105 = .ok (.iload_n 1, 1) := by decide +kernel
theorem dX12_basketGoes_106 : decode cX12_basketGoes 106 = .ok (.iadd, 1) := by decide +kernel
theorem dX12_basketGoes_107 : decode cX12_basketGoes 107 = .ok (.iaload, 1) := by decide +kernel
theorem dX12_basketGoes_108 : decode cX12_basketGoes 108 = .ok (.iadd, 1) := by decide +kernel
theorem dX12_basketGoes_109 : decode cX12_basketGoes 109 = .ok (.iaload, 1) := by decide +kernel
theorem dX12_basketGoes_110 : decode cX12_basketGoes 110 = .ok (.iconst 1, 1) := by decide +kernel
theorem dX12_basketGoes_111 : decode cX12_basketGoes 111 = .ok (.iadd, 1) := by decide +kernel
theorem dX12_basketGoes_112 : decode cX12_basketGoes 112 = .ok (.invokevirtual 328, 3) := by decide +kernel
theorem dX12_basketGoes_115 : decode cX12_basketGoes 115 = .ok (.iastore, 1) := by decide +kernel
theorem dX12_basketGoes_116 : decode cX12_basketGoes 116 = .ok (.iinc 1 1, 3) := by decide +kernel
theorem dX12_basketGoes_119 : decode cX12_basketGoes 119 = .ok (.goto (-56), 3) := by decide +kernel
theorem dX12_basketGoes_122 : decode cX12_basketGoes 122 = .ok (.return_, 1) := by decide +kernel
theorem dX12_heardAs_0 : decode cX12_heardAs 0 = .ok (.aload_n 0, 1) := by decide +kernel
theorem dX12_heardAs_1 : decode cX12_heardAs 1 = .ok (.iload_n 2, 1) := by decide +kernel
theorem dX12_heardAs_2 : decode cX12_heardAs 2 = .ok (.invokevirtual 107, 3) := by decide +kernel
theorem dX12_heardAs_5 : decode cX12_heardAs 5 = .ok (.istore_n 3, 1) := by decide +kernel
theorem dX12_heardAs_6 : decode cX12_heardAs 6 = .ok (.iload_n 3, 1) := by decide +kernel
theorem dX12_heardAs_7 : decode cX12_heardAs 7 = .ok (.iconst (-1), 1) := by decide +kernel
theorem dX12_heardAs_8 : decode cX12_heardAs 8 = .ok (.if_icmp .ne 7, 3) := by decide +kernel
theorem dX12_heardAs_11 : decode cX12_heardAs 11 = .ok (.iload_n 1, 1) := by decide +kernel
theorem dX12_heardAs_12 : decode cX12_heardAs 12 = .ok (.goto 24, 3) := by decide +kernel
theorem dX12_heardAs_15 : decode cX12_heardAs 15 = .ok (.aload_n 0, 1) := by decide +kernel
theorem dX12_heardAs_16 : decode cX12_heardAs 16 = .ok (.iload_n 1, 1) := by decide +kernel
theorem dX12_heardAs_17 : decode cX12_heardAs 17 = .ok (.aload_n 0, 1) := by decide +kernel
theorem dX12_heardAs_18 : decode cX12_heardAs 18 = .ok (.aload_n 0, 1) := by decide +kernel
theorem dX12_heardAs_19 : decode cX12_heardAs 19 = .ok (.iload_n 3, 1) := by decide +kernel
theorem dX12_heardAs_20 : decode cX12_heardAs 20 = .ok (.invokevirtual 349, 3) := by decide +kernel
theorem dX12_heardAs_23 : decode cX12_heardAs 23 = .ok (.bipush 9, 2) := by decide +kernel
theorem dX12_heardAs_25 : decode cX12_heardAs 25 = .ok (.invokevirtual 319, 3) := by decide +kernel
theorem dX12_heardAs_28 : decode cX12_heardAs 28 = .ok (.iadd, 1) := by decide +kernel
theorem dX12_heardAs_29 : decode cX12_heardAs 29 = .ok (.bipush (-99), 2) := by decide +kernel
theorem dX12_heardAs_31 : decode cX12_heardAs 31 = .ok (.bipush 99, 2) := by decide +kernel
theorem dX12_heardAs_33 : decode cX12_heardAs 33 = .ok (.invokevirtual 306, 3) := by decide +kernel
theorem dX12_heardAs_36 : decode cX12_heardAs 36 = .ok (.ireturn, 1) := by decide +kernel
theorem dX12_adviceGoes_0 : decode cX12_adviceGoes 0 = .ok (.aload_n 0, 1) := by decide +kernel
theorem dX12_adviceGoes_1 : decode cX12_adviceGoes 1 = .ok (.getfield 101, 3) := by decide +kernel
theorem dX12_adviceGoes_4 : decode cX12_adviceGoes 4 = .ok (.ifCond .le 11, 3) := by decide +kernel
theorem dX12_adviceGoes_7 : decode cX12_adviceGoes 7 = .ok (.aload_n 0, 1) := by decide +kernel
theorem dX12_adviceGoes_8 : decode cX12_adviceGoes 8 = .ok (.getfield 7, 3) := by decide +kernel
theorem dX12_adviceGoes_11 : decode cX12_adviceGoes 11 = .ok (.bipush 83, 2) := by decide +kernel
theorem dX12_adviceGoes_13 : decode cX12_adviceGoes 13 = .ok (.iconst 0, 1) := by decide +kernel
theorem dX12_adviceGoes_14 : decode cX12_adviceGoes 14 = .ok (.iastore, 1) := by decide +kernel
theorem dX12_adviceGoes_15 : decode cX12_adviceGoes 15 = .ok (.iconst 0, 1) := by decide +kernel
theorem dX12_adviceGoes_16 : decode cX12_adviceGoes 16 = .ok (.istore_n 1, 1) := by decide +kernel
theorem dX12_adviceGoes_17 : decode cX12_adviceGoes 17 = .ok (.iload_n 1, 1) := by decide +kernel
theorem dX12_adviceGoes_18 : decode cX12_adviceGoes 18 = .ok (.iconst 1, 1) := by decide +kernel
theorem dX12_adviceGoes_19 : decode cX12_adviceGoes 19 = .ok (.iadd, 1) := by decide +kernel
theorem dX12_adviceGoes_20 : decode cX12_adviceGoes 20 = .ok (.aload_n 0, 1) := by decide +kernel
theorem dX12_adviceGoes_21 : decode cX12_adviceGoes 21 = .ok (.getfield 101, 3) := by decide +kernel
theorem dX12_adviceGoes_24 : decode cX12_adviceGoes 24 = .ok (.if_icmp .ge 78, 3) := by decide +kernel
theorem dX12_adviceGoes_27 : decode cX12_adviceGoes 27 = .ok (.aload_n 0, 1) := by decide +kernel
theorem dX12_adviceGoes_28 : decode cX12_adviceGoes 28 = .ok (.getfield 7, 3) := by decide +kernel
theorem dX12_adviceGoes_31 : decode cX12_adviceGoes 31 = .ok (.bipush 83, 2) := by decide +kernel
theorem dX12_adviceGoes_33 : decode cX12_adviceGoes 33 = .ok (.iload_n 1, 1) := by decide +kernel
theorem dX12_adviceGoes_34 : decode cX12_adviceGoes 34 = .ok (.iadd, 1) := by decide +kernel
theorem dX12_adviceGoes_35 : decode cX12_adviceGoes 35 = .ok (.iconst 1, 1) := by decide +kernel
theorem dX12_adviceGoes_36 : decode cX12_adviceGoes 36 = .ok (.iadd, 1) := by decide +kernel
theorem dX12_adviceGoes_37 : decode cX12_adviceGoes 37 = .ok (.iaload, 1) := by decide +kernel
theorem dX12_adviceGoes_38 : decode cX12_adviceGoes 38 = .ok (.ifCond .ne 6, 3) := by decide +kernel
theorem dX12_adviceGoes_41 : decode cX12_adviceGoes 41 = .ok (.goto 55, 3) := by decide +kernel
theorem dX12_adviceGoes_44 : decode cX12_adviceGoes 44 = .ok (.aload_n 0, 1) := by decide +kernel
theorem dX12_adviceGoes_45 : decode cX12_adviceGoes 45 = .ok (.aload_n 0, 1) := by decide +kernel
theorem dX12_adviceGoes_46 : decode cX12_adviceGoes 46 = .ok (.getfield 7, 3) := by decide +kernel
theorem dX12_adviceGoes_49 : decode cX12_adviceGoes 49 = .ok (.bipush 83, 2) := by decide +kernel
theorem dX12_adviceGoes_51 : decode cX12_adviceGoes 51 = .ok (.iload_n 1, 1) := by decide +kernel
theorem dX12_adviceGoes_52 : decode cX12_adviceGoes 52 = .ok (.iadd, 1) := by decide +kernel
theorem dX12_adviceGoes_53 : decode cX12_adviceGoes 53 = .ok (.iconst 1, 1) := by decide +kernel
theorem dX12_adviceGoes_54 : decode cX12_adviceGoes 54 = .ok (.iadd, 1) := by decide +kernel
theorem dX12_adviceGoes_55 : decode cX12_adviceGoes 55 = .ok (.iaload, 1) := by decide +kernel
theorem dX12_adviceGoes_56 : decode cX12_adviceGoes 56 = .ok (.bipush 100, 2) := by decide +kernel
theorem dX12_adviceGoes_58 : decode cX12_adviceGoes 58 = .ok (.isub, 1) := by decide +kernel
theorem dX12_adviceGoes_59 : decode cX12_adviceGoes 59 = .ok (.iload_n 1, 1) := by decide +kernel
theorem dX12_adviceGoes_60 : decode cX12_adviceGoes 60 = .ok (.invokevirtual 352, 3) := by decide +kernel
theorem dX12_adviceGoes_63 : decode cX12_adviceGoes 63 = .ok (.istore_n 2, 1) := by decide +kernel
theorem dX12_adviceGoes_64 : decode cX12_adviceGoes 64 = .ok (.aload_n 0, 1) := by decide +kernel
theorem dX12_adviceGoes_65 : decode cX12_adviceGoes 65 = .ok (.getfield 7, 3) := by decide +kernel
theorem dX12_adviceGoes_68 : decode cX12_adviceGoes 68 = .ok (.bipush 83, 2) := by decide +kernel
theorem dX12_adviceGoes_70 : decode cX12_adviceGoes 70 = .ok (.iload_n 1, 1) := by decide +kernel
theorem dX12_adviceGoes_71 : decode cX12_adviceGoes 71 = .ok (.iadd, 1) := by decide +kernel
theorem dX12_adviceGoes_72 : decode cX12_adviceGoes 72 = .ok (.iload_n 2, 1) := by decide +kernel
theorem dX12_adviceGoes_73 : decode cX12_adviceGoes 73 = .ok (.bipush 100, 2) := by decide +kernel
theorem dX12_adviceGoes_75 : decode cX12_adviceGoes 75 = .ok (.iadd, 1) := by decide +kernel
theorem dX12_adviceGoes_76 : decode cX12_adviceGoes 76 = .ok (.iastore, 1) := by decide +kernel
theorem dX12_adviceGoes_77 : decode cX12_adviceGoes 77 = .ok (.aload_n 0, 1) := by decide +kernel
theorem dX12_adviceGoes_78 : decode cX12_adviceGoes 78 = .ok (.getfield 7, 3) := by decide +kernel
theorem dX12_adviceGoes_81 : decode cX12_adviceGoes 81 = .ok (.bipush 83, 2) := by decide +kernel
theorem dX12_adviceGoes_83 : decode cX12_adviceGoes 83 = .ok (.iload_n 1, 1) := by decide +kernel
theorem dX12_adviceGoes_84 : decode cX12_adviceGoes 84 = .ok (.iadd, 1) := by decide +kernel
theorem dX12_adviceGoes_85 : decode cX12_adviceGoes 85 = .ok (.iconst 1, 1) := by decide +kernel
theorem dX12_adviceGoes_86 : decode cX12_adviceGoes 86 = .ok (.iadd, 1) := by decide +kernel
theorem dX12_adviceGoes_87 : decode cX12_adviceGoes 87 = .ok (.iconst 0, 1) := by decide +kernel
theorem dX12_adviceGoes_88 : decode cX12_adviceGoes 88 = .ok (.iastore, 1) := by decide +kernel
theorem dX12_adviceGoes_89 : decode cX12_adviceGoes 89 = .ok (.aload_n 0, 1) := by decide +kernel
theorem dX12_adviceGoes_90 : decode cX12_adviceGoes 90 = .ok (.iconst 4, 1) := by decide +kernel
theorem dX12_adviceGoes_91 : decode cX12_adviceGoes 91 = .ok (.iload_n 1, 1) := by decide +kernel
theorem dX12_adviceGoes_92 : decode cX12_adviceGoes 92 = .ok (.iload_n 2, 1) := by decide +kernel
theorem dX12_adviceGoes_93 : decode cX12_adviceGoes 93 = .ok (.invokevirtual 118, 3) := by decide +kernel
theorem dX12_adviceGoes_96 : decode cX12_adviceGoes 96 = .ok (.iinc 1 1, 3) := by decide +kernel
theorem dX12_adviceGoes_99 : decode cX12_adviceGoes 99 = .ok (.goto (-82), 3) := by decide +kernel
theorem dX12_adviceGoes_102 : decode cX12_adviceGoes 102 = .ok (.return_, 1) := by decide +kernel
theorem dX12_isEnding_0 : decode cX12_isEnding 0 = .ok (.aload_n 0, 1) := by decide +kernel
theorem dX12_isEnding_1 : decode cX12_isEnding 1 = .ok (.iload_n 1, 1) := by decide +kernel
theorem dX12_isEnding_2 : decode cX12_isEnding 2 = .ok (.invokevirtual 355, 3) := by decide +kernel
theorem dX12_isEnding_5 : decode cX12_isEnding 5 = .ok (.istore_n 2, 1) := by decide +kernel
theorem dX12_isEnding_6 : decode cX12_isEnding 6 = .ok (.aload_n 0, 1) := by decide +kernel
theorem dX12_isEnding_7 : decode cX12_isEnding 7 = .ok (.getfield 95, 3) := by decide +kernel
theorem dX12_isEnding_10 : decode cX12_isEnding 10 = .ok (.ifCond .eq 18, 3) := by decide +kernel
theorem dX12_isEnding_13 : decode cX12_isEnding 13 = .ok (.iconst 2, 1) := by decide +kernel
theorem dX12_isEnding_14 : decode cX12_isEnding 14 = .ok (.iload_n 2, 1) := by decide +kernel
theorem dX12_isEnding_15 : decode cX12_isEnding 15 = .ok (.imul, 1) := by decide +kernel
theorem dX12_isEnding_16 : decode cX12_isEnding 16 = .ok (.sipush 1000, 3) := by decide +kernel
theorem dX12_isEnding_19 : decode cX12_isEnding 19 = .ok (.if_icmp .lt 7, 3) := by decide +kernel
theorem dX12_isEnding_22 : decode cX12_isEnding 22 = .ok (.iconst 1, 1) := by decide +kernel
theorem dX12_isEnding_23 : decode cX12_isEnding 23 = .ok (.goto 4, 3) := by decide +kernel
theorem dX12_isEnding_26 : decode cX12_isEnding 26 = .ok (.iconst 0, 1) := by decide +kernel
theorem dX12_isEnding_27 : decode cX12_isEnding 27 = .ok (.ireturn, 1) := by decide +kernel
theorem dX12_isEnding_28 : decode cX12_isEnding 28 = .ok (.iload_n 2, 1) := by decide +kernel
theorem dX12_isEnding_29 : decode cX12_isEnding 29 = .ok (.ifCond .le 18, 3) := by decide +kernel
theorem dX12_isEnding_32 : decode cX12_isEnding 32 = .ok (.aload_n 0, 1) := by decide +kernel
theorem dX12_isEnding_33 : decode cX12_isEnding 33 = .ok (.sipush 1000, 3) := by decide +kernel
theorem dX12_isEnding_36 : decode cX12_isEnding 36 = .ok (.invokevirtual 358, 3) := by decide +kernel
theorem dX12_isEnding_39 : decode cX12_isEnding 39 = .ok (.iload_n 2, 1) := by decide +kernel
theorem dX12_isEnding_40 : decode cX12_isEnding 40 = .ok (.if_icmp .ge 7, 3) := by decide +kernel
theorem dX12_isEnding_43 : decode cX12_isEnding 43 = .ok (.iconst 1, 1) := by decide +kernel
theorem dX12_isEnding_44 : decode cX12_isEnding 44 = .ok (.goto 4, 3) := by decide +kernel
theorem dX12_isEnding_47 : decode cX12_isEnding 47 = .ok (.iconst 0, 1) := by decide +kernel
theorem dX12_isEnding_48 : decode cX12_isEnding 48 = .ok (.ireturn, 1) := by decide +kernel
theorem dX12_dies_0 : decode cX12_dies 0 = .ok (.aload_n 0, 1) := by decide +kernel
theorem dX12_dies_1 : decode cX12_dies 1 = .ok (.getfield 7, 3) := by decide +kernel
theorem dX12_dies_4 : decode cX12_dies 4 = .ok (.bipush 49, 2) := by decide +kernel
theorem dX12_dies_6 : decode cX12_dies 6 = .ok (.iload_n 1, 1) := by decide +kernel
theorem dX12_dies_7 : decode cX12_dies 7 = .ok (.iadd, 1) := by decide +kernel
theorem dX12_dies_8 : decode cX12_dies 8 = .ok (.iconst 1, 1) := by decide +kernel
theorem dX12_dies_9 : decode cX12_dies 9 = .ok (.iastore, 1) := by decide +kernel
theorem dX12_dies_10 : decode cX12_dies 10 = .ok (.aload_n 0, 1) := by decide +kernel
theorem dX12_dies_11 : decode cX12_dies 11 = .ok (.iload_n 1, 1) := by decide +kernel
theorem dX12_dies_12 : decode cX12_dies 12 = .ok (.invokevirtual 294, 3) := by decide +kernel
theorem dX12_dies_15 : decode cX12_dies 15 = .ok (.istore_n 2, 1) := by decide +kernel
theorem dX12_dies_16 : decode cX12_dies 16 = .ok (.iload_n 2, 1) := by decide +kernel
theorem dX12_dies_17 : decode cX12_dies 17 = .ok (.iconst (-1), 1) := by decide +kernel
theorem dX12_dies_18 : decode cX12_dies 18 = .ok (.if_icmp .eq 16, 3) := by decide +kernel
theorem dX12_dies_21 : decode cX12_dies 21 = .ok (.aload_n 0, 1) := by decide +kernel
theorem dX12_dies_22 : decode cX12_dies 22 = .ok (.getfield 7, 3) := by decide +kernel
theorem dX12_dies_25 : decode cX12_dies 25 = .ok (.bipush 73, 2) := by decide +kernel
theorem dX12_dies_27 : decode cX12_dies 27 = .ok (.iload_n 2, 1) := by decide +kernel
theorem dX12_dies_28 : decode cX12_dies 28 = .ok (.iadd, 1) := by decide +kernel
theorem dX12_dies_29 : decode cX12_dies 29 = .ok (.iconst 0, 1) := by decide +kernel
theorem dX12_dies_30 : decode cX12_dies 30 = .ok (.iastore, 1) := by decide +kernel
theorem dX12_dies_31 : decode cX12_dies 31 = .ok (.goto 12, 3) := by decide +kernel
theorem dX12_dies_34 : decode cX12_dies 34 = .ok (.aload_n 0, 1) := by decide +kernel
theorem dX12_dies_35 : decode cX12_dies 35 = .ok (.aload_n 0, 1) := by decide +kernel
theorem dX12_dies_36 : decode cX12_dies 36 = .ok (.iload_n 1, 1) := by decide +kernel
theorem dX12_dies_37 : decode cX12_dies 37 = .ok (.invokevirtual 361, 3) := by decide +kernel
theorem dX12_dies_40 : decode cX12_dies 40 = .ok (.invokevirtual 114, 3) := by decide +kernel
theorem dX12_dies_43 : decode cX12_dies 43 = .ok (.aload_n 0, 1) := by decide +kernel
theorem dX12_dies_44 : decode cX12_dies 44 = .ok (.iconst 1, 1) := by decide +kernel
theorem dX12_dies_45 : decode cX12_dies 45 = .ok (.iload_n 1, 1) := by decide +kernel
theorem dX12_dies_46 : decode cX12_dies 46 = .ok (.aload_n 0, 1) := by decide +kernel
theorem dX12_dies_47 : decode cX12_dies 47 = .ok (.getfield 7, 3) := by decide +kernel
theorem dX12_dies_50 : decode cX12_dies 50 = .ok (.bipush 7, 2) := by decide +kernel
theorem dX12_dies_52 : decode cX12_dies 52 = .ok (.iload_n 1, 1) := by decide +kernel
theorem dX12_dies_53 : decode cX12_dies 53 = .ok (.iadd, 1) := by decide +kernel
theorem dX12_dies_54 : decode cX12_dies 54 = .ok (.iaload, 1) := by decide +kernel
theorem dX12_dies_55 : decode cX12_dies 55 = .ok (.invokevirtual 118, 3) := by decide +kernel
theorem dX12_dies_58 : decode cX12_dies 58 = .ok (.return_, 1) := by decide +kernel
theorem dX12_goesBy_0 : decode cX12_goesBy 0 = .ok (.iconst 0, 1) := by decide +kernel
theorem dX12_goesBy_1 : decode cX12_goesBy 1 = .ok (.istore_n 1, 1) := by decide +kernel
theorem dX12_goesBy_2 : decode cX12_goesBy 2 = .ok (.iload_n 1, 1) := by decide +kernel
theorem dX12_goesBy_3 : decode cX12_goesBy 3 = .ok (.aload_n 0, 1) := by decide +kernel
theorem dX12_goesBy_4 : decode cX12_goesBy 4 = .ok (.getfield 270, 3) := by decide +kernel
theorem dX12_goesBy_7 : decode cX12_goesBy 7 = .ok (.if_icmp .ge 33, 3) := by decide +kernel
theorem dX12_goesBy_10 : decode cX12_goesBy 10 = .ok (.aload_n 0, 1) := by decide +kernel
theorem dX12_goesBy_11 : decode cX12_goesBy 11 = .ok (.getfield 62, 3) := by decide +kernel
theorem dX12_goesBy_14 : decode cX12_goesBy 14 = .ok (.iconst 4, 1) := by decide +kernel
theorem dX12_goesBy_15 : decode cX12_goesBy 15 = .ok (.iload_n 1, 1) := by decide +kernel
theorem dX12_goesBy_16 : decode cX12_goesBy 16 = .ok (.imul, 1) := by decide +kernel
theorem dX12_goesBy_17 : decode cX12_goesBy 17 = .ok (.iaload, 1) := by decide +kernel
theorem dX12_goesBy_18 : decode cX12_goesBy 18 = .ok (.aload_n 0, 1) := by decide +kernel
theorem dX12_goesBy_19 : decode cX12_goesBy 19 = .ok (.getfield 7, 3) := by decide +kernel
theorem dX12_goesBy_22 : decode cX12_goesBy 22 = .ok (.iconst 0, 1) := by decide +kernel
theorem dX12_goesBy_23 : decode cX12_goesBy 23 = .ok (.iaload, 1) := by decide +kernel
theorem dX12_goesBy_24 : decode cX12_goesBy 24 = .ok (.if_icmp .ne 10, 3) := by decide +kernel
theorem dX12_goesBy_27 : decode cX12_goesBy 27 = .ok (.aload_n 0, 1) := by decide +kernel
theorem dX12_goesBy_28 : decode cX12_goesBy 28 = .ok (.iconst 4, 1) := by decide +kernel
theorem dX12_goesBy_29 : decode cX12_goesBy 29 = .ok (.iload_n 1, 1) := by decide +kernel
theorem dX12_goesBy_30 : decode cX12_goesBy 30 = .ok (.imul, 1) := by decide +kernel
theorem dX12_goesBy_31 : decode cX12_goesBy 31 = .ok (.invokevirtual 364, 3) := by decide +kernel
theorem dX12_goesBy_34 : decode cX12_goesBy 34 = .ok (.iinc 1 1, 3) := by decide +kernel
theorem dX12_goesBy_37 : decode cX12_goesBy 37 = .ok (.goto (-35), 3) := by decide +kernel
theorem dX12_goesBy_40 : decode cX12_goesBy 40 = .ok (.aload_n 0, 1) := by decide +kernel
theorem dX12_goesBy_41 : decode cX12_goesBy 41 = .ok (.aload_n 0, 1) := by decide +kernel
theorem dX12_goesBy_42 : decode cX12_goesBy 42 = .ok (.getfield 7, 3) := by decide +kernel
theorem dX12_goesBy_45 : decode cX12_goesBy 45 = .ok (.iconst 0, 1) := by decide +kernel
theorem dX12_goesBy_46 : decode cX12_goesBy 46 = .ok (.iaload, 1) := by decide +kernel
theorem dX12_goesBy_47 : decode cX12_goesBy 47 = .ok (.invokevirtual 367, 3) := by decide +kernel
theorem dX12_goesBy_50 : decode cX12_goesBy 50 = .ok (.iconst (-1), 1) := by decide +kernel
theorem dX12_goesBy_51 : decode cX12_goesBy 51 = .ok (.if_icmp .eq 19, 3) := by decide +kernel
theorem dX12_goesBy_54 : decode cX12_goesBy 54 = .ok (.aload_n 0, 1) := by decide +kernel
theorem dX12_goesBy_55 : decode cX12_goesBy 55 = .ok (.getfield 7, 3) := by decide +kernel
theorem dX12_goesBy_58 : decode cX12_goesBy 58 = .ok (.iconst 5, 1) := by decide +kernel
theorem dX12_goesBy_59 : decode cX12_goesBy 59 = .ok (.aload_n 0, 1) := by decide +kernel
theorem dX12_goesBy_60 : decode cX12_goesBy 60 = .ok (.aload_n 0, 1) := by decide +kernel
theorem dX12_goesBy_61 : decode cX12_goesBy 61 = .ok (.getfield 7, 3) := by decide +kernel
theorem dX12_goesBy_64 : decode cX12_goesBy 64 = .ok (.iconst 0, 1) := by decide +kernel
theorem dX12_goesBy_65 : decode cX12_goesBy 65 = .ok (.iaload, 1) := by decide +kernel
theorem dX12_goesBy_66 : decode cX12_goesBy 66 = .ok (.invokevirtual 367, 3) := by decide +kernel
theorem dX12_goesBy_69 : decode cX12_goesBy 69 = .ok (.iastore, 1) := by decide +kernel
theorem dX12_goesBy_70 : decode cX12_goesBy 70 = .ok (.aload_n 0, 1) := by decide +kernel
theorem dX12_goesBy_71 : decode cX12_goesBy 71 = .ok (.invokevirtual 370, 3) := by decide +kernel
theorem dX12_goesBy_74 : decode cX12_goesBy 74 = .ok (.aload_n 0, 1) := by decide +kernel
theorem dX12_goesBy_75 : decode cX12_goesBy 75 = .ok (.invokevirtual 373, 3) := by decide +kernel
theorem dX12_goesBy_78 : decode cX12_goesBy 78 = .ok (.iconst 0, 1) := by decide +kernel
theorem dX12_goesBy_79 : decode cX12_goesBy 79 = .ok (.istore_n 1, 1) := by decide +kernel
theorem dX12_goesBy_80 : decode cX12_goesBy 80 = .ok (.iload_n 1, 1) := by decide +kernel
theorem dX12_goesBy_81 : decode cX12_goesBy 81 = .ok (.aload_n 0, 1) := by decide +kernel
theorem dX12_goesBy_82 : decode cX12_goesBy 82 = .ok (.getfield 101, 3) := by decide +kernel
theorem dX12_goesBy_85 : decode cX12_goesBy 85 = .ok (.if_icmp .ge 52, 3) := by decide +kernel
theorem dX12_goesBy_88 : decode cX12_goesBy 88 = .ok (.aload_n 0, 1) := by decide +kernel
theorem dX12_goesBy_89 : decode cX12_goesBy 89 = .ok (.iload_n 1, 1) := by decide +kernel
theorem dX12_goesBy_90 : decode cX12_goesBy 90 = .ok (.invokevirtual 107, 3) := by decide +kernel
theorem dX12_goesBy_93 : decode cX12_goesBy 93 = .ok (.istore_n 2, 1) := by decide +kernel
theorem dX12_goesBy_94 : decode cX12_goesBy 94 = .ok (.iload_n 2, 1) := by decide +kernel
theorem dX12_goesBy_95 : decode cX12_goesBy 95 = .ok (.iconst (-1), 1) := by decide +kernel
theorem dX12_goesBy_96 : decode cX12_goesBy 96 = .ok (.if_icmp .eq 35, 3) := by decide +kernel
theorem dX12_goesBy_99 : decode cX12_goesBy 99 = .ok (.aload_n 0, 1) := by decide +kernel
theorem dX12_goesBy_100 : decode cX12_goesBy 100 = .ok (.getfield 7, 3) := by decide +kernel
theorem dX12_goesBy_103 : decode cX12_goesBy 103 = .ok (.bipush 21, 2) := by decide +kernel
theorem dX12_goesBy_105 : decode cX12_goesBy 105 = .ok (.iload_n 2, 1) := by decide +kernel
theorem dX12_goesBy_106 : decode cX12_goesBy 106 = .ok (.iadd, 1) := by decide +kernel
theorem dX12_goesBy_107 : decode cX12_goesBy 107 = .ok (.aload_n 0, 1) := by decide +kernel
theorem dX12_goesBy_108 : decode cX12_goesBy 108 = .ok (.aload_n 0, 1) := by decide +kernel
theorem dX12_goesBy_109 : decode cX12_goesBy 109 = .ok (.getfield 7, 3) := by decide +kernel
theorem dX12_goesBy_112 : decode cX12_goesBy 112 = .ok (.bipush 21, 2) := by decide +kernel
theorem dX12_goesBy_114 : decode cX12_goesBy 114 = .ok (.iload_n 2, 1) := by decide +kernel
theorem dX12_goesBy_115 : decode cX12_goesBy 115 = .ok (.iadd, 1) := by decide +kernel
theorem dX12_goesBy_116 : decode cX12_goesBy 116 = .ok (.iaload, 1) := by decide +kernel
theorem dX12_goesBy_117 : decode cX12_goesBy 117 = .ok (.aload_n 0, 1) := by decide +kernel
theorem dX12_goesBy_118 : decode cX12_goesBy 118 = .ok (.iload_n 2, 1) := by decide +kernel
theorem dX12_goesBy_119 : decode cX12_goesBy 119 = .ok (.invokevirtual 349, 3) := by decide +kernel
theorem dX12_goesBy_122 : decode cX12_goesBy 122 = .ok (.iadd, 1) := by decide +kernel
theorem dX12_goesBy_123 : decode cX12_goesBy 123 = .ok (.bipush (-99), 2) := by decide +kernel
theorem dX12_goesBy_125 : decode cX12_goesBy 125 = .ok (.bipush 99, 2) := by decide +kernel
theorem dX12_goesBy_127 : decode cX12_goesBy 127 = .ok (.invokevirtual 306, 3) := by decide +kernel
theorem dX12_goesBy_130 : decode cX12_goesBy 130 = .ok (.iastore, 1) := by decide +kernel
theorem dX12_goesBy_131 : decode cX12_goesBy 131 = .ok (.iinc 1 1, 3) := by decide +kernel
theorem dX12_goesBy_134 : decode cX12_goesBy 134 = .ok (.goto (-54), 3) := by decide +kernel
theorem dX12_goesBy_137 : decode cX12_goesBy 137 = .ok (.iconst 0, 1) := by decide +kernel
theorem dX12_goesBy_138 : decode cX12_goesBy 138 = .ok (.istore_n 1, 1) := by decide +kernel
theorem dX12_goesBy_139 : decode cX12_goesBy 139 = .ok (.iconst 0, 1) := by decide +kernel
theorem dX12_goesBy_140 : decode cX12_goesBy 140 = .ok (.istore_n 2, 1) := by decide +kernel
theorem dX12_goesBy_141 : decode cX12_goesBy 141 = .ok (.iload_n 2, 1) := by decide +kernel
theorem dX12_goesBy_142 : decode cX12_goesBy 142 = .ok (.aload_n 0, 1) := by decide +kernel
theorem dX12_goesBy_143 : decode cX12_goesBy 143 = .ok (.getfield 104, 3) := by decide +kernel
theorem dX12_goesBy_146 : decode cX12_goesBy 146 = .ok (.if_icmp .ge 71, 3) := by decide +kernel
theorem dX12_goesBy_149 : decode cX12_goesBy 149 = .ok (.aload_n 0, 1) := by decide +kernel
theorem dX12_goesBy_150 : decode cX12_goesBy 150 = .ok (.getfield 7, 3) := by decide +kernel
theorem dX12_goesBy_153 : decode cX12_goesBy 153 = .ok (.bipush 49, 2) := by decide +kernel
theorem dX12_goesBy_155 : decode cX12_goesBy 155 = .ok (.iload_n 2, 1) := by decide +kernel
theorem dX12_goesBy_156 : decode cX12_goesBy 156 = .ok (.iadd, 1) := by decide +kernel
theorem dX12_goesBy_157 : decode cX12_goesBy 157 = .ok (.iaload, 1) := by decide +kernel
theorem dX12_goesBy_158 : decode cX12_goesBy 158 = .ok (.iconst 1, 1) := by decide +kernel
theorem dX12_goesBy_159 : decode cX12_goesBy 159 = .ok (.if_icmp .ne 6, 3) := by decide +kernel
theorem dX12_goesBy_162 : decode cX12_goesBy 162 = .ok (.goto 49, 3) := by decide +kernel
theorem dX12_goesBy_165 : decode cX12_goesBy 165 = .ok (.aload_n 0, 1) := by decide +kernel
theorem dX12_goesBy_166 : decode cX12_goesBy 166 = .ok (.getfield 7, 3) := by decide +kernel
theorem dX12_goesBy_169 : decode cX12_goesBy 169 = .ok (.bipush 7, 2) := by decide +kernel
theorem dX12_goesBy_171 : decode cX12_goesBy 171 = .ok (.iload_n 2, 1) := by decide +kernel
theorem dX12_goesBy_172 : decode cX12_goesBy 172 = .ok (.iadd, 1) := by decide +kernel
theorem dX12_goesBy_173 : decode cX12_goesBy 173 = .ok (.aload_n 0, 1) := by decide +kernel
theorem dX12_goesBy_174 : decode cX12_goesBy 174 = .ok (.bipush 120, 2) := by decide +kernel
theorem dX12_goesBy_176 : decode cX12_goesBy 176 = .ok (.aload_n 0, 1) := by decide +kernel
theorem dX12_goesBy_177 : decode cX12_goesBy 177 = .ok (.getfield 7, 3) := by decide +kernel
theorem dX12_goesBy_180 : decode cX12_goesBy 180 = .ok (.bipush 7, 2) := by decide +kernel
theorem dX12_goesBy_182 : decode cX12_goesBy 182 = .ok (.iload_n 2, 1) := by decide +kernel
theorem dX12_goesBy_183 : decode cX12_goesBy 183 = .ok (.iadd, 1) := by decide +kernel
theorem dX12_goesBy_184 : decode cX12_goesBy 184 = .ok (.iaload, 1) := by decide +kernel
theorem dX12_goesBy_185 : decode cX12_goesBy 185 = .ok (.iconst 1, 1) := by decide +kernel
theorem dX12_goesBy_186 : decode cX12_goesBy 186 = .ok (.iadd, 1) := by decide +kernel
theorem dX12_goesBy_187 : decode cX12_goesBy 187 = .ok (.invokevirtual 328, 3) := by decide +kernel
theorem dX12_goesBy_190 : decode cX12_goesBy 190 = .ok (.iastore, 1) := by decide +kernel
theorem dX12_goesBy_191 : decode cX12_goesBy 191 = .ok (.aload_n 0, 1) := by decide +kernel
theorem dX12_goesBy_192 : decode cX12_goesBy 192 = .ok (.iload_n 2, 1) := by decide +kernel
theorem dX12_goesBy_193 : decode cX12_goesBy 193 = .ok (.invokevirtual 376, 3) := by decide +kernel
theorem dX12_goesBy_196 : decode cX12_goesBy 196 = .ok (.ifCond .ne 6, 3) := by decide +kernel
theorem dX12_goesBy_199 : decode cX12_goesBy 199 = .ok (.goto 12, 3) := by decide +kernel
theorem dX12_goesBy_202 : decode cX12_goesBy 202 = .ok (.aload_n 0, 1) := by decide +kernel
theorem dX12_goesBy_203 : decode cX12_goesBy 203 = .ok (.iload_n 2, 1) := by decide +kernel
theorem dX12_goesBy_204 : decode cX12_goesBy 204 = .ok (.invokevirtual 379, 3) := by decide +kernel
theorem dX12_goesBy_207 : decode cX12_goesBy 207 = .ok (.iload_n 1, 1) := by decide +kernel
theorem dX12_goesBy_208 : decode cX12_goesBy 208 = .ok (.iconst 1, 1) := by decide +kernel
theorem dX12_goesBy_209 : decode cX12_goesBy 209 = .ok (.iadd, 1) := by decide +kernel
theorem dX12_goesBy_210 : decode cX12_goesBy 210 = .ok (.istore_n 1, 1) := by decide +kernel
theorem dX12_goesBy_211 : decode cX12_goesBy 211 = .ok (.iinc 2 1, 3) := by decide +kernel
theorem dX12_goesBy_214 : decode cX12_goesBy 214 = .ok (.goto (-73), 3) := by decide +kernel
theorem dX12_goesBy_217 : decode cX12_goesBy 217 = .ok (.aload_n 0, 1) := by decide +kernel
theorem dX12_goesBy_218 : decode cX12_goesBy 218 = .ok (.invokevirtual 126, 3) := by decide +kernel
theorem dX12_goesBy_221 : decode cX12_goesBy 221 = .ok (.aload_n 0, 1) := by decide +kernel
theorem dX12_goesBy_222 : decode cX12_goesBy 222 = .ok (.getfield 7, 3) := by decide +kernel
theorem dX12_goesBy_225 : decode cX12_goesBy 225 = .ok (.iconst 0, 1) := by decide +kernel
theorem dX12_goesBy_226 : decode cX12_goesBy 226 = .ok (.aload_n 0, 1) := by decide +kernel
theorem dX12_goesBy_227 : decode cX12_goesBy 227 = .ok (.getfield 7, 3) := by decide +kernel
theorem dX12_goesBy_230 : decode cX12_goesBy 230 = .ok (.iconst 0, 1) := by decide +kernel
theorem dX12_goesBy_231 : decode cX12_goesBy 231 = .ok (.iaload, 1) := by decide +kernel
theorem dX12_goesBy_232 : decode cX12_goesBy 232 = .ok (.iconst 1, 1) := by decide +kernel
theorem dX12_goesBy_233 : decode cX12_goesBy 233 = .ok (.iadd, 1) := by decide +kernel
theorem dX12_goesBy_234 : decode cX12_goesBy 234 = .ok (.iastore, 1) := by decide +kernel
theorem dX12_goesBy_235 : decode cX12_goesBy 235 = .ok (.iload_n 1, 1) := by decide +kernel
theorem dX12_goesBy_236 : decode cX12_goesBy 236 = .ok (.ireturn, 1) := by decide +kernel
theorem dX12_days_0 : decode cX12_days 0 = .ok (.aload_n 0, 1) := by decide +kernel
theorem dX12_days_1 : decode cX12_days 1 = .ok (.iconst 0, 1) := by decide +kernel
theorem dX12_days_2 : decode cX12_days 2 = .ok (.putfield 89, 3) := by decide +kernel
theorem dX12_days_5 : decode cX12_days 5 = .ok (.aload_n 0, 1) := by decide +kernel
theorem dX12_days_6 : decode cX12_days 6 = .ok (.iload_n 1, 1) := by decide +kernel
theorem dX12_days_7 : decode cX12_days 7 = .ok (.iconst 1, 1) := by decide +kernel
theorem dX12_days_8 : decode cX12_days 8 = .ok (.bipush 60, 2) := by decide +kernel
theorem dX12_days_10 : decode cX12_days 10 = .ok (.invokevirtual 122, 3) := by decide +kernel
theorem dX12_days_13 : decode cX12_days 13 = .ok (.ifCond .eq 17, 3) := by decide +kernel
theorem dX12_days_16 : decode cX12_days 16 = .ok (.aload_n 0, 1) := by decide +kernel
theorem dX12_days_17 : decode cX12_days 17 = .ok (.getfield 7, 3) := by decide +kernel
theorem dX12_days_20 : decode cX12_days 20 = .ok (.iconst 0, 1) := by decide +kernel
theorem dX12_days_21 : decode cX12_days 21 = .ok (.iaload, 1) := by decide +kernel
theorem dX12_days_22 : decode cX12_days 22 = .ok (.iload_n 1, 1) := by decide +kernel
theorem dX12_days_23 : decode cX12_days 23 = .ok (.iadd, 1) := by decide +kernel
theorem dX12_days_24 : decode cX12_days 24 = .ok (.sipush 9999, 3) := by decide +kernel
theorem dX12_days_27 : decode cX12_days 27 = .ok (.if_icmp .le 5, 3) := by decide +kernel
theorem dX12_days_30 : decode cX12_days 30 = .ok (.iconst (-1), 1) := by decide +kernel
theorem dX12_days_31 : decode cX12_days 31 = .ok (.ireturn, 1) := by decide +kernel
theorem dX12_days_32 : decode cX12_days 32 = .ok (.iconst 0, 1) := by decide +kernel
theorem dX12_days_33 : decode cX12_days 33 = .ok (.istore_n 2, 1) := by decide +kernel
theorem dX12_days_34 : decode cX12_days 34 = .ok (.iconst 0, 1) := by decide +kernel
theorem dX12_days_35 : decode cX12_days 35 = .ok (.istore_n 3, 1) := by decide +kernel
theorem dX12_days_36 : decode cX12_days 36 = .ok (.iload_n 3, 1) := by decide +kernel
theorem dX12_days_37 : decode cX12_days 37 = .ok (.iload_n 1, 1) := by decide +kernel
theorem dX12_days_38 : decode cX12_days 38 = .ok (.if_icmp .ge 20, 3) := by decide +kernel
theorem dX12_days_41 : decode cX12_days 41 = .ok (.aload_n 0, 1) := by decide +kernel
theorem dX12_days_42 : decode cX12_days 42 = .ok (.invokevirtual 337, 3) := by decide +kernel
theorem dX12_days_45 : decode cX12_days 45 = .ok (.iload_n 2, 1) := by decide +kernel
theorem dX12_days_46 : decode cX12_days 46 = .ok (.aload_n 0, 1) := by decide +kernel
theorem dX12_days_47 : decode cX12_days 47 = .ok (.invokevirtual 382, 3) := by decide +kernel
theorem dX12_days_50 : decode cX12_days 50 = .ok (.iadd, 1) := by decide +kernel
theorem dX12_days_51 : decode cX12_days 51 = .ok (.istore_n 2, 1) := by decide +kernel
theorem dX12_days_52 : decode cX12_days 52 = .ok (.iinc 3 1, 3) := by decide +kernel
theorem dX12_days_55 : decode cX12_days 55 = .ok (.goto (-19), 3) := by decide +kernel
theorem dX12_days_58 : decode cX12_days 58 = .ok (.iload_n 2, 1) := by decide +kernel
theorem dX12_days_59 : decode cX12_days 59 = .ok (.ireturn, 1) := by decide +kernel
theorem dX12_of_0 : decode cX12_of 0 = .ok (.aload_n 0, 1) := by decide +kernel
theorem dX12_of_1 : decode cX12_of 1 = .ok (.iconst 0, 1) := by decide +kernel
theorem dX12_of_2 : decode cX12_of 2 = .ok (.putfield 89, 3) := by decide +kernel
theorem dX12_of_5 : decode cX12_of 5 = .ok (.aload_n 0, 1) := by decide +kernel
theorem dX12_of_6 : decode cX12_of 6 = .ok (.iload_n 1, 1) := by decide +kernel
theorem dX12_of_7 : decode cX12_of 7 = .ok (.invokevirtual 132, 3) := by decide +kernel
theorem dX12_of_10 : decode cX12_of 10 = .ok (.ifCond .ne 6, 3) := by decide +kernel
theorem dX12_of_13 : decode cX12_of 13 = .ok (.bipush (-100), 2) := by decide +kernel
theorem dX12_of_15 : decode cX12_of 15 = .ok (.ireturn, 1) := by decide +kernel
theorem dX12_of_16 : decode cX12_of 16 = .ok (.iload_n 2, 1) := by decide +kernel
theorem dX12_of_17 : decode cX12_of 17 = .ok (.ifCond .ne 13, 3) := by decide +kernel
theorem dX12_of_20 : decode cX12_of 20 = .ok (.aload_n 0, 1) := by decide +kernel
theorem dX12_of_21 : decode cX12_of 21 = .ok (.getfield 7, 3) := by decide +kernel
theorem dX12_of_24 : decode cX12_of 24 = .ok (.bipush 7, 2) := by decide +kernel
theorem dX12_of_26 : decode cX12_of 26 = .ok (.iload_n 1, 1) := by decide +kernel
theorem dX12_of_27 : decode cX12_of 27 = .ok (.iadd, 1) := by decide +kernel
theorem dX12_of_28 : decode cX12_of 28 = .ok (.iaload, 1) := by decide +kernel
theorem dX12_of_29 : decode cX12_of 29 = .ok (.ireturn, 1) := by decide +kernel
theorem dX12_of_30 : decode cX12_of 30 = .ok (.iload_n 2, 1) := by decide +kernel
theorem dX12_of_31 : decode cX12_of 31 = .ok (.iconst 1, 1) := by decide +kernel
theorem dX12_of_32 : decode cX12_of 32 = .ok (.if_icmp .ne 10, 3) := by decide +kernel
theorem dX12_of_35 : decode cX12_of 35 = .ok (.aload_n 0, 1) := by decide +kernel
theorem dX12_of_36 : decode cX12_of 36 = .ok (.getfield 19, 3) := by decide +kernel
theorem dX12_of_39 : decode cX12_of 39 = .ok (.iload_n 1, 1) := by decide +kernel
theorem dX12_of_40 : decode cX12_of 40 = .ok (.iaload, 1) := by decide +kernel
theorem dX12_of_41 : decode cX12_of 41 = .ok (.ireturn, 1) := by decide +kernel
theorem dX12_of_42 : decode cX12_of 42 = .ok (.iload_n 2, 1) := by decide +kernel
theorem dX12_of_43 : decode cX12_of 43 = .ok (.iconst 2, 1) := by decide +kernel
theorem dX12_of_44 : decode cX12_of 44 = .ok (.if_icmp .ne 13, 3) := by decide +kernel
theorem dX12_of_47 : decode cX12_of 47 = .ok (.aload_n 0, 1) := by decide +kernel
theorem dX12_of_48 : decode cX12_of 48 = .ok (.getfield 7, 3) := by decide +kernel
theorem dX12_of_51 : decode cX12_of 51 = .ok (.bipush 21, 2) := by decide +kernel
theorem dX12_of_53 : decode cX12_of 53 = .ok (.iload_n 1, 1) := by decide +kernel
theorem dX12_of_54 : decode cX12_of 54 = .ok (.iadd, 1) := by decide +kernel
theorem dX12_of_55 : decode cX12_of 55 = .ok (.iaload, 1) := by decide +kernel
theorem dX12_of_56 : decode cX12_of 56 = .ok (.ireturn, 1) := by decide +kernel
theorem dX12_of_57 : decode cX12_of 57 = .ok (.iload_n 2, 1) := by decide +kernel
theorem dX12_of_58 : decode cX12_of 58 = .ok (.iconst 3, 1) := by decide +kernel
theorem dX12_of_59 : decode cX12_of 59 = .ok (.if_icmp .ne 13, 3) := by decide +kernel
theorem dX12_of_62 : decode cX12_of 62 = .ok (.aload_n 0, 1) := by decide +kernel
theorem dX12_of_63 : decode cX12_of 63 = .ok (.getfield 7, 3) := by decide +kernel
theorem dX12_of_66 : decode cX12_of 66 = .ok (.bipush 35, 2) := by decide +kernel
theorem dX12_of_68 : decode cX12_of 68 = .ok (.iload_n 1, 1) := by decide +kernel
theorem dX12_of_69 : decode cX12_of 69 = .ok (.iadd, 1) := by decide +kernel
theorem dX12_of_70 : decode cX12_of 70 = .ok (.iaload, 1) := by decide +kernel
theorem dX12_of_71 : decode cX12_of 71 = .ok (.ireturn, 1) := by decide +kernel
theorem dX12_of_72 : decode cX12_of 72 = .ok (.iload_n 2, 1) := by decide +kernel
theorem dX12_of_73 : decode cX12_of 73 = .ok (.iconst 4, 1) := by decide +kernel
theorem dX12_of_74 : decode cX12_of 74 = .ok (.if_icmp .ne 13, 3) := by decide +kernel
theorem dX12_of_77 : decode cX12_of 77 = .ok (.aload_n 0, 1) := by decide +kernel
theorem dX12_of_78 : decode cX12_of 78 = .ok (.getfield 7, 3) := by decide +kernel
theorem dX12_of_81 : decode cX12_of 81 = .ok (.bipush 49, 2) := by decide +kernel
theorem dX12_of_83 : decode cX12_of 83 = .ok (.iload_n 1, 1) := by decide +kernel
theorem dX12_of_84 : decode cX12_of 84 = .ok (.iadd, 1) := by decide +kernel
theorem dX12_of_85 : decode cX12_of 85 = .ok (.iaload, 1) := by decide +kernel
theorem dX12_of_86 : decode cX12_of 86 = .ok (.ireturn, 1) := by decide +kernel
theorem dX12_of_87 : decode cX12_of 87 = .ok (.iload_n 2, 1) := by decide +kernel
theorem dX12_of_88 : decode cX12_of 88 = .ok (.iconst 5, 1) := by decide +kernel
theorem dX12_of_89 : decode cX12_of 89 = .ok (.if_icmp .ne 9, 3) := by decide +kernel
theorem dX12_of_92 : decode cX12_of 92 = .ok (.aload_n 0, 1) := by decide +kernel
theorem dX12_of_93 : decode cX12_of 93 = .ok (.iload_n 1, 1) := by decide +kernel
theorem dX12_of_94 : decode cX12_of 94 = .ok (.invokevirtual 294, 3) := by decide +kernel
theorem dX12_of_97 : decode cX12_of 97 = .ok (.ireturn, 1) := by decide +kernel
theorem dX12_of_98 : decode cX12_of 98 = .ok (.iload_n 2, 1) := by decide +kernel
theorem dX12_of_99 : decode cX12_of 99 = .ok (.bipush 6, 2) := by decide +kernel
theorem dX12_of_101 : decode cX12_of 101 = .ok (.if_icmp .ne 9, 3) := by decide +kernel
theorem dX12_of_104 : decode cX12_of 104 = .ok (.aload_n 0, 1) := by decide +kernel
theorem dX12_of_105 : decode cX12_of 105 = .ok (.iload_n 1, 1) := by decide +kernel
theorem dX12_of_106 : decode cX12_of 106 = .ok (.invokevirtual 361, 3) := by decide +kernel
theorem dX12_of_109 : decode cX12_of 109 = .ok (.ireturn, 1) := by decide +kernel
theorem dX12_of_110 : decode cX12_of 110 = .ok (.iload_n 2, 1) := by decide +kernel
theorem dX12_of_111 : decode cX12_of 111 = .ok (.bipush 7, 2) := by decide +kernel
theorem dX12_of_113 : decode cX12_of 113 = .ok (.if_icmp .ne 9, 3) := by decide +kernel
theorem dX12_of_116 : decode cX12_of 116 = .ok (.aload_n 0, 1) := by decide +kernel
theorem dX12_of_117 : decode cX12_of 117 = .ok (.iload_n 1, 1) := by decide +kernel
theorem dX12_of_118 : decode cX12_of 118 = .ok (.invokevirtual 343, 3) := by decide +kernel
theorem dX12_of_121 : decode cX12_of 121 = .ok (.ireturn, 1) := by decide +kernel
theorem dX12_of_122 : decode cX12_of 122 = .ok (.iload_n 2, 1) := by decide +kernel
theorem dX12_of_123 : decode cX12_of 123 = .ok (.bipush 8, 2) := by decide +kernel
theorem dX12_of_125 : decode cX12_of 125 = .ok (.if_icmp .ne 11, 3) := by decide +kernel
theorem dX12_of_128 : decode cX12_of 128 = .ok (.aload_n 0, 1) := by decide +kernel
theorem dX12_of_129 : decode cX12_of 129 = .ok (.iload_n 1, 1) := by decide +kernel
theorem dX12_of_130 : decode cX12_of 130 = .ok (.invokevirtual 355, 3) := by decide +kernel
theorem dX12_of_133 : decode cX12_of 133 = .ok (.goto 19, 3) := by decide +kernel
theorem dX12_of_136 : decode cX12_of 136 = .ok (.iload_n 2, 1) := by decide +kernel
theorem dX12_of_137 : decode cX12_of 137 = .ok (.bipush 9, 2) := by decide +kernel
theorem dX12_of_139 : decode cX12_of 139 = .ok (.if_icmp .ne 11, 3) := by decide +kernel
theorem dX12_of_142 : decode cX12_of 142 = .ok (.aload_n 0, 1) := by decide +kernel
theorem dX12_of_143 : decode cX12_of 143 = .ok (.iload_n 1, 1) := by decide +kernel
theorem dX12_of_144 : decode cX12_of 144 = .ok (.invokevirtual 349, 3) := by decide +kernel
theorem dX12_of_147 : decode cX12_of 147 = .ok (.goto 5, 3) := by decide +kernel
theorem dX12_of_150 : decode cX12_of 150 = .ok (.bipush (-100), 2) := by decide +kernel
theorem dX12_of_152 : decode cX12_of 152 = .ok (.ireturn, 1) := by decide +kernel
theorem dX12_at_0 : decode cX12_at 0 = .ok (.aload_n 0, 1) := by decide +kernel
theorem dX12_at_1 : decode cX12_at 1 = .ok (.iconst 0, 1) := by decide +kernel
theorem dX12_at_2 : decode cX12_at 2 = .ok (.putfield 89, 3) := by decide +kernel
theorem dX12_at_5 : decode cX12_at 5 = .ok (.aload_n 0, 1) := by decide +kernel
theorem dX12_at_6 : decode cX12_at 6 = .ok (.iload_n 1, 1) := by decide +kernel
theorem dX12_at_7 : decode cX12_at 7 = .ok (.invokevirtual 325, 3) := by decide +kernel
theorem dX12_at_10 : decode cX12_at 10 = .ok (.ifCond .ne 7, 3) := by decide +kernel
theorem dX12_at_13 : decode cX12_at 13 = .ok (.sipush (-200), 3) := by decide +kernel
theorem dX12_at_16 : decode cX12_at 16 = .ok (.ireturn, 1) := by decide +kernel
theorem dX12_at_17 : decode cX12_at 17 = .ok (.iload_n 2, 1) := by decide +kernel
theorem dX12_at_18 : decode cX12_at 18 = .ok (.ifCond .ne 13, 3) := by decide +kernel
theorem dX12_at_21 : decode cX12_at 21 = .ok (.aload_n 0, 1) := by decide +kernel
theorem dX12_at_22 : decode cX12_at 22 = .ok (.getfield 7, 3) := by decide +kernel
theorem dX12_at_25 : decode cX12_at 25 = .ok (.bipush 63, 2) := by decide +kernel
theorem dX12_at_27 : decode cX12_at 27 = .ok (.iload_n 1, 1) := by decide +kernel
theorem dX12_at_28 : decode cX12_at 28 = .ok (.iadd, 1) := by decide +kernel
theorem dX12_at_29 : decode cX12_at 29 = .ok (.iaload, 1) := by decide +kernel
theorem dX12_at_30 : decode cX12_at 30 = .ok (.ireturn, 1) := by decide +kernel
theorem dX12_at_31 : decode cX12_at 31 = .ok (.iload_n 2, 1) := by decide +kernel
theorem dX12_at_32 : decode cX12_at 32 = .ok (.iconst 1, 1) := by decide +kernel
theorem dX12_at_33 : decode cX12_at 33 = .ok (.if_icmp .ne 9, 3) := by decide +kernel
theorem dX12_at_36 : decode cX12_at 36 = .ok (.aload_n 0, 1) := by decide +kernel
theorem dX12_at_37 : decode cX12_at 37 = .ok (.iload_n 1, 1) := by decide +kernel
theorem dX12_at_38 : decode cX12_at 38 = .ok (.invokevirtual 107, 3) := by decide +kernel
theorem dX12_at_41 : decode cX12_at 41 = .ok (.ireturn, 1) := by decide +kernel
theorem dX12_at_42 : decode cX12_at 42 = .ok (.iload_n 2, 1) := by decide +kernel
theorem dX12_at_43 : decode cX12_at 43 = .ok (.iconst 2, 1) := by decide +kernel
theorem dX12_at_44 : decode cX12_at 44 = .ok (.if_icmp .ne 35, 3) := by decide +kernel
theorem dX12_at_47 : decode cX12_at 47 = .ok (.aload_n 0, 1) := by decide +kernel
theorem dX12_at_48 : decode cX12_at 48 = .ok (.getfield 7, 3) := by decide +kernel
theorem dX12_at_51 : decode cX12_at 51 = .ok (.bipush 83, 2) := by decide +kernel
theorem dX12_at_53 : decode cX12_at 53 = .ok (.iload_n 1, 1) := by decide +kernel
theorem dX12_at_54 : decode cX12_at 54 = .ok (.iadd, 1) := by decide +kernel
theorem dX12_at_55 : decode cX12_at 55 = .ok (.iaload, 1) := by decide +kernel
theorem dX12_at_56 : decode cX12_at 56 = .ok (.ifCond .ne 8, 3) := by decide +kernel
theorem dX12_at_59 : decode cX12_at 59 = .ok (.bipush (-100), 2) := by decide +kernel
theorem dX12_at_61 : decode cX12_at 61 = .ok (.goto 21, 3) := by decide +kernel
theorem dX12_at_64 : decode cX12_at 64 = .ok (.aload_n 0, 1) := by decide +kernel
theorem dX12_at_65 : decode cX12_at 65 = .ok (.getfield 7, 3) := by decide +kernel
theorem dX12_at_68 : decode cX12_at 68 = .ok (.bipush 83, 2) := by decide +kernel
theorem dX12_at_70 : decode cX12_at 70 = .ok (.iload_n 1, 1) := by decide +kernel
theorem dX12_at_71 : decode cX12_at 71 = .ok (.iadd, 1) := by decide +kernel
theorem dX12_at_72 : decode cX12_at 72 = .ok (.iaload, 1) := by decide +kernel
theorem dX12_at_73 : decode cX12_at 73 = .ok (.bipush 100, 2) := by decide +kernel
theorem dX12_at_75 : decode cX12_at 75 = .ok (.isub, 1) := by decide +kernel
theorem dX12_at_76 : decode cX12_at 76 = .ok (.goto 6, 3) := by decide +kernel
theorem dX12_at_79 : decode cX12_at 79 = .ok (.sipush (-200), 3) := by decide +kernel
theorem dX12_at_82 : decode cX12_at 82 = .ok (.ireturn, 1) := by decide +kernel
theorem dX12_skyOf_0 : decode cX12_skyOf 0 = .ok (.iconst (-1), 1) := by decide +kernel
theorem dX12_skyOf_1 : decode cX12_skyOf 1 = .ok (.istore_n 2, 1) := by decide +kernel
theorem dX12_skyOf_2 : decode cX12_skyOf 2 = .ok (.iconst 0, 1) := by decide +kernel
theorem dX12_skyOf_3 : decode cX12_skyOf 3 = .ok (.istore_n 3, 1) := by decide +kernel
theorem dX12_skyOf_4 : decode cX12_skyOf 4 = .ok (.iload_n 3, 1) := by decide +kernel
theorem dX12_skyOf_5 : decode cX12_skyOf 5 = .ok (.aload_n 0, 1) := by decide +kernel
theorem dX12_skyOf_6 : decode cX12_skyOf 6 = .ok (.getfield 267, 3) := by decide +kernel
theorem dX12_skyOf_9 : decode cX12_skyOf 9 = .ok (.if_icmp .ge 32, 3) := by decide +kernel
theorem dX12_skyOf_12 : decode cX12_skyOf 12 = .ok (.aload_n 0, 1) := by decide +kernel
theorem dX12_skyOf_13 : decode cX12_skyOf 13 = .ok (.getfield 59, 3) := by decide +kernel
theorem dX12_skyOf_16 : decode cX12_skyOf 16 = .ok (.iconst 2, 1) := by decide +kernel
theorem dX12_skyOf_17 : decode cX12_skyOf 17 = .ok (.iload_n 3, 1) := by decide +kernel
theorem dX12_skyOf_18 : decode cX12_skyOf 18 = .ok (.imul, 1) := by decide +kernel
theorem dX12_skyOf_19 : decode cX12_skyOf 19 = .ok (.iaload, 1) := by decide +kernel
theorem dX12_skyOf_20 : decode cX12_skyOf 20 = .ok (.iload_n 1, 1) := by decide +kernel
theorem dX12_skyOf_21 : decode cX12_skyOf 21 = .ok (.if_icmp .ne 14, 3) := by decide +kernel
theorem dX12_skyOf_24 : decode cX12_skyOf 24 = .ok (.aload_n 0, 1) := by decide +kernel
theorem dX12_skyOf_25 : decode cX12_skyOf 25 = .ok (.getfield 59, 3) := by decide +kernel
theorem dX12_skyOf_28 : decode cX12_skyOf 28 = .ok (.iconst 2, 1) := by decide +kernel
theorem dX12_skyOf_29 : decode cX12_skyOf 29 = .ok (.iload_n 3, 1) := by decide +kernel
theorem dX12_skyOf_30 : decode cX12_skyOf 30 = .ok (.imul, 1) := by decide +kernel
theorem dX12_skyOf_31 : decode cX12_skyOf 31 = .ok (.iconst 1, 1) := by decide +kernel
theorem dX12_skyOf_32 : decode cX12_skyOf 32 = .ok (.iadd, 1) := by decide +kernel
theorem dX12_skyOf_33 : decode cX12_skyOf 33 = .ok (.iaload, 1) := by decide +kernel
theorem dX12_skyOf_34 : decode cX12_skyOf 34 = .ok (.istore_n 2, 1) := by decide +kernel
theorem dX12_skyOf_35 : decode cX12_skyOf 35 = .ok (.iinc 3 1, 3) := by decide +kernel
theorem dX12_skyOf_38 : decode cX12_skyOf 38 = .ok (.goto (-34), 3) := by decide +kernel
theorem dX12_skyOf_41 : decode cX12_skyOf 41 = .ok (.iload_n 2, 1) := by decide +kernel
theorem dX12_skyOf_42 : decode cX12_skyOf 42 = .ok (.ireturn, 1) := by decide +kernel
theorem dX12_sky_0 : decode cX12_sky 0 = .ok (.aload_n 0, 1) := by decide +kernel
theorem dX12_sky_1 : decode cX12_sky 1 = .ok (.iconst 0, 1) := by decide +kernel
theorem dX12_sky_2 : decode cX12_sky 2 = .ok (.putfield 89, 3) := by decide +kernel
theorem dX12_sky_5 : decode cX12_sky 5 = .ok (.aload_n 0, 1) := by decide +kernel
theorem dX12_sky_6 : decode cX12_sky 6 = .ok (.iload_n 1, 1) := by decide +kernel
theorem dX12_sky_7 : decode cX12_sky 7 = .ok (.invokevirtual 367, 3) := by decide +kernel
theorem dX12_sky_10 : decode cX12_sky 10 = .ok (.ireturn, 1) := by decide +kernel
theorem dX12_book_0 : decode cX12_book 0 = .ok (.aload_n 0, 1) := by decide +kernel
theorem dX12_book_1 : decode cX12_book 1 = .ok (.iconst 0, 1) := by decide +kernel
theorem dX12_book_2 : decode cX12_book 2 = .ok (.putfield 89, 3) := by decide +kernel
theorem dX12_book_5 : decode cX12_book 5 = .ok (.aload_n 0, 1) := by decide +kernel
theorem dX12_book_6 : decode cX12_book 6 = .ok (.iload_n 1, 1) := by decide +kernel
theorem dX12_book_7 : decode cX12_book 7 = .ok (.iconst 0, 1) := by decide +kernel
theorem dX12_book_8 : decode cX12_book 8 = .ok (.aload_n 0, 1) := by decide +kernel
theorem dX12_book_9 : decode cX12_book 9 = .ok (.getfield 7, 3) := by decide +kernel
theorem dX12_book_12 : decode cX12_book 12 = .ok (.iconst 2, 1) := by decide +kernel
theorem dX12_book_13 : decode cX12_book 13 = .ok (.iaload, 1) := by decide +kernel
theorem dX12_book_14 : decode cX12_book 14 = .ok (.iconst 1, 1) := by decide +kernel
theorem dX12_book_15 : decode cX12_book 15 = .ok (.isub, 1) := by decide +kernel
theorem dX12_book_16 : decode cX12_book 16 = .ok (.invokevirtual 122, 3) := by decide +kernel
theorem dX12_book_19 : decode cX12_book 19 = .ok (.ifCond .eq 26, 3) := by decide +kernel
theorem dX12_book_22 : decode cX12_book 22 = .ok (.aload_n 0, 1) := by decide +kernel
theorem dX12_book_23 : decode cX12_book 23 = .ok (.iload_n 2, 1) := by decide +kernel
theorem dX12_book_24 : decode cX12_book 24 = .ok (.iconst 0, 1) := by decide +kernel
theorem dX12_book_25 : decode cX12_book 25 = .ok (.iconst 3, 1) := by decide +kernel
theorem dX12_book_26 : decode cX12_book 26 = .ok (.invokevirtual 122, 3) := by decide +kernel
theorem dX12_book_29 : decode cX12_book 29 = .ok (.ifCond .eq 16, 3) := by decide +kernel
theorem dX12_book_32 : decode cX12_book 32 = .ok (.aload_n 0, 1) := by decide +kernel
theorem dX12_book_33 : decode cX12_book 33 = .ok (.getfield 22, 3) := by decide +kernel
theorem dX12_book_36 : decode cX12_book 36 = .ok (.iconst 4, 1) := by decide +kernel
theorem dX12_book_37 : decode cX12_book 37 = .ok (.iload_n 1, 1) := by decide +kernel
theorem dX12_book_38 : decode cX12_book 38 = .ok (.imul, 1) := by decide +kernel
theorem dX12_book_39 : decode cX12_book 39 = .ok (.iload_n 2, 1) := by decide +kernel
theorem dX12_book_40 : decode cX12_book 40 = .ok (.iadd, 1) := by decide +kernel
theorem dX12_book_41 : decode cX12_book 41 = .ok (.iaload, 1) := by decide +kernel
theorem dX12_book_42 : decode cX12_book 42 = .ok (.goto 5, 3) := by decide +kernel
theorem dX12_book_45 : decode cX12_book 45 = .ok (.bipush (-100), 2) := by decide +kernel
theorem dX12_book_47 : decode cX12_book 47 = .ok (.ireturn, 1) := by decide +kernel
theorem dX12_deadSet_0 : decode cX12_deadSet 0 = .ok (.iconst 0, 1) := by decide +kernel
theorem dX12_deadSet_1 : decode cX12_deadSet 1 = .ok (.istore_n 1, 1) := by decide +kernel
theorem dX12_deadSet_2 : decode cX12_deadSet 2 = .ok (.iconst 0, 1) := by decide +kernel
theorem dX12_deadSet_3 : decode cX12_deadSet 3 = .ok (.istore_n 2, 1) := by decide +kernel
theorem dX12_deadSet_4 : decode cX12_deadSet 4 = .ok (.iload_n 2, 1) := by decide +kernel
theorem dX12_deadSet_5 : decode cX12_deadSet 5 = .ok (.aload_n 0, 1) := by decide +kernel
theorem dX12_deadSet_6 : decode cX12_deadSet 6 = .ok (.getfield 104, 3) := by decide +kernel
theorem dX12_deadSet_9 : decode cX12_deadSet 9 = .ok (.if_icmp .ge 28, 3) := by decide +kernel
theorem dX12_deadSet_12 : decode cX12_deadSet 12 = .ok (.aload_n 0, 1) := by decide +kernel
theorem dX12_deadSet_13 : decode cX12_deadSet 13 = .ok (.getfield 7, 3) := by decide +kernel
theorem dX12_deadSet_16 : decode cX12_deadSet 16 = .ok (.bipush 49, 2) := by decide +kernel
theorem dX12_deadSet_18 : decode cX12_deadSet 18 = .ok (.iload_n 2, 1) := by decide +kernel
theorem dX12_deadSet_19 : decode cX12_deadSet 19 = .ok (.iadd, 1) := by decide +kernel
theorem dX12_deadSet_20 : decode cX12_deadSet 20 = .ok (.iaload, 1) := by decide +kernel
theorem dX12_deadSet_21 : decode cX12_deadSet 21 = .ok (.iconst 1, 1) := by decide +kernel
theorem dX12_deadSet_22 : decode cX12_deadSet 22 = .ok (.if_icmp .ne 9, 3) := by decide +kernel
theorem dX12_deadSet_25 : decode cX12_deadSet 25 = .ok (.iload_n 1, 1) := by decide +kernel
theorem dX12_deadSet_26 : decode cX12_deadSet 26 = .ok (.iconst 1, 1) := by decide +kernel
theorem dX12_deadSet_27 : decode cX12_deadSet 27 = .ok (.iload_n 2, 1) := by decide +kernel
theorem dX12_deadSet_28 : decode cX12_deadSet 28 = .ok (.ishl, 1) := by decide +kernel
theorem dX12_deadSet_29 : decode cX12_deadSet 29 = .ok (.ior, 1) := by decide +kernel
theorem dX12_deadSet_30 : decode cX12_deadSet 30 = .ok (.istore_n 1, 1) := by decide +kernel
theorem dX12_deadSet_31 : decode cX12_deadSet 31 = .ok (.iinc 2 1, 3) := by decide +kernel
theorem dX12_deadSet_34 : decode cX12_deadSet 34 = .ok (.goto (-30), 3) := by decide +kernel
theorem dX12_deadSet_37 : decode cX12_deadSet 37 = .ok (.iload_n 1, 1) := by decide +kernel
theorem dX12_deadSet_38 : decode cX12_deadSet 38 = .ok (.ireturn, 1) := by decide +kernel
theorem dX12_goes_0 : decode cX12_goes 0 = .ok (.aload_n 0, 1) := by decide +kernel
theorem dX12_goes_1 : decode cX12_goes 1 = .ok (.iconst 0, 1) := by decide +kernel
theorem dX12_goes_2 : decode cX12_goes 2 = .ok (.putfield 89, 3) := by decide +kernel
theorem dX12_goes_5 : decode cX12_goes 5 = .ok (.aload_n 0, 1) := by decide +kernel
theorem dX12_goes_6 : decode cX12_goes 6 = .ok (.iload_n 1, 1) := by decide +kernel
theorem dX12_goes_7 : decode cX12_goes 7 = .ok (.iconst 1, 1) := by decide +kernel
theorem dX12_goes_8 : decode cX12_goes 8 = .ok (.bipush 60, 2) := by decide +kernel
theorem dX12_goes_10 : decode cX12_goes 10 = .ok (.invokevirtual 122, 3) := by decide +kernel
theorem dX12_goes_13 : decode cX12_goes 13 = .ok (.ifCond .eq 13, 3) := by decide +kernel
theorem dX12_goes_16 : decode cX12_goes 16 = .ok (.aload_n 0, 1) := by decide +kernel
theorem dX12_goes_17 : decode cX12_goes 17 = .ok (.iload_n 2, 1) := by decide +kernel
theorem dX12_goes_18 : decode cX12_goes 18 = .ok (.iconst 0, 1) := by decide +kernel
theorem dX12_goes_19 : decode cX12_goes 19 = .ok (.iconst 3, 1) := by decide +kernel
theorem dX12_goes_20 : decode cX12_goes 20 = .ok (.invokevirtual 122, 3) := by decide +kernel
theorem dX12_goes_23 : decode cX12_goes 23 = .ok (.ifCond .ne 6, 3) := by decide +kernel
theorem dX12_goes_26 : decode cX12_goes 26 = .ok (.bipush (-100), 2) := by decide +kernel
theorem dX12_goes_28 : decode cX12_goes 28 = .ok (.ireturn, 1) := by decide +kernel
theorem dX12_goes_29 : decode cX12_goes 29 = .ok (.aload_n 0, 1) := by decide +kernel
theorem dX12_goes_30 : decode cX12_goes 30 = .ok (.invokevirtual 385, 3) := by decide +kernel
theorem dX12_goes_33 : decode cX12_goes 33 = .ok (.iconst 0, 1) := by decide +kernel
theorem dX12_goes_34 : decode cX12_goes 34 = .ok (.istore_n 3, 1) := by decide +kernel
theorem dX12_goes_35 : decode cX12_goes 35 = .ok (.iload_n 3, 1) := by decide +kernel
theorem dX12_goes_36 : decode cX12_goes 36 = .ok (.iload_n 1, 1) := by decide +kernel
theorem dX12_goes_37 : decode cX12_goes 37 = .ok (.if_icmp .ge 14, 3) := by decide +kernel
theorem dX12_goes_40 : decode cX12_goes 40 = .ok (.aload_n 0, 1) := by decide +kernel
theorem dX12_goes_41 : decode cX12_goes 41 = .ok (.invokevirtual 382, 3) := by decide +kernel
theorem dX12_goes_44 : decode cX12_goes 44 = .ok (.pop, 1) := by decide +kernel
theorem dX12_goes_45 : decode cX12_goes 45 = .ok (.iinc 3 1, 3) := by decide +kernel
theorem dX12_goes_48 : decode cX12_goes 48 = .ok (.goto (-13), 3) := by decide +kernel
theorem dX12_goes_51 : decode cX12_goes 51 = .ok (.iconst 0, 1) := by decide +kernel
theorem dX12_goes_52 : decode cX12_goes 52 = .ok (.istore_n 3, 1) := by decide +kernel
theorem dX12_goes_53 : decode cX12_goes 53 = .ok (.iconst 0, 1) := by decide +kernel
theorem dX12_goes_54 : decode cX12_goes 54 = .ok (.istore 4, 2) := by decide +kernel
theorem dX12_goes_56 : decode cX12_goes 56 = .ok (.iload 4, 2) := by decide +kernel
theorem dX12_goes_58 : decode cX12_goes 58 = .ok (.aload_n 0, 1) := by decide +kernel
theorem dX12_goes_59 : decode cX12_goes 59 = .ok (.getfield 104, 3) := by decide +kernel
theorem dX12_goes_62 : decode cX12_goes 62 = .ok (.if_icmp .ge 35, 3) := by decide +kernel
theorem dX12_goes_65 : decode cX12_goes 65 = .ok (.aload_n 0, 1) := by decide +kernel
theorem dX12_goes_66 : decode cX12_goes 66 = .ok (.getfield 7, 3) := by decide +kernel
theorem dX12_goes_69 : decode cX12_goes 69 = .ok (.bipush 49, 2) := by decide +kernel
theorem dX12_goes_71 : decode cX12_goes 71 = .ok (.iload 4, 2) := by decide +kernel
theorem dX12_goes_73 : decode cX12_goes 73 = .ok (.iadd, 1) := by decide +kernel
theorem dX12_goes_74 : decode cX12_goes 74 = .ok (.iaload, 1) := by decide +kernel
theorem dX12_goes_75 : decode cX12_goes 75 = .ok (.ifCond .ne 16, 3) := by decide +kernel
theorem dX12_goes_78 : decode cX12_goes 78 = .ok (.iload_n 3, 1) := by decide +kernel
theorem dX12_goes_79 : decode cX12_goes 79 = .ok (.aload_n 0, 1) := by decide +kernel
theorem dX12_goes_80 : decode cX12_goes 80 = .ok (.getfield 7, 3) := by decide +kernel
theorem dX12_goes_83 : decode cX12_goes 83 = .ok (.bipush 35, 2) := by decide +kernel
theorem dX12_goes_85 : decode cX12_goes 85 = .ok (.iload 4, 2) := by decide +kernel
theorem dX12_goes_87 : decode cX12_goes 87 = .ok (.iadd, 1) := by decide +kernel
theorem dX12_goes_88 : decode cX12_goes 88 = .ok (.iaload, 1) := by decide +kernel
theorem dX12_goes_89 : decode cX12_goes 89 = .ok (.iadd, 1) := by decide +kernel
theorem dX12_goes_90 : decode cX12_goes 90 = .ok (.istore_n 3, 1) := by decide +kernel
theorem dX12_goes_91 : decode cX12_goes 91 = .ok (.iinc 4 1, 3) := by decide +kernel
theorem dX12_goes_94 : decode cX12_goes 94 = .ok (.goto (-38), 3) := by decide +kernel
theorem dX12_goes_97 : decode cX12_goes 97 = .ok (.aload_n 0, 1) := by decide +kernel
theorem dX12_goes_98 : decode cX12_goes 98 = .ok (.getfield 7, 3) := by decide +kernel
theorem dX12_goes_101 : decode cX12_goes 101 = .ok (.bipush 83, 2) := by decide +kernel
theorem dX12_goes_103 : decode cX12_goes 103 = .ok (.iaload, 1) := by decide +kernel
theorem dX12_goes_104 : decode cX12_goes 104 = .ok (.ifCond .ne 7, 3) := by decide +kernel
theorem dX12_goes_107 : decode cX12_goes 107 = .ok (.iconst 0, 1) := by decide +kernel
theorem dX12_goes_108 : decode cX12_goes 108 = .ok (.goto 13, 3) := by decide +kernel
theorem dX12_goes_111 : decode cX12_goes 111 = .ok (.aload_n 0, 1) := by decide +kernel
theorem dX12_goes_112 : decode cX12_goes 112 = .ok (.getfield 7, 3) := by decide +kernel
theorem dX12_goes_115 : decode cX12_goes 115 = .ok (.bipush 83, 2) := by decide +kernel
theorem dX12_goes_117 : decode cX12_goes 117 = .ok (.iaload, 1) := by decide +kernel
theorem dX12_goes_118 : decode cX12_goes 118 = .ok (.bipush 100, 2) := by decide +kernel
theorem dX12_goes_120 : decode cX12_goes 120 = .ok (.isub, 1) := by decide +kernel
theorem dX12_goes_121 : decode cX12_goes 121 = .ok (.istore 4, 2) := by decide +kernel
theorem dX12_goes_123 : decode cX12_goes 123 = .ok (.iload_n 2, 1) := by decide +kernel
theorem dX12_goes_124 : decode cX12_goes 124 = .ok (.ifCond .ne 14, 3) := by decide +kernel
theorem dX12_goes_127 : decode cX12_goes 127 = .ok (.aload_n 0, 1) := by decide +kernel
theorem dX12_goes_128 : decode cX12_goes 128 = .ok (.aload_n 0, 1) := by decide +kernel
theorem dX12_goes_129 : decode cX12_goes 129 = .ok (.invokevirtual 388, 3) := by decide +kernel
theorem dX12_goes_132 : decode cX12_goes 132 = .ok (.invokevirtual 391, 3) := by decide +kernel
theorem dX12_goes_135 : decode cX12_goes 135 = .ok (.goto 28, 3) := by decide +kernel
theorem dX12_goes_138 : decode cX12_goes 138 = .ok (.iload_n 2, 1) := by decide +kernel
theorem dX12_goes_139 : decode cX12_goes 139 = .ok (.iconst 1, 1) := by decide +kernel
theorem dX12_goes_140 : decode cX12_goes 140 = .ok (.if_icmp .ne 12, 3) := by decide +kernel
theorem dX12_goes_143 : decode cX12_goes 143 = .ok (.aload_n 0, 1) := by decide +kernel
theorem dX12_goes_144 : decode cX12_goes 144 = .ok (.getfield 7, 3) := by decide +kernel
theorem dX12_goes_147 : decode cX12_goes 147 = .ok (.iconst 4, 1) := by decide +kernel
theorem dX12_goes_148 : decode cX12_goes 148 = .ok (.iaload, 1) := by decide +kernel
theorem dX12_goes_149 : decode cX12_goes 149 = .ok (.goto 14, 3) := by decide +kernel
theorem dX12_goes_152 : decode cX12_goes 152 = .ok (.iload_n 2, 1) := by decide +kernel
theorem dX12_goes_153 : decode cX12_goes 153 = .ok (.iconst 2, 1) := by decide +kernel
theorem dX12_goes_154 : decode cX12_goes 154 = .ok (.if_icmp .ne 7, 3) := by decide +kernel
theorem dX12_goes_157 : decode cX12_goes 157 = .ok (.iload_n 3, 1) := by decide +kernel
theorem dX12_goes_158 : decode cX12_goes 158 = .ok (.goto 5, 3) := by decide +kernel
theorem dX12_goes_161 : decode cX12_goes 161 = .ok (.iload 4, 2) := by decide +kernel
theorem dX12_goes_163 : decode cX12_goes 163 = .ok (.istore 5, 2) := by decide +kernel
theorem dX12_goes_165 : decode cX12_goes 165 = .ok (.aload_n 0, 1) := by decide +kernel
theorem dX12_goes_166 : decode cX12_goes 166 = .ok (.invokevirtual 394, 3) := by decide +kernel
theorem dX12_goes_169 : decode cX12_goes 169 = .ok (.iload 5, 2) := by decide +kernel
theorem dX12_goes_171 : decode cX12_goes 171 = .ok (.ireturn, 1) := by decide +kernel
theorem dX12_loaves_0 : decode cX12_loaves 0 = .ok (.aload_n 0, 1) := by decide +kernel
theorem dX12_loaves_1 : decode cX12_loaves 1 = .ok (.iconst 0, 1) := by decide +kernel
theorem dX12_loaves_2 : decode cX12_loaves 2 = .ok (.putfield 89, 3) := by decide +kernel
theorem dX12_loaves_5 : decode cX12_loaves 5 = .ok (.iconst 0, 1) := by decide +kernel
theorem dX12_loaves_6 : decode cX12_loaves 6 = .ok (.istore_n 1, 1) := by decide +kernel
theorem dX12_loaves_7 : decode cX12_loaves 7 = .ok (.iconst 0, 1) := by decide +kernel
theorem dX12_loaves_8 : decode cX12_loaves 8 = .ok (.istore_n 2, 1) := by decide +kernel
theorem dX12_loaves_9 : decode cX12_loaves 9 = .ok (.iload_n 2, 1) := by decide +kernel
theorem dX12_loaves_10 : decode cX12_loaves 10 = .ok (.aload_n 0, 1) := by decide +kernel
theorem dX12_loaves_11 : decode cX12_loaves 11 = .ok (.getfield 101, 3) := by decide +kernel
theorem dX12_loaves_14 : decode cX12_loaves 14 = .ok (.if_icmp .ge 30, 3) := by decide +kernel
theorem dX12_loaves_17 : decode cX12_loaves 17 = .ok (.aload_n 0, 1) := by decide +kernel
theorem dX12_loaves_18 : decode cX12_loaves 18 = .ok (.iload_n 2, 1) := by decide +kernel
theorem dX12_loaves_19 : decode cX12_loaves 19 = .ok (.invokevirtual 107, 3) := by decide +kernel
theorem dX12_loaves_22 : decode cX12_loaves 22 = .ok (.iconst (-1), 1) := by decide +kernel
theorem dX12_loaves_23 : decode cX12_loaves 23 = .ok (.if_icmp .eq 15, 3) := by decide +kernel
theorem dX12_loaves_26 : decode cX12_loaves 26 = .ok (.iload_n 1, 1) := by decide +kernel
theorem dX12_loaves_27 : decode cX12_loaves 27 = .ok (.aload_n 0, 1) := by decide +kernel
theorem dX12_loaves_28 : decode cX12_loaves 28 = .ok (.aload_n 0, 1) := by decide +kernel
theorem dX12_loaves_29 : decode cX12_loaves 29 = .ok (.iload_n 2, 1) := by decide +kernel
theorem dX12_loaves_30 : decode cX12_loaves 30 = .ok (.invokevirtual 107, 3) := by decide +kernel
theorem dX12_loaves_33 : decode cX12_loaves 33 = .ok (.invokevirtual 343, 3) := by decide +kernel
theorem dX12_loaves_36 : decode cX12_loaves 36 = .ok (.iadd, 1) := by decide +kernel
theorem dX12_loaves_37 : decode cX12_loaves 37 = .ok (.istore_n 1, 1) := by decide +kernel
theorem dX12_loaves_38 : decode cX12_loaves 38 = .ok (.iinc 2 1, 3) := by decide +kernel
theorem dX12_loaves_41 : decode cX12_loaves 41 = .ok (.goto (-32), 3) := by decide +kernel
theorem dX12_loaves_44 : decode cX12_loaves 44 = .ok (.iload_n 1, 1) := by decide +kernel
theorem dX12_loaves_45 : decode cX12_loaves 45 = .ok (.ireturn, 1) := by decide +kernel
theorem dX12_heir_0 : decode cX12_heir 0 = .ok (.aload_n 0, 1) := by decide +kernel
theorem dX12_heir_1 : decode cX12_heir 1 = .ok (.iconst 0, 1) := by decide +kernel
theorem dX12_heir_2 : decode cX12_heir 2 = .ok (.putfield 89, 3) := by decide +kernel
theorem dX12_heir_5 : decode cX12_heir 5 = .ok (.aload_n 0, 1) := by decide +kernel
theorem dX12_heir_6 : decode cX12_heir 6 = .ok (.iload_n 1, 1) := by decide +kernel
theorem dX12_heir_7 : decode cX12_heir 7 = .ok (.iconst 0, 1) := by decide +kernel
theorem dX12_heir_8 : decode cX12_heir 8 = .ok (.bipush 13, 2) := by decide +kernel
theorem dX12_heir_10 : decode cX12_heir 10 = .ok (.invokevirtual 122, 3) := by decide +kernel
theorem dX12_heir_13 : decode cX12_heir 13 = .ok (.ifCond .ne 5, 3) := by decide +kernel
theorem dX12_heir_16 : decode cX12_heir 16 = .ok (.iconst (-1), 1) := by decide +kernel
theorem dX12_heir_17 : decode cX12_heir 17 = .ok (.ireturn, 1) := by decide +kernel
theorem dX12_heir_18 : decode cX12_heir 18 = .ok (.aload_n 0, 1) := by decide +kernel
theorem dX12_heir_19 : decode cX12_heir 19 = .ok (.invokevirtual 385, 3) := by decide +kernel
theorem dX12_heir_22 : decode cX12_heir 22 = .ok (.iconst 0, 1) := by decide +kernel
theorem dX12_heir_23 : decode cX12_heir 23 = .ok (.istore_n 2, 1) := by decide +kernel
theorem dX12_heir_24 : decode cX12_heir 24 = .ok (.iload_n 2, 1) := by decide +kernel
theorem dX12_heir_25 : decode cX12_heir 25 = .ok (.iload_n 1, 1) := by decide +kernel
theorem dX12_heir_26 : decode cX12_heir 26 = .ok (.if_icmp .ge 33, 3) := by decide +kernel
theorem dX12_heir_29 : decode cX12_heir 29 = .ok (.aload_n 0, 1) := by decide +kernel
theorem dX12_heir_30 : decode cX12_heir 30 = .ok (.invokevirtual 322, 3) := by decide +kernel
theorem dX12_heir_33 : decode cX12_heir 33 = .ok (.iconst (-1), 1) := by decide +kernel
theorem dX12_heir_34 : decode cX12_heir 34 = .ok (.if_icmp .eq 25, 3) := by decide +kernel
theorem dX12_heir_37 : decode cX12_heir 37 = .ok (.aload_n 0, 1) := by decide +kernel
theorem dX12_heir_38 : decode cX12_heir 38 = .ok (.aload_n 0, 1) := by decide +kernel
theorem dX12_heir_39 : decode cX12_heir 39 = .ok (.aload_n 0, 1) := by decide +kernel
theorem dX12_heir_40 : decode cX12_heir 40 = .ok (.invokevirtual 322, 3) := by decide +kernel
theorem dX12_heir_43 : decode cX12_heir 43 = .ok (.invokevirtual 107, 3) := by decide +kernel
theorem dX12_heir_46 : decode cX12_heir 46 = .ok (.invokevirtual 379, 3) := by decide +kernel
theorem dX12_heir_49 : decode cX12_heir 49 = .ok (.aload_n 0, 1) := by decide +kernel
theorem dX12_heir_50 : decode cX12_heir 50 = .ok (.invokevirtual 126, 3) := by decide +kernel
theorem dX12_heir_53 : decode cX12_heir 53 = .ok (.iinc 2 1, 3) := by decide +kernel
theorem dX12_heir_56 : decode cX12_heir 56 = .ok (.goto (-32), 3) := by decide +kernel
theorem dX12_heir_59 : decode cX12_heir 59 = .ok (.aload_n 0, 1) := by decide +kernel
theorem dX12_heir_60 : decode cX12_heir 60 = .ok (.invokevirtual 322, 3) := by decide +kernel
theorem dX12_heir_63 : decode cX12_heir 63 = .ok (.iconst (-1), 1) := by decide +kernel
theorem dX12_heir_64 : decode cX12_heir 64 = .ok (.if_icmp .ne 7, 3) := by decide +kernel
theorem dX12_heir_67 : decode cX12_heir 67 = .ok (.iconst (-1), 1) := by decide +kernel
theorem dX12_heir_68 : decode cX12_heir 68 = .ok (.goto 11, 3) := by decide +kernel
theorem dX12_heir_71 : decode cX12_heir 71 = .ok (.aload_n 0, 1) := by decide +kernel
theorem dX12_heir_72 : decode cX12_heir 72 = .ok (.aload_n 0, 1) := by decide +kernel
theorem dX12_heir_73 : decode cX12_heir 73 = .ok (.invokevirtual 322, 3) := by decide +kernel
theorem dX12_heir_76 : decode cX12_heir 76 = .ok (.invokevirtual 107, 3) := by decide +kernel
theorem dX12_heir_79 : decode cX12_heir 79 = .ok (.istore_n 2, 1) := by decide +kernel
theorem dX12_heir_80 : decode cX12_heir 80 = .ok (.aload_n 0, 1) := by decide +kernel
theorem dX12_heir_81 : decode cX12_heir 81 = .ok (.invokevirtual 394, 3) := by decide +kernel
theorem dX12_heir_84 : decode cX12_heir 84 = .ok (.iload_n 2, 1) := by decide +kernel
theorem dX12_heir_85 : decode cX12_heir 85 = .ok (.ireturn, 1) := by decide +kernel
theorem dX12_comes_0 : decode cX12_comes 0 = .ok (.aload_n 0, 1) := by decide +kernel
theorem dX12_comes_1 : decode cX12_comes 1 = .ok (.iconst 0, 1) := by decide +kernel
theorem dX12_comes_2 : decode cX12_comes 2 = .ok (.putfield 89, 3) := by decide +kernel
theorem dX12_comes_5 : decode cX12_comes 5 = .ok (.aload_n 0, 1) := by decide +kernel
theorem dX12_comes_6 : decode cX12_comes 6 = .ok (.iload_n 1, 1) := by decide +kernel
theorem dX12_comes_7 : decode cX12_comes 7 = .ok (.bipush (-99), 2) := by decide +kernel
theorem dX12_comes_9 : decode cX12_comes 9 = .ok (.bipush 99, 2) := by decide +kernel
theorem dX12_comes_11 : decode cX12_comes 11 = .ok (.invokevirtual 122, 3) := by decide +kernel
theorem dX12_comes_14 : decode cX12_comes 14 = .ok (.ifCond .eq 19, 3) := by decide +kernel
theorem dX12_comes_17 : decode cX12_comes 17 = .ok (.aload_n 0, 1) := by decide +kernel
theorem dX12_comes_18 : decode cX12_comes 18 = .ok (.iload_n 2, 1) := by decide +kernel
theorem dX12_comes_19 : decode cX12_comes 19 = .ok (.invokevirtual 325, 3) := by decide +kernel
theorem dX12_comes_22 : decode cX12_comes 22 = .ok (.ifCond .eq 11, 3) := by decide +kernel
theorem dX12_comes_25 : decode cX12_comes 25 = .ok (.iload_n 2, 1) := by decide +kernel
theorem dX12_comes_26 : decode cX12_comes 26 = .ok (.aload_n 0, 1) := by decide +kernel
theorem dX12_comes_27 : decode cX12_comes 27 = .ok (.invokevirtual 322, 3) := by decide +kernel
theorem dX12_comes_30 : decode cX12_comes 30 = .ok (.if_icmp .le 6, 3) := by decide +kernel
theorem dX12_comes_33 : decode cX12_comes 33 = .ok (.bipush (-100), 2) := by decide +kernel
theorem dX12_comes_35 : decode cX12_comes 35 = .ok (.ireturn, 1) := by decide +kernel
theorem dX12_comes_36 : decode cX12_comes 36 = .ok (.iload_n 1, 1) := by decide +kernel
theorem dX12_comes_37 : decode cX12_comes 37 = .ok (.istore_n 3, 1) := by decide +kernel
theorem dX12_comes_38 : decode cX12_comes 38 = .ok (.aload_n 0, 1) := by decide +kernel
theorem dX12_comes_39 : decode cX12_comes 39 = .ok (.invokevirtual 322, 3) := by decide +kernel
theorem dX12_comes_42 : decode cX12_comes 42 = .ok (.iconst 1, 1) := by decide +kernel
theorem dX12_comes_43 : decode cX12_comes 43 = .ok (.isub, 1) := by decide +kernel
theorem dX12_comes_44 : decode cX12_comes 44 = .ok (.istore 4, 2) := by decide +kernel
theorem dX12_comes_46 : decode cX12_comes 46 = .ok (.iload 4, 2) := by decide +kernel
theorem dX12_comes_48 : decode cX12_comes 48 = .ok (.iload_n 2, 1) := by decide +kernel
theorem dX12_comes_49 : decode cX12_comes 49 = .ok (.if_icmp .lt 17, 3) := by decide +kernel
theorem dX12_comes_52 : decode cX12_comes 52 = .ok (.aload_n 0, 1) := by decide +kernel
theorem dX12_comes_53 : decode cX12_comes 53 = .ok (.iload_n 3, 1) := by decide +kernel
theorem dX12_comes_54 : decode cX12_comes 54 = .ok (.iload 4, 2) := by decide +kernel
theorem dX12_comes_56 : decode cX12_comes 56 = .ok (.invokevirtual 352, 3) := by decide +kernel
theorem dX12_comes_59 : decode cX12_comes 59 = .ok (.istore_n 3, 1) := by decide +kernel
theorem dX12_comes_60 : decode cX12_comes 60 = .ok (.iinc 4 (-1), 3) := by decide +kernel
theorem dX12_comes_63 : decode cX12_comes 63 = .ok (.goto (-17), 3) := by decide +kernel
theorem dX12_comes_66 : decode cX12_comes 66 = .ok (.iload_n 3, 1) := by decide +kernel
theorem dX12_comes_67 : decode cX12_comes 67 = .ok (.ireturn, 1) := by decide +kernel
theorem dX12_spreadOf_0 : decode cX12_spreadOf 0 = .ok (.ldc_w 397, 3) := by decide +kernel
theorem dX12_spreadOf_3 : decode cX12_spreadOf 3 = .ok (.istore_n 3, 1) := by decide +kernel
theorem dX12_spreadOf_4 : decode cX12_spreadOf 4 = .ok (.ldc_w 398, 3) := by decide +kernel
theorem dX12_spreadOf_7 : decode cX12_spreadOf 7 = .ok (.istore 4, 2) := by decide +kernel
theorem dX12_spreadOf_9 : decode cX12_spreadOf 9 = .ok (.iconst 0, 1) := by decide +kernel
theorem dX12_spreadOf_10 : decode cX12_spreadOf 10 = .ok (.istore 5, 2) := by decide +kernel
