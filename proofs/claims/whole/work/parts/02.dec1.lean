theorem dX8_init_31 : decode cX8_init 31 = .ok (.return_, 1) := by decide +kernel
theorem dX8_cut_0 : decode cX8_cut 0 = .ok (.aload_n 0, 1) := by decide +kernel
theorem dX8_cut_1 : decode cX8_cut 1 = .ok (.iconst 0, 1) := by decide +kernel
theorem dX8_cut_2 : decode cX8_cut 2 = .ok (.putfield 21, 3) := by decide +kernel
theorem dX8_cut_5 : decode cX8_cut 5 = .ok (.iconst 0, 1) := by decide +kernel
theorem dX8_cut_6 : decode cX8_cut 6 = .ok (.istore 4, 2) := by decide +kernel
theorem dX8_cut_8 : decode cX8_cut 8 = .ok (.iload 4, 2) := by decide +kernel
theorem dX8_cut_10 : decode cX8_cut 10 = .ok (.iload_n 2, 1) := by decide +kernel
theorem dX8_cut_11 : decode cX8_cut 11 = .ok (.if_icmp .ge 161, 3) := by decide +kernel
theorem dX8_cut_14 : decode cX8_cut 14 = .ok (.iload 4, 2) := by decide +kernel
theorem dX8_cut_16 : decode cX8_cut 16 = .ok (.iconst 1, 1) := by decide +kernel
theorem dX8_cut_17 : decode cX8_cut 17 = .ok (.iadd, 1) := by decide +kernel
theorem dX8_cut_18 : decode cX8_cut 18 = .ok (.aload_n 1, 1) := by decide +kernel
theorem dX8_cut_19 : decode cX8_cut 19 = .ok (.iload 4, 2) := by decide +kernel
theorem dX8_cut_21 : decode cX8_cut 21 = .ok (.iload_n 2, 1) := by decide +kernel
theorem dX8_cut_22 : decode cX8_cut 22 = .ok (.invokestatic 25, 3) := by decide +kernel
theorem dX8_cut_25 : decode cX8_cut 25 = .ok (.invokestatic 29, 3) := by decide +kernel
theorem dX8_cut_28 : decode cX8_cut 28 = .ok (.istore 5, 2) := by decide +kernel
theorem dX8_cut_30 : decode cX8_cut 30 = .ok (.aload_n 1, 1) := by decide +kernel
theorem dX8_cut_31 : decode cX8_cut 31 = .ok (.iload 4, 2) := by decide +kernel
theorem dX8_cut_33 : decode cX8_cut 33 = .ok (.invokestatic 35, 3) := by decide +kernel
theorem dX8_cut_36 : decode cX8_cut 36 = .ok (.istore 6, 2) := by decide +kernel
theorem dX8_cut_38 : decode cX8_cut 38 = .ok (.iload 6, 2) := by decide +kernel
theorem dX8_cut_40 : decode cX8_cut 40 = .ok (.invokestatic 39, 3) := by decide +kernel
theorem dX8_cut_43 : decode cX8_cut 43 = .ok (.ifCond .eq 42, 3) := by decide +kernel
theorem dX8_cut_46 : decode cX8_cut 46 = .ok (.aload_n 1, 1) := by decide +kernel
theorem dX8_cut_47 : decode cX8_cut 47 = .ok (.iload 4, 2) := by decide +kernel
theorem dX8_cut_49 : decode cX8_cut 49 = .ok (.iload 5, 2) := by decide +kernel
theorem dX8_cut_51 : decode cX8_cut 51 = .ok (.aload_n 3, 1) := by decide +kernel
theorem dX8_cut_52 : decode cX8_cut 52 = .ok (.invokestatic 43, 3) := by decide +kernel
theorem dX8_cut_55 : decode cX8_cut 55 = .ok (.istore 7, 2) := by decide +kernel
theorem dX8_cut_57 : decode cX8_cut 57 = .ok (.aload_n 0, 1) := by decide +kernel
theorem dX8_cut_58 : decode cX8_cut 58 = .ok (.iload 7, 2) := by decide +kernel
theorem dX8_cut_60 : decode cX8_cut 60 = .ok (.iconst (-1), 1) := by decide +kernel
theorem dX8_cut_61 : decode cX8_cut 61 = .ok (.if_icmp .ne 9, 3) := by decide +kernel
theorem dX8_cut_64 : decode cX8_cut 64 = .ok (.sipush 202, 3) := by decide +kernel
theorem dX8_cut_67 : decode cX8_cut 67 = .ok (.goto 9, 3) := by decide +kernel
theorem dX8_cut_70 : decode cX8_cut 70 = .ok (.sipush 300, 3) := by decide +kernel
theorem dX8_cut_73 : decode cX8_cut 73 = .ok (.iload 7, 2) := by decide +kernel
theorem dX8_cut_75 : decode cX8_cut 75 = .ok (.iadd, 1) := by decide +kernel
theorem dX8_cut_76 : decode cX8_cut 76 = .ok (.iconst 0, 1) := by decide +kernel
theorem dX8_cut_77 : decode cX8_cut 77 = .ok (.iload 4, 2) := by decide +kernel
theorem dX8_cut_79 : decode cX8_cut 79 = .ok (.invokevirtual 47, 3) := by decide +kernel
theorem dX8_cut_82 : decode cX8_cut 82 = .ok (.goto 83, 3) := by decide +kernel
theorem dX8_cut_85 : decode cX8_cut 85 = .ok (.iload 6, 2) := by decide +kernel
theorem dX8_cut_87 : decode cX8_cut 87 = .ok (.invokestatic 51, 3) := by decide +kernel
theorem dX8_cut_90 : decode cX8_cut 90 = .ok (.ifCond .eq 38, 3) := by decide +kernel
theorem dX8_cut_93 : decode cX8_cut 93 = .ok (.aload_n 0, 1) := by decide +kernel
theorem dX8_cut_94 : decode cX8_cut 94 = .ok (.iload 5, 2) := by decide +kernel
theorem dX8_cut_96 : decode cX8_cut 96 = .ok (.iload 4, 2) := by decide +kernel
theorem dX8_cut_98 : decode cX8_cut 98 = .ok (.isub, 1) := by decide +kernel
theorem dX8_cut_99 : decode cX8_cut 99 = .ok (.iconst 4, 1) := by decide +kernel
theorem dX8_cut_100 : decode cX8_cut 100 = .ok (.if_icmp .le 9, 3) := by decide +kernel
theorem dX8_cut_103 : decode cX8_cut 103 = .ok (.sipush 202, 3) := by decide +kernel
theorem dX8_cut_106 : decode cX8_cut 106 = .ok (.goto 6, 3) := by decide +kernel
theorem dX8_cut_109 : decode cX8_cut 109 = .ok (.sipush 201, 3) := by decide +kernel
theorem dX8_cut_112 : decode cX8_cut 112 = .ok (.aload_n 1, 1) := by decide +kernel
theorem dX8_cut_113 : decode cX8_cut 113 = .ok (.iload 4, 2) := by decide +kernel
theorem dX8_cut_115 : decode cX8_cut 115 = .ok (.iload 5, 2) := by decide +kernel
theorem dX8_cut_117 : decode cX8_cut 117 = .ok (.invokestatic 54, 3) := by decide +kernel
theorem dX8_cut_120 : decode cX8_cut 120 = .ok (.iload 4, 2) := by decide +kernel
theorem dX8_cut_122 : decode cX8_cut 122 = .ok (.invokevirtual 47, 3) := by decide +kernel
theorem dX8_cut_125 : decode cX8_cut 125 = .ok (.goto 40, 3) := by decide +kernel
theorem dX8_cut_128 : decode cX8_cut 128 = .ok (.iload 6, 2) := by decide +kernel
theorem dX8_cut_130 : decode cX8_cut 130 = .ok (.bipush 32, 2) := by decide +kernel
theorem dX8_cut_132 : decode cX8_cut 132 = .ok (.if_icmp .eq 33, 3) := by decide +kernel
theorem dX8_cut_135 : decode cX8_cut 135 = .ok (.iload 6, 2) := by decide +kernel
theorem dX8_cut_137 : decode cX8_cut 137 = .ok (.bipush 10, 2) := by decide +kernel
theorem dX8_cut_139 : decode cX8_cut 139 = .ok (.if_icmp .eq 26, 3) := by decide +kernel
theorem dX8_cut_142 : decode cX8_cut 142 = .ok (.aload_n 0, 1) := by decide +kernel
theorem dX8_cut_143 : decode cX8_cut 143 = .ok (.iload 6, 2) := by decide +kernel
theorem dX8_cut_145 : decode cX8_cut 145 = .ok (.sipush 128, 3) := by decide +kernel
theorem dX8_cut_148 : decode cX8_cut 148 = .ok (.if_icmp .ge 8, 3) := by decide +kernel
theorem dX8_cut_151 : decode cX8_cut 151 = .ok (.iload 6, 2) := by decide +kernel
theorem dX8_cut_153 : decode cX8_cut 153 = .ok (.goto 6, 3) := by decide +kernel
theorem dX8_cut_156 : decode cX8_cut 156 = .ok (.sipush 202, 3) := by decide +kernel
theorem dX8_cut_159 : decode cX8_cut 159 = .ok (.iconst 0, 1) := by decide +kernel
theorem dX8_cut_160 : decode cX8_cut 160 = .ok (.iload 4, 2) := by decide +kernel
theorem dX8_cut_162 : decode cX8_cut 162 = .ok (.invokevirtual 47, 3) := by decide +kernel
theorem dX8_cut_165 : decode cX8_cut 165 = .ok (.iload 5, 2) := by decide +kernel
theorem dX8_cut_167 : decode cX8_cut 167 = .ok (.istore 4, 2) := by decide +kernel
theorem dX8_cut_169 : decode cX8_cut 169 = .ok (.goto (-161), 3) := by decide +kernel
theorem dX8_cut_172 : decode cX8_cut 172 = .ok (.aload_n 0, 1) := by decide +kernel
theorem dX8_cut_173 : decode cX8_cut 173 = .ok (.sipush 200, 3) := by decide +kernel
theorem dX8_cut_176 : decode cX8_cut 176 = .ok (.iconst 0, 1) := by decide +kernel
theorem dX8_cut_177 : decode cX8_cut 177 = .ok (.iload_n 2, 1) := by decide +kernel
theorem dX8_cut_178 : decode cX8_cut 178 = .ok (.invokevirtual 47, 3) := by decide +kernel
theorem dX8_cut_181 : decode cX8_cut 181 = .ok (.return_, 1) := by decide +kernel
theorem dX8_add_0 : decode cX8_add 0 = .ok (.aload_n 0, 1) := by decide +kernel
theorem dX8_add_1 : decode cX8_add 1 = .ok (.getfield 21, 3) := by decide +kernel
theorem dX8_add_4 : decode cX8_add 4 = .ok (.aload_n 0, 1) := by decide +kernel
theorem dX8_add_5 : decode cX8_add 5 = .ok (.getfield 9, 3) := by decide +kernel
theorem dX8_add_8 : decode cX8_add 8 = .ok (.arraylength, 1) := by decide +kernel
theorem dX8_add_9 : decode cX8_add 9 = .ok (.if_icmp .ge 43, 3) := by decide +kernel
theorem dX8_add_12 : decode cX8_add 12 = .ok (.aload_n 0, 1) := by decide +kernel
theorem dX8_add_13 : decode cX8_add 13 = .ok (.getfield 9, 3) := by decide +kernel
theorem dX8_add_16 : decode cX8_add 16 = .ok (.aload_n 0, 1) := by decide +kernel
theorem dX8_add_17 : decode cX8_add 17 = .ok (.getfield 21, 3) := by decide +kernel
theorem dX8_add_20 : decode cX8_add 20 = .ok (.iload_n 1, 1) := by decide +kernel
theorem dX8_add_21 : decode cX8_add 21 = .ok (.iastore, 1) := by decide +kernel
theorem dX8_add_22 : decode cX8_add 22 = .ok (.aload_n 0, 1) := by decide +kernel
theorem dX8_add_23 : decode cX8_add 23 = .ok (.getfield 15, 3) := by decide +kernel
theorem dX8_add_26 : decode cX8_add 26 = .ok (.aload_n 0, 1) := by decide +kernel
theorem dX8_add_27 : decode cX8_add 27 = .ok (.getfield 21, 3) := by decide +kernel
theorem dX8_add_30 : decode cX8_add 30 = .ok (.iload_n 2, 1) := by decide +kernel
theorem dX8_add_31 : decode cX8_add 31 = .ok (.iastore, 1) := by decide +kernel
theorem dX8_add_32 : decode cX8_add 32 = .ok (.aload_n 0, 1) := by decide +kernel
theorem dX8_add_33 : decode cX8_add 33 = .ok (.getfield 18, 3) := by decide +kernel
theorem dX8_add_36 : decode cX8_add 36 = .ok (.aload_n 0, 1) := by decide +kernel
theorem dX8_add_37 : decode cX8_add 37 = .ok (.getfield 21, 3) := by decide +kernel
theorem dX8_add_40 : decode cX8_add 40 = .ok (.iload_n 3, 1) := by decide +kernel
theorem dX8_add_41 : decode cX8_add 41 = .ok (.iastore, 1) := by decide +kernel
theorem dX8_add_42 : decode cX8_add 42 = .ok (.aload_n 0, 1) := by decide +kernel
theorem dX8_add_43 : decode cX8_add 43 = .ok (.dup, 1) := by decide +kernel
theorem dX8_add_44 : decode cX8_add 44 = .ok (.getfield 21, 3) := by decide +kernel
theorem dX8_add_47 : decode cX8_add 47 = .ok (.iconst 1, 1) := by decide +kernel
theorem dX8_add_48 : decode cX8_add 48 = .ok (.iadd, 1) := by decide +kernel
theorem dX8_add_49 : decode cX8_add 49 = .ok (.putfield 21, 3) := by decide +kernel
theorem dX8_add_52 : decode cX8_add 52 = .ok (.return_, 1) := by decide +kernel
theorem dX8_endOf_0 : decode cX8_endOf 0 = .ok (.aload_n 0, 1) := by decide +kernel
theorem dX8_endOf_1 : decode cX8_endOf 1 = .ok (.iload_n 1, 1) := by decide +kernel
theorem dX8_endOf_2 : decode cX8_endOf 2 = .ok (.invokestatic 35, 3) := by decide +kernel
theorem dX8_endOf_5 : decode cX8_endOf 5 = .ok (.invokestatic 39, 3) := by decide +kernel
theorem dX8_endOf_8 : decode cX8_endOf 8 = .ok (.istore_n 3, 1) := by decide +kernel
theorem dX8_endOf_9 : decode cX8_endOf 9 = .ok (.aload_n 0, 1) := by decide +kernel
theorem dX8_endOf_10 : decode cX8_endOf 10 = .ok (.iload_n 1, 1) := by decide +kernel
theorem dX8_endOf_11 : decode cX8_endOf 11 = .ok (.invokestatic 35, 3) := by decide +kernel
theorem dX8_endOf_14 : decode cX8_endOf 14 = .ok (.invokestatic 51, 3) := by decide +kernel
theorem dX8_endOf_17 : decode cX8_endOf 17 = .ok (.istore 4, 2) := by decide +kernel
theorem dX8_endOf_19 : decode cX8_endOf 19 = .ok (.iload_n 1, 1) := by decide +kernel
theorem dX8_endOf_20 : decode cX8_endOf 20 = .ok (.iconst 1, 1) := by decide +kernel
theorem dX8_endOf_21 : decode cX8_endOf 21 = .ok (.iadd, 1) := by decide +kernel
theorem dX8_endOf_22 : decode cX8_endOf 22 = .ok (.istore 5, 2) := by decide +kernel
theorem dX8_endOf_24 : decode cX8_endOf 24 = .ok (.iload 5, 2) := by decide +kernel
theorem dX8_endOf_26 : decode cX8_endOf 26 = .ok (.iload_n 2, 1) := by decide +kernel
theorem dX8_endOf_27 : decode cX8_endOf 27 = .ok (.if_icmp .ge 42, 3) := by decide +kernel
theorem dX8_endOf_30 : decode cX8_endOf 30 = .ok (.iload_n 3, 1) := by decide +kernel
theorem dX8_endOf_31 : decode cX8_endOf 31 = .ok (.ifCond .eq 15, 3) := by decide +kernel
theorem dX8_endOf_34 : decode cX8_endOf 34 = .ok (.aload_n 0, 1) := by decide +kernel
theorem dX8_endOf_35 : decode cX8_endOf 35 = .ok (.iload 5, 2) := by decide +kernel
theorem dX8_endOf_37 : decode cX8_endOf 37 = .ok (.invokestatic 35, 3) := by decide +kernel
theorem dX8_endOf_40 : decode cX8_endOf 40 = .ok (.invokestatic 39, 3) := by decide +kernel
theorem dX8_endOf_43 : decode cX8_endOf 43 = .ok (.ifCond .ne 20, 3) := by decide +kernel
theorem dX8_endOf_46 : decode cX8_endOf 46 = .ok (.iload 4, 2) := by decide +kernel
theorem dX8_endOf_48 : decode cX8_endOf 48 = .ok (.ifCond .eq 21, 3) := by decide +kernel
theorem dX8_endOf_51 : decode cX8_endOf 51 = .ok (.aload_n 0, 1) := by decide +kernel
theorem dX8_endOf_52 : decode cX8_endOf 52 = .ok (.iload 5, 2) := by decide +kernel
theorem dX8_endOf_54 : decode cX8_endOf 54 = .ok (.invokestatic 35, 3) := by decide +kernel
theorem dX8_endOf_57 : decode cX8_endOf 57 = .ok (.invokestatic 51, 3) := by decide +kernel
theorem dX8_endOf_60 : decode cX8_endOf 60 = .ok (.ifCond .eq 9, 3) := by decide +kernel
theorem dX8_endOf_63 : decode cX8_endOf 63 = .ok (.iinc 5 1, 3) := by decide +kernel
theorem dX8_endOf_66 : decode cX8_endOf 66 = .ok (.goto (-42), 3) := by decide +kernel
theorem dX8_endOf_69 : decode cX8_endOf 69 = .ok (.iload 5, 2) := by decide +kernel
theorem dX8_endOf_71 : decode cX8_endOf 71 = .ok (.ireturn, 1) := by decide +kernel
theorem dX8_signAt_0 : decode cX8_signAt 0 = .ok (.iload_n 1, 1) := by decide +kernel
theorem dX8_signAt_1 : decode cX8_signAt 1 = .ok (.ifCond .lt 19, 3) := by decide +kernel
theorem dX8_signAt_4 : decode cX8_signAt 4 = .ok (.iload_n 1, 1) := by decide +kernel
theorem dX8_signAt_5 : decode cX8_signAt 5 = .ok (.aload_n 0, 1) := by decide +kernel
theorem dX8_signAt_6 : decode cX8_signAt 6 = .ok (.arraylength, 1) := by decide +kernel
theorem dX8_signAt_7 : decode cX8_signAt 7 = .ok (.if_icmp .ge 13, 3) := by decide +kernel
theorem dX8_signAt_10 : decode cX8_signAt 10 = .ok (.aload_n 0, 1) := by decide +kernel
theorem dX8_signAt_11 : decode cX8_signAt 11 = .ok (.iload_n 1, 1) := by decide +kernel
theorem dX8_signAt_12 : decode cX8_signAt 12 = .ok (.baload, 1) := by decide +kernel
theorem dX8_signAt_13 : decode cX8_signAt 13 = .ok (.sipush 255, 3) := by decide +kernel
theorem dX8_signAt_16 : decode cX8_signAt 16 = .ok (.iand, 1) := by decide +kernel
theorem dX8_signAt_17 : decode cX8_signAt 17 = .ok (.goto 4, 3) := by decide +kernel
theorem dX8_signAt_20 : decode cX8_signAt 20 = .ok (.iconst 0, 1) := by decide +kernel
theorem dX8_signAt_21 : decode cX8_signAt 21 = .ok (.ireturn, 1) := by decide +kernel
theorem dX8_isLetter_0 : decode cX8_isLetter 0 = .ok (.iload_n 0, 1) := by decide +kernel
theorem dX8_isLetter_1 : decode cX8_isLetter 1 = .ok (.bipush 97, 2) := by decide +kernel
theorem dX8_isLetter_3 : decode cX8_isLetter 3 = .ok (.if_icmp .lt 9, 3) := by decide +kernel
theorem dX8_isLetter_6 : decode cX8_isLetter 6 = .ok (.iload_n 0, 1) := by decide +kernel
theorem dX8_isLetter_7 : decode cX8_isLetter 7 = .ok (.bipush 122, 2) := by decide +kernel
theorem dX8_isLetter_9 : decode cX8_isLetter 9 = .ok (.if_icmp .le 15, 3) := by decide +kernel
theorem dX8_isLetter_12 : decode cX8_isLetter 12 = .ok (.iload_n 0, 1) := by decide +kernel
theorem dX8_isLetter_13 : decode cX8_isLetter 13 = .ok (.bipush 65, 2) := by decide +kernel
theorem dX8_isLetter_15 : decode cX8_isLetter 15 = .ok (.if_icmp .lt 13, 3) := by decide +kernel
theorem dX8_isLetter_18 : decode cX8_isLetter 18 = .ok (.iload_n 0, 1) := by decide +kernel
theorem dX8_isLetter_19 : decode cX8_isLetter 19 = .ok (.bipush 90, 2) := by decide +kernel
theorem dX8_isLetter_21 : decode cX8_isLetter 21 = .ok (.if_icmp .gt 7, 3) := by decide +kernel
theorem dX8_isLetter_24 : decode cX8_isLetter 24 = .ok (.iconst 1, 1) := by decide +kernel
theorem dX8_isLetter_25 : decode cX8_isLetter 25 = .ok (.goto 4, 3) := by decide +kernel
theorem dX8_isLetter_28 : decode cX8_isLetter 28 = .ok (.iconst 0, 1) := by decide +kernel
theorem dX8_isLetter_29 : decode cX8_isLetter 29 = .ok (.ireturn, 1) := by decide +kernel
theorem dX8_isDigit_0 : decode cX8_isDigit 0 = .ok (.iload_n 0, 1) := by decide +kernel
theorem dX8_isDigit_1 : decode cX8_isDigit 1 = .ok (.bipush 48, 2) := by decide +kernel
theorem dX8_isDigit_3 : decode cX8_isDigit 3 = .ok (.if_icmp .lt 13, 3) := by decide +kernel
theorem dX8_isDigit_6 : decode cX8_isDigit 6 = .ok (.iload_n 0, 1) := by decide +kernel
theorem dX8_isDigit_7 : decode cX8_isDigit 7 = .ok (.bipush 57, 2) := by decide +kernel
theorem dX8_isDigit_9 : decode cX8_isDigit 9 = .ok (.if_icmp .gt 7, 3) := by decide +kernel
theorem dX8_isDigit_12 : decode cX8_isDigit 12 = .ok (.iconst 1, 1) := by decide +kernel
theorem dX8_isDigit_13 : decode cX8_isDigit 13 = .ok (.goto 4, 3) := by decide +kernel
theorem dX8_isDigit_16 : decode cX8_isDigit 16 = .ok (.iconst 0, 1) := by decide +kernel
theorem dX8_isDigit_17 : decode cX8_isDigit 17 = .ok (.ireturn, 1) := by decide +kernel
theorem dX8_numberOf_0 : decode cX8_numberOf 0 = .ok (.iconst 0, 1) := by decide +kernel
theorem dX8_numberOf_1 : decode cX8_numberOf 1 = .ok (.istore_n 3, 1) := by decide +kernel
theorem dX8_numberOf_2 : decode cX8_numberOf 2 = .ok (.iload_n 1, 1) := by decide +kernel
theorem dX8_numberOf_3 : decode cX8_numberOf 3 = .ok (.istore 4, 2) := by decide +kernel
theorem dX8_numberOf_5 : decode cX8_numberOf 5 = .ok (.iload 4, 2) := by decide +kernel
theorem dX8_numberOf_7 : decode cX8_numberOf 7 = .ok (.iload_n 2, 1) := by decide +kernel
theorem dX8_numberOf_8 : decode cX8_numberOf 8 = .ok (.if_icmp .ge 32, 3) := by decide +kernel
theorem dX8_numberOf_11 : decode cX8_numberOf 11 = .ok (.iload 4, 2) := by decide +kernel
theorem dX8_numberOf_13 : decode cX8_numberOf 13 = .ok (.iload_n 1, 1) := by decide +kernel
theorem dX8_numberOf_14 : decode cX8_numberOf 14 = .ok (.iconst 4, 1) := by decide +kernel
theorem dX8_numberOf_15 : decode cX8_numberOf 15 = .ok (.iadd, 1) := by decide +kernel
theorem dX8_numberOf_16 : decode cX8_numberOf 16 = .ok (.if_icmp .ge 24, 3) := by decide +kernel
theorem dX8_numberOf_19 : decode cX8_numberOf 19 = .ok (.iload_n 3, 1) := by decide +kernel
theorem dX8_numberOf_20 : decode cX8_numberOf 20 = .ok (.bipush 10, 2) := by decide +kernel
theorem dX8_numberOf_22 : decode cX8_numberOf 22 = .ok (.imul, 1) := by decide +kernel
theorem dX8_numberOf_23 : decode cX8_numberOf 23 = .ok (.aload_n 0, 1) := by decide +kernel
theorem dX8_numberOf_24 : decode cX8_numberOf 24 = .ok (.iload 4, 2) := by decide +kernel
theorem dX8_numberOf_26 : decode cX8_numberOf 26 = .ok (.invokestatic 35, 3) := by decide +kernel
theorem dX8_numberOf_29 : decode cX8_numberOf 29 = .ok (.iadd, 1) := by decide +kernel
theorem dX8_numberOf_30 : decode cX8_numberOf 30 = .ok (.bipush 48, 2) := by decide +kernel
theorem dX8_numberOf_32 : decode cX8_numberOf 32 = .ok (.isub, 1) := by decide +kernel
theorem dX8_numberOf_33 : decode cX8_numberOf 33 = .ok (.istore_n 3, 1) := by decide +kernel
theorem dX8_numberOf_34 : decode cX8_numberOf 34 = .ok (.iinc 4 1, 3) := by decide +kernel
theorem dX8_numberOf_37 : decode cX8_numberOf 37 = .ok (.goto (-32), 3) := by decide +kernel
theorem dX8_numberOf_40 : decode cX8_numberOf 40 = .ok (.iload_n 3, 1) := by decide +kernel
theorem dX8_numberOf_41 : decode cX8_numberOf 41 = .ok (.ireturn, 1) := by decide +kernel
theorem dX8_wordOf_0 : decode cX8_wordOf 0 = .ok (.iconst 0, 1) := by decide +kernel
theorem dX8_wordOf_1 : decode cX8_wordOf 1 = .ok (.istore 4, 2) := by decide +kernel
theorem dX8_wordOf_3 : decode cX8_wordOf 3 = .ok (.iconst 0, 1) := by decide +kernel
theorem dX8_wordOf_4 : decode cX8_wordOf 4 = .ok (.istore 5, 2) := by decide +kernel
theorem dX8_wordOf_6 : decode cX8_wordOf 6 = .ok (.iconst 0, 1) := by decide +kernel
theorem dX8_wordOf_7 : decode cX8_wordOf 7 = .ok (.istore 6, 2) := by decide +kernel
theorem dX8_wordOf_9 : decode cX8_wordOf 9 = .ok (.iload 6, 2) := by decide +kernel
theorem dX8_wordOf_11 : decode cX8_wordOf 11 = .ok (.aload_n 3, 1) := by decide +kernel
theorem dX8_wordOf_12 : decode cX8_wordOf 12 = .ok (.invokevirtual 57, 3) := by decide +kernel
theorem dX8_wordOf_15 : decode cX8_wordOf 15 = .ok (.if_icmp .ge 80, 3) := by decide +kernel
theorem dX8_wordOf_18 : decode cX8_wordOf 18 = .ok (.aload_n 3, 1) := by decide +kernel
theorem dX8_wordOf_19 : decode cX8_wordOf 19 = .ok (.iload 6, 2) := by decide +kernel
theorem dX8_wordOf_21 : decode cX8_wordOf 21 = .ok (.invokevirtual 63, 3) := by decide +kernel
theorem dX8_wordOf_24 : decode cX8_wordOf 24 = .ok (.istore 7, 2) := by decide +kernel
theorem dX8_wordOf_26 : decode cX8_wordOf 26 = .ok (.iload 7, 2) := by decide +kernel
theorem dX8_wordOf_28 : decode cX8_wordOf 28 = .ok (.bipush 32, 2) := by decide +kernel
theorem dX8_wordOf_30 : decode cX8_wordOf 30 = .ok (.if_icmp .ne 23, 3) := by decide +kernel
theorem dX8_wordOf_33 : decode cX8_wordOf 33 = .ok (.iload 5, 2) := by decide +kernel
theorem dX8_wordOf_35 : decode cX8_wordOf 35 = .ok (.iload_n 2, 1) := by decide +kernel
theorem dX8_wordOf_36 : decode cX8_wordOf 36 = .ok (.iload_n 1, 1) := by decide +kernel
theorem dX8_wordOf_37 : decode cX8_wordOf 37 = .ok (.isub, 1) := by decide +kernel
theorem dX8_wordOf_38 : decode cX8_wordOf 38 = .ok (.if_icmp .ne 6, 3) := by decide +kernel
theorem dX8_wordOf_41 : decode cX8_wordOf 41 = .ok (.iload 4, 2) := by decide +kernel
theorem dX8_wordOf_43 : decode cX8_wordOf 43 = .ok (.ireturn, 1) := by decide +kernel
theorem dX8_wordOf_44 : decode cX8_wordOf 44 = .ok (.iinc 4 1, 3) := by decide +kernel
theorem dX8_wordOf_47 : decode cX8_wordOf 47 = .ok (.iconst 0, 1) := by decide +kernel
theorem dX8_wordOf_48 : decode cX8_wordOf 48 = .ok (.istore 5, 2) := by decide +kernel
theorem dX8_wordOf_50 : decode cX8_wordOf 50 = .ok (.goto 39, 3) := by decide +kernel
theorem dX8_wordOf_53 : decode cX8_wordOf 53 = .ok (.iload 5, 2) := by decide +kernel
theorem dX8_wordOf_55 : decode cX8_wordOf 55 = .ok (.iconst (-1), 1) := by decide +kernel
theorem dX8_wordOf_56 : decode cX8_wordOf 56 = .ok (.if_icmp .eq 30, 3) := by decide +kernel
theorem dX8_wordOf_59 : decode cX8_wordOf 59 = .ok (.iload_n 1, 1) := by decide +kernel
theorem dX8_wordOf_60 : decode cX8_wordOf 60 = .ok (.iload 5, 2) := by decide +kernel
theorem dX8_wordOf_62 : decode cX8_wordOf 62 = .ok (.iadd, 1) := by decide +kernel
theorem dX8_wordOf_63 : decode cX8_wordOf 63 = .ok (.iload_n 2, 1) := by decide +kernel
theorem dX8_wordOf_64 : decode cX8_wordOf 64 = .ok (.if_icmp .ge 22, 3) := by decide +kernel
theorem dX8_wordOf_67 : decode cX8_wordOf 67 = .ok (.aload_n 0, 1) := by decide +kernel
theorem dX8_wordOf_68 : decode cX8_wordOf 68 = .ok (.iload_n 1, 1) := by decide +kernel
theorem dX8_wordOf_69 : decode cX8_wordOf 69 = .ok (.iload 5, 2) := by decide +kernel
theorem dX8_wordOf_71 : decode cX8_wordOf 71 = .ok (.iadd, 1) := by decide +kernel
theorem dX8_wordOf_72 : decode cX8_wordOf 72 = .ok (.invokestatic 35, 3) := by decide +kernel
theorem dX8_wordOf_75 : decode cX8_wordOf 75 = .ok (.iload 7, 2) := by decide +kernel
theorem dX8_wordOf_77 : decode cX8_wordOf 77 = .ok (.if_icmp .ne 9, 3) := by decide +kernel
theorem dX8_wordOf_80 : decode cX8_wordOf 80 = .ok (.iinc 5 1, 3) := by decide +kernel
theorem dX8_wordOf_83 : decode cX8_wordOf 83 = .ok (.goto 6, 3) := by decide +kernel
theorem dX8_wordOf_86 : decode cX8_wordOf 86 = .ok (.iconst (-1), 1) := by decide +kernel
theorem dX8_wordOf_87 : decode cX8_wordOf 87 = .ok (.istore 5, 2) := by decide +kernel
theorem dX8_wordOf_89 : decode cX8_wordOf 89 = .ok (.iinc 6 1, 3) := by decide +kernel
theorem dX8_wordOf_92 : decode cX8_wordOf 92 = .ok (.goto (-83), 3) := by decide +kernel
theorem dX8_wordOf_95 : decode cX8_wordOf 95 = .ok (.iconst (-1), 1) := by decide +kernel
theorem dX8_wordOf_96 : decode cX8_wordOf 96 = .ok (.ireturn, 1) := by decide +kernel
theorem dX9_init_0 : decode cX9_init 0 = .ok (.aload_n 0, 1) := by decide +kernel
theorem dX9_init_1 : decode cX9_init 1 = .ok (.invokespecial 3, 3) := by decide +kernel
theorem dX9_init_4 : decode cX9_init 4 = .ok (.aload_n 0, 1) := by decide +kernel
theorem dX9_init_5 : decode cX9_init 5 = .ok (.bipush 10, 2) := by decide +kernel
theorem dX9_init_7 : decode cX9_init 7 = .ok (.newarray .int, 2) := by decide +kernel
theorem dX9_init_9 : decode cX9_init 9 = .ok (.putfield 9, 3) := by decide +kernel
theorem dX9_init_12 : decode cX9_init 12 = .ok (.aload_n 0, 1) := by decide +kernel
theorem dX9_init_13 : decode cX9_init 13 = .ok (.bipush 10, 2) := by decide +kernel
theorem dX9_init_15 : decode cX9_init 15 = .ok (.newarray .int, 2) := by decide +kernel
theorem dX9_init_17 : decode cX9_init 17 = .ok (.putfield 15, 3) := by decide +kernel
theorem dX9_init_20 : decode cX9_init 20 = .ok (.aload_n 0, 1) := by decide +kernel
theorem dX9_init_21 : decode cX9_init 21 = .ok (.bipush 10, 2) := by decide +kernel
theorem dX9_init_23 : decode cX9_init 23 = .ok (.newarray .int, 2) := by decide +kernel
theorem dX9_init_25 : decode cX9_init 25 = .ok (.putfield 18, 3) := by decide +kernel
theorem dX9_init_28 : decode cX9_init 28 = .ok (.aload_n 0, 1) := by decide +kernel
theorem dX9_init_29 : decode cX9_init 29 = .ok (.bipush 14, 2) := by decide +kernel
theorem dX9_init_31 : decode cX9_init 31 = .ok (.newarray .int, 2) := by decide +kernel
theorem dX9_init_33 : decode cX9_init 33 = .ok (.putfield 21, 3) := by decide +kernel
theorem dX9_init_36 : decode cX9_init 36 = .ok (.aload_n 0, 1) := by decide +kernel
theorem dX9_init_37 : decode cX9_init 37 = .ok (.bipush 14, 2) := by decide +kernel
theorem dX9_init_39 : decode cX9_init 39 = .ok (.newarray .int, 2) := by decide +kernel
theorem dX9_init_41 : decode cX9_init 41 = .ok (.putfield 24, 3) := by decide +kernel
theorem dX9_init_44 : decode cX9_init 44 = .ok (.aload_n 0, 1) := by decide +kernel
theorem dX9_init_45 : decode cX9_init 45 = .ok (.bipush 14, 2) := by decide +kernel
theorem dX9_init_47 : decode cX9_init 47 = .ok (.newarray .int, 2) := by decide +kernel
theorem dX9_init_49 : decode cX9_init 49 = .ok (.putfield 27, 3) := by decide +kernel
theorem dX9_init_52 : decode cX9_init 52 = .ok (.aload_n 0, 1) := by decide +kernel
theorem dX9_init_53 : decode cX9_init 53 = .ok (.bipush 14, 2) := by decide +kernel
theorem dX9_init_55 : decode cX9_init 55 = .ok (.newarray .int, 2) := by decide +kernel
theorem dX9_init_57 : decode cX9_init 57 = .ok (.putfield 30, 3) := by decide +kernel
theorem dX9_init_60 : decode cX9_init 60 = .ok (.aload_n 0, 1) := by decide +kernel
theorem dX9_init_61 : decode cX9_init 61 = .ok (.bipush 14, 2) := by decide +kernel
theorem dX9_init_63 : decode cX9_init 63 = .ok (.newarray .int, 2) := by decide +kernel
theorem dX9_init_65 : decode cX9_init 65 = .ok (.putfield 33, 3) := by decide +kernel
theorem dX9_init_68 : decode cX9_init 68 = .ok (.aload_n 0, 1) := by decide +kernel
theorem dX9_init_69 : decode cX9_init 69 = .ok (.iload_n 1, 1) := by decide +kernel
theorem dX9_init_70 : decode cX9_init 70 = .ok (.ifCond .eq 9, 3) := by decide +kernel
theorem dX9_init_73 : decode cX9_init 73 = .ok (.sipush 600, 3) := by decide +kernel
theorem dX9_init_76 : decode cX9_init 76 = .ok (.goto 4, 3) := by decide +kernel
theorem dX9_init_79 : decode cX9_init 79 = .ok (.iconst 0, 1) := by decide +kernel
theorem dX9_init_80 : decode cX9_init 80 = .ok (.newarray .int, 2) := by decide +kernel
theorem dX9_init_82 : decode cX9_init 82 = .ok (.putfield 36, 3) := by decide +kernel
theorem dX9_init_85 : decode cX9_init 85 = .ok (.aload_n 0, 1) := by decide +kernel
theorem dX9_init_86 : decode cX9_init 86 = .ok (.getfield 15, 3) := by decide +kernel
theorem dX9_init_89 : decode cX9_init 89 = .ok (.iconst (-1), 1) := by decide +kernel
theorem dX9_init_90 : decode cX9_init 90 = .ok (.invokestatic 39, 3) := by decide +kernel
theorem dX9_init_93 : decode cX9_init 93 = .ok (.aload_n 0, 1) := by decide +kernel
theorem dX9_init_94 : decode cX9_init 94 = .ok (.getfield 18, 3) := by decide +kernel
theorem dX9_init_97 : decode cX9_init 97 = .ok (.bipush (-100), 2) := by decide +kernel
theorem dX9_init_99 : decode cX9_init 99 = .ok (.invokestatic 39, 3) := by decide +kernel
theorem dX9_init_102 : decode cX9_init 102 = .ok (.return_, 1) := by decide +kernel
theorem dX9_copyFrom_0 : decode cX9_copyFrom 0 = .ok (.aload_n 1, 1) := by decide +kernel
theorem dX9_copyFrom_1 : decode cX9_copyFrom 1 = .ok (.getfield 36, 3) := by decide +kernel
theorem dX9_copyFrom_4 : decode cX9_copyFrom 4 = .ok (.iconst 0, 1) := by decide +kernel
theorem dX9_copyFrom_5 : decode cX9_copyFrom 5 = .ok (.aload_n 0, 1) := by decide +kernel
theorem dX9_copyFrom_6 : decode cX9_copyFrom 6 = .ok (.getfield 36, 3) := by decide +kernel
theorem dX9_copyFrom_9 : decode cX9_copyFrom 9 = .ok (.iconst 0, 1) := by decide +kernel
theorem dX9_copyFrom_10 : decode cX9_copyFrom 10 = .ok (.aload_n 1, 1) := by decide +kernel
theorem dX9_copyFrom_11 : decode cX9_copyFrom 11 = .ok (.getfield 36, 3) := by decide +kernel
theorem dX9_copyFrom_14 : decode cX9_copyFrom 14 = .ok (.arraylength, 1) := by decide +kernel
theorem dX9_copyFrom_15 : decode cX9_copyFrom 15 = .ok (.aload_n 0, 1) := by decide +kernel
theorem dX9_copyFrom_16 : decode cX9_copyFrom 16 = .ok (.getfield 36, 3) := by decide +kernel
theorem dX9_copyFrom_19 : decode cX9_copyFrom 19 = .ok (.arraylength, 1) := by decide +kernel
theorem dX9_copyFrom_20 : decode cX9_copyFrom 20 = .ok (.invokestatic 45, 3) := by decide +kernel
theorem dX9_copyFrom_23 : decode cX9_copyFrom 23 = .ok (.invokestatic 51, 3) := by decide +kernel
theorem dX9_copyFrom_26 : decode cX9_copyFrom 26 = .ok (.aload_n 1, 1) := by decide +kernel
theorem dX9_copyFrom_27 : decode cX9_copyFrom 27 = .ok (.getfield 9, 3) := by decide +kernel
theorem dX9_copyFrom_30 : decode cX9_copyFrom 30 = .ok (.iconst 0, 1) := by decide +kernel
theorem dX9_copyFrom_31 : decode cX9_copyFrom 31 = .ok (.aload_n 0, 1) := by decide +kernel
theorem dX9_copyFrom_32 : decode cX9_copyFrom 32 = .ok (.getfield 9, 3) := by decide +kernel
theorem dX9_copyFrom_35 : decode cX9_copyFrom 35 = .ok (.iconst 0, 1) := by decide +kernel
theorem dX9_copyFrom_36 : decode cX9_copyFrom 36 = .ok (.bipush 10, 2) := by decide +kernel
theorem dX9_copyFrom_38 : decode cX9_copyFrom 38 = .ok (.invokestatic 51, 3) := by decide +kernel
theorem dX9_copyFrom_41 : decode cX9_copyFrom 41 = .ok (.aload_n 1, 1) := by decide +kernel
theorem dX9_copyFrom_42 : decode cX9_copyFrom 42 = .ok (.getfield 15, 3) := by decide +kernel
theorem dX9_copyFrom_45 : decode cX9_copyFrom 45 = .ok (.iconst 0, 1) := by decide +kernel
theorem dX9_copyFrom_46 : decode cX9_copyFrom 46 = .ok (.aload_n 0, 1) := by decide +kernel
theorem dX9_copyFrom_47 : decode cX9_copyFrom 47 = .ok (.getfield 15, 3) := by decide +kernel
theorem dX9_copyFrom_50 : decode cX9_copyFrom 50 = .ok (.iconst 0, 1) := by decide +kernel
theorem dX9_copyFrom_51 : decode cX9_copyFrom 51 = .ok (.bipush 10, 2) := by decide +kernel
theorem dX9_copyFrom_53 : decode cX9_copyFrom 53 = .ok (.invokestatic 51, 3) := by decide +kernel
theorem dX9_copyFrom_56 : decode cX9_copyFrom 56 = .ok (.aload_n 1, 1) := by decide +kernel
theorem dX9_copyFrom_57 : decode cX9_copyFrom 57 = .ok (.getfield 18, 3) := by decide +kernel
theorem dX9_copyFrom_60 : decode cX9_copyFrom 60 = .ok (.iconst 0, 1) := by decide +kernel
theorem dX9_copyFrom_61 : decode cX9_copyFrom 61 = .ok (.aload_n 0, 1) := by decide +kernel
theorem dX9_copyFrom_62 : decode cX9_copyFrom 62 = .ok (.getfield 18, 3) := by decide +kernel
theorem dX9_copyFrom_65 : decode cX9_copyFrom 65 = .ok (.iconst 0, 1) := by decide +kernel
theorem dX9_copyFrom_66 : decode cX9_copyFrom 66 = .ok (.bipush 10, 2) := by decide +kernel
theorem dX9_copyFrom_68 : decode cX9_copyFrom 68 = .ok (.invokestatic 51, 3) := by decide +kernel
theorem dX9_copyFrom_71 : decode cX9_copyFrom 71 = .ok (.aload_n 1, 1) := by decide +kernel
theorem dX9_copyFrom_72 : decode cX9_copyFrom 72 = .ok (.getfield 21, 3) := by decide +kernel
theorem dX9_copyFrom_75 : decode cX9_copyFrom 75 = .ok (.iconst 0, 1) := by decide +kernel
theorem dX9_copyFrom_76 : decode cX9_copyFrom 76 = .ok (.aload_n 0, 1) := by decide +kernel
theorem dX9_copyFrom_77 : decode cX9_copyFrom 77 = .ok (.getfield 21, 3) := by decide +kernel
theorem dX9_copyFrom_80 : decode cX9_copyFrom 80 = .ok (.iconst 0, 1) := by decide +kernel
theorem dX9_copyFrom_81 : decode cX9_copyFrom 81 = .ok (.bipush 14, 2) := by decide +kernel
theorem dX9_copyFrom_83 : decode cX9_copyFrom 83 = .ok (.invokestatic 51, 3) := by decide +kernel
theorem dX9_copyFrom_86 : decode cX9_copyFrom 86 = .ok (.aload_n 1, 1) := by decide +kernel
theorem dX9_copyFrom_87 : decode cX9_copyFrom 87 = .ok (.getfield 24, 3) := by decide +kernel
theorem dX9_copyFrom_90 : decode cX9_copyFrom 90 = .ok (.iconst 0, 1) := by decide +kernel
theorem dX9_copyFrom_91 : decode cX9_copyFrom 91 = .ok (.aload_n 0, 1) := by decide +kernel
theorem dX9_copyFrom_92 : decode cX9_copyFrom 92 = .ok (.getfield 24, 3) := by decide +kernel
theorem dX9_copyFrom_95 : decode cX9_copyFrom 95 = .ok (.iconst 0, 1) := by decide +kernel
theorem dX9_copyFrom_96 : decode cX9_copyFrom 96 = .ok (.bipush 14, 2) := by decide +kernel
theorem dX9_copyFrom_98 : decode cX9_copyFrom 98 = .ok (.invokestatic 51, 3) := by decide +kernel
theorem dX9_copyFrom_101 : decode cX9_copyFrom 101 = .ok (.aload_n 1, 1) := by decide +kernel
theorem dX9_copyFrom_102 : decode cX9_copyFrom 102 = .ok (.getfield 27, 3) := by decide +kernel
theorem dX9_copyFrom_105 : decode cX9_copyFrom 105 = .ok (.iconst 0, 1) := by decide +kernel
theorem dX9_copyFrom_106 : decode cX9_copyFrom 106 = .ok (.aload_n 0, 1) := by decide +kernel
theorem dX9_copyFrom_107 : decode cX9_copyFrom 107 = .ok (.getfield 27, 3) := by decide +kernel
theorem dX9_copyFrom_110 : decode cX9_copyFrom 110 = .ok (.iconst 0, 1) := by decide +kernel
theorem dX9_copyFrom_111 : decode cX9_copyFrom 111 = .ok (.bipush 14, 2) := by decide +kernel
theorem dX9_copyFrom_113 : decode cX9_copyFrom 113 = .ok (.invokestatic 51, 3) := by decide +kernel
theorem dX9_copyFrom_116 : decode cX9_copyFrom 116 = .ok (.aload_n 1, 1) := by decide +kernel
theorem dX9_copyFrom_117 : decode cX9_copyFrom 117 = .ok (.getfield 30, 3) := by decide +kernel
theorem dX9_copyFrom_120 : decode cX9_copyFrom 120 = .ok (.iconst 0, 1) := by decide +kernel
theorem dX9_copyFrom_121 : decode cX9_copyFrom 121 = .ok (.aload_n 0, 1) := by decide +kernel
theorem dX9_copyFrom_122 : decode cX9_copyFrom 122 = .ok (.getfield 30, 3) := by decide +kernel
theorem dX9_copyFrom_125 : decode cX9_copyFrom 125 = .ok (.iconst 0, 1) := by decide +kernel
theorem dX9_copyFrom_126 : decode cX9_copyFrom 126 = .ok (.bipush 14, 2) := by decide +kernel
theorem dX9_copyFrom_128 : decode cX9_copyFrom 128 = .ok (.invokestatic 51, 3) := by decide +kernel
theorem dX9_copyFrom_131 : decode cX9_copyFrom 131 = .ok (.aload_n 1, 1) := by decide +kernel
theorem dX9_copyFrom_132 : decode cX9_copyFrom 132 = .ok (.getfield 33, 3) := by decide +kernel
theorem dX9_copyFrom_135 : decode cX9_copyFrom 135 = .ok (.iconst 0, 1) := by decide +kernel
theorem dX9_copyFrom_136 : decode cX9_copyFrom 136 = .ok (.aload_n 0, 1) := by decide +kernel
theorem dX9_copyFrom_137 : decode cX9_copyFrom 137 = .ok (.getfield 33, 3) := by decide +kernel
theorem dX9_copyFrom_140 : decode cX9_copyFrom 140 = .ok (.iconst 0, 1) := by decide +kernel
theorem dX9_copyFrom_141 : decode cX9_copyFrom 141 = .ok (.bipush 14, 2) := by decide +kernel
theorem dX9_copyFrom_143 : decode cX9_copyFrom 143 = .ok (.invokestatic 51, 3) := by decide +kernel
theorem dX9_copyFrom_146 : decode cX9_copyFrom 146 = .ok (.aload_n 0, 1) := by decide +kernel
theorem dX9_copyFrom_147 : decode cX9_copyFrom 147 = .ok (.aload_n 1, 1) := by decide +kernel
theorem dX9_copyFrom_148 : decode cX9_copyFrom 148 = .ok (.getfield 57, 3) := by decide +kernel
theorem dX9_copyFrom_151 : decode cX9_copyFrom 151 = .ok (.putfield 57, 3) := by decide +kernel
theorem dX9_copyFrom_154 : decode cX9_copyFrom 154 = .ok (.aload_n 0, 1) := by decide +kernel
theorem dX9_copyFrom_155 : decode cX9_copyFrom 155 = .ok (.aload_n 1, 1) := by decide +kernel
theorem dX9_copyFrom_156 : decode cX9_copyFrom 156 = .ok (.getfield 61, 3) := by decide +kernel
theorem dX9_copyFrom_159 : decode cX9_copyFrom 159 = .ok (.putfield 61, 3) := by decide +kernel
theorem dX9_copyFrom_162 : decode cX9_copyFrom 162 = .ok (.aload_n 0, 1) := by decide +kernel
theorem dX9_copyFrom_163 : decode cX9_copyFrom 163 = .ok (.aload_n 1, 1) := by decide +kernel
theorem dX9_copyFrom_164 : decode cX9_copyFrom 164 = .ok (.getfield 64, 3) := by decide +kernel
theorem dX9_copyFrom_167 : decode cX9_copyFrom 167 = .ok (.putfield 64, 3) := by decide +kernel
theorem dX9_copyFrom_170 : decode cX9_copyFrom 170 = .ok (.aload_n 0, 1) := by decide +kernel
theorem dX9_copyFrom_171 : decode cX9_copyFrom 171 = .ok (.aload_n 1, 1) := by decide +kernel
theorem dX9_copyFrom_172 : decode cX9_copyFrom 172 = .ok (.getfield 67, 3) := by decide +kernel
theorem dX9_copyFrom_175 : decode cX9_copyFrom 175 = .ok (.putfield 67, 3) := by decide +kernel
theorem dX9_copyFrom_178 : decode cX9_copyFrom 178 = .ok (.aload_n 0, 1) := by decide +kernel
theorem dX9_copyFrom_179 : decode cX9_copyFrom 179 = .ok (.aload_n 1, 1) := by decide +kernel
theorem dX9_copyFrom_180 : decode cX9_copyFrom 180 = .ok (.getfield 70, 3) := by decide +kernel
theorem dX9_copyFrom_183 : decode cX9_copyFrom 183 = .ok (.putfield 70, 3) := by decide +kernel
theorem dX9_copyFrom_186 : decode cX9_copyFrom 186 = .ok (.aload_n 0, 1) := by decide +kernel
theorem dX9_copyFrom_187 : decode cX9_copyFrom 187 = .ok (.aload_n 1, 1) := by decide +kernel
theorem dX9_copyFrom_188 : decode cX9_copyFrom 188 = .ok (.getfield 73, 3) := by decide +kernel
theorem dX9_copyFrom_191 : decode cX9_copyFrom 191 = .ok (.putfield 73, 3) := by decide +kernel
theorem dX9_copyFrom_194 : decode cX9_copyFrom 194 = .ok (.aload_n 0, 1) := by decide +kernel
theorem dX9_copyFrom_195 : decode cX9_copyFrom 195 = .ok (.aload_n 1, 1) := by decide +kernel
theorem dX9_copyFrom_196 : decode cX9_copyFrom 196 = .ok (.getfield 76, 3) := by decide +kernel
theorem dX9_copyFrom_199 : decode cX9_copyFrom 199 = .ok (.putfield 76, 3) := by decide +kernel
theorem dX9_copyFrom_202 : decode cX9_copyFrom 202 = .ok (.aload_n 0, 1) := by decide +kernel
theorem dX9_copyFrom_203 : decode cX9_copyFrom 203 = .ok (.aload_n 1, 1) := by decide +kernel
theorem dX9_copyFrom_204 : decode cX9_copyFrom 204 = .ok (.getfield 79, 3) := by decide +kernel
theorem dX9_copyFrom_207 : decode cX9_copyFrom 207 = .ok (.putfield 79, 3) := by decide +kernel
theorem dX9_copyFrom_210 : decode cX9_copyFrom 210 = .ok (.aload_n 0, 1) := by decide +kernel
theorem dX9_copyFrom_211 : decode cX9_copyFrom 211 = .ok (.aload_n 1, 1) := by decide +kernel
theorem dX9_copyFrom_212 : decode cX9_copyFrom 212 = .ok (.getfield 82, 3) := by decide +kernel
theorem dX9_copyFrom_215 : decode cX9_copyFrom 215 = .ok (.putfield 82, 3) := by decide +kernel
theorem dX9_copyFrom_218 : decode cX9_copyFrom 218 = .ok (.aload_n 0, 1) := by decide +kernel
theorem dX9_copyFrom_219 : decode cX9_copyFrom 219 = .ok (.aload_n 1, 1) := by decide +kernel
theorem dX9_copyFrom_220 : decode cX9_copyFrom 220 = .ok (.getfield 85, 3) := by decide +kernel
theorem dX9_copyFrom_223 : decode cX9_copyFrom 223 = .ok (.putfield 85, 3) := by decide +kernel
theorem dX9_copyFrom_226 : decode cX9_copyFrom 226 = .ok (.return_, 1) := by decide +kernel
theorem dX9_isPillar_0 : decode cX9_isPillar 0 = .ok (.iload_n 1, 1) := by decide +kernel
theorem dX9_isPillar_1 : decode cX9_isPillar 1 = .ok (.ifCond .lt 15, 3) := by decide +kernel
theorem dX9_isPillar_4 : decode cX9_isPillar 4 = .ok (.iload_n 1, 1) := by decide +kernel
theorem dX9_isPillar_5 : decode cX9_isPillar 5 = .ok (.aload_n 0, 1) := by decide +kernel
theorem dX9_isPillar_6 : decode cX9_isPillar 6 = .ok (.getfield 61, 3) := by decide +kernel
theorem dX9_isPillar_9 : decode cX9_isPillar 9 = .ok (.if_icmp .ge 7, 3) := by decide +kernel
theorem dX9_isPillar_12 : decode cX9_isPillar 12 = .ok (.iconst 1, 1) := by decide +kernel
theorem dX9_isPillar_13 : decode cX9_isPillar 13 = .ok (.goto 4, 3) := by decide +kernel
theorem dX9_isPillar_16 : decode cX9_isPillar 16 = .ok (.iconst 0, 1) := by decide +kernel
theorem dX9_isPillar_17 : decode cX9_isPillar 17 = .ok (.ireturn, 1) := by decide +kernel
theorem dX9_isSaint_0 : decode cX9_isSaint 0 = .ok (.iload_n 1, 1) := by decide +kernel
theorem dX9_isSaint_1 : decode cX9_isSaint 1 = .ok (.ifCond .lt 15, 3) := by decide +kernel
theorem dX9_isSaint_4 : decode cX9_isSaint 4 = .ok (.iload_n 1, 1) := by decide +kernel
theorem dX9_isSaint_5 : decode cX9_isSaint 5 = .ok (.aload_n 0, 1) := by decide +kernel
theorem dX9_isSaint_6 : decode cX9_isSaint 6 = .ok (.getfield 64, 3) := by decide +kernel
theorem dX9_isSaint_9 : decode cX9_isSaint 9 = .ok (.if_icmp .ge 7, 3) := by decide +kernel
theorem dX9_isSaint_12 : decode cX9_isSaint 12 = .ok (.iconst 1, 1) := by decide +kernel
theorem dX9_isSaint_13 : decode cX9_isSaint 13 = .ok (.goto 4, 3) := by decide +kernel
theorem dX9_isSaint_16 : decode cX9_isSaint 16 = .ok (.iconst 0, 1) := by decide +kernel
theorem dX9_isSaint_17 : decode cX9_isSaint 17 = .ok (.ireturn, 1) := by decide +kernel
theorem dX9_isDead_0 : decode cX9_isDead 0 = .ok (.aload_n 0, 1) := by decide +kernel
theorem dX9_isDead_1 : decode cX9_isDead 1 = .ok (.getfield 67, 3) := by decide +kernel
theorem dX9_isDead_4 : decode cX9_isDead 4 = .ok (.iload_n 1, 1) := by decide +kernel
theorem dX9_isDead_5 : decode cX9_isDead 5 = .ok (.ishr, 1) := by decide +kernel
theorem dX9_isDead_6 : decode cX9_isDead 6 = .ok (.iconst 1, 1) := by decide +kernel
theorem dX9_isDead_7 : decode cX9_isDead 7 = .ok (.iand, 1) := by decide +kernel
theorem dX9_isDead_8 : decode cX9_isDead 8 = .ok (.ifCond .eq 7, 3) := by decide +kernel
theorem dX9_isDead_11 : decode cX9_isDead 11 = .ok (.iconst 1, 1) := by decide +kernel
theorem dX9_isDead_12 : decode cX9_isDead 12 = .ok (.goto 4, 3) := by decide +kernel
theorem dX9_isDead_15 : decode cX9_isDead 15 = .ok (.iconst 0, 1) := by decide +kernel
theorem dX9_isDead_16 : decode cX9_isDead 16 = .ok (.ireturn, 1) := by decide +kernel
theorem dX9_sitterOn_0 : decode cX9_sitterOn 0 = .ok (.aload_n 0, 1) := by decide +kernel
theorem dX9_sitterOn_1 : decode cX9_sitterOn 1 = .ok (.iload_n 1, 1) := by decide +kernel
theorem dX9_sitterOn_2 : decode cX9_sitterOn 2 = .ok (.invokevirtual 88, 3) := by decide +kernel
theorem dX9_sitterOn_5 : decode cX9_sitterOn 5 = .ok (.ifCond .eq 12, 3) := by decide +kernel
theorem dX9_sitterOn_8 : decode cX9_sitterOn 8 = .ok (.aload_n 0, 1) := by decide +kernel
theorem dX9_sitterOn_9 : decode cX9_sitterOn 9 = .ok (.getfield 15, 3) := by decide +kernel
theorem dX9_sitterOn_12 : decode cX9_sitterOn 12 = .ok (.iload_n 1, 1) := by decide +kernel
theorem dX9_sitterOn_13 : decode cX9_sitterOn 13 = .ok (.iaload, 1) := by decide +kernel
theorem dX9_sitterOn_14 : decode cX9_sitterOn 14 = .ok (.goto 4, 3) := by decide +kernel
theorem dX9_sitterOn_17 : decode cX9_sitterOn 17 = .ok (.iconst (-1), 1) := by decide +kernel
theorem dX9_sitterOn_18 : decode cX9_sitterOn 18 = .ok (.ireturn, 1) := by decide +kernel
theorem dX9_pillarOf_0 : decode cX9_pillarOf 0 = .ok (.iconst 0, 1) := by decide +kernel
theorem dX9_pillarOf_1 : decode cX9_pillarOf 1 = .ok (.istore_n 2, 1) := by decide +kernel
theorem dX9_pillarOf_2 : decode cX9_pillarOf 2 = .ok (.iload_n 2, 1) := by decide +kernel
theorem dX9_pillarOf_3 : decode cX9_pillarOf 3 = .ok (.aload_n 0, 1) := by decide +kernel
theorem dX9_pillarOf_4 : decode cX9_pillarOf 4 = .ok (.getfield 61, 3) := by decide +kernel
theorem dX9_pillarOf_7 : decode cX9_pillarOf 7 = .ok (.if_icmp .ge 26, 3) := by decide +kernel
theorem dX9_pillarOf_10 : decode cX9_pillarOf 10 = .ok (.aload_n 0, 1) := by decide +kernel
theorem dX9_pillarOf_11 : decode cX9_pillarOf 11 = .ok (.getfield 15, 3) := by decide +kernel
theorem dX9_pillarOf_14 : decode cX9_pillarOf 14 = .ok (.iload_n 2, 1) := by decide +kernel
theorem dX9_pillarOf_15 : decode cX9_pillarOf 15 = .ok (.iaload, 1) := by decide +kernel
theorem dX9_pillarOf_16 : decode cX9_pillarOf 16 = .ok (.iload_n 1, 1) := by decide +kernel
theorem dX9_pillarOf_17 : decode cX9_pillarOf 17 = .ok (.if_icmp .ne 10, 3) := by decide +kernel
theorem dX9_pillarOf_20 : decode cX9_pillarOf 20 = .ok (.iload_n 1, 1) := by decide +kernel
theorem dX9_pillarOf_21 : decode cX9_pillarOf 21 = .ok (.iconst (-1), 1) := by decide +kernel
theorem dX9_pillarOf_22 : decode cX9_pillarOf 22 = .ok (.if_icmp .eq 5, 3) := by decide +kernel
theorem dX9_pillarOf_25 : decode cX9_pillarOf 25 = .ok (.iload_n 2, 1) := by decide +kernel
theorem dX9_pillarOf_26 : decode cX9_pillarOf 26 = .ok (.ireturn, 1) := by decide +kernel
theorem dX9_pillarOf_27 : decode cX9_pillarOf 27 = .ok (.iinc 2 1, 3) := by decide +kernel
theorem dX9_pillarOf_30 : decode cX9_pillarOf 30 = .ok (.goto (-28), 3) := by decide +kernel
theorem dX9_pillarOf_33 : decode cX9_pillarOf 33 = .ok (.iconst (-1), 1) := by decide +kernel
theorem dX9_pillarOf_34 : decode cX9_pillarOf 34 = .ok (.ireturn, 1) := by decide +kernel
theorem dX9_aheadOnGround_0 : decode cX9_aheadOnGround 0 = .ok (.iconst 0, 1) := by decide +kernel
theorem dX9_aheadOnGround_1 : decode cX9_aheadOnGround 1 = .ok (.istore_n 2, 1) := by decide +kernel
theorem dX9_aheadOnGround_2 : decode cX9_aheadOnGround 2 = .ok (.iload_n 2, 1) := by decide +kernel
theorem dX9_aheadOnGround_3 : decode cX9_aheadOnGround 3 = .ok (.aload_n 0, 1) := by decide +kernel
theorem dX9_aheadOnGround_4 : decode cX9_aheadOnGround 4 = .ok (.getfield 57, 3) := by decide +kernel
theorem dX9_aheadOnGround_7 : decode cX9_aheadOnGround 7 = .ok (.if_icmp .ge 21, 3) := by decide +kernel
theorem dX9_aheadOnGround_10 : decode cX9_aheadOnGround 10 = .ok (.aload_n 0, 1) := by decide +kernel
theorem dX9_aheadOnGround_11 : decode cX9_aheadOnGround 11 = .ok (.getfield 33, 3) := by decide +kernel
theorem dX9_aheadOnGround_14 : decode cX9_aheadOnGround 14 = .ok (.iload_n 2, 1) := by decide +kernel
theorem dX9_aheadOnGround_15 : decode cX9_aheadOnGround 15 = .ok (.iaload, 1) := by decide +kernel
theorem dX9_aheadOnGround_16 : decode cX9_aheadOnGround 16 = .ok (.iload_n 1, 1) := by decide +kernel
theorem dX9_aheadOnGround_17 : decode cX9_aheadOnGround 17 = .ok (.if_icmp .ne 5, 3) := by decide +kernel
theorem dX9_aheadOnGround_20 : decode cX9_aheadOnGround 20 = .ok (.iload_n 2, 1) := by decide +kernel
theorem dX9_aheadOnGround_21 : decode cX9_aheadOnGround 21 = .ok (.ireturn, 1) := by decide +kernel
theorem dX9_aheadOnGround_22 : decode cX9_aheadOnGround 22 = .ok (.iinc 2 1, 3) := by decide +kernel
theorem dX9_aheadOnGround_25 : decode cX9_aheadOnGround 25 = .ok (.goto (-23), 3) := by decide +kernel
theorem dX9_aheadOnGround_28 : decode cX9_aheadOnGround 28 = .ok (.iconst (-1), 1) := by decide +kernel
theorem dX9_aheadOnGround_29 : decode cX9_aheadOnGround 29 = .ok (.ireturn, 1) := by decide +kernel
theorem dX9_highest_0 : decode cX9_highest 0 = .ok (.aload_n 0, 1) := by decide +kernel
theorem dX9_highest_1 : decode cX9_highest 1 = .ok (.getfield 61, 3) := by decide +kernel
theorem dX9_highest_4 : decode cX9_highest 4 = .ok (.iconst 1, 1) := by decide +kernel
theorem dX9_highest_5 : decode cX9_highest 5 = .ok (.isub, 1) := by decide +kernel
theorem dX9_highest_6 : decode cX9_highest 6 = .ok (.istore_n 1, 1) := by decide +kernel
theorem dX9_highest_7 : decode cX9_highest 7 = .ok (.iload_n 1, 1) := by decide +kernel
theorem dX9_highest_8 : decode cX9_highest 8 = .ok (.ifCond .lt 21, 3) := by decide +kernel
theorem dX9_highest_11 : decode cX9_highest 11 = .ok (.aload_n 0, 1) := by decide +kernel
theorem dX9_highest_12 : decode cX9_highest 12 = .ok (.getfield 15, 3) := by decide +kernel
theorem dX9_highest_15 : decode cX9_highest 15 = .ok (.iload_n 1, 1) := by decide +kernel
theorem dX9_highest_16 : decode cX9_highest 16 = .ok (.iaload, 1) := by decide +kernel
theorem dX9_highest_17 : decode cX9_highest 17 = .ok (.iconst (-1), 1) := by decide +kernel
theorem dX9_highest_18 : decode cX9_highest 18 = .ok (.if_icmp .eq 5, 3) := by decide +kernel
theorem dX9_highest_21 : decode cX9_highest 21 = .ok (.iload_n 1, 1) := by decide +kernel
theorem dX9_highest_22 : decode cX9_highest 22 = .ok (.ireturn, 1) := by decide +kernel
theorem dX9_highest_23 : decode cX9_highest 23 = .ok (.iinc 1 (-1), 3) := by decide +kernel
theorem dX9_highest_26 : decode cX9_highest 26 = .ok (.goto (-19), 3) := by decide +kernel
theorem dX9_highest_29 : decode cX9_highest 29 = .ok (.iconst (-1), 1) := by decide +kernel
theorem dX9_highest_30 : decode cX9_highest 30 = .ok (.ireturn, 1) := by decide +kernel
theorem dX9_addPillar_0 : decode cX9_addPillar 0 = .ok (.aload_n 0, 1) := by decide +kernel
theorem dX9_addPillar_1 : decode cX9_addPillar 1 = .ok (.getfield 61, 3) := by decide +kernel
theorem dX9_addPillar_4 : decode cX9_addPillar 4 = .ok (.bipush 10, 2) := by decide +kernel
theorem dX9_addPillar_6 : decode cX9_addPillar 6 = .ok (.if_icmp .lt 5, 3) := by decide +kernel
theorem dX9_addPillar_9 : decode cX9_addPillar 9 = .ok (.iconst (-1), 1) := by decide +kernel
theorem dX9_addPillar_10 : decode cX9_addPillar 10 = .ok (.ireturn, 1) := by decide +kernel
theorem dX9_addPillar_11 : decode cX9_addPillar 11 = .ok (.aload_n 0, 1) := by decide +kernel
theorem dX9_addPillar_12 : decode cX9_addPillar 12 = .ok (.getfield 61, 3) := by decide +kernel
theorem dX9_addPillar_15 : decode cX9_addPillar 15 = .ok (.istore_n 2, 1) := by decide +kernel
theorem dX9_addPillar_16 : decode cX9_addPillar 16 = .ok (.aload_n 0, 1) := by decide +kernel
theorem dX9_addPillar_17 : decode cX9_addPillar 17 = .ok (.getfield 9, 3) := by decide +kernel
theorem dX9_addPillar_20 : decode cX9_addPillar 20 = .ok (.iload_n 2, 1) := by decide +kernel
theorem dX9_addPillar_21 : decode cX9_addPillar 21 = .ok (.iload_n 1, 1) := by decide +kernel
theorem dX9_addPillar_22 : decode cX9_addPillar 22 = .ok (.iastore, 1) := by decide +kernel
theorem dX9_addPillar_23 : decode cX9_addPillar 23 = .ok (.aload_n 0, 1) := by decide +kernel
theorem dX9_addPillar_24 : decode cX9_addPillar 24 = .ok (.getfield 15, 3) := by decide +kernel
theorem dX9_addPillar_27 : decode cX9_addPillar 27 = .ok (.iload_n 2, 1) := by decide +kernel
theorem dX9_addPillar_28 : decode cX9_addPillar 28 = .ok (.iconst (-1), 1) := by decide +kernel
theorem dX9_addPillar_29 : decode cX9_addPillar 29 = .ok (.iastore, 1) := by decide +kernel
theorem dX9_addPillar_30 : decode cX9_addPillar 30 = .ok (.aload_n 0, 1) := by decide +kernel
theorem dX9_addPillar_31 : decode cX9_addPillar 31 = .ok (.getfield 18, 3) := by decide +kernel
theorem dX9_addPillar_34 : decode cX9_addPillar 34 = .ok (.iload_n 2, 1) := by decide +kernel
theorem dX9_addPillar_35 : decode cX9_addPillar 35 = .ok (.bipush (-100), 2) := by decide +kernel
theorem dX9_addPillar_37 : decode cX9_addPillar 37 = .ok (.iastore, 1) := by decide +kernel
theorem dX9_addPillar_38 : decode cX9_addPillar 38 = .ok (.aload_n 0, 1) := by decide +kernel
theorem dX9_addPillar_39 : decode cX9_addPillar 39 = .ok (.dup, 1) := by decide +kernel
theorem dX9_addPillar_40 : decode cX9_addPillar 40 = .ok (.getfield 61, 3) := by decide +kernel
theorem dX9_addPillar_43 : decode cX9_addPillar 43 = .ok (.iconst 1, 1) := by decide +kernel
theorem dX9_addPillar_44 : decode cX9_addPillar 44 = .ok (.iadd, 1) := by decide +kernel
theorem dX9_addPillar_45 : decode cX9_addPillar 45 = .ok (.putfield 61, 3) := by decide +kernel
theorem dX9_addPillar_48 : decode cX9_addPillar 48 = .ok (.aload_n 0, 1) := by decide +kernel
theorem dX9_addPillar_49 : decode cX9_addPillar 49 = .ok (.invokevirtual 92, 3) := by decide +kernel
theorem dX9_addPillar_52 : decode cX9_addPillar 52 = .ok (.iload_n 2, 1) := by decide +kernel
theorem dX9_addPillar_53 : decode cX9_addPillar 53 = .ok (.ireturn, 1) := by decide +kernel
theorem dX9_addSaint_0 : decode cX9_addSaint 0 = .ok (.aload_n 0, 1) := by decide +kernel
theorem dX9_addSaint_1 : decode cX9_addSaint 1 = .ok (.getfield 64, 3) := by decide +kernel
theorem dX9_addSaint_4 : decode cX9_addSaint 4 = .ok (.bipush 14, 2) := by decide +kernel
theorem dX9_addSaint_6 : decode cX9_addSaint 6 = .ok (.if_icmp .lt 5, 3) := by decide +kernel
theorem dX9_addSaint_9 : decode cX9_addSaint 9 = .ok (.iconst (-1), 1) := by decide +kernel
theorem dX9_addSaint_10 : decode cX9_addSaint 10 = .ok (.ireturn, 1) := by decide +kernel
theorem dX9_addSaint_11 : decode cX9_addSaint 11 = .ok (.aload_n 0, 1) := by decide +kernel
theorem dX9_addSaint_12 : decode cX9_addSaint 12 = .ok (.getfield 64, 3) := by decide +kernel
theorem dX9_addSaint_15 : decode cX9_addSaint 15 = .ok (.istore 4, 2) := by decide +kernel
theorem dX9_addSaint_17 : decode cX9_addSaint 17 = .ok (.aload_n 0, 1) := by decide +kernel
theorem dX9_addSaint_18 : decode cX9_addSaint 18 = .ok (.getfield 21, 3) := by decide +kernel
theorem dX9_addSaint_21 : decode cX9_addSaint 21 = .ok (.iload 4, 2) := by decide +kernel
theorem dX9_addSaint_23 : decode cX9_addSaint 23 = .ok (.iload_n 1, 1) := by decide +kernel
theorem dX9_addSaint_24 : decode cX9_addSaint 24 = .ok (.iastore, 1) := by decide +kernel
theorem dX9_addSaint_25 : decode cX9_addSaint 25 = .ok (.aload_n 0, 1) := by decide +kernel
theorem dX9_addSaint_26 : decode cX9_addSaint 26 = .ok (.getfield 24, 3) := by decide +kernel
theorem dX9_addSaint_29 : decode cX9_addSaint 29 = .ok (.iload 4, 2) := by decide +kernel
theorem dX9_addSaint_31 : decode cX9_addSaint 31 = .ok (.iload_n 2, 1) := by decide +kernel
theorem dX9_addSaint_32 : decode cX9_addSaint 32 = .ok (.iastore, 1) := by decide +kernel
theorem dX9_addSaint_33 : decode cX9_addSaint 33 = .ok (.aload_n 0, 1) := by decide +kernel
theorem dX9_addSaint_34 : decode cX9_addSaint 34 = .ok (.getfield 27, 3) := by decide +kernel
theorem dX9_addSaint_37 : decode cX9_addSaint 37 = .ok (.iload 4, 2) := by decide +kernel
theorem dX9_addSaint_39 : decode cX9_addSaint 39 = .ok (.iload_n 3, 1) := by decide +kernel
theorem dX9_addSaint_40 : decode cX9_addSaint 40 = .ok (.iastore, 1) := by decide +kernel
theorem dX9_addSaint_41 : decode cX9_addSaint 41 = .ok (.aload_n 0, 1) := by decide +kernel
theorem dX9_addSaint_42 : decode cX9_addSaint 42 = .ok (.getfield 30, 3) := by decide +kernel
theorem dX9_addSaint_45 : decode cX9_addSaint 45 = .ok (.iload 4, 2) := by decide +kernel
theorem dX9_addSaint_47 : decode cX9_addSaint 47 = .ok (.iconst 0, 1) := by decide +kernel
theorem dX9_addSaint_48 : decode cX9_addSaint 48 = .ok (.iastore, 1) := by decide +kernel
theorem dX9_addSaint_49 : decode cX9_addSaint 49 = .ok (.aload_n 0, 1) := by decide +kernel
theorem dX9_addSaint_50 : decode cX9_addSaint 50 = .ok (.dup, 1) := by decide +kernel
theorem dX9_addSaint_51 : decode cX9_addSaint 51 = .ok (.getfield 64, 3) := by decide +kernel
theorem dX9_addSaint_54 : decode cX9_addSaint 54 = .ok (.iconst 1, 1) := by decide +kernel
theorem dX9_addSaint_55 : decode cX9_addSaint 55 = .ok (.iadd, 1) := by decide +kernel
theorem dX9_addSaint_56 : decode cX9_addSaint 56 = .ok (.putfield 64, 3) := by decide +kernel
theorem dX9_addSaint_59 : decode cX9_addSaint 59 = .ok (.aload_n 0, 1) := by decide +kernel
theorem dX9_addSaint_60 : decode cX9_addSaint 60 = .ok (.iload 4, 2) := by decide +kernel
theorem dX9_addSaint_62 : decode cX9_addSaint 62 = .ok (.invokevirtual 95, 3) := by decide +kernel
theorem dX9_addSaint_65 : decode cX9_addSaint 65 = .ok (.aload_n 0, 1) := by decide +kernel
theorem dX9_addSaint_66 : decode cX9_addSaint 66 = .ok (.invokevirtual 92, 3) := by decide +kernel
theorem dX9_addSaint_69 : decode cX9_addSaint 69 = .ok (.iload 4, 2) := by decide +kernel
theorem dX9_addSaint_71 : decode cX9_addSaint 71 = .ok (.ireturn, 1) := by decide +kernel
theorem dX9_change_0 : decode cX9_change 0 = .ok (.iload_n 1, 1) := by decide +kernel
theorem dX9_change_1 : decode cX9_change 1 = .ok (.iconst 4, 1) := by decide +kernel
theorem dX9_change_2 : decode cX9_change 2 = .ok (.if_icmp .ne 22, 3) := by decide +kernel
theorem dX9_change_5 : decode cX9_change 5 = .ok (.iload_n 3, 1) := by decide +kernel
theorem dX9_change_6 : decode cX9_change 6 = .ok (.iconst 0, 1) := by decide +kernel
theorem dX9_change_7 : decode cX9_change 7 = .ok (.bipush 9, 2) := by decide +kernel
theorem dX9_change_9 : decode cX9_change 9 = .ok (.invokestatic 99, 3) := by decide +kernel
theorem dX9_change_12 : decode cX9_change 12 = .ok (.ifCond .ne 5, 3) := by decide +kernel
theorem dX9_change_15 : decode cX9_change 15 = .ok (.iconst 0, 1) := by decide +kernel
theorem dX9_change_16 : decode cX9_change 16 = .ok (.ireturn, 1) := by decide +kernel
theorem dX9_change_17 : decode cX9_change 17 = .ok (.aload_n 0, 1) := by decide +kernel
theorem dX9_change_18 : decode cX9_change 18 = .ok (.iload_n 3, 1) := by decide +kernel
theorem dX9_change_19 : decode cX9_change 19 = .ok (.putfield 73, 3) := by decide +kernel
theorem dX9_change_22 : decode cX9_change 22 = .ok (.iconst 1, 1) := by decide +kernel
theorem dX9_change_23 : decode cX9_change 23 = .ok (.ireturn, 1) := by decide +kernel
theorem dX9_change_24 : decode cX9_change 24 = .ok (.aload_n 0, 1) := by decide +kernel
theorem dX9_change_25 : decode cX9_change 25 = .ok (.iload_n 2, 1) := by decide +kernel
theorem dX9_change_26 : decode cX9_change 26 = .ok (.invokevirtual 103, 3) := by decide +kernel
theorem dX9_change_29 : decode cX9_change 29 = .ok (.ifCond .ne 5, 3) := by decide +kernel
theorem dX9_change_32 : decode cX9_change 32 = .ok (.iconst 0, 1) := by decide +kernel
theorem dX9_change_33 : decode cX9_change 33 = .ok (.ireturn, 1) := by decide +kernel
theorem dX9_change_34 : decode cX9_change 34 = .ok (.iload_n 1, 1) := by decide +kernel
theorem dX9_change_35 : decode cX9_change 35 = .ok (.ifCond .ne 23, 3) := by decide +kernel
theorem dX9_change_38 : decode cX9_change 38 = .ok (.iload_n 3, 1) := by decide +kernel
theorem dX9_change_39 : decode cX9_change 39 = .ok (.iconst 0, 1) := by decide +kernel
theorem dX9_change_40 : decode cX9_change 40 = .ok (.bipush 120, 2) := by decide +kernel
theorem dX9_change_42 : decode cX9_change 42 = .ok (.invokestatic 99, 3) := by decide +kernel
theorem dX9_change_45 : decode cX9_change 45 = .ok (.ifCond .eq 13, 3) := by decide +kernel
theorem dX9_change_48 : decode cX9_change 48 = .ok (.aload_n 0, 1) := by decide +kernel
theorem dX9_change_49 : decode cX9_change 49 = .ok (.getfield 21, 3) := by decide +kernel
theorem dX9_change_52 : decode cX9_change 52 = .ok (.iload_n 2, 1) := by decide +kernel
theorem dX9_change_53 : decode cX9_change 53 = .ok (.iload_n 3, 1) := by decide +kernel
theorem dX9_change_54 : decode cX9_change 54 = .ok (.iastore, 1) := by decide +kernel
theorem dX9_change_55 : decode cX9_change 55 = .ok (.goto 81, 3) := by decide +kernel
theorem dX9_change_58 : decode cX9_change 58 = .ok (.iload_n 1, 1) := by decide +kernel
theorem dX9_change_59 : decode cX9_change 59 = .ok (.iconst 1, 1) := by decide +kernel
theorem dX9_change_60 : decode cX9_change 60 = .ok (.if_icmp .ne 23, 3) := by decide +kernel
theorem dX9_change_63 : decode cX9_change 63 = .ok (.iload_n 3, 1) := by decide +kernel
theorem dX9_change_64 : decode cX9_change 64 = .ok (.iconst 0, 1) := by decide +kernel
theorem dX9_change_65 : decode cX9_change 65 = .ok (.bipush 9, 2) := by decide +kernel
theorem dX9_change_67 : decode cX9_change 67 = .ok (.invokestatic 99, 3) := by decide +kernel
theorem dX9_change_70 : decode cX9_change 70 = .ok (.ifCond .eq 13, 3) := by decide +kernel
theorem dX9_change_73 : decode cX9_change 73 = .ok (.aload_n 0, 1) := by decide +kernel
theorem dX9_change_74 : decode cX9_change 74 = .ok (.getfield 24, 3) := by decide +kernel
theorem dX9_change_77 : decode cX9_change 77 = .ok (.iload_n 2, 1) := by decide +kernel
theorem dX9_change_78 : decode cX9_change 78 = .ok (.iload_n 3, 1) := by decide +kernel
theorem dX9_change_79 : decode cX9_change 79 = .ok (.iastore, 1) := by decide +kernel
theorem dX9_change_80 : decode cX9_change 80 = .ok (.goto 56, 3) := by decide +kernel
theorem dX9_change_83 : decode cX9_change 83 = .ok (.iload_n 1, 1) := by decide +kernel
theorem dX9_change_84 : decode cX9_change 84 = .ok (.iconst 2, 1) := by decide +kernel
theorem dX9_change_85 : decode cX9_change 85 = .ok (.if_icmp .ne 24, 3) := by decide +kernel
theorem dX9_change_88 : decode cX9_change 88 = .ok (.iload_n 3, 1) := by decide +kernel
theorem dX9_change_89 : decode cX9_change 89 = .ok (.bipush (-99), 2) := by decide +kernel
theorem dX9_change_91 : decode cX9_change 91 = .ok (.bipush 99, 2) := by decide +kernel
theorem dX9_change_93 : decode cX9_change 93 = .ok (.invokestatic 99, 3) := by decide +kernel
theorem dX9_change_96 : decode cX9_change 96 = .ok (.ifCond .eq 13, 3) := by decide +kernel
theorem dX9_change_99 : decode cX9_change 99 = .ok (.aload_n 0, 1) := by decide +kernel
theorem dX9_change_100 : decode cX9_change 100 = .ok (.getfield 27, 3) := by decide +kernel
theorem dX9_change_103 : decode cX9_change 103 = .ok (.iload_n 2, 1) := by decide +kernel
theorem dX9_change_104 : decode cX9_change 104 = .ok (.iload_n 3, 1) := by decide +kernel
theorem dX9_change_105 : decode cX9_change 105 = .ok (.iastore, 1) := by decide +kernel
theorem dX9_change_106 : decode cX9_change 106 = .ok (.goto 30, 3) := by decide +kernel
theorem dX9_change_109 : decode cX9_change 109 = .ok (.iload_n 1, 1) := by decide +kernel
theorem dX9_change_110 : decode cX9_change 110 = .ok (.iconst 3, 1) := by decide +kernel
theorem dX9_change_111 : decode cX9_change 111 = .ok (.if_icmp .ne 23, 3) := by decide +kernel
theorem dX9_change_114 : decode cX9_change 114 = .ok (.iload_n 3, 1) := by decide +kernel
theorem dX9_change_115 : decode cX9_change 115 = .ok (.iconst 0, 1) := by decide +kernel
theorem dX9_change_116 : decode cX9_change 116 = .ok (.bipush 99, 2) := by decide +kernel
theorem dX9_change_118 : decode cX9_change 118 = .ok (.invokestatic 99, 3) := by decide +kernel
theorem dX9_change_121 : decode cX9_change 121 = .ok (.ifCond .eq 13, 3) := by decide +kernel
theorem dX9_change_124 : decode cX9_change 124 = .ok (.aload_n 0, 1) := by decide +kernel
theorem dX9_change_125 : decode cX9_change 125 = .ok (.getfield 30, 3) := by decide +kernel
theorem dX9_change_128 : decode cX9_change 128 = .ok (.iload_n 2, 1) := by decide +kernel
theorem dX9_change_129 : decode cX9_change 129 = .ok (.iload_n 3, 1) := by decide +kernel
theorem dX9_change_130 : decode cX9_change 130 = .ok (.iastore, 1) := by decide +kernel
theorem dX9_change_131 : decode cX9_change 131 = .ok (.goto 5, 3) := by decide +kernel
theorem dX9_change_134 : decode cX9_change 134 = .ok (.iconst 0, 1) := by decide +kernel
theorem dX9_change_135 : decode cX9_change 135 = .ok (.ireturn, 1) := by decide +kernel
theorem dX9_change_136 : decode cX9_change 136 = .ok (.iconst 1, 1) := by decide +kernel
theorem dX9_change_137 : decode cX9_change 137 = .ok (.ireturn, 1) := by decide +kernel
theorem dX9_canDo_0 : decode cX9_canDo 0 = .ok (.iload_n 1, 1) := by decide +kernel
theorem dX9_canDo_1 : decode cX9_canDo 1 = .ok (.tableswitch 104 0 3 #[31, 40, 65, 80], 31) := by decide +kernel
theorem dX9_canDo_32 : decode cX9_canDo 32 = .ok (.iload_n 3, 1) := by decide +kernel
theorem dX9_canDo_33 : decode cX9_canDo 33 = .ok (.iconst 1, 1) := by decide +kernel
theorem dX9_canDo_34 : decode cX9_canDo 34 = .ok (.sipush 999, 3) := by decide +kernel
theorem dX9_canDo_37 : decode cX9_canDo 37 = .ok (.invokestatic 99, 3) := by decide +kernel
theorem dX9_canDo_40 : decode cX9_canDo 40 = .ok (.ireturn, 1) := by decide +kernel
theorem dX9_canDo_41 : decode cX9_canDo 41 = .ok (.iload_n 3, 1) := by decide +kernel
theorem dX9_canDo_42 : decode cX9_canDo 42 = .ok (.bipush (-99), 2) := by decide +kernel
theorem dX9_canDo_44 : decode cX9_canDo 44 = .ok (.bipush 99, 2) := by decide +kernel
theorem dX9_canDo_46 : decode cX9_canDo 46 = .ok (.invokestatic 99, 3) := by decide +kernel
theorem dX9_canDo_49 : decode cX9_canDo 49 = .ok (.ifCond .eq 15, 3) := by decide +kernel
theorem dX9_canDo_52 : decode cX9_canDo 52 = .ok (.aload_n 0, 1) := by decide +kernel
theorem dX9_canDo_53 : decode cX9_canDo 53 = .ok (.invokevirtual 106, 3) := by decide +kernel
theorem dX9_canDo_56 : decode cX9_canDo 56 = .ok (.iconst (-1), 1) := by decide +kernel
theorem dX9_canDo_57 : decode cX9_canDo 57 = .ok (.if_icmp .eq 7, 3) := by decide +kernel
theorem dX9_canDo_60 : decode cX9_canDo 60 = .ok (.iconst 1, 1) := by decide +kernel
theorem dX9_canDo_61 : decode cX9_canDo 61 = .ok (.goto 4, 3) := by decide +kernel
theorem dX9_canDo_64 : decode cX9_canDo 64 = .ok (.iconst 0, 1) := by decide +kernel
theorem dX9_canDo_65 : decode cX9_canDo 65 = .ok (.ireturn, 1) := by decide +kernel
theorem dX9_canDo_66 : decode cX9_canDo 66 = .ok (.aload_n 0, 1) := by decide +kernel
theorem dX9_canDo_67 : decode cX9_canDo 67 = .ok (.iload_n 2, 1) := by decide +kernel
theorem dX9_canDo_68 : decode cX9_canDo 68 = .ok (.invokevirtual 110, 3) := by decide +kernel
theorem dX9_canDo_71 : decode cX9_canDo 71 = .ok (.iconst (-1), 1) := by decide +kernel
theorem dX9_canDo_72 : decode cX9_canDo 72 = .ok (.if_icmp .eq 7, 3) := by decide +kernel
theorem dX9_canDo_75 : decode cX9_canDo 75 = .ok (.iconst 1, 1) := by decide +kernel
theorem dX9_canDo_76 : decode cX9_canDo 76 = .ok (.goto 4, 3) := by decide +kernel
theorem dX9_canDo_79 : decode cX9_canDo 79 = .ok (.iconst 0, 1) := by decide +kernel
theorem dX9_canDo_80 : decode cX9_canDo 80 = .ok (.ireturn, 1) := by decide +kernel
theorem dX9_canDo_81 : decode cX9_canDo 81 = .ok (.aload_n 0, 1) := by decide +kernel
theorem dX9_canDo_82 : decode cX9_canDo 82 = .ok (.iload_n 2, 1) := by decide +kernel
theorem dX9_canDo_83 : decode cX9_canDo 83 = .ok (.invokevirtual 88, 3) := by decide +kernel
theorem dX9_canDo_86 : decode cX9_canDo 86 = .ok (.ifCond .eq 17, 3) := by decide +kernel
theorem dX9_canDo_89 : decode cX9_canDo 89 = .ok (.iload_n 3, 1) := by decide +kernel
theorem dX9_canDo_90 : decode cX9_canDo 90 = .ok (.iconst 1, 1) := by decide +kernel
theorem dX9_canDo_91 : decode cX9_canDo 91 = .ok (.bipush 99, 2) := by decide +kernel
theorem dX9_canDo_93 : decode cX9_canDo 93 = .ok (.invokestatic 99, 3) := by decide +kernel
theorem dX9_canDo_96 : decode cX9_canDo 96 = .ok (.ifCond .eq 7, 3) := by decide +kernel
theorem dX9_canDo_99 : decode cX9_canDo 99 = .ok (.iconst 1, 1) := by decide +kernel
theorem dX9_canDo_100 : decode cX9_canDo 100 = .ok (.goto 4, 3) := by decide +kernel
theorem dX9_canDo_103 : decode cX9_canDo 103 = .ok (.iconst 0, 1) := by decide +kernel
theorem dX9_canDo_104 : decode cX9_canDo 104 = .ok (.ireturn, 1) := by decide +kernel
theorem dX9_canDo_105 : decode cX9_canDo 105 = .ok (.iconst 0, 1) := by decide +kernel
theorem dX9_canDo_106 : decode cX9_canDo 106 = .ok (.ireturn, 1) := by decide +kernel
theorem dX9_say_0 : decode cX9_say 0 = .ok (.aload_n 0, 1) := by decide +kernel
theorem dX9_say_1 : decode cX9_say 1 = .ok (.invokevirtual 106, 3) := by decide +kernel
theorem dX9_say_4 : decode cX9_say 4 = .ok (.istore_n 2, 1) := by decide +kernel
theorem dX9_say_5 : decode cX9_say 5 = .ok (.iload_n 2, 1) := by decide +kernel
theorem dX9_say_6 : decode cX9_say 6 = .ok (.iconst (-1), 1) := by decide +kernel
theorem dX9_say_7 : decode cX9_say 7 = .ok (.if_icmp .eq 10, 3) := by decide +kernel
theorem dX9_say_10 : decode cX9_say 10 = .ok (.aload_n 0, 1) := by decide +kernel
theorem dX9_say_11 : decode cX9_say 11 = .ok (.getfield 18, 3) := by decide +kernel
theorem dX9_say_14 : decode cX9_say 14 = .ok (.iload_n 2, 1) := by decide +kernel
theorem dX9_say_15 : decode cX9_say 15 = .ok (.iload_n 1, 1) := by decide +kernel
theorem dX9_say_16 : decode cX9_say 16 = .ok (.iastore, 1) := by decide +kernel
theorem dX9_say_17 : decode cX9_say 17 = .ok (.return_, 1) := by decide +kernel
theorem dX9_raise_0 : decode cX9_raise 0 = .ok (.aload_n 0, 1) := by decide +kernel
theorem dX9_raise_1 : decode cX9_raise 1 = .ok (.iload_n 1, 1) := by decide +kernel
theorem dX9_raise_2 : decode cX9_raise 2 = .ok (.invokevirtual 88, 3) := by decide +kernel
theorem dX9_raise_5 : decode cX9_raise 5 = .ok (.ifCond .eq 10, 3) := by decide +kernel
theorem dX9_raise_8 : decode cX9_raise 8 = .ok (.aload_n 0, 1) := by decide +kernel
theorem dX9_raise_9 : decode cX9_raise 9 = .ok (.getfield 9, 3) := by decide +kernel
theorem dX9_raise_12 : decode cX9_raise 12 = .ok (.iload_n 1, 1) := by decide +kernel
theorem dX9_raise_13 : decode cX9_raise 13 = .ok (.iload_n 2, 1) := by decide +kernel
theorem dX9_raise_14 : decode cX9_raise 14 = .ok (.iastore, 1) := by decide +kernel
theorem dX9_raise_15 : decode cX9_raise 15 = .ok (.return_, 1) := by decide +kernel
theorem dX9_goDown_0 : decode cX9_goDown 0 = .ok (.aload_n 0, 1) := by decide +kernel
theorem dX9_goDown_1 : decode cX9_goDown 1 = .ok (.iload_n 1, 1) := by decide +kernel
theorem dX9_goDown_2 : decode cX9_goDown 2 = .ok (.invokevirtual 110, 3) := by decide +kernel
theorem dX9_goDown_5 : decode cX9_goDown 5 = .ok (.istore_n 2, 1) := by decide +kernel
theorem dX9_goDown_6 : decode cX9_goDown 6 = .ok (.iload_n 2, 1) := by decide +kernel
theorem dX9_goDown_7 : decode cX9_goDown 7 = .ok (.iconst (-1), 1) := by decide +kernel
theorem dX9_goDown_8 : decode cX9_goDown 8 = .ok (.if_icmp .eq 26, 3) := by decide +kernel
theorem dX9_goDown_11 : decode cX9_goDown 11 = .ok (.aload_n 0, 1) := by decide +kernel
theorem dX9_goDown_12 : decode cX9_goDown 12 = .ok (.iconst 3, 1) := by decide +kernel
theorem dX9_goDown_13 : decode cX9_goDown 13 = .ok (.iload_n 1, 1) := by decide +kernel
theorem dX9_goDown_14 : decode cX9_goDown 14 = .ok (.iload_n 2, 1) := by decide +kernel
theorem dX9_goDown_15 : decode cX9_goDown 15 = .ok (.invokevirtual 114, 3) := by decide +kernel
theorem dX9_goDown_18 : decode cX9_goDown 18 = .ok (.aload_n 0, 1) := by decide +kernel
theorem dX9_goDown_19 : decode cX9_goDown 19 = .ok (.getfield 15, 3) := by decide +kernel
theorem dX9_goDown_22 : decode cX9_goDown 22 = .ok (.iload_n 2, 1) := by decide +kernel
theorem dX9_goDown_23 : decode cX9_goDown 23 = .ok (.iconst (-1), 1) := by decide +kernel
theorem dX9_goDown_24 : decode cX9_goDown 24 = .ok (.iastore, 1) := by decide +kernel
theorem dX9_goDown_25 : decode cX9_goDown 25 = .ok (.aload_n 0, 1) := by decide +kernel
theorem dX9_goDown_26 : decode cX9_goDown 26 = .ok (.iload_n 1, 1) := by decide +kernel
theorem dX9_goDown_27 : decode cX9_goDown 27 = .ok (.invokevirtual 95, 3) := by decide +kernel
theorem dX9_goDown_30 : decode cX9_goDown 30 = .ok (.aload_n 0, 1) := by decide +kernel
theorem dX9_goDown_31 : decode cX9_goDown 31 = .ok (.invokevirtual 92, 3) := by decide +kernel
theorem dX9_goDown_34 : decode cX9_goDown 34 = .ok (.return_, 1) := by decide +kernel
theorem dX9_curse_0 : decode cX9_curse 0 = .ok (.aload_n 0, 1) := by decide +kernel
theorem dX9_curse_1 : decode cX9_curse 1 = .ok (.iload_n 1, 1) := by decide +kernel
theorem dX9_curse_2 : decode cX9_curse 2 = .ok (.invokevirtual 103, 3) := by decide +kernel
theorem dX9_curse_5 : decode cX9_curse 5 = .ok (.ifCond .eq 19, 3) := by decide +kernel
theorem dX9_curse_8 : decode cX9_curse 8 = .ok (.aload_n 0, 1) := by decide +kernel
theorem dX9_curse_9 : decode cX9_curse 9 = .ok (.iload_n 1, 1) := by decide +kernel
theorem dX9_curse_10 : decode cX9_curse 10 = .ok (.invokevirtual 118, 3) := by decide +kernel
theorem dX9_curse_13 : decode cX9_curse 13 = .ok (.ifCond .ne 11, 3) := by decide +kernel
theorem dX9_curse_16 : decode cX9_curse 16 = .ok (.aload_n 0, 1) := by decide +kernel
theorem dX9_curse_17 : decode cX9_curse 17 = .ok (.getfield 30, 3) := by decide +kernel
theorem dX9_curse_20 : decode cX9_curse 20 = .ok (.iload_n 1, 1) := by decide +kernel
theorem dX9_curse_21 : decode cX9_curse 21 = .ok (.bipush 99, 2) := by decide +kernel
theorem dX9_curse_23 : decode cX9_curse 23 = .ok (.iastore, 1) := by decide +kernel
theorem dX9_curse_24 : decode cX9_curse 24 = .ok (.return_, 1) := by decide +kernel
theorem dX9_joinGround_0 : decode cX9_joinGround 0 = .ok (.aload_n 0, 1) := by decide +kernel
theorem dX9_joinGround_1 : decode cX9_joinGround 1 = .ok (.getfield 57, 3) := by decide +kernel
theorem dX9_joinGround_4 : decode cX9_joinGround 4 = .ok (.bipush 14, 2) := by decide +kernel
theorem dX9_joinGround_6 : decode cX9_joinGround 6 = .ok (.if_icmp .ge 23, 3) := by decide +kernel
theorem dX9_joinGround_9 : decode cX9_joinGround 9 = .ok (.aload_n 0, 1) := by decide +kernel
theorem dX9_joinGround_10 : decode cX9_joinGround 10 = .ok (.getfield 33, 3) := by decide +kernel
theorem dX9_joinGround_13 : decode cX9_joinGround 13 = .ok (.aload_n 0, 1) := by decide +kernel
theorem dX9_joinGround_14 : decode cX9_joinGround 14 = .ok (.getfield 57, 3) := by decide +kernel
theorem dX9_joinGround_17 : decode cX9_joinGround 17 = .ok (.iload_n 1, 1) := by decide +kernel
theorem dX9_joinGround_18 : decode cX9_joinGround 18 = .ok (.iastore, 1) := by decide +kernel
theorem dX9_joinGround_19 : decode cX9_joinGround 19 = .ok (.aload_n 0, 1) := by decide +kernel
theorem dX9_joinGround_20 : decode cX9_joinGround 20 = .ok (.dup, 1) := by decide +kernel
theorem dX9_joinGround_21 : decode cX9_joinGround 21 = .ok (.getfield 57, 3) := by decide +kernel
theorem dX9_joinGround_24 : decode cX9_joinGround 24 = .ok (.iconst 1, 1) := by decide +kernel
theorem dX9_joinGround_25 : decode cX9_joinGround 25 = .ok (.iadd, 1) := by decide +kernel
theorem dX9_joinGround_26 : decode cX9_joinGround 26 = .ok (.putfield 57, 3) := by decide +kernel
theorem dX9_joinGround_29 : decode cX9_joinGround 29 = .ok (.return_, 1) := by decide +kernel
theorem dX9_leaveGround_0 : decode cX9_leaveGround 0 = .ok (.iload_n 1, 1) := by decide +kernel
theorem dX9_leaveGround_1 : decode cX9_leaveGround 1 = .ok (.ifCond .lt 11, 3) := by decide +kernel
theorem dX9_leaveGround_4 : decode cX9_leaveGround 4 = .ok (.iload_n 1, 1) := by decide +kernel
theorem dX9_leaveGround_5 : decode cX9_leaveGround 5 = .ok (.aload_n 0, 1) := by decide +kernel
theorem dX9_leaveGround_6 : decode cX9_leaveGround 6 = .ok (.getfield 57, 3) := by decide +kernel
theorem dX9_leaveGround_9 : decode cX9_leaveGround 9 = .ok (.if_icmp .lt 4, 3) := by decide +kernel
theorem dX9_leaveGround_12 : decode cX9_leaveGround 12 = .ok (.return_, 1) := by decide +kernel
theorem dX9_leaveGround_13 : decode cX9_leaveGround 13 = .ok (.aload_n 0, 1) := by decide +kernel
theorem dX9_leaveGround_14 : decode cX9_leaveGround 14 = .ok (.dup, 1) := by decide +kernel
theorem dX9_leaveGround_15 : decode cX9_leaveGround 15 = .ok (.getfield 57, 3) := by decide +kernel
theorem dX9_leaveGround_18 : decode cX9_leaveGround 18 = .ok (.iconst 1, 1) := by decide +kernel
theorem dX9_leaveGround_19 : decode cX9_leaveGround 19 = .ok (.isub, 1) := by decide +kernel
theorem dX9_leaveGround_20 : decode cX9_leaveGround 20 = .ok (.putfield 57, 3) := by decide +kernel
theorem dX9_leaveGround_23 : decode cX9_leaveGround 23 = .ok (.iload_n 1, 1) := by decide +kernel
theorem dX9_leaveGround_24 : decode cX9_leaveGround 24 = .ok (.istore_n 2, 1) := by decide +kernel
theorem dX9_leaveGround_25 : decode cX9_leaveGround 25 = .ok (.iload_n 2, 1) := by decide +kernel
theorem dX9_leaveGround_26 : decode cX9_leaveGround 26 = .ok (.aload_n 0, 1) := by decide +kernel
theorem dX9_leaveGround_27 : decode cX9_leaveGround 27 = .ok (.getfield 57, 3) := by decide +kernel
theorem dX9_leaveGround_30 : decode cX9_leaveGround 30 = .ok (.if_icmp .ge 23, 3) := by decide +kernel
theorem dX9_leaveGround_33 : decode cX9_leaveGround 33 = .ok (.aload_n 0, 1) := by decide +kernel
theorem dX9_leaveGround_34 : decode cX9_leaveGround 34 = .ok (.getfield 33, 3) := by decide +kernel
theorem dX9_leaveGround_37 : decode cX9_leaveGround 37 = .ok (.iload_n 2, 1) := by decide +kernel
theorem dX9_leaveGround_38 : decode cX9_leaveGround 38 = .ok (.aload_n 0, 1) := by decide +kernel
theorem dX9_leaveGround_39 : decode cX9_leaveGround 39 = .ok (.getfield 33, 3) := by decide +kernel
theorem dX9_leaveGround_42 : decode cX9_leaveGround 42 = .ok (.iload_n 2, 1) := by decide +kernel
theorem dX9_leaveGround_43 : decode cX9_leaveGround 43 = .ok (.iconst 1, 1) := by decide +kernel
theorem dX9_leaveGround_44 : decode cX9_leaveGround 44 = .ok (.iadd, 1) := by decide +kernel
theorem dX9_leaveGround_45 : decode cX9_leaveGround 45 = .ok (.iaload, 1) := by decide +kernel
theorem dX9_leaveGround_46 : decode cX9_leaveGround 46 = .ok (.iastore, 1) := by decide +kernel
theorem dX9_leaveGround_47 : decode cX9_leaveGround 47 = .ok (.iinc 2 1, 3) := by decide +kernel
theorem dX9_leaveGround_50 : decode cX9_leaveGround 50 = .ok (.goto (-25), 3) := by decide +kernel
theorem dX9_leaveGround_53 : decode cX9_leaveGround 53 = .ok (.return_, 1) := by decide +kernel
theorem dX9_climb_0 : decode cX9_climb 0 = .ok (.aload_n 0, 1) := by decide +kernel
theorem dX9_climb_1 : decode cX9_climb 1 = .ok (.getfield 61, 3) := by decide +kernel
theorem dX9_climb_4 : decode cX9_climb 4 = .ok (.iconst 1, 1) := by decide +kernel
theorem dX9_climb_5 : decode cX9_climb 5 = .ok (.isub, 1) := by decide +kernel
theorem dX9_climb_6 : decode cX9_climb 6 = .ok (.istore_n 1, 1) := by decide +kernel
theorem dX9_climb_7 : decode cX9_climb 7 = .ok (.iload_n 1, 1) := by decide +kernel
theorem dX9_climb_8 : decode cX9_climb 8 = .ok (.ifCond .lt 45, 3) := by decide +kernel
theorem dX9_climb_11 : decode cX9_climb 11 = .ok (.aload_n 0, 1) := by decide +kernel
theorem dX9_climb_12 : decode cX9_climb 12 = .ok (.getfield 15, 3) := by decide +kernel
theorem dX9_climb_15 : decode cX9_climb 15 = .ok (.iload_n 1, 1) := by decide +kernel
theorem dX9_climb_16 : decode cX9_climb 16 = .ok (.iaload, 1) := by decide +kernel
theorem dX9_climb_17 : decode cX9_climb 17 = .ok (.iconst (-1), 1) := by decide +kernel
theorem dX9_climb_18 : decode cX9_climb 18 = .ok (.if_icmp .ne 29, 3) := by decide +kernel
theorem dX9_climb_21 : decode cX9_climb 21 = .ok (.aload_n 0, 1) := by decide +kernel
theorem dX9_climb_22 : decode cX9_climb 22 = .ok (.iload_n 1, 1) := by decide +kernel
theorem dX9_climb_23 : decode cX9_climb 23 = .ok (.invokevirtual 121, 3) := by decide +kernel
theorem dX9_climb_26 : decode cX9_climb 26 = .ok (.istore_n 2, 1) := by decide +kernel
theorem dX9_climb_27 : decode cX9_climb 27 = .ok (.iload_n 2, 1) := by decide +kernel
theorem dX9_climb_28 : decode cX9_climb 28 = .ok (.iconst (-1), 1) := by decide +kernel
theorem dX9_climb_29 : decode cX9_climb 29 = .ok (.if_icmp .ne 4, 3) := by decide +kernel
theorem dX9_climb_32 : decode cX9_climb 32 = .ok (.return_, 1) := by decide +kernel
theorem dX9_climb_33 : decode cX9_climb 33 = .ok (.aload_n 0, 1) := by decide +kernel
theorem dX9_climb_34 : decode cX9_climb 34 = .ok (.getfield 15, 3) := by decide +kernel
theorem dX9_climb_37 : decode cX9_climb 37 = .ok (.iload_n 1, 1) := by decide +kernel
theorem dX9_climb_38 : decode cX9_climb 38 = .ok (.iload_n 2, 1) := by decide +kernel
theorem dX9_climb_39 : decode cX9_climb 39 = .ok (.iastore, 1) := by decide +kernel
theorem dX9_climb_40 : decode cX9_climb 40 = .ok (.aload_n 0, 1) := by decide +kernel
theorem dX9_climb_41 : decode cX9_climb 41 = .ok (.iconst 2, 1) := by decide +kernel
theorem dX9_climb_42 : decode cX9_climb 42 = .ok (.iload_n 2, 1) := by decide +kernel
theorem dX9_climb_43 : decode cX9_climb 43 = .ok (.iload_n 1, 1) := by decide +kernel
theorem dX9_climb_44 : decode cX9_climb 44 = .ok (.invokevirtual 114, 3) := by decide +kernel
theorem dX9_climb_47 : decode cX9_climb 47 = .ok (.iinc 1 (-1), 3) := by decide +kernel
theorem dX9_climb_50 : decode cX9_climb 50 = .ok (.goto (-43), 3) := by decide +kernel
theorem dX9_climb_53 : decode cX9_climb 53 = .ok (.return_, 1) := by decide +kernel
theorem dX9_nextBelow_0 : decode cX9_nextBelow 0 = .ok (.iload_n 1, 1) := by decide +kernel
theorem dX9_nextBelow_1 : decode cX9_nextBelow 1 = .ok (.iconst 1, 1) := by decide +kernel
theorem dX9_nextBelow_2 : decode cX9_nextBelow 2 = .ok (.isub, 1) := by decide +kernel
theorem dX9_nextBelow_3 : decode cX9_nextBelow 3 = .ok (.istore_n 2, 1) := by decide +kernel
theorem dX9_nextBelow_4 : decode cX9_nextBelow 4 = .ok (.iload_n 2, 1) := by decide +kernel
theorem dX9_nextBelow_5 : decode cX9_nextBelow 5 = .ok (.ifCond .lt 30, 3) := by decide +kernel
theorem dX9_nextBelow_8 : decode cX9_nextBelow 8 = .ok (.aload_n 0, 1) := by decide +kernel
theorem dX9_nextBelow_9 : decode cX9_nextBelow 9 = .ok (.getfield 15, 3) := by decide +kernel
theorem dX9_nextBelow_12 : decode cX9_nextBelow 12 = .ok (.iload_n 2, 1) := by decide +kernel
theorem dX9_nextBelow_13 : decode cX9_nextBelow 13 = .ok (.iaload, 1) := by decide +kernel
theorem dX9_nextBelow_14 : decode cX9_nextBelow 14 = .ok (.istore_n 3, 1) := by decide +kernel
theorem dX9_nextBelow_15 : decode cX9_nextBelow 15 = .ok (.iload_n 3, 1) := by decide +kernel
theorem dX9_nextBelow_16 : decode cX9_nextBelow 16 = .ok (.iconst (-1), 1) := by decide +kernel
theorem dX9_nextBelow_17 : decode cX9_nextBelow 17 = .ok (.if_icmp .eq 12, 3) := by decide +kernel
theorem dX9_nextBelow_20 : decode cX9_nextBelow 20 = .ok (.aload_n 0, 1) := by decide +kernel
theorem dX9_nextBelow_21 : decode cX9_nextBelow 21 = .ok (.getfield 15, 3) := by decide +kernel
theorem dX9_nextBelow_24 : decode cX9_nextBelow 24 = .ok (.iload_n 2, 1) := by decide +kernel
theorem dX9_nextBelow_25 : decode cX9_nextBelow 25 = .ok (.iconst (-1), 1) := by decide +kernel
theorem dX9_nextBelow_26 : decode cX9_nextBelow 26 = .ok (.iastore, 1) := by decide +kernel
theorem dX9_nextBelow_27 : decode cX9_nextBelow 27 = .ok (.iload_n 3, 1) := by decide +kernel
theorem dX9_nextBelow_28 : decode cX9_nextBelow 28 = .ok (.ireturn, 1) := by decide +kernel
theorem dX9_nextBelow_29 : decode cX9_nextBelow 29 = .ok (.iinc 2 (-1), 3) := by decide +kernel
theorem dX9_nextBelow_32 : decode cX9_nextBelow 32 = .ok (.goto (-28), 3) := by decide +kernel
theorem dX9_nextBelow_35 : decode cX9_nextBelow 35 = .ok (.aload_n 0, 1) := by decide +kernel
theorem dX9_nextBelow_36 : decode cX9_nextBelow 36 = .ok (.getfield 57, 3) := by decide +kernel
theorem dX9_nextBelow_39 : decode cX9_nextBelow 39 = .ok (.ifCond .ne 5, 3) := by decide +kernel
theorem dX9_nextBelow_42 : decode cX9_nextBelow 42 = .ok (.iconst (-1), 1) := by decide +kernel
theorem dX9_nextBelow_43 : decode cX9_nextBelow 43 = .ok (.ireturn, 1) := by decide +kernel
theorem dX9_nextBelow_44 : decode cX9_nextBelow 44 = .ok (.aload_n 0, 1) := by decide +kernel
theorem dX9_nextBelow_45 : decode cX9_nextBelow 45 = .ok (.getfield 33, 3) := by decide +kernel
theorem dX9_nextBelow_48 : decode cX9_nextBelow 48 = .ok (.iconst 0, 1) := by decide +kernel
theorem dX9_nextBelow_49 : decode cX9_nextBelow 49 = .ok (.iaload, 1) := by decide +kernel
theorem dX9_nextBelow_50 : decode cX9_nextBelow 50 = .ok (.istore_n 2, 1) := by decide +kernel
theorem dX9_nextBelow_51 : decode cX9_nextBelow 51 = .ok (.aload_n 0, 1) := by decide +kernel
theorem dX9_nextBelow_52 : decode cX9_nextBelow 52 = .ok (.iconst 0, 1) := by decide +kernel
theorem dX9_nextBelow_53 : decode cX9_nextBelow 53 = .ok (.invokevirtual 124, 3) := by decide +kernel
theorem dX9_nextBelow_56 : decode cX9_nextBelow 56 = .ok (.iload_n 2, 1) := by decide +kernel
theorem dX9_nextBelow_57 : decode cX9_nextBelow 57 = .ok (.ireturn, 1) := by decide +kernel
theorem dX9_bury_0 : decode cX9_bury 0 = .ok (.aload_n 0, 1) := by decide +kernel
theorem dX9_bury_1 : decode cX9_bury 1 = .ok (.iload_n 1, 1) := by decide +kernel
theorem dX9_bury_2 : decode cX9_bury 2 = .ok (.invokevirtual 103, 3) := by decide +kernel
theorem dX9_bury_5 : decode cX9_bury 5 = .ok (.ifCond .ne 4, 3) := by decide +kernel
theorem dX9_bury_8 : decode cX9_bury 8 = .ok (.return_, 1) := by decide +kernel
theorem dX9_bury_9 : decode cX9_bury 9 = .ok (.aload_n 0, 1) := by decide +kernel
theorem dX9_bury_10 : decode cX9_bury 10 = .ok (.iload_n 1, 1) := by decide +kernel
theorem dX9_bury_11 : decode cX9_bury 11 = .ok (.invokevirtual 110, 3) := by decide +kernel
theorem dX9_bury_14 : decode cX9_bury 14 = .ok (.istore_n 2, 1) := by decide +kernel
theorem dX9_bury_15 : decode cX9_bury 15 = .ok (.iload_n 2, 1) := by decide +kernel
theorem dX9_bury_16 : decode cX9_bury 16 = .ok (.iconst (-1), 1) := by decide +kernel
theorem dX9_bury_17 : decode cX9_bury 17 = .ok (.if_icmp .eq 10, 3) := by decide +kernel
theorem dX9_bury_20 : decode cX9_bury 20 = .ok (.aload_n 0, 1) := by decide +kernel
theorem dX9_bury_21 : decode cX9_bury 21 = .ok (.getfield 15, 3) := by decide +kernel
theorem dX9_bury_24 : decode cX9_bury 24 = .ok (.iload_n 2, 1) := by decide +kernel
theorem dX9_bury_25 : decode cX9_bury 25 = .ok (.iconst (-1), 1) := by decide +kernel
theorem dX9_bury_26 : decode cX9_bury 26 = .ok (.iastore, 1) := by decide +kernel
theorem dX9_bury_27 : decode cX9_bury 27 = .ok (.aload_n 0, 1) := by decide +kernel
theorem dX9_bury_28 : decode cX9_bury 28 = .ok (.aload_n 0, 1) := by decide +kernel
theorem dX9_bury_29 : decode cX9_bury 29 = .ok (.iload_n 1, 1) := by decide +kernel
theorem dX9_bury_30 : decode cX9_bury 30 = .ok (.invokevirtual 127, 3) := by decide +kernel
theorem dX9_bury_33 : decode cX9_bury 33 = .ok (.invokevirtual 124, 3) := by decide +kernel
theorem dX9_bury_36 : decode cX9_bury 36 = .ok (.aload_n 0, 1) := by decide +kernel
theorem dX9_bury_37 : decode cX9_bury 37 = .ok (.dup, 1) := by decide +kernel
theorem dX9_bury_38 : decode cX9_bury 38 = .ok (.getfield 67, 3) := by decide +kernel
theorem dX9_bury_41 : decode cX9_bury 41 = .ok (.iconst 1, 1) := by decide +kernel
theorem dX9_bury_42 : decode cX9_bury 42 = .ok (.iload_n 1, 1) := by decide +kernel
theorem dX9_bury_43 : decode cX9_bury 43 = .ok (.ishl, 1) := by decide +kernel
theorem dX9_bury_44 : decode cX9_bury 44 = .ok (.ior, 1) := by decide +kernel
theorem dX9_bury_45 : decode cX9_bury 45 = .ok (.putfield 67, 3) := by decide +kernel
theorem dX9_bury_48 : decode cX9_bury 48 = .ok (.return_, 1) := by decide +kernel
theorem dX9_eat_0 : decode cX9_eat 0 = .ok (.aload_n 0, 1) := by decide +kernel
theorem dX9_eat_1 : decode cX9_eat 1 = .ok (.iload_n 1, 1) := by decide +kernel
theorem dX9_eat_2 : decode cX9_eat 2 = .ok (.invokevirtual 103, 3) := by decide +kernel
theorem dX9_eat_5 : decode cX9_eat 5 = .ok (.ifCond .ne 4, 3) := by decide +kernel
theorem dX9_eat_8 : decode cX9_eat 8 = .ok (.return_, 1) := by decide +kernel
theorem dX9_eat_9 : decode cX9_eat 9 = .ok (.iload_n 2, 1) := by decide +kernel
theorem dX9_eat_10 : decode cX9_eat 10 = .ok (.aload_n 0, 1) := by decide +kernel
theorem dX9_eat_11 : decode cX9_eat 11 = .ok (.getfield 70, 3) := by decide +kernel
theorem dX9_eat_14 : decode cX9_eat 14 = .ok (.invokestatic 45, 3) := by decide +kernel
theorem dX9_eat_17 : decode cX9_eat 17 = .ok (.istore_n 3, 1) := by decide +kernel
theorem dX9_eat_18 : decode cX9_eat 18 = .ok (.aload_n 0, 1) := by decide +kernel
theorem dX9_eat_19 : decode cX9_eat 19 = .ok (.dup, 1) := by decide +kernel
theorem dX9_eat_20 : decode cX9_eat 20 = .ok (.getfield 70, 3) := by decide +kernel
theorem dX9_eat_23 : decode cX9_eat 23 = .ok (.iload_n 3, 1) := by decide +kernel
theorem dX9_eat_24 : decode cX9_eat 24 = .ok (.isub, 1) := by decide +kernel
theorem dX9_eat_25 : decode cX9_eat 25 = .ok (.putfield 70, 3) := by decide +kernel
theorem dX9_eat_28 : decode cX9_eat 28 = .ok (.iload_n 3, 1) := by decide +kernel
theorem dX9_eat_29 : decode cX9_eat 29 = .ok (.iload_n 2, 1) := by decide +kernel
theorem dX9_eat_30 : decode cX9_eat 30 = .ok (.if_icmp .ne 25, 3) := by decide +kernel
theorem dX9_eat_33 : decode cX9_eat 33 = .ok (.aload_n 0, 1) := by decide +kernel
theorem dX9_eat_34 : decode cX9_eat 34 = .ok (.getfield 30, 3) := by decide +kernel
theorem dX9_eat_37 : decode cX9_eat 37 = .ok (.iload_n 1, 1) := by decide +kernel
theorem dX9_eat_38 : decode cX9_eat 38 = .ok (.iconst 0, 1) := by decide +kernel
theorem dX9_eat_39 : decode cX9_eat 39 = .ok (.aload_n 0, 1) := by decide +kernel
theorem dX9_eat_40 : decode cX9_eat 40 = .ok (.getfield 30, 3) := by decide +kernel
theorem dX9_eat_43 : decode cX9_eat 43 = .ok (.iload_n 1, 1) := by decide +kernel
theorem dX9_eat_44 : decode cX9_eat 44 = .ok (.iaload, 1) := by decide +kernel
theorem dX9_eat_45 : decode cX9_eat 45 = .ok (.bipush 10, 2) := by decide +kernel
theorem dX9_eat_47 : decode cX9_eat 47 = .ok (.isub, 1) := by decide +kernel
theorem dX9_eat_48 : decode cX9_eat 48 = .ok (.invokestatic 130, 3) := by decide +kernel
theorem dX9_eat_51 : decode cX9_eat 51 = .ok (.iastore, 1) := by decide +kernel
theorem dX9_eat_52 : decode cX9_eat 52 = .ok (.goto 26, 3) := by decide +kernel
theorem dX9_eat_55 : decode cX9_eat 55 = .ok (.aload_n 0, 1) := by decide +kernel
theorem dX9_eat_56 : decode cX9_eat 56 = .ok (.getfield 30, 3) := by decide +kernel
theorem dX9_eat_59 : decode cX9_eat 59 = .ok (.iload_n 1, 1) := by decide +kernel
theorem dX9_eat_60 : decode cX9_eat 60 = .ok (.bipush 99, 2) := by decide +kernel
theorem dX9_eat_62 : decode cX9_eat 62 = .ok (.aload_n 0, 1) := by decide +kernel
theorem dX9_eat_63 : decode cX9_eat 63 = .ok (.getfield 30, 3) := by decide +kernel
theorem dX9_eat_66 : decode cX9_eat 66 = .ok (.iload_n 1, 1) := by decide +kernel
theorem dX9_eat_67 : decode cX9_eat 67 = .ok (.iaload, 1) := by decide +kernel
theorem dX9_eat_68 : decode cX9_eat 68 = .ok (.iload_n 2, 1) := by decide +kernel
theorem dX9_eat_69 : decode cX9_eat 69 = .ok (.iload_n 3, 1) := by decide +kernel
theorem dX9_eat_70 : decode cX9_eat 70 = .ok (.isub, 1) := by decide +kernel
theorem dX9_eat_71 : decode cX9_eat 71 = .ok (.iconst 5, 1) := by decide +kernel
theorem dX9_eat_72 : decode cX9_eat 72 = .ok (.imul, 1) := by decide +kernel
theorem dX9_eat_73 : decode cX9_eat 73 = .ok (.iadd, 1) := by decide +kernel
theorem dX9_eat_74 : decode cX9_eat 74 = .ok (.invokestatic 45, 3) := by decide +kernel
theorem dX9_eat_77 : decode cX9_eat 77 = .ok (.iastore, 1) := by decide +kernel
theorem dX9_eat_78 : decode cX9_eat 78 = .ok (.iload_n 3, 1) := by decide +kernel
theorem dX9_eat_79 : decode cX9_eat 79 = .ok (.ifCond .le 10, 3) := by decide +kernel
theorem dX9_eat_82 : decode cX9_eat 82 = .ok (.aload_n 0, 1) := by decide +kernel
theorem dX9_eat_83 : decode cX9_eat 83 = .ok (.iconst 0, 1) := by decide +kernel
theorem dX9_eat_84 : decode cX9_eat 84 = .ok (.iload_n 1, 1) := by decide +kernel
theorem dX9_eat_85 : decode cX9_eat 85 = .ok (.iload_n 3, 1) := by decide +kernel
theorem dX9_eat_86 : decode cX9_eat 86 = .ok (.invokevirtual 114, 3) := by decide +kernel
theorem dX9_eat_89 : decode cX9_eat 89 = .ok (.return_, 1) := by decide +kernel
theorem dX9_hungerOnGround_0 : decode cX9_hungerOnGround 0 = .ok (.iconst 0, 1) := by decide +kernel
theorem dX9_hungerOnGround_1 : decode cX9_hungerOnGround 1 = .ok (.istore_n 1, 1) := by decide +kernel
theorem dX9_hungerOnGround_2 : decode cX9_hungerOnGround 2 = .ok (.iload_n 1, 1) := by decide +kernel
theorem dX9_hungerOnGround_3 : decode cX9_hungerOnGround 3 = .ok (.aload_n 0, 1) := by decide +kernel
theorem dX9_hungerOnGround_4 : decode cX9_hungerOnGround 4 = .ok (.getfield 57, 3) := by decide +kernel
theorem dX9_hungerOnGround_7 : decode cX9_hungerOnGround 7 = .ok (.if_icmp .ge 43, 3) := by decide +kernel
theorem dX9_hungerOnGround_10 : decode cX9_hungerOnGround 10 = .ok (.aload_n 0, 1) := by decide +kernel
theorem dX9_hungerOnGround_11 : decode cX9_hungerOnGround 11 = .ok (.getfield 33, 3) := by decide +kernel
theorem dX9_hungerOnGround_14 : decode cX9_hungerOnGround 14 = .ok (.iload_n 1, 1) := by decide +kernel
theorem dX9_hungerOnGround_15 : decode cX9_hungerOnGround 15 = .ok (.iaload, 1) := by decide +kernel
theorem dX9_hungerOnGround_16 : decode cX9_hungerOnGround 16 = .ok (.istore_n 2, 1) := by decide +kernel
theorem dX9_hungerOnGround_17 : decode cX9_hungerOnGround 17 = .ok (.aload_n 0, 1) := by decide +kernel
theorem dX9_hungerOnGround_18 : decode cX9_hungerOnGround 18 = .ok (.iload_n 2, 1) := by decide +kernel
theorem dX9_hungerOnGround_19 : decode cX9_hungerOnGround 19 = .ok (.invokevirtual 103, 3) := by decide +kernel
theorem dX9_hungerOnGround_22 : decode cX9_hungerOnGround 22 = .ok (.ifCond .eq 22, 3) := by decide +kernel
theorem dX9_hungerOnGround_25 : decode cX9_hungerOnGround 25 = .ok (.aload_n 0, 1) := by decide +kernel
theorem dX9_hungerOnGround_26 : decode cX9_hungerOnGround 26 = .ok (.getfield 30, 3) := by decide +kernel
theorem dX9_hungerOnGround_29 : decode cX9_hungerOnGround 29 = .ok (.iload_n 2, 1) := by decide +kernel
theorem dX9_hungerOnGround_30 : decode cX9_hungerOnGround 30 = .ok (.bipush 99, 2) := by decide +kernel
theorem dX9_hungerOnGround_32 : decode cX9_hungerOnGround 32 = .ok (.aload_n 0, 1) := by decide +kernel
theorem dX9_hungerOnGround_33 : decode cX9_hungerOnGround 33 = .ok (.getfield 30, 3) := by decide +kernel
theorem dX9_hungerOnGround_36 : decode cX9_hungerOnGround 36 = .ok (.iload_n 2, 1) := by decide +kernel
theorem dX9_hungerOnGround_37 : decode cX9_hungerOnGround 37 = .ok (.iaload, 1) := by decide +kernel
theorem dX9_hungerOnGround_38 : decode cX9_hungerOnGround 38 = .ok (.iconst 1, 1) := by decide +kernel
theorem dX9_hungerOnGround_39 : decode cX9_hungerOnGround 39 = .ok (.iadd, 1) := by decide +kernel
theorem dX9_hungerOnGround_40 : decode cX9_hungerOnGround 40 = .ok (.invokestatic 45, 3) := by decide +kernel
theorem dX9_hungerOnGround_43 : decode cX9_hungerOnGround 43 = .ok (.iastore, 1) := by decide +kernel
theorem dX9_hungerOnGround_44 : decode cX9_hungerOnGround 44 = .ok (.iinc 1 1, 3) := by decide +kernel
theorem dX9_hungerOnGround_47 : decode cX9_hungerOnGround 47 = .ok (.goto (-45), 3) := by decide +kernel
theorem dX9_hungerOnGround_50 : decode cX9_hungerOnGround 50 = .ok (.return_, 1) := by decide +kernel
theorem dX9_draw_0 : decode cX9_draw 0 = .ok (.aload_n 0, 1) := by decide +kernel
theorem dX9_draw_1 : decode cX9_draw 1 = .ok (.ldc 133, 2) := by decide +kernel
theorem dX9_draw_3 : decode cX9_draw 3 = .ok (.aload_n 0, 1) := by decide +kernel
theorem dX9_draw_4 : decode cX9_draw 4 = .ok (.getfield 82, 3) := by decide +kernel
theorem dX9_draw_7 : decode cX9_draw 7 = .ok (.imul, 1) := by decide +kernel
theorem dX9_draw_8 : decode cX9_draw 8 = .ok (.ldc 134, 2) := by decide +kernel
theorem dX9_draw_10 : decode cX9_draw 10 = .ok (.iadd, 1) := by decide +kernel
theorem dX9_draw_11 : decode cX9_draw 11 = .ok (.putfield 82, 3) := by decide +kernel
theorem dX9_draw_14 : decode cX9_draw 14 = .ok (.iload_n 1, 1) := by decide +kernel
theorem dX9_draw_15 : decode cX9_draw 15 = .ok (.ifCond .gt 7, 3) := by decide +kernel
theorem dX9_draw_18 : decode cX9_draw 18 = .ok (.iconst 0, 1) := by decide +kernel
theorem dX9_draw_19 : decode cX9_draw 19 = .ok (.goto 12, 3) := by decide +kernel
theorem dX9_draw_22 : decode cX9_draw 22 = .ok (.aload_n 0, 1) := by decide +kernel
theorem dX9_draw_23 : decode cX9_draw 23 = .ok (.getfield 82, 3) := by decide +kernel
theorem dX9_draw_26 : decode cX9_draw 26 = .ok (.bipush 8, 2) := by decide +kernel
theorem dX9_draw_28 : decode cX9_draw 28 = .ok (.iushr, 1) := by decide +kernel
theorem dX9_draw_29 : decode cX9_draw 29 = .ok (.iload_n 1, 1) := by decide +kernel
theorem dX9_draw_30 : decode cX9_draw 30 = .ok (.irem, 1) := by decide +kernel
theorem dX9_draw_31 : decode cX9_draw 31 = .ok (.ireturn, 1) := by decide +kernel
theorem dX9_note_0 : decode cX9_note 0 = .ok (.aload_n 0, 1) := by decide +kernel
theorem dX9_note_1 : decode cX9_note 1 = .ok (.getfield 85, 3) := by decide +kernel
theorem dX9_note_4 : decode cX9_note 4 = .ok (.iconst 4, 1) := by decide +kernel
theorem dX9_note_5 : decode cX9_note 5 = .ok (.imul, 1) := by decide +kernel
theorem dX9_note_6 : decode cX9_note 6 = .ok (.istore 4, 2) := by decide +kernel
theorem dX9_note_8 : decode cX9_note 8 = .ok (.aload_n 0, 1) := by decide +kernel
theorem dX9_note_9 : decode cX9_note 9 = .ok (.getfield 85, 3) := by decide +kernel
theorem dX9_note_12 : decode cX9_note 12 = .ok (.ifCond .lt 15, 3) := by decide +kernel
theorem dX9_note_15 : decode cX9_note 15 = .ok (.iload 4, 2) := by decide +kernel
theorem dX9_note_17 : decode cX9_note 17 = .ok (.iconst 3, 1) := by decide +kernel
theorem dX9_note_18 : decode cX9_note 18 = .ok (.iadd, 1) := by decide +kernel
theorem dX9_note_19 : decode cX9_note 19 = .ok (.aload_n 0, 1) := by decide +kernel
theorem dX9_note_20 : decode cX9_note 20 = .ok (.getfield 36, 3) := by decide +kernel
theorem dX9_note_23 : decode cX9_note 23 = .ok (.arraylength, 1) := by decide +kernel
theorem dX9_note_24 : decode cX9_note 24 = .ok (.if_icmp .lt 4, 3) := by decide +kernel
theorem dX9_note_27 : decode cX9_note 27 = .ok (.return_, 1) := by decide +kernel
theorem dX9_note_28 : decode cX9_note 28 = .ok (.aload_n 0, 1) := by decide +kernel
theorem dX9_note_29 : decode cX9_note 29 = .ok (.getfield 36, 3) := by decide +kernel
theorem dX9_note_32 : decode cX9_note 32 = .ok (.iload 4, 2) := by decide +kernel
theorem dX9_note_34 : decode cX9_note 34 = .ok (.aload_n 0, 1) := by decide +kernel
theorem dX9_note_35 : decode cX9_note 35 = .ok (.getfield 76, 3) := by decide +kernel
theorem dX9_note_38 : decode cX9_note 38 = .ok (.iastore, 1) := by decide +kernel
theorem dX9_note_39 : decode cX9_note 39 = .ok (.aload_n 0, 1) := by decide +kernel
theorem dX9_note_40 : decode cX9_note 40 = .ok (.getfield 36, 3) := by decide +kernel
theorem dX9_note_43 : decode cX9_note 43 = .ok (.iload 4, 2) := by decide +kernel
theorem dX9_note_45 : decode cX9_note 45 = .ok (.iconst 1, 1) := by decide +kernel
theorem dX9_note_46 : decode cX9_note 46 = .ok (.iadd, 1) := by decide +kernel
theorem dX9_note_47 : decode cX9_note 47 = .ok (.iload_n 1, 1) := by decide +kernel
theorem dX9_note_48 : decode cX9_note 48 = .ok (.iastore, 1) := by decide +kernel
theorem dX9_note_49 : decode cX9_note 49 = .ok (.aload_n 0, 1) := by decide +kernel
theorem dX9_note_50 : decode cX9_note 50 = .ok (.getfield 36, 3) := by decide +kernel
theorem dX9_note_53 : decode cX9_note 53 = .ok (.iload 4, 2) := by decide +kernel
theorem dX9_note_55 : decode cX9_note 55 = .ok (.iconst 2, 1) := by decide +kernel
theorem dX9_note_56 : decode cX9_note 56 = .ok (.iadd, 1) := by decide +kernel
theorem dX9_note_57 : decode cX9_note 57 = .ok (.iload_n 2, 1) := by decide +kernel
theorem dX9_note_58 : decode cX9_note 58 = .ok (.iastore, 1) := by decide +kernel
theorem dX9_note_59 : decode cX9_note 59 = .ok (.aload_n 0, 1) := by decide +kernel
theorem dX9_note_60 : decode cX9_note 60 = .ok (.getfield 36, 3) := by decide +kernel
theorem dX9_note_63 : decode cX9_note 63 = .ok (.iload 4, 2) := by decide +kernel
theorem dX9_note_65 : decode cX9_note 65 = .ok (.iconst 3, 1) := by decide +kernel
theorem dX9_note_66 : decode cX9_note 66 = .ok (.iadd, 1) := by decide +kernel
theorem dX9_note_67 : decode cX9_note 67 = .ok (.iload_n 3, 1) := by decide +kernel
theorem dX9_note_68 : decode cX9_note 68 = .ok (.iastore, 1) := by decide +kernel
theorem dX9_note_69 : decode cX9_note 69 = .ok (.aload_n 0, 1) := by decide +kernel
theorem dX9_note_70 : decode cX9_note 70 = .ok (.dup, 1) := by decide +kernel
theorem dX9_note_71 : decode cX9_note 71 = .ok (.getfield 85, 3) := by decide +kernel
theorem dX9_note_74 : decode cX9_note 74 = .ok (.iconst 1, 1) := by decide +kernel
theorem dX9_note_75 : decode cX9_note 75 = .ok (.iadd, 1) := by decide +kernel
theorem dX9_note_76 : decode cX9_note 76 = .ok (.putfield 85, 3) := by decide +kernel
theorem dX9_note_79 : decode cX9_note 79 = .ok (.return_, 1) := by decide +kernel
theorem dX9_cell_0 : decode cX9_cell 0 = .ok (.iload_n 1, 1) := by decide +kernel
theorem dX9_cell_1 : decode cX9_cell 1 = .ok (.iconst 4, 1) := by decide +kernel
theorem dX9_cell_2 : decode cX9_cell 2 = .ok (.imul, 1) := by decide +kernel
theorem dX9_cell_3 : decode cX9_cell 3 = .ok (.iload_n 2, 1) := by decide +kernel
theorem dX9_cell_4 : decode cX9_cell 4 = .ok (.iadd, 1) := by decide +kernel
theorem dX9_cell_5 : decode cX9_cell 5 = .ok (.istore_n 3, 1) := by decide +kernel
theorem dX9_cell_6 : decode cX9_cell 6 = .ok (.iload_n 3, 1) := by decide +kernel
theorem dX9_cell_7 : decode cX9_cell 7 = .ok (.ifCond .lt 21, 3) := by decide +kernel
theorem dX9_cell_10 : decode cX9_cell 10 = .ok (.iload_n 3, 1) := by decide +kernel
theorem dX9_cell_11 : decode cX9_cell 11 = .ok (.aload_n 0, 1) := by decide +kernel
theorem dX9_cell_12 : decode cX9_cell 12 = .ok (.getfield 36, 3) := by decide +kernel
theorem dX9_cell_15 : decode cX9_cell 15 = .ok (.arraylength, 1) := by decide +kernel
theorem dX9_cell_16 : decode cX9_cell 16 = .ok (.if_icmp .ge 12, 3) := by decide +kernel
theorem dX9_cell_19 : decode cX9_cell 19 = .ok (.aload_n 0, 1) := by decide +kernel
theorem dX9_cell_20 : decode cX9_cell 20 = .ok (.getfield 36, 3) := by decide +kernel
theorem dX9_cell_23 : decode cX9_cell 23 = .ok (.iload_n 3, 1) := by decide +kernel
theorem dX9_cell_24 : decode cX9_cell 24 = .ok (.iaload, 1) := by decide +kernel
theorem dX9_cell_25 : decode cX9_cell 25 = .ok (.goto 5, 3) := by decide +kernel
theorem dX9_cell_28 : decode cX9_cell 28 = .ok (.bipush (-100), 2) := by decide +kernel
theorem dX9_cell_30 : decode cX9_cell 30 = .ok (.ireturn, 1) := by decide +kernel
theorem dX9_doctrineAbove_0 : decode cX9_doctrineAbove 0 = .ok (.iconst 0, 1) := by decide +kernel
theorem dX9_doctrineAbove_1 : decode cX9_doctrineAbove 1 = .ok (.istore_n 2, 1) := by decide +kernel
theorem dX9_doctrineAbove_2 : decode cX9_doctrineAbove 2 = .ok (.iconst 0, 1) := by decide +kernel
theorem dX9_doctrineAbove_3 : decode cX9_doctrineAbove 3 = .ok (.istore_n 3, 1) := by decide +kernel
theorem dX9_doctrineAbove_4 : decode cX9_doctrineAbove 4 = .ok (.iload_n 3, 1) := by decide +kernel
theorem dX9_doctrineAbove_5 : decode cX9_doctrineAbove 5 = .ok (.aload_n 0, 1) := by decide +kernel
theorem dX9_doctrineAbove_6 : decode cX9_doctrineAbove 6 = .ok (.getfield 61, 3) := by decide +kernel
theorem dX9_doctrineAbove_9 : decode cX9_doctrineAbove 9 = .ok (.if_icmp .ge 51, 3) := by decide +kernel
theorem dX9_doctrineAbove_12 : decode cX9_doctrineAbove 12 = .ok (.aload_n 0, 1) := by decide +kernel
theorem dX9_doctrineAbove_13 : decode cX9_doctrineAbove 13 = .ok (.getfield 15, 3) := by decide +kernel
theorem dX9_doctrineAbove_16 : decode cX9_doctrineAbove 16 = .ok (.iload_n 3, 1) := by decide +kernel
theorem dX9_doctrineAbove_17 : decode cX9_doctrineAbove 17 = .ok (.iaload, 1) := by decide +kernel
theorem dX9_doctrineAbove_18 : decode cX9_doctrineAbove 18 = .ok (.istore 4, 2) := by decide +kernel
theorem dX9_doctrineAbove_20 : decode cX9_doctrineAbove 20 = .ok (.iload_n 2, 1) := by decide +kernel
theorem dX9_doctrineAbove_21 : decode cX9_doctrineAbove 21 = .ok (.ifCond .eq 25, 3) := by decide +kernel
theorem dX9_doctrineAbove_24 : decode cX9_doctrineAbove 24 = .ok (.iload 4, 2) := by decide +kernel
theorem dX9_doctrineAbove_26 : decode cX9_doctrineAbove 26 = .ok (.ifCond .lt 20, 3) := by decide +kernel
theorem dX9_doctrineAbove_29 : decode cX9_doctrineAbove 29 = .ok (.iload 4, 2) := by decide +kernel
theorem dX9_doctrineAbove_31 : decode cX9_doctrineAbove 31 = .ok (.aload_n 0, 1) := by decide +kernel
theorem dX9_doctrineAbove_32 : decode cX9_doctrineAbove 32 = .ok (.getfield 64, 3) := by decide +kernel
theorem dX9_doctrineAbove_35 : decode cX9_doctrineAbove 35 = .ok (.if_icmp .ge 11, 3) := by decide +kernel
theorem dX9_doctrineAbove_38 : decode cX9_doctrineAbove 38 = .ok (.aload_n 0, 1) := by decide +kernel
theorem dX9_doctrineAbove_39 : decode cX9_doctrineAbove 39 = .ok (.getfield 27, 3) := by decide +kernel
theorem dX9_doctrineAbove_42 : decode cX9_doctrineAbove 42 = .ok (.iload 4, 2) := by decide +kernel
theorem dX9_doctrineAbove_44 : decode cX9_doctrineAbove 44 = .ok (.iaload, 1) := by decide +kernel
theorem dX9_doctrineAbove_45 : decode cX9_doctrineAbove 45 = .ok (.ireturn, 1) := by decide +kernel
theorem dX9_doctrineAbove_46 : decode cX9_doctrineAbove 46 = .ok (.iload 4, 2) := by decide +kernel
theorem dX9_doctrineAbove_48 : decode cX9_doctrineAbove 48 = .ok (.iload_n 1, 1) := by decide +kernel
theorem dX9_doctrineAbove_49 : decode cX9_doctrineAbove 49 = .ok (.if_icmp .ne 5, 3) := by decide +kernel
theorem dX9_doctrineAbove_52 : decode cX9_doctrineAbove 52 = .ok (.iconst 1, 1) := by decide +kernel
theorem dX9_doctrineAbove_53 : decode cX9_doctrineAbove 53 = .ok (.istore_n 2, 1) := by decide +kernel
theorem dX9_doctrineAbove_54 : decode cX9_doctrineAbove 54 = .ok (.iinc 3 1, 3) := by decide +kernel
theorem dX9_doctrineAbove_57 : decode cX9_doctrineAbove 57 = .ok (.goto (-53), 3) := by decide +kernel
theorem dX9_doctrineAbove_60 : decode cX9_doctrineAbove 60 = .ok (.iload_n 1, 1) := by decide +kernel
theorem dX9_doctrineAbove_61 : decode cX9_doctrineAbove 61 = .ok (.ifCond .lt 20, 3) := by decide +kernel
theorem dX9_doctrineAbove_64 : decode cX9_doctrineAbove 64 = .ok (.iload_n 1, 1) := by decide +kernel
theorem dX9_doctrineAbove_65 : decode cX9_doctrineAbove 65 = .ok (.aload_n 0, 1) := by decide +kernel
theorem dX9_doctrineAbove_66 : decode cX9_doctrineAbove 66 = .ok (.getfield 64, 3) := by decide +kernel
theorem dX9_doctrineAbove_69 : decode cX9_doctrineAbove 69 = .ok (.if_icmp .ge 12, 3) := by decide +kernel
theorem dX9_doctrineAbove_72 : decode cX9_doctrineAbove 72 = .ok (.aload_n 0, 1) := by decide +kernel
theorem dX9_doctrineAbove_73 : decode cX9_doctrineAbove 73 = .ok (.getfield 27, 3) := by decide +kernel
theorem dX9_doctrineAbove_76 : decode cX9_doctrineAbove 76 = .ok (.iload_n 1, 1) := by decide +kernel
theorem dX9_doctrineAbove_77 : decode cX9_doctrineAbove 77 = .ok (.iaload, 1) := by decide +kernel
theorem dX9_doctrineAbove_78 : decode cX9_doctrineAbove 78 = .ok (.goto 4, 3) := by decide +kernel
theorem dX9_doctrineAbove_81 : decode cX9_doctrineAbove 81 = .ok (.iconst 0, 1) := by decide +kernel
theorem dX9_doctrineAbove_82 : decode cX9_doctrineAbove 82 = .ok (.ireturn, 1) := by decide +kernel
theorem dX9_ofSaint_0 : decode cX9_ofSaint 0 = .ok (.aload_n 0, 1) := by decide +kernel
theorem dX9_ofSaint_1 : decode cX9_ofSaint 1 = .ok (.iload_n 1, 1) := by decide +kernel
theorem dX9_ofSaint_2 : decode cX9_ofSaint 2 = .ok (.invokevirtual 103, 3) := by decide +kernel
theorem dX9_ofSaint_5 : decode cX9_ofSaint 5 = .ok (.ifCond .ne 6, 3) := by decide +kernel
theorem dX9_ofSaint_8 : decode cX9_ofSaint 8 = .ok (.bipush (-100), 2) := by decide +kernel
theorem dX9_ofSaint_10 : decode cX9_ofSaint 10 = .ok (.ireturn, 1) := by decide +kernel
theorem dX9_ofSaint_11 : decode cX9_ofSaint 11 = .ok (.iload_n 2, 1) := by decide +kernel
theorem dX9_ofSaint_12 : decode cX9_ofSaint 12 = .ok (.tableswitch 98 0 6 #[44, 51, 58, 65, 72, 86, 92], 44) := by decide +kernel
theorem dX9_ofSaint_56 : decode cX9_ofSaint 56 = .ok (.aload_n 0, 1) := by decide +kernel
theorem dX9_ofSaint_57 : decode cX9_ofSaint 57 = .ok (.getfield 21, 3) := by decide +kernel
theorem dX9_ofSaint_60 : decode cX9_ofSaint 60 = .ok (.iload_n 1, 1) := by decide +kernel
theorem dX9_ofSaint_61 : decode cX9_ofSaint 61 = .ok (.iaload, 1) := by decide +kernel
theorem dX9_ofSaint_62 : decode cX9_ofSaint 62 = .ok (.ireturn, 1) := by decide +kernel
theorem dX9_ofSaint_63 : decode cX9_ofSaint 63 = .ok (.aload_n 0, 1) := by decide +kernel
theorem dX9_ofSaint_64 : decode cX9_ofSaint 64 = .ok (.getfield 24, 3) := by decide +kernel
theorem dX9_ofSaint_67 : decode cX9_ofSaint 67 = .ok (.iload_n 1, 1) := by decide +kernel
theorem dX9_ofSaint_68 : decode cX9_ofSaint 68 = .ok (.iaload, 1) := by decide +kernel
theorem dX9_ofSaint_69 : decode cX9_ofSaint 69 = .ok (.ireturn, 1) := by decide +kernel
theorem dX9_ofSaint_70 : decode cX9_ofSaint 70 = .ok (.aload_n 0, 1) := by decide +kernel
theorem dX9_ofSaint_71 : decode cX9_ofSaint 71 = .ok (.getfield 27, 3) := by decide +kernel
theorem dX9_ofSaint_74 : decode cX9_ofSaint 74 = .ok (.iload_n 1, 1) := by decide +kernel
theorem dX9_ofSaint_75 : decode cX9_ofSaint 75 = .ok (.iaload, 1) := by decide +kernel
theorem dX9_ofSaint_76 : decode cX9_ofSaint 76 = .ok (.ireturn, 1) := by decide +kernel
theorem dX9_ofSaint_77 : decode cX9_ofSaint 77 = .ok (.aload_n 0, 1) := by decide +kernel
theorem dX9_ofSaint_78 : decode cX9_ofSaint 78 = .ok (.getfield 30, 3) := by decide +kernel
theorem dX9_ofSaint_81 : decode cX9_ofSaint 81 = .ok (.iload_n 1, 1) := by decide +kernel
theorem dX9_ofSaint_82 : decode cX9_ofSaint 82 = .ok (.iaload, 1) := by decide +kernel
theorem dX9_ofSaint_83 : decode cX9_ofSaint 83 = .ok (.ireturn, 1) := by decide +kernel
theorem dX9_ofSaint_84 : decode cX9_ofSaint 84 = .ok (.aload_n 0, 1) := by decide +kernel
theorem dX9_ofSaint_85 : decode cX9_ofSaint 85 = .ok (.iload_n 1, 1) := by decide +kernel
theorem dX9_ofSaint_86 : decode cX9_ofSaint 86 = .ok (.invokevirtual 118, 3) := by decide +kernel
theorem dX9_ofSaint_89 : decode cX9_ofSaint 89 = .ok (.ifCond .eq 7, 3) := by decide +kernel
theorem dX9_ofSaint_92 : decode cX9_ofSaint 92 = .ok (.iconst 1, 1) := by decide +kernel
theorem dX9_ofSaint_93 : decode cX9_ofSaint 93 = .ok (.goto 4, 3) := by decide +kernel
theorem dX9_ofSaint_96 : decode cX9_ofSaint 96 = .ok (.iconst 0, 1) := by decide +kernel
theorem dX9_ofSaint_97 : decode cX9_ofSaint 97 = .ok (.ireturn, 1) := by decide +kernel
theorem dX9_ofSaint_98 : decode cX9_ofSaint 98 = .ok (.aload_n 0, 1) := by decide +kernel
theorem dX9_ofSaint_99 : decode cX9_ofSaint 99 = .ok (.iload_n 1, 1) := by decide +kernel
theorem dX9_ofSaint_100 : decode cX9_ofSaint 100 = .ok (.invokevirtual 110, 3) := by decide +kernel
theorem dX9_ofSaint_103 : decode cX9_ofSaint 103 = .ok (.ireturn, 1) := by decide +kernel
theorem dX9_ofSaint_104 : decode cX9_ofSaint 104 = .ok (.aload_n 0, 1) := by decide +kernel
theorem dX9_ofSaint_105 : decode cX9_ofSaint 105 = .ok (.iload_n 1, 1) := by decide +kernel
theorem dX9_ofSaint_106 : decode cX9_ofSaint 106 = .ok (.invokevirtual 127, 3) := by decide +kernel
theorem dX9_ofSaint_109 : decode cX9_ofSaint 109 = .ok (.ireturn, 1) := by decide +kernel
theorem dX9_ofSaint_110 : decode cX9_ofSaint 110 = .ok (.bipush (-100), 2) := by decide +kernel
theorem dX9_ofSaint_112 : decode cX9_ofSaint 112 = .ok (.ireturn, 1) := by decide +kernel
theorem dX9_shown_0 : decode cX9_shown 0 = .ok (.iload_n 1, 1) := by decide +kernel
theorem dX9_shown_1 : decode cX9_shown 1 = .ok (.tableswitch 105 0 9 #[55, 60, 65, 70, 75, 80, 85, 90, 95, 100], 55) := by decide +kernel
theorem dX9_shown_56 : decode cX9_shown 56 = .ok (.aload_n 0, 1) := by decide +kernel
theorem dX9_shown_57 : decode cX9_shown 57 = .ok (.getfield 61, 3) := by decide +kernel
theorem dX9_shown_60 : decode cX9_shown 60 = .ok (.ireturn, 1) := by decide +kernel
theorem dX9_shown_61 : decode cX9_shown 61 = .ok (.aload_n 0, 1) := by decide +kernel
theorem dX9_shown_62 : decode cX9_shown 62 = .ok (.getfield 64, 3) := by decide +kernel
theorem dX9_shown_65 : decode cX9_shown 65 = .ok (.ireturn, 1) := by decide +kernel
theorem dX9_shown_66 : decode cX9_shown 66 = .ok (.aload_n 0, 1) := by decide +kernel
theorem dX9_shown_67 : decode cX9_shown 67 = .ok (.getfield 76, 3) := by decide +kernel
theorem dX9_shown_70 : decode cX9_shown 70 = .ok (.ireturn, 1) := by decide +kernel
theorem dX9_shown_71 : decode cX9_shown 71 = .ok (.aload_n 0, 1) := by decide +kernel
theorem dX9_shown_72 : decode cX9_shown 72 = .ok (.getfield 70, 3) := by decide +kernel
theorem dX9_shown_75 : decode cX9_shown 75 = .ok (.ireturn, 1) := by decide +kernel
theorem dX9_shown_76 : decode cX9_shown 76 = .ok (.aload_n 0, 1) := by decide +kernel
theorem dX9_shown_77 : decode cX9_shown 77 = .ok (.getfield 79, 3) := by decide +kernel
theorem dX9_shown_80 : decode cX9_shown 80 = .ok (.ireturn, 1) := by decide +kernel
theorem dX9_shown_81 : decode cX9_shown 81 = .ok (.aload_n 0, 1) := by decide +kernel
theorem dX9_shown_82 : decode cX9_shown 82 = .ok (.getfield 73, 3) := by decide +kernel
theorem dX9_shown_85 : decode cX9_shown 85 = .ok (.ireturn, 1) := by decide +kernel
theorem dX9_shown_86 : decode cX9_shown 86 = .ok (.aload_n 0, 1) := by decide +kernel
theorem dX9_shown_87 : decode cX9_shown 87 = .ok (.getfield 67, 3) := by decide +kernel
theorem dX9_shown_90 : decode cX9_shown 90 = .ok (.ireturn, 1) := by decide +kernel
theorem dX9_shown_91 : decode cX9_shown 91 = .ok (.aload_n 0, 1) := by decide +kernel
theorem dX9_shown_92 : decode cX9_shown 92 = .ok (.getfield 57, 3) := by decide +kernel
theorem dX9_shown_95 : decode cX9_shown 95 = .ok (.ireturn, 1) := by decide +kernel
theorem dX9_shown_96 : decode cX9_shown 96 = .ok (.aload_n 0, 1) := by decide +kernel
theorem dX9_shown_97 : decode cX9_shown 97 = .ok (.getfield 85, 3) := by decide +kernel
theorem dX9_shown_100 : decode cX9_shown 100 = .ok (.ireturn, 1) := by decide +kernel
theorem dX9_shown_101 : decode cX9_shown 101 = .ok (.aload_n 0, 1) := by decide +kernel
theorem dX9_shown_102 : decode cX9_shown 102 = .ok (.getfield 82, 3) := by decide +kernel
theorem dX9_shown_105 : decode cX9_shown 105 = .ok (.ireturn, 1) := by decide +kernel
theorem dX9_shown_106 : decode cX9_shown 106 = .ok (.iconst (-1), 1) := by decide +kernel
theorem dX9_shown_107 : decode cX9_shown 107 = .ok (.ireturn, 1) := by decide +kernel
theorem dX9_hungerOfLiving_0 : decode cX9_hungerOfLiving 0 = .ok (.iconst 0, 1) := by decide +kernel
theorem dX9_hungerOfLiving_1 : decode cX9_hungerOfLiving 1 = .ok (.istore_n 1, 1) := by decide +kernel
theorem dX9_hungerOfLiving_2 : decode cX9_hungerOfLiving 2 = .ok (.iconst 0, 1) := by decide +kernel
theorem dX9_hungerOfLiving_3 : decode cX9_hungerOfLiving 3 = .ok (.istore_n 2, 1) := by decide +kernel
theorem dX9_hungerOfLiving_4 : decode cX9_hungerOfLiving 4 = .ok (.iload_n 2, 1) := by decide +kernel
theorem dX9_hungerOfLiving_5 : decode cX9_hungerOfLiving 5 = .ok (.aload_n 0, 1) := by decide +kernel
theorem dX9_hungerOfLiving_6 : decode cX9_hungerOfLiving 6 = .ok (.getfield 64, 3) := by decide +kernel
theorem dX9_hungerOfLiving_9 : decode cX9_hungerOfLiving 9 = .ok (.if_icmp .ge 26, 3) := by decide +kernel
theorem dX9_hungerOfLiving_12 : decode cX9_hungerOfLiving 12 = .ok (.aload_n 0, 1) := by decide +kernel
theorem dX9_hungerOfLiving_13 : decode cX9_hungerOfLiving 13 = .ok (.iload_n 2, 1) := by decide +kernel
theorem dX9_hungerOfLiving_14 : decode cX9_hungerOfLiving 14 = .ok (.invokevirtual 118, 3) := by decide +kernel
theorem dX9_hungerOfLiving_17 : decode cX9_hungerOfLiving 17 = .ok (.ifCond .ne 12, 3) := by decide +kernel
theorem dX9_hungerOfLiving_20 : decode cX9_hungerOfLiving 20 = .ok (.iload_n 1, 1) := by decide +kernel
theorem dX9_hungerOfLiving_21 : decode cX9_hungerOfLiving 21 = .ok (.aload_n 0, 1) := by decide +kernel
theorem dX9_hungerOfLiving_22 : decode cX9_hungerOfLiving 22 = .ok (.getfield 30, 3) := by decide +kernel
theorem dX9_hungerOfLiving_25 : decode cX9_hungerOfLiving 25 = .ok (.iload_n 2, 1) := by decide +kernel
theorem dX9_hungerOfLiving_26 : decode cX9_hungerOfLiving 26 = .ok (.iaload, 1) := by decide +kernel
theorem dX9_hungerOfLiving_27 : decode cX9_hungerOfLiving 27 = .ok (.iadd, 1) := by decide +kernel
theorem dX9_hungerOfLiving_28 : decode cX9_hungerOfLiving 28 = .ok (.istore_n 1, 1) := by decide +kernel
theorem dX9_hungerOfLiving_29 : decode cX9_hungerOfLiving 29 = .ok (.iinc 2 1, 3) := by decide +kernel
theorem dX9_hungerOfLiving_32 : decode cX9_hungerOfLiving 32 = .ok (.goto (-28), 3) := by decide +kernel
theorem dX9_hungerOfLiving_35 : decode cX9_hungerOfLiving 35 = .ok (.iload_n 1, 1) := by decide +kernel
theorem dX9_hungerOfLiving_36 : decode cX9_hungerOfLiving 36 = .ok (.ireturn, 1) := by decide +kernel
theorem dX9_lastAdvice_0 : decode cX9_lastAdvice 0 = .ok (.aload_n 0, 1) := by decide +kernel
theorem dX9_lastAdvice_1 : decode cX9_lastAdvice 1 = .ok (.getfield 61, 3) := by decide +kernel
theorem dX9_lastAdvice_4 : decode cX9_lastAdvice 4 = .ok (.ifCond .eq 14, 3) := by decide +kernel
theorem dX9_lastAdvice_7 : decode cX9_lastAdvice 7 = .ok (.aload_n 0, 1) := by decide +kernel
theorem dX9_lastAdvice_8 : decode cX9_lastAdvice 8 = .ok (.getfield 18, 3) := by decide +kernel
theorem dX9_lastAdvice_11 : decode cX9_lastAdvice 11 = .ok (.iconst 0, 1) := by decide +kernel
theorem dX9_lastAdvice_12 : decode cX9_lastAdvice 12 = .ok (.iaload, 1) := by decide +kernel
theorem dX9_lastAdvice_13 : decode cX9_lastAdvice 13 = .ok (.bipush (-100), 2) := by decide +kernel
theorem dX9_lastAdvice_15 : decode cX9_lastAdvice 15 = .ok (.if_icmp .ne 7, 3) := by decide +kernel
theorem dX9_lastAdvice_18 : decode cX9_lastAdvice 18 = .ok (.iconst 0, 1) := by decide +kernel
theorem dX9_lastAdvice_19 : decode cX9_lastAdvice 19 = .ok (.goto 9, 3) := by decide +kernel
theorem dX9_lastAdvice_22 : decode cX9_lastAdvice 22 = .ok (.aload_n 0, 1) := by decide +kernel
theorem dX9_lastAdvice_23 : decode cX9_lastAdvice 23 = .ok (.getfield 18, 3) := by decide +kernel
theorem dX9_lastAdvice_26 : decode cX9_lastAdvice 26 = .ok (.iconst 0, 1) := by decide +kernel
theorem dX9_lastAdvice_27 : decode cX9_lastAdvice 27 = .ok (.iaload, 1) := by decide +kernel
theorem dX9_lastAdvice_28 : decode cX9_lastAdvice 28 = .ok (.ireturn, 1) := by decide +kernel
theorem dX9_sitting_0 : decode cX9_sitting 0 = .ok (.iconst 0, 1) := by decide +kernel
theorem dX9_sitting_1 : decode cX9_sitting 1 = .ok (.istore_n 1, 1) := by decide +kernel
theorem dX9_sitting_2 : decode cX9_sitting 2 = .ok (.iconst 0, 1) := by decide +kernel
theorem dX9_sitting_3 : decode cX9_sitting 3 = .ok (.istore_n 2, 1) := by decide +kernel
theorem dX9_sitting_4 : decode cX9_sitting 4 = .ok (.iload_n 2, 1) := by decide +kernel
theorem dX9_sitting_5 : decode cX9_sitting 5 = .ok (.aload_n 0, 1) := by decide +kernel
theorem dX9_sitting_6 : decode cX9_sitting 6 = .ok (.getfield 61, 3) := by decide +kernel
theorem dX9_sitting_9 : decode cX9_sitting 9 = .ok (.if_icmp .ge 22, 3) := by decide +kernel
theorem dX9_sitting_12 : decode cX9_sitting 12 = .ok (.aload_n 0, 1) := by decide +kernel
theorem dX9_sitting_13 : decode cX9_sitting 13 = .ok (.getfield 15, 3) := by decide +kernel
theorem dX9_sitting_16 : decode cX9_sitting 16 = .ok (.iload_n 2, 1) := by decide +kernel
theorem dX9_sitting_17 : decode cX9_sitting 17 = .ok (.iaload, 1) := by decide +kernel
theorem dX9_sitting_18 : decode cX9_sitting 18 = .ok (.iconst (-1), 1) := by decide +kernel
theorem dX9_sitting_19 : decode cX9_sitting 19 = .ok (.if_icmp .eq 6, 3) := by decide +kernel
theorem dX9_sitting_22 : decode cX9_sitting 22 = .ok (.iinc 1 1, 3) := by decide +kernel
theorem dX9_sitting_25 : decode cX9_sitting 25 = .ok (.iinc 2 1, 3) := by decide +kernel
theorem dX9_sitting_28 : decode cX9_sitting 28 = .ok (.goto (-24), 3) := by decide +kernel
theorem dX9_sitting_31 : decode cX9_sitting 31 = .ok (.iload_n 1, 1) := by decide +kernel
theorem dX9_sitting_32 : decode cX9_sitting 32 = .ok (.ireturn, 1) := by decide +kernel
theorem dX9_spread_0 : decode cX9_spread 0 = .ok (.bipush 99, 2) := by decide +kernel
theorem dX9_spread_2 : decode cX9_spread 2 = .ok (.istore_n 3, 1) := by decide +kernel
theorem dX9_spread_3 : decode cX9_spread 3 = .ok (.bipush (-99), 2) := by decide +kernel
theorem dX9_spread_5 : decode cX9_spread 5 = .ok (.istore 4, 2) := by decide +kernel
theorem dX9_spread_7 : decode cX9_spread 7 = .ok (.iconst 0, 1) := by decide +kernel
theorem dX9_spread_8 : decode cX9_spread 8 = .ok (.istore 5, 2) := by decide +kernel
theorem dX9_spread_10 : decode cX9_spread 10 = .ok (.iconst 0, 1) := by decide +kernel
theorem dX9_spread_11 : decode cX9_spread 11 = .ok (.istore 6, 2) := by decide +kernel
theorem dX9_spread_13 : decode cX9_spread 13 = .ok (.iload 6, 2) := by decide +kernel
theorem dX9_spread_15 : decode cX9_spread 15 = .ok (.aload_n 0, 1) := by decide +kernel
theorem dX9_spread_16 : decode cX9_spread 16 = .ok (.getfield 61, 3) := by decide +kernel
theorem dX9_spread_19 : decode cX9_spread 19 = .ok (.if_icmp .ge 71, 3) := by decide +kernel
theorem dX9_spread_22 : decode cX9_spread 22 = .ok (.aload_n 0, 1) := by decide +kernel
theorem dX9_spread_23 : decode cX9_spread 23 = .ok (.getfield 15, 3) := by decide +kernel
theorem dX9_spread_26 : decode cX9_spread 26 = .ok (.iload 6, 2) := by decide +kernel
theorem dX9_spread_28 : decode cX9_spread 28 = .ok (.iaload, 1) := by decide +kernel
theorem dX9_spread_29 : decode cX9_spread 29 = .ok (.istore 7, 2) := by decide +kernel
theorem dX9_spread_31 : decode cX9_spread 31 = .ok (.aload_n 0, 1) := by decide +kernel
theorem dX9_spread_32 : decode cX9_spread 32 = .ok (.iload 7, 2) := by decide +kernel
theorem dX9_spread_34 : decode cX9_spread 34 = .ok (.invokevirtual 103, 3) := by decide +kernel
theorem dX9_spread_37 : decode cX9_spread 37 = .ok (.ifCond .ne 6, 3) := by decide +kernel
theorem dX9_spread_40 : decode cX9_spread 40 = .ok (.goto 44, 3) := by decide +kernel
theorem dX9_spread_43 : decode cX9_spread 43 = .ok (.iload 5, 2) := by decide +kernel
theorem dX9_spread_45 : decode cX9_spread 45 = .ok (.iload_n 1, 1) := by decide +kernel
theorem dX9_spread_46 : decode cX9_spread 46 = .ok (.if_icmp .lt 35, 3) := by decide +kernel
theorem dX9_spread_49 : decode cX9_spread 49 = .ok (.iload 5, 2) := by decide +kernel
theorem dX9_spread_51 : decode cX9_spread 51 = .ok (.iload_n 2, 1) := by decide +kernel
theorem dX9_spread_52 : decode cX9_spread 52 = .ok (.if_icmp .ge 29, 3) := by decide +kernel
theorem dX9_spread_55 : decode cX9_spread 55 = .ok (.iload_n 3, 1) := by decide +kernel
theorem dX9_spread_56 : decode cX9_spread 56 = .ok (.aload_n 0, 1) := by decide +kernel
theorem dX9_spread_57 : decode cX9_spread 57 = .ok (.getfield 27, 3) := by decide +kernel
theorem dX9_spread_60 : decode cX9_spread 60 = .ok (.iload 7, 2) := by decide +kernel
theorem dX9_spread_62 : decode cX9_spread 62 = .ok (.iaload, 1) := by decide +kernel
theorem dX9_spread_63 : decode cX9_spread 63 = .ok (.invokestatic 45, 3) := by decide +kernel
theorem dX9_spread_66 : decode cX9_spread 66 = .ok (.istore_n 3, 1) := by decide +kernel
theorem dX9_spread_67 : decode cX9_spread 67 = .ok (.iload 4, 2) := by decide +kernel
theorem dX9_spread_69 : decode cX9_spread 69 = .ok (.aload_n 0, 1) := by decide +kernel
theorem dX9_spread_70 : decode cX9_spread 70 = .ok (.getfield 27, 3) := by decide +kernel
theorem dX9_spread_73 : decode cX9_spread 73 = .ok (.iload 7, 2) := by decide +kernel
theorem dX9_spread_75 : decode cX9_spread 75 = .ok (.iaload, 1) := by decide +kernel
theorem dX9_spread_76 : decode cX9_spread 76 = .ok (.invokestatic 130, 3) := by decide +kernel
theorem dX9_spread_79 : decode cX9_spread 79 = .ok (.istore 4, 2) := by decide +kernel
theorem dX9_spread_81 : decode cX9_spread 81 = .ok (.iinc 5 1, 3) := by decide +kernel
theorem dX9_spread_84 : decode cX9_spread 84 = .ok (.iinc 6 1, 3) := by decide +kernel
theorem dX9_spread_87 : decode cX9_spread 87 = .ok (.goto (-74), 3) := by decide +kernel
theorem dX9_spread_90 : decode cX9_spread 90 = .ok (.iload 4, 2) := by decide +kernel
theorem dX9_spread_92 : decode cX9_spread 92 = .ok (.iload_n 3, 1) := by decide +kernel
theorem dX9_spread_93 : decode cX9_spread 93 = .ok (.isub, 1) := by decide +kernel
theorem dX9_spread_94 : decode cX9_spread 94 = .ok (.ireturn, 1) := by decide +kernel
theorem dX9_wayTo_0 : decode cX9_wayTo 0 = .ok (.iconst 0, 1) := by decide +kernel
theorem dX9_wayTo_1 : decode cX9_wayTo 1 = .ok (.istore_n 2, 1) := by decide +kernel
theorem dX9_wayTo_2 : decode cX9_wayTo 2 = .ok (.iconst 0, 1) := by decide +kernel
theorem dX9_wayTo_3 : decode cX9_wayTo 3 = .ok (.istore_n 3, 1) := by decide +kernel
theorem dX9_wayTo_4 : decode cX9_wayTo 4 = .ok (.iload_n 3, 1) := by decide +kernel
theorem dX9_wayTo_5 : decode cX9_wayTo 5 = .ok (.aload_n 0, 1) := by decide +kernel
theorem dX9_wayTo_6 : decode cX9_wayTo 6 = .ok (.getfield 61, 3) := by decide +kernel
theorem dX9_wayTo_9 : decode cX9_wayTo 9 = .ok (.if_icmp .ge 46, 3) := by decide +kernel
theorem dX9_wayTo_12 : decode cX9_wayTo 12 = .ok (.aload_n 0, 1) := by decide +kernel
theorem dX9_wayTo_13 : decode cX9_wayTo 13 = .ok (.getfield 15, 3) := by decide +kernel
theorem dX9_wayTo_16 : decode cX9_wayTo 16 = .ok (.iload_n 3, 1) := by decide +kernel
theorem dX9_wayTo_17 : decode cX9_wayTo 17 = .ok (.iaload, 1) := by decide +kernel
theorem dX9_wayTo_18 : decode cX9_wayTo 18 = .ok (.iconst (-1), 1) := by decide +kernel
theorem dX9_wayTo_19 : decode cX9_wayTo 19 = .ok (.if_icmp .eq 30, 3) := by decide +kernel
theorem dX9_wayTo_22 : decode cX9_wayTo 22 = .ok (.aload_n 0, 1) := by decide +kernel
theorem dX9_wayTo_23 : decode cX9_wayTo 23 = .ok (.iload_n 1, 1) := by decide +kernel
theorem dX9_wayTo_24 : decode cX9_wayTo 24 = .ok (.invokevirtual 88, 3) := by decide +kernel
theorem dX9_wayTo_27 : decode cX9_wayTo 27 = .ok (.ifCond .eq 22, 3) := by decide +kernel
theorem dX9_wayTo_30 : decode cX9_wayTo 30 = .ok (.iload_n 2, 1) := by decide +kernel
theorem dX9_wayTo_31 : decode cX9_wayTo 31 = .ok (.aload_n 0, 1) := by decide +kernel
theorem dX9_wayTo_32 : decode cX9_wayTo 32 = .ok (.getfield 9, 3) := by decide +kernel
theorem dX9_wayTo_35 : decode cX9_wayTo 35 = .ok (.iload_n 3, 1) := by decide +kernel
theorem dX9_wayTo_36 : decode cX9_wayTo 36 = .ok (.iaload, 1) := by decide +kernel
theorem dX9_wayTo_37 : decode cX9_wayTo 37 = .ok (.aload_n 0, 1) := by decide +kernel
theorem dX9_wayTo_38 : decode cX9_wayTo 38 = .ok (.getfield 9, 3) := by decide +kernel
theorem dX9_wayTo_41 : decode cX9_wayTo 41 = .ok (.iload_n 1, 1) := by decide +kernel
theorem dX9_wayTo_42 : decode cX9_wayTo 42 = .ok (.iaload, 1) := by decide +kernel
theorem dX9_wayTo_43 : decode cX9_wayTo 43 = .ok (.isub, 1) := by decide +kernel
theorem dX9_wayTo_44 : decode cX9_wayTo 44 = .ok (.invokestatic 135, 3) := by decide +kernel
theorem dX9_wayTo_47 : decode cX9_wayTo 47 = .ok (.iadd, 1) := by decide +kernel
theorem dX9_wayTo_48 : decode cX9_wayTo 48 = .ok (.istore_n 2, 1) := by decide +kernel
theorem dX9_wayTo_49 : decode cX9_wayTo 49 = .ok (.iinc 3 1, 3) := by decide +kernel
theorem dX9_wayTo_52 : decode cX9_wayTo 52 = .ok (.goto (-48), 3) := by decide +kernel
theorem dX9_wayTo_55 : decode cX9_wayTo 55 = .ok (.iload_n 2, 1) := by decide +kernel
theorem dX9_wayTo_56 : decode cX9_wayTo 56 = .ok (.ireturn, 1) := by decide +kernel
theorem dX9_seenFrom_0 : decode cX9_seenFrom 0 = .ok (.iconst 0, 1) := by decide +kernel
theorem dX9_seenFrom_1 : decode cX9_seenFrom 1 = .ok (.istore_n 2, 1) := by decide +kernel
theorem dX9_seenFrom_2 : decode cX9_seenFrom 2 = .ok (.iconst 0, 1) := by decide +kernel
theorem dX9_seenFrom_3 : decode cX9_seenFrom 3 = .ok (.istore_n 3, 1) := by decide +kernel
theorem dX9_seenFrom_4 : decode cX9_seenFrom 4 = .ok (.iconst 0, 1) := by decide +kernel
theorem dX9_seenFrom_5 : decode cX9_seenFrom 5 = .ok (.istore 4, 2) := by decide +kernel
theorem dX9_seenFrom_7 : decode cX9_seenFrom 7 = .ok (.iload 4, 2) := by decide +kernel
theorem dX9_seenFrom_9 : decode cX9_seenFrom 9 = .ok (.aload_n 0, 1) := by decide +kernel
theorem dX9_seenFrom_10 : decode cX9_seenFrom 10 = .ok (.getfield 61, 3) := by decide +kernel
theorem dX9_seenFrom_13 : decode cX9_seenFrom 13 = .ok (.if_icmp .ge 51, 3) := by decide +kernel
theorem dX9_seenFrom_16 : decode cX9_seenFrom 16 = .ok (.iload_n 1, 1) := by decide +kernel
theorem dX9_seenFrom_17 : decode cX9_seenFrom 17 = .ok (.ifCond .eq 15, 3) := by decide +kernel
theorem dX9_seenFrom_20 : decode cX9_seenFrom 20 = .ok (.aload_n 0, 1) := by decide +kernel
theorem dX9_seenFrom_21 : decode cX9_seenFrom 21 = .ok (.getfield 61, 3) := by decide +kernel
theorem dX9_seenFrom_24 : decode cX9_seenFrom 24 = .ok (.iconst 1, 1) := by decide +kernel
theorem dX9_seenFrom_25 : decode cX9_seenFrom 25 = .ok (.isub, 1) := by decide +kernel
theorem dX9_seenFrom_26 : decode cX9_seenFrom 26 = .ok (.iload 4, 2) := by decide +kernel
theorem dX9_seenFrom_28 : decode cX9_seenFrom 28 = .ok (.isub, 1) := by decide +kernel
theorem dX9_seenFrom_29 : decode cX9_seenFrom 29 = .ok (.goto 5, 3) := by decide +kernel
theorem dX9_seenFrom_32 : decode cX9_seenFrom 32 = .ok (.iload 4, 2) := by decide +kernel
theorem dX9_seenFrom_34 : decode cX9_seenFrom 34 = .ok (.istore 5, 2) := by decide +kernel
theorem dX9_seenFrom_36 : decode cX9_seenFrom 36 = .ok (.aload_n 0, 1) := by decide +kernel
theorem dX9_seenFrom_37 : decode cX9_seenFrom 37 = .ok (.getfield 9, 3) := by decide +kernel
theorem dX9_seenFrom_40 : decode cX9_seenFrom 40 = .ok (.iload 5, 2) := by decide +kernel
theorem dX9_seenFrom_42 : decode cX9_seenFrom 42 = .ok (.iaload, 1) := by decide +kernel
theorem dX9_seenFrom_43 : decode cX9_seenFrom 43 = .ok (.iload_n 3, 1) := by decide +kernel
theorem dX9_seenFrom_44 : decode cX9_seenFrom 44 = .ok (.if_icmp .le 14, 3) := by decide +kernel
theorem dX9_seenFrom_47 : decode cX9_seenFrom 47 = .ok (.aload_n 0, 1) := by decide +kernel
theorem dX9_seenFrom_48 : decode cX9_seenFrom 48 = .ok (.getfield 9, 3) := by decide +kernel
theorem dX9_seenFrom_51 : decode cX9_seenFrom 51 = .ok (.iload 5, 2) := by decide +kernel
theorem dX9_seenFrom_53 : decode cX9_seenFrom 53 = .ok (.iaload, 1) := by decide +kernel
theorem dX9_seenFrom_54 : decode cX9_seenFrom 54 = .ok (.istore_n 3, 1) := by decide +kernel
theorem dX9_seenFrom_55 : decode cX9_seenFrom 55 = .ok (.iinc 2 1, 3) := by decide +kernel
theorem dX9_seenFrom_58 : decode cX9_seenFrom 58 = .ok (.iinc 4 1, 3) := by decide +kernel
theorem dX9_seenFrom_61 : decode cX9_seenFrom 61 = .ok (.goto (-54), 3) := by decide +kernel
theorem dX9_seenFrom_64 : decode cX9_seenFrom 64 = .ok (.iload_n 2, 1) := by decide +kernel
theorem dX9_seenFrom_65 : decode cX9_seenFrom 65 = .ok (.ireturn, 1) := by decide +kernel
theorem dX9_storks_0 : decode cX9_storks 0 = .ok (.iconst 0, 1) := by decide +kernel
theorem dX9_storks_1 : decode cX9_storks 1 = .ok (.istore_n 1, 1) := by decide +kernel
theorem dX9_storks_2 : decode cX9_storks 2 = .ok (.iconst 0, 1) := by decide +kernel
theorem dX9_storks_3 : decode cX9_storks 3 = .ok (.istore_n 2, 1) := by decide +kernel
theorem dX9_storks_4 : decode cX9_storks 4 = .ok (.iload_n 2, 1) := by decide +kernel
theorem dX9_storks_5 : decode cX9_storks 5 = .ok (.aload_n 0, 1) := by decide +kernel
theorem dX9_storks_6 : decode cX9_storks 6 = .ok (.getfield 61, 3) := by decide +kernel
theorem dX9_storks_9 : decode cX9_storks 9 = .ok (.if_icmp .ge 85, 3) := by decide +kernel
theorem dX9_storks_12 : decode cX9_storks 12 = .ok (.iload_n 2, 1) := by decide +kernel
theorem dX9_storks_13 : decode cX9_storks 13 = .ok (.ifCond .eq 20, 3) := by decide +kernel
theorem dX9_storks_16 : decode cX9_storks 16 = .ok (.aload_n 0, 1) := by decide +kernel
theorem dX9_storks_17 : decode cX9_storks 17 = .ok (.getfield 9, 3) := by decide +kernel
theorem dX9_storks_20 : decode cX9_storks 20 = .ok (.iload_n 2, 1) := by decide +kernel
theorem dX9_storks_21 : decode cX9_storks 21 = .ok (.iaload, 1) := by decide +kernel
theorem dX9_storks_22 : decode cX9_storks 22 = .ok (.aload_n 0, 1) := by decide +kernel
theorem dX9_storks_23 : decode cX9_storks 23 = .ok (.getfield 9, 3) := by decide +kernel
theorem dX9_storks_26 : decode cX9_storks 26 = .ok (.iload_n 2, 1) := by decide +kernel
theorem dX9_storks_27 : decode cX9_storks 27 = .ok (.iconst 1, 1) := by decide +kernel
theorem dX9_storks_28 : decode cX9_storks 28 = .ok (.isub, 1) := by decide +kernel
theorem dX9_storks_29 : decode cX9_storks 29 = .ok (.iaload, 1) := by decide +kernel
theorem dX9_storks_30 : decode cX9_storks 30 = .ok (.if_icmp .le 7, 3) := by decide +kernel
theorem dX9_storks_33 : decode cX9_storks 33 = .ok (.iconst 1, 1) := by decide +kernel
theorem dX9_storks_34 : decode cX9_storks 34 = .ok (.goto 4, 3) := by decide +kernel
theorem dX9_storks_37 : decode cX9_storks 37 = .ok (.iconst 0, 1) := by decide +kernel
theorem dX9_storks_38 : decode cX9_storks 38 = .ok (.istore_n 3, 1) := by decide +kernel
theorem dX9_storks_39 : decode cX9_storks 39 = .ok (.iload_n 2, 1) := by decide +kernel
theorem dX9_storks_40 : decode cX9_storks 40 = .ok (.iconst 1, 1) := by decide +kernel
theorem dX9_storks_41 : decode cX9_storks 41 = .ok (.iadd, 1) := by decide +kernel
theorem dX9_storks_42 : decode cX9_storks 42 = .ok (.aload_n 0, 1) := by decide +kernel
theorem dX9_storks_43 : decode cX9_storks 43 = .ok (.getfield 61, 3) := by decide +kernel
theorem dX9_storks_46 : decode cX9_storks 46 = .ok (.if_icmp .ge 20, 3) := by decide +kernel
theorem dX9_storks_49 : decode cX9_storks 49 = .ok (.aload_n 0, 1) := by decide +kernel
theorem dX9_storks_50 : decode cX9_storks 50 = .ok (.getfield 9, 3) := by decide +kernel
theorem dX9_storks_53 : decode cX9_storks 53 = .ok (.iload_n 2, 1) := by decide +kernel
theorem dX9_storks_54 : decode cX9_storks 54 = .ok (.iaload, 1) := by decide +kernel
theorem dX9_storks_55 : decode cX9_storks 55 = .ok (.aload_n 0, 1) := by decide +kernel
theorem dX9_storks_56 : decode cX9_storks 56 = .ok (.getfield 9, 3) := by decide +kernel
theorem dX9_storks_59 : decode cX9_storks 59 = .ok (.iload_n 2, 1) := by decide +kernel
theorem dX9_storks_60 : decode cX9_storks 60 = .ok (.iconst 1, 1) := by decide +kernel
theorem dX9_storks_61 : decode cX9_storks 61 = .ok (.iadd, 1) := by decide +kernel
theorem dX9_storks_62 : decode cX9_storks 62 = .ok (.iaload, 1) := by decide +kernel
theorem dX9_storks_63 : decode cX9_storks 63 = .ok (.if_icmp .le 7, 3) := by decide +kernel
theorem dX9_storks_66 : decode cX9_storks 66 = .ok (.iconst 1, 1) := by decide +kernel
theorem dX9_storks_67 : decode cX9_storks 67 = .ok (.goto 4, 3) := by decide +kernel
theorem dX9_storks_70 : decode cX9_storks 70 = .ok (.iconst 0, 1) := by decide +kernel
theorem dX9_storks_71 : decode cX9_storks 71 = .ok (.istore 4, 2) := by decide +kernel
theorem dX9_storks_73 : decode cX9_storks 73 = .ok (.iload_n 3, 1) := by decide +kernel
theorem dX9_storks_74 : decode cX9_storks 74 = .ok (.ifCond .eq 14, 3) := by decide +kernel
theorem dX9_storks_77 : decode cX9_storks 77 = .ok (.iload 4, 2) := by decide +kernel
theorem dX9_storks_79 : decode cX9_storks 79 = .ok (.ifCond .eq 9, 3) := by decide +kernel
theorem dX9_storks_82 : decode cX9_storks 82 = .ok (.iload_n 1, 1) := by decide +kernel
theorem dX9_storks_83 : decode cX9_storks 83 = .ok (.iconst 1, 1) := by decide +kernel
theorem dX9_storks_84 : decode cX9_storks 84 = .ok (.iload_n 2, 1) := by decide +kernel
theorem dX9_storks_85 : decode cX9_storks 85 = .ok (.ishl, 1) := by decide +kernel
theorem dX9_storks_86 : decode cX9_storks 86 = .ok (.ior, 1) := by decide +kernel
theorem dX9_storks_87 : decode cX9_storks 87 = .ok (.istore_n 1, 1) := by decide +kernel
theorem dX9_storks_88 : decode cX9_storks 88 = .ok (.iinc 2 1, 3) := by decide +kernel
theorem dX9_storks_91 : decode cX9_storks 91 = .ok (.goto (-87), 3) := by decide +kernel
theorem dX9_storks_94 : decode cX9_storks 94 = .ok (.iload_n 1, 1) := by decide +kernel
theorem dX9_storks_95 : decode cX9_storks 95 = .ok (.ireturn, 1) := by decide +kernel
theorem dX9_hearOneAnother_0 : decode cX9_hearOneAnother 0 = .ok (.aload_n 0, 1) := by decide +kernel
theorem dX9_hearOneAnother_1 : decode cX9_hearOneAnother 1 = .ok (.iload_n 1, 1) := by decide +kernel
theorem dX9_hearOneAnother_2 : decode cX9_hearOneAnother 2 = .ok (.invokevirtual 88, 3) := by decide +kernel
theorem dX9_hearOneAnother_5 : decode cX9_hearOneAnother 5 = .ok (.ifCond .eq 11, 3) := by decide +kernel
theorem dX9_hearOneAnother_8 : decode cX9_hearOneAnother 8 = .ok (.aload_n 0, 1) := by decide +kernel
theorem dX9_hearOneAnother_9 : decode cX9_hearOneAnother 9 = .ok (.iload_n 2, 1) := by decide +kernel
theorem dX9_hearOneAnother_10 : decode cX9_hearOneAnother 10 = .ok (.invokevirtual 88, 3) := by decide +kernel
theorem dX9_hearOneAnother_13 : decode cX9_hearOneAnother 13 = .ok (.ifCond .ne 5, 3) := by decide +kernel
theorem dX9_hearOneAnother_16 : decode cX9_hearOneAnother 16 = .ok (.iconst 0, 1) := by decide +kernel
theorem dX9_hearOneAnother_17 : decode cX9_hearOneAnother 17 = .ok (.ireturn, 1) := by decide +kernel
theorem dX9_hearOneAnother_18 : decode cX9_hearOneAnother 18 = .ok (.aload_n 0, 1) := by decide +kernel
theorem dX9_hearOneAnother_19 : decode cX9_hearOneAnother 19 = .ok (.getfield 9, 3) := by decide +kernel
theorem dX9_hearOneAnother_22 : decode cX9_hearOneAnother 22 = .ok (.iload_n 1, 1) := by decide +kernel
theorem dX9_hearOneAnother_23 : decode cX9_hearOneAnother 23 = .ok (.iaload, 1) := by decide +kernel
theorem dX9_hearOneAnother_24 : decode cX9_hearOneAnother 24 = .ok (.aload_n 0, 1) := by decide +kernel
theorem dX9_hearOneAnother_25 : decode cX9_hearOneAnother 25 = .ok (.getfield 9, 3) := by decide +kernel
theorem dX9_hearOneAnother_28 : decode cX9_hearOneAnother 28 = .ok (.iload_n 2, 1) := by decide +kernel
theorem dX9_hearOneAnother_29 : decode cX9_hearOneAnother 29 = .ok (.iaload, 1) := by decide +kernel
theorem dX9_hearOneAnother_30 : decode cX9_hearOneAnother 30 = .ok (.invokestatic 45, 3) := by decide +kernel
theorem dX9_hearOneAnother_33 : decode cX9_hearOneAnother 33 = .ok (.istore_n 3, 1) := by decide +kernel
theorem dX9_hearOneAnother_34 : decode cX9_hearOneAnother 34 = .ok (.iload_n 1, 1) := by decide +kernel
theorem dX9_hearOneAnother_35 : decode cX9_hearOneAnother 35 = .ok (.iload_n 2, 1) := by decide +kernel
theorem dX9_hearOneAnother_36 : decode cX9_hearOneAnother 36 = .ok (.invokestatic 130, 3) := by decide +kernel
theorem dX9_hearOneAnother_39 : decode cX9_hearOneAnother 39 = .ok (.istore 4, 2) := by decide +kernel
theorem dX9_hearOneAnother_41 : decode cX9_hearOneAnother 41 = .ok (.iload_n 1, 1) := by decide +kernel
theorem dX9_hearOneAnother_42 : decode cX9_hearOneAnother 42 = .ok (.iload_n 2, 1) := by decide +kernel
theorem dX9_hearOneAnother_43 : decode cX9_hearOneAnother 43 = .ok (.invokestatic 45, 3) := by decide +kernel
theorem dX9_hearOneAnother_46 : decode cX9_hearOneAnother 46 = .ok (.iconst 1, 1) := by decide +kernel
theorem dX9_hearOneAnother_47 : decode cX9_hearOneAnother 47 = .ok (.iadd, 1) := by decide +kernel
theorem dX9_hearOneAnother_48 : decode cX9_hearOneAnother 48 = .ok (.istore 5, 2) := by decide +kernel
theorem dX9_hearOneAnother_50 : decode cX9_hearOneAnother 50 = .ok (.iload 5, 2) := by decide +kernel
theorem dX9_hearOneAnother_52 : decode cX9_hearOneAnother 52 = .ok (.iload 4, 2) := by decide +kernel
theorem dX9_hearOneAnother_54 : decode cX9_hearOneAnother 54 = .ok (.if_icmp .ge 22, 3) := by decide +kernel
theorem dX9_hearOneAnother_57 : decode cX9_hearOneAnother 57 = .ok (.aload_n 0, 1) := by decide +kernel
theorem dX9_hearOneAnother_58 : decode cX9_hearOneAnother 58 = .ok (.getfield 9, 3) := by decide +kernel
theorem dX9_hearOneAnother_61 : decode cX9_hearOneAnother 61 = .ok (.iload 5, 2) := by decide +kernel
theorem dX9_hearOneAnother_63 : decode cX9_hearOneAnother 63 = .ok (.iaload, 1) := by decide +kernel
theorem dX9_hearOneAnother_64 : decode cX9_hearOneAnother 64 = .ok (.iload_n 3, 1) := by decide +kernel
theorem dX9_hearOneAnother_65 : decode cX9_hearOneAnother 65 = .ok (.if_icmp .lt 5, 3) := by decide +kernel
theorem dX9_hearOneAnother_68 : decode cX9_hearOneAnother 68 = .ok (.iconst 0, 1) := by decide +kernel
theorem dX9_hearOneAnother_69 : decode cX9_hearOneAnother 69 = .ok (.ireturn, 1) := by decide +kernel
theorem dX9_hearOneAnother_70 : decode cX9_hearOneAnother 70 = .ok (.iinc 5 1, 3) := by decide +kernel
theorem dX9_hearOneAnother_73 : decode cX9_hearOneAnother 73 = .ok (.goto (-23), 3) := by decide +kernel
theorem dX9_hearOneAnother_76 : decode cX9_hearOneAnother 76 = .ok (.iconst 1, 1) := by decide +kernel
theorem dX9_hearOneAnother_77 : decode cX9_hearOneAnother 77 = .ok (.ireturn, 1) := by decide +kernel
theorem dX9_heap_0 : decode cX9_heap 0 = .ok (.aload_n 0, 1) := by decide +kernel
theorem dX9_heap_1 : decode cX9_heap 1 = .ok (.iload_n 1, 1) := by decide +kernel
theorem dX9_heap_2 : decode cX9_heap 2 = .ok (.invokevirtual 138, 3) := by decide +kernel
theorem dX9_heap_5 : decode cX9_heap 5 = .ok (.istore_n 2, 1) := by decide +kernel
theorem dX9_heap_6 : decode cX9_heap 6 = .ok (.aload_n 0, 1) := by decide +kernel
theorem dX9_heap_7 : decode cX9_heap 7 = .ok (.iload_n 2, 1) := by decide +kernel
theorem dX9_heap_8 : decode cX9_heap 8 = .ok (.invokevirtual 103, 3) := by decide +kernel
theorem dX9_heap_11 : decode cX9_heap 11 = .ok (.ifCond .eq 15, 3) := by decide +kernel
theorem dX9_heap_14 : decode cX9_heap 14 = .ok (.aload_n 0, 1) := by decide +kernel
theorem dX9_heap_15 : decode cX9_heap 15 = .ok (.getfield 27, 3) := by decide +kernel
theorem dX9_heap_18 : decode cX9_heap 18 = .ok (.iload_n 2, 1) := by decide +kernel
theorem dX9_heap_19 : decode cX9_heap 19 = .ok (.iaload, 1) := by decide +kernel
theorem dX9_heap_20 : decode cX9_heap 20 = .ok (.invokestatic 135, 3) := by decide +kernel
theorem dX9_heap_23 : decode cX9_heap 23 = .ok (.goto 4, 3) := by decide +kernel
theorem dX9_heap_26 : decode cX9_heap 26 = .ok (.iconst 0, 1) := by decide +kernel
theorem dX9_heap_27 : decode cX9_heap 27 = .ok (.ireturn, 1) := by decide +kernel
theorem dX9_nimber_0 : decode cX9_nimber 0 = .ok (.iload_n 1, 1) := by decide +kernel
theorem dX9_nimber_1 : decode cX9_nimber 1 = .ok (.ifCond .ge 7, 3) := by decide +kernel
theorem dX9_nimber_4 : decode cX9_nimber 4 = .ok (.iconst 0, 1) := by decide +kernel
theorem dX9_nimber_5 : decode cX9_nimber 5 = .ok (.goto 18, 3) := by decide +kernel
theorem dX9_nimber_8 : decode cX9_nimber 8 = .ok (.iconst 0, 1) := by decide +kernel
theorem dX9_nimber_9 : decode cX9_nimber 9 = .ok (.aload_n 0, 1) := by decide +kernel
theorem dX9_nimber_10 : decode cX9_nimber 10 = .ok (.iload_n 1, 1) := by decide +kernel
theorem dX9_nimber_11 : decode cX9_nimber 11 = .ok (.invokevirtual 141, 3) := by decide +kernel
theorem dX9_nimber_14 : decode cX9_nimber 14 = .ok (.iload_n 2, 1) := by decide +kernel
theorem dX9_nimber_15 : decode cX9_nimber 15 = .ok (.isub, 1) := by decide +kernel
theorem dX9_nimber_16 : decode cX9_nimber 16 = .ok (.invokestatic 130, 3) := by decide +kernel
theorem dX9_nimber_19 : decode cX9_nimber 19 = .ok (.iload_n 1, 1) := by decide +kernel
theorem dX9_nimber_20 : decode cX9_nimber 20 = .ok (.iconst 2, 1) := by decide +kernel
theorem dX9_nimber_21 : decode cX9_nimber 21 = .ok (.iadd, 1) := by decide +kernel
theorem dX9_nimber_22 : decode cX9_nimber 22 = .ok (.irem, 1) := by decide +kernel
theorem dX9_nimber_23 : decode cX9_nimber 23 = .ok (.ireturn, 1) := by decide +kernel
theorem dX10_init_0 : decode cX10_init 0 = .ok (.aload_n 0, 1) := by decide +kernel
theorem dX10_init_1 : decode cX10_init 1 = .ok (.invokespecial 3, 3) := by decide +kernel
theorem dX10_init_4 : decode cX10_init 4 = .ok (.aload_n 0, 1) := by decide +kernel
theorem dX10_init_5 : decode cX10_init 5 = .ok (.bipush 7, 2) := by decide +kernel
theorem dX10_init_7 : decode cX10_init 7 = .ok (.newarray .int, 2) := by decide +kernel
theorem dX10_init_9 : decode cX10_init 9 = .ok (.putfield 9, 3) := by decide +kernel
theorem dX10_init_12 : decode cX10_init 12 = .ok (.aload_n 0, 1) := by decide +kernel
theorem dX10_init_13 : decode cX10_init 13 = .ok (.bipush 7, 2) := by decide +kernel
theorem dX10_init_15 : decode cX10_init 15 = .ok (.newarray .int, 2) := by decide +kernel
theorem dX10_init_17 : decode cX10_init 17 = .ok (.putfield 15, 3) := by decide +kernel
theorem dX10_init_20 : decode cX10_init 20 = .ok (.aload_n 0, 1) := by decide +kernel
theorem dX10_init_21 : decode cX10_init 21 = .ok (.bipush 7, 2) := by decide +kernel
theorem dX10_init_23 : decode cX10_init 23 = .ok (.newarray .int, 2) := by decide +kernel
theorem dX10_init_25 : decode cX10_init 25 = .ok (.putfield 18, 3) := by decide +kernel
theorem dX10_init_28 : decode cX10_init 28 = .ok (.return_, 1) := by decide +kernel
theorem dX10_copyFrom_0 : decode cX10_copyFrom 0 = .ok (.aload_n 1, 1) := by decide +kernel
theorem dX10_copyFrom_1 : decode cX10_copyFrom 1 = .ok (.getfield 9, 3) := by decide +kernel
theorem dX10_copyFrom_4 : decode cX10_copyFrom 4 = .ok (.iconst 0, 1) := by decide +kernel
theorem dX10_copyFrom_5 : decode cX10_copyFrom 5 = .ok (.aload_n 0, 1) := by decide +kernel
theorem dX10_copyFrom_6 : decode cX10_copyFrom 6 = .ok (.getfield 9, 3) := by decide +kernel
theorem dX10_copyFrom_9 : decode cX10_copyFrom 9 = .ok (.iconst 0, 1) := by decide +kernel
theorem dX10_copyFrom_10 : decode cX10_copyFrom 10 = .ok (.bipush 7, 2) := by decide +kernel
theorem dX10_copyFrom_12 : decode cX10_copyFrom 12 = .ok (.invokestatic 21, 3) := by decide +kernel
theorem dX10_copyFrom_15 : decode cX10_copyFrom 15 = .ok (.aload_n 1, 1) := by decide +kernel
theorem dX10_copyFrom_16 : decode cX10_copyFrom 16 = .ok (.getfield 15, 3) := by decide +kernel
theorem dX10_copyFrom_19 : decode cX10_copyFrom 19 = .ok (.iconst 0, 1) := by decide +kernel
theorem dX10_copyFrom_20 : decode cX10_copyFrom 20 = .ok (.aload_n 0, 1) := by decide +kernel
theorem dX10_copyFrom_21 : decode cX10_copyFrom 21 = .ok (.getfield 15, 3) := by decide +kernel
theorem dX10_copyFrom_24 : decode cX10_copyFrom 24 = .ok (.iconst 0, 1) := by decide +kernel
theorem dX10_copyFrom_25 : decode cX10_copyFrom 25 = .ok (.bipush 7, 2) := by decide +kernel
theorem dX10_copyFrom_27 : decode cX10_copyFrom 27 = .ok (.invokestatic 21, 3) := by decide +kernel
theorem dX10_copyFrom_30 : decode cX10_copyFrom 30 = .ok (.aload_n 0, 1) := by decide +kernel
theorem dX10_copyFrom_31 : decode cX10_copyFrom 31 = .ok (.aload_n 1, 1) := by decide +kernel
theorem dX10_copyFrom_32 : decode cX10_copyFrom 32 = .ok (.getfield 27, 3) := by decide +kernel
theorem dX10_copyFrom_35 : decode cX10_copyFrom 35 = .ok (.putfield 27, 3) := by decide +kernel
theorem dX10_copyFrom_38 : decode cX10_copyFrom 38 = .ok (.return_, 1) := by decide +kernel
theorem dX10_tell_0 : decode cX10_tell 0 = .ok (.aload_n 0, 1) := by decide +kernel
theorem dX10_tell_1 : decode cX10_tell 1 = .ok (.getfield 27, 3) := by decide +kernel
theorem dX10_tell_4 : decode cX10_tell 4 = .ok (.bipush 7, 2) := by decide +kernel
theorem dX10_tell_6 : decode cX10_tell 6 = .ok (.if_icmp .lt 5, 3) := by decide +kernel
theorem dX10_tell_9 : decode cX10_tell 9 = .ok (.iconst (-1), 1) := by decide +kernel
theorem dX10_tell_10 : decode cX10_tell 10 = .ok (.ireturn, 1) := by decide +kernel
theorem dX10_tell_11 : decode cX10_tell 11 = .ok (.aload_n 0, 1) := by decide +kernel
theorem dX10_tell_12 : decode cX10_tell 12 = .ok (.getfield 9, 3) := by decide +kernel
theorem dX10_tell_15 : decode cX10_tell 15 = .ok (.aload_n 0, 1) := by decide +kernel
theorem dX10_tell_16 : decode cX10_tell 16 = .ok (.getfield 27, 3) := by decide +kernel
theorem dX10_tell_19 : decode cX10_tell 19 = .ok (.iload_n 1, 1) := by decide +kernel
theorem dX10_tell_20 : decode cX10_tell 20 = .ok (.iastore, 1) := by decide +kernel
theorem dX10_tell_21 : decode cX10_tell 21 = .ok (.aload_n 0, 1) := by decide +kernel
theorem dX10_tell_22 : decode cX10_tell 22 = .ok (.getfield 15, 3) := by decide +kernel
theorem dX10_tell_25 : decode cX10_tell 25 = .ok (.aload_n 0, 1) := by decide +kernel
theorem dX10_tell_26 : decode cX10_tell 26 = .ok (.getfield 27, 3) := by decide +kernel
theorem dX10_tell_29 : decode cX10_tell 29 = .ok (.iload_n 2, 1) := by decide +kernel
theorem dX10_tell_30 : decode cX10_tell 30 = .ok (.iastore, 1) := by decide +kernel
theorem dX10_tell_31 : decode cX10_tell 31 = .ok (.aload_n 0, 1) := by decide +kernel
theorem dX10_tell_32 : decode cX10_tell 32 = .ok (.dup, 1) := by decide +kernel
theorem dX10_tell_33 : decode cX10_tell 33 = .ok (.getfield 27, 3) := by decide +kernel
theorem dX10_tell_36 : decode cX10_tell 36 = .ok (.iconst 1, 1) := by decide +kernel
theorem dX10_tell_37 : decode cX10_tell 37 = .ok (.iadd, 1) := by decide +kernel
theorem dX10_tell_38 : decode cX10_tell 38 = .ok (.putfield 27, 3) := by decide +kernel
theorem dX10_tell_41 : decode cX10_tell 41 = .ok (.aload_n 0, 1) := by decide +kernel
theorem dX10_tell_42 : decode cX10_tell 42 = .ok (.getfield 27, 3) := by decide +kernel
theorem dX10_tell_45 : decode cX10_tell 45 = .ok (.ireturn, 1) := by decide +kernel
theorem dX10_arrange_0 : decode cX10_arrange 0 = .ok (.iconst 0, 1) := by decide +kernel
theorem dX10_arrange_1 : decode cX10_arrange 1 = .ok (.istore_n 1, 1) := by decide +kernel
theorem dX10_arrange_2 : decode cX10_arrange 2 = .ok (.iload_n 1, 1) := by decide +kernel
theorem dX10_arrange_3 : decode cX10_arrange 3 = .ok (.aload_n 0, 1) := by decide +kernel
theorem dX10_arrange_4 : decode cX10_arrange 4 = .ok (.getfield 27, 3) := by decide +kernel
theorem dX10_arrange_7 : decode cX10_arrange 7 = .ok (.if_icmp .ge 64, 3) := by decide +kernel
theorem dX10_arrange_10 : decode cX10_arrange 10 = .ok (.iload_n 1, 1) := by decide +kernel
theorem dX10_arrange_11 : decode cX10_arrange 11 = .ok (.istore_n 2, 1) := by decide +kernel
theorem dX10_arrange_12 : decode cX10_arrange 12 = .ok (.iload_n 1, 1) := by decide +kernel
theorem dX10_arrange_13 : decode cX10_arrange 13 = .ok (.istore_n 3, 1) := by decide +kernel
theorem dX10_arrange_14 : decode cX10_arrange 14 = .ok (.iload_n 3, 1) := by decide +kernel
theorem dX10_arrange_15 : decode cX10_arrange 15 = .ok (.ifCond .le 43, 3) := by decide +kernel
theorem dX10_arrange_18 : decode cX10_arrange 18 = .ok (.aload_n 0, 1) := by decide +kernel
theorem dX10_arrange_19 : decode cX10_arrange 19 = .ok (.iload_n 1, 1) := by decide +kernel
theorem dX10_arrange_20 : decode cX10_arrange 20 = .ok (.aload_n 0, 1) := by decide +kernel
theorem dX10_arrange_21 : decode cX10_arrange 21 = .ok (.getfield 18, 3) := by decide +kernel
theorem dX10_arrange_24 : decode cX10_arrange 24 = .ok (.iload_n 3, 1) := by decide +kernel
theorem dX10_arrange_25 : decode cX10_arrange 25 = .ok (.iconst 1, 1) := by decide +kernel
theorem dX10_arrange_26 : decode cX10_arrange 26 = .ok (.isub, 1) := by decide +kernel
theorem dX10_arrange_27 : decode cX10_arrange 27 = .ok (.iaload, 1) := by decide +kernel
theorem dX10_arrange_28 : decode cX10_arrange 28 = .ok (.invokevirtual 31, 3) := by decide +kernel
theorem dX10_arrange_31 : decode cX10_arrange 31 = .ok (.ifCond .eq 27, 3) := by decide +kernel
theorem dX10_arrange_34 : decode cX10_arrange 34 = .ok (.aload_n 0, 1) := by decide +kernel
theorem dX10_arrange_35 : decode cX10_arrange 35 = .ok (.getfield 18, 3) := by decide +kernel
theorem dX10_arrange_38 : decode cX10_arrange 38 = .ok (.iload_n 3, 1) := by decide +kernel
theorem dX10_arrange_39 : decode cX10_arrange 39 = .ok (.aload_n 0, 1) := by decide +kernel
theorem dX10_arrange_40 : decode cX10_arrange 40 = .ok (.getfield 18, 3) := by decide +kernel
theorem dX10_arrange_43 : decode cX10_arrange 43 = .ok (.iload_n 3, 1) := by decide +kernel
theorem dX10_arrange_44 : decode cX10_arrange 44 = .ok (.iconst 1, 1) := by decide +kernel
theorem dX10_arrange_45 : decode cX10_arrange 45 = .ok (.isub, 1) := by decide +kernel
theorem dX10_arrange_46 : decode cX10_arrange 46 = .ok (.iaload, 1) := by decide +kernel
theorem dX10_arrange_47 : decode cX10_arrange 47 = .ok (.iastore, 1) := by decide +kernel
theorem dX10_arrange_48 : decode cX10_arrange 48 = .ok (.iload_n 3, 1) := by decide +kernel
theorem dX10_arrange_49 : decode cX10_arrange 49 = .ok (.iconst 1, 1) := by decide +kernel
theorem dX10_arrange_50 : decode cX10_arrange 50 = .ok (.isub, 1) := by decide +kernel
theorem dX10_arrange_51 : decode cX10_arrange 51 = .ok (.istore_n 2, 1) := by decide +kernel
theorem dX10_arrange_52 : decode cX10_arrange 52 = .ok (.iinc 3 (-1), 3) := by decide +kernel
theorem dX10_arrange_55 : decode cX10_arrange 55 = .ok (.goto (-41), 3) := by decide +kernel
theorem dX10_arrange_58 : decode cX10_arrange 58 = .ok (.aload_n 0, 1) := by decide +kernel
theorem dX10_arrange_59 : decode cX10_arrange 59 = .ok (.getfield 18, 3) := by decide +kernel
theorem dX10_arrange_62 : decode cX10_arrange 62 = .ok (.iload_n 2, 1) := by decide +kernel
theorem dX10_arrange_63 : decode cX10_arrange 63 = .ok (.iload_n 1, 1) := by decide +kernel
theorem dX10_arrange_64 : decode cX10_arrange 64 = .ok (.iastore, 1) := by decide +kernel
theorem dX10_arrange_65 : decode cX10_arrange 65 = .ok (.iinc 1 1, 3) := by decide +kernel
theorem dX10_arrange_68 : decode cX10_arrange 68 = .ok (.goto (-66), 3) := by decide +kernel
theorem dX10_arrange_71 : decode cX10_arrange 71 = .ok (.return_, 1) := by decide +kernel
theorem dX10_isBefore_0 : decode cX10_isBefore 0 = .ok (.iload_n 1, 1) := by decide +kernel
theorem dX10_isBefore_1 : decode cX10_isBefore 1 = .ok (.ifCond .lt 23, 3) := by decide +kernel
theorem dX10_isBefore_4 : decode cX10_isBefore 4 = .ok (.iload_n 2, 1) := by decide +kernel
theorem dX10_isBefore_5 : decode cX10_isBefore 5 = .ok (.ifCond .lt 19, 3) := by decide +kernel
theorem dX10_isBefore_8 : decode cX10_isBefore 8 = .ok (.iload_n 1, 1) := by decide +kernel
theorem dX10_isBefore_9 : decode cX10_isBefore 9 = .ok (.aload_n 0, 1) := by decide +kernel
theorem dX10_isBefore_10 : decode cX10_isBefore 10 = .ok (.getfield 27, 3) := by decide +kernel
theorem dX10_isBefore_13 : decode cX10_isBefore 13 = .ok (.if_icmp .ge 11, 3) := by decide +kernel
theorem dX10_isBefore_16 : decode cX10_isBefore 16 = .ok (.iload_n 2, 1) := by decide +kernel
theorem dX10_isBefore_17 : decode cX10_isBefore 17 = .ok (.aload_n 0, 1) := by decide +kernel
theorem dX10_isBefore_18 : decode cX10_isBefore 18 = .ok (.getfield 27, 3) := by decide +kernel
theorem dX10_isBefore_21 : decode cX10_isBefore 21 = .ok (.if_icmp .lt 5, 3) := by decide +kernel
theorem dX10_isBefore_24 : decode cX10_isBefore 24 = .ok (.iconst 0, 1) := by decide +kernel
theorem dX10_isBefore_25 : decode cX10_isBefore 25 = .ok (.ireturn, 1) := by decide +kernel
theorem dX10_isBefore_26 : decode cX10_isBefore 26 = .ok (.aload_n 0, 1) := by decide +kernel
theorem dX10_isBefore_27 : decode cX10_isBefore 27 = .ok (.getfield 9, 3) := by decide +kernel
theorem dX10_isBefore_30 : decode cX10_isBefore 30 = .ok (.iload_n 1, 1) := by decide +kernel
theorem dX10_isBefore_31 : decode cX10_isBefore 31 = .ok (.iaload, 1) := by decide +kernel
theorem dX10_isBefore_32 : decode cX10_isBefore 32 = .ok (.aload_n 0, 1) := by decide +kernel
theorem dX10_isBefore_33 : decode cX10_isBefore 33 = .ok (.getfield 15, 3) := by decide +kernel
theorem dX10_isBefore_36 : decode cX10_isBefore 36 = .ok (.iload_n 2, 1) := by decide +kernel
theorem dX10_isBefore_37 : decode cX10_isBefore 37 = .ok (.iaload, 1) := by decide +kernel
theorem dX10_isBefore_38 : decode cX10_isBefore 38 = .ok (.imul, 1) := by decide +kernel
theorem dX10_isBefore_39 : decode cX10_isBefore 39 = .ok (.aload_n 0, 1) := by decide +kernel
theorem dX10_isBefore_40 : decode cX10_isBefore 40 = .ok (.getfield 9, 3) := by decide +kernel
theorem dX10_isBefore_43 : decode cX10_isBefore 43 = .ok (.iload_n 2, 1) := by decide +kernel
theorem dX10_isBefore_44 : decode cX10_isBefore 44 = .ok (.iaload, 1) := by decide +kernel
theorem dX10_isBefore_45 : decode cX10_isBefore 45 = .ok (.aload_n 0, 1) := by decide +kernel
theorem dX10_isBefore_46 : decode cX10_isBefore 46 = .ok (.getfield 15, 3) := by decide +kernel
theorem dX10_isBefore_49 : decode cX10_isBefore 49 = .ok (.iload_n 1, 1) := by decide +kernel
theorem dX10_isBefore_50 : decode cX10_isBefore 50 = .ok (.iaload, 1) := by decide +kernel
theorem dX10_isBefore_51 : decode cX10_isBefore 51 = .ok (.imul, 1) := by decide +kernel
theorem dX10_isBefore_52 : decode cX10_isBefore 52 = .ok (.if_icmp .ge 7, 3) := by decide +kernel
theorem dX10_isBefore_55 : decode cX10_isBefore 55 = .ok (.iconst 1, 1) := by decide +kernel
theorem dX10_isBefore_56 : decode cX10_isBefore 56 = .ok (.goto 4, 3) := by decide +kernel
theorem dX10_isBefore_59 : decode cX10_isBefore 59 = .ok (.iconst 0, 1) := by decide +kernel
theorem dX10_isBefore_60 : decode cX10_isBefore 60 = .ok (.ireturn, 1) := by decide +kernel
theorem dX10_leastSum_0 : decode cX10_leastSum 0 = .ok (.aload_n 0, 1) := by decide +kernel
theorem dX10_leastSum_1 : decode cX10_leastSum 1 = .ok (.invokevirtual 35, 3) := by decide +kernel
theorem dX10_leastSum_4 : decode cX10_leastSum 4 = .ok (.iconst 0, 1) := by decide +kernel
theorem dX10_leastSum_5 : decode cX10_leastSum 5 = .ok (.istore_n 1, 1) := by decide +kernel
theorem dX10_leastSum_6 : decode cX10_leastSum 6 = .ok (.iconst 0, 1) := by decide +kernel
theorem dX10_leastSum_7 : decode cX10_leastSum 7 = .ok (.istore_n 2, 1) := by decide +kernel
theorem dX10_leastSum_8 : decode cX10_leastSum 8 = .ok (.iconst 0, 1) := by decide +kernel
theorem dX10_leastSum_9 : decode cX10_leastSum 9 = .ok (.istore_n 3, 1) := by decide +kernel
theorem dX10_leastSum_10 : decode cX10_leastSum 10 = .ok (.iload_n 3, 1) := by decide +kernel
theorem dX10_leastSum_11 : decode cX10_leastSum 11 = .ok (.aload_n 0, 1) := by decide +kernel
theorem dX10_leastSum_12 : decode cX10_leastSum 12 = .ok (.getfield 27, 3) := by decide +kernel
theorem dX10_leastSum_15 : decode cX10_leastSum 15 = .ok (.if_icmp .ge 53, 3) := by decide +kernel
theorem dX10_leastSum_18 : decode cX10_leastSum 18 = .ok (.aload_n 0, 1) := by decide +kernel
theorem dX10_leastSum_19 : decode cX10_leastSum 19 = .ok (.getfield 18, 3) := by decide +kernel
theorem dX10_leastSum_22 : decode cX10_leastSum 22 = .ok (.iload_n 3, 1) := by decide +kernel
theorem dX10_leastSum_23 : decode cX10_leastSum 23 = .ok (.iaload, 1) := by decide +kernel
theorem dX10_leastSum_24 : decode cX10_leastSum 24 = .ok (.istore 4, 2) := by decide +kernel
theorem dX10_leastSum_26 : decode cX10_leastSum 26 = .ok (.iload 4, 2) := by decide +kernel
theorem dX10_leastSum_28 : decode cX10_leastSum 28 = .ok (.ifCond .lt 34, 3) := by decide +kernel
theorem dX10_leastSum_31 : decode cX10_leastSum 31 = .ok (.iload 4, 2) := by decide +kernel
theorem dX10_leastSum_33 : decode cX10_leastSum 33 = .ok (.aload_n 0, 1) := by decide +kernel
theorem dX10_leastSum_34 : decode cX10_leastSum 34 = .ok (.getfield 27, 3) := by decide +kernel
theorem dX10_leastSum_37 : decode cX10_leastSum 37 = .ok (.if_icmp .ge 25, 3) := by decide +kernel
theorem dX10_leastSum_40 : decode cX10_leastSum 40 = .ok (.iload_n 1, 1) := by decide +kernel
theorem dX10_leastSum_41 : decode cX10_leastSum 41 = .ok (.aload_n 0, 1) := by decide +kernel
theorem dX10_leastSum_42 : decode cX10_leastSum 42 = .ok (.getfield 9, 3) := by decide +kernel
theorem dX10_leastSum_45 : decode cX10_leastSum 45 = .ok (.iload 4, 2) := by decide +kernel
theorem dX10_leastSum_47 : decode cX10_leastSum 47 = .ok (.iaload, 1) := by decide +kernel
theorem dX10_leastSum_48 : decode cX10_leastSum 48 = .ok (.iadd, 1) := by decide +kernel
theorem dX10_leastSum_49 : decode cX10_leastSum 49 = .ok (.istore_n 1, 1) := by decide +kernel
theorem dX10_leastSum_50 : decode cX10_leastSum 50 = .ok (.iload_n 2, 1) := by decide +kernel
theorem dX10_leastSum_51 : decode cX10_leastSum 51 = .ok (.aload_n 0, 1) := by decide +kernel
theorem dX10_leastSum_52 : decode cX10_leastSum 52 = .ok (.getfield 15, 3) := by decide +kernel
theorem dX10_leastSum_55 : decode cX10_leastSum 55 = .ok (.iload 4, 2) := by decide +kernel
theorem dX10_leastSum_57 : decode cX10_leastSum 57 = .ok (.iaload, 1) := by decide +kernel
theorem dX10_leastSum_58 : decode cX10_leastSum 58 = .ok (.iload_n 1, 1) := by decide +kernel
theorem dX10_leastSum_59 : decode cX10_leastSum 59 = .ok (.imul, 1) := by decide +kernel
theorem dX10_leastSum_60 : decode cX10_leastSum 60 = .ok (.iadd, 1) := by decide +kernel
theorem dX10_leastSum_61 : decode cX10_leastSum 61 = .ok (.istore_n 2, 1) := by decide +kernel
theorem dX10_leastSum_62 : decode cX10_leastSum 62 = .ok (.iinc 3 1, 3) := by decide +kernel
theorem dX10_leastSum_65 : decode cX10_leastSum 65 = .ok (.goto (-55), 3) := by decide +kernel
theorem dX10_leastSum_68 : decode cX10_leastSum 68 = .ok (.iload_n 2, 1) := by decide +kernel
theorem dX10_leastSum_69 : decode cX10_leastSum 69 = .ok (.ireturn, 1) := by decide +kernel
theorem dX10_inOrder_0 : decode cX10_inOrder 0 = .ok (.aload_n 0, 1) := by decide +kernel
theorem dX10_inOrder_1 : decode cX10_inOrder 1 = .ok (.invokevirtual 35, 3) := by decide +kernel
theorem dX10_inOrder_4 : decode cX10_inOrder 4 = .ok (.iload_n 1, 1) := by decide +kernel
theorem dX10_inOrder_5 : decode cX10_inOrder 5 = .ok (.ifCond .lt 20, 3) := by decide +kernel
theorem dX10_inOrder_8 : decode cX10_inOrder 8 = .ok (.iload_n 1, 1) := by decide +kernel
theorem dX10_inOrder_9 : decode cX10_inOrder 9 = .ok (.aload_n 0, 1) := by decide +kernel
theorem dX10_inOrder_10 : decode cX10_inOrder 10 = .ok (.getfield 27, 3) := by decide +kernel
theorem dX10_inOrder_13 : decode cX10_inOrder 13 = .ok (.if_icmp .ge 12, 3) := by decide +kernel
theorem dX10_inOrder_16 : decode cX10_inOrder 16 = .ok (.aload_n 0, 1) := by decide +kernel
theorem dX10_inOrder_17 : decode cX10_inOrder 17 = .ok (.getfield 18, 3) := by decide +kernel
theorem dX10_inOrder_20 : decode cX10_inOrder 20 = .ok (.iload_n 1, 1) := by decide +kernel
theorem dX10_inOrder_21 : decode cX10_inOrder 21 = .ok (.iaload, 1) := by decide +kernel
theorem dX10_inOrder_22 : decode cX10_inOrder 22 = .ok (.goto 4, 3) := by decide +kernel
theorem dX10_inOrder_25 : decode cX10_inOrder 25 = .ok (.iconst (-1), 1) := by decide +kernel
theorem dX10_inOrder_26 : decode cX10_inOrder 26 = .ok (.ireturn, 1) := by decide +kernel
theorem dX11_init_0 : decode cX11_init 0 = .ok (.aload_n 0, 1) := by decide +kernel
theorem dX11_init_1 : decode cX11_init 1 = .ok (.invokespecial 3, 3) := by decide +kernel
theorem dX11_init_4 : decode cX11_init 4 = .ok (.aload_n 0, 1) := by decide +kernel
theorem dX11_init_5 : decode cX11_init 5 = .ok (.new 9, 3) := by decide +kernel
theorem dX11_init_8 : decode cX11_init 8 = .ok (.dup, 1) := by decide +kernel
theorem dX11_init_9 : decode cX11_init 9 = .ok (.invokespecial 11, 3) := by decide +kernel
theorem dX11_init_12 : decode cX11_init 12 = .ok (.putfield 12, 3) := by decide +kernel
theorem dX11_init_15 : decode cX11_init 15 = .ok (.aload_n 0, 1) := by decide +kernel
theorem dX11_init_16 : decode cX11_init 16 = .ok (.new 9, 3) := by decide +kernel
theorem dX11_init_19 : decode cX11_init 19 = .ok (.dup, 1) := by decide +kernel
theorem dX11_init_20 : decode cX11_init 20 = .ok (.invokespecial 11, 3) := by decide +kernel
theorem dX11_init_23 : decode cX11_init 23 = .ok (.putfield 16, 3) := by decide +kernel
theorem dX11_init_26 : decode cX11_init 26 = .ok (.aload_n 0, 1) := by decide +kernel
theorem dX11_init_27 : decode cX11_init 27 = .ok (.new 19, 3) := by decide +kernel
theorem dX11_init_30 : decode cX11_init 30 = .ok (.dup, 1) := by decide +kernel
theorem dX11_init_31 : decode cX11_init 31 = .ok (.iconst 0, 1) := by decide +kernel
theorem dX11_init_32 : decode cX11_init 32 = .ok (.invokespecial 21, 3) := by decide +kernel
theorem dX11_init_35 : decode cX11_init 35 = .ok (.putfield 24, 3) := by decide +kernel
theorem dX11_init_38 : decode cX11_init 38 = .ok (.aload_n 0, 1) := by decide +kernel
theorem dX11_init_39 : decode cX11_init 39 = .ok (.new 28, 3) := by decide +kernel
theorem dX11_init_42 : decode cX11_init 42 = .ok (.dup, 1) := by decide +kernel
theorem dX11_init_43 : decode cX11_init 43 = .ok (.invokespecial 30, 3) := by decide +kernel
theorem dX11_init_46 : decode cX11_init 46 = .ok (.putfield 31, 3) := by decide +kernel
theorem dX11_init_49 : decode cX11_init 49 = .ok (.aload_n 0, 1) := by decide +kernel
theorem dX11_init_50 : decode cX11_init 50 = .ok (.new 35, 3) := by decide +kernel
theorem dX11_init_53 : decode cX11_init 53 = .ok (.dup, 1) := by decide +kernel
theorem dX11_init_54 : decode cX11_init 54 = .ok (.invokespecial 37, 3) := by decide +kernel
theorem dX11_init_57 : decode cX11_init 57 = .ok (.putfield 38, 3) := by decide +kernel
theorem dX11_init_60 : decode cX11_init 60 = .ok (.aload_n 0, 1) := by decide +kernel
theorem dX11_init_61 : decode cX11_init 61 = .ok (.new 42, 3) := by decide +kernel
theorem dX11_init_64 : decode cX11_init 64 = .ok (.dup, 1) := by decide +kernel
theorem dX11_init_65 : decode cX11_init 65 = .ok (.invokespecial 44, 3) := by decide +kernel
theorem dX11_init_68 : decode cX11_init 68 = .ok (.putfield 45, 3) := by decide +kernel
theorem dX11_init_71 : decode cX11_init 71 = .ok (.aload_n 0, 1) := by decide +kernel
theorem dX11_init_72 : decode cX11_init 72 = .ok (.sipush 400, 3) := by decide +kernel
theorem dX11_init_75 : decode cX11_init 75 = .ok (.newarray .byte, 2) := by decide +kernel
theorem dX11_init_77 : decode cX11_init 77 = .ok (.putfield 49, 3) := by decide +kernel
theorem dX11_init_80 : decode cX11_init 80 = .ok (.return_, 1) := by decide +kernel
theorem dX11_state_0 : decode cX11_state 0 = .ok (.aload_n 0, 1) := by decide +kernel
theorem dX11_state_1 : decode cX11_state 1 = .ok (.getfield 12, 3) := by decide +kernel
theorem dX11_state_4 : decode cX11_state 4 = .ok (.getfield 53, 3) := by decide +kernel
theorem dX11_state_7 : decode cX11_state 7 = .ok (.getfield 56, 3) := by decide +kernel
theorem dX11_state_10 : decode cX11_state 10 = .ok (.istore_n 2, 1) := by decide +kernel
theorem dX11_state_11 : decode cX11_state 11 = .ok (.aload_n 0, 1) := by decide +kernel
theorem dX11_state_12 : decode cX11_state 12 = .ok (.getfield 31, 3) := by decide +kernel
theorem dX11_state_15 : decode cX11_state 15 = .ok (.invokevirtual 60, 3) := by decide +kernel
theorem dX11_state_18 : decode cX11_state 18 = .ok (.aload_n 0, 1) := by decide +kernel
theorem dX11_state_19 : decode cX11_state 19 = .ok (.getfield 12, 3) := by decide +kernel
theorem dX11_state_22 : decode cX11_state 22 = .ok (.getfield 53, 3) := by decide +kernel
theorem dX11_state_25 : decode cX11_state 25 = .ok (.iload_n 1, 1) := by decide +kernel
theorem dX11_state_26 : decode cX11_state 26 = .ok (.putfield 56, 3) := by decide +kernel
theorem dX11_state_29 : decode cX11_state 29 = .ok (.iload_n 2, 1) := by decide +kernel
theorem dX11_state_30 : decode cX11_state 30 = .ok (.ireturn, 1) := by decide +kernel
theorem dX11_pillar_0 : decode cX11_pillar 0 = .ok (.iload_n 1, 1) := by decide +kernel
theorem dX11_pillar_1 : decode cX11_pillar 1 = .ok (.iconst 1, 1) := by decide +kernel
theorem dX11_pillar_2 : decode cX11_pillar 2 = .ok (.if_icmp .lt 24, 3) := by decide +kernel
theorem dX11_pillar_5 : decode cX11_pillar 5 = .ok (.iload_n 1, 1) := by decide +kernel
theorem dX11_pillar_6 : decode cX11_pillar 6 = .ok (.bipush 99, 2) := by decide +kernel
theorem dX11_pillar_8 : decode cX11_pillar 8 = .ok (.if_icmp .gt 18, 3) := by decide +kernel
theorem dX11_pillar_11 : decode cX11_pillar 11 = .ok (.aload_n 0, 1) := by decide +kernel
theorem dX11_pillar_12 : decode cX11_pillar 12 = .ok (.getfield 12, 3) := by decide +kernel
theorem dX11_pillar_15 : decode cX11_pillar 15 = .ok (.getfield 53, 3) := by decide +kernel
theorem dX11_pillar_18 : decode cX11_pillar 18 = .ok (.getfield 63, 3) := by decide +kernel
theorem dX11_pillar_21 : decode cX11_pillar 21 = .ok (.bipush 10, 2) := by decide +kernel
theorem dX11_pillar_23 : decode cX11_pillar 23 = .ok (.if_icmp .lt 5, 3) := by decide +kernel
theorem dX11_pillar_26 : decode cX11_pillar 26 = .ok (.iconst (-1), 1) := by decide +kernel
theorem dX11_pillar_27 : decode cX11_pillar 27 = .ok (.ireturn, 1) := by decide +kernel
theorem dX11_pillar_28 : decode cX11_pillar 28 = .ok (.aload_n 0, 1) := by decide +kernel
theorem dX11_pillar_29 : decode cX11_pillar 29 = .ok (.getfield 31, 3) := by decide +kernel
theorem dX11_pillar_32 : decode cX11_pillar 32 = .ok (.invokevirtual 60, 3) := by decide +kernel
theorem dX11_pillar_35 : decode cX11_pillar 35 = .ok (.aload_n 0, 1) := by decide +kernel
theorem dX11_pillar_36 : decode cX11_pillar 36 = .ok (.getfield 12, 3) := by decide +kernel
theorem dX11_pillar_39 : decode cX11_pillar 39 = .ok (.getfield 53, 3) := by decide +kernel
theorem dX11_pillar_42 : decode cX11_pillar 42 = .ok (.iload_n 1, 1) := by decide +kernel
theorem dX11_pillar_43 : decode cX11_pillar 43 = .ok (.invokevirtual 66, 3) := by decide +kernel
theorem dX11_pillar_46 : decode cX11_pillar 46 = .ok (.ireturn, 1) := by decide +kernel
theorem dX11_saint_0 : decode cX11_saint 0 = .ok (.iload_n 1, 1) := by decide +kernel
theorem dX11_saint_1 : decode cX11_saint 1 = .ok (.iconst 0, 1) := by decide +kernel
theorem dX11_saint_2 : decode cX11_saint 2 = .ok (.bipush 120, 2) := by decide +kernel
theorem dX11_saint_4 : decode cX11_saint 4 = .ok (.invokestatic 70, 3) := by decide +kernel
theorem dX11_saint_7 : decode cX11_saint 7 = .ok (.ifCond .eq 28, 3) := by decide +kernel
theorem dX11_saint_10 : decode cX11_saint 10 = .ok (.iload_n 2, 1) := by decide +kernel
theorem dX11_saint_11 : decode cX11_saint 11 = .ok (.iconst 0, 1) := by decide +kernel
theorem dX11_saint_12 : decode cX11_saint 12 = .ok (.bipush 9, 2) := by decide +kernel
theorem dX11_saint_14 : decode cX11_saint 14 = .ok (.invokestatic 70, 3) := by decide +kernel
theorem dX11_saint_17 : decode cX11_saint 17 = .ok (.ifCond .eq 18, 3) := by decide +kernel
theorem dX11_saint_20 : decode cX11_saint 20 = .ok (.iload_n 3, 1) := by decide +kernel
theorem dX11_saint_21 : decode cX11_saint 21 = .ok (.bipush (-99), 2) := by decide +kernel
theorem dX11_saint_23 : decode cX11_saint 23 = .ok (.bipush 99, 2) := by decide +kernel
theorem dX11_saint_25 : decode cX11_saint 25 = .ok (.invokestatic 70, 3) := by decide +kernel
theorem dX11_saint_28 : decode cX11_saint 28 = .ok (.ifCond .eq 7, 3) := by decide +kernel
theorem dX11_saint_31 : decode cX11_saint 31 = .ok (.iconst 1, 1) := by decide +kernel
theorem dX11_saint_32 : decode cX11_saint 32 = .ok (.goto 4, 3) := by decide +kernel
theorem dX11_saint_35 : decode cX11_saint 35 = .ok (.iconst 0, 1) := by decide +kernel
theorem dX11_saint_36 : decode cX11_saint 36 = .ok (.istore 4, 2) := by decide +kernel
theorem dX11_saint_38 : decode cX11_saint 38 = .ok (.iload 4, 2) := by decide +kernel
theorem dX11_saint_40 : decode cX11_saint 40 = .ok (.ifCond .eq 18, 3) := by decide +kernel
theorem dX11_saint_43 : decode cX11_saint 43 = .ok (.aload_n 0, 1) := by decide +kernel
theorem dX11_saint_44 : decode cX11_saint 44 = .ok (.getfield 12, 3) := by decide +kernel
theorem dX11_saint_47 : decode cX11_saint 47 = .ok (.getfield 53, 3) := by decide +kernel
theorem dX11_saint_50 : decode cX11_saint 50 = .ok (.getfield 74, 3) := by decide +kernel
theorem dX11_saint_53 : decode cX11_saint 53 = .ok (.bipush 14, 2) := by decide +kernel
theorem dX11_saint_55 : decode cX11_saint 55 = .ok (.if_icmp .lt 5, 3) := by decide +kernel
theorem dX11_saint_58 : decode cX11_saint 58 = .ok (.iconst (-1), 1) := by decide +kernel
theorem dX11_saint_59 : decode cX11_saint 59 = .ok (.ireturn, 1) := by decide +kernel
theorem dX11_saint_60 : decode cX11_saint 60 = .ok (.aload_n 0, 1) := by decide +kernel
theorem dX11_saint_61 : decode cX11_saint 61 = .ok (.getfield 31, 3) := by decide +kernel
theorem dX11_saint_64 : decode cX11_saint 64 = .ok (.invokevirtual 60, 3) := by decide +kernel
theorem dX11_saint_67 : decode cX11_saint 67 = .ok (.aload_n 0, 1) := by decide +kernel
theorem dX11_saint_68 : decode cX11_saint 68 = .ok (.getfield 12, 3) := by decide +kernel
theorem dX11_saint_71 : decode cX11_saint 71 = .ok (.getfield 53, 3) := by decide +kernel
theorem dX11_saint_74 : decode cX11_saint 74 = .ok (.iload_n 1, 1) := by decide +kernel
theorem dX11_saint_75 : decode cX11_saint 75 = .ok (.iload_n 2, 1) := by decide +kernel
theorem dX11_saint_76 : decode cX11_saint 76 = .ok (.iload_n 3, 1) := by decide +kernel
theorem dX11_saint_77 : decode cX11_saint 77 = .ok (.invokevirtual 77, 3) := by decide +kernel
theorem dX11_saint_80 : decode cX11_saint 80 = .ok (.ireturn, 1) := by decide +kernel
theorem dX11_set_0 : decode cX11_set 0 = .ok (.aload_n 0, 1) := by decide +kernel
theorem dX11_set_1 : decode cX11_set 1 = .ok (.getfield 12, 3) := by decide +kernel
theorem dX11_set_4 : decode cX11_set 4 = .ok (.getfield 53, 3) := by decide +kernel
theorem dX11_set_7 : decode cX11_set 7 = .ok (.iload_n 1, 1) := by decide +kernel
theorem dX11_set_8 : decode cX11_set 8 = .ok (.iload_n 2, 1) := by decide +kernel
theorem dX11_set_9 : decode cX11_set 9 = .ok (.iload_n 3, 1) := by decide +kernel
theorem dX11_set_10 : decode cX11_set 10 = .ok (.invokevirtual 81, 3) := by decide +kernel
theorem dX11_set_13 : decode cX11_set 13 = .ok (.ifCond .ne 5, 3) := by decide +kernel
theorem dX11_set_16 : decode cX11_set 16 = .ok (.iconst 0, 1) := by decide +kernel
theorem dX11_set_17 : decode cX11_set 17 = .ok (.ireturn, 1) := by decide +kernel
theorem dX11_set_18 : decode cX11_set 18 = .ok (.aload_n 0, 1) := by decide +kernel
theorem dX11_set_19 : decode cX11_set 19 = .ok (.getfield 31, 3) := by decide +kernel
theorem dX11_set_22 : decode cX11_set 22 = .ok (.invokevirtual 60, 3) := by decide +kernel
theorem dX11_set_25 : decode cX11_set 25 = .ok (.iconst 1, 1) := by decide +kernel
theorem dX11_set_26 : decode cX11_set 26 = .ok (.ireturn, 1) := by decide +kernel
theorem dX11_act_0 : decode cX11_act 0 = .ok (.aload_n 0, 1) := by decide +kernel
theorem dX11_act_1 : decode cX11_act 1 = .ok (.getfield 12, 3) := by decide +kernel
theorem dX11_act_4 : decode cX11_act 4 = .ok (.getfield 53, 3) := by decide +kernel
theorem dX11_act_7 : decode cX11_act 7 = .ok (.astore 4, 2) := by decide +kernel
theorem dX11_act_9 : decode cX11_act 9 = .ok (.aload 4, 2) := by decide +kernel
theorem dX11_act_11 : decode cX11_act 11 = .ok (.iload_n 1, 1) := by decide +kernel
theorem dX11_act_12 : decode cX11_act 12 = .ok (.iload_n 2, 1) := by decide +kernel
theorem dX11_act_13 : decode cX11_act 13 = .ok (.iload_n 3, 1) := by decide +kernel
theorem dX11_act_14 : decode cX11_act 14 = .ok (.invokevirtual 84, 3) := by decide +kernel
theorem dX11_act_17 : decode cX11_act 17 = .ok (.ifCond .ne 5, 3) := by decide +kernel
theorem dX11_act_20 : decode cX11_act 20 = .ok (.iconst 0, 1) := by decide +kernel
theorem dX11_act_21 : decode cX11_act 21 = .ok (.ireturn, 1) := by decide +kernel
theorem dX11_act_22 : decode cX11_act 22 = .ok (.aload_n 0, 1) := by decide +kernel
theorem dX11_act_23 : decode cX11_act 23 = .ok (.getfield 31, 3) := by decide +kernel
theorem dX11_act_26 : decode cX11_act 26 = .ok (.aload 4, 2) := by decide +kernel
theorem dX11_act_28 : decode cX11_act 28 = .ok (.invokevirtual 87, 3) := by decide +kernel
theorem dX11_act_31 : decode cX11_act 31 = .ok (.iload_n 1, 1) := by decide +kernel
theorem dX11_act_32 : decode cX11_act 32 = .ok (.tableswitch 67 0 2 #[28, 49, 58], 28) := by decide +kernel
theorem dX11_act_60 : decode cX11_act 60 = .ok (.aload 4, 2) := by decide +kernel
theorem dX11_act_62 : decode cX11_act 62 = .ok (.sipush 999, 3) := by decide +kernel
theorem dX11_act_65 : decode cX11_act 65 = .ok (.aload 4, 2) := by decide +kernel
theorem dX11_act_67 : decode cX11_act 67 = .ok (.getfield 91, 3) := by decide +kernel
theorem dX11_act_70 : decode cX11_act 70 = .ok (.iload_n 3, 1) := by decide +kernel
theorem dX11_act_71 : decode cX11_act 71 = .ok (.iadd, 1) := by decide +kernel
theorem dX11_act_72 : decode cX11_act 72 = .ok (.invokestatic 94, 3) := by decide +kernel
theorem dX11_act_75 : decode cX11_act 75 = .ok (.putfield 91, 3) := by decide +kernel
theorem dX11_act_78 : decode cX11_act 78 = .ok (.goto 28, 3) := by decide +kernel
theorem dX11_act_81 : decode cX11_act 81 = .ok (.aload 4, 2) := by decide +kernel
theorem dX11_act_83 : decode cX11_act 83 = .ok (.iload_n 3, 1) := by decide +kernel
theorem dX11_act_84 : decode cX11_act 84 = .ok (.invokevirtual 100, 3) := by decide +kernel
theorem dX11_act_87 : decode cX11_act 87 = .ok (.goto 19, 3) := by decide +kernel
theorem dX11_act_90 : decode cX11_act 90 = .ok (.aload 4, 2) := by decide +kernel
theorem dX11_act_92 : decode cX11_act 92 = .ok (.iload_n 2, 1) := by decide +kernel
theorem dX11_act_93 : decode cX11_act 93 = .ok (.invokevirtual 104, 3) := by decide +kernel
theorem dX11_act_96 : decode cX11_act 96 = .ok (.goto 10, 3) := by decide +kernel
theorem dX11_act_99 : decode cX11_act 99 = .ok (.aload 4, 2) := by decide +kernel
theorem dX11_act_101 : decode cX11_act 101 = .ok (.iload_n 2, 1) := by decide +kernel
theorem dX11_act_102 : decode cX11_act 102 = .ok (.iload_n 3, 1) := by decide +kernel
theorem dX11_act_103 : decode cX11_act 103 = .ok (.invokevirtual 107, 3) := by decide +kernel
theorem dX11_act_106 : decode cX11_act 106 = .ok (.iconst 1, 1) := by decide +kernel
theorem dX11_act_107 : decode cX11_act 107 = .ok (.ireturn, 1) := by decide +kernel
theorem dX11_days_0 : decode cX11_days 0 = .ok (.aload_n 0, 1) := by decide +kernel
theorem dX11_days_1 : decode cX11_days 1 = .ok (.getfield 12, 3) := by decide +kernel
theorem dX11_days_4 : decode cX11_days 4 = .ok (.getfield 53, 3) := by decide +kernel
theorem dX11_days_7 : decode cX11_days 7 = .ok (.astore_n 2, 1) := by decide +kernel
theorem dX11_days_8 : decode cX11_days 8 = .ok (.iload_n 1, 1) := by decide +kernel
theorem dX11_days_9 : decode cX11_days 9 = .ok (.iconst 1, 1) := by decide +kernel
theorem dX11_days_10 : decode cX11_days 10 = .ok (.if_icmp .lt 21, 3) := by decide +kernel
theorem dX11_days_13 : decode cX11_days 13 = .ok (.iload_n 1, 1) := by decide +kernel
theorem dX11_days_14 : decode cX11_days 14 = .ok (.bipush 60, 2) := by decide +kernel
theorem dX11_days_16 : decode cX11_days 16 = .ok (.if_icmp .gt 15, 3) := by decide +kernel
theorem dX11_days_19 : decode cX11_days 19 = .ok (.aload_n 2, 1) := by decide +kernel
theorem dX11_days_20 : decode cX11_days 20 = .ok (.getfield 111, 3) := by decide +kernel
theorem dX11_days_23 : decode cX11_days 23 = .ok (.iload_n 1, 1) := by decide +kernel
theorem dX11_days_24 : decode cX11_days 24 = .ok (.iadd, 1) := by decide +kernel
theorem dX11_days_25 : decode cX11_days 25 = .ok (.sipush 9999, 3) := by decide +kernel
theorem dX11_days_28 : decode cX11_days 28 = .ok (.if_icmp .le 5, 3) := by decide +kernel
theorem dX11_days_31 : decode cX11_days 31 = .ok (.iconst (-1), 1) := by decide +kernel
theorem dX11_days_32 : decode cX11_days 32 = .ok (.ireturn, 1) := by decide +kernel
theorem dX11_days_33 : decode cX11_days 33 = .ok (.iconst 0, 1) := by decide +kernel
theorem dX11_days_34 : decode cX11_days 34 = .ok (.istore_n 3, 1) := by decide +kernel
theorem dX11_days_35 : decode cX11_days 35 = .ok (.iconst 0, 1) := by decide +kernel
theorem dX11_days_36 : decode cX11_days 36 = .ok (.istore 4, 2) := by decide +kernel
theorem dX11_days_38 : decode cX11_days 38 = .ok (.iload 4, 2) := by decide +kernel
theorem dX11_days_40 : decode cX11_days 40 = .ok (.iload_n 1, 1) := by decide +kernel
theorem dX11_days_41 : decode cX11_days 41 = .ok (.if_icmp .ge 29, 3) := by decide +kernel
theorem dX11_days_44 : decode cX11_days 44 = .ok (.aload_n 0, 1) := by decide +kernel
theorem dX11_days_45 : decode cX11_days 45 = .ok (.getfield 31, 3) := by decide +kernel
theorem dX11_days_48 : decode cX11_days 48 = .ok (.aload_n 2, 1) := by decide +kernel
theorem dX11_days_49 : decode cX11_days 49 = .ok (.invokevirtual 87, 3) := by decide +kernel
theorem dX11_days_52 : decode cX11_days 52 = .ok (.iload_n 3, 1) := by decide +kernel
theorem dX11_days_53 : decode cX11_days 53 = .ok (.aload_n 0, 1) := by decide +kernel
theorem dX11_days_54 : decode cX11_days 54 = .ok (.getfield 12, 3) := by decide +kernel
theorem dX11_days_57 : decode cX11_days 57 = .ok (.aload_n 2, 1) := by decide +kernel
theorem dX11_days_58 : decode cX11_days 58 = .ok (.iconst 0, 1) := by decide +kernel
theorem dX11_days_59 : decode cX11_days 59 = .ok (.invokevirtual 114, 3) := by decide +kernel
theorem dX11_days_62 : decode cX11_days 62 = .ok (.iadd, 1) := by decide +kernel
theorem dX11_days_63 : decode cX11_days 63 = .ok (.istore_n 3, 1) := by decide +kernel
theorem dX11_days_64 : decode cX11_days 64 = .ok (.iinc 4 1, 3) := by decide +kernel
theorem dX11_days_67 : decode cX11_days 67 = .ok (.goto (-29), 3) := by decide +kernel
theorem dX11_days_70 : decode cX11_days 70 = .ok (.iload_n 3, 1) := by decide +kernel
theorem dX11_days_71 : decode cX11_days 71 = .ok (.ireturn, 1) := by decide +kernel
theorem dX11_feed_0 : decode cX11_feed 0 = .ok (.aload_n 0, 1) := by decide +kernel
theorem dX11_feed_1 : decode cX11_feed 1 = .ok (.getfield 118, 3) := by decide +kernel
theorem dX11_feed_4 : decode cX11_feed 4 = .ok (.sipush 380, 3) := by decide +kernel
theorem dX11_feed_7 : decode cX11_feed 7 = .ok (.if_icmp .le 5, 3) := by decide +kernel
theorem dX11_feed_10 : decode cX11_feed 10 = .ok (.iconst (-1), 1) := by decide +kernel
theorem dX11_feed_11 : decode cX11_feed 11 = .ok (.ireturn, 1) := by decide +kernel
theorem dX11_feed_12 : decode cX11_feed 12 = .ok (.aload_n 0, 1) := by decide +kernel
theorem dX11_feed_13 : decode cX11_feed 13 = .ok (.iload_n 1, 1) := by decide +kernel
theorem dX11_feed_14 : decode cX11_feed 14 = .ok (.invokevirtual 121, 3) := by decide +kernel
theorem dX11_feed_17 : decode cX11_feed 17 = .ok (.aload_n 0, 1) := by decide +kernel
theorem dX11_feed_18 : decode cX11_feed 18 = .ok (.iload_n 2, 1) := by decide +kernel
theorem dX11_feed_19 : decode cX11_feed 19 = .ok (.invokevirtual 121, 3) := by decide +kernel
theorem dX11_feed_22 : decode cX11_feed 22 = .ok (.aload_n 0, 1) := by decide +kernel
theorem dX11_feed_23 : decode cX11_feed 23 = .ok (.iload_n 3, 1) := by decide +kernel
theorem dX11_feed_24 : decode cX11_feed 24 = .ok (.invokevirtual 121, 3) := by decide +kernel
theorem dX11_feed_27 : decode cX11_feed 27 = .ok (.aload_n 0, 1) := by decide +kernel
theorem dX11_feed_28 : decode cX11_feed 28 = .ok (.iload 4, 2) := by decide +kernel
theorem dX11_feed_30 : decode cX11_feed 30 = .ok (.invokevirtual 121, 3) := by decide +kernel
theorem dX11_feed_33 : decode cX11_feed 33 = .ok (.aload_n 0, 1) := by decide +kernel
theorem dX11_feed_34 : decode cX11_feed 34 = .ok (.iload 5, 2) := by decide +kernel
theorem dX11_feed_36 : decode cX11_feed 36 = .ok (.invokevirtual 121, 3) := by decide +kernel
theorem dX11_feed_39 : decode cX11_feed 39 = .ok (.aload_n 0, 1) := by decide +kernel
theorem dX11_feed_40 : decode cX11_feed 40 = .ok (.getfield 118, 3) := by decide +kernel
theorem dX11_feed_43 : decode cX11_feed 43 = .ok (.ireturn, 1) := by decide +kernel
theorem dX11_end_0 : decode cX11_end 0 = .ok (.iload_n 1, 1) := by decide +kernel
theorem dX11_end_1 : decode cX11_end 1 = .ok (.ifCond .lt 11, 3) := by decide +kernel
theorem dX11_end_4 : decode cX11_end 4 = .ok (.iload_n 1, 1) := by decide +kernel
theorem dX11_end_5 : decode cX11_end 5 = .ok (.aload_n 0, 1) := by decide +kernel
theorem dX11_end_6 : decode cX11_end 6 = .ok (.getfield 118, 3) := by decide +kernel
theorem dX11_end_9 : decode cX11_end 9 = .ok (.if_icmp .le 5, 3) := by decide +kernel
theorem dX11_end_12 : decode cX11_end 12 = .ok (.iconst 0, 1) := by decide +kernel
theorem dX11_end_13 : decode cX11_end 13 = .ok (.ireturn, 1) := by decide +kernel
theorem dX11_end_14 : decode cX11_end 14 = .ok (.aload_n 0, 1) := by decide +kernel
theorem dX11_end_15 : decode cX11_end 15 = .ok (.iload_n 1, 1) := by decide +kernel
theorem dX11_end_16 : decode cX11_end 16 = .ok (.putfield 118, 3) := by decide +kernel
theorem dX11_end_19 : decode cX11_end 19 = .ok (.iconst 1, 1) := by decide +kernel
theorem dX11_end_20 : decode cX11_end 20 = .ok (.ireturn, 1) := by decide +kernel
theorem dX11_text_0 : decode cX11_text 0 = .ok (.aload_n 0, 1) := by decide +kernel
theorem dX11_text_1 : decode cX11_text 1 = .ok (.getfield 118, 3) := by decide +kernel
theorem dX11_text_4 : decode cX11_text 4 = .ok (.istore_n 2, 1) := by decide +kernel
theorem dX11_text_5 : decode cX11_text 5 = .ok (.aload_n 0, 1) := by decide +kernel
theorem dX11_text_6 : decode cX11_text 6 = .ok (.iconst 0, 1) := by decide +kernel
theorem dX11_text_7 : decode cX11_text 7 = .ok (.putfield 118, 3) := by decide +kernel
theorem dX11_text_10 : decode cX11_text 10 = .ok (.iload_n 1, 1) := by decide +kernel
theorem dX11_text_11 : decode cX11_text 11 = .ok (.ifCond .lt 8, 3) := by decide +kernel
theorem dX11_text_14 : decode cX11_text 14 = .ok (.iload_n 1, 1) := by decide +kernel
theorem dX11_text_15 : decode cX11_text 15 = .ok (.iconst 3, 1) := by decide +kernel
theorem dX11_text_16 : decode cX11_text 16 = .ok (.if_icmp .le 12, 3) := by decide +kernel
theorem dX11_text_19 : decode cX11_text 19 = .ok (.aload_n 0, 1) := by decide +kernel
theorem dX11_text_20 : decode cX11_text 20 = .ok (.getfield 38, 3) := by decide +kernel
theorem dX11_text_23 : decode cX11_text 23 = .ok (.invokevirtual 124, 3) := by decide +kernel
theorem dX11_text_26 : decode cX11_text 26 = .ok (.iconst (-1), 1) := by decide +kernel
theorem dX11_text_27 : decode cX11_text 27 = .ok (.ireturn, 1) := by decide +kernel
theorem dX11_text_28 : decode cX11_text 28 = .ok (.aload_n 0, 1) := by decide +kernel
theorem dX11_text_29 : decode cX11_text 29 = .ok (.getfield 38, 3) := by decide +kernel
theorem dX11_text_32 : decode cX11_text 32 = .ok (.iload_n 1, 1) := by decide +kernel
theorem dX11_text_33 : decode cX11_text 33 = .ok (.aload_n 0, 1) := by decide +kernel
theorem dX11_text_34 : decode cX11_text 34 = .ok (.getfield 49, 3) := by decide +kernel
theorem dX11_text_37 : decode cX11_text 37 = .ok (.iload_n 2, 1) := by decide +kernel
theorem dX11_text_38 : decode cX11_text 38 = .ok (.aload_n 0, 1) := by decide +kernel
theorem dX11_text_39 : decode cX11_text 39 = .ok (.getfield 12, 3) := by decide +kernel
theorem dX11_text_42 : decode cX11_text 42 = .ok (.getfield 53, 3) := by decide +kernel
theorem dX11_text_45 : decode cX11_text 45 = .ok (.invokevirtual 127, 3) := by decide +kernel
theorem dX11_text_48 : decode cX11_text 48 = .ok (.istore_n 3, 1) := by decide +kernel
theorem dX11_text_49 : decode cX11_text 49 = .ok (.iload_n 3, 1) := by decide +kernel
theorem dX11_text_50 : decode cX11_text 50 = .ok (.iconst (-1), 1) := by decide +kernel
theorem dX11_text_51 : decode cX11_text 51 = .ok (.if_icmp .eq 15, 3) := by decide +kernel
theorem dX11_text_54 : decode cX11_text 54 = .ok (.aload_n 0, 1) := by decide +kernel
theorem dX11_text_55 : decode cX11_text 55 = .ok (.getfield 12, 3) := by decide +kernel
theorem dX11_text_58 : decode cX11_text 58 = .ok (.iload_n 1, 1) := by decide +kernel
theorem dX11_text_59 : decode cX11_text 59 = .ok (.aload_n 0, 1) := by decide +kernel
theorem dX11_text_60 : decode cX11_text 60 = .ok (.getfield 38, 3) := by decide +kernel
theorem dX11_text_63 : decode cX11_text 63 = .ok (.invokevirtual 131, 3) := by decide +kernel
theorem dX11_text_66 : decode cX11_text 66 = .ok (.iload_n 3, 1) := by decide +kernel
theorem dX11_text_67 : decode cX11_text 67 = .ok (.iconst (-1), 1) := by decide +kernel
theorem dX11_text_68 : decode cX11_text 68 = .ok (.if_icmp .eq 15, 3) := by decide +kernel
theorem dX11_text_71 : decode cX11_text 71 = .ok (.iload_n 1, 1) := by decide +kernel
theorem dX11_text_72 : decode cX11_text 72 = .ok (.iconst 2, 1) := by decide +kernel
theorem dX11_text_73 : decode cX11_text 73 = .ok (.if_icmp .ne 10, 3) := by decide +kernel
theorem dX11_text_76 : decode cX11_text 76 = .ok (.aload_n 0, 1) := by decide +kernel
theorem dX11_text_77 : decode cX11_text 77 = .ok (.getfield 31, 3) := by decide +kernel
theorem dX11_text_80 : decode cX11_text 80 = .ok (.invokevirtual 60, 3) := by decide +kernel
theorem dX11_text_83 : decode cX11_text 83 = .ok (.iload_n 3, 1) := by decide +kernel
theorem dX11_text_84 : decode cX11_text 84 = .ok (.ireturn, 1) := by decide +kernel
theorem dX11_fault_0 : decode cX11_fault 0 = .ok (.iload_n 1, 1) := by decide +kernel
theorem dX11_fault_1 : decode cX11_fault 1 = .ok (.ifCond .ne 11, 3) := by decide +kernel
theorem dX11_fault_4 : decode cX11_fault 4 = .ok (.aload_n 0, 1) := by decide +kernel
theorem dX11_fault_5 : decode cX11_fault 5 = .ok (.getfield 38, 3) := by decide +kernel
theorem dX11_fault_8 : decode cX11_fault 8 = .ok (.getfield 135, 3) := by decide +kernel
theorem dX11_fault_11 : decode cX11_fault 11 = .ok (.ireturn, 1) := by decide +kernel
theorem dX11_fault_12 : decode cX11_fault 12 = .ok (.iload_n 1, 1) := by decide +kernel
theorem dX11_fault_13 : decode cX11_fault 13 = .ok (.iconst 1, 1) := by decide +kernel
theorem dX11_fault_14 : decode cX11_fault 14 = .ok (.if_icmp .ne 13, 3) := by decide +kernel
theorem dX11_fault_17 : decode cX11_fault 17 = .ok (.aload_n 0, 1) := by decide +kernel
theorem dX11_fault_18 : decode cX11_fault 18 = .ok (.getfield 38, 3) := by decide +kernel
theorem dX11_fault_21 : decode cX11_fault 21 = .ok (.getfield 138, 3) := by decide +kernel
theorem dX11_fault_24 : decode cX11_fault 24 = .ok (.goto 4, 3) := by decide +kernel
theorem dX11_fault_27 : decode cX11_fault 27 = .ok (.iconst (-1), 1) := by decide +kernel
theorem dX11_fault_28 : decode cX11_fault 28 = .ok (.ireturn, 1) := by decide +kernel
theorem dX11_of_0 : decode cX11_of 0 = .ok (.aload_n 0, 1) := by decide +kernel
theorem dX11_of_1 : decode cX11_of 1 = .ok (.getfield 12, 3) := by decide +kernel
theorem dX11_of_4 : decode cX11_of 4 = .ok (.getfield 53, 3) := by decide +kernel
theorem dX11_of_7 : decode cX11_of 7 = .ok (.astore_n 3, 1) := by decide +kernel
theorem dX11_of_8 : decode cX11_of 8 = .ok (.aload_n 3, 1) := by decide +kernel
theorem dX11_of_9 : decode cX11_of 9 = .ok (.iload_n 1, 1) := by decide +kernel
theorem dX11_of_10 : decode cX11_of 10 = .ok (.invokevirtual 141, 3) := by decide +kernel
theorem dX11_of_13 : decode cX11_of 13 = .ok (.ifCond .ne 6, 3) := by decide +kernel
theorem dX11_of_16 : decode cX11_of 16 = .ok (.bipush (-100), 2) := by decide +kernel
theorem dX11_of_18 : decode cX11_of 18 = .ok (.ireturn, 1) := by decide +kernel
theorem dX11_of_19 : decode cX11_of 19 = .ok (.iload_n 2, 1) := by decide +kernel
theorem dX11_of_20 : decode cX11_of 20 = .ok (.bipush 7, 2) := by decide +kernel
theorem dX11_of_22 : decode cX11_of 22 = .ok (.if_icmp .lt 26, 3) := by decide +kernel
theorem dX11_of_25 : decode cX11_of 25 = .ok (.iload_n 2, 1) := by decide +kernel
theorem dX11_of_26 : decode cX11_of 26 = .ok (.bipush 9, 2) := by decide +kernel
theorem dX11_of_28 : decode cX11_of 28 = .ok (.if_icmp .gt 20, 3) := by decide +kernel
theorem dX11_of_31 : decode cX11_of 31 = .ok (.aload_n 0, 1) := by decide +kernel
theorem dX11_of_32 : decode cX11_of 32 = .ok (.getfield 12, 3) := by decide +kernel
theorem dX11_of_35 : decode cX11_of 35 = .ok (.getfield 145, 3) := by decide +kernel
theorem dX11_of_38 : decode cX11_of 38 = .ok (.iload_n 2, 1) := by decide +kernel
theorem dX11_of_39 : decode cX11_of 39 = .ok (.bipush 7, 2) := by decide +kernel
theorem dX11_of_41 : decode cX11_of 41 = .ok (.isub, 1) := by decide +kernel
theorem dX11_of_42 : decode cX11_of 42 = .ok (.aload_n 3, 1) := by decide +kernel
theorem dX11_of_43 : decode cX11_of 43 = .ok (.iload_n 1, 1) := by decide +kernel
theorem dX11_of_44 : decode cX11_of 44 = .ok (.invokevirtual 149, 3) := by decide +kernel
theorem dX11_of_47 : decode cX11_of 47 = .ok (.ireturn, 1) := by decide +kernel
theorem dX11_of_48 : decode cX11_of 48 = .ok (.aload_n 3, 1) := by decide +kernel
theorem dX11_of_49 : decode cX11_of 49 = .ok (.iload_n 1, 1) := by decide +kernel
theorem dX11_of_50 : decode cX11_of 50 = .ok (.iload_n 2, 1) := by decide +kernel
theorem dX11_of_51 : decode cX11_of 51 = .ok (.invokevirtual 155, 3) := by decide +kernel
theorem dX11_of_54 : decode cX11_of 54 = .ok (.ireturn, 1) := by decide +kernel
theorem dX11_at_0 : decode cX11_at 0 = .ok (.aload_n 0, 1) := by decide +kernel
theorem dX11_at_1 : decode cX11_at 1 = .ok (.getfield 12, 3) := by decide +kernel
theorem dX11_at_4 : decode cX11_at 4 = .ok (.getfield 53, 3) := by decide +kernel
theorem dX11_at_7 : decode cX11_at 7 = .ok (.astore_n 3, 1) := by decide +kernel
theorem dX11_at_8 : decode cX11_at 8 = .ok (.aload_n 3, 1) := by decide +kernel
theorem dX11_at_9 : decode cX11_at 9 = .ok (.iload_n 1, 1) := by decide +kernel
theorem dX11_at_10 : decode cX11_at 10 = .ok (.invokevirtual 158, 3) := by decide +kernel
theorem dX11_at_13 : decode cX11_at 13 = .ok (.ifCond .ne 7, 3) := by decide +kernel
theorem dX11_at_16 : decode cX11_at 16 = .ok (.sipush (-200), 3) := by decide +kernel
theorem dX11_at_19 : decode cX11_at 19 = .ok (.ireturn, 1) := by decide +kernel
theorem dX11_at_20 : decode cX11_at 20 = .ok (.iload_n 2, 1) := by decide +kernel
theorem dX11_at_21 : decode cX11_at 21 = .ok (.tableswitch 48 0 2 #[27, 34, 41], 27) := by decide +kernel
theorem dX11_at_48 : decode cX11_at 48 = .ok (.aload_n 3, 1) := by decide +kernel
theorem dX11_at_49 : decode cX11_at 49 = .ok (.getfield 161, 3) := by decide +kernel
theorem dX11_at_52 : decode cX11_at 52 = .ok (.iload_n 1, 1) := by decide +kernel
theorem dX11_at_53 : decode cX11_at 53 = .ok (.iaload, 1) := by decide +kernel
theorem dX11_at_54 : decode cX11_at 54 = .ok (.ireturn, 1) := by decide +kernel
theorem dX11_at_55 : decode cX11_at 55 = .ok (.aload_n 3, 1) := by decide +kernel
theorem dX11_at_56 : decode cX11_at 56 = .ok (.getfield 165, 3) := by decide +kernel
theorem dX11_at_59 : decode cX11_at 59 = .ok (.iload_n 1, 1) := by decide +kernel
theorem dX11_at_60 : decode cX11_at 60 = .ok (.iaload, 1) := by decide +kernel
theorem dX11_at_61 : decode cX11_at 61 = .ok (.ireturn, 1) := by decide +kernel
theorem dX11_at_62 : decode cX11_at 62 = .ok (.aload_n 3, 1) := by decide +kernel
theorem dX11_at_63 : decode cX11_at 63 = .ok (.getfield 168, 3) := by decide +kernel
theorem dX11_at_66 : decode cX11_at 66 = .ok (.iload_n 1, 1) := by decide +kernel
theorem dX11_at_67 : decode cX11_at 67 = .ok (.iaload, 1) := by decide +kernel
theorem dX11_at_68 : decode cX11_at 68 = .ok (.ireturn, 1) := by decide +kernel
theorem dX11_at_69 : decode cX11_at 69 = .ok (.sipush (-200), 3) := by decide +kernel
theorem dX11_at_72 : decode cX11_at 72 = .ok (.ireturn, 1) := by decide +kernel
theorem dX11_sky_0 : decode cX11_sky 0 = .ok (.aload_n 0, 1) := by decide +kernel
theorem dX11_sky_1 : decode cX11_sky 1 = .ok (.getfield 12, 3) := by decide +kernel
theorem dX11_sky_4 : decode cX11_sky 4 = .ok (.getfield 171, 3) := by decide +kernel
theorem dX11_sky_7 : decode cX11_sky 7 = .ok (.iload_n 1, 1) := by decide +kernel
theorem dX11_sky_8 : decode cX11_sky 8 = .ok (.invokevirtual 175, 3) := by decide +kernel
theorem dX11_sky_11 : decode cX11_sky 11 = .ok (.ireturn, 1) := by decide +kernel
theorem dX11_book_0 : decode cX11_book 0 = .ok (.iload_n 1, 1) := by decide +kernel
theorem dX11_book_1 : decode cX11_book 1 = .ok (.ifCond .lt 26, 3) := by decide +kernel
theorem dX11_book_4 : decode cX11_book 4 = .ok (.iload_n 1, 1) := by decide +kernel
theorem dX11_book_5 : decode cX11_book 5 = .ok (.aload_n 0, 1) := by decide +kernel
theorem dX11_book_6 : decode cX11_book 6 = .ok (.getfield 12, 3) := by decide +kernel
theorem dX11_book_9 : decode cX11_book 9 = .ok (.getfield 53, 3) := by decide +kernel
theorem dX11_book_12 : decode cX11_book 12 = .ok (.getfield 180, 3) := by decide +kernel
theorem dX11_book_15 : decode cX11_book 15 = .ok (.if_icmp .ge 12, 3) := by decide +kernel
theorem dX11_book_18 : decode cX11_book 18 = .ok (.iload_n 2, 1) := by decide +kernel
theorem dX11_book_19 : decode cX11_book 19 = .ok (.ifCond .lt 8, 3) := by decide +kernel
theorem dX11_book_22 : decode cX11_book 22 = .ok (.iload_n 2, 1) := by decide +kernel
theorem dX11_book_23 : decode cX11_book 23 = .ok (.iconst 3, 1) := by decide +kernel
theorem dX11_book_24 : decode cX11_book 24 = .ok (.if_icmp .le 6, 3) := by decide +kernel
theorem dX11_book_27 : decode cX11_book 27 = .ok (.bipush (-100), 2) := by decide +kernel
theorem dX11_book_29 : decode cX11_book 29 = .ok (.ireturn, 1) := by decide +kernel
theorem dX11_book_30 : decode cX11_book 30 = .ok (.aload_n 0, 1) := by decide +kernel
theorem dX11_book_31 : decode cX11_book 31 = .ok (.getfield 12, 3) := by decide +kernel
theorem dX11_book_34 : decode cX11_book 34 = .ok (.getfield 53, 3) := by decide +kernel
theorem dX11_book_37 : decode cX11_book 37 = .ok (.iload_n 1, 1) := by decide +kernel
theorem dX11_book_38 : decode cX11_book 38 = .ok (.iload_n 2, 1) := by decide +kernel
theorem dX11_book_39 : decode cX11_book 39 = .ok (.invokevirtual 183, 3) := by decide +kernel
theorem dX11_book_42 : decode cX11_book 42 = .ok (.ireturn, 1) := by decide +kernel
theorem dX11_goes_0 : decode cX11_goes 0 = .ok (.iload_n 1, 1) := by decide +kernel
theorem dX11_goes_1 : decode cX11_goes 1 = .ok (.iconst 1, 1) := by decide +kernel
theorem dX11_goes_2 : decode cX11_goes 2 = .ok (.if_icmp .lt 18, 3) := by decide +kernel
theorem dX11_goes_5 : decode cX11_goes 5 = .ok (.iload_n 1, 1) := by decide +kernel
theorem dX11_goes_6 : decode cX11_goes 6 = .ok (.bipush 60, 2) := by decide +kernel
theorem dX11_goes_8 : decode cX11_goes 8 = .ok (.if_icmp .gt 12, 3) := by decide +kernel
theorem dX11_goes_11 : decode cX11_goes 11 = .ok (.iload_n 2, 1) := by decide +kernel
theorem dX11_goes_12 : decode cX11_goes 12 = .ok (.ifCond .lt 8, 3) := by decide +kernel
theorem dX11_goes_15 : decode cX11_goes 15 = .ok (.iload_n 2, 1) := by decide +kernel
theorem dX11_goes_16 : decode cX11_goes 16 = .ok (.iconst 3, 1) := by decide +kernel
theorem dX11_goes_17 : decode cX11_goes 17 = .ok (.if_icmp .le 6, 3) := by decide +kernel
theorem dX11_goes_20 : decode cX11_goes 20 = .ok (.bipush (-100), 2) := by decide +kernel
theorem dX11_goes_22 : decode cX11_goes 22 = .ok (.ireturn, 1) := by decide +kernel
theorem dX11_goes_23 : decode cX11_goes 23 = .ok (.aload_n 0, 1) := by decide +kernel
theorem dX11_goes_24 : decode cX11_goes 24 = .ok (.getfield 24, 3) := by decide +kernel
theorem dX11_goes_27 : decode cX11_goes 27 = .ok (.aload_n 0, 1) := by decide +kernel
theorem dX11_goes_28 : decode cX11_goes 28 = .ok (.getfield 12, 3) := by decide +kernel
theorem dX11_goes_31 : decode cX11_goes 31 = .ok (.getfield 53, 3) := by decide +kernel
theorem dX11_goes_34 : decode cX11_goes 34 = .ok (.invokevirtual 186, 3) := by decide +kernel
theorem dX11_goes_37 : decode cX11_goes 37 = .ok (.iconst 0, 1) := by decide +kernel
theorem dX11_goes_38 : decode cX11_goes 38 = .ok (.istore_n 3, 1) := by decide +kernel
theorem dX11_goes_39 : decode cX11_goes 39 = .ok (.iload_n 3, 1) := by decide +kernel
theorem dX11_goes_40 : decode cX11_goes 40 = .ok (.iload_n 1, 1) := by decide +kernel
theorem dX11_goes_41 : decode cX11_goes 41 = .ok (.if_icmp .ge 22, 3) := by decide +kernel
theorem dX11_goes_44 : decode cX11_goes 44 = .ok (.aload_n 0, 1) := by decide +kernel
theorem dX11_goes_45 : decode cX11_goes 45 = .ok (.getfield 12, 3) := by decide +kernel
theorem dX11_goes_48 : decode cX11_goes 48 = .ok (.aload_n 0, 1) := by decide +kernel
theorem dX11_goes_49 : decode cX11_goes 49 = .ok (.getfield 24, 3) := by decide +kernel
theorem dX11_goes_52 : decode cX11_goes 52 = .ok (.iconst 1, 1) := by decide +kernel
theorem dX11_goes_53 : decode cX11_goes 53 = .ok (.invokevirtual 114, 3) := by decide +kernel
theorem dX11_goes_56 : decode cX11_goes 56 = .ok (.pop, 1) := by decide +kernel
theorem dX11_goes_57 : decode cX11_goes 57 = .ok (.iinc 3 1, 3) := by decide +kernel
theorem dX11_goes_60 : decode cX11_goes 60 = .ok (.goto (-21), 3) := by decide +kernel
theorem dX11_goes_63 : decode cX11_goes 63 = .ok (.iload_n 2, 1) := by decide +kernel
theorem dX11_goes_64 : decode cX11_goes 64 = .ok (.tableswitch 55 0 2 #[28, 39, 47], 28) := by decide +kernel
theorem dX11_goes_92 : decode cX11_goes 92 = .ok (.aload_n 0, 1) := by decide +kernel
theorem dX11_goes_93 : decode cX11_goes 93 = .ok (.getfield 24, 3) := by decide +kernel
theorem dX11_goes_96 : decode cX11_goes 96 = .ok (.getfield 189, 3) := by decide +kernel
theorem dX11_goes_99 : decode cX11_goes 99 = .ok (.invokestatic 192, 3) := by decide +kernel
theorem dX11_goes_102 : decode cX11_goes 102 = .ok (.ireturn, 1) := by decide +kernel
theorem dX11_goes_103 : decode cX11_goes 103 = .ok (.aload_n 0, 1) := by decide +kernel
theorem dX11_goes_104 : decode cX11_goes 104 = .ok (.getfield 24, 3) := by decide +kernel
theorem dX11_goes_107 : decode cX11_goes 107 = .ok (.getfield 197, 3) := by decide +kernel
theorem dX11_goes_110 : decode cX11_goes 110 = .ok (.ireturn, 1) := by decide +kernel
theorem dX11_goes_111 : decode cX11_goes 111 = .ok (.aload_n 0, 1) := by decide +kernel
theorem dX11_goes_112 : decode cX11_goes 112 = .ok (.getfield 24, 3) := by decide +kernel
theorem dX11_goes_115 : decode cX11_goes 115 = .ok (.invokevirtual 200, 3) := by decide +kernel
theorem dX11_goes_118 : decode cX11_goes 118 = .ok (.ireturn, 1) := by decide +kernel
theorem dX11_goes_119 : decode cX11_goes 119 = .ok (.aload_n 0, 1) := by decide +kernel
theorem dX11_goes_120 : decode cX11_goes 120 = .ok (.getfield 24, 3) := by decide +kernel
theorem dX11_goes_123 : decode cX11_goes 123 = .ok (.invokevirtual 204, 3) := by decide +kernel
theorem dX11_goes_126 : decode cX11_goes 126 = .ok (.ireturn, 1) := by decide +kernel
theorem dX11_loaves_0 : decode cX11_loaves 0 = .ok (.aload_n 0, 1) := by decide +kernel
theorem dX11_loaves_1 : decode cX11_loaves 1 = .ok (.getfield 12, 3) := by decide +kernel
theorem dX11_loaves_4 : decode cX11_loaves 4 = .ok (.getfield 53, 3) := by decide +kernel
theorem dX11_loaves_7 : decode cX11_loaves 7 = .ok (.astore_n 1, 1) := by decide +kernel
theorem dX11_loaves_8 : decode cX11_loaves 8 = .ok (.iconst 0, 1) := by decide +kernel
theorem dX11_loaves_9 : decode cX11_loaves 9 = .ok (.istore_n 2, 1) := by decide +kernel
theorem dX11_loaves_10 : decode cX11_loaves 10 = .ok (.iconst 0, 1) := by decide +kernel
theorem dX11_loaves_11 : decode cX11_loaves 11 = .ok (.istore_n 3, 1) := by decide +kernel
theorem dX11_loaves_12 : decode cX11_loaves 12 = .ok (.iload_n 3, 1) := by decide +kernel
theorem dX11_loaves_13 : decode cX11_loaves 13 = .ok (.aload_n 1, 1) := by decide +kernel
theorem dX11_loaves_14 : decode cX11_loaves 14 = .ok (.getfield 63, 3) := by decide +kernel
theorem dX11_loaves_17 : decode cX11_loaves 17 = .ok (.if_icmp .ge 39, 3) := by decide +kernel
theorem dX11_loaves_20 : decode cX11_loaves 20 = .ok (.aload_n 1, 1) := by decide +kernel
theorem dX11_loaves_21 : decode cX11_loaves 21 = .ok (.iload_n 3, 1) := by decide +kernel
theorem dX11_loaves_22 : decode cX11_loaves 22 = .ok (.invokevirtual 207, 3) := by decide +kernel
theorem dX11_loaves_25 : decode cX11_loaves 25 = .ok (.istore 4, 2) := by decide +kernel
theorem dX11_loaves_27 : decode cX11_loaves 27 = .ok (.iload 4, 2) := by decide +kernel
theorem dX11_loaves_29 : decode cX11_loaves 29 = .ok (.iconst (-1), 1) := by decide +kernel
theorem dX11_loaves_30 : decode cX11_loaves 30 = .ok (.if_icmp .eq 20, 3) := by decide +kernel
theorem dX11_loaves_33 : decode cX11_loaves 33 = .ok (.iload_n 2, 1) := by decide +kernel
theorem dX11_loaves_34 : decode cX11_loaves 34 = .ok (.aload_n 0, 1) := by decide +kernel
theorem dX11_loaves_35 : decode cX11_loaves 35 = .ok (.getfield 12, 3) := by decide +kernel
theorem dX11_loaves_38 : decode cX11_loaves 38 = .ok (.getfield 145, 3) := by decide +kernel
theorem dX11_loaves_41 : decode cX11_loaves 41 = .ok (.iconst 0, 1) := by decide +kernel
theorem dX11_loaves_42 : decode cX11_loaves 42 = .ok (.aload_n 1, 1) := by decide +kernel
theorem dX11_loaves_43 : decode cX11_loaves 43 = .ok (.iload 4, 2) := by decide +kernel
theorem dX11_loaves_45 : decode cX11_loaves 45 = .ok (.invokevirtual 149, 3) := by decide +kernel
theorem dX11_loaves_48 : decode cX11_loaves 48 = .ok (.iadd, 1) := by decide +kernel
theorem dX11_loaves_49 : decode cX11_loaves 49 = .ok (.istore_n 2, 1) := by decide +kernel
theorem dX11_loaves_50 : decode cX11_loaves 50 = .ok (.iinc 3 1, 3) := by decide +kernel
theorem dX11_loaves_53 : decode cX11_loaves 53 = .ok (.goto (-41), 3) := by decide +kernel
theorem dX11_loaves_56 : decode cX11_loaves 56 = .ok (.iload_n 2, 1) := by decide +kernel
theorem dX11_loaves_57 : decode cX11_loaves 57 = .ok (.ireturn, 1) := by decide +kernel
theorem dX11_heir_0 : decode cX11_heir 0 = .ok (.iload_n 1, 1) := by decide +kernel
theorem dX11_heir_1 : decode cX11_heir 1 = .ok (.ifCond .lt 9, 3) := by decide +kernel
theorem dX11_heir_4 : decode cX11_heir 4 = .ok (.iload_n 1, 1) := by decide +kernel
theorem dX11_heir_5 : decode cX11_heir 5 = .ok (.bipush 14, 2) := by decide +kernel
theorem dX11_heir_7 : decode cX11_heir 7 = .ok (.if_icmp .lt 5, 3) := by decide +kernel
theorem dX11_heir_10 : decode cX11_heir 10 = .ok (.iconst (-1), 1) := by decide +kernel
theorem dX11_heir_11 : decode cX11_heir 11 = .ok (.ireturn, 1) := by decide +kernel
theorem dX11_heir_12 : decode cX11_heir 12 = .ok (.aload_n 0, 1) := by decide +kernel
theorem dX11_heir_13 : decode cX11_heir 13 = .ok (.getfield 24, 3) := by decide +kernel
theorem dX11_heir_16 : decode cX11_heir 16 = .ok (.aload_n 0, 1) := by decide +kernel
theorem dX11_heir_17 : decode cX11_heir 17 = .ok (.getfield 12, 3) := by decide +kernel
theorem dX11_heir_20 : decode cX11_heir 20 = .ok (.getfield 53, 3) := by decide +kernel
theorem dX11_heir_23 : decode cX11_heir 23 = .ok (.invokevirtual 186, 3) := by decide +kernel
theorem dX11_heir_26 : decode cX11_heir 26 = .ok (.iconst 0, 1) := by decide +kernel
theorem dX11_heir_27 : decode cX11_heir 27 = .ok (.istore_n 2, 1) := by decide +kernel
theorem dX11_heir_28 : decode cX11_heir 28 = .ok (.iload_n 2, 1) := by decide +kernel
theorem dX11_heir_29 : decode cX11_heir 29 = .ok (.iload_n 1, 1) := by decide +kernel
theorem dX11_heir_30 : decode cX11_heir 30 = .ok (.if_icmp .ge 37, 3) := by decide +kernel
theorem dX11_heir_33 : decode cX11_heir 33 = .ok (.aload_n 0, 1) := by decide +kernel
theorem dX11_heir_34 : decode cX11_heir 34 = .ok (.getfield 24, 3) := by decide +kernel
theorem dX11_heir_37 : decode cX11_heir 37 = .ok (.aload_n 0, 1) := by decide +kernel
theorem dX11_heir_38 : decode cX11_heir 38 = .ok (.getfield 24, 3) := by decide +kernel
theorem dX11_heir_41 : decode cX11_heir 41 = .ok (.aload_n 0, 1) := by decide +kernel
theorem dX11_heir_42 : decode cX11_heir 42 = .ok (.getfield 24, 3) := by decide +kernel
theorem dX11_heir_45 : decode cX11_heir 45 = .ok (.invokevirtual 210, 3) := by decide +kernel
theorem dX11_heir_48 : decode cX11_heir 48 = .ok (.invokevirtual 207, 3) := by decide +kernel
theorem dX11_heir_51 : decode cX11_heir 51 = .ok (.invokevirtual 213, 3) := by decide +kernel
theorem dX11_heir_54 : decode cX11_heir 54 = .ok (.aload_n 0, 1) := by decide +kernel
theorem dX11_heir_55 : decode cX11_heir 55 = .ok (.getfield 24, 3) := by decide +kernel
theorem dX11_heir_58 : decode cX11_heir 58 = .ok (.invokevirtual 216, 3) := by decide +kernel
theorem dX11_heir_61 : decode cX11_heir 61 = .ok (.iinc 2 1, 3) := by decide +kernel
theorem dX11_heir_64 : decode cX11_heir 64 = .ok (.goto (-36), 3) := by decide +kernel
theorem dX11_heir_67 : decode cX11_heir 67 = .ok (.aload_n 0, 1) := by decide +kernel
theorem dX11_heir_68 : decode cX11_heir 68 = .ok (.getfield 24, 3) := by decide +kernel
theorem dX11_heir_71 : decode cX11_heir 71 = .ok (.aload_n 0, 1) := by decide +kernel
theorem dX11_heir_72 : decode cX11_heir 72 = .ok (.getfield 24, 3) := by decide +kernel
theorem dX11_heir_75 : decode cX11_heir 75 = .ok (.invokevirtual 210, 3) := by decide +kernel
theorem dX11_heir_78 : decode cX11_heir 78 = .ok (.invokevirtual 207, 3) := by decide +kernel
theorem dX11_heir_81 : decode cX11_heir 81 = .ok (.ireturn, 1) := by decide +kernel
theorem dX11_comes_0 : decode cX11_comes 0 = .ok (.aload_n 0, 1) := by decide +kernel
theorem dX11_comes_1 : decode cX11_comes 1 = .ok (.getfield 12, 3) := by decide +kernel
theorem dX11_comes_4 : decode cX11_comes 4 = .ok (.getfield 53, 3) := by decide +kernel
theorem dX11_comes_7 : decode cX11_comes 7 = .ok (.astore_n 3, 1) := by decide +kernel
theorem dX11_comes_8 : decode cX11_comes 8 = .ok (.aload_n 3, 1) := by decide +kernel
theorem dX11_comes_9 : decode cX11_comes 9 = .ok (.invokevirtual 210, 3) := by decide +kernel
theorem dX11_comes_12 : decode cX11_comes 12 = .ok (.istore 4, 2) := by decide +kernel
theorem dX11_comes_14 : decode cX11_comes 14 = .ok (.iload_n 1, 1) := by decide +kernel
theorem dX11_comes_15 : decode cX11_comes 15 = .ok (.bipush (-99), 2) := by decide +kernel
theorem dX11_comes_17 : decode cX11_comes 17 = .ok (.bipush 99, 2) := by decide +kernel
theorem dX11_comes_19 : decode cX11_comes 19 = .ok (.invokestatic 70, 3) := by decide +kernel
theorem dX11_comes_22 : decode cX11_comes 22 = .ok (.ifCond .eq 17, 3) := by decide +kernel
theorem dX11_comes_25 : decode cX11_comes 25 = .ok (.aload_n 3, 1) := by decide +kernel
theorem dX11_comes_26 : decode cX11_comes 26 = .ok (.iload_n 2, 1) := by decide +kernel
theorem dX11_comes_27 : decode cX11_comes 27 = .ok (.invokevirtual 158, 3) := by decide +kernel
theorem dX11_comes_30 : decode cX11_comes 30 = .ok (.ifCond .eq 9, 3) := by decide +kernel
theorem dX11_comes_33 : decode cX11_comes 33 = .ok (.iload_n 2, 1) := by decide +kernel
theorem dX11_comes_34 : decode cX11_comes 34 = .ok (.iload 4, 2) := by decide +kernel
theorem dX11_comes_36 : decode cX11_comes 36 = .ok (.if_icmp .le 6, 3) := by decide +kernel
theorem dX11_comes_39 : decode cX11_comes 39 = .ok (.bipush (-100), 2) := by decide +kernel
theorem dX11_comes_41 : decode cX11_comes 41 = .ok (.ireturn, 1) := by decide +kernel
theorem dX11_comes_42 : decode cX11_comes 42 = .ok (.iload_n 1, 1) := by decide +kernel
theorem dX11_comes_43 : decode cX11_comes 43 = .ok (.istore 5, 2) := by decide +kernel
theorem dX11_comes_45 : decode cX11_comes 45 = .ok (.iload 4, 2) := by decide +kernel
theorem dX11_comes_47 : decode cX11_comes 47 = .ok (.iconst 1, 1) := by decide +kernel
theorem dX11_comes_48 : decode cX11_comes 48 = .ok (.isub, 1) := by decide +kernel
theorem dX11_comes_49 : decode cX11_comes 49 = .ok (.istore 6, 2) := by decide +kernel
theorem dX11_comes_51 : decode cX11_comes 51 = .ok (.iload 6, 2) := by decide +kernel
theorem dX11_comes_53 : decode cX11_comes 53 = .ok (.iload_n 2, 1) := by decide +kernel
theorem dX11_comes_54 : decode cX11_comes 54 = .ok (.if_icmp .lt 23, 3) := by decide +kernel
theorem dX11_comes_57 : decode cX11_comes 57 = .ok (.aload_n 0, 1) := by decide +kernel
theorem dX11_comes_58 : decode cX11_comes 58 = .ok (.getfield 12, 3) := by decide +kernel
theorem dX11_comes_61 : decode cX11_comes 61 = .ok (.aload_n 3, 1) := by decide +kernel
theorem dX11_comes_62 : decode cX11_comes 62 = .ok (.iload 6, 2) := by decide +kernel
theorem dX11_comes_64 : decode cX11_comes 64 = .ok (.iload 5, 2) := by decide +kernel
theorem dX11_comes_66 : decode cX11_comes 66 = .ok (.invokevirtual 219, 3) := by decide +kernel
theorem dX11_comes_69 : decode cX11_comes 69 = .ok (.istore 5, 2) := by decide +kernel
theorem dX11_comes_71 : decode cX11_comes 71 = .ok (.iinc 6 (-1), 3) := by decide +kernel
theorem dX11_comes_74 : decode cX11_comes 74 = .ok (.goto (-23), 3) := by decide +kernel
theorem dX11_comes_77 : decode cX11_comes 77 = .ok (.iload 5, 2) := by decide +kernel
theorem dX11_comes_79 : decode cX11_comes 79 = .ok (.ireturn, 1) := by decide +kernel
theorem dX11_scandal_0 : decode cX11_scandal 0 = .ok (.iload_n 1, 1) := by decide +kernel
theorem dX11_scandal_1 : decode cX11_scandal 1 = .ok (.ifCond .eq 10, 3) := by decide +kernel
theorem dX11_scandal_4 : decode cX11_scandal 4 = .ok (.iload_n 1, 1) := by decide +kernel
theorem dX11_scandal_5 : decode cX11_scandal 5 = .ok (.iconst 1, 1) := by decide +kernel
theorem dX11_scandal_6 : decode cX11_scandal 6 = .ok (.if_icmp .eq 5, 3) := by decide +kernel
theorem dX11_scandal_9 : decode cX11_scandal 9 = .ok (.iconst (-1), 1) := by decide +kernel
theorem dX11_scandal_10 : decode cX11_scandal 10 = .ok (.ireturn, 1) := by decide +kernel
theorem dX11_scandal_11 : decode cX11_scandal 11 = .ok (.iconst (-1), 1) := by decide +kernel
theorem dX11_scandal_12 : decode cX11_scandal 12 = .ok (.istore_n 2, 1) := by decide +kernel
theorem dX11_scandal_13 : decode cX11_scandal 13 = .ok (.iconst (-1), 1) := by decide +kernel
theorem dX11_scandal_14 : decode cX11_scandal 14 = .ok (.istore_n 3, 1) := by decide +kernel
theorem dX11_scandal_15 : decode cX11_scandal 15 = .ok (.aload_n 0, 1) := by decide +kernel
theorem dX11_scandal_16 : decode cX11_scandal 16 = .ok (.getfield 12, 3) := by decide +kernel
theorem dX11_scandal_19 : decode cX11_scandal 19 = .ok (.getfield 53, 3) := by decide +kernel
theorem dX11_scandal_22 : decode cX11_scandal 22 = .ok (.invokevirtual 223, 3) := by decide +kernel
theorem dX11_scandal_25 : decode cX11_scandal 25 = .ok (.istore 4, 2) := by decide +kernel
theorem dX11_scandal_27 : decode cX11_scandal 27 = .ok (.iconst 1, 1) := by decide +kernel
theorem dX11_scandal_28 : decode cX11_scandal 28 = .ok (.istore 5, 2) := by decide +kernel
theorem dX11_scandal_30 : decode cX11_scandal 30 = .ok (.iload 5, 2) := by decide +kernel
theorem dX11_scandal_32 : decode cX11_scandal 32 = .ok (.iload 4, 2) := by decide +kernel
theorem dX11_scandal_34 : decode cX11_scandal 34 = .ok (.if_icmp .ge 56, 3) := by decide +kernel
theorem dX11_scandal_37 : decode cX11_scandal 37 = .ok (.aload_n 0, 1) := by decide +kernel
theorem dX11_scandal_38 : decode cX11_scandal 38 = .ok (.getfield 12, 3) := by decide +kernel
theorem dX11_scandal_41 : decode cX11_scandal 41 = .ok (.getfield 53, 3) := by decide +kernel
theorem dX11_scandal_44 : decode cX11_scandal 44 = .ok (.iconst 0, 1) := by decide +kernel
theorem dX11_scandal_45 : decode cX11_scandal 45 = .ok (.iload 5, 2) := by decide +kernel
theorem dX11_scandal_47 : decode cX11_scandal 47 = .ok (.invokevirtual 226, 3) := by decide +kernel
theorem dX11_scandal_50 : decode cX11_scandal 50 = .ok (.aload_n 0, 1) := by decide +kernel
theorem dX11_scandal_51 : decode cX11_scandal 51 = .ok (.getfield 12, 3) := by decide +kernel
theorem dX11_scandal_54 : decode cX11_scandal 54 = .ok (.getfield 53, 3) := by decide +kernel
theorem dX11_scandal_57 : decode cX11_scandal 57 = .ok (.iload 5, 2) := by decide +kernel
theorem dX11_scandal_59 : decode cX11_scandal 59 = .ok (.iload 4, 2) := by decide +kernel
theorem dX11_scandal_61 : decode cX11_scandal 61 = .ok (.invokevirtual 226, 3) := by decide +kernel
theorem dX11_scandal_64 : decode cX11_scandal 64 = .ok (.iadd, 1) := by decide +kernel
theorem dX11_scandal_65 : decode cX11_scandal 65 = .ok (.istore 6, 2) := by decide +kernel
theorem dX11_scandal_67 : decode cX11_scandal 67 = .ok (.iload_n 2, 1) := by decide +kernel
theorem dX11_scandal_68 : decode cX11_scandal 68 = .ok (.iconst (-1), 1) := by decide +kernel
theorem dX11_scandal_69 : decode cX11_scandal 69 = .ok (.if_icmp .eq 9, 3) := by decide +kernel
theorem dX11_scandal_72 : decode cX11_scandal 72 = .ok (.iload 6, 2) := by decide +kernel
theorem dX11_scandal_74 : decode cX11_scandal 74 = .ok (.iload_n 2, 1) := by decide +kernel
theorem dX11_scandal_75 : decode cX11_scandal 75 = .ok (.if_icmp .ge 9, 3) := by decide +kernel
theorem dX11_scandal_78 : decode cX11_scandal 78 = .ok (.iload 6, 2) := by decide +kernel
theorem dX11_scandal_80 : decode cX11_scandal 80 = .ok (.istore_n 2, 1) := by decide +kernel
theorem dX11_scandal_81 : decode cX11_scandal 81 = .ok (.iload 5, 2) := by decide +kernel
theorem dX11_scandal_83 : decode cX11_scandal 83 = .ok (.istore_n 3, 1) := by decide +kernel
theorem dX11_scandal_84 : decode cX11_scandal 84 = .ok (.iinc 5 1, 3) := by decide +kernel
theorem dX11_scandal_87 : decode cX11_scandal 87 = .ok (.goto (-57), 3) := by decide +kernel
theorem dX11_scandal_90 : decode cX11_scandal 90 = .ok (.iload_n 1, 1) := by decide +kernel
theorem dX11_scandal_91 : decode cX11_scandal 91 = .ok (.ifCond .ne 7, 3) := by decide +kernel
theorem dX11_scandal_94 : decode cX11_scandal 94 = .ok (.iload_n 3, 1) := by decide +kernel
theorem dX11_scandal_95 : decode cX11_scandal 95 = .ok (.goto 4, 3) := by decide +kernel
theorem dX11_scandal_98 : decode cX11_scandal 98 = .ok (.iload_n 2, 1) := by decide +kernel
theorem dX11_scandal_99 : decode cX11_scandal 99 = .ok (.ireturn, 1) := by decide +kernel
theorem dX11_middle_0 : decode cX11_middle 0 = .ok (.iload_n 1, 1) := by decide +kernel
theorem dX11_middle_1 : decode cX11_middle 1 = .ok (.ifCond .eq 10, 3) := by decide +kernel
theorem dX11_middle_4 : decode cX11_middle 4 = .ok (.iload_n 1, 1) := by decide +kernel
theorem dX11_middle_5 : decode cX11_middle 5 = .ok (.iconst 1, 1) := by decide +kernel
theorem dX11_middle_6 : decode cX11_middle 6 = .ok (.if_icmp .eq 5, 3) := by decide +kernel
theorem dX11_middle_9 : decode cX11_middle 9 = .ok (.iconst (-1), 1) := by decide +kernel
theorem dX11_middle_10 : decode cX11_middle 10 = .ok (.ireturn, 1) := by decide +kernel
theorem dX11_middle_11 : decode cX11_middle 11 = .ok (.iconst (-1), 1) := by decide +kernel
theorem dX11_middle_12 : decode cX11_middle 12 = .ok (.istore_n 2, 1) := by decide +kernel
theorem dX11_middle_13 : decode cX11_middle 13 = .ok (.iconst (-1), 1) := by decide +kernel
theorem dX11_middle_14 : decode cX11_middle 14 = .ok (.istore_n 3, 1) := by decide +kernel
theorem dX11_middle_15 : decode cX11_middle 15 = .ok (.iconst 0, 1) := by decide +kernel
theorem dX11_middle_16 : decode cX11_middle 16 = .ok (.istore 4, 2) := by decide +kernel
theorem dX11_middle_18 : decode cX11_middle 18 = .ok (.iload 4, 2) := by decide +kernel
theorem dX11_middle_20 : decode cX11_middle 20 = .ok (.aload_n 0, 1) := by decide +kernel
theorem dX11_middle_21 : decode cX11_middle 21 = .ok (.getfield 12, 3) := by decide +kernel
theorem dX11_middle_24 : decode cX11_middle 24 = .ok (.getfield 53, 3) := by decide +kernel
theorem dX11_middle_27 : decode cX11_middle 27 = .ok (.getfield 63, 3) := by decide +kernel
theorem dX11_middle_30 : decode cX11_middle 30 = .ok (.if_icmp .ge 40, 3) := by decide +kernel
theorem dX11_middle_33 : decode cX11_middle 33 = .ok (.aload_n 0, 1) := by decide +kernel
theorem dX11_middle_34 : decode cX11_middle 34 = .ok (.getfield 12, 3) := by decide +kernel
theorem dX11_middle_37 : decode cX11_middle 37 = .ok (.getfield 53, 3) := by decide +kernel
theorem dX11_middle_40 : decode cX11_middle 40 = .ok (.iload 4, 2) := by decide +kernel
theorem dX11_middle_42 : decode cX11_middle 42 = .ok (.invokevirtual 229, 3) := by decide +kernel
theorem dX11_middle_45 : decode cX11_middle 45 = .ok (.istore 5, 2) := by decide +kernel
theorem dX11_middle_47 : decode cX11_middle 47 = .ok (.iload_n 2, 1) := by decide +kernel
theorem dX11_middle_48 : decode cX11_middle 48 = .ok (.iconst (-1), 1) := by decide +kernel
theorem dX11_middle_49 : decode cX11_middle 49 = .ok (.if_icmp .eq 9, 3) := by decide +kernel
theorem dX11_middle_52 : decode cX11_middle 52 = .ok (.iload 5, 2) := by decide +kernel
theorem dX11_middle_54 : decode cX11_middle 54 = .ok (.iload_n 2, 1) := by decide +kernel
theorem dX11_middle_55 : decode cX11_middle 55 = .ok (.if_icmp .ge 9, 3) := by decide +kernel
theorem dX11_middle_58 : decode cX11_middle 58 = .ok (.iload 5, 2) := by decide +kernel
theorem dX11_middle_60 : decode cX11_middle 60 = .ok (.istore_n 2, 1) := by decide +kernel
theorem dX11_middle_61 : decode cX11_middle 61 = .ok (.iload 4, 2) := by decide +kernel
theorem dX11_middle_63 : decode cX11_middle 63 = .ok (.istore_n 3, 1) := by decide +kernel
theorem dX11_middle_64 : decode cX11_middle 64 = .ok (.iinc 4 1, 3) := by decide +kernel
theorem dX11_middle_67 : decode cX11_middle 67 = .ok (.goto (-49), 3) := by decide +kernel
theorem dX11_middle_70 : decode cX11_middle 70 = .ok (.iload_n 1, 1) := by decide +kernel
theorem dX11_middle_71 : decode cX11_middle 71 = .ok (.ifCond .ne 7, 3) := by decide +kernel
theorem dX11_middle_74 : decode cX11_middle 74 = .ok (.iload_n 3, 1) := by decide +kernel
theorem dX11_middle_75 : decode cX11_middle 75 = .ok (.goto 4, 3) := by decide +kernel
theorem dX11_middle_78 : decode cX11_middle 78 = .ok (.iload_n 2, 1) := by decide +kernel
theorem dX11_middle_79 : decode cX11_middle 79 = .ok (.ireturn, 1) := by decide +kernel
theorem dX11_follows_0 : decode cX11_follows 0 = .ok (.iload_n 1, 1) := by decide +kernel
theorem dX11_follows_1 : decode cX11_follows 1 = .ok (.ifCond .lt 9, 3) := by decide +kernel
theorem dX11_follows_4 : decode cX11_follows 4 = .ok (.iload_n 1, 1) := by decide +kernel
theorem dX11_follows_5 : decode cX11_follows 5 = .ok (.ldc 232, 2) := by decide +kernel
theorem dX11_follows_7 : decode cX11_follows 7 = .ok (.if_icmp .lt 5, 3) := by decide +kernel
theorem dX11_follows_10 : decode cX11_follows 10 = .ok (.iconst (-1), 1) := by decide +kernel
theorem dX11_follows_11 : decode cX11_follows 11 = .ok (.ireturn, 1) := by decide +kernel
theorem dX11_follows_12 : decode cX11_follows 12 = .ok (.aload_n 0, 1) := by decide +kernel
theorem dX11_follows_13 : decode cX11_follows 13 = .ok (.getfield 12, 3) := by decide +kernel
theorem dX11_follows_16 : decode cX11_follows 16 = .ok (.getfield 233, 3) := by decide +kernel
theorem dX11_follows_19 : decode cX11_follows 19 = .ok (.iload_n 1, 1) := by decide +kernel
theorem dX11_follows_20 : decode cX11_follows 20 = .ok (.iconst (-1), 1) := by decide +kernel
theorem dX11_follows_21 : decode cX11_follows 21 = .ok (.invokevirtual 237, 3) := by decide +kernel
theorem dX11_follows_24 : decode cX11_follows 24 = .ok (.ireturn, 1) := by decide +kernel
theorem dX11_gives_0 : decode cX11_gives 0 = .ok (.iload_n 2, 1) := by decide +kernel
theorem dX11_gives_1 : decode cX11_gives 1 = .ok (.iconst 2, 1) := by decide +kernel
theorem dX11_gives_2 : decode cX11_gives 2 = .ok (.if_icmp .ne 14, 3) := by decide +kernel
theorem dX11_gives_5 : decode cX11_gives 5 = .ok (.aload_n 0, 1) := by decide +kernel
theorem dX11_gives_6 : decode cX11_gives 6 = .ok (.getfield 12, 3) := by decide +kernel
theorem dX11_gives_9 : decode cX11_gives 9 = .ok (.getfield 233, 3) := by decide +kernel
theorem dX11_gives_12 : decode cX11_gives 12 = .ok (.invokevirtual 242, 3) := by decide +kernel
theorem dX11_gives_15 : decode cX11_gives 15 = .ok (.ireturn, 1) := by decide +kernel
theorem dX11_gives_16 : decode cX11_gives 16 = .ok (.iload_n 1, 1) := by decide +kernel
theorem dX11_gives_17 : decode cX11_gives 17 = .ok (.ifCond .lt 18, 3) := by decide +kernel
theorem dX11_gives_20 : decode cX11_gives 20 = .ok (.iload_n 1, 1) := by decide +kernel
theorem dX11_gives_21 : decode cX11_gives 21 = .ok (.bipush 16, 2) := by decide +kernel
theorem dX11_gives_23 : decode cX11_gives 23 = .ok (.if_icmp .ge 12, 3) := by decide +kernel
theorem dX11_gives_26 : decode cX11_gives 26 = .ok (.iload_n 2, 1) := by decide +kernel
theorem dX11_gives_27 : decode cX11_gives 27 = .ok (.ifCond .lt 8, 3) := by decide +kernel
theorem dX11_gives_30 : decode cX11_gives 30 = .ok (.iload_n 2, 1) := by decide +kernel
theorem dX11_gives_31 : decode cX11_gives 31 = .ok (.iconst 1, 1) := by decide +kernel
theorem dX11_gives_32 : decode cX11_gives 32 = .ok (.if_icmp .le 5, 3) := by decide +kernel
theorem dX11_gives_35 : decode cX11_gives 35 = .ok (.iconst (-1), 1) := by decide +kernel
theorem dX11_gives_36 : decode cX11_gives 36 = .ok (.ireturn, 1) := by decide +kernel
theorem dX11_gives_37 : decode cX11_gives 37 = .ok (.aload_n 0, 1) := by decide +kernel
theorem dX11_gives_38 : decode cX11_gives 38 = .ok (.getfield 12, 3) := by decide +kernel
theorem dX11_gives_41 : decode cX11_gives 41 = .ok (.getfield 233, 3) := by decide +kernel
theorem dX11_gives_44 : decode cX11_gives 44 = .ok (.iload_n 1, 1) := by decide +kernel
theorem dX11_gives_45 : decode cX11_gives 45 = .ok (.invokevirtual 245, 3) := by decide +kernel
theorem dX11_gives_48 : decode cX11_gives 48 = .ok (.istore_n 3, 1) := by decide +kernel
theorem dX11_gives_49 : decode cX11_gives 49 = .ok (.iload_n 3, 1) := by decide +kernel
theorem dX11_gives_50 : decode cX11_gives 50 = .ok (.ifCond .ne 5, 3) := by decide +kernel
theorem dX11_gives_53 : decode cX11_gives 53 = .ok (.iconst (-1), 1) := by decide +kernel
theorem dX11_gives_54 : decode cX11_gives 54 = .ok (.ireturn, 1) := by decide +kernel
theorem dX11_gives_55 : decode cX11_gives 55 = .ok (.iload_n 2, 1) := by decide +kernel
theorem dX11_gives_56 : decode cX11_gives 56 = .ok (.ifCond .ne 10, 3) := by decide +kernel
theorem dX11_gives_59 : decode cX11_gives 59 = .ok (.iload_n 3, 1) := by decide +kernel
theorem dX11_gives_60 : decode cX11_gives 60 = .ok (.invokestatic 192, 3) := by decide +kernel
theorem dX11_gives_63 : decode cX11_gives 63 = .ok (.goto 4, 3) := by decide +kernel
theorem dX11_gives_66 : decode cX11_gives 66 = .ok (.iload_n 3, 1) := by decide +kernel
theorem dX11_gives_67 : decode cX11_gives 67 = .ok (.ireturn, 1) := by decide +kernel
theorem dX11_seen_0 : decode cX11_seen 0 = .ok (.iload_n 1, 1) := by decide +kernel
theorem dX11_seen_1 : decode cX11_seen 1 = .ok (.tableswitch 62 0 2 #[27, 39, 51], 27) := by decide +kernel
theorem dX11_seen_28 : decode cX11_seen 28 = .ok (.aload_n 0, 1) := by decide +kernel
theorem dX11_seen_29 : decode cX11_seen 29 = .ok (.getfield 12, 3) := by decide +kernel
theorem dX11_seen_32 : decode cX11_seen 32 = .ok (.getfield 53, 3) := by decide +kernel
theorem dX11_seen_35 : decode cX11_seen 35 = .ok (.iconst 0, 1) := by decide +kernel
theorem dX11_seen_36 : decode cX11_seen 36 = .ok (.invokevirtual 248, 3) := by decide +kernel
theorem dX11_seen_39 : decode cX11_seen 39 = .ok (.ireturn, 1) := by decide +kernel
theorem dX11_seen_40 : decode cX11_seen 40 = .ok (.aload_n 0, 1) := by decide +kernel
theorem dX11_seen_41 : decode cX11_seen 41 = .ok (.getfield 12, 3) := by decide +kernel
theorem dX11_seen_44 : decode cX11_seen 44 = .ok (.getfield 53, 3) := by decide +kernel
theorem dX11_seen_47 : decode cX11_seen 47 = .ok (.iconst 1, 1) := by decide +kernel
theorem dX11_seen_48 : decode cX11_seen 48 = .ok (.invokevirtual 248, 3) := by decide +kernel
theorem dX11_seen_51 : decode cX11_seen 51 = .ok (.ireturn, 1) := by decide +kernel
theorem dX11_seen_52 : decode cX11_seen 52 = .ok (.aload_n 0, 1) := by decide +kernel
