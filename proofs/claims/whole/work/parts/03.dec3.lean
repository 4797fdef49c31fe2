theorem dX12_put_19 : decode cX12_put 19 = .ok (.bastore, 1) := by decide +kernel
theorem dX12_put_20 : decode cX12_put 20 = .ok (.aload_n 0, 1) := by decide +kernel
theorem dX12_put_21 : decode cX12_put 21 = .ok (.dup, 1) := by decide +kernel
theorem dX12_put_22 : decode cX12_put 22 = .ok (.getfield 189, 3) := by decide +kernel
theorem dX12_put_25 : decode cX12_put 25 = .ok (.iconst 1, 1) := by decide +kernel
theorem dX12_put_26 : decode cX12_put 26 = .ok (.iadd, 1) := by decide +kernel
theorem dX12_put_27 : decode cX12_put 27 = .ok (.putfield 189, 3) := by decide +kernel
theorem dX12_put_30 : decode cX12_put 30 = .ok (.iinc 2 (-8), 3) := by decide +kernel
theorem dX12_put_33 : decode cX12_put 33 = .ok (.goto (-30), 3) := by decide +kernel
theorem dX12_put_36 : decode cX12_put 36 = .ok (.return_, 1) := by decide +kernel
theorem dX12_back_0 : decode cX12_back 0 = .ok (.iload_n 1, 1) := by decide +kernel
theorem dX12_back_1 : decode cX12_back 1 = .ok (.ifCond .lt 11, 3) := by decide +kernel
theorem dX12_back_4 : decode cX12_back 4 = .ok (.iload_n 1, 1) := by decide +kernel
theorem dX12_back_5 : decode cX12_back 5 = .ok (.aload_n 0, 1) := by decide +kernel
theorem dX12_back_6 : decode cX12_back 6 = .ok (.getfield 189, 3) := by decide +kernel
theorem dX12_back_9 : decode cX12_back 9 = .ok (.if_icmp .le 5, 3) := by decide +kernel
theorem dX12_back_12 : decode cX12_back 12 = .ok (.iconst (-1), 1) := by decide +kernel
theorem dX12_back_13 : decode cX12_back 13 = .ok (.ireturn, 1) := by decide +kernel
theorem dX12_back_14 : decode cX12_back 14 = .ok (.aload_n 0, 1) := by decide +kernel
theorem dX12_back_15 : decode cX12_back 15 = .ok (.dup, 1) := by decide +kernel
theorem dX12_back_16 : decode cX12_back 16 = .ok (.getfield 189, 3) := by decide +kernel
theorem dX12_back_19 : decode cX12_back 19 = .ok (.iload_n 1, 1) := by decide +kernel
theorem dX12_back_20 : decode cX12_back 20 = .ok (.isub, 1) := by decide +kernel
theorem dX12_back_21 : decode cX12_back 21 = .ok (.putfield 189, 3) := by decide +kernel
theorem dX12_back_24 : decode cX12_back 24 = .ok (.aload_n 0, 1) := by decide +kernel
theorem dX12_back_25 : decode cX12_back 25 = .ok (.getfield 189, 3) := by decide +kernel
theorem dX12_back_28 : decode cX12_back 28 = .ok (.ireturn, 1) := by decide +kernel
theorem dX12_at_0 : decode cX12_at 0 = .ok (.iload_n 1, 1) := by decide +kernel
theorem dX12_at_1 : decode cX12_at 1 = .ok (.aload_n 0, 1) := by decide +kernel
theorem dX12_at_2 : decode cX12_at 2 = .ok (.getfield 196, 3) := by decide +kernel
theorem dX12_at_5 : decode cX12_at 5 = .ok (.if_icmp .ge 16, 3) := by decide +kernel
theorem dX12_at_8 : decode cX12_at 8 = .ok (.aload_n 0, 1) := by decide +kernel
theorem dX12_at_9 : decode cX12_at 9 = .ok (.getfield 17, 3) := by decide +kernel
theorem dX12_at_12 : decode cX12_at 12 = .ok (.iload_n 1, 1) := by decide +kernel
theorem dX12_at_13 : decode cX12_at 13 = .ok (.baload, 1) := by decide +kernel
theorem dX12_at_14 : decode cX12_at 14 = .ok (.sipush 255, 3) := by decide +kernel
theorem dX12_at_17 : decode cX12_at 17 = .ok (.iand, 1) := by decide +kernel
theorem dX12_at_18 : decode cX12_at 18 = .ok (.goto 4, 3) := by decide +kernel
theorem dX12_at_21 : decode cX12_at 21 = .ok (.iconst 0, 1) := by decide +kernel
theorem dX12_at_22 : decode cX12_at 22 = .ok (.ireturn, 1) := by decide +kernel
theorem dX12_isDigit_0 : decode cX12_isDigit 0 = .ok (.iload_n 0, 1) := by decide +kernel
theorem dX12_isDigit_1 : decode cX12_isDigit 1 = .ok (.bipush 48, 2) := by decide +kernel
theorem dX12_isDigit_3 : decode cX12_isDigit 3 = .ok (.if_icmp .lt 13, 3) := by decide +kernel
theorem dX12_isDigit_6 : decode cX12_isDigit 6 = .ok (.iload_n 0, 1) := by decide +kernel
theorem dX12_isDigit_7 : decode cX12_isDigit 7 = .ok (.bipush 57, 2) := by decide +kernel
theorem dX12_isDigit_9 : decode cX12_isDigit 9 = .ok (.if_icmp .gt 7, 3) := by decide +kernel
theorem dX12_isDigit_12 : decode cX12_isDigit 12 = .ok (.iconst 1, 1) := by decide +kernel
theorem dX12_isDigit_13 : decode cX12_isDigit 13 = .ok (.goto 4, 3) := by decide +kernel
theorem dX12_isDigit_16 : decode cX12_isDigit 16 = .ok (.iconst 0, 1) := by decide +kernel
theorem dX12_isDigit_17 : decode cX12_isDigit 17 = .ok (.ireturn, 1) := by decide +kernel
theorem dX12_isLetter_0 : decode cX12_isLetter 0 = .ok (.iload_n 0, 1) := by decide +kernel
theorem dX12_isLetter_1 : decode cX12_isLetter 1 = .ok (.bipush 97, 2) := by decide +kernel
theorem dX12_isLetter_3 : decode cX12_isLetter 3 = .ok (.if_icmp .lt 13, 3) := by decide +kernel
theorem dX12_isLetter_6 : decode cX12_isLetter 6 = .ok (.iload_n 0, 1) := by decide +kernel
theorem dX12_isLetter_7 : decode cX12_isLetter 7 = .ok (.bipush 122, 2) := by decide +kernel
theorem dX12_isLetter_9 : decode cX12_isLetter 9 = .ok (.if_icmp .gt 7, 3) := by decide +kernel
theorem dX12_isLetter_12 : decode cX12_isLetter 12 = .ok (.iconst 1, 1) := by decide +kernel
theorem dX12_isLetter_13 : decode cX12_isLetter 13 = .ok (.goto 4, 3) := by decide +kernel
theorem dX12_isLetter_16 : decode cX12_isLetter 16 = .ok (.iconst 0, 1) := by decide +kernel
theorem dX12_isLetter_17 : decode cX12_isLetter 17 = .ok (.ireturn, 1) := by decide +kernel
theorem dX12_more_0 : decode cX12_more 0 = .ok (.iload_n 2, 1) := by decide +kernel
theorem dX12_more_1 : decode cX12_more 1 = .ok (.ifCond .ne 7, 3) := by decide +kernel
theorem dX12_more_4 : decode cX12_more 4 = .ok (.lload_n 0, 1) := by decide +kernel
theorem dX12_more_5 : decode cX12_more 5 = .ok (.goto 16, 3) := by decide +kernel
theorem dX12_more_8 : decode cX12_more 8 = .ok (.ldc2_w 199, 3) := by decide +kernel
theorem dX12_more_11 : decode cX12_more 11 = .ok (.lload_n 0, 1) := by decide +kernel
theorem dX12_more_12 : decode cX12_more 12 = .ok (.lmul, 1) := by decide +kernel
theorem dX12_more_13 : decode cX12_more 13 = .ok (.iload_n 2, 1) := by decide +kernel
theorem dX12_more_14 : decode cX12_more 14 = .ok (.bipush 97, 2) := by decide +kernel
theorem dX12_more_16 : decode cX12_more 16 = .ok (.isub, 1) := by decide +kernel
theorem dX12_more_17 : decode cX12_more 17 = .ok (.iconst 1, 1) := by decide +kernel
theorem dX12_more_18 : decode cX12_more 18 = .ok (.iadd, 1) := by decide +kernel
theorem dX12_more_19 : decode cX12_more 19 = .ok (.i2l, 1) := by decide +kernel
theorem dX12_more_20 : decode cX12_more 20 = .ok (.ladd, 1) := by decide +kernel
theorem dX12_more_21 : decode cX12_more 21 = .ok (.lreturn, 1) := by decide +kernel
theorem dX12_word_0 : decode cX12_word 0 = .ok (.lconst 0, 1) := by decide +kernel
theorem dX12_word_1 : decode cX12_word 1 = .ok (.iload_n 0, 1) := by decide +kernel
theorem dX12_word_2 : decode cX12_word 2 = .ok (.invokestatic 201, 3) := by decide +kernel
theorem dX12_word_5 : decode cX12_word 5 = .ok (.iload_n 1, 1) := by decide +kernel
theorem dX12_word_6 : decode cX12_word 6 = .ok (.invokestatic 201, 3) := by decide +kernel
theorem dX12_word_9 : decode cX12_word 9 = .ok (.iload_n 2, 1) := by decide +kernel
theorem dX12_word_10 : decode cX12_word 10 = .ok (.invokestatic 201, 3) := by decide +kernel
theorem dX12_word_13 : decode cX12_word 13 = .ok (.iload_n 3, 1) := by decide +kernel
theorem dX12_word_14 : decode cX12_word 14 = .ok (.invokestatic 201, 3) := by decide +kernel
theorem dX12_word_17 : decode cX12_word 17 = .ok (.iload 4, 2) := by decide +kernel
theorem dX12_word_19 : decode cX12_word 19 = .ok (.invokestatic 201, 3) := by decide +kernel
theorem dX12_word_22 : decode cX12_word 22 = .ok (.lreturn, 1) := by decide +kernel
theorem dX12_token_0 : decode cX12_token 0 = .ok (.aload_n 0, 1) := by decide +kernel
theorem dX12_token_1 : decode cX12_token 1 = .ok (.getfield 20, 3) := by decide +kernel
theorem dX12_token_4 : decode cX12_token 4 = .ok (.aload_n 0, 1) := by decide +kernel
theorem dX12_token_5 : decode cX12_token 5 = .ok (.getfield 205, 3) := by decide +kernel
theorem dX12_token_8 : decode cX12_token 8 = .ok (.iload_n 1, 1) := by decide +kernel
theorem dX12_token_9 : decode cX12_token 9 = .ok (.iastore, 1) := by decide +kernel
theorem dX12_token_10 : decode cX12_token 10 = .ok (.aload_n 0, 1) := by decide +kernel
theorem dX12_token_11 : decode cX12_token 11 = .ok (.getfield 24, 3) := by decide +kernel
theorem dX12_token_14 : decode cX12_token 14 = .ok (.aload_n 0, 1) := by decide +kernel
theorem dX12_token_15 : decode cX12_token 15 = .ok (.getfield 205, 3) := by decide +kernel
theorem dX12_token_18 : decode cX12_token 18 = .ok (.iload_n 2, 1) := by decide +kernel
theorem dX12_token_19 : decode cX12_token 19 = .ok (.iastore, 1) := by decide +kernel
theorem dX12_token_20 : decode cX12_token 20 = .ok (.aload_n 0, 1) := by decide +kernel
theorem dX12_token_21 : decode cX12_token 21 = .ok (.getfield 27, 3) := by decide +kernel
theorem dX12_token_24 : decode cX12_token 24 = .ok (.aload_n 0, 1) := by decide +kernel
theorem dX12_token_25 : decode cX12_token 25 = .ok (.getfield 205, 3) := by decide +kernel
theorem dX12_token_28 : decode cX12_token 28 = .ok (.iload_n 3, 1) := by decide +kernel
theorem dX12_token_29 : decode cX12_token 29 = .ok (.iastore, 1) := by decide +kernel
theorem dX12_token_30 : decode cX12_token 30 = .ok (.aload_n 0, 1) := by decide +kernel
theorem dX12_token_31 : decode cX12_token 31 = .ok (.getfield 30, 3) := by decide +kernel
theorem dX12_token_34 : decode cX12_token 34 = .ok (.aload_n 0, 1) := by decide +kernel
theorem dX12_token_35 : decode cX12_token 35 = .ok (.getfield 205, 3) := by decide +kernel
theorem dX12_token_38 : decode cX12_token 38 = .ok (.lload 4, 2) := by decide +kernel
theorem dX12_token_40 : decode cX12_token 40 = .ok (.lastore, 1) := by decide +kernel
theorem dX12_token_41 : decode cX12_token 41 = .ok (.aload_n 0, 1) := by decide +kernel
theorem dX12_token_42 : decode cX12_token 42 = .ok (.dup, 1) := by decide +kernel
theorem dX12_token_43 : decode cX12_token 43 = .ok (.getfield 205, 3) := by decide +kernel
theorem dX12_token_46 : decode cX12_token 46 = .ok (.iconst 1, 1) := by decide +kernel
theorem dX12_token_47 : decode cX12_token 47 = .ok (.iadd, 1) := by decide +kernel
theorem dX12_token_48 : decode cX12_token 48 = .ok (.putfield 205, 3) := by decide +kernel
theorem dX12_token_51 : decode cX12_token 51 = .ok (.return_, 1) := by decide +kernel
theorem dX12_cut_0 : decode cX12_cut 0 = .ok (.aload_n 0, 1) := by decide +kernel
theorem dX12_cut_1 : decode cX12_cut 1 = .ok (.iconst 0, 1) := by decide +kernel
theorem dX12_cut_2 : decode cX12_cut 2 = .ok (.putfield 205, 3) := by decide +kernel
theorem dX12_cut_5 : decode cX12_cut 5 = .ok (.iconst 0, 1) := by decide +kernel
theorem dX12_cut_6 : decode cX12_cut 6 = .ok (.istore_n 1, 1) := by decide +kernel
theorem dX12_cut_7 : decode cX12_cut 7 = .ok (.aload_n 0, 1) := by decide +kernel
theorem dX12_cut_8 : decode cX12_cut 8 = .ok (.getfield 205, 3) := by decide +kernel
theorem dX12_cut_11 : decode cX12_cut 11 = .ok (.sipush 600, 3) := by decide +kernel
theorem dX12_cut_14 : decode cX12_cut 14 = .ok (.if_icmp .gt 279, 3) := by decide +kernel
theorem dX12_cut_17 : decode cX12_cut 17 = .ok (.aload_n 0, 1) := by decide +kernel
theorem dX12_cut_18 : decode cX12_cut 18 = .ok (.iload_n 1, 1) := by decide +kernel
theorem dX12_cut_19 : decode cX12_cut 19 = .ok (.invokevirtual 208, 3) := by decide +kernel
theorem dX12_cut_22 : decode cX12_cut 22 = .ok (.istore_n 2, 1) := by decide +kernel
theorem dX12_cut_23 : decode cX12_cut 23 = .ok (.iload_n 1, 1) := by decide +kernel
theorem dX12_cut_24 : decode cX12_cut 24 = .ok (.aload_n 0, 1) := by decide +kernel
theorem dX12_cut_25 : decode cX12_cut 25 = .ok (.getfield 196, 3) := by decide +kernel
theorem dX12_cut_28 : decode cX12_cut 28 = .ok (.if_icmp .lt 15, 3) := by decide +kernel
theorem dX12_cut_31 : decode cX12_cut 31 = .ok (.aload_n 0, 1) := by decide +kernel
theorem dX12_cut_32 : decode cX12_cut 32 = .ok (.iconst 0, 1) := by decide +kernel
theorem dX12_cut_33 : decode cX12_cut 33 = .ok (.aload_n 0, 1) := by decide +kernel
theorem dX12_cut_34 : decode cX12_cut 34 = .ok (.getfield 196, 3) := by decide +kernel
theorem dX12_cut_37 : decode cX12_cut 37 = .ok (.iconst 0, 1) := by decide +kernel
theorem dX12_cut_38 : decode cX12_cut 38 = .ok (.lconst 0, 1) := by decide +kernel
theorem dX12_cut_39 : decode cX12_cut 39 = .ok (.invokevirtual 212, 3) := by decide +kernel
theorem dX12_cut_42 : decode cX12_cut 42 = .ok (.return_, 1) := by decide +kernel
theorem dX12_cut_43 : decode cX12_cut 43 = .ok (.iload_n 2, 1) := by decide +kernel
theorem dX12_cut_44 : decode cX12_cut 44 = .ok (.bipush 9, 2) := by decide +kernel
theorem dX12_cut_46 : decode cX12_cut 46 = .ok (.if_icmp .eq 21, 3) := by decide +kernel
theorem dX12_cut_49 : decode cX12_cut 49 = .ok (.iload_n 2, 1) := by decide +kernel
theorem dX12_cut_50 : decode cX12_cut 50 = .ok (.bipush 10, 2) := by decide +kernel
theorem dX12_cut_52 : decode cX12_cut 52 = .ok (.if_icmp .eq 15, 3) := by decide +kernel
theorem dX12_cut_55 : decode cX12_cut 55 = .ok (.iload_n 2, 1) := by decide +kernel
theorem dX12_cut_56 : decode cX12_cut 56 = .ok (.bipush 13, 2) := by decide +kernel
theorem dX12_cut_58 : decode cX12_cut 58 = .ok (.if_icmp .eq 9, 3) := by decide +kernel
theorem dX12_cut_61 : decode cX12_cut 61 = .ok (.iload_n 2, 1) := by decide +kernel
theorem dX12_cut_62 : decode cX12_cut 62 = .ok (.bipush 32, 2) := by decide +kernel
theorem dX12_cut_64 : decode cX12_cut 64 = .ok (.if_icmp .ne 9, 3) := by decide +kernel
theorem dX12_cut_67 : decode cX12_cut 67 = .ok (.iinc 1 1, 3) := by decide +kernel
theorem dX12_cut_70 : decode cX12_cut 70 = .ok (.goto 220, 3) := by decide +kernel
theorem dX12_cut_73 : decode cX12_cut 73 = .ok (.iload_n 2, 1) := by decide +kernel
theorem dX12_cut_74 : decode cX12_cut 74 = .ok (.invokestatic 216, 3) := by decide +kernel
theorem dX12_cut_77 : decode cX12_cut 77 = .ok (.ifCond .eq 118, 3) := by decide +kernel
theorem dX12_cut_80 : decode cX12_cut 80 = .ok (.iconst 0, 1) := by decide +kernel
theorem dX12_cut_81 : decode cX12_cut 81 = .ok (.istore_n 3, 1) := by decide +kernel
theorem dX12_cut_82 : decode cX12_cut 82 = .ok (.lconst 0, 1) := by decide +kernel
theorem dX12_cut_83 : decode cX12_cut 83 = .ok (.lstore 4, 2) := by decide +kernel
theorem dX12_cut_85 : decode cX12_cut 85 = .ok (.aload_n 0, 1) := by decide +kernel
theorem dX12_cut_86 : decode cX12_cut 86 = .ok (.iload_n 1, 1) := by decide +kernel
theorem dX12_cut_87 : decode cX12_cut 87 = .ok (.iload_n 3, 1) := by decide +kernel
theorem dX12_cut_88 : decode cX12_cut 88 = .ok (.iadd, 1) := by decide +kernel
theorem dX12_cut_89 : decode cX12_cut 89 = .ok (.invokevirtual 208, 3) := by decide +kernel
theorem dX12_cut_92 : decode cX12_cut 92 = .ok (.invokestatic 216, 3) := by decide +kernel
theorem dX12_cut_95 : decode cX12_cut 95 = .ok (.ifCond .eq 29, 3) := by decide +kernel
theorem dX12_cut_98 : decode cX12_cut 98 = .ok (.iload_n 3, 1) := by decide +kernel
theorem dX12_cut_99 : decode cX12_cut 99 = .ok (.bipush 8, 2) := by decide +kernel
theorem dX12_cut_101 : decode cX12_cut 101 = .ok (.if_icmp .ge 17, 3) := by decide +kernel
theorem dX12_cut_104 : decode cX12_cut 104 = .ok (.lload 4, 2) := by decide +kernel
theorem dX12_cut_106 : decode cX12_cut 106 = .ok (.aload_n 0, 1) := by decide +kernel
theorem dX12_cut_107 : decode cX12_cut 107 = .ok (.iload_n 1, 1) := by decide +kernel
theorem dX12_cut_108 : decode cX12_cut 108 = .ok (.iload_n 3, 1) := by decide +kernel
theorem dX12_cut_109 : decode cX12_cut 109 = .ok (.iadd, 1) := by decide +kernel
theorem dX12_cut_110 : decode cX12_cut 110 = .ok (.invokevirtual 208, 3) := by decide +kernel
theorem dX12_cut_113 : decode cX12_cut 113 = .ok (.invokestatic 201, 3) := by decide +kernel
theorem dX12_cut_116 : decode cX12_cut 116 = .ok (.lstore 4, 2) := by decide +kernel
theorem dX12_cut_118 : decode cX12_cut 118 = .ok (.iinc 3 1, 3) := by decide +kernel
theorem dX12_cut_121 : decode cX12_cut 121 = .ok (.goto (-36), 3) := by decide +kernel
theorem dX12_cut_124 : decode cX12_cut 124 = .ok (.iload_n 3, 1) := by decide +kernel
theorem dX12_cut_125 : decode cX12_cut 125 = .ok (.bipush 8, 2) := by decide +kernel
theorem dX12_cut_127 : decode cX12_cut 127 = .ok (.if_icmp .le 7, 3) := by decide +kernel
theorem dX12_cut_130 : decode cX12_cut 130 = .ok (.iconst 3, 1) := by decide +kernel
theorem dX12_cut_131 : decode cX12_cut 131 = .ok (.goto 4, 3) := by decide +kernel
theorem dX12_cut_134 : decode cX12_cut 134 = .ok (.iconst 1, 1) := by decide +kernel
theorem dX12_cut_135 : decode cX12_cut 135 = .ok (.istore 6, 2) := by decide +kernel
theorem dX12_cut_137 : decode cX12_cut 137 = .ok (.iload_n 3, 1) := by decide +kernel
theorem dX12_cut_138 : decode cX12_cut 138 = .ok (.iconst 5, 1) := by decide +kernel
theorem dX12_cut_139 : decode cX12_cut 139 = .ok (.if_icmp .gt 39, 3) := by decide +kernel
theorem dX12_cut_142 : decode cX12_cut 142 = .ok (.iconst 0, 1) := by decide +kernel
theorem dX12_cut_143 : decode cX12_cut 143 = .ok (.istore 7, 2) := by decide +kernel
theorem dX12_cut_145 : decode cX12_cut 145 = .ok (.iload 7, 2) := by decide +kernel
theorem dX12_cut_147 : decode cX12_cut 147 = .ok (.bipush 23, 2) := by decide +kernel
theorem dX12_cut_149 : decode cX12_cut 149 = .ok (.if_icmp .ge 29, 3) := by decide +kernel
theorem dX12_cut_152 : decode cX12_cut 152 = .ok (.aload_n 0, 1) := by decide +kernel
theorem dX12_cut_153 : decode cX12_cut 153 = .ok (.getfield 34, 3) := by decide +kernel
theorem dX12_cut_156 : decode cX12_cut 156 = .ok (.iload 7, 2) := by decide +kernel
theorem dX12_cut_158 : decode cX12_cut 158 = .ok (.laload, 1) := by decide +kernel
theorem dX12_cut_159 : decode cX12_cut 159 = .ok (.lload 4, 2) := by decide +kernel
theorem dX12_cut_161 : decode cX12_cut 161 = .ok (.lcmp, 1) := by decide +kernel
theorem dX12_cut_162 : decode cX12_cut 162 = .ok (.ifCond .ne 10, 3) := by decide +kernel
theorem dX12_cut_165 : decode cX12_cut 165 = .ok (.bipush 20, 2) := by decide +kernel
theorem dX12_cut_167 : decode cX12_cut 167 = .ok (.iload 7, 2) := by decide +kernel
theorem dX12_cut_169 : decode cX12_cut 169 = .ok (.iadd, 1) := by decide +kernel
theorem dX12_cut_170 : decode cX12_cut 170 = .ok (.istore 6, 2) := by decide +kernel
theorem dX12_cut_172 : decode cX12_cut 172 = .ok (.iinc 7 1, 3) := by decide +kernel
theorem dX12_cut_175 : decode cX12_cut 175 = .ok (.goto (-30), 3) := by decide +kernel
theorem dX12_cut_178 : decode cX12_cut 178 = .ok (.aload_n 0, 1) := by decide +kernel
theorem dX12_cut_179 : decode cX12_cut 179 = .ok (.iload 6, 2) := by decide +kernel
theorem dX12_cut_181 : decode cX12_cut 181 = .ok (.iload_n 1, 1) := by decide +kernel
theorem dX12_cut_182 : decode cX12_cut 182 = .ok (.iconst 0, 1) := by decide +kernel
theorem dX12_cut_183 : decode cX12_cut 183 = .ok (.lload 4, 2) := by decide +kernel
theorem dX12_cut_185 : decode cX12_cut 185 = .ok (.invokevirtual 212, 3) := by decide +kernel
theorem dX12_cut_188 : decode cX12_cut 188 = .ok (.iload_n 1, 1) := by decide +kernel
theorem dX12_cut_189 : decode cX12_cut 189 = .ok (.iload_n 3, 1) := by decide +kernel
theorem dX12_cut_190 : decode cX12_cut 190 = .ok (.iadd, 1) := by decide +kernel
theorem dX12_cut_191 : decode cX12_cut 191 = .ok (.istore_n 1, 1) := by decide +kernel
theorem dX12_cut_192 : decode cX12_cut 192 = .ok (.goto 98, 3) := by decide +kernel
theorem dX12_cut_195 : decode cX12_cut 195 = .ok (.iload_n 2, 1) := by decide +kernel
theorem dX12_cut_196 : decode cX12_cut 196 = .ok (.invokestatic 220, 3) := by decide +kernel
theorem dX12_cut_199 : decode cX12_cut 199 = .ok (.ifCond .eq 75, 3) := by decide +kernel
theorem dX12_cut_202 : decode cX12_cut 202 = .ok (.iconst 0, 1) := by decide +kernel
theorem dX12_cut_203 : decode cX12_cut 203 = .ok (.istore_n 3, 1) := by decide +kernel
theorem dX12_cut_204 : decode cX12_cut 204 = .ok (.iconst 0, 1) := by decide +kernel
theorem dX12_cut_205 : decode cX12_cut 205 = .ok (.istore 4, 2) := by decide +kernel
theorem dX12_cut_207 : decode cX12_cut 207 = .ok (.aload_n 0, 1) := by decide +kernel
theorem dX12_cut_208 : decode cX12_cut 208 = .ok (.iload_n 1, 1) := by decide +kernel
theorem dX12_cut_209 : decode cX12_cut 209 = .ok (.iload_n 3, 1) := by decide +kernel
theorem dX12_cut_210 : decode cX12_cut 210 = .ok (.iadd, 1) := by decide +kernel
theorem dX12_cut_211 : decode cX12_cut 211 = .ok (.invokevirtual 208, 3) := by decide +kernel
theorem dX12_cut_214 : decode cX12_cut 214 = .ok (.invokestatic 220, 3) := by decide +kernel
theorem dX12_cut_217 : decode cX12_cut 217 = .ok (.ifCond .eq 32, 3) := by decide +kernel
theorem dX12_cut_220 : decode cX12_cut 220 = .ok (.iload_n 3, 1) := by decide +kernel
theorem dX12_cut_221 : decode cX12_cut 221 = .ok (.iconst 4, 1) := by decide +kernel
theorem dX12_cut_222 : decode cX12_cut 222 = .ok (.if_icmp .ge 21, 3) := by decide +kernel
theorem dX12_cut_225 : decode cX12_cut 225 = .ok (.bipush 10, 2) := by decide +kernel
theorem dX12_cut_227 : decode cX12_cut 227 = .ok (.iload 4, 2) := by decide +kernel
theorem dX12_cut_229 : decode cX12_cut 229 = .ok (.imul, 1) := by decide +kernel
theorem dX12_cut_230 : decode cX12_cut 230 = .ok (.aload_n 0, 1) := by decide +kernel
theorem dX12_cut_231 : decode cX12_cut 231 = .ok (.iload_n 1, 1) := by decide +kernel
theorem dX12_cut_232 : decode cX12_cut 232 = .ok (.iload_n 3, 1) := by decide +kernel
theorem dX12_cut_233 : decode cX12_cut 233 = .ok (.iadd, 1) := by decide +kernel
theorem dX12_cut_234 : decode cX12_cut 234 = .ok (.invokevirtual 208, 3) := by decide +kernel
theorem dX12_cut_237 : decode cX12_cut 237 = .ok (.iadd, 1) := by decide +kernel
theorem dX12_cut_238 : decode cX12_cut 238 = .ok (.bipush 48, 2) := by decide +kernel
theorem dX12_cut_240 : decode cX12_cut 240 = .ok (.isub, 1) := by decide +kernel
theorem dX12_cut_241 : decode cX12_cut 241 = .ok (.istore 4, 2) := by decide +kernel
theorem dX12_cut_243 : decode cX12_cut 243 = .ok (.iinc 3 1, 3) := by decide +kernel
theorem dX12_cut_246 : decode cX12_cut 246 = .ok (.goto (-39), 3) := by decide +kernel
theorem dX12_cut_249 : decode cX12_cut 249 = .ok (.aload_n 0, 1) := by decide +kernel
theorem dX12_cut_250 : decode cX12_cut 250 = .ok (.iload_n 3, 1) := by decide +kernel
theorem dX12_cut_251 : decode cX12_cut 251 = .ok (.iconst 4, 1) := by decide +kernel
theorem dX12_cut_252 : decode cX12_cut 252 = .ok (.if_icmp .le 7, 3) := by decide +kernel
theorem dX12_cut_255 : decode cX12_cut 255 = .ok (.iconst 3, 1) := by decide +kernel
theorem dX12_cut_256 : decode cX12_cut 256 = .ok (.goto 4, 3) := by decide +kernel
theorem dX12_cut_259 : decode cX12_cut 259 = .ok (.iconst 2, 1) := by decide +kernel
theorem dX12_cut_260 : decode cX12_cut 260 = .ok (.iload_n 1, 1) := by decide +kernel
theorem dX12_cut_261 : decode cX12_cut 261 = .ok (.iload 4, 2) := by decide +kernel
theorem dX12_cut_263 : decode cX12_cut 263 = .ok (.lconst 0, 1) := by decide +kernel
theorem dX12_cut_264 : decode cX12_cut 264 = .ok (.invokevirtual 212, 3) := by decide +kernel
theorem dX12_cut_267 : decode cX12_cut 267 = .ok (.iload_n 1, 1) := by decide +kernel
theorem dX12_cut_268 : decode cX12_cut 268 = .ok (.iload_n 3, 1) := by decide +kernel
theorem dX12_cut_269 : decode cX12_cut 269 = .ok (.iadd, 1) := by decide +kernel
theorem dX12_cut_270 : decode cX12_cut 270 = .ok (.istore_n 1, 1) := by decide +kernel
theorem dX12_cut_271 : decode cX12_cut 271 = .ok (.goto 19, 3) := by decide +kernel
theorem dX12_cut_274 : decode cX12_cut 274 = .ok (.iload_n 1, 1) := by decide +kernel
theorem dX12_cut_275 : decode cX12_cut 275 = .ok (.aload_n 0, 1) := by decide +kernel
theorem dX12_cut_276 : decode cX12_cut 276 = .ok (.iload_n 1, 1) := by decide +kernel
theorem dX12_cut_277 : decode cX12_cut 277 = .ok (.iload_n 2, 1) := by decide +kernel
theorem dX12_cut_278 : decode cX12_cut 278 = .ok (.aload_n 0, 1) := by decide +kernel
theorem dX12_cut_279 : decode cX12_cut 279 = .ok (.iload_n 1, 1) := by decide +kernel
theorem dX12_cut_280 : decode cX12_cut 280 = .ok (.iconst 1, 1) := by decide +kernel
theorem dX12_cut_281 : decode cX12_cut 281 = .ok (.iadd, 1) := by decide +kernel
theorem dX12_cut_282 : decode cX12_cut 282 = .ok (.invokevirtual 208, 3) := by decide +kernel
theorem dX12_cut_285 : decode cX12_cut 285 = .ok (.invokevirtual 223, 3) := by decide +kernel
theorem dX12_cut_288 : decode cX12_cut 288 = .ok (.iadd, 1) := by decide +kernel
theorem dX12_cut_289 : decode cX12_cut 289 = .ok (.istore_n 1, 1) := by decide +kernel
theorem dX12_cut_290 : decode cX12_cut 290 = .ok (.goto (-283), 3) := by decide +kernel
theorem dX12_cut_293 : decode cX12_cut 293 = .ok (.return_, 1) := by decide +kernel
theorem dX12_sign_0 : decode cX12_sign 0 = .ok (.iload_n 3, 1) := by decide +kernel
theorem dX12_sign_1 : decode cX12_sign 1 = .ok (.bipush 61, 2) := by decide +kernel
theorem dX12_sign_3 : decode cX12_sign 3 = .ok (.if_icmp .eq 7, 3) := by decide +kernel
theorem dX12_sign_6 : decode cX12_sign 6 = .ok (.iconst 0, 1) := by decide +kernel
theorem dX12_sign_7 : decode cX12_sign 7 = .ok (.goto 37, 3) := by decide +kernel
theorem dX12_sign_10 : decode cX12_sign 10 = .ok (.iload_n 2, 1) := by decide +kernel
theorem dX12_sign_11 : decode cX12_sign 11 = .ok (.bipush 61, 2) := by decide +kernel
theorem dX12_sign_13 : decode cX12_sign 13 = .ok (.if_icmp .ne 8, 3) := by decide +kernel
theorem dX12_sign_16 : decode cX12_sign 16 = .ok (.bipush 11, 2) := by decide +kernel
theorem dX12_sign_18 : decode cX12_sign 18 = .ok (.goto 26, 3) := by decide +kernel
theorem dX12_sign_21 : decode cX12_sign 21 = .ok (.iload_n 2, 1) := by decide +kernel
theorem dX12_sign_22 : decode cX12_sign 22 = .ok (.bipush 33, 2) := by decide +kernel
theorem dX12_sign_24 : decode cX12_sign 24 = .ok (.if_icmp .ne 8, 3) := by decide +kernel
theorem dX12_sign_27 : decode cX12_sign 27 = .ok (.bipush 12, 2) := by decide +kernel
theorem dX12_sign_29 : decode cX12_sign 29 = .ok (.goto 15, 3) := by decide +kernel
theorem dX12_sign_32 : decode cX12_sign 32 = .ok (.iload_n 2, 1) := by decide +kernel
theorem dX12_sign_33 : decode cX12_sign 33 = .ok (.bipush 60, 2) := by decide +kernel
theorem dX12_sign_35 : decode cX12_sign 35 = .ok (.if_icmp .ne 8, 3) := by decide +kernel
theorem dX12_sign_38 : decode cX12_sign 38 = .ok (.bipush 14, 2) := by decide +kernel
theorem dX12_sign_40 : decode cX12_sign 40 = .ok (.goto 4, 3) := by decide +kernel
theorem dX12_sign_43 : decode cX12_sign 43 = .ok (.iconst 0, 1) := by decide +kernel
theorem dX12_sign_44 : decode cX12_sign 44 = .ok (.istore 4, 2) := by decide +kernel
theorem dX12_sign_46 : decode cX12_sign 46 = .ok (.iconst 3, 1) := by decide +kernel
theorem dX12_sign_47 : decode cX12_sign 47 = .ok (.istore 5, 2) := by decide +kernel
theorem dX12_sign_49 : decode cX12_sign 49 = .ok (.iload 4, 2) := by decide +kernel
theorem dX12_sign_51 : decode cX12_sign 51 = .ok (.ifCond .le 10, 3) := by decide +kernel
theorem dX12_sign_54 : decode cX12_sign 54 = .ok (.iload 4, 2) := by decide +kernel
theorem dX12_sign_56 : decode cX12_sign 56 = .ok (.istore 5, 2) := by decide +kernel
theorem dX12_sign_58 : decode cX12_sign 58 = .ok (.goto 102, 3) := by decide +kernel
theorem dX12_sign_61 : decode cX12_sign 61 = .ok (.iload_n 2, 1) := by decide +kernel
theorem dX12_sign_62 : decode cX12_sign 62 = .ok (.bipush 59, 2) := by decide +kernel
theorem dX12_sign_64 : decode cX12_sign 64 = .ok (.if_icmp .ne 9, 3) := by decide +kernel
theorem dX12_sign_67 : decode cX12_sign 67 = .ok (.iconst 4, 1) := by decide +kernel
theorem dX12_sign_68 : decode cX12_sign 68 = .ok (.istore 5, 2) := by decide +kernel
theorem dX12_sign_70 : decode cX12_sign 70 = .ok (.goto 90, 3) := by decide +kernel
theorem dX12_sign_73 : decode cX12_sign 73 = .ok (.iload_n 2, 1) := by decide +kernel
theorem dX12_sign_74 : decode cX12_sign 74 = .ok (.bipush 58, 2) := by decide +kernel
theorem dX12_sign_76 : decode cX12_sign 76 = .ok (.if_icmp .ne 9, 3) := by decide +kernel
theorem dX12_sign_79 : decode cX12_sign 79 = .ok (.iconst 5, 1) := by decide +kernel
theorem dX12_sign_80 : decode cX12_sign 80 = .ok (.istore 5, 2) := by decide +kernel
theorem dX12_sign_82 : decode cX12_sign 82 = .ok (.goto 78, 3) := by decide +kernel
theorem dX12_sign_85 : decode cX12_sign 85 = .ok (.iload_n 2, 1) := by decide +kernel
theorem dX12_sign_86 : decode cX12_sign 86 = .ok (.bipush 40, 2) := by decide +kernel
theorem dX12_sign_88 : decode cX12_sign 88 = .ok (.if_icmp .ne 10, 3) := by decide +kernel
theorem dX12_sign_91 : decode cX12_sign 91 = .ok (.bipush 6, 2) := by decide +kernel
theorem dX12_sign_93 : decode cX12_sign 93 = .ok (.istore 5, 2) := by decide +kernel
theorem dX12_sign_95 : decode cX12_sign 95 = .ok (.goto 65, 3) := by decide +kernel
theorem dX12_sign_98 : decode cX12_sign 98 = .ok (.iload_n 2, 1) := by decide +kernel
theorem dX12_sign_99 : decode cX12_sign 99 = .ok (.bipush 41, 2) := by decide +kernel
theorem dX12_sign_101 : decode cX12_sign 101 = .ok (.if_icmp .ne 10, 3) := by decide +kernel
theorem dX12_sign_104 : decode cX12_sign 104 = .ok (.bipush 7, 2) := by decide +kernel
theorem dX12_sign_106 : decode cX12_sign 106 = .ok (.istore 5, 2) := by decide +kernel
theorem dX12_sign_108 : decode cX12_sign 108 = .ok (.goto 52, 3) := by decide +kernel
theorem dX12_sign_111 : decode cX12_sign 111 = .ok (.iload_n 2, 1) := by decide +kernel
theorem dX12_sign_112 : decode cX12_sign 112 = .ok (.bipush 43, 2) := by decide +kernel
theorem dX12_sign_114 : decode cX12_sign 114 = .ok (.if_icmp .ne 10, 3) := by decide +kernel
theorem dX12_sign_117 : decode cX12_sign 117 = .ok (.bipush 8, 2) := by decide +kernel
theorem dX12_sign_119 : decode cX12_sign 119 = .ok (.istore 5, 2) := by decide +kernel
theorem dX12_sign_121 : decode cX12_sign 121 = .ok (.goto 39, 3) := by decide +kernel
theorem dX12_sign_124 : decode cX12_sign 124 = .ok (.iload_n 2, 1) := by decide +kernel
theorem dX12_sign_125 : decode cX12_sign 125 = .ok (.bipush 45, 2) := by decide +kernel
theorem dX12_sign_127 : decode cX12_sign 127 = .ok (.if_icmp .ne 10, 3) := by decide +kernel
theorem dX12_sign_130 : decode cX12_sign 130 = .ok (.bipush 9, 2) := by decide +kernel
theorem dX12_sign_132 : decode cX12_sign 132 = .ok (.istore 5, 2) := by decide +kernel
theorem dX12_sign_134 : decode cX12_sign 134 = .ok (.goto 26, 3) := by decide +kernel
theorem dX12_sign_137 : decode cX12_sign 137 = .ok (.iload_n 2, 1) := by decide +kernel
theorem dX12_sign_138 : decode cX12_sign 138 = .ok (.bipush 42, 2) := by decide +kernel
theorem dX12_sign_140 : decode cX12_sign 140 = .ok (.if_icmp .ne 10, 3) := by decide +kernel
theorem dX12_sign_143 : decode cX12_sign 143 = .ok (.bipush 10, 2) := by decide +kernel
theorem dX12_sign_145 : decode cX12_sign 145 = .ok (.istore 5, 2) := by decide +kernel
theorem dX12_sign_147 : decode cX12_sign 147 = .ok (.goto 13, 3) := by decide +kernel
theorem dX12_sign_150 : decode cX12_sign 150 = .ok (.iload_n 2, 1) := by decide +kernel
theorem dX12_sign_151 : decode cX12_sign 151 = .ok (.bipush 60, 2) := by decide +kernel
theorem dX12_sign_153 : decode cX12_sign 153 = .ok (.if_icmp .ne 7, 3) := by decide +kernel
theorem dX12_sign_156 : decode cX12_sign 156 = .ok (.bipush 13, 2) := by decide +kernel
theorem dX12_sign_158 : decode cX12_sign 158 = .ok (.istore 5, 2) := by decide +kernel
theorem dX12_sign_160 : decode cX12_sign 160 = .ok (.aload_n 0, 1) := by decide +kernel
theorem dX12_sign_161 : decode cX12_sign 161 = .ok (.iload 5, 2) := by decide +kernel
theorem dX12_sign_163 : decode cX12_sign 163 = .ok (.iload_n 1, 1) := by decide +kernel
theorem dX12_sign_164 : decode cX12_sign 164 = .ok (.iconst 0, 1) := by decide +kernel
theorem dX12_sign_165 : decode cX12_sign 165 = .ok (.lconst 0, 1) := by decide +kernel
theorem dX12_sign_166 : decode cX12_sign 166 = .ok (.invokevirtual 212, 3) := by decide +kernel
theorem dX12_sign_169 : decode cX12_sign 169 = .ok (.iload 4, 2) := by decide +kernel
theorem dX12_sign_171 : decode cX12_sign 171 = .ok (.ifCond .le 7, 3) := by decide +kernel
theorem dX12_sign_174 : decode cX12_sign 174 = .ok (.iconst 2, 1) := by decide +kernel
theorem dX12_sign_175 : decode cX12_sign 175 = .ok (.goto 4, 3) := by decide +kernel
theorem dX12_sign_178 : decode cX12_sign 178 = .ok (.iconst 1, 1) := by decide +kernel
theorem dX12_sign_179 : decode cX12_sign 179 = .ok (.ireturn, 1) := by decide +kernel
theorem dX12_is_0 : decode cX12_is 0 = .ok (.aload_n 0, 1) := by decide +kernel
theorem dX12_is_1 : decode cX12_is 1 = .ok (.getfield 227, 3) := by decide +kernel
theorem dX12_is_4 : decode cX12_is 4 = .ok (.ifCond .ne 20, 3) := by decide +kernel
theorem dX12_is_7 : decode cX12_is 7 = .ok (.aload_n 0, 1) := by decide +kernel
theorem dX12_is_8 : decode cX12_is 8 = .ok (.getfield 20, 3) := by decide +kernel
theorem dX12_is_11 : decode cX12_is 11 = .ok (.aload_n 0, 1) := by decide +kernel
theorem dX12_is_12 : decode cX12_is 12 = .ok (.getfield 230, 3) := by decide +kernel
theorem dX12_is_15 : decode cX12_is 15 = .ok (.iaload, 1) := by decide +kernel
theorem dX12_is_16 : decode cX12_is 16 = .ok (.iload_n 1, 1) := by decide +kernel
theorem dX12_is_17 : decode cX12_is 17 = .ok (.if_icmp .ne 7, 3) := by decide +kernel
theorem dX12_is_20 : decode cX12_is 20 = .ok (.iconst 1, 1) := by decide +kernel
theorem dX12_is_21 : decode cX12_is 21 = .ok (.goto 4, 3) := by decide +kernel
theorem dX12_is_24 : decode cX12_is 24 = .ok (.iconst 0, 1) := by decide +kernel
theorem dX12_is_25 : decode cX12_is 25 = .ok (.ireturn, 1) := by decide +kernel
theorem dX12_fail_0 : decode cX12_fail 0 = .ok (.aload_n 0, 1) := by decide +kernel
theorem dX12_fail_1 : decode cX12_fail 1 = .ok (.getfield 227, 3) := by decide +kernel
theorem dX12_fail_4 : decode cX12_fail 4 = .ok (.ifCond .le 4, 3) := by decide +kernel
theorem dX12_fail_7 : decode cX12_fail 7 = .ok (.return_, 1) := by decide +kernel
theorem dX12_fail_8 : decode cX12_fail 8 = .ok (.aload_n 0, 1) := by decide +kernel
theorem dX12_fail_9 : decode cX12_fail 9 = .ok (.iload_n 1, 1) := by decide +kernel
theorem dX12_fail_10 : decode cX12_fail 10 = .ok (.putfield 227, 3) := by decide +kernel
theorem dX12_fail_13 : decode cX12_fail 13 = .ok (.aload_n 0, 1) := by decide +kernel
theorem dX12_fail_14 : decode cX12_fail 14 = .ok (.aload_n 0, 1) := by decide +kernel
theorem dX12_fail_15 : decode cX12_fail 15 = .ok (.getfield 24, 3) := by decide +kernel
theorem dX12_fail_18 : decode cX12_fail 18 = .ok (.aload_n 0, 1) := by decide +kernel
theorem dX12_fail_19 : decode cX12_fail 19 = .ok (.getfield 230, 3) := by decide +kernel
theorem dX12_fail_22 : decode cX12_fail 22 = .ok (.iaload, 1) := by decide +kernel
theorem dX12_fail_23 : decode cX12_fail 23 = .ok (.putfield 233, 3) := by decide +kernel
theorem dX12_fail_26 : decode cX12_fail 26 = .ok (.return_, 1) := by decide +kernel
theorem dX12_wrong_0 : decode cX12_wrong 0 = .ok (.aload_n 0, 1) := by decide +kernel
theorem dX12_wrong_1 : decode cX12_wrong 1 = .ok (.getfield 24, 3) := by decide +kernel
theorem dX12_wrong_4 : decode cX12_wrong 4 = .ok (.iload_n 2, 1) := by decide +kernel
theorem dX12_wrong_5 : decode cX12_wrong 5 = .ok (.iaload, 1) := by decide +kernel
theorem dX12_wrong_6 : decode cX12_wrong 6 = .ok (.istore_n 3, 1) := by decide +kernel
theorem dX12_wrong_7 : decode cX12_wrong 7 = .ok (.aload_n 0, 1) := by decide +kernel
theorem dX12_wrong_8 : decode cX12_wrong 8 = .ok (.getfield 227, 3) := by decide +kernel
theorem dX12_wrong_11 : decode cX12_wrong 11 = .ok (.ifCond .gt 34, 3) := by decide +kernel
theorem dX12_wrong_14 : decode cX12_wrong 14 = .ok (.aload_n 0, 1) := by decide +kernel
theorem dX12_wrong_15 : decode cX12_wrong 15 = .ok (.getfield 236, 3) := by decide +kernel
theorem dX12_wrong_18 : decode cX12_wrong 18 = .ok (.ifCond .eq 28, 3) := by decide +kernel
theorem dX12_wrong_21 : decode cX12_wrong 21 = .ok (.iload_n 3, 1) := by decide +kernel
theorem dX12_wrong_22 : decode cX12_wrong 22 = .ok (.aload_n 0, 1) := by decide +kernel
theorem dX12_wrong_23 : decode cX12_wrong 23 = .ok (.getfield 239, 3) := by decide +kernel
theorem dX12_wrong_26 : decode cX12_wrong 26 = .ok (.if_icmp .gt 19, 3) := by decide +kernel
theorem dX12_wrong_29 : decode cX12_wrong 29 = .ok (.iload_n 3, 1) := by decide +kernel
theorem dX12_wrong_30 : decode cX12_wrong 30 = .ok (.aload_n 0, 1) := by decide +kernel
theorem dX12_wrong_31 : decode cX12_wrong 31 = .ok (.getfield 239, 3) := by decide +kernel
theorem dX12_wrong_34 : decode cX12_wrong 34 = .ok (.if_icmp .ne 12, 3) := by decide +kernel
theorem dX12_wrong_37 : decode cX12_wrong 37 = .ok (.iload_n 1, 1) := by decide +kernel
theorem dX12_wrong_38 : decode cX12_wrong 38 = .ok (.aload_n 0, 1) := by decide +kernel
theorem dX12_wrong_39 : decode cX12_wrong 39 = .ok (.getfield 236, 3) := by decide +kernel
theorem dX12_wrong_42 : decode cX12_wrong 42 = .ok (.if_icmp .lt 4, 3) := by decide +kernel
theorem dX12_wrong_45 : decode cX12_wrong 45 = .ok (.return_, 1) := by decide +kernel
theorem dX12_wrong_46 : decode cX12_wrong 46 = .ok (.aload_n 0, 1) := by decide +kernel
theorem dX12_wrong_47 : decode cX12_wrong 47 = .ok (.iload_n 1, 1) := by decide +kernel
theorem dX12_wrong_48 : decode cX12_wrong 48 = .ok (.putfield 236, 3) := by decide +kernel
theorem dX12_wrong_51 : decode cX12_wrong 51 = .ok (.aload_n 0, 1) := by decide +kernel
theorem dX12_wrong_52 : decode cX12_wrong 52 = .ok (.iload_n 3, 1) := by decide +kernel
theorem dX12_wrong_53 : decode cX12_wrong 53 = .ok (.putfield 239, 3) := by decide +kernel
theorem dX12_wrong_56 : decode cX12_wrong 56 = .ok (.return_, 1) := by decide +kernel
theorem dX12_next_0 : decode cX12_next 0 = .ok (.aload_n 0, 1) := by decide +kernel
theorem dX12_next_1 : decode cX12_next 1 = .ok (.getfield 230, 3) := by decide +kernel
theorem dX12_next_4 : decode cX12_next 4 = .ok (.sipush 600, 3) := by decide +kernel
theorem dX12_next_7 : decode cX12_next 7 = .ok (.if_icmp .ne 11, 3) := by decide +kernel
theorem dX12_next_10 : decode cX12_next 10 = .ok (.aload_n 0, 1) := by decide +kernel
theorem dX12_next_11 : decode cX12_next 11 = .ok (.iconst 2, 1) := by decide +kernel
theorem dX12_next_12 : decode cX12_next 12 = .ok (.invokevirtual 242, 3) := by decide +kernel
theorem dX12_next_15 : decode cX12_next 15 = .ok (.goto 13, 3) := by decide +kernel
theorem dX12_next_18 : decode cX12_next 18 = .ok (.aload_n 0, 1) := by decide +kernel
theorem dX12_next_19 : decode cX12_next 19 = .ok (.dup, 1) := by decide +kernel
theorem dX12_next_20 : decode cX12_next 20 = .ok (.getfield 230, 3) := by decide +kernel
theorem dX12_next_23 : decode cX12_next 23 = .ok (.iconst 1, 1) := by decide +kernel
theorem dX12_next_24 : decode cX12_next 24 = .ok (.iadd, 1) := by decide +kernel
theorem dX12_next_25 : decode cX12_next 25 = .ok (.putfield 230, 3) := by decide +kernel
theorem dX12_next_28 : decode cX12_next 28 = .ok (.return_, 1) := by decide +kernel
theorem dX12_must_0 : decode cX12_must 0 = .ok (.aload_n 0, 1) := by decide +kernel
theorem dX12_must_1 : decode cX12_must 1 = .ok (.iload_n 1, 1) := by decide +kernel
theorem dX12_must_2 : decode cX12_must 2 = .ok (.invokevirtual 245, 3) := by decide +kernel
theorem dX12_must_5 : decode cX12_must 5 = .ok (.ifCond .eq 10, 3) := by decide +kernel
theorem dX12_must_8 : decode cX12_must 8 = .ok (.aload_n 0, 1) := by decide +kernel
theorem dX12_must_9 : decode cX12_must 9 = .ok (.invokevirtual 248, 3) := by decide +kernel
theorem dX12_must_12 : decode cX12_must 12 = .ok (.goto 8, 3) := by decide +kernel
theorem dX12_must_15 : decode cX12_must 15 = .ok (.aload_n 0, 1) := by decide +kernel
theorem dX12_must_16 : decode cX12_must 16 = .ok (.iconst 1, 1) := by decide +kernel
theorem dX12_must_17 : decode cX12_must 17 = .ok (.invokevirtual 242, 3) := by decide +kernel
theorem dX12_must_20 : decode cX12_must 20 = .ok (.return_, 1) := by decide +kernel
theorem dX12_read_0 : decode cX12_read 0 = .ok (.aload_n 0, 1) := by decide +kernel
theorem dX12_read_1 : decode cX12_read 1 = .ok (.aload_n 0, 1) := by decide +kernel
theorem dX12_read_2 : decode cX12_read 2 = .ok (.getfield 189, 3) := by decide +kernel
theorem dX12_read_5 : decode cX12_read 5 = .ok (.putfield 196, 3) := by decide +kernel
theorem dX12_read_8 : decode cX12_read 8 = .ok (.iconst 0, 1) := by decide +kernel
theorem dX12_read_9 : decode cX12_read 9 = .ok (.istore_n 1, 1) := by decide +kernel
theorem dX12_read_10 : decode cX12_read 10 = .ok (.iload_n 1, 1) := by decide +kernel
theorem dX12_read_11 : decode cX12_read 11 = .ok (.aload_n 0, 1) := by decide +kernel
theorem dX12_read_12 : decode cX12_read 12 = .ok (.getfield 196, 3) := by decide +kernel
theorem dX12_read_15 : decode cX12_read 15 = .ok (.if_icmp .ge 21, 3) := by decide +kernel
theorem dX12_read_18 : decode cX12_read 18 = .ok (.aload_n 0, 1) := by decide +kernel
theorem dX12_read_19 : decode cX12_read 19 = .ok (.getfield 17, 3) := by decide +kernel
theorem dX12_read_22 : decode cX12_read 22 = .ok (.iload_n 1, 1) := by decide +kernel
theorem dX12_read_23 : decode cX12_read 23 = .ok (.aload_n 0, 1) := by decide +kernel
theorem dX12_read_24 : decode cX12_read 24 = .ok (.getfield 13, 3) := by decide +kernel
theorem dX12_read_27 : decode cX12_read 27 = .ok (.iload_n 1, 1) := by decide +kernel
theorem dX12_read_28 : decode cX12_read 28 = .ok (.baload, 1) := by decide +kernel
theorem dX12_read_29 : decode cX12_read 29 = .ok (.bastore, 1) := by decide +kernel
theorem dX12_read_30 : decode cX12_read 30 = .ok (.iinc 1 1, 3) := by decide +kernel
theorem dX12_read_33 : decode cX12_read 33 = .ok (.goto (-23), 3) := by decide +kernel
theorem dX12_read_36 : decode cX12_read 36 = .ok (.aload_n 0, 1) := by decide +kernel
theorem dX12_read_37 : decode cX12_read 37 = .ok (.iconst 0, 1) := by decide +kernel
theorem dX12_read_38 : decode cX12_read 38 = .ok (.putfield 189, 3) := by decide +kernel
theorem dX12_read_41 : decode cX12_read 41 = .ok (.aload_n 0, 1) := by decide +kernel
theorem dX12_read_42 : decode cX12_read 42 = .ok (.invokevirtual 251, 3) := by decide +kernel
theorem dX12_read_45 : decode cX12_read 45 = .ok (.aload_n 0, 1) := by decide +kernel
theorem dX12_read_46 : decode cX12_read 46 = .ok (.iconst 0, 1) := by decide +kernel
theorem dX12_read_47 : decode cX12_read 47 = .ok (.putfield 230, 3) := by decide +kernel
theorem dX12_read_50 : decode cX12_read 50 = .ok (.aload_n 0, 1) := by decide +kernel
theorem dX12_read_51 : decode cX12_read 51 = .ok (.iconst 0, 1) := by decide +kernel
theorem dX12_read_52 : decode cX12_read 52 = .ok (.putfield 254, 3) := by decide +kernel
theorem dX12_read_55 : decode cX12_read 55 = .ok (.aload_n 0, 1) := by decide +kernel
theorem dX12_read_56 : decode cX12_read 56 = .ok (.iconst 0, 1) := by decide +kernel
theorem dX12_read_57 : decode cX12_read 57 = .ok (.putfield 227, 3) := by decide +kernel
theorem dX12_read_60 : decode cX12_read 60 = .ok (.aload_n 0, 1) := by decide +kernel
theorem dX12_read_61 : decode cX12_read 61 = .ok (.iconst 0, 1) := by decide +kernel
theorem dX12_read_62 : decode cX12_read 62 = .ok (.putfield 236, 3) := by decide +kernel
theorem dX12_read_65 : decode cX12_read 65 = .ok (.aload_n 0, 1) := by decide +kernel
theorem dX12_read_66 : decode cX12_read 66 = .ok (.aload_n 0, 1) := by decide +kernel
theorem dX12_read_67 : decode cX12_read 67 = .ok (.getfield 257, 3) := by decide +kernel
theorem dX12_read_70 : decode cX12_read 70 = .ok (.putfield 260, 3) := by decide +kernel
theorem dX12_read_73 : decode cX12_read 73 = .ok (.aload_n 0, 1) := by decide +kernel
theorem dX12_read_74 : decode cX12_read 74 = .ok (.aload_n 0, 1) := by decide +kernel
theorem dX12_read_75 : decode cX12_read 75 = .ok (.getfield 263, 3) := by decide +kernel
theorem dX12_read_78 : decode cX12_read 78 = .ok (.putfield 266, 3) := by decide +kernel
theorem dX12_read_81 : decode cX12_read 81 = .ok (.aload_n 0, 1) := by decide +kernel
theorem dX12_read_82 : decode cX12_read 82 = .ok (.getfield 269, 3) := by decide +kernel
theorem dX12_read_85 : decode cX12_read 85 = .ok (.istore_n 1, 1) := by decide +kernel
theorem dX12_read_86 : decode cX12_read 86 = .ok (.aload_n 0, 1) := by decide +kernel
theorem dX12_read_87 : decode cX12_read 87 = .ok (.getfield 272, 3) := by decide +kernel
theorem dX12_read_90 : decode cX12_read 90 = .ok (.istore_n 2, 1) := by decide +kernel
theorem dX12_read_91 : decode cX12_read 91 = .ok (.aload_n 0, 1) := by decide +kernel
theorem dX12_read_92 : decode cX12_read 92 = .ok (.getfield 227, 3) := by decide +kernel
theorem dX12_read_95 : decode cX12_read 95 = .ok (.ifCond .ne 18, 3) := by decide +kernel
theorem dX12_read_98 : decode cX12_read 98 = .ok (.aload_n 0, 1) := by decide +kernel
theorem dX12_read_99 : decode cX12_read 99 = .ok (.iconst 0, 1) := by decide +kernel
theorem dX12_read_100 : decode cX12_read 100 = .ok (.invokevirtual 245, 3) := by decide +kernel
theorem dX12_read_103 : decode cX12_read 103 = .ok (.ifCond .ne 10, 3) := by decide +kernel
theorem dX12_read_106 : decode cX12_read 106 = .ok (.aload_n 0, 1) := by decide +kernel
theorem dX12_read_107 : decode cX12_read 107 = .ok (.invokevirtual 275, 3) := by decide +kernel
theorem dX12_read_110 : decode cX12_read 110 = .ok (.goto (-19), 3) := by decide +kernel
theorem dX12_read_113 : decode cX12_read 113 = .ok (.aload_n 0, 1) := by decide +kernel
theorem dX12_read_114 : decode cX12_read 114 = .ok (.aload_n 0, 1) := by decide +kernel
theorem dX12_read_115 : decode cX12_read 115 = .ok (.getfield 227, 3) := by decide +kernel
theorem dX12_read_118 : decode cX12_read 118 = .ok (.ifCond .le 10, 3) := by decide +kernel
theorem dX12_read_121 : decode cX12_read 121 = .ok (.aload_n 0, 1) := by decide +kernel
theorem dX12_read_122 : decode cX12_read 122 = .ok (.getfield 233, 3) := by decide +kernel
theorem dX12_read_125 : decode cX12_read 125 = .ok (.goto 18, 3) := by decide +kernel
theorem dX12_read_128 : decode cX12_read 128 = .ok (.aload_n 0, 1) := by decide +kernel
theorem dX12_read_129 : decode cX12_read 129 = .ok (.getfield 236, 3) := by decide +kernel
theorem dX12_read_132 : decode cX12_read 132 = .ok (.ifCond .le 10, 3) := by decide +kernel
theorem dX12_read_135 : decode cX12_read 135 = .ok (.aload_n 0, 1) := by decide +kernel
theorem dX12_read_136 : decode cX12_read 136 = .ok (.getfield 239, 3) := by decide +kernel
theorem dX12_read_139 : decode cX12_read 139 = .ok (.goto 4, 3) := by decide +kernel
theorem dX12_read_142 : decode cX12_read 142 = .ok (.iconst (-1), 1) := by decide +kernel
theorem dX12_read_143 : decode cX12_read 143 = .ok (.putfield 37, 3) := by decide +kernel
theorem dX12_read_146 : decode cX12_read 146 = .ok (.aload_n 0, 1) := by decide +kernel
theorem dX12_read_147 : decode cX12_read 147 = .ok (.getfield 37, 3) := by decide +kernel
theorem dX12_read_150 : decode cX12_read 150 = .ok (.iconst (-1), 1) := by decide +kernel
theorem dX12_read_151 : decode cX12_read 151 = .ok (.if_icmp .eq 32, 3) := by decide +kernel
theorem dX12_read_154 : decode cX12_read 154 = .ok (.aload_n 0, 1) := by decide +kernel
theorem dX12_read_155 : decode cX12_read 155 = .ok (.iload_n 1, 1) := by decide +kernel
theorem dX12_read_156 : decode cX12_read 156 = .ok (.putfield 269, 3) := by decide +kernel
theorem dX12_read_159 : decode cX12_read 159 = .ok (.aload_n 0, 1) := by decide +kernel
theorem dX12_read_160 : decode cX12_read 160 = .ok (.iload_n 2, 1) := by decide +kernel
theorem dX12_read_161 : decode cX12_read 161 = .ok (.putfield 272, 3) := by decide +kernel
theorem dX12_read_164 : decode cX12_read 164 = .ok (.aload_n 0, 1) := by decide +kernel
theorem dX12_read_165 : decode cX12_read 165 = .ok (.getfield 227, 3) := by decide +kernel
theorem dX12_read_168 : decode cX12_read 168 = .ok (.ifCond .le 10, 3) := by decide +kernel
theorem dX12_read_171 : decode cX12_read 171 = .ok (.aload_n 0, 1) := by decide +kernel
theorem dX12_read_172 : decode cX12_read 172 = .ok (.getfield 227, 3) := by decide +kernel
theorem dX12_read_175 : decode cX12_read 175 = .ok (.goto 7, 3) := by decide +kernel
theorem dX12_read_178 : decode cX12_read 178 = .ok (.aload_n 0, 1) := by decide +kernel
theorem dX12_read_179 : decode cX12_read 179 = .ok (.getfield 236, 3) := by decide +kernel
theorem dX12_read_182 : decode cX12_read 182 = .ok (.ireturn, 1) := by decide +kernel
theorem dX12_read_183 : decode cX12_read 183 = .ok (.aload_n 0, 1) := by decide +kernel
theorem dX12_read_184 : decode cX12_read 184 = .ok (.aload_n 0, 1) := by decide +kernel
theorem dX12_read_185 : decode cX12_read 185 = .ok (.getfield 260, 3) := by decide +kernel
theorem dX12_read_188 : decode cX12_read 188 = .ok (.putfield 257, 3) := by decide +kernel
theorem dX12_read_191 : decode cX12_read 191 = .ok (.aload_n 0, 1) := by decide +kernel
theorem dX12_read_192 : decode cX12_read 192 = .ok (.aload_n 0, 1) := by decide +kernel
theorem dX12_read_193 : decode cX12_read 193 = .ok (.getfield 266, 3) := by decide +kernel
theorem dX12_read_196 : decode cX12_read 196 = .ok (.putfield 263, 3) := by decide +kernel
theorem dX12_read_199 : decode cX12_read 199 = .ok (.aload_n 0, 1) := by decide +kernel
theorem dX12_read_200 : decode cX12_read 200 = .ok (.invokevirtual 278, 3) := by decide +kernel
theorem dX12_read_203 : decode cX12_read 203 = .ok (.iconst 0, 1) := by decide +kernel
theorem dX12_read_204 : decode cX12_read 204 = .ok (.ireturn, 1) := by decide +kernel
theorem dX12_place_0 : decode cX12_place 0 = .ok (.aload_n 0, 1) := by decide +kernel
theorem dX12_place_1 : decode cX12_place 1 = .ok (.getfield 37, 3) := by decide +kernel
theorem dX12_place_4 : decode cX12_place 4 = .ok (.ireturn, 1) := by decide +kernel
theorem dX12_tellAct_0 : decode cX12_tellAct 0 = .ok (.aload_n 0, 1) := by decide +kernel
theorem dX12_tellAct_1 : decode cX12_tellAct 1 = .ok (.bipush 20, 2) := by decide +kernel
theorem dX12_tellAct_3 : decode cX12_tellAct 3 = .ok (.invokevirtual 245, 3) := by decide +kernel
theorem dX12_tellAct_6 : decode cX12_tellAct 6 = .ok (.ifCond .eq 17, 3) := by decide +kernel
theorem dX12_tellAct_9 : decode cX12_tellAct 9 = .ok (.aload_n 0, 1) := by decide +kernel
theorem dX12_tellAct_10 : decode cX12_tellAct 10 = .ok (.getfield 260, 3) := by decide +kernel
theorem dX12_tellAct_13 : decode cX12_tellAct 13 = .ok (.bipush 10, 2) := by decide +kernel
theorem dX12_tellAct_15 : decode cX12_tellAct 15 = .ok (.if_icmp .ne 8, 3) := by decide +kernel
theorem dX12_tellAct_18 : decode cX12_tellAct 18 = .ok (.aload_n 0, 1) := by decide +kernel
theorem dX12_tellAct_19 : decode cX12_tellAct 19 = .ok (.iconst 2, 1) := by decide +kernel
theorem dX12_tellAct_20 : decode cX12_tellAct 20 = .ok (.invokevirtual 242, 3) := by decide +kernel
theorem dX12_tellAct_23 : decode cX12_tellAct 23 = .ok (.aload_n 0, 1) := by decide +kernel
theorem dX12_tellAct_24 : decode cX12_tellAct 24 = .ok (.bipush 20, 2) := by decide +kernel
theorem dX12_tellAct_26 : decode cX12_tellAct 26 = .ok (.invokevirtual 281, 3) := by decide +kernel
theorem dX12_tellAct_29 : decode cX12_tellAct 29 = .ok (.aload_n 0, 1) := by decide +kernel
theorem dX12_tellAct_30 : decode cX12_tellAct 30 = .ok (.getfield 230, 3) := by decide +kernel
theorem dX12_tellAct_33 : decode cX12_tellAct 33 = .ok (.istore_n 1, 1) := by decide +kernel
theorem dX12_tellAct_34 : decode cX12_tellAct 34 = .ok (.aload_n 0, 1) := by decide +kernel
theorem dX12_tellAct_35 : decode cX12_tellAct 35 = .ok (.iconst 1, 1) := by decide +kernel
theorem dX12_tellAct_36 : decode cX12_tellAct 36 = .ok (.invokevirtual 281, 3) := by decide +kernel
theorem dX12_tellAct_39 : decode cX12_tellAct 39 = .ok (.aload_n 0, 1) := by decide +kernel
theorem dX12_tellAct_40 : decode cX12_tellAct 40 = .ok (.bipush 21, 2) := by decide +kernel
theorem dX12_tellAct_42 : decode cX12_tellAct 42 = .ok (.invokevirtual 281, 3) := by decide +kernel
theorem dX12_tellAct_45 : decode cX12_tellAct 45 = .ok (.aload_n 0, 1) := by decide +kernel
theorem dX12_tellAct_46 : decode cX12_tellAct 46 = .ok (.getfield 230, 3) := by decide +kernel
theorem dX12_tellAct_49 : decode cX12_tellAct 49 = .ok (.istore_n 2, 1) := by decide +kernel
theorem dX12_tellAct_50 : decode cX12_tellAct 50 = .ok (.aload_n 0, 1) := by decide +kernel
theorem dX12_tellAct_51 : decode cX12_tellAct 51 = .ok (.iconst 2, 1) := by decide +kernel
theorem dX12_tellAct_52 : decode cX12_tellAct 52 = .ok (.invokevirtual 281, 3) := by decide +kernel
theorem dX12_tellAct_55 : decode cX12_tellAct 55 = .ok (.aload_n 0, 1) := by decide +kernel
theorem dX12_tellAct_56 : decode cX12_tellAct 56 = .ok (.getfield 227, 3) := by decide +kernel
theorem dX12_tellAct_59 : decode cX12_tellAct 59 = .ok (.ifCond .le 4, 3) := by decide +kernel
theorem dX12_tellAct_62 : decode cX12_tellAct 62 = .ok (.return_, 1) := by decide +kernel
theorem dX12_tellAct_63 : decode cX12_tellAct 63 = .ok (.aload_n 0, 1) := by decide +kernel
theorem dX12_tellAct_64 : decode cX12_tellAct 64 = .ok (.getfield 260, 3) := by decide +kernel
theorem dX12_tellAct_67 : decode cX12_tellAct 67 = .ok (.istore_n 3, 1) := by decide +kernel
theorem dX12_tellAct_68 : decode cX12_tellAct 68 = .ok (.iconst 0, 1) := by decide +kernel
theorem dX12_tellAct_69 : decode cX12_tellAct 69 = .ok (.istore 4, 2) := by decide +kernel
theorem dX12_tellAct_71 : decode cX12_tellAct 71 = .ok (.iload 4, 2) := by decide +kernel
theorem dX12_tellAct_73 : decode cX12_tellAct 73 = .ok (.aload_n 0, 1) := by decide +kernel
theorem dX12_tellAct_74 : decode cX12_tellAct 74 = .ok (.getfield 260, 3) := by decide +kernel
theorem dX12_tellAct_77 : decode cX12_tellAct 77 = .ok (.if_icmp .ge 32, 3) := by decide +kernel
theorem dX12_tellAct_80 : decode cX12_tellAct 80 = .ok (.aload_n 0, 1) := by decide +kernel
theorem dX12_tellAct_81 : decode cX12_tellAct 81 = .ok (.getfield 40, 3) := by decide +kernel
theorem dX12_tellAct_84 : decode cX12_tellAct 84 = .ok (.iload 4, 2) := by decide +kernel
theorem dX12_tellAct_86 : decode cX12_tellAct 86 = .ok (.laload, 1) := by decide +kernel
theorem dX12_tellAct_87 : decode cX12_tellAct 87 = .ok (.aload_n 0, 1) := by decide +kernel
theorem dX12_tellAct_88 : decode cX12_tellAct 88 = .ok (.getfield 30, 3) := by decide +kernel
theorem dX12_tellAct_91 : decode cX12_tellAct 91 = .ok (.iload_n 1, 1) := by decide +kernel
theorem dX12_tellAct_92 : decode cX12_tellAct 92 = .ok (.laload, 1) := by decide +kernel
theorem dX12_tellAct_93 : decode cX12_tellAct 93 = .ok (.lcmp, 1) := by decide +kernel
theorem dX12_tellAct_94 : decode cX12_tellAct 94 = .ok (.ifCond .ne 9, 3) := by decide +kernel
theorem dX12_tellAct_97 : decode cX12_tellAct 97 = .ok (.aload_n 0, 1) := by decide +kernel
theorem dX12_tellAct_98 : decode cX12_tellAct 98 = .ok (.iconst 3, 1) := by decide +kernel
theorem dX12_tellAct_99 : decode cX12_tellAct 99 = .ok (.iload_n 1, 1) := by decide +kernel
theorem dX12_tellAct_100 : decode cX12_tellAct 100 = .ok (.invokevirtual 284, 3) := by decide +kernel
theorem dX12_tellAct_103 : decode cX12_tellAct 103 = .ok (.iinc 4 1, 3) := by decide +kernel
theorem dX12_tellAct_106 : decode cX12_tellAct 106 = .ok (.goto (-35), 3) := by decide +kernel
theorem dX12_tellAct_109 : decode cX12_tellAct 109 = .ok (.aload_n 0, 1) := by decide +kernel
theorem dX12_tellAct_110 : decode cX12_tellAct 110 = .ok (.getfield 40, 3) := by decide +kernel
theorem dX12_tellAct_113 : decode cX12_tellAct 113 = .ok (.iload_n 3, 1) := by decide +kernel
theorem dX12_tellAct_114 : decode cX12_tellAct 114 = .ok (.aload_n 0, 1) := by decide +kernel
theorem dX12_tellAct_115 : decode cX12_tellAct 115 = .ok (.getfield 30, 3) := by decide +kernel
theorem dX12_tellAct_118 : decode cX12_tellAct 118 = .ok (.iload_n 1, 1) := by decide +kernel
theorem dX12_tellAct_119 : decode cX12_tellAct 119 = .ok (.laload, 1) := by decide +kernel
theorem dX12_tellAct_120 : decode cX12_tellAct 120 = .ok (.lastore, 1) := by decide +kernel
theorem dX12_tellAct_121 : decode cX12_tellAct 121 = .ok (.aload_n 0, 1) := by decide +kernel
theorem dX12_tellAct_122 : decode cX12_tellAct 122 = .ok (.getfield 43, 3) := by decide +kernel
theorem dX12_tellAct_125 : decode cX12_tellAct 125 = .ok (.iload_n 3, 1) := by decide +kernel
theorem dX12_tellAct_126 : decode cX12_tellAct 126 = .ok (.aload_n 0, 1) := by decide +kernel
theorem dX12_tellAct_127 : decode cX12_tellAct 127 = .ok (.getfield 27, 3) := by decide +kernel
theorem dX12_tellAct_130 : decode cX12_tellAct 130 = .ok (.iload_n 2, 1) := by decide +kernel
theorem dX12_tellAct_131 : decode cX12_tellAct 131 = .ok (.iaload, 1) := by decide +kernel
theorem dX12_tellAct_132 : decode cX12_tellAct 132 = .ok (.iastore, 1) := by decide +kernel
theorem dX12_tellAct_133 : decode cX12_tellAct 133 = .ok (.aload_n 0, 1) := by decide +kernel
theorem dX12_tellAct_134 : decode cX12_tellAct 134 = .ok (.getfield 46, 3) := by decide +kernel
theorem dX12_tellAct_137 : decode cX12_tellAct 137 = .ok (.iload_n 3, 1) := by decide +kernel
theorem dX12_tellAct_138 : decode cX12_tellAct 138 = .ok (.iconst (-1), 1) := by decide +kernel
theorem dX12_tellAct_139 : decode cX12_tellAct 139 = .ok (.iastore, 1) := by decide +kernel
theorem dX12_tellAct_140 : decode cX12_tellAct 140 = .ok (.aload_n 0, 1) := by decide +kernel
theorem dX12_tellAct_141 : decode cX12_tellAct 141 = .ok (.bipush 22, 2) := by decide +kernel
theorem dX12_tellAct_143 : decode cX12_tellAct 143 = .ok (.invokevirtual 245, 3) := by decide +kernel
theorem dX12_tellAct_146 : decode cX12_tellAct 146 = .ok (.ifCond .eq 61, 3) := by decide +kernel
theorem dX12_tellAct_149 : decode cX12_tellAct 149 = .ok (.aload_n 0, 1) := by decide +kernel
theorem dX12_tellAct_150 : decode cX12_tellAct 150 = .ok (.invokevirtual 248, 3) := by decide +kernel
theorem dX12_tellAct_153 : decode cX12_tellAct 153 = .ok (.aload_n 0, 1) := by decide +kernel
theorem dX12_tellAct_154 : decode cX12_tellAct 154 = .ok (.getfield 230, 3) := by decide +kernel
theorem dX12_tellAct_157 : decode cX12_tellAct 157 = .ok (.istore 4, 2) := by decide +kernel
theorem dX12_tellAct_159 : decode cX12_tellAct 159 = .ok (.aload_n 0, 1) := by decide +kernel
theorem dX12_tellAct_160 : decode cX12_tellAct 160 = .ok (.iconst 2, 1) := by decide +kernel
theorem dX12_tellAct_161 : decode cX12_tellAct 161 = .ok (.invokevirtual 281, 3) := by decide +kernel
theorem dX12_tellAct_164 : decode cX12_tellAct 164 = .ok (.aload_n 0, 1) := by decide +kernel
theorem dX12_tellAct_165 : decode cX12_tellAct 165 = .ok (.getfield 227, 3) := by decide +kernel
theorem dX12_tellAct_168 : decode cX12_tellAct 168 = .ok (.ifCond .le 4, 3) := by decide +kernel
theorem dX12_tellAct_171 : decode cX12_tellAct 171 = .ok (.return_, 1) := by decide +kernel
theorem dX12_tellAct_172 : decode cX12_tellAct 172 = .ok (.aload_n 0, 1) := by decide +kernel
theorem dX12_tellAct_173 : decode cX12_tellAct 173 = .ok (.getfield 46, 3) := by decide +kernel
theorem dX12_tellAct_176 : decode cX12_tellAct 176 = .ok (.iload_n 3, 1) := by decide +kernel
theorem dX12_tellAct_177 : decode cX12_tellAct 177 = .ok (.aload_n 0, 1) := by decide +kernel
theorem dX12_tellAct_178 : decode cX12_tellAct 178 = .ok (.getfield 27, 3) := by decide +kernel
theorem dX12_tellAct_181 : decode cX12_tellAct 181 = .ok (.iload 4, 2) := by decide +kernel
theorem dX12_tellAct_183 : decode cX12_tellAct 183 = .ok (.iaload, 1) := by decide +kernel
theorem dX12_tellAct_184 : decode cX12_tellAct 184 = .ok (.iastore, 1) := by decide +kernel
theorem dX12_tellAct_185 : decode cX12_tellAct 185 = .ok (.aload_n 0, 1) := by decide +kernel
theorem dX12_tellAct_186 : decode cX12_tellAct 186 = .ok (.getfield 46, 3) := by decide +kernel
theorem dX12_tellAct_189 : decode cX12_tellAct 189 = .ok (.iload_n 3, 1) := by decide +kernel
theorem dX12_tellAct_190 : decode cX12_tellAct 190 = .ok (.iaload, 1) := by decide +kernel
theorem dX12_tellAct_191 : decode cX12_tellAct 191 = .ok (.aload_n 0, 1) := by decide +kernel
theorem dX12_tellAct_192 : decode cX12_tellAct 192 = .ok (.getfield 43, 3) := by decide +kernel
theorem dX12_tellAct_195 : decode cX12_tellAct 195 = .ok (.iload_n 3, 1) := by decide +kernel
theorem dX12_tellAct_196 : decode cX12_tellAct 196 = .ok (.iaload, 1) := by decide +kernel
theorem dX12_tellAct_197 : decode cX12_tellAct 197 = .ok (.if_icmp .gt 10, 3) := by decide +kernel
theorem dX12_tellAct_200 : decode cX12_tellAct 200 = .ok (.aload_n 0, 1) := by decide +kernel
theorem dX12_tellAct_201 : decode cX12_tellAct 201 = .ok (.iconst 5, 1) := by decide +kernel
theorem dX12_tellAct_202 : decode cX12_tellAct 202 = .ok (.iload 4, 2) := by decide +kernel
theorem dX12_tellAct_204 : decode cX12_tellAct 204 = .ok (.invokevirtual 284, 3) := by decide +kernel
theorem dX12_tellAct_207 : decode cX12_tellAct 207 = .ok (.aload_n 0, 1) := by decide +kernel
theorem dX12_tellAct_208 : decode cX12_tellAct 208 = .ok (.iconst 4, 1) := by decide +kernel
theorem dX12_tellAct_209 : decode cX12_tellAct 209 = .ok (.invokevirtual 281, 3) := by decide +kernel
theorem dX12_tellAct_212 : decode cX12_tellAct 212 = .ok (.aload_n 0, 1) := by decide +kernel
theorem dX12_tellAct_213 : decode cX12_tellAct 213 = .ok (.getfield 227, 3) := by decide +kernel
theorem dX12_tellAct_216 : decode cX12_tellAct 216 = .ok (.ifCond .le 4, 3) := by decide +kernel
theorem dX12_tellAct_219 : decode cX12_tellAct 219 = .ok (.return_, 1) := by decide +kernel
theorem dX12_tellAct_220 : decode cX12_tellAct 220 = .ok (.aload_n 0, 1) := by decide +kernel
theorem dX12_tellAct_221 : decode cX12_tellAct 221 = .ok (.dup, 1) := by decide +kernel
theorem dX12_tellAct_222 : decode cX12_tellAct 222 = .ok (.getfield 260, 3) := by decide +kernel
theorem dX12_tellAct_225 : decode cX12_tellAct 225 = .ok (.iconst 1, 1) := by decide +kernel
theorem dX12_tellAct_226 : decode cX12_tellAct 226 = .ok (.iadd, 1) := by decide +kernel
theorem dX12_tellAct_227 : decode cX12_tellAct 227 = .ok (.putfield 260, 3) := by decide +kernel
theorem dX12_tellAct_230 : decode cX12_tellAct 230 = .ok (.aload_n 0, 1) := by decide +kernel
theorem dX12_tellAct_231 : decode cX12_tellAct 231 = .ok (.getfield 227, 3) := by decide +kernel
theorem dX12_tellAct_234 : decode cX12_tellAct 234 = .ok (.ifCond .ne 20, 3) := by decide +kernel
theorem dX12_tellAct_237 : decode cX12_tellAct 237 = .ok (.aload_n 0, 1) := by decide +kernel
theorem dX12_tellAct_238 : decode cX12_tellAct 238 = .ok (.bipush 23, 2) := by decide +kernel
theorem dX12_tellAct_240 : decode cX12_tellAct 240 = .ok (.invokevirtual 245, 3) := by decide +kernel
theorem dX12_tellAct_243 : decode cX12_tellAct 243 = .ok (.ifCond .ne 11, 3) := by decide +kernel
theorem dX12_tellAct_246 : decode cX12_tellAct 246 = .ok (.aload_n 0, 1) := by decide +kernel
theorem dX12_tellAct_247 : decode cX12_tellAct 247 = .ok (.iload_n 3, 1) := by decide +kernel
theorem dX12_tellAct_248 : decode cX12_tellAct 248 = .ok (.invokevirtual 288, 3) := by decide +kernel
theorem dX12_tellAct_251 : decode cX12_tellAct 251 = .ok (.goto (-21), 3) := by decide +kernel
theorem dX12_tellAct_254 : decode cX12_tellAct 254 = .ok (.aload_n 0, 1) := by decide +kernel
theorem dX12_tellAct_255 : decode cX12_tellAct 255 = .ok (.bipush 23, 2) := by decide +kernel
theorem dX12_tellAct_257 : decode cX12_tellAct 257 = .ok (.invokevirtual 281, 3) := by decide +kernel
theorem dX12_tellAct_260 : decode cX12_tellAct 260 = .ok (.return_, 1) := by decide +kernel
theorem dX12_tellRule_0 : decode cX12_tellRule 0 = .ok (.aload_n 0, 1) := by decide +kernel
theorem dX12_tellRule_1 : decode cX12_tellRule 1 = .ok (.bipush 24, 2) := by decide +kernel
theorem dX12_tellRule_3 : decode cX12_tellRule 3 = .ok (.invokevirtual 245, 3) := by decide +kernel
theorem dX12_tellRule_6 : decode cX12_tellRule 6 = .ok (.ifCond .ne 20, 3) := by decide +kernel
theorem dX12_tellRule_9 : decode cX12_tellRule 9 = .ok (.aload_n 0, 1) := by decide +kernel
theorem dX12_tellRule_10 : decode cX12_tellRule 10 = .ok (.bipush 25, 2) := by decide +kernel
theorem dX12_tellRule_12 : decode cX12_tellRule 12 = .ok (.invokevirtual 245, 3) := by decide +kernel
theorem dX12_tellRule_15 : decode cX12_tellRule 15 = .ok (.ifCond .ne 11, 3) := by decide +kernel
theorem dX12_tellRule_18 : decode cX12_tellRule 18 = .ok (.aload_n 0, 1) := by decide +kernel
theorem dX12_tellRule_19 : decode cX12_tellRule 19 = .ok (.iconst 1, 1) := by decide +kernel
theorem dX12_tellRule_20 : decode cX12_tellRule 20 = .ok (.invokevirtual 242, 3) := by decide +kernel
theorem dX12_tellRule_23 : decode cX12_tellRule 23 = .ok (.goto 17, 3) := by decide +kernel
theorem dX12_tellRule_26 : decode cX12_tellRule 26 = .ok (.aload_n 0, 1) := by decide +kernel
theorem dX12_tellRule_27 : decode cX12_tellRule 27 = .ok (.getfield 266, 3) := by decide +kernel
theorem dX12_tellRule_30 : decode cX12_tellRule 30 = .ok (.bipush 30, 2) := by decide +kernel
theorem dX12_tellRule_32 : decode cX12_tellRule 32 = .ok (.if_icmp .ne 8, 3) := by decide +kernel
theorem dX12_tellRule_35 : decode cX12_tellRule 35 = .ok (.aload_n 0, 1) := by decide +kernel
theorem dX12_tellRule_36 : decode cX12_tellRule 36 = .ok (.iconst 2, 1) := by decide +kernel
theorem dX12_tellRule_37 : decode cX12_tellRule 37 = .ok (.invokevirtual 242, 3) := by decide +kernel
theorem dX12_tellRule_40 : decode cX12_tellRule 40 = .ok (.aload_n 0, 1) := by decide +kernel
theorem dX12_tellRule_41 : decode cX12_tellRule 41 = .ok (.getfield 227, 3) := by decide +kernel
theorem dX12_tellRule_44 : decode cX12_tellRule 44 = .ok (.ifCond .le 4, 3) := by decide +kernel
theorem dX12_tellRule_47 : decode cX12_tellRule 47 = .ok (.return_, 1) := by decide +kernel
theorem dX12_tellRule_48 : decode cX12_tellRule 48 = .ok (.aload_n 0, 1) := by decide +kernel
theorem dX12_tellRule_49 : decode cX12_tellRule 49 = .ok (.getfield 266, 3) := by decide +kernel
theorem dX12_tellRule_52 : decode cX12_tellRule 52 = .ok (.istore_n 2, 1) := by decide +kernel
theorem dX12_tellRule_53 : decode cX12_tellRule 53 = .ok (.aload_n 0, 1) := by decide +kernel
theorem dX12_tellRule_54 : decode cX12_tellRule 54 = .ok (.bipush 25, 2) := by decide +kernel
theorem dX12_tellRule_56 : decode cX12_tellRule 56 = .ok (.invokevirtual 245, 3) := by decide +kernel
theorem dX12_tellRule_59 : decode cX12_tellRule 59 = .ok (.istore_n 3, 1) := by decide +kernel
theorem dX12_tellRule_60 : decode cX12_tellRule 60 = .ok (.aload_n 0, 1) := by decide +kernel
theorem dX12_tellRule_61 : decode cX12_tellRule 61 = .ok (.invokevirtual 248, 3) := by decide +kernel
theorem dX12_tellRule_64 : decode cX12_tellRule 64 = .ok (.aload_n 0, 1) := by decide +kernel
theorem dX12_tellRule_65 : decode cX12_tellRule 65 = .ok (.getfield 49, 3) := by decide +kernel
theorem dX12_tellRule_68 : decode cX12_tellRule 68 = .ok (.iload_n 2, 1) := by decide +kernel
theorem dX12_tellRule_69 : decode cX12_tellRule 69 = .ok (.iload_n 1, 1) := by decide +kernel
theorem dX12_tellRule_70 : decode cX12_tellRule 70 = .ok (.iastore, 1) := by decide +kernel
theorem dX12_tellRule_71 : decode cX12_tellRule 71 = .ok (.aload_n 0, 1) := by decide +kernel
theorem dX12_tellRule_72 : decode cX12_tellRule 72 = .ok (.getfield 52, 3) := by decide +kernel
theorem dX12_tellRule_75 : decode cX12_tellRule 75 = .ok (.iload_n 2, 1) := by decide +kernel
theorem dX12_tellRule_76 : decode cX12_tellRule 76 = .ok (.iconst (-1), 1) := by decide +kernel
theorem dX12_tellRule_77 : decode cX12_tellRule 77 = .ok (.iastore, 1) := by decide +kernel
theorem dX12_tellRule_78 : decode cX12_tellRule 78 = .ok (.iload_n 3, 1) := by decide +kernel
theorem dX12_tellRule_79 : decode cX12_tellRule 79 = .ok (.ifCond .ne 54, 3) := by decide +kernel
theorem dX12_tellRule_82 : decode cX12_tellRule 82 = .ok (.aload_n 0, 1) := by decide +kernel
theorem dX12_tellRule_83 : decode cX12_tellRule 83 = .ok (.getfield 230, 3) := by decide +kernel
theorem dX12_tellRule_86 : decode cX12_tellRule 86 = .ok (.istore 4, 2) := by decide +kernel
theorem dX12_tellRule_88 : decode cX12_tellRule 88 = .ok (.aload_n 0, 1) := by decide +kernel
theorem dX12_tellRule_89 : decode cX12_tellRule 89 = .ok (.iconst 2, 1) := by decide +kernel
theorem dX12_tellRule_90 : decode cX12_tellRule 90 = .ok (.invokevirtual 281, 3) := by decide +kernel
theorem dX12_tellRule_93 : decode cX12_tellRule 93 = .ok (.aload_n 0, 1) := by decide +kernel
theorem dX12_tellRule_94 : decode cX12_tellRule 94 = .ok (.getfield 227, 3) := by decide +kernel
theorem dX12_tellRule_97 : decode cX12_tellRule 97 = .ok (.ifCond .le 4, 3) := by decide +kernel
theorem dX12_tellRule_100 : decode cX12_tellRule 100 = .ok (.return_, 1) := by decide +kernel
theorem dX12_tellRule_101 : decode cX12_tellRule 101 = .ok (.aload_n 0, 1) := by decide +kernel
theorem dX12_tellRule_102 : decode cX12_tellRule 102 = .ok (.getfield 52, 3) := by decide +kernel
theorem dX12_tellRule_105 : decode cX12_tellRule 105 = .ok (.iload_n 2, 1) := by decide +kernel
theorem dX12_tellRule_106 : decode cX12_tellRule 106 = .ok (.aload_n 0, 1) := by decide +kernel
theorem dX12_tellRule_107 : decode cX12_tellRule 107 = .ok (.getfield 27, 3) := by decide +kernel
theorem dX12_tellRule_110 : decode cX12_tellRule 110 = .ok (.iload 4, 2) := by decide +kernel
theorem dX12_tellRule_112 : decode cX12_tellRule 112 = .ok (.iaload, 1) := by decide +kernel
theorem dX12_tellRule_113 : decode cX12_tellRule 113 = .ok (.iastore, 1) := by decide +kernel
theorem dX12_tellRule_114 : decode cX12_tellRule 114 = .ok (.aload_n 0, 1) := by decide +kernel
theorem dX12_tellRule_115 : decode cX12_tellRule 115 = .ok (.getfield 27, 3) := by decide +kernel
theorem dX12_tellRule_118 : decode cX12_tellRule 118 = .ok (.iload 4, 2) := by decide +kernel
theorem dX12_tellRule_120 : decode cX12_tellRule 120 = .ok (.iaload, 1) := by decide +kernel
theorem dX12_tellRule_121 : decode cX12_tellRule 121 = .ok (.bipush 6, 2) := by decide +kernel
theorem dX12_tellRule_123 : decode cX12_tellRule 123 = .ok (.if_icmp .le 10, 3) := by decide +kernel
theorem dX12_tellRule_126 : decode cX12_tellRule 126 = .ok (.aload_n 0, 1) := by decide +kernel
theorem dX12_tellRule_127 : decode cX12_tellRule 127 = .ok (.iconst 5, 1) := by decide +kernel
theorem dX12_tellRule_128 : decode cX12_tellRule 128 = .ok (.iload 4, 2) := by decide +kernel
theorem dX12_tellRule_130 : decode cX12_tellRule 130 = .ok (.invokevirtual 284, 3) := by decide +kernel
theorem dX12_tellRule_133 : decode cX12_tellRule 133 = .ok (.aload_n 0, 1) := by decide +kernel
theorem dX12_tellRule_134 : decode cX12_tellRule 134 = .ok (.getfield 55, 3) := by decide +kernel
theorem dX12_tellRule_137 : decode cX12_tellRule 137 = .ok (.iload_n 2, 1) := by decide +kernel
theorem dX12_tellRule_138 : decode cX12_tellRule 138 = .ok (.aload_n 0, 1) := by decide +kernel
theorem dX12_tellRule_139 : decode cX12_tellRule 139 = .ok (.bipush 27, 2) := by decide +kernel
theorem dX12_tellRule_141 : decode cX12_tellRule 141 = .ok (.invokevirtual 245, 3) := by decide +kernel
theorem dX12_tellRule_144 : decode cX12_tellRule 144 = .ok (.bastore, 1) := by decide +kernel
theorem dX12_tellRule_145 : decode cX12_tellRule 145 = .ok (.aload_n 0, 1) := by decide +kernel
theorem dX12_tellRule_146 : decode cX12_tellRule 146 = .ok (.bipush 27, 2) := by decide +kernel
theorem dX12_tellRule_148 : decode cX12_tellRule 148 = .ok (.invokevirtual 245, 3) := by decide +kernel
theorem dX12_tellRule_151 : decode cX12_tellRule 151 = .ok (.ifCond .ne 17, 3) := by decide +kernel
theorem dX12_tellRule_154 : decode cX12_tellRule 154 = .ok (.aload_n 0, 1) := by decide +kernel
theorem dX12_tellRule_155 : decode cX12_tellRule 155 = .ok (.bipush 26, 2) := by decide +kernel
theorem dX12_tellRule_157 : decode cX12_tellRule 157 = .ok (.invokevirtual 245, 3) := by decide +kernel
theorem dX12_tellRule_160 : decode cX12_tellRule 160 = .ok (.ifCond .ne 8, 3) := by decide +kernel
theorem dX12_tellRule_163 : decode cX12_tellRule 163 = .ok (.aload_n 0, 1) := by decide +kernel
theorem dX12_tellRule_164 : decode cX12_tellRule 164 = .ok (.iconst 1, 1) := by decide +kernel
theorem dX12_tellRule_165 : decode cX12_tellRule 165 = .ok (.invokevirtual 242, 3) := by decide +kernel
theorem dX12_tellRule_168 : decode cX12_tellRule 168 = .ok (.aload_n 0, 1) := by decide +kernel
theorem dX12_tellRule_169 : decode cX12_tellRule 169 = .ok (.invokevirtual 248, 3) := by decide +kernel
theorem dX12_tellRule_172 : decode cX12_tellRule 172 = .ok (.aload_n 0, 1) := by decide +kernel
theorem dX12_tellRule_173 : decode cX12_tellRule 173 = .ok (.getfield 55, 3) := by decide +kernel
theorem dX12_tellRule_176 : decode cX12_tellRule 176 = .ok (.iload_n 2, 1) := by decide +kernel
theorem dX12_tellRule_177 : decode cX12_tellRule 177 = .ok (.baload, 1) := by decide +kernel
theorem dX12_tellRule_178 : decode cX12_tellRule 178 = .ok (.ifCond .eq 30, 3) := by decide +kernel
theorem dX12_tellRule_181 : decode cX12_tellRule 181 = .ok (.aload_n 0, 1) := by decide +kernel
theorem dX12_tellRule_182 : decode cX12_tellRule 182 = .ok (.getfield 59, 3) := by decide +kernel
theorem dX12_tellRule_185 : decode cX12_tellRule 185 = .ok (.iload_n 2, 1) := by decide +kernel
theorem dX12_tellRule_186 : decode cX12_tellRule 186 = .ok (.aload_n 0, 1) := by decide +kernel
theorem dX12_tellRule_187 : decode cX12_tellRule 187 = .ok (.getfield 272, 3) := by decide +kernel
theorem dX12_tellRule_190 : decode cX12_tellRule 190 = .ok (.iastore, 1) := by decide +kernel
theorem dX12_tellRule_191 : decode cX12_tellRule 191 = .ok (.aload_n 0, 1) := by decide +kernel
theorem dX12_tellRule_192 : decode cX12_tellRule 192 = .ok (.invokevirtual 291, 3) := by decide +kernel
theorem dX12_tellRule_195 : decode cX12_tellRule 195 = .ok (.aload_n 0, 1) := by decide +kernel
theorem dX12_tellRule_196 : decode cX12_tellRule 196 = .ok (.getfield 62, 3) := by decide +kernel
theorem dX12_tellRule_199 : decode cX12_tellRule 199 = .ok (.iload_n 2, 1) := by decide +kernel
theorem dX12_tellRule_200 : decode cX12_tellRule 200 = .ok (.aload_n 0, 1) := by decide +kernel
theorem dX12_tellRule_201 : decode cX12_tellRule 201 = .ok (.getfield 272, 3) := by decide +kernel
theorem dX12_tellRule_204 : decode cX12_tellRule 204 = .ok (.iastore, 1) := by decide +kernel
theorem dX12_tellRule_205 : decode cX12_tellRule 205 = .ok (.goto 27, 3) := by decide +kernel
theorem dX12_tellRule_208 : decode cX12_tellRule 208 = .ok (.aload_n 0, 1) := by decide +kernel
theorem dX12_tellRule_209 : decode cX12_tellRule 209 = .ok (.getfield 59, 3) := by decide +kernel
theorem dX12_tellRule_212 : decode cX12_tellRule 212 = .ok (.iload_n 2, 1) := by decide +kernel
theorem dX12_tellRule_213 : decode cX12_tellRule 213 = .ok (.aload_n 0, 1) := by decide +kernel
theorem dX12_tellRule_214 : decode cX12_tellRule 214 = .ok (.getfield 269, 3) := by decide +kernel
theorem dX12_tellRule_217 : decode cX12_tellRule 217 = .ok (.iastore, 1) := by decide +kernel
theorem dX12_tellRule_218 : decode cX12_tellRule 218 = .ok (.aload_n 0, 1) := by decide +kernel
theorem dX12_tellRule_219 : decode cX12_tellRule 219 = .ok (.invokevirtual 294, 3) := by decide +kernel
theorem dX12_tellRule_222 : decode cX12_tellRule 222 = .ok (.aload_n 0, 1) := by decide +kernel
theorem dX12_tellRule_223 : decode cX12_tellRule 223 = .ok (.getfield 62, 3) := by decide +kernel
theorem dX12_tellRule_226 : decode cX12_tellRule 226 = .ok (.iload_n 2, 1) := by decide +kernel
theorem dX12_tellRule_227 : decode cX12_tellRule 227 = .ok (.aload_n 0, 1) := by decide +kernel
theorem dX12_tellRule_228 : decode cX12_tellRule 228 = .ok (.getfield 269, 3) := by decide +kernel
theorem dX12_tellRule_231 : decode cX12_tellRule 231 = .ok (.iastore, 1) := by decide +kernel
theorem dX12_tellRule_232 : decode cX12_tellRule 232 = .ok (.aload_n 0, 1) := by decide +kernel
theorem dX12_tellRule_233 : decode cX12_tellRule 233 = .ok (.getfield 65, 3) := by decide +kernel
theorem dX12_tellRule_236 : decode cX12_tellRule 236 = .ok (.iload_n 2, 1) := by decide +kernel
theorem dX12_tellRule_237 : decode cX12_tellRule 237 = .ok (.aload_n 0, 1) := by decide +kernel
theorem dX12_tellRule_238 : decode cX12_tellRule 238 = .ok (.getfield 269, 3) := by decide +kernel
theorem dX12_tellRule_241 : decode cX12_tellRule 241 = .ok (.iastore, 1) := by decide +kernel
theorem dX12_tellRule_242 : decode cX12_tellRule 242 = .ok (.aload_n 0, 1) := by decide +kernel
theorem dX12_tellRule_243 : decode cX12_tellRule 243 = .ok (.bipush 28, 2) := by decide +kernel
theorem dX12_tellRule_245 : decode cX12_tellRule 245 = .ok (.invokevirtual 245, 3) := by decide +kernel
theorem dX12_tellRule_248 : decode cX12_tellRule 248 = .ok (.ifCond .eq 11, 3) := by decide +kernel
theorem dX12_tellRule_251 : decode cX12_tellRule 251 = .ok (.aload_n 0, 1) := by decide +kernel
theorem dX12_tellRule_252 : decode cX12_tellRule 252 = .ok (.invokevirtual 248, 3) := by decide +kernel
theorem dX12_tellRule_255 : decode cX12_tellRule 255 = .ok (.aload_n 0, 1) := by decide +kernel
theorem dX12_tellRule_256 : decode cX12_tellRule 256 = .ok (.invokevirtual 294, 3) := by decide +kernel
theorem dX12_tellRule_259 : decode cX12_tellRule 259 = .ok (.aload_n 0, 1) := by decide +kernel
theorem dX12_tellRule_260 : decode cX12_tellRule 260 = .ok (.getfield 68, 3) := by decide +kernel
theorem dX12_tellRule_263 : decode cX12_tellRule 263 = .ok (.iload_n 2, 1) := by decide +kernel
theorem dX12_tellRule_264 : decode cX12_tellRule 264 = .ok (.aload_n 0, 1) := by decide +kernel
theorem dX12_tellRule_265 : decode cX12_tellRule 265 = .ok (.getfield 269, 3) := by decide +kernel
theorem dX12_tellRule_268 : decode cX12_tellRule 268 = .ok (.iastore, 1) := by decide +kernel
theorem dX12_tellRule_269 : decode cX12_tellRule 269 = .ok (.aload_n 0, 1) := by decide +kernel
theorem dX12_tellRule_270 : decode cX12_tellRule 270 = .ok (.iconst 4, 1) := by decide +kernel
theorem dX12_tellRule_271 : decode cX12_tellRule 271 = .ok (.invokevirtual 281, 3) := by decide +kernel
theorem dX12_tellRule_274 : decode cX12_tellRule 274 = .ok (.aload_n 0, 1) := by decide +kernel
theorem dX12_tellRule_275 : decode cX12_tellRule 275 = .ok (.getfield 227, 3) := by decide +kernel
theorem dX12_tellRule_278 : decode cX12_tellRule 278 = .ok (.ifCond .ne 13, 3) := by decide +kernel
theorem dX12_tellRule_281 : decode cX12_tellRule 281 = .ok (.aload_n 0, 1) := by decide +kernel
theorem dX12_tellRule_282 : decode cX12_tellRule 282 = .ok (.dup, 1) := by decide +kernel
theorem dX12_tellRule_283 : decode cX12_tellRule 283 = .ok (.getfield 266, 3) := by decide +kernel
theorem dX12_tellRule_286 : decode cX12_tellRule 286 = .ok (.iconst 1, 1) := by decide +kernel
theorem dX12_tellRule_287 : decode cX12_tellRule 287 = .ok (.iadd, 1) := by decide +kernel
theorem dX12_tellRule_288 : decode cX12_tellRule 288 = .ok (.putfield 266, 3) := by decide +kernel
theorem dX12_tellRule_291 : decode cX12_tellRule 291 = .ok (.return_, 1) := by decide +kernel
theorem dX12_condition_0 : decode cX12_condition 0 = .ok (.iconst 1, 1) := by decide +kernel
theorem dX12_condition_1 : decode cX12_condition 1 = .ok (.istore_n 1, 1) := by decide +kernel
theorem dX12_condition_2 : decode cX12_condition 2 = .ok (.iconst 1, 1) := by decide +kernel
theorem dX12_condition_3 : decode cX12_condition 3 = .ok (.istore_n 2, 1) := by decide +kernel
theorem dX12_condition_4 : decode cX12_condition 4 = .ok (.iload_n 2, 1) := by decide +kernel
theorem dX12_condition_5 : decode cX12_condition 5 = .ok (.ifCond .eq 191, 3) := by decide +kernel
theorem dX12_condition_8 : decode cX12_condition 8 = .ok (.aload_n 0, 1) := by decide +kernel
theorem dX12_condition_9 : decode cX12_condition 9 = .ok (.getfield 227, 3) := by decide +kernel
theorem dX12_condition_12 : decode cX12_condition 12 = .ok (.ifCond .ne 184, 3) := by decide +kernel
theorem dX12_condition_15 : decode cX12_condition 15 = .ok (.aload_n 0, 1) := by decide +kernel
theorem dX12_condition_16 : decode cX12_condition 16 = .ok (.getfield 272, 3) := by decide +kernel
theorem dX12_condition_19 : decode cX12_condition 19 = .ok (.istore_n 3, 1) := by decide +kernel
theorem dX12_condition_20 : decode cX12_condition 20 = .ok (.aload_n 0, 1) := by decide +kernel
theorem dX12_condition_21 : decode cX12_condition 21 = .ok (.invokevirtual 291, 3) := by decide +kernel
theorem dX12_condition_24 : decode cX12_condition 24 = .ok (.aload_n 0, 1) := by decide +kernel
theorem dX12_condition_25 : decode cX12_condition 25 = .ok (.getfield 227, 3) := by decide +kernel
theorem dX12_condition_28 : decode cX12_condition 28 = .ok (.ifCond .le 7, 3) := by decide +kernel
theorem dX12_condition_31 : decode cX12_condition 31 = .ok (.iconst 0, 1) := by decide +kernel
theorem dX12_condition_32 : decode cX12_condition 32 = .ok (.goto 15, 3) := by decide +kernel
theorem dX12_condition_35 : decode cX12_condition 35 = .ok (.aload_n 0, 1) := by decide +kernel
theorem dX12_condition_36 : decode cX12_condition 36 = .ok (.getfield 20, 3) := by decide +kernel
theorem dX12_condition_39 : decode cX12_condition 39 = .ok (.aload_n 0, 1) := by decide +kernel
theorem dX12_condition_40 : decode cX12_condition 40 = .ok (.getfield 230, 3) := by decide +kernel
theorem dX12_condition_43 : decode cX12_condition 43 = .ok (.iaload, 1) := by decide +kernel
theorem dX12_condition_44 : decode cX12_condition 44 = .ok (.bipush 11, 2) := by decide +kernel
theorem dX12_condition_46 : decode cX12_condition 46 = .ok (.isub, 1) := by decide +kernel
theorem dX12_condition_47 : decode cX12_condition 47 = .ok (.istore 4, 2) := by decide +kernel
theorem dX12_condition_49 : decode cX12_condition 49 = .ok (.aload_n 0, 1) := by decide +kernel
theorem dX12_condition_50 : decode cX12_condition 50 = .ok (.getfield 227, 3) := by decide +kernel
theorem dX12_condition_53 : decode cX12_condition 53 = .ok (.ifCond .ne 19, 3) := by decide +kernel
theorem dX12_condition_56 : decode cX12_condition 56 = .ok (.iload 4, 2) := by decide +kernel
theorem dX12_condition_58 : decode cX12_condition 58 = .ok (.ifCond .lt 9, 3) := by decide +kernel
theorem dX12_condition_61 : decode cX12_condition 61 = .ok (.iload 4, 2) := by decide +kernel
theorem dX12_condition_63 : decode cX12_condition 63 = .ok (.iconst 3, 1) := by decide +kernel
theorem dX12_condition_64 : decode cX12_condition 64 = .ok (.if_icmp .le 8, 3) := by decide +kernel
theorem dX12_condition_67 : decode cX12_condition 67 = .ok (.aload_n 0, 1) := by decide +kernel
theorem dX12_condition_68 : decode cX12_condition 68 = .ok (.iconst 1, 1) := by decide +kernel
theorem dX12_condition_69 : decode cX12_condition 69 = .ok (.invokevirtual 242, 3) := by decide +kernel
theorem dX12_condition_72 : decode cX12_condition 72 = .ok (.aload_n 0, 1) := by decide +kernel
theorem dX12_condition_73 : decode cX12_condition 73 = .ok (.invokevirtual 248, 3) := by decide +kernel
theorem dX12_condition_76 : decode cX12_condition 76 = .ok (.aload_n 0, 1) := by decide +kernel
theorem dX12_condition_77 : decode cX12_condition 77 = .ok (.getfield 272, 3) := by decide +kernel
theorem dX12_condition_80 : decode cX12_condition 80 = .ok (.istore 5, 2) := by decide +kernel
theorem dX12_condition_82 : decode cX12_condition 82 = .ok (.aload_n 0, 1) := by decide +kernel
theorem dX12_condition_83 : decode cX12_condition 83 = .ok (.invokevirtual 291, 3) := by decide +kernel
theorem dX12_condition_86 : decode cX12_condition 86 = .ok (.aload_n 0, 1) := by decide +kernel
theorem dX12_condition_87 : decode cX12_condition 87 = .ok (.getfield 227, 3) := by decide +kernel
theorem dX12_condition_90 : decode cX12_condition 90 = .ok (.ifCond .le 4, 3) := by decide +kernel
theorem dX12_condition_93 : decode cX12_condition 93 = .ok (.return_, 1) := by decide +kernel
theorem dX12_condition_94 : decode cX12_condition 94 = .ok (.aload_n 0, 1) := by decide +kernel
theorem dX12_condition_95 : decode cX12_condition 95 = .ok (.getfield 71, 3) := by decide +kernel
theorem dX12_condition_98 : decode cX12_condition 98 = .ok (.aload_n 0, 1) := by decide +kernel
theorem dX12_condition_99 : decode cX12_condition 99 = .ok (.getfield 269, 3) := by decide +kernel
theorem dX12_condition_102 : decode cX12_condition 102 = .ok (.iload 4, 2) := by decide +kernel
theorem dX12_condition_104 : decode cX12_condition 104 = .ok (.iastore, 1) := by decide +kernel
theorem dX12_condition_105 : decode cX12_condition 105 = .ok (.aload_n 0, 1) := by decide +kernel
theorem dX12_condition_106 : decode cX12_condition 106 = .ok (.getfield 74, 3) := by decide +kernel
theorem dX12_condition_109 : decode cX12_condition 109 = .ok (.aload_n 0, 1) := by decide +kernel
theorem dX12_condition_110 : decode cX12_condition 110 = .ok (.getfield 269, 3) := by decide +kernel
theorem dX12_condition_113 : decode cX12_condition 113 = .ok (.iload_n 3, 1) := by decide +kernel
theorem dX12_condition_114 : decode cX12_condition 114 = .ok (.iastore, 1) := by decide +kernel
theorem dX12_condition_115 : decode cX12_condition 115 = .ok (.aload_n 0, 1) := by decide +kernel
theorem dX12_condition_116 : decode cX12_condition 116 = .ok (.getfield 77, 3) := by decide +kernel
theorem dX12_condition_119 : decode cX12_condition 119 = .ok (.aload_n 0, 1) := by decide +kernel
theorem dX12_condition_120 : decode cX12_condition 120 = .ok (.getfield 269, 3) := by decide +kernel
theorem dX12_condition_123 : decode cX12_condition 123 = .ok (.iload 5, 2) := by decide +kernel
theorem dX12_condition_125 : decode cX12_condition 125 = .ok (.iastore, 1) := by decide +kernel
theorem dX12_condition_126 : decode cX12_condition 126 = .ok (.aload_n 0, 1) := by decide +kernel
theorem dX12_condition_127 : decode cX12_condition 127 = .ok (.getfield 80, 3) := by decide +kernel
theorem dX12_condition_130 : decode cX12_condition 130 = .ok (.aload_n 0, 1) := by decide +kernel
theorem dX12_condition_131 : decode cX12_condition 131 = .ok (.getfield 269, 3) := by decide +kernel
theorem dX12_condition_134 : decode cX12_condition 134 = .ok (.aload_n 0, 1) := by decide +kernel
theorem dX12_condition_135 : decode cX12_condition 135 = .ok (.getfield 272, 3) := by decide +kernel
theorem dX12_condition_138 : decode cX12_condition 138 = .ok (.iastore, 1) := by decide +kernel
theorem dX12_condition_139 : decode cX12_condition 139 = .ok (.aload_n 0, 1) := by decide +kernel
theorem dX12_condition_140 : decode cX12_condition 140 = .ok (.getfield 83, 3) := by decide +kernel
theorem dX12_condition_143 : decode cX12_condition 143 = .ok (.aload_n 0, 1) := by decide +kernel
theorem dX12_condition_144 : decode cX12_condition 144 = .ok (.getfield 269, 3) := by decide +kernel
theorem dX12_condition_147 : decode cX12_condition 147 = .ok (.iload_n 1, 1) := by decide +kernel
theorem dX12_condition_148 : decode cX12_condition 148 = .ok (.bastore, 1) := by decide +kernel
theorem dX12_condition_149 : decode cX12_condition 149 = .ok (.aload_n 0, 1) := by decide +kernel
theorem dX12_condition_150 : decode cX12_condition 150 = .ok (.dup, 1) := by decide +kernel
theorem dX12_condition_151 : decode cX12_condition 151 = .ok (.getfield 269, 3) := by decide +kernel
theorem dX12_condition_154 : decode cX12_condition 154 = .ok (.iconst 1, 1) := by decide +kernel
theorem dX12_condition_155 : decode cX12_condition 155 = .ok (.iadd, 1) := by decide +kernel
theorem dX12_condition_156 : decode cX12_condition 156 = .ok (.putfield 269, 3) := by decide +kernel
theorem dX12_condition_159 : decode cX12_condition 159 = .ok (.aload_n 0, 1) := by decide +kernel
theorem dX12_condition_160 : decode cX12_condition 160 = .ok (.bipush 29, 2) := by decide +kernel
theorem dX12_condition_162 : decode cX12_condition 162 = .ok (.invokevirtual 245, 3) := by decide +kernel
theorem dX12_condition_165 : decode cX12_condition 165 = .ok (.istore_n 1, 1) := by decide +kernel
theorem dX12_condition_166 : decode cX12_condition 166 = .ok (.iload_n 1, 1) := by decide +kernel
theorem dX12_condition_167 : decode cX12_condition 167 = .ok (.ifCond .ne 12, 3) := by decide +kernel
theorem dX12_condition_170 : decode cX12_condition 170 = .ok (.aload_n 0, 1) := by decide +kernel
theorem dX12_condition_171 : decode cX12_condition 171 = .ok (.bipush 30, 2) := by decide +kernel
theorem dX12_condition_173 : decode cX12_condition 173 = .ok (.invokevirtual 245, 3) := by decide +kernel
theorem dX12_condition_176 : decode cX12_condition 176 = .ok (.ifCond .eq 7, 3) := by decide +kernel
theorem dX12_condition_179 : decode cX12_condition 179 = .ok (.iconst 1, 1) := by decide +kernel
theorem dX12_condition_180 : decode cX12_condition 180 = .ok (.goto 4, 3) := by decide +kernel
theorem dX12_condition_183 : decode cX12_condition 183 = .ok (.iconst 0, 1) := by decide +kernel
theorem dX12_condition_184 : decode cX12_condition 184 = .ok (.istore_n 2, 1) := by decide +kernel
theorem dX12_condition_185 : decode cX12_condition 185 = .ok (.iload_n 2, 1) := by decide +kernel
theorem dX12_condition_186 : decode cX12_condition 186 = .ok (.ifCond .eq 7, 3) := by decide +kernel
theorem dX12_condition_189 : decode cX12_condition 189 = .ok (.aload_n 0, 1) := by decide +kernel
theorem dX12_condition_190 : decode cX12_condition 190 = .ok (.invokevirtual 248, 3) := by decide +kernel
theorem dX12_condition_193 : decode cX12_condition 193 = .ok (.goto (-189), 3) := by decide +kernel
theorem dX12_condition_196 : decode cX12_condition 196 = .ok (.return_, 1) := by decide +kernel
theorem dX12_emit_0 : decode cX12_emit 0 = .ok (.aload_n 0, 1) := by decide +kernel
theorem dX12_emit_1 : decode cX12_emit 1 = .ok (.getfield 86, 3) := by decide +kernel
theorem dX12_emit_4 : decode cX12_emit 4 = .ok (.aload_n 0, 1) := by decide +kernel
theorem dX12_emit_5 : decode cX12_emit 5 = .ok (.getfield 272, 3) := by decide +kernel
theorem dX12_emit_8 : decode cX12_emit 8 = .ok (.iload_n 1, 1) := by decide +kernel
theorem dX12_emit_9 : decode cX12_emit 9 = .ok (.iastore, 1) := by decide +kernel
theorem dX12_emit_10 : decode cX12_emit 10 = .ok (.aload_n 0, 1) := by decide +kernel
theorem dX12_emit_11 : decode cX12_emit 11 = .ok (.getfield 89, 3) := by decide +kernel
theorem dX12_emit_14 : decode cX12_emit 14 = .ok (.aload_n 0, 1) := by decide +kernel
theorem dX12_emit_15 : decode cX12_emit 15 = .ok (.getfield 272, 3) := by decide +kernel
theorem dX12_emit_18 : decode cX12_emit 18 = .ok (.iload_n 2, 1) := by decide +kernel
theorem dX12_emit_19 : decode cX12_emit 19 = .ok (.iastore, 1) := by decide +kernel
theorem dX12_emit_20 : decode cX12_emit 20 = .ok (.aload_n 0, 1) := by decide +kernel
theorem dX12_emit_21 : decode cX12_emit 21 = .ok (.dup, 1) := by decide +kernel
theorem dX12_emit_22 : decode cX12_emit 22 = .ok (.getfield 272, 3) := by decide +kernel
theorem dX12_emit_25 : decode cX12_emit 25 = .ok (.iconst 1, 1) := by decide +kernel
theorem dX12_emit_26 : decode cX12_emit 26 = .ok (.iadd, 1) := by decide +kernel
theorem dX12_emit_27 : decode cX12_emit 27 = .ok (.putfield 272, 3) := by decide +kernel
theorem dX12_emit_30 : decode cX12_emit 30 = .ok (.return_, 1) := by decide +kernel
theorem dX12_comesOut_0 : decode cX12_comesOut 0 = .ok (.aload_n 0, 1) := by decide +kernel
theorem dX12_comesOut_1 : decode cX12_comesOut 1 = .ok (.getfield 297, 3) := by decide +kernel
theorem dX12_comesOut_4 : decode cX12_comesOut 4 = .ok (.ifCond .le 98, 3) := by decide +kernel
theorem dX12_comesOut_7 : decode cX12_comesOut 7 = .ok (.aload_n 0, 1) := by decide +kernel
theorem dX12_comesOut_8 : decode cX12_comesOut 8 = .ok (.getfield 92, 3) := by decide +kernel
theorem dX12_comesOut_11 : decode cX12_comesOut 11 = .ok (.aload_n 0, 1) := by decide +kernel
theorem dX12_comesOut_12 : decode cX12_comesOut 12 = .ok (.getfield 297, 3) := by decide +kernel
theorem dX12_comesOut_15 : decode cX12_comesOut 15 = .ok (.iconst 1, 1) := by decide +kernel
theorem dX12_comesOut_16 : decode cX12_comesOut 16 = .ok (.isub, 1) := by decide +kernel
theorem dX12_comesOut_17 : decode cX12_comesOut 17 = .ok (.iaload, 1) := by decide +kernel
theorem dX12_comesOut_18 : decode cX12_comesOut 18 = .ok (.bipush 6, 2) := by decide +kernel
theorem dX12_comesOut_20 : decode cX12_comesOut 20 = .ok (.if_icmp .eq 82, 3) := by decide +kernel
theorem dX12_comesOut_23 : decode cX12_comesOut 23 = .ok (.iload_n 1, 1) := by decide +kernel
theorem dX12_comesOut_24 : decode cX12_comesOut 24 = .ok (.ifCond .eq 19, 3) := by decide +kernel
theorem dX12_comesOut_27 : decode cX12_comesOut 27 = .ok (.aload_n 0, 1) := by decide +kernel
theorem dX12_comesOut_28 : decode cX12_comesOut 28 = .ok (.getfield 92, 3) := by decide +kernel
theorem dX12_comesOut_31 : decode cX12_comesOut 31 = .ok (.aload_n 0, 1) := by decide +kernel
theorem dX12_comesOut_32 : decode cX12_comesOut 32 = .ok (.getfield 297, 3) := by decide +kernel
theorem dX12_comesOut_35 : decode cX12_comesOut 35 = .ok (.iconst 1, 1) := by decide +kernel
theorem dX12_comesOut_36 : decode cX12_comesOut 36 = .ok (.isub, 1) := by decide +kernel
theorem dX12_comesOut_37 : decode cX12_comesOut 37 = .ok (.iaload, 1) := by decide +kernel
theorem dX12_comesOut_38 : decode cX12_comesOut 38 = .ok (.bipush 10, 2) := by decide +kernel
theorem dX12_comesOut_40 : decode cX12_comesOut 40 = .ok (.if_icmp .ne 62, 3) := by decide +kernel
theorem dX12_comesOut_43 : decode cX12_comesOut 43 = .ok (.aload_n 0, 1) := by decide +kernel
theorem dX12_comesOut_44 : decode cX12_comesOut 44 = .ok (.dup, 1) := by decide +kernel
theorem dX12_comesOut_45 : decode cX12_comesOut 45 = .ok (.getfield 297, 3) := by decide +kernel
theorem dX12_comesOut_48 : decode cX12_comesOut 48 = .ok (.iconst 1, 1) := by decide +kernel
theorem dX12_comesOut_49 : decode cX12_comesOut 49 = .ok (.isub, 1) := by decide +kernel
theorem dX12_comesOut_50 : decode cX12_comesOut 50 = .ok (.putfield 297, 3) := by decide +kernel
theorem dX12_comesOut_53 : decode cX12_comesOut 53 = .ok (.aload_n 0, 1) := by decide +kernel
theorem dX12_comesOut_54 : decode cX12_comesOut 54 = .ok (.getfield 92, 3) := by decide +kernel
theorem dX12_comesOut_57 : decode cX12_comesOut 57 = .ok (.aload_n 0, 1) := by decide +kernel
theorem dX12_comesOut_58 : decode cX12_comesOut 58 = .ok (.getfield 297, 3) := by decide +kernel
theorem dX12_comesOut_61 : decode cX12_comesOut 61 = .ok (.iaload, 1) := by decide +kernel
theorem dX12_comesOut_62 : decode cX12_comesOut 62 = .ok (.istore_n 2, 1) := by decide +kernel
theorem dX12_comesOut_63 : decode cX12_comesOut 63 = .ok (.aload_n 0, 1) := by decide +kernel
theorem dX12_comesOut_64 : decode cX12_comesOut 64 = .ok (.iload_n 2, 1) := by decide +kernel
theorem dX12_comesOut_65 : decode cX12_comesOut 65 = .ok (.bipush 8, 2) := by decide +kernel
theorem dX12_comesOut_67 : decode cX12_comesOut 67 = .ok (.if_icmp .ne 7, 3) := by decide +kernel
theorem dX12_comesOut_70 : decode cX12_comesOut 70 = .ok (.iconst 2, 1) := by decide +kernel
theorem dX12_comesOut_71 : decode cX12_comesOut 71 = .ok (.goto 24, 3) := by decide +kernel
theorem dX12_comesOut_74 : decode cX12_comesOut 74 = .ok (.iload_n 2, 1) := by decide +kernel
theorem dX12_comesOut_75 : decode cX12_comesOut 75 = .ok (.bipush 9, 2) := by decide +kernel
theorem dX12_comesOut_77 : decode cX12_comesOut 77 = .ok (.if_icmp .ne 7, 3) := by decide +kernel
theorem dX12_comesOut_80 : decode cX12_comesOut 80 = .ok (.iconst 3, 1) := by decide +kernel
theorem dX12_comesOut_81 : decode cX12_comesOut 81 = .ok (.goto 14, 3) := by decide +kernel
theorem dX12_comesOut_84 : decode cX12_comesOut 84 = .ok (.iload_n 2, 1) := by decide +kernel
theorem dX12_comesOut_85 : decode cX12_comesOut 85 = .ok (.bipush 10, 2) := by decide +kernel
theorem dX12_comesOut_87 : decode cX12_comesOut 87 = .ok (.if_icmp .ne 7, 3) := by decide +kernel
theorem dX12_comesOut_90 : decode cX12_comesOut 90 = .ok (.iconst 4, 1) := by decide +kernel
theorem dX12_comesOut_91 : decode cX12_comesOut 91 = .ok (.goto 4, 3) := by decide +kernel
theorem dX12_comesOut_94 : decode cX12_comesOut 94 = .ok (.iconst 5, 1) := by decide +kernel
theorem dX12_comesOut_95 : decode cX12_comesOut 95 = .ok (.iconst 0, 1) := by decide +kernel
theorem dX12_comesOut_96 : decode cX12_comesOut 96 = .ok (.invokevirtual 300, 3) := by decide +kernel
theorem dX12_comesOut_99 : decode cX12_comesOut 99 = .ok (.goto (-99), 3) := by decide +kernel
theorem dX12_comesOut_102 : decode cX12_comesOut 102 = .ok (.return_, 1) := by decide +kernel
theorem dX12_expression_0 : decode cX12_expression 0 = .ok (.aload_n 0, 1) := by decide +kernel
theorem dX12_expression_1 : decode cX12_expression 1 = .ok (.iconst 0, 1) := by decide +kernel
theorem dX12_expression_2 : decode cX12_expression 2 = .ok (.putfield 297, 3) := by decide +kernel
theorem dX12_expression_5 : decode cX12_expression 5 = .ok (.aload_n 0, 1) := by decide +kernel
theorem dX12_expression_6 : decode cX12_expression 6 = .ok (.getfield 254, 3) := by decide +kernel
theorem dX12_expression_9 : decode cX12_expression 9 = .ok (.istore_n 1, 1) := by decide +kernel
theorem dX12_expression_10 : decode cX12_expression 10 = .ok (.iconst 1, 1) := by decide +kernel
theorem dX12_expression_11 : decode cX12_expression 11 = .ok (.istore_n 2, 1) := by decide +kernel
theorem dX12_expression_12 : decode cX12_expression 12 = .ok (.iconst 1, 1) := by decide +kernel
theorem dX12_expression_13 : decode cX12_expression 13 = .ok (.istore_n 3, 1) := by decide +kernel
theorem dX12_expression_14 : decode cX12_expression 14 = .ok (.iload_n 3, 1) := by decide +kernel
theorem dX12_expression_15 : decode cX12_expression 15 = .ok (.ifCond .eq 391, 3) := by decide +kernel
theorem dX12_expression_18 : decode cX12_expression 18 = .ok (.aload_n 0, 1) := by decide +kernel
theorem dX12_expression_19 : decode cX12_expression 19 = .ok (.getfield 227, 3) := by decide +kernel
theorem dX12_expression_22 : decode cX12_expression 22 = .ok (.ifCond .ne 384, 3) := by decide +kernel
theorem dX12_expression_25 : decode cX12_expression 25 = .ok (.iload_n 2, 1) := by decide +kernel
theorem dX12_expression_26 : decode cX12_expression 26 = .ok (.ifCond .eq 36, 3) := by decide +kernel
theorem dX12_expression_29 : decode cX12_expression 29 = .ok (.aload_n 0, 1) := by decide +kernel
theorem dX12_expression_30 : decode cX12_expression 30 = .ok (.bipush 9, 2) := by decide +kernel
theorem dX12_expression_32 : decode cX12_expression 32 = .ok (.invokevirtual 245, 3) := by decide +kernel
theorem dX12_expression_35 : decode cX12_expression 35 = .ok (.ifCond .eq 27, 3) := by decide +kernel
theorem dX12_expression_38 : decode cX12_expression 38 = .ok (.aload_n 0, 1) := by decide +kernel
theorem dX12_expression_39 : decode cX12_expression 39 = .ok (.invokevirtual 248, 3) := by decide +kernel
theorem dX12_expression_42 : decode cX12_expression 42 = .ok (.aload_n 0, 1) := by decide +kernel
theorem dX12_expression_43 : decode cX12_expression 43 = .ok (.getfield 92, 3) := by decide +kernel
theorem dX12_expression_46 : decode cX12_expression 46 = .ok (.aload_n 0, 1) := by decide +kernel
theorem dX12_expression_47 : decode cX12_expression 47 = .ok (.getfield 297, 3) := by decide +kernel
theorem dX12_expression_50 : decode cX12_expression 50 = .ok (.iconst 3, 1) := by decide +kernel
theorem dX12_expression_51 : decode cX12_expression 51 = .ok (.iastore, 1) := by decide +kernel
theorem dX12_expression_52 : decode cX12_expression 52 = .ok (.aload_n 0, 1) := by decide +kernel
theorem dX12_expression_53 : decode cX12_expression 53 = .ok (.dup, 1) := by decide +kernel
theorem dX12_expression_54 : decode cX12_expression 54 = .ok (.getfield 297, 3) := by decide +kernel
theorem dX12_expression_57 : decode cX12_expression 57 = .ok (.iconst 1, 1) := by decide +kernel
theorem dX12_expression_58 : decode cX12_expression 58 = .ok (.iadd, 1) := by decide +kernel
theorem dX12_expression_59 : decode cX12_expression 59 = .ok (.putfield 297, 3) := by decide +kernel
theorem dX12_expression_62 : decode cX12_expression 62 = .ok (.aload_n 0, 1) := by decide +kernel
theorem dX12_expression_63 : decode cX12_expression 63 = .ok (.bipush 6, 2) := by decide +kernel
theorem dX12_expression_65 : decode cX12_expression 65 = .ok (.invokevirtual 245, 3) := by decide +kernel
theorem dX12_expression_68 : decode cX12_expression 68 = .ok (.ifCond .eq 65, 3) := by decide +kernel
theorem dX12_expression_71 : decode cX12_expression 71 = .ok (.aload_n 0, 1) := by decide +kernel
theorem dX12_expression_72 : decode cX12_expression 72 = .ok (.getfield 254, 3) := by decide +kernel
theorem dX12_expression_75 : decode cX12_expression 75 = .ok (.bipush 8, 2) := by decide +kernel
theorem dX12_expression_77 : decode cX12_expression 77 = .ok (.if_icmp .ne 8, 3) := by decide +kernel
theorem dX12_expression_80 : decode cX12_expression 80 = .ok (.aload_n 0, 1) := by decide +kernel
theorem dX12_expression_81 : decode cX12_expression 81 = .ok (.iconst 2, 1) := by decide +kernel
theorem dX12_expression_82 : decode cX12_expression 82 = .ok (.invokevirtual 242, 3) := by decide +kernel
theorem dX12_expression_85 : decode cX12_expression 85 = .ok (.aload_n 0, 1) := by decide +kernel
theorem dX12_expression_86 : decode cX12_expression 86 = .ok (.getfield 227, 3) := by decide +kernel
theorem dX12_expression_89 : decode cX12_expression 89 = .ok (.ifCond .le 4, 3) := by decide +kernel
theorem dX12_expression_92 : decode cX12_expression 92 = .ok (.return_, 1) := by decide +kernel
theorem dX12_expression_93 : decode cX12_expression 93 = .ok (.aload_n 0, 1) := by decide +kernel
theorem dX12_expression_94 : decode cX12_expression 94 = .ok (.dup, 1) := by decide +kernel
theorem dX12_expression_95 : decode cX12_expression 95 = .ok (.getfield 254, 3) := by decide +kernel
theorem dX12_expression_98 : decode cX12_expression 98 = .ok (.iconst 1, 1) := by decide +kernel
theorem dX12_expression_99 : decode cX12_expression 99 = .ok (.iadd, 1) := by decide +kernel
theorem dX12_expression_100 : decode cX12_expression 100 = .ok (.putfield 254, 3) := by decide +kernel
theorem dX12_expression_103 : decode cX12_expression 103 = .ok (.aload_n 0, 1) := by decide +kernel
theorem dX12_expression_104 : decode cX12_expression 104 = .ok (.invokevirtual 248, 3) := by decide +kernel
theorem dX12_expression_107 : decode cX12_expression 107 = .ok (.aload_n 0, 1) := by decide +kernel
theorem dX12_expression_108 : decode cX12_expression 108 = .ok (.getfield 92, 3) := by decide +kernel
theorem dX12_expression_111 : decode cX12_expression 111 = .ok (.aload_n 0, 1) := by decide +kernel
theorem dX12_expression_112 : decode cX12_expression 112 = .ok (.getfield 297, 3) := by decide +kernel
theorem dX12_expression_115 : decode cX12_expression 115 = .ok (.bipush 6, 2) := by decide +kernel
theorem dX12_expression_117 : decode cX12_expression 117 = .ok (.iastore, 1) := by decide +kernel
theorem dX12_expression_118 : decode cX12_expression 118 = .ok (.aload_n 0, 1) := by decide +kernel
theorem dX12_expression_119 : decode cX12_expression 119 = .ok (.dup, 1) := by decide +kernel
theorem dX12_expression_120 : decode cX12_expression 120 = .ok (.getfield 297, 3) := by decide +kernel
theorem dX12_expression_123 : decode cX12_expression 123 = .ok (.iconst 1, 1) := by decide +kernel
theorem dX12_expression_124 : decode cX12_expression 124 = .ok (.iadd, 1) := by decide +kernel
theorem dX12_expression_125 : decode cX12_expression 125 = .ok (.putfield 297, 3) := by decide +kernel
theorem dX12_expression_128 : decode cX12_expression 128 = .ok (.iconst 1, 1) := by decide +kernel
theorem dX12_expression_129 : decode cX12_expression 129 = .ok (.istore_n 2, 1) := by decide +kernel
theorem dX12_expression_130 : decode cX12_expression 130 = .ok (.goto (-116), 3) := by decide +kernel
theorem dX12_expression_133 : decode cX12_expression 133 = .ok (.iconst 0, 1) := by decide +kernel
theorem dX12_expression_134 : decode cX12_expression 134 = .ok (.istore_n 2, 1) := by decide +kernel
theorem dX12_expression_135 : decode cX12_expression 135 = .ok (.aload_n 0, 1) := by decide +kernel
theorem dX12_expression_136 : decode cX12_expression 136 = .ok (.getfield 227, 3) := by decide +kernel
theorem dX12_expression_139 : decode cX12_expression 139 = .ok (.ifCond .ne 35, 3) := by decide +kernel
theorem dX12_expression_142 : decode cX12_expression 142 = .ok (.aload_n 0, 1) := by decide +kernel
theorem dX12_expression_143 : decode cX12_expression 143 = .ok (.getfield 20, 3) := by decide +kernel
theorem dX12_expression_146 : decode cX12_expression 146 = .ok (.aload_n 0, 1) := by decide +kernel
theorem dX12_expression_147 : decode cX12_expression 147 = .ok (.getfield 230, 3) := by decide +kernel
theorem dX12_expression_150 : decode cX12_expression 150 = .ok (.iaload, 1) := by decide +kernel
theorem dX12_expression_151 : decode cX12_expression 151 = .ok (.bipush 31, 2) := by decide +kernel
theorem dX12_expression_153 : decode cX12_expression 153 = .ok (.if_icmp .lt 21, 3) := by decide +kernel
theorem dX12_expression_156 : decode cX12_expression 156 = .ok (.aload_n 0, 1) := by decide +kernel
theorem dX12_expression_157 : decode cX12_expression 157 = .ok (.getfield 20, 3) := by decide +kernel
theorem dX12_expression_160 : decode cX12_expression 160 = .ok (.aload_n 0, 1) := by decide +kernel
theorem dX12_expression_161 : decode cX12_expression 161 = .ok (.getfield 230, 3) := by decide +kernel
theorem dX12_expression_164 : decode cX12_expression 164 = .ok (.iaload, 1) := by decide +kernel
theorem dX12_expression_165 : decode cX12_expression 165 = .ok (.bipush 42, 2) := by decide +kernel
theorem dX12_expression_167 : decode cX12_expression 167 = .ok (.if_icmp .gt 7, 3) := by decide +kernel
theorem dX12_expression_170 : decode cX12_expression 170 = .ok (.iconst 1, 1) := by decide +kernel
theorem dX12_expression_171 : decode cX12_expression 171 = .ok (.goto 4, 3) := by decide +kernel
theorem dX12_expression_174 : decode cX12_expression 174 = .ok (.iconst 0, 1) := by decide +kernel
theorem dX12_expression_175 : decode cX12_expression 175 = .ok (.istore 4, 2) := by decide +kernel
theorem dX12_expression_177 : decode cX12_expression 177 = .ok (.aload_n 0, 1) := by decide +kernel
theorem dX12_expression_178 : decode cX12_expression 178 = .ok (.iconst 2, 1) := by decide +kernel
theorem dX12_expression_179 : decode cX12_expression 179 = .ok (.invokevirtual 245, 3) := by decide +kernel
theorem dX12_expression_182 : decode cX12_expression 182 = .ok (.ifCond .ne 13, 3) := by decide +kernel
theorem dX12_expression_185 : decode cX12_expression 185 = .ok (.iload 4, 2) := by decide +kernel
theorem dX12_expression_187 : decode cX12_expression 187 = .ok (.ifCond .ne 8, 3) := by decide +kernel
theorem dX12_expression_190 : decode cX12_expression 190 = .ok (.aload_n 0, 1) := by decide +kernel
theorem dX12_expression_191 : decode cX12_expression 191 = .ok (.iconst 1, 1) := by decide +kernel
theorem dX12_expression_192 : decode cX12_expression 192 = .ok (.invokevirtual 242, 3) := by decide +kernel
theorem dX12_expression_195 : decode cX12_expression 195 = .ok (.aload_n 0, 1) := by decide +kernel
theorem dX12_expression_196 : decode cX12_expression 196 = .ok (.getfield 227, 3) := by decide +kernel
theorem dX12_expression_199 : decode cX12_expression 199 = .ok (.ifCond .le 4, 3) := by decide +kernel
theorem dX12_expression_202 : decode cX12_expression 202 = .ok (.return_, 1) := by decide +kernel
theorem dX12_expression_203 : decode cX12_expression 203 = .ok (.iload 4, 2) := by decide +kernel
theorem dX12_expression_205 : decode cX12_expression 205 = .ok (.ifCond .eq 23, 3) := by decide +kernel
theorem dX12_expression_208 : decode cX12_expression 208 = .ok (.aload_n 0, 1) := by decide +kernel
theorem dX12_expression_209 : decode cX12_expression 209 = .ok (.iconst 1, 1) := by decide +kernel
theorem dX12_expression_210 : decode cX12_expression 210 = .ok (.aload_n 0, 1) := by decide +kernel
theorem dX12_expression_211 : decode cX12_expression 211 = .ok (.getfield 20, 3) := by decide +kernel
theorem dX12_expression_214 : decode cX12_expression 214 = .ok (.aload_n 0, 1) := by decide +kernel
theorem dX12_expression_215 : decode cX12_expression 215 = .ok (.getfield 230, 3) := by decide +kernel
theorem dX12_expression_218 : decode cX12_expression 218 = .ok (.iaload, 1) := by decide +kernel
theorem dX12_expression_219 : decode cX12_expression 219 = .ok (.bipush 31, 2) := by decide +kernel
theorem dX12_expression_221 : decode cX12_expression 221 = .ok (.isub, 1) := by decide +kernel
theorem dX12_expression_222 : decode cX12_expression 222 = .ok (.invokevirtual 300, 3) := by decide +kernel
theorem dX12_expression_225 : decode cX12_expression 225 = .ok (.goto 17, 3) := by decide +kernel
theorem dX12_expression_228 : decode cX12_expression 228 = .ok (.aload_n 0, 1) := by decide +kernel
theorem dX12_expression_229 : decode cX12_expression 229 = .ok (.iconst 0, 1) := by decide +kernel
theorem dX12_expression_230 : decode cX12_expression 230 = .ok (.aload_n 0, 1) := by decide +kernel
theorem dX12_expression_231 : decode cX12_expression 231 = .ok (.getfield 27, 3) := by decide +kernel
theorem dX12_expression_234 : decode cX12_expression 234 = .ok (.aload_n 0, 1) := by decide +kernel
theorem dX12_expression_235 : decode cX12_expression 235 = .ok (.getfield 230, 3) := by decide +kernel
theorem dX12_expression_238 : decode cX12_expression 238 = .ok (.iaload, 1) := by decide +kernel
theorem dX12_expression_239 : decode cX12_expression 239 = .ok (.invokevirtual 300, 3) := by decide +kernel
theorem dX12_expression_242 : decode cX12_expression 242 = .ok (.aload_n 0, 1) := by decide +kernel
theorem dX12_expression_243 : decode cX12_expression 243 = .ok (.invokevirtual 248, 3) := by decide +kernel
theorem dX12_expression_246 : decode cX12_expression 246 = .ok (.aload_n 0, 1) := by decide +kernel
theorem dX12_expression_247 : decode cX12_expression 247 = .ok (.bipush 7, 2) := by decide +kernel
theorem dX12_expression_249 : decode cX12_expression 249 = .ok (.invokevirtual 245, 3) := by decide +kernel
theorem dX12_expression_252 : decode cX12_expression 252 = .ok (.ifCond .eq 43, 3) := by decide +kernel
theorem dX12_expression_255 : decode cX12_expression 255 = .ok (.aload_n 0, 1) := by decide +kernel
theorem dX12_expression_256 : decode cX12_expression 256 = .ok (.getfield 254, 3) := by decide +kernel
theorem dX12_expression_259 : decode cX12_expression 259 = .ok (.iload_n 1, 1) := by decide +kernel
theorem dX12_expression_260 : decode cX12_expression 260 = .ok (.if_icmp .le 35, 3) := by decide +kernel
theorem dX12_expression_263 : decode cX12_expression 263 = .ok (.aload_n 0, 1) := by decide +kernel
theorem dX12_expression_264 : decode cX12_expression 264 = .ok (.iconst 0, 1) := by decide +kernel
theorem dX12_expression_265 : decode cX12_expression 265 = .ok (.invokevirtual 303, 3) := by decide +kernel
theorem dX12_expression_268 : decode cX12_expression 268 = .ok (.aload_n 0, 1) := by decide +kernel
theorem dX12_expression_269 : decode cX12_expression 269 = .ok (.dup, 1) := by decide +kernel
theorem dX12_expression_270 : decode cX12_expression 270 = .ok (.getfield 297, 3) := by decide +kernel
theorem dX12_expression_273 : decode cX12_expression 273 = .ok (.iconst 1, 1) := by decide +kernel
theorem dX12_expression_274 : decode cX12_expression 274 = .ok (.isub, 1) := by decide +kernel
theorem dX12_expression_275 : decode cX12_expression 275 = .ok (.putfield 297, 3) := by decide +kernel
theorem dX12_expression_278 : decode cX12_expression 278 = .ok (.aload_n 0, 1) := by decide +kernel
theorem dX12_expression_279 : decode cX12_expression 279 = .ok (.dup, 1) := by decide +kernel
theorem dX12_expression_280 : decode cX12_expression 280 = .ok (.getfield 254, 3) := by decide +kernel
theorem dX12_expression_283 : decode cX12_expression 283 = .ok (.iconst 1, 1) := by decide +kernel
theorem dX12_expression_284 : decode cX12_expression 284 = .ok (.isub, 1) := by decide +kernel
theorem dX12_expression_285 : decode cX12_expression 285 = .ok (.putfield 254, 3) := by decide +kernel
theorem dX12_expression_288 : decode cX12_expression 288 = .ok (.aload_n 0, 1) := by decide +kernel
theorem dX12_expression_289 : decode cX12_expression 289 = .ok (.invokevirtual 248, 3) := by decide +kernel
theorem dX12_expression_292 : decode cX12_expression 292 = .ok (.goto (-46), 3) := by decide +kernel
theorem dX12_expression_295 : decode cX12_expression 295 = .ok (.aload_n 0, 1) := by decide +kernel
theorem dX12_expression_296 : decode cX12_expression 296 = .ok (.bipush 8, 2) := by decide +kernel
theorem dX12_expression_298 : decode cX12_expression 298 = .ok (.invokevirtual 245, 3) := by decide +kernel
theorem dX12_expression_301 : decode cX12_expression 301 = .ok (.ifCond .ne 21, 3) := by decide +kernel
theorem dX12_expression_304 : decode cX12_expression 304 = .ok (.aload_n 0, 1) := by decide +kernel
theorem dX12_expression_305 : decode cX12_expression 305 = .ok (.bipush 9, 2) := by decide +kernel
theorem dX12_expression_307 : decode cX12_expression 307 = .ok (.invokevirtual 245, 3) := by decide +kernel
theorem dX12_expression_310 : decode cX12_expression 310 = .ok (.ifCond .ne 12, 3) := by decide +kernel
theorem dX12_expression_313 : decode cX12_expression 313 = .ok (.aload_n 0, 1) := by decide +kernel
theorem dX12_expression_314 : decode cX12_expression 314 = .ok (.bipush 10, 2) := by decide +kernel
theorem dX12_expression_316 : decode cX12_expression 316 = .ok (.invokevirtual 245, 3) := by decide +kernel
theorem dX12_expression_319 : decode cX12_expression 319 = .ok (.ifCond .eq 7, 3) := by decide +kernel
theorem dX12_expression_322 : decode cX12_expression 322 = .ok (.iconst 1, 1) := by decide +kernel
theorem dX12_expression_323 : decode cX12_expression 323 = .ok (.goto 4, 3) := by decide +kernel
theorem dX12_expression_326 : decode cX12_expression 326 = .ok (.iconst 0, 1) := by decide +kernel
theorem dX12_expression_327 : decode cX12_expression 327 = .ok (.istore_n 3, 1) := by decide +kernel
theorem dX12_expression_328 : decode cX12_expression 328 = .ok (.iload_n 3, 1) := by decide +kernel
theorem dX12_expression_329 : decode cX12_expression 329 = .ok (.ifCond .ne 22, 3) := by decide +kernel
theorem dX12_expression_332 : decode cX12_expression 332 = .ok (.aload_n 0, 1) := by decide +kernel
theorem dX12_expression_333 : decode cX12_expression 333 = .ok (.getfield 254, 3) := by decide +kernel
theorem dX12_expression_336 : decode cX12_expression 336 = .ok (.iload_n 1, 1) := by decide +kernel
theorem dX12_expression_337 : decode cX12_expression 337 = .ok (.if_icmp .le 8, 3) := by decide +kernel
theorem dX12_expression_340 : decode cX12_expression 340 = .ok (.aload_n 0, 1) := by decide +kernel
theorem dX12_expression_341 : decode cX12_expression 341 = .ok (.iconst 1, 1) := by decide +kernel
theorem dX12_expression_342 : decode cX12_expression 342 = .ok (.invokevirtual 242, 3) := by decide +kernel
theorem dX12_expression_345 : decode cX12_expression 345 = .ok (.aload_n 0, 1) := by decide +kernel
theorem dX12_expression_346 : decode cX12_expression 346 = .ok (.iconst 0, 1) := by decide +kernel
theorem dX12_expression_347 : decode cX12_expression 347 = .ok (.invokevirtual 303, 3) := by decide +kernel
theorem dX12_expression_350 : decode cX12_expression 350 = .ok (.return_, 1) := by decide +kernel
theorem dX12_expression_351 : decode cX12_expression 351 = .ok (.aload_n 0, 1) := by decide +kernel
theorem dX12_expression_352 : decode cX12_expression 352 = .ok (.getfield 20, 3) := by decide +kernel
theorem dX12_expression_355 : decode cX12_expression 355 = .ok (.aload_n 0, 1) := by decide +kernel
theorem dX12_expression_356 : decode cX12_expression 356 = .ok (.getfield 230, 3) := by decide +kernel
theorem dX12_expression_359 : decode cX12_expression 359 = .ok (.iaload, 1) := by decide +kernel
theorem dX12_expression_360 : decode cX12_expression 360 = .ok (.istore 5, 2) := by decide +kernel
theorem dX12_expression_362 : decode cX12_expression 362 = .ok (.aload_n 0, 1) := by decide +kernel
theorem dX12_expression_363 : decode cX12_expression 363 = .ok (.iload 5, 2) := by decide +kernel
theorem dX12_expression_365 : decode cX12_expression 365 = .ok (.bipush 10, 2) := by decide +kernel
theorem dX12_expression_367 : decode cX12_expression 367 = .ok (.if_icmp .ne 7, 3) := by decide +kernel
theorem dX12_expression_370 : decode cX12_expression 370 = .ok (.iconst 1, 1) := by decide +kernel
theorem dX12_expression_371 : decode cX12_expression 371 = .ok (.goto 4, 3) := by decide +kernel
theorem dX12_expression_374 : decode cX12_expression 374 = .ok (.iconst 0, 1) := by decide +kernel
theorem dX12_expression_375 : decode cX12_expression 375 = .ok (.invokevirtual 303, 3) := by decide +kernel
theorem dX12_expression_378 : decode cX12_expression 378 = .ok (.aload_n 0, 1) := by decide +kernel
theorem dX12_expression_379 : decode cX12_expression 379 = .ok (.getfield 92, 3) := by decide +kernel
theorem dX12_expression_382 : decode cX12_expression 382 = .ok (.aload_n 0, 1) := by decide +kernel
theorem dX12_expression_383 : decode cX12_expression 383 = .ok (.getfield 297, 3) := by decide +kernel
theorem dX12_expression_386 : decode cX12_expression 386 = .ok (.iload 5, 2) := by decide +kernel
theorem dX12_expression_388 : decode cX12_expression 388 = .ok (.iastore, 1) := by decide +kernel
theorem dX12_expression_389 : decode cX12_expression 389 = .ok (.aload_n 0, 1) := by decide +kernel
theorem dX12_expression_390 : decode cX12_expression 390 = .ok (.dup, 1) := by decide +kernel
theorem dX12_expression_391 : decode cX12_expression 391 = .ok (.getfield 297, 3) := by decide +kernel
theorem dX12_expression_394 : decode cX12_expression 394 = .ok (.iconst 1, 1) := by decide +kernel
theorem dX12_expression_395 : decode cX12_expression 395 = .ok (.iadd, 1) := by decide +kernel
theorem dX12_expression_396 : decode cX12_expression 396 = .ok (.putfield 297, 3) := by decide +kernel
theorem dX12_expression_399 : decode cX12_expression 399 = .ok (.aload_n 0, 1) := by decide +kernel
theorem dX12_expression_400 : decode cX12_expression 400 = .ok (.invokevirtual 248, 3) := by decide +kernel
theorem dX12_expression_403 : decode cX12_expression 403 = .ok (.goto (-389), 3) := by decide +kernel
theorem dX12_expression_406 : decode cX12_expression 406 = .ok (.return_, 1) := by decide +kernel
theorem dX12_isMill_0 : decode cX12_isMill 0 = .ok (.iload_n 1, 1) := by decide +kernel
theorem dX12_isMill_1 : decode cX12_isMill 1 = .ok (.ifCond .lt 15, 3) := by decide +kernel
theorem dX12_isMill_4 : decode cX12_isMill 4 = .ok (.iload_n 1, 1) := by decide +kernel
theorem dX12_isMill_5 : decode cX12_isMill 5 = .ok (.aload_n 0, 1) := by decide +kernel
theorem dX12_isMill_6 : decode cX12_isMill 6 = .ok (.getfield 307, 3) := by decide +kernel
theorem dX12_isMill_9 : decode cX12_isMill 9 = .ok (.if_icmp .ge 7, 3) := by decide +kernel
theorem dX12_isMill_12 : decode cX12_isMill 12 = .ok (.iconst 1, 1) := by decide +kernel
theorem dX12_isMill_13 : decode cX12_isMill 13 = .ok (.goto 4, 3) := by decide +kernel
theorem dX12_isMill_16 : decode cX12_isMill 16 = .ok (.iconst 0, 1) := by decide +kernel
theorem dX12_isMill_17 : decode cX12_isMill 17 = .ok (.ireturn, 1) := by decide +kernel
theorem dX12_mill_0 : decode cX12_mill 0 = .ok (.aload_n 0, 1) := by decide +kernel
theorem dX12_mill_1 : decode cX12_mill 1 = .ok (.getfield 307, 3) := by decide +kernel
theorem dX12_mill_4 : decode cX12_mill 4 = .ok (.bipush 7, 2) := by decide +kernel
theorem dX12_mill_6 : decode cX12_mill 6 = .ok (.if_icmp .eq 53, 3) := by decide +kernel
theorem dX12_mill_9 : decode cX12_mill 9 = .ok (.aload_n 0, 1) := by decide +kernel
theorem dX12_mill_10 : decode cX12_mill 10 = .ok (.getfield 310, 3) := by decide +kernel
theorem dX12_mill_13 : decode cX12_mill 13 = .ok (.ifCond .ne 46, 3) := by decide +kernel
theorem dX12_mill_16 : decode cX12_mill 16 = .ok (.iload_n 1, 1) := by decide +kernel
theorem dX12_mill_17 : decode cX12_mill 17 = .ok (.iconst 1, 1) := by decide +kernel
theorem dX12_mill_18 : decode cX12_mill 18 = .ok (.if_icmp .lt 41, 3) := by decide +kernel
theorem dX12_mill_21 : decode cX12_mill 21 = .ok (.iload_n 1, 1) := by decide +kernel
theorem dX12_mill_22 : decode cX12_mill 22 = .ok (.sipush 1000, 3) := by decide +kernel
theorem dX12_mill_25 : decode cX12_mill 25 = .ok (.if_icmp .gt 34, 3) := by decide +kernel
theorem dX12_mill_28 : decode cX12_mill 28 = .ok (.iload_n 2, 1) := by decide +kernel
theorem dX12_mill_29 : decode cX12_mill 29 = .ok (.ifCond .lt 30, 3) := by decide +kernel
theorem dX12_mill_32 : decode cX12_mill 32 = .ok (.iload_n 2, 1) := by decide +kernel
theorem dX12_mill_33 : decode cX12_mill 33 = .ok (.iload_n 1, 1) := by decide +kernel
theorem dX12_mill_34 : decode cX12_mill 34 = .ok (.if_icmp .gt 25, 3) := by decide +kernel
theorem dX12_mill_37 : decode cX12_mill 37 = .ok (.iload_n 3, 1) := by decide +kernel
theorem dX12_mill_38 : decode cX12_mill 38 = .ok (.iconst 1, 1) := by decide +kernel
theorem dX12_mill_39 : decode cX12_mill 39 = .ok (.if_icmp .lt 20, 3) := by decide +kernel
theorem dX12_mill_42 : decode cX12_mill 42 = .ok (.iload_n 3, 1) := by decide +kernel
theorem dX12_mill_43 : decode cX12_mill 43 = .ok (.iconst 4, 1) := by decide +kernel
theorem dX12_mill_44 : decode cX12_mill 44 = .ok (.if_icmp .gt 15, 3) := by decide +kernel
theorem dX12_mill_47 : decode cX12_mill 47 = .ok (.iload 4, 2) := by decide +kernel
theorem dX12_mill_49 : decode cX12_mill 49 = .ok (.ifCond .lt 10, 3) := by decide +kernel
theorem dX12_mill_52 : decode cX12_mill 52 = .ok (.iload 4, 2) := by decide +kernel
theorem dX12_mill_54 : decode cX12_mill 54 = .ok (.bipush 9, 2) := by decide +kernel
theorem dX12_mill_56 : decode cX12_mill 56 = .ok (.if_icmp .le 5, 3) := by decide +kernel
theorem dX12_mill_59 : decode cX12_mill 59 = .ok (.iconst (-1), 1) := by decide +kernel
theorem dX12_mill_60 : decode cX12_mill 60 = .ok (.ireturn, 1) := by decide +kernel
theorem dX12_mill_61 : decode cX12_mill 61 = .ok (.aload_n 0, 1) := by decide +kernel
theorem dX12_mill_62 : decode cX12_mill 62 = .ok (.getfield 95, 3) := by decide +kernel
theorem dX12_mill_65 : decode cX12_mill 65 = .ok (.aload_n 0, 1) := by decide +kernel
theorem dX12_mill_66 : decode cX12_mill 66 = .ok (.getfield 307, 3) := by decide +kernel
theorem dX12_mill_69 : decode cX12_mill 69 = .ok (.iload_n 1, 1) := by decide +kernel
theorem dX12_mill_70 : decode cX12_mill 70 = .ok (.iastore, 1) := by decide +kernel
theorem dX12_mill_71 : decode cX12_mill 71 = .ok (.aload_n 0, 1) := by decide +kernel
theorem dX12_mill_72 : decode cX12_mill 72 = .ok (.getfield 98, 3) := by decide +kernel
theorem dX12_mill_75 : decode cX12_mill 75 = .ok (.aload_n 0, 1) := by decide +kernel
theorem dX12_mill_76 : decode cX12_mill 76 = .ok (.getfield 307, 3) := by decide +kernel
theorem dX12_mill_79 : decode cX12_mill 79 = .ok (.iload_n 2, 1) := by decide +kernel
theorem dX12_mill_80 : decode cX12_mill 80 = .ok (.iastore, 1) := by decide +kernel
theorem dX12_mill_81 : decode cX12_mill 81 = .ok (.aload_n 0, 1) := by decide +kernel
theorem dX12_mill_82 : decode cX12_mill 82 = .ok (.getfield 101, 3) := by decide +kernel
theorem dX12_mill_85 : decode cX12_mill 85 = .ok (.aload_n 0, 1) := by decide +kernel
theorem dX12_mill_86 : decode cX12_mill 86 = .ok (.getfield 307, 3) := by decide +kernel
theorem dX12_mill_89 : decode cX12_mill 89 = .ok (.iload_n 3, 1) := by decide +kernel
theorem dX12_mill_90 : decode cX12_mill 90 = .ok (.iastore, 1) := by decide +kernel
theorem dX12_mill_91 : decode cX12_mill 91 = .ok (.aload_n 0, 1) := by decide +kernel
theorem dX12_mill_92 : decode cX12_mill 92 = .ok (.getfield 104, 3) := by decide +kernel
theorem dX12_mill_95 : decode cX12_mill 95 = .ok (.aload_n 0, 1) := by decide +kernel
theorem dX12_mill_96 : decode cX12_mill 96 = .ok (.getfield 307, 3) := by decide +kernel
theorem dX12_mill_99 : decode cX12_mill 99 = .ok (.iload 4, 2) := by decide +kernel
theorem dX12_mill_101 : decode cX12_mill 101 = .ok (.iastore, 1) := by decide +kernel
theorem dX12_mill_102 : decode cX12_mill 102 = .ok (.aload_n 0, 1) := by decide +kernel
theorem dX12_mill_103 : decode cX12_mill 103 = .ok (.dup, 1) := by decide +kernel
theorem dX12_mill_104 : decode cX12_mill 104 = .ok (.getfield 307, 3) := by decide +kernel
theorem dX12_mill_107 : decode cX12_mill 107 = .ok (.iconst 1, 1) := by decide +kernel
theorem dX12_mill_108 : decode cX12_mill 108 = .ok (.iadd, 1) := by decide +kernel
theorem dX12_mill_109 : decode cX12_mill 109 = .ok (.putfield 307, 3) := by decide +kernel
theorem dX12_mill_112 : decode cX12_mill 112 = .ok (.aload_n 0, 1) := by decide +kernel
theorem dX12_mill_113 : decode cX12_mill 113 = .ok (.invokevirtual 278, 3) := by decide +kernel
theorem dX12_mill_116 : decode cX12_mill 116 = .ok (.aload_n 0, 1) := by decide +kernel
theorem dX12_mill_117 : decode cX12_mill 117 = .ok (.getfield 307, 3) := by decide +kernel
theorem dX12_mill_120 : decode cX12_mill 120 = .ok (.iconst 1, 1) := by decide +kernel
theorem dX12_mill_121 : decode cX12_mill 121 = .ok (.isub, 1) := by decide +kernel
theorem dX12_mill_122 : decode cX12_mill 122 = .ok (.ireturn, 1) := by decide +kernel
theorem dX12_spring_0 : decode cX12_spring 0 = .ok (.iload_n 1, 1) := by decide +kernel
theorem dX12_spring_1 : decode cX12_spring 1 = .ok (.ifCond .lt 9, 3) := by decide +kernel
theorem dX12_spring_4 : decode cX12_spring 4 = .ok (.iload_n 1, 1) := by decide +kernel
theorem dX12_spring_5 : decode cX12_spring 5 = .ok (.bipush 100, 2) := by decide +kernel
theorem dX12_spring_7 : decode cX12_spring 7 = .ok (.if_icmp .le 5, 3) := by decide +kernel
theorem dX12_spring_10 : decode cX12_spring 10 = .ok (.iconst 0, 1) := by decide +kernel
theorem dX12_spring_11 : decode cX12_spring 11 = .ok (.ireturn, 1) := by decide +kernel
theorem dX12_spring_12 : decode cX12_spring 12 = .ok (.aload_n 0, 1) := by decide +kernel
theorem dX12_spring_13 : decode cX12_spring 13 = .ok (.iload_n 1, 1) := by decide +kernel
theorem dX12_spring_14 : decode cX12_spring 14 = .ok (.putfield 313, 3) := by decide +kernel
theorem dX12_spring_17 : decode cX12_spring 17 = .ok (.aload_n 0, 1) := by decide +kernel
theorem dX12_spring_18 : decode cX12_spring 18 = .ok (.invokevirtual 278, 3) := by decide +kernel
theorem dX12_spring_21 : decode cX12_spring 21 = .ok (.iconst 1, 1) := by decide +kernel
theorem dX12_spring_22 : decode cX12_spring 22 = .ok (.ireturn, 1) := by decide +kernel
theorem dX12_factors_0 : decode cX12_factors 0 = .ok (.iload_n 1, 1) := by decide +kernel
theorem dX12_factors_1 : decode cX12_factors 1 = .ok (.iconst (-1), 1) := by decide +kernel
theorem dX12_factors_2 : decode cX12_factors 2 = .ok (.if_icmp .eq 16, 3) := by decide +kernel
theorem dX12_factors_5 : decode cX12_factors 5 = .ok (.iload_n 1, 1) := by decide +kernel
theorem dX12_factors_6 : decode cX12_factors 6 = .ok (.iconst 1, 1) := by decide +kernel
theorem dX12_factors_7 : decode cX12_factors 7 = .ok (.if_icmp .lt 9, 3) := by decide +kernel
theorem dX12_factors_10 : decode cX12_factors 10 = .ok (.iload_n 1, 1) := by decide +kernel
theorem dX12_factors_11 : decode cX12_factors 11 = .ok (.bipush 20, 2) := by decide +kernel
theorem dX12_factors_13 : decode cX12_factors 13 = .ok (.if_icmp .le 5, 3) := by decide +kernel
theorem dX12_factors_16 : decode cX12_factors 16 = .ok (.iconst 0, 1) := by decide +kernel
theorem dX12_factors_17 : decode cX12_factors 17 = .ok (.ireturn, 1) := by decide +kernel
theorem dX12_factors_18 : decode cX12_factors 18 = .ok (.aload_n 0, 1) := by decide +kernel
theorem dX12_factors_19 : decode cX12_factors 19 = .ok (.iload_n 1, 1) := by decide +kernel
theorem dX12_factors_20 : decode cX12_factors 20 = .ok (.putfield 186, 3) := by decide +kernel
theorem dX12_factors_23 : decode cX12_factors 23 = .ok (.iconst 0, 1) := by decide +kernel
theorem dX12_factors_24 : decode cX12_factors 24 = .ok (.istore_n 2, 1) := by decide +kernel
theorem dX12_factors_25 : decode cX12_factors 25 = .ok (.iload_n 2, 1) := by decide +kernel
theorem dX12_factors_26 : decode cX12_factors 26 = .ok (.bipush 20, 2) := by decide +kernel
theorem dX12_factors_28 : decode cX12_factors 28 = .ok (.if_icmp .ge 16, 3) := by decide +kernel
theorem dX12_factors_31 : decode cX12_factors 31 = .ok (.aload_n 0, 1) := by decide +kernel
theorem dX12_factors_32 : decode cX12_factors 32 = .ok (.getfield 107, 3) := by decide +kernel
theorem dX12_factors_35 : decode cX12_factors 35 = .ok (.iload_n 2, 1) := by decide +kernel
theorem dX12_factors_36 : decode cX12_factors 36 = .ok (.iconst 1, 1) := by decide +kernel
theorem dX12_factors_37 : decode cX12_factors 37 = .ok (.iastore, 1) := by decide +kernel
theorem dX12_factors_38 : decode cX12_factors 38 = .ok (.iinc 2 1, 3) := by decide +kernel
theorem dX12_factors_41 : decode cX12_factors 41 = .ok (.goto (-16), 3) := by decide +kernel
theorem dX12_factors_44 : decode cX12_factors 44 = .ok (.aload_n 0, 1) := by decide +kernel
theorem dX12_factors_45 : decode cX12_factors 45 = .ok (.invokevirtual 278, 3) := by decide +kernel
theorem dX12_factors_48 : decode cX12_factors 48 = .ok (.iconst 1, 1) := by decide +kernel
theorem dX12_factors_49 : decode cX12_factors 49 = .ok (.ireturn, 1) := by decide +kernel
theorem dX12_factor_0 : decode cX12_factor 0 = .ok (.iload_n 1, 1) := by decide +kernel
theorem dX12_factor_1 : decode cX12_factor 1 = .ok (.ifCond .lt 23, 3) := by decide +kernel
theorem dX12_factor_4 : decode cX12_factor 4 = .ok (.iload_n 1, 1) := by decide +kernel
theorem dX12_factor_5 : decode cX12_factor 5 = .ok (.aload_n 0, 1) := by decide +kernel
theorem dX12_factor_6 : decode cX12_factor 6 = .ok (.getfield 186, 3) := by decide +kernel
theorem dX12_factor_9 : decode cX12_factor 9 = .ok (.if_icmp .ge 15, 3) := by decide +kernel
theorem dX12_factor_12 : decode cX12_factor 12 = .ok (.iload_n 2, 1) := by decide +kernel
theorem dX12_factor_13 : decode cX12_factor 13 = .ok (.bipush (-100), 2) := by decide +kernel
theorem dX12_factor_15 : decode cX12_factor 15 = .ok (.if_icmp .lt 9, 3) := by decide +kernel
theorem dX12_factor_18 : decode cX12_factor 18 = .ok (.iload_n 2, 1) := by decide +kernel
theorem dX12_factor_19 : decode cX12_factor 19 = .ok (.bipush 100, 2) := by decide +kernel
theorem dX12_factor_21 : decode cX12_factor 21 = .ok (.if_icmp .le 5, 3) := by decide +kernel
theorem dX12_factor_24 : decode cX12_factor 24 = .ok (.iconst 0, 1) := by decide +kernel
theorem dX12_factor_25 : decode cX12_factor 25 = .ok (.ireturn, 1) := by decide +kernel
theorem dX12_factor_26 : decode cX12_factor 26 = .ok (.aload_n 0, 1) := by decide +kernel
theorem dX12_factor_27 : decode cX12_factor 27 = .ok (.getfield 107, 3) := by decide +kernel
theorem dX12_factor_30 : decode cX12_factor 30 = .ok (.iload_n 1, 1) := by decide +kernel
theorem dX12_factor_31 : decode cX12_factor 31 = .ok (.iload_n 2, 1) := by decide +kernel
theorem dX12_factor_32 : decode cX12_factor 32 = .ok (.iastore, 1) := by decide +kernel
theorem dX12_factor_33 : decode cX12_factor 33 = .ok (.aload_n 0, 1) := by decide +kernel
theorem dX12_factor_34 : decode cX12_factor 34 = .ok (.invokevirtual 278, 3) := by decide +kernel
theorem dX12_factor_37 : decode cX12_factor 37 = .ok (.iconst 1, 1) := by decide +kernel
theorem dX12_factor_38 : decode cX12_factor 38 = .ok (.ireturn, 1) := by decide +kernel
theorem dX12_clock_0 : decode cX12_clock 0 = .ok (.iload_n 1, 1) := by decide +kernel
theorem dX12_clock_1 : decode cX12_clock 1 = .ok (.aload_n 0, 1) := by decide +kernel
theorem dX12_clock_2 : decode cX12_clock 2 = .ok (.getfield 310, 3) := by decide +kernel
theorem dX12_clock_5 : decode cX12_clock 5 = .ok (.if_icmp .lt 10, 3) := by decide +kernel
theorem dX12_clock_8 : decode cX12_clock 8 = .ok (.iload_n 1, 1) := by decide +kernel
theorem dX12_clock_9 : decode cX12_clock 9 = .ok (.sipush 240, 3) := by decide +kernel
theorem dX12_clock_12 : decode cX12_clock 12 = .ok (.if_icmp .lt 5, 3) := by decide +kernel
theorem dX12_clock_15 : decode cX12_clock 15 = .ok (.iconst 0, 1) := by decide +kernel
theorem dX12_clock_16 : decode cX12_clock 16 = .ok (.ireturn, 1) := by decide +kernel
theorem dX12_clock_17 : decode cX12_clock 17 = .ok (.aload_n 0, 1) := by decide +kernel
theorem dX12_clock_18 : decode cX12_clock 18 = .ok (.iload_n 1, 1) := by decide +kernel
theorem dX12_clock_19 : decode cX12_clock 19 = .ok (.putfield 310, 3) := by decide +kernel
theorem dX12_clock_22 : decode cX12_clock 22 = .ok (.iconst 1, 1) := by decide +kernel
theorem dX12_clock_23 : decode cX12_clock 23 = .ok (.ireturn, 1) := by decide +kernel
theorem dX12_rain_0 : decode cX12_rain 0 = .ok (.aload_n 0, 1) := by decide +kernel
theorem dX12_rain_1 : decode cX12_rain 1 = .ok (.getfield 316, 3) := by decide +kernel
theorem dX12_rain_4 : decode cX12_rain 4 = .ok (.sipush 400, 3) := by decide +kernel
theorem dX12_rain_7 : decode cX12_rain 7 = .ok (.if_icmp .eq 33, 3) := by decide +kernel
theorem dX12_rain_10 : decode cX12_rain 10 = .ok (.iload_n 1, 1) := by decide +kernel
theorem dX12_rain_11 : decode cX12_rain 11 = .ok (.ifCond .lt 29, 3) := by decide +kernel
theorem dX12_rain_14 : decode cX12_rain 14 = .ok (.iload_n 1, 1) := by decide +kernel
theorem dX12_rain_15 : decode cX12_rain 15 = .ok (.sipush 240, 3) := by decide +kernel
theorem dX12_rain_18 : decode cX12_rain 18 = .ok (.if_icmp .ge 22, 3) := by decide +kernel
theorem dX12_rain_21 : decode cX12_rain 21 = .ok (.aload_n 0, 1) := by decide +kernel
theorem dX12_rain_22 : decode cX12_rain 22 = .ok (.iload_n 2, 1) := by decide +kernel
theorem dX12_rain_23 : decode cX12_rain 23 = .ok (.invokevirtual 319, 3) := by decide +kernel
theorem dX12_rain_26 : decode cX12_rain 26 = .ok (.ifCond .eq 14, 3) := by decide +kernel
theorem dX12_rain_29 : decode cX12_rain 29 = .ok (.iload_n 3, 1) := by decide +kernel
theorem dX12_rain_30 : decode cX12_rain 30 = .ok (.ifCond .lt 10, 3) := by decide +kernel
theorem dX12_rain_33 : decode cX12_rain 33 = .ok (.iload_n 3, 1) := by decide +kernel
theorem dX12_rain_34 : decode cX12_rain 34 = .ok (.sipush 1000, 3) := by decide +kernel
theorem dX12_rain_37 : decode cX12_rain 37 = .ok (.if_icmp .le 5, 3) := by decide +kernel
theorem dX12_rain_40 : decode cX12_rain 40 = .ok (.iconst (-1), 1) := by decide +kernel
theorem dX12_rain_41 : decode cX12_rain 41 = .ok (.ireturn, 1) := by decide +kernel
theorem dX12_rain_42 : decode cX12_rain 42 = .ok (.aload_n 0, 1) := by decide +kernel
theorem dX12_rain_43 : decode cX12_rain 43 = .ok (.getfield 110, 3) := by decide +kernel
theorem dX12_rain_46 : decode cX12_rain 46 = .ok (.aload_n 0, 1) := by decide +kernel
theorem dX12_rain_47 : decode cX12_rain 47 = .ok (.getfield 316, 3) := by decide +kernel
theorem dX12_rain_50 : decode cX12_rain 50 = .ok (.iload_n 1, 1) := by decide +kernel
theorem dX12_rain_51 : decode cX12_rain 51 = .ok (.iastore, 1) := by decide +kernel
theorem dX12_rain_52 : decode cX12_rain 52 = .ok (.aload_n 0, 1) := by decide +kernel
theorem dX12_rain_53 : decode cX12_rain 53 = .ok (.getfield 113, 3) := by decide +kernel
theorem dX12_rain_56 : decode cX12_rain 56 = .ok (.aload_n 0, 1) := by decide +kernel
theorem dX12_rain_57 : decode cX12_rain 57 = .ok (.getfield 316, 3) := by decide +kernel
theorem dX12_rain_60 : decode cX12_rain 60 = .ok (.iload_n 2, 1) := by decide +kernel
theorem dX12_rain_61 : decode cX12_rain 61 = .ok (.iastore, 1) := by decide +kernel
theorem dX12_rain_62 : decode cX12_rain 62 = .ok (.aload_n 0, 1) := by decide +kernel
theorem dX12_rain_63 : decode cX12_rain 63 = .ok (.getfield 116, 3) := by decide +kernel
theorem dX12_rain_66 : decode cX12_rain 66 = .ok (.aload_n 0, 1) := by decide +kernel
theorem dX12_rain_67 : decode cX12_rain 67 = .ok (.getfield 316, 3) := by decide +kernel
theorem dX12_rain_70 : decode cX12_rain 70 = .ok (.iload_n 3, 1) := by decide +kernel
theorem dX12_rain_71 : decode cX12_rain 71 = .ok (.iastore, 1) := by decide +kernel
theorem dX12_rain_72 : decode cX12_rain 72 = .ok (.aload_n 0, 1) := by decide +kernel
theorem dX12_rain_73 : decode cX12_rain 73 = .ok (.dup, 1) := by decide +kernel
theorem dX12_rain_74 : decode cX12_rain 74 = .ok (.getfield 316, 3) := by decide +kernel
theorem dX12_rain_77 : decode cX12_rain 77 = .ok (.iconst 1, 1) := by decide +kernel
theorem dX12_rain_78 : decode cX12_rain 78 = .ok (.iadd, 1) := by decide +kernel
theorem dX12_rain_79 : decode cX12_rain 79 = .ok (.putfield 316, 3) := by decide +kernel
theorem dX12_rain_82 : decode cX12_rain 82 = .ok (.aload_n 0, 1) := by decide +kernel
theorem dX12_rain_83 : decode cX12_rain 83 = .ok (.getfield 316, 3) := by decide +kernel
theorem dX12_rain_86 : decode cX12_rain 86 = .ok (.iconst 1, 1) := by decide +kernel
theorem dX12_rain_87 : decode cX12_rain 87 = .ok (.isub, 1) := by decide +kernel
theorem dX12_rain_88 : decode cX12_rain 88 = .ok (.ireturn, 1) := by decide +kernel
theorem dX12_order_0 : decode cX12_order 0 = .ok (.aload_n 0, 1) := by decide +kernel
theorem dX12_order_1 : decode cX12_order 1 = .ok (.getfield 322, 3) := by decide +kernel
theorem dX12_order_4 : decode cX12_order 4 = .ok (.sipush 200, 3) := by decide +kernel
theorem dX12_order_7 : decode cX12_order 7 = .ok (.if_icmp .eq 38, 3) := by decide +kernel
theorem dX12_order_10 : decode cX12_order 10 = .ok (.aload_n 0, 1) := by decide +kernel
theorem dX12_order_11 : decode cX12_order 11 = .ok (.iload_n 1, 1) := by decide +kernel
theorem dX12_order_12 : decode cX12_order 12 = .ok (.invokevirtual 319, 3) := by decide +kernel
theorem dX12_order_15 : decode cX12_order 15 = .ok (.ifCond .eq 30, 3) := by decide +kernel
theorem dX12_order_18 : decode cX12_order 18 = .ok (.iload_n 3, 1) := by decide +kernel
theorem dX12_order_19 : decode cX12_order 19 = .ok (.ifCond .lt 26, 3) := by decide +kernel
theorem dX12_order_22 : decode cX12_order 22 = .ok (.iload_n 3, 1) := by decide +kernel
theorem dX12_order_23 : decode cX12_order 23 = .ok (.iload_n 2, 1) := by decide +kernel
theorem dX12_order_24 : decode cX12_order 24 = .ok (.ifCond .eq 12, 3) := by decide +kernel
theorem dX12_order_27 : decode cX12_order 27 = .ok (.aload_n 0, 1) := by decide +kernel
theorem dX12_order_28 : decode cX12_order 28 = .ok (.getfield 104, 3) := by decide +kernel
theorem dX12_order_31 : decode cX12_order 31 = .ok (.iload_n 1, 1) := by decide +kernel
theorem dX12_order_32 : decode cX12_order 32 = .ok (.iaload, 1) := by decide +kernel
theorem dX12_order_33 : decode cX12_order 33 = .ok (.goto 9, 3) := by decide +kernel
theorem dX12_order_36 : decode cX12_order 36 = .ok (.aload_n 0, 1) := by decide +kernel
theorem dX12_order_37 : decode cX12_order 37 = .ok (.getfield 101, 3) := by decide +kernel
theorem dX12_order_40 : decode cX12_order 40 = .ok (.iload_n 1, 1) := by decide +kernel
theorem dX12_order_41 : decode cX12_order 41 = .ok (.iaload, 1) := by decide +kernel
theorem dX12_order_42 : decode cX12_order 42 = .ok (.if_icmp .le 5, 3) := by decide +kernel
