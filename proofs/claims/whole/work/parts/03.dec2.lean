theorem dX10_settle_112 : decode cX10_settle 112 = .ok (.invokestatic 121, 3) := by decide +kernel
theorem dX10_settle_115 : decode cX10_settle 115 = .ok (.istore 9, 2) := by decide +kernel
theorem dX10_settle_117 : decode cX10_settle 117 = .ok (.aload_n 1, 1) := by decide +kernel
theorem dX10_settle_118 : decode cX10_settle 118 = .ok (.getfield 59, 3) := by decide +kernel
theorem dX10_settle_121 : decode cX10_settle 121 = .ok (.iconst 3, 1) := by decide +kernel
theorem dX10_settle_122 : decode cX10_settle 122 = .ok (.aaload, 1) := by decide +kernel
theorem dX10_settle_123 : decode cX10_settle 123 = .ok (.iload_n 2, 1) := by decide +kernel
theorem dX10_settle_124 : decode cX10_settle 124 = .ok (.iload 5, 2) := by decide +kernel
theorem dX10_settle_126 : decode cX10_settle 126 = .ok (.iastore, 1) := by decide +kernel
theorem dX10_settle_127 : decode cX10_settle 127 = .ok (.aload_n 1, 1) := by decide +kernel
theorem dX10_settle_128 : decode cX10_settle 128 = .ok (.getfield 59, 3) := by decide +kernel
theorem dX10_settle_131 : decode cX10_settle 131 = .ok (.iconst 4, 1) := by decide +kernel
theorem dX10_settle_132 : decode cX10_settle 132 = .ok (.aaload, 1) := by decide +kernel
theorem dX10_settle_133 : decode cX10_settle 133 = .ok (.iload_n 2, 1) := by decide +kernel
theorem dX10_settle_134 : decode cX10_settle 134 = .ok (.iload 6, 2) := by decide +kernel
theorem dX10_settle_136 : decode cX10_settle 136 = .ok (.iastore, 1) := by decide +kernel
theorem dX10_settle_137 : decode cX10_settle 137 = .ok (.aload_n 1, 1) := by decide +kernel
theorem dX10_settle_138 : decode cX10_settle 138 = .ok (.getfield 59, 3) := by decide +kernel
theorem dX10_settle_141 : decode cX10_settle 141 = .ok (.iconst 5, 1) := by decide +kernel
theorem dX10_settle_142 : decode cX10_settle 142 = .ok (.aaload, 1) := by decide +kernel
theorem dX10_settle_143 : decode cX10_settle 143 = .ok (.iload_n 2, 1) := by decide +kernel
theorem dX10_settle_144 : decode cX10_settle 144 = .ok (.iload 7, 2) := by decide +kernel
theorem dX10_settle_146 : decode cX10_settle 146 = .ok (.iastore, 1) := by decide +kernel
theorem dX10_settle_147 : decode cX10_settle 147 = .ok (.aload_n 1, 1) := by decide +kernel
theorem dX10_settle_148 : decode cX10_settle 148 = .ok (.getfield 59, 3) := by decide +kernel
theorem dX10_settle_151 : decode cX10_settle 151 = .ok (.bipush 6, 2) := by decide +kernel
theorem dX10_settle_153 : decode cX10_settle 153 = .ok (.aaload, 1) := by decide +kernel
theorem dX10_settle_154 : decode cX10_settle 154 = .ok (.iload_n 2, 1) := by decide +kernel
theorem dX10_settle_155 : decode cX10_settle 155 = .ok (.iload 7, 2) := by decide +kernel
theorem dX10_settle_157 : decode cX10_settle 157 = .ok (.aload_n 0, 1) := by decide +kernel
theorem dX10_settle_158 : decode cX10_settle 158 = .ok (.getfield 12, 3) := by decide +kernel
theorem dX10_settle_161 : decode cX10_settle 161 = .ok (.iload 6, 2) := by decide +kernel
theorem dX10_settle_163 : decode cX10_settle 163 = .ok (.invokevirtual 124, 3) := by decide +kernel
theorem dX10_settle_166 : decode cX10_settle 166 = .ok (.imul, 1) := by decide +kernel
theorem dX10_settle_167 : decode cX10_settle 167 = .ok (.iastore, 1) := by decide +kernel
theorem dX10_settle_168 : decode cX10_settle 168 = .ok (.aload_n 1, 1) := by decide +kernel
theorem dX10_settle_169 : decode cX10_settle 169 = .ok (.getfield 59, 3) := by decide +kernel
theorem dX10_settle_172 : decode cX10_settle 172 = .ok (.bipush 7, 2) := by decide +kernel
theorem dX10_settle_174 : decode cX10_settle 174 = .ok (.aaload, 1) := by decide +kernel
theorem dX10_settle_175 : decode cX10_settle 175 = .ok (.iload_n 2, 1) := by decide +kernel
theorem dX10_settle_176 : decode cX10_settle 176 = .ok (.iload 8, 2) := by decide +kernel
theorem dX10_settle_178 : decode cX10_settle 178 = .ok (.iastore, 1) := by decide +kernel
theorem dX10_settle_179 : decode cX10_settle 179 = .ok (.aload_n 1, 1) := by decide +kernel
theorem dX10_settle_180 : decode cX10_settle 180 = .ok (.getfield 59, 3) := by decide +kernel
theorem dX10_settle_183 : decode cX10_settle 183 = .ok (.bipush 8, 2) := by decide +kernel
theorem dX10_settle_185 : decode cX10_settle 185 = .ok (.aaload, 1) := by decide +kernel
theorem dX10_settle_186 : decode cX10_settle 186 = .ok (.iload_n 2, 1) := by decide +kernel
theorem dX10_settle_187 : decode cX10_settle 187 = .ok (.iload 9, 2) := by decide +kernel
theorem dX10_settle_189 : decode cX10_settle 189 = .ok (.iastore, 1) := by decide +kernel
theorem dX10_settle_190 : decode cX10_settle 190 = .ok (.aload_n 1, 1) := by decide +kernel
theorem dX10_settle_191 : decode cX10_settle 191 = .ok (.getfield 59, 3) := by decide +kernel
theorem dX10_settle_194 : decode cX10_settle 194 = .ok (.bipush 9, 2) := by decide +kernel
theorem dX10_settle_196 : decode cX10_settle 196 = .ok (.aaload, 1) := by decide +kernel
theorem dX10_settle_197 : decode cX10_settle 197 = .ok (.iload_n 2, 1) := by decide +kernel
theorem dX10_settle_198 : decode cX10_settle 198 = .ok (.iload 7, 2) := by decide +kernel
theorem dX10_settle_200 : decode cX10_settle 200 = .ok (.iload 8, 2) := by decide +kernel
theorem dX10_settle_202 : decode cX10_settle 202 = .ok (.iadd, 1) := by decide +kernel
theorem dX10_settle_203 : decode cX10_settle 203 = .ok (.iload 9, 2) := by decide +kernel
theorem dX10_settle_205 : decode cX10_settle 205 = .ok (.iadd, 1) := by decide +kernel
theorem dX10_settle_206 : decode cX10_settle 206 = .ok (.iastore, 1) := by decide +kernel
theorem dX10_settle_207 : decode cX10_settle 207 = .ok (.iinc 2 1, 3) := by decide +kernel
theorem dX10_settle_210 : decode cX10_settle 210 = .ok (.goto (-208), 3) := by decide +kernel
theorem dX10_settle_213 : decode cX10_settle 213 = .ok (.return_, 1) := by decide +kernel
theorem dX10_drowned_0 : decode cX10_drowned 0 = .ok (.iload_n 2, 1) := by decide +kernel
theorem dX10_drowned_1 : decode cX10_drowned 1 = .ok (.iconst 1, 1) := by decide +kernel
theorem dX10_drowned_2 : decode cX10_drowned 2 = .ok (.iadd, 1) := by decide +kernel
theorem dX10_drowned_3 : decode cX10_drowned 3 = .ok (.istore_n 3, 1) := by decide +kernel
theorem dX10_drowned_4 : decode cX10_drowned 4 = .ok (.iload_n 3, 1) := by decide +kernel
theorem dX10_drowned_5 : decode cX10_drowned 5 = .ok (.aload_n 0, 1) := by decide +kernel
theorem dX10_drowned_6 : decode cX10_drowned 6 = .ok (.getfield 12, 3) := by decide +kernel
theorem dX10_drowned_9 : decode cX10_drowned 9 = .ok (.getfield 69, 3) := by decide +kernel
theorem dX10_drowned_12 : decode cX10_drowned 12 = .ok (.if_icmp .ge 28, 3) := by decide +kernel
theorem dX10_drowned_15 : decode cX10_drowned 15 = .ok (.aload_n 1, 1) := by decide +kernel
theorem dX10_drowned_16 : decode cX10_drowned 16 = .ok (.getfield 59, 3) := by decide +kernel
theorem dX10_drowned_19 : decode cX10_drowned 19 = .ok (.iconst 0, 1) := by decide +kernel
theorem dX10_drowned_20 : decode cX10_drowned 20 = .ok (.aaload, 1) := by decide +kernel
theorem dX10_drowned_21 : decode cX10_drowned 21 = .ok (.iload_n 3, 1) := by decide +kernel
theorem dX10_drowned_22 : decode cX10_drowned 22 = .ok (.iaload, 1) := by decide +kernel
theorem dX10_drowned_23 : decode cX10_drowned 23 = .ok (.aload_n 0, 1) := by decide +kernel
theorem dX10_drowned_24 : decode cX10_drowned 24 = .ok (.getfield 12, 3) := by decide +kernel
theorem dX10_drowned_27 : decode cX10_drowned 27 = .ok (.getfield 128, 3) := by decide +kernel
theorem dX10_drowned_30 : decode cX10_drowned 30 = .ok (.iload_n 3, 1) := by decide +kernel
theorem dX10_drowned_31 : decode cX10_drowned 31 = .ok (.iaload, 1) := by decide +kernel
theorem dX10_drowned_32 : decode cX10_drowned 32 = .ok (.isub, 1) := by decide +kernel
theorem dX10_drowned_33 : decode cX10_drowned 33 = .ok (.iconst 0, 1) := by decide +kernel
theorem dX10_drowned_34 : decode cX10_drowned 34 = .ok (.invokestatic 121, 3) := by decide +kernel
theorem dX10_drowned_37 : decode cX10_drowned 37 = .ok (.goto 4, 3) := by decide +kernel
theorem dX10_drowned_40 : decode cX10_drowned 40 = .ok (.iconst 0, 1) := by decide +kernel
theorem dX10_drowned_41 : decode cX10_drowned 41 = .ok (.ireturn, 1) := by decide +kernel
theorem dX10_breach_0 : decode cX10_breach 0 = .ok (.aload_n 0, 1) := by decide +kernel
theorem dX10_breach_1 : decode cX10_breach 1 = .ok (.getfield 35, 3) := by decide +kernel
theorem dX10_breach_4 : decode cX10_breach 4 = .ok (.getfield 99, 3) := by decide +kernel
theorem dX10_breach_7 : decode cX10_breach 7 = .ok (.astore_n 3, 1) := by decide +kernel
theorem dX10_breach_8 : decode cX10_breach 8 = .ok (.iconst 0, 1) := by decide +kernel
theorem dX10_breach_9 : decode cX10_breach 9 = .ok (.istore 4, 2) := by decide +kernel
theorem dX10_breach_11 : decode cX10_breach 11 = .ok (.iconst 0, 1) := by decide +kernel
theorem dX10_breach_12 : decode cX10_breach 12 = .ok (.istore 5, 2) := by decide +kernel
theorem dX10_breach_14 : decode cX10_breach 14 = .ok (.iload 5, 2) := by decide +kernel
theorem dX10_breach_16 : decode cX10_breach 16 = .ok (.aload_n 0, 1) := by decide +kernel
theorem dX10_breach_17 : decode cX10_breach 17 = .ok (.getfield 12, 3) := by decide +kernel
theorem dX10_breach_20 : decode cX10_breach 20 = .ok (.getfield 69, 3) := by decide +kernel
theorem dX10_breach_23 : decode cX10_breach 23 = .ok (.if_icmp .ge 81, 3) := by decide +kernel
theorem dX10_breach_26 : decode cX10_breach 26 = .ok (.aload_n 3, 1) := by decide +kernel
theorem dX10_breach_27 : decode cX10_breach 27 = .ok (.getfield 131, 3) := by decide +kernel
theorem dX10_breach_30 : decode cX10_breach 30 = .ok (.ifCond .le 74, 3) := by decide +kernel
theorem dX10_breach_33 : decode cX10_breach 33 = .ok (.aload_n 3, 1) := by decide +kernel
theorem dX10_breach_34 : decode cX10_breach 34 = .ok (.aload_n 1, 1) := by decide +kernel
theorem dX10_breach_35 : decode cX10_breach 35 = .ok (.iload 5, 2) := by decide +kernel
theorem dX10_breach_37 : decode cX10_breach 37 = .ok (.aload_n 0, 1) := by decide +kernel
theorem dX10_breach_38 : decode cX10_breach 38 = .ok (.getfield 12, 3) := by decide +kernel
theorem dX10_breach_41 : decode cX10_breach 41 = .ok (.invokevirtual 134, 3) := by decide +kernel
theorem dX10_breach_44 : decode cX10_breach 44 = .ok (.aload_n 3, 1) := by decide +kernel
theorem dX10_breach_45 : decode cX10_breach 45 = .ok (.aload_n 1, 1) := by decide +kernel
theorem dX10_breach_46 : decode cX10_breach 46 = .ok (.iload 5, 2) := by decide +kernel
theorem dX10_breach_48 : decode cX10_breach 48 = .ok (.invokevirtual 138, 3) := by decide +kernel
theorem dX10_breach_51 : decode cX10_breach 51 = .ok (.iconst 0, 1) := by decide +kernel
theorem dX10_breach_52 : decode cX10_breach 52 = .ok (.istore 6, 2) := by decide +kernel
theorem dX10_breach_54 : decode cX10_breach 54 = .ok (.iload 6, 2) := by decide +kernel
theorem dX10_breach_56 : decode cX10_breach 56 = .ok (.aload_n 3, 1) := by decide +kernel
theorem dX10_breach_57 : decode cX10_breach 57 = .ok (.getfield 131, 3) := by decide +kernel
theorem dX10_breach_60 : decode cX10_breach 60 = .ok (.if_icmp .ge 38, 3) := by decide +kernel
theorem dX10_breach_63 : decode cX10_breach 63 = .ok (.aload_n 3, 1) := by decide +kernel
theorem dX10_breach_64 : decode cX10_breach 64 = .ok (.iload 6, 2) := by decide +kernel
theorem dX10_breach_66 : decode cX10_breach 66 = .ok (.iload 5, 2) := by decide +kernel
theorem dX10_breach_68 : decode cX10_breach 68 = .ok (.invokevirtual 142, 3) := by decide +kernel
theorem dX10_breach_71 : decode cX10_breach 71 = .ok (.ifCond .eq 21, 3) := by decide +kernel
theorem dX10_breach_74 : decode cX10_breach 74 = .ok (.iload 4, 2) := by decide +kernel
theorem dX10_breach_76 : decode cX10_breach 76 = .ok (.iload_n 2, 1) := by decide +kernel
theorem dX10_breach_77 : decode cX10_breach 77 = .ok (.if_icmp .ne 12, 3) := by decide +kernel
theorem dX10_breach_80 : decode cX10_breach 80 = .ok (.bipush 100, 2) := by decide +kernel
theorem dX10_breach_82 : decode cX10_breach 82 = .ok (.iload 5, 2) := by decide +kernel
theorem dX10_breach_84 : decode cX10_breach 84 = .ok (.imul, 1) := by decide +kernel
theorem dX10_breach_85 : decode cX10_breach 85 = .ok (.iload 6, 2) := by decide +kernel
theorem dX10_breach_87 : decode cX10_breach 87 = .ok (.iadd, 1) := by decide +kernel
theorem dX10_breach_88 : decode cX10_breach 88 = .ok (.ireturn, 1) := by decide +kernel
theorem dX10_breach_89 : decode cX10_breach 89 = .ok (.iinc 4 1, 3) := by decide +kernel
theorem dX10_breach_92 : decode cX10_breach 92 = .ok (.iinc 6 1, 3) := by decide +kernel
theorem dX10_breach_95 : decode cX10_breach 95 = .ok (.goto (-41), 3) := by decide +kernel
theorem dX10_breach_98 : decode cX10_breach 98 = .ok (.iinc 5 1, 3) := by decide +kernel
theorem dX10_breach_101 : decode cX10_breach 101 = .ok (.goto (-87), 3) := by decide +kernel
theorem dX10_breach_104 : decode cX10_breach 104 = .ok (.iconst (-1), 1) := by decide +kernel
theorem dX10_breach_105 : decode cX10_breach 105 = .ok (.ireturn, 1) := by decide +kernel
theorem dX11_init_0 : decode cX11_init 0 = .ok (.aload_n 0, 1) := by decide +kernel
theorem dX11_init_1 : decode cX11_init 1 = .ok (.invokespecial 1, 3) := by decide +kernel
theorem dX11_init_4 : decode cX11_init 4 = .ok (.aload_n 0, 1) := by decide +kernel
theorem dX11_init_5 : decode cX11_init 5 = .ok (.new 7, 3) := by decide +kernel
theorem dX11_init_8 : decode cX11_init 8 = .ok (.dup, 1) := by decide +kernel
theorem dX11_init_9 : decode cX11_init 9 = .ok (.invokespecial 9, 3) := by decide +kernel
theorem dX11_init_12 : decode cX11_init 12 = .ok (.putfield 10, 3) := by decide +kernel
theorem dX11_init_15 : decode cX11_init 15 = .ok (.aload_n 0, 1) := by decide +kernel
theorem dX11_init_16 : decode cX11_init 16 = .ok (.new 16, 3) := by decide +kernel
theorem dX11_init_19 : decode cX11_init 19 = .ok (.dup, 1) := by decide +kernel
theorem dX11_init_20 : decode cX11_init 20 = .ok (.invokespecial 18, 3) := by decide +kernel
theorem dX11_init_23 : decode cX11_init 23 = .ok (.putfield 19, 3) := by decide +kernel
theorem dX11_init_26 : decode cX11_init 26 = .ok (.aload_n 0, 1) := by decide +kernel
theorem dX11_init_27 : decode cX11_init 27 = .ok (.new 23, 3) := by decide +kernel
theorem dX11_init_30 : decode cX11_init 30 = .ok (.dup, 1) := by decide +kernel
theorem dX11_init_31 : decode cX11_init 31 = .ok (.invokespecial 25, 3) := by decide +kernel
theorem dX11_init_34 : decode cX11_init 34 = .ok (.putfield 26, 3) := by decide +kernel
theorem dX11_init_37 : decode cX11_init 37 = .ok (.aload_n 0, 1) := by decide +kernel
theorem dX11_init_38 : decode cX11_init 38 = .ok (.new 30, 3) := by decide +kernel
theorem dX11_init_41 : decode cX11_init 41 = .ok (.dup, 1) := by decide +kernel
theorem dX11_init_42 : decode cX11_init 42 = .ok (.invokespecial 32, 3) := by decide +kernel
theorem dX11_init_45 : decode cX11_init 45 = .ok (.putfield 33, 3) := by decide +kernel
theorem dX11_init_48 : decode cX11_init 48 = .ok (.aload_n 0, 1) := by decide +kernel
theorem dX11_init_49 : decode cX11_init 49 = .ok (.new 30, 3) := by decide +kernel
theorem dX11_init_52 : decode cX11_init 52 = .ok (.dup, 1) := by decide +kernel
theorem dX11_init_53 : decode cX11_init 53 = .ok (.invokespecial 32, 3) := by decide +kernel
theorem dX11_init_56 : decode cX11_init 56 = .ok (.putfield 37, 3) := by decide +kernel
theorem dX11_init_59 : decode cX11_init 59 = .ok (.aload_n 0, 1) := by decide +kernel
theorem dX11_init_60 : decode cX11_init 60 = .ok (.iconst 0, 1) := by decide +kernel
theorem dX11_init_61 : decode cX11_init 61 = .ok (.putfield 40, 3) := by decide +kernel
theorem dX11_init_64 : decode cX11_init 64 = .ok (.return_, 1) := by decide +kernel
theorem dX11_feed_0 : decode cX11_feed 0 = .ok (.aload_n 0, 1) := by decide +kernel
theorem dX11_feed_1 : decode cX11_feed 1 = .ok (.getfield 10, 3) := by decide +kernel
theorem dX11_feed_4 : decode cX11_feed 4 = .ok (.getfield 44, 3) := by decide +kernel
theorem dX11_feed_7 : decode cX11_feed 7 = .ok (.getfield 48, 3) := by decide +kernel
theorem dX11_feed_10 : decode cX11_feed 10 = .ok (.astore 6, 2) := by decide +kernel
theorem dX11_feed_12 : decode cX11_feed 12 = .ok (.aload 6, 2) := by decide +kernel
theorem dX11_feed_14 : decode cX11_feed 14 = .ok (.getfield 54, 3) := by decide +kernel
theorem dX11_feed_17 : decode cX11_feed 17 = .ok (.bipush 20, 2) := by decide +kernel
theorem dX11_feed_19 : decode cX11_feed 19 = .ok (.iadd, 1) := by decide +kernel
theorem dX11_feed_20 : decode cX11_feed 20 = .ok (.sipush 2000, 3) := by decide +kernel
theorem dX11_feed_23 : decode cX11_feed 23 = .ok (.if_icmp .le 5, 3) := by decide +kernel
theorem dX11_feed_26 : decode cX11_feed 26 = .ok (.iconst (-1), 1) := by decide +kernel
theorem dX11_feed_27 : decode cX11_feed 27 = .ok (.ireturn, 1) := by decide +kernel
theorem dX11_feed_28 : decode cX11_feed 28 = .ok (.aload 6, 2) := by decide +kernel
theorem dX11_feed_30 : decode cX11_feed 30 = .ok (.iload_n 1, 1) := by decide +kernel
theorem dX11_feed_31 : decode cX11_feed 31 = .ok (.invokevirtual 59, 3) := by decide +kernel
theorem dX11_feed_34 : decode cX11_feed 34 = .ok (.aload 6, 2) := by decide +kernel
theorem dX11_feed_36 : decode cX11_feed 36 = .ok (.iload_n 2, 1) := by decide +kernel
theorem dX11_feed_37 : decode cX11_feed 37 = .ok (.invokevirtual 59, 3) := by decide +kernel
theorem dX11_feed_40 : decode cX11_feed 40 = .ok (.aload 6, 2) := by decide +kernel
theorem dX11_feed_42 : decode cX11_feed 42 = .ok (.iload_n 3, 1) := by decide +kernel
theorem dX11_feed_43 : decode cX11_feed 43 = .ok (.invokevirtual 59, 3) := by decide +kernel
theorem dX11_feed_46 : decode cX11_feed 46 = .ok (.aload 6, 2) := by decide +kernel
theorem dX11_feed_48 : decode cX11_feed 48 = .ok (.iload 4, 2) := by decide +kernel
theorem dX11_feed_50 : decode cX11_feed 50 = .ok (.invokevirtual 59, 3) := by decide +kernel
theorem dX11_feed_53 : decode cX11_feed 53 = .ok (.aload 6, 2) := by decide +kernel
theorem dX11_feed_55 : decode cX11_feed 55 = .ok (.iload 5, 2) := by decide +kernel
theorem dX11_feed_57 : decode cX11_feed 57 = .ok (.invokevirtual 59, 3) := by decide +kernel
theorem dX11_feed_60 : decode cX11_feed 60 = .ok (.aload 6, 2) := by decide +kernel
theorem dX11_feed_62 : decode cX11_feed 62 = .ok (.getfield 54, 3) := by decide +kernel
theorem dX11_feed_65 : decode cX11_feed 65 = .ok (.ireturn, 1) := by decide +kernel
theorem dX11_back_0 : decode cX11_back 0 = .ok (.aload_n 0, 1) := by decide +kernel
theorem dX11_back_1 : decode cX11_back 1 = .ok (.getfield 10, 3) := by decide +kernel
theorem dX11_back_4 : decode cX11_back 4 = .ok (.getfield 44, 3) := by decide +kernel
theorem dX11_back_7 : decode cX11_back 7 = .ok (.getfield 48, 3) := by decide +kernel
theorem dX11_back_10 : decode cX11_back 10 = .ok (.astore_n 2, 1) := by decide +kernel
theorem dX11_back_11 : decode cX11_back 11 = .ok (.iload_n 1, 1) := by decide +kernel
theorem dX11_back_12 : decode cX11_back 12 = .ok (.ifCond .lt 11, 3) := by decide +kernel
theorem dX11_back_15 : decode cX11_back 15 = .ok (.iload_n 1, 1) := by decide +kernel
theorem dX11_back_16 : decode cX11_back 16 = .ok (.aload_n 2, 1) := by decide +kernel
theorem dX11_back_17 : decode cX11_back 17 = .ok (.getfield 54, 3) := by decide +kernel
theorem dX11_back_20 : decode cX11_back 20 = .ok (.if_icmp .le 5, 3) := by decide +kernel
theorem dX11_back_23 : decode cX11_back 23 = .ok (.iconst (-1), 1) := by decide +kernel
theorem dX11_back_24 : decode cX11_back 24 = .ok (.ireturn, 1) := by decide +kernel
theorem dX11_back_25 : decode cX11_back 25 = .ok (.aload_n 2, 1) := by decide +kernel
theorem dX11_back_26 : decode cX11_back 26 = .ok (.dup, 1) := by decide +kernel
theorem dX11_back_27 : decode cX11_back 27 = .ok (.getfield 54, 3) := by decide +kernel
theorem dX11_back_30 : decode cX11_back 30 = .ok (.iload_n 1, 1) := by decide +kernel
theorem dX11_back_31 : decode cX11_back 31 = .ok (.isub, 1) := by decide +kernel
theorem dX11_back_32 : decode cX11_back 32 = .ok (.putfield 54, 3) := by decide +kernel
theorem dX11_back_35 : decode cX11_back 35 = .ok (.aload_n 2, 1) := by decide +kernel
theorem dX11_back_36 : decode cX11_back 36 = .ok (.getfield 54, 3) := by decide +kernel
theorem dX11_back_39 : decode cX11_back 39 = .ok (.ireturn, 1) := by decide +kernel
theorem dX11_read_0 : decode cX11_read 0 = .ok (.aload_n 0, 1) := by decide +kernel
theorem dX11_read_1 : decode cX11_read 1 = .ok (.getfield 10, 3) := by decide +kernel
theorem dX11_read_4 : decode cX11_read 4 = .ok (.getfield 44, 3) := by decide +kernel
theorem dX11_read_7 : decode cX11_read 7 = .ok (.astore_n 1, 1) := by decide +kernel
theorem dX11_read_8 : decode cX11_read 8 = .ok (.aload_n 1, 1) := by decide +kernel
theorem dX11_read_9 : decode cX11_read 9 = .ok (.invokevirtual 63, 3) := by decide +kernel
theorem dX11_read_12 : decode cX11_read 12 = .ok (.aload_n 1, 1) := by decide +kernel
theorem dX11_read_13 : decode cX11_read 13 = .ok (.invokevirtual 66, 3) := by decide +kernel
theorem dX11_read_16 : decode cX11_read 16 = .ok (.istore_n 2, 1) := by decide +kernel
theorem dX11_read_17 : decode cX11_read 17 = .ok (.aload_n 1, 1) := by decide +kernel
theorem dX11_read_18 : decode cX11_read 18 = .ok (.iload_n 2, 1) := by decide +kernel
theorem dX11_read_19 : decode cX11_read 19 = .ok (.invokevirtual 70, 3) := by decide +kernel
theorem dX11_read_22 : decode cX11_read 22 = .ok (.ireturn, 1) := by decide +kernel
theorem dX11_place_0 : decode cX11_place 0 = .ok (.aload_n 0, 1) := by decide +kernel
theorem dX11_place_1 : decode cX11_place 1 = .ok (.getfield 10, 3) := by decide +kernel
theorem dX11_place_4 : decode cX11_place 4 = .ok (.getfield 44, 3) := by decide +kernel
theorem dX11_place_7 : decode cX11_place 7 = .ok (.getfield 74, 3) := by decide +kernel
theorem dX11_place_10 : decode cX11_place 10 = .ok (.ireturn, 1) := by decide +kernel
theorem dX11_mill_0 : decode cX11_mill 0 = .ok (.aload_n 0, 1) := by decide +kernel
theorem dX11_mill_1 : decode cX11_mill 1 = .ok (.getfield 40, 3) := by decide +kernel
theorem dX11_mill_4 : decode cX11_mill 4 = .ok (.ifCond .ne 21, 3) := by decide +kernel
theorem dX11_mill_7 : decode cX11_mill 7 = .ok (.aload_n 0, 1) := by decide +kernel
theorem dX11_mill_8 : decode cX11_mill 8 = .ok (.getfield 10, 3) := by decide +kernel
theorem dX11_mill_11 : decode cX11_mill 11 = .ok (.getfield 77, 3) := by decide +kernel
theorem dX11_mill_14 : decode cX11_mill 14 = .ok (.iload_n 1, 1) := by decide +kernel
theorem dX11_mill_15 : decode cX11_mill 15 = .ok (.iload_n 2, 1) := by decide +kernel
theorem dX11_mill_16 : decode cX11_mill 16 = .ok (.iload_n 3, 1) := by decide +kernel
theorem dX11_mill_17 : decode cX11_mill 17 = .ok (.iload 4, 2) := by decide +kernel
theorem dX11_mill_19 : decode cX11_mill 19 = .ok (.invokevirtual 81, 3) := by decide +kernel
theorem dX11_mill_22 : decode cX11_mill 22 = .ok (.goto 4, 3) := by decide +kernel
theorem dX11_mill_25 : decode cX11_mill 25 = .ok (.iconst (-1), 1) := by decide +kernel
theorem dX11_mill_26 : decode cX11_mill 26 = .ok (.ireturn, 1) := by decide +kernel
theorem dX11_spring_0 : decode cX11_spring 0 = .ok (.iload_n 1, 1) := by decide +kernel
theorem dX11_spring_1 : decode cX11_spring 1 = .ok (.ifCond .lt 9, 3) := by decide +kernel
theorem dX11_spring_4 : decode cX11_spring 4 = .ok (.iload_n 1, 1) := by decide +kernel
theorem dX11_spring_5 : decode cX11_spring 5 = .ok (.bipush 100, 2) := by decide +kernel
theorem dX11_spring_7 : decode cX11_spring 7 = .ok (.if_icmp .le 5, 3) := by decide +kernel
theorem dX11_spring_10 : decode cX11_spring 10 = .ok (.iconst 0, 1) := by decide +kernel
theorem dX11_spring_11 : decode cX11_spring 11 = .ok (.ireturn, 1) := by decide +kernel
theorem dX11_spring_12 : decode cX11_spring 12 = .ok (.aload_n 0, 1) := by decide +kernel
theorem dX11_spring_13 : decode cX11_spring 13 = .ok (.getfield 10, 3) := by decide +kernel
theorem dX11_spring_16 : decode cX11_spring 16 = .ok (.getfield 77, 3) := by decide +kernel
theorem dX11_spring_19 : decode cX11_spring 19 = .ok (.iload_n 1, 1) := by decide +kernel
theorem dX11_spring_20 : decode cX11_spring 20 = .ok (.putfield 87, 3) := by decide +kernel
theorem dX11_spring_23 : decode cX11_spring 23 = .ok (.iconst 1, 1) := by decide +kernel
theorem dX11_spring_24 : decode cX11_spring 24 = .ok (.ireturn, 1) := by decide +kernel
theorem dX11_factors_0 : decode cX11_factors 0 = .ok (.aload_n 0, 1) := by decide +kernel
theorem dX11_factors_1 : decode cX11_factors 1 = .ok (.getfield 10, 3) := by decide +kernel
theorem dX11_factors_4 : decode cX11_factors 4 = .ok (.getfield 77, 3) := by decide +kernel
theorem dX11_factors_7 : decode cX11_factors 7 = .ok (.iload_n 1, 1) := by decide +kernel
theorem dX11_factors_8 : decode cX11_factors 8 = .ok (.invokevirtual 90, 3) := by decide +kernel
theorem dX11_factors_11 : decode cX11_factors 11 = .ok (.ireturn, 1) := by decide +kernel
theorem dX11_factor_0 : decode cX11_factor 0 = .ok (.aload_n 0, 1) := by decide +kernel
theorem dX11_factor_1 : decode cX11_factor 1 = .ok (.getfield 10, 3) := by decide +kernel
theorem dX11_factor_4 : decode cX11_factor 4 = .ok (.getfield 77, 3) := by decide +kernel
theorem dX11_factor_7 : decode cX11_factor 7 = .ok (.iload_n 1, 1) := by decide +kernel
theorem dX11_factor_8 : decode cX11_factor 8 = .ok (.iload_n 2, 1) := by decide +kernel
theorem dX11_factor_9 : decode cX11_factor 9 = .ok (.invokevirtual 94, 3) := by decide +kernel
theorem dX11_factor_12 : decode cX11_factor 12 = .ok (.ireturn, 1) := by decide +kernel
theorem dX11_clock_0 : decode cX11_clock 0 = .ok (.iload_n 1, 1) := by decide +kernel
theorem dX11_clock_1 : decode cX11_clock 1 = .ok (.aload_n 0, 1) := by decide +kernel
theorem dX11_clock_2 : decode cX11_clock 2 = .ok (.getfield 40, 3) := by decide +kernel
theorem dX11_clock_5 : decode cX11_clock 5 = .ok (.if_icmp .lt 10, 3) := by decide +kernel
theorem dX11_clock_8 : decode cX11_clock 8 = .ok (.iload_n 1, 1) := by decide +kernel
theorem dX11_clock_9 : decode cX11_clock 9 = .ok (.sipush 240, 3) := by decide +kernel
theorem dX11_clock_12 : decode cX11_clock 12 = .ok (.if_icmp .lt 5, 3) := by decide +kernel
theorem dX11_clock_15 : decode cX11_clock 15 = .ok (.iconst 0, 1) := by decide +kernel
theorem dX11_clock_16 : decode cX11_clock 16 = .ok (.ireturn, 1) := by decide +kernel
theorem dX11_clock_17 : decode cX11_clock 17 = .ok (.aload_n 0, 1) := by decide +kernel
theorem dX11_clock_18 : decode cX11_clock 18 = .ok (.iload_n 1, 1) := by decide +kernel
theorem dX11_clock_19 : decode cX11_clock 19 = .ok (.putfield 40, 3) := by decide +kernel
theorem dX11_clock_22 : decode cX11_clock 22 = .ok (.iconst 1, 1) := by decide +kernel
theorem dX11_clock_23 : decode cX11_clock 23 = .ok (.ireturn, 1) := by decide +kernel
theorem dX11_rain_0 : decode cX11_rain 0 = .ok (.aload_n 0, 1) := by decide +kernel
theorem dX11_rain_1 : decode cX11_rain 1 = .ok (.iload_n 1, 1) := by decide +kernel
theorem dX11_rain_2 : decode cX11_rain 2 = .ok (.invokevirtual 98, 3) := by decide +kernel
theorem dX11_rain_5 : decode cX11_rain 5 = .ok (.ifCond .eq 22, 3) := by decide +kernel
theorem dX11_rain_8 : decode cX11_rain 8 = .ok (.aload_n 0, 1) := by decide +kernel
theorem dX11_rain_9 : decode cX11_rain 9 = .ok (.iload_n 2, 1) := by decide +kernel
theorem dX11_rain_10 : decode cX11_rain 10 = .ok (.invokevirtual 101, 3) := by decide +kernel
theorem dX11_rain_13 : decode cX11_rain 13 = .ok (.ifCond .eq 14, 3) := by decide +kernel
theorem dX11_rain_16 : decode cX11_rain 16 = .ok (.iload_n 3, 1) := by decide +kernel
theorem dX11_rain_17 : decode cX11_rain 17 = .ok (.ifCond .lt 10, 3) := by decide +kernel
theorem dX11_rain_20 : decode cX11_rain 20 = .ok (.iload_n 3, 1) := by decide +kernel
theorem dX11_rain_21 : decode cX11_rain 21 = .ok (.sipush 1000, 3) := by decide +kernel
theorem dX11_rain_24 : decode cX11_rain 24 = .ok (.if_icmp .le 5, 3) := by decide +kernel
theorem dX11_rain_27 : decode cX11_rain 27 = .ok (.iconst (-1), 1) := by decide +kernel
theorem dX11_rain_28 : decode cX11_rain 28 = .ok (.ireturn, 1) := by decide +kernel
theorem dX11_rain_29 : decode cX11_rain 29 = .ok (.aload_n 0, 1) := by decide +kernel
theorem dX11_rain_30 : decode cX11_rain 30 = .ok (.getfield 10, 3) := by decide +kernel
theorem dX11_rain_33 : decode cX11_rain 33 = .ok (.getfield 104, 3) := by decide +kernel
theorem dX11_rain_36 : decode cX11_rain 36 = .ok (.iload_n 1, 1) := by decide +kernel
theorem dX11_rain_37 : decode cX11_rain 37 = .ok (.iload_n 2, 1) := by decide +kernel
theorem dX11_rain_38 : decode cX11_rain 38 = .ok (.iload_n 3, 1) := by decide +kernel
theorem dX11_rain_39 : decode cX11_rain 39 = .ok (.invokevirtual 108, 3) := by decide +kernel
theorem dX11_rain_42 : decode cX11_rain 42 = .ok (.ireturn, 1) := by decide +kernel
theorem dX11_order_0 : decode cX11_order 0 = .ok (.aload_n 0, 1) := by decide +kernel
theorem dX11_order_1 : decode cX11_order 1 = .ok (.iload_n 1, 1) := by decide +kernel
theorem dX11_order_2 : decode cX11_order 2 = .ok (.invokevirtual 101, 3) := by decide +kernel
theorem dX11_order_5 : decode cX11_order 5 = .ok (.ifCond .eq 23, 3) := by decide +kernel
theorem dX11_order_8 : decode cX11_order 8 = .ok (.iload_n 3, 1) := by decide +kernel
theorem dX11_order_9 : decode cX11_order 9 = .ok (.ifCond .lt 19, 3) := by decide +kernel
theorem dX11_order_12 : decode cX11_order 12 = .ok (.iload_n 3, 1) := by decide +kernel
theorem dX11_order_13 : decode cX11_order 13 = .ok (.aload_n 0, 1) := by decide +kernel
theorem dX11_order_14 : decode cX11_order 14 = .ok (.getfield 10, 3) := by decide +kernel
theorem dX11_order_17 : decode cX11_order 17 = .ok (.getfield 77, 3) := by decide +kernel
theorem dX11_order_20 : decode cX11_order 20 = .ok (.iload_n 1, 1) := by decide +kernel
theorem dX11_order_21 : decode cX11_order 21 = .ok (.iload_n 2, 1) := by decide +kernel
theorem dX11_order_22 : decode cX11_order 22 = .ok (.invokevirtual 113, 3) := by decide +kernel
theorem dX11_order_25 : decode cX11_order 25 = .ok (.if_icmp .le 5, 3) := by decide +kernel
theorem dX11_order_28 : decode cX11_order 28 = .ok (.iconst (-1), 1) := by decide +kernel
theorem dX11_order_29 : decode cX11_order 29 = .ok (.ireturn, 1) := by decide +kernel
theorem dX11_order_30 : decode cX11_order 30 = .ok (.aload_n 0, 1) := by decide +kernel
theorem dX11_order_31 : decode cX11_order 31 = .ok (.getfield 10, 3) := by decide +kernel
theorem dX11_order_34 : decode cX11_order 34 = .ok (.getfield 117, 3) := by decide +kernel
theorem dX11_order_37 : decode cX11_order 37 = .ok (.aload_n 0, 1) := by decide +kernel
theorem dX11_order_38 : decode cX11_order 38 = .ok (.getfield 40, 3) := by decide +kernel
theorem dX11_order_41 : decode cX11_order 41 = .ok (.iload_n 1, 1) := by decide +kernel
theorem dX11_order_42 : decode cX11_order 42 = .ok (.iload_n 2, 1) := by decide +kernel
theorem dX11_order_43 : decode cX11_order 43 = .ok (.iload_n 3, 1) := by decide +kernel
theorem dX11_order_44 : decode cX11_order 44 = .ok (.invokevirtual 121, 3) := by decide +kernel
theorem dX11_order_47 : decode cX11_order 47 = .ok (.ireturn, 1) := by decide +kernel
theorem dX11_grist_0 : decode cX11_grist 0 = .ok (.aload_n 0, 1) := by decide +kernel
theorem dX11_grist_1 : decode cX11_grist 1 = .ok (.iload_n 1, 1) := by decide +kernel
theorem dX11_grist_2 : decode cX11_grist 2 = .ok (.invokevirtual 101, 3) := by decide +kernel
theorem dX11_grist_5 : decode cX11_grist 5 = .ok (.ifCond .eq 15, 3) := by decide +kernel
theorem dX11_grist_8 : decode cX11_grist 8 = .ok (.iload_n 2, 1) := by decide +kernel
theorem dX11_grist_9 : decode cX11_grist 9 = .ok (.iconst 1, 1) := by decide +kernel
theorem dX11_grist_10 : decode cX11_grist 10 = .ok (.if_icmp .lt 10, 3) := by decide +kernel
theorem dX11_grist_13 : decode cX11_grist 13 = .ok (.iload_n 2, 1) := by decide +kernel
theorem dX11_grist_14 : decode cX11_grist 14 = .ok (.sipush 10000, 3) := by decide +kernel
theorem dX11_grist_17 : decode cX11_grist 17 = .ok (.if_icmp .le 5, 3) := by decide +kernel
theorem dX11_grist_20 : decode cX11_grist 20 = .ok (.iconst (-1), 1) := by decide +kernel
theorem dX11_grist_21 : decode cX11_grist 21 = .ok (.ireturn, 1) := by decide +kernel
theorem dX11_grist_22 : decode cX11_grist 22 = .ok (.aload_n 0, 1) := by decide +kernel
theorem dX11_grist_23 : decode cX11_grist 23 = .ok (.getfield 19, 3) := by decide +kernel
theorem dX11_grist_26 : decode cX11_grist 26 = .ok (.aload_n 0, 1) := by decide +kernel
theorem dX11_grist_27 : decode cX11_grist 27 = .ok (.getfield 40, 3) := by decide +kernel
theorem dX11_grist_30 : decode cX11_grist 30 = .ok (.iload_n 1, 1) := by decide +kernel
theorem dX11_grist_31 : decode cX11_grist 31 = .ok (.iload_n 2, 1) := by decide +kernel
theorem dX11_grist_32 : decode cX11_grist 32 = .ok (.invokevirtual 126, 3) := by decide +kernel
theorem dX11_grist_35 : decode cX11_grist 35 = .ok (.ireturn, 1) := by decide +kernel
theorem dX11_at_0 : decode cX11_at 0 = .ok (.aload_n 0, 1) := by decide +kernel
theorem dX11_at_1 : decode cX11_at 1 = .ok (.iload_n 1, 1) := by decide +kernel
theorem dX11_at_2 : decode cX11_at 2 = .ok (.invokevirtual 98, 3) := by decide +kernel
theorem dX11_at_5 : decode cX11_at 5 = .ok (.ifCond .eq 31, 3) := by decide +kernel
theorem dX11_at_8 : decode cX11_at 8 = .ok (.aload_n 0, 1) := by decide +kernel
theorem dX11_at_9 : decode cX11_at 9 = .ok (.iload_n 2, 1) := by decide +kernel
theorem dX11_at_10 : decode cX11_at 10 = .ok (.invokevirtual 101, 3) := by decide +kernel
theorem dX11_at_13 : decode cX11_at 13 = .ok (.ifCond .eq 23, 3) := by decide +kernel
theorem dX11_at_16 : decode cX11_at 16 = .ok (.aload_n 0, 1) := by decide +kernel
theorem dX11_at_17 : decode cX11_at 17 = .ok (.iload_n 3, 1) := by decide +kernel
theorem dX11_at_18 : decode cX11_at 18 = .ok (.invokevirtual 127, 3) := by decide +kernel
theorem dX11_at_21 : decode cX11_at 21 = .ok (.ifCond .eq 15, 3) := by decide +kernel
theorem dX11_at_24 : decode cX11_at 24 = .ok (.iload 4, 2) := by decide +kernel
theorem dX11_at_26 : decode cX11_at 26 = .ok (.ifCond .lt 10, 3) := by decide +kernel
theorem dX11_at_29 : decode cX11_at 29 = .ok (.iload 4, 2) := by decide +kernel
theorem dX11_at_31 : decode cX11_at 31 = .ok (.bipush 10, 2) := by decide +kernel
theorem dX11_at_33 : decode cX11_at 33 = .ok (.if_icmp .lt 6, 3) := by decide +kernel
theorem dX11_at_36 : decode cX11_at 36 = .ok (.ldc 130, 2) := by decide +kernel
theorem dX11_at_38 : decode cX11_at 38 = .ok (.ireturn, 1) := by decide +kernel
theorem dX11_at_39 : decode cX11_at 39 = .ok (.aload_n 0, 1) := by decide +kernel
theorem dX11_at_40 : decode cX11_at 40 = .ok (.getfield 10, 3) := by decide +kernel
theorem dX11_at_43 : decode cX11_at 43 = .ok (.aload_n 0, 1) := by decide +kernel
theorem dX11_at_44 : decode cX11_at 44 = .ok (.getfield 33, 3) := by decide +kernel
theorem dX11_at_47 : decode cX11_at 47 = .ok (.iload_n 3, 1) := by decide +kernel
theorem dX11_at_48 : decode cX11_at 48 = .ok (.iconst (-1), 1) := by decide +kernel
theorem dX11_at_49 : decode cX11_at 49 = .ok (.invokevirtual 131, 3) := by decide +kernel
theorem dX11_at_52 : decode cX11_at 52 = .ok (.aload_n 0, 1) := by decide +kernel
theorem dX11_at_53 : decode cX11_at 53 = .ok (.getfield 10, 3) := by decide +kernel
theorem dX11_at_56 : decode cX11_at 56 = .ok (.aload_n 0, 1) := by decide +kernel
theorem dX11_at_57 : decode cX11_at 57 = .ok (.getfield 33, 3) := by decide +kernel
theorem dX11_at_60 : decode cX11_at 60 = .ok (.iload_n 1, 1) := by decide +kernel
theorem dX11_at_61 : decode cX11_at 61 = .ok (.invokevirtual 135, 3) := by decide +kernel
theorem dX11_at_64 : decode cX11_at 64 = .ok (.aload_n 0, 1) := by decide +kernel
theorem dX11_at_65 : decode cX11_at 65 = .ok (.getfield 33, 3) := by decide +kernel
theorem dX11_at_68 : decode cX11_at 68 = .ok (.getfield 139, 3) := by decide +kernel
theorem dX11_at_71 : decode cX11_at 71 = .ok (.iload 4, 2) := by decide +kernel
theorem dX11_at_73 : decode cX11_at 73 = .ok (.aaload, 1) := by decide +kernel
theorem dX11_at_74 : decode cX11_at 74 = .ok (.iload_n 2, 1) := by decide +kernel
theorem dX11_at_75 : decode cX11_at 75 = .ok (.iaload, 1) := by decide +kernel
theorem dX11_at_76 : decode cX11_at 76 = .ok (.ireturn, 1) := by decide +kernel
theorem dX11_sea_0 : decode cX11_sea 0 = .ok (.aload_n 0, 1) := by decide +kernel
theorem dX11_sea_1 : decode cX11_sea 1 = .ok (.iload_n 1, 1) := by decide +kernel
theorem dX11_sea_2 : decode cX11_sea 2 = .ok (.invokevirtual 143, 3) := by decide +kernel
theorem dX11_sea_5 : decode cX11_sea 5 = .ok (.ifCond .eq 11, 3) := by decide +kernel
theorem dX11_sea_8 : decode cX11_sea 8 = .ok (.aload_n 0, 1) := by decide +kernel
theorem dX11_sea_9 : decode cX11_sea 9 = .ok (.iload_n 2, 1) := by decide +kernel
theorem dX11_sea_10 : decode cX11_sea 10 = .ok (.invokevirtual 127, 3) := by decide +kernel
theorem dX11_sea_13 : decode cX11_sea 13 = .ok (.ifCond .ne 5, 3) := by decide +kernel
theorem dX11_sea_16 : decode cX11_sea 16 = .ok (.iconst (-1), 1) := by decide +kernel
theorem dX11_sea_17 : decode cX11_sea 17 = .ok (.ireturn, 1) := by decide +kernel
theorem dX11_sea_18 : decode cX11_sea 18 = .ok (.aload_n 0, 1) := by decide +kernel
theorem dX11_sea_19 : decode cX11_sea 19 = .ok (.getfield 10, 3) := by decide +kernel
theorem dX11_sea_22 : decode cX11_sea 22 = .ok (.getfield 77, 3) := by decide +kernel
theorem dX11_sea_25 : decode cX11_sea 25 = .ok (.getfield 146, 3) := by decide +kernel
theorem dX11_sea_28 : decode cX11_sea 28 = .ok (.iconst 1, 1) := by decide +kernel
theorem dX11_sea_29 : decode cX11_sea 29 = .ok (.isub, 1) := by decide +kernel
theorem dX11_sea_30 : decode cX11_sea 30 = .ok (.istore_n 3, 1) := by decide +kernel
theorem dX11_sea_31 : decode cX11_sea 31 = .ok (.iconst 0, 1) := by decide +kernel
theorem dX11_sea_32 : decode cX11_sea 32 = .ok (.istore 4, 2) := by decide +kernel
theorem dX11_sea_34 : decode cX11_sea 34 = .ok (.aload_n 0, 1) := by decide +kernel
theorem dX11_sea_35 : decode cX11_sea 35 = .ok (.getfield 10, 3) := by decide +kernel
theorem dX11_sea_38 : decode cX11_sea 38 = .ok (.aload_n 0, 1) := by decide +kernel
theorem dX11_sea_39 : decode cX11_sea 39 = .ok (.getfield 33, 3) := by decide +kernel
theorem dX11_sea_42 : decode cX11_sea 42 = .ok (.iload_n 2, 1) := by decide +kernel
theorem dX11_sea_43 : decode cX11_sea 43 = .ok (.iconst (-1), 1) := by decide +kernel
theorem dX11_sea_44 : decode cX11_sea 44 = .ok (.invokevirtual 131, 3) := by decide +kernel
theorem dX11_sea_47 : decode cX11_sea 47 = .ok (.iconst 0, 1) := by decide +kernel
theorem dX11_sea_48 : decode cX11_sea 48 = .ok (.istore 5, 2) := by decide +kernel
theorem dX11_sea_50 : decode cX11_sea 50 = .ok (.iload 5, 2) := by decide +kernel
theorem dX11_sea_52 : decode cX11_sea 52 = .ok (.iload_n 1, 1) := by decide +kernel
theorem dX11_sea_53 : decode cX11_sea 53 = .ok (.if_icmp .ge 41, 3) := by decide +kernel
theorem dX11_sea_56 : decode cX11_sea 56 = .ok (.iload_n 3, 1) := by decide +kernel
theorem dX11_sea_57 : decode cX11_sea 57 = .ok (.ifCond .lt 37, 3) := by decide +kernel
theorem dX11_sea_60 : decode cX11_sea 60 = .ok (.aload_n 0, 1) := by decide +kernel
theorem dX11_sea_61 : decode cX11_sea 61 = .ok (.getfield 10, 3) := by decide +kernel
theorem dX11_sea_64 : decode cX11_sea 64 = .ok (.aload_n 0, 1) := by decide +kernel
theorem dX11_sea_65 : decode cX11_sea 65 = .ok (.getfield 33, 3) := by decide +kernel
theorem dX11_sea_68 : decode cX11_sea 68 = .ok (.invokevirtual 147, 3) := by decide +kernel
theorem dX11_sea_71 : decode cX11_sea 71 = .ok (.iload 4, 2) := by decide +kernel
theorem dX11_sea_73 : decode cX11_sea 73 = .ok (.aload_n 0, 1) := by decide +kernel
theorem dX11_sea_74 : decode cX11_sea 74 = .ok (.getfield 33, 3) := by decide +kernel
theorem dX11_sea_77 : decode cX11_sea 77 = .ok (.getfield 139, 3) := by decide +kernel
theorem dX11_sea_80 : decode cX11_sea 80 = .ok (.bipush 9, 2) := by decide +kernel
theorem dX11_sea_82 : decode cX11_sea 82 = .ok (.aaload, 1) := by decide +kernel
theorem dX11_sea_83 : decode cX11_sea 83 = .ok (.iload_n 3, 1) := by decide +kernel
theorem dX11_sea_84 : decode cX11_sea 84 = .ok (.iaload, 1) := by decide +kernel
theorem dX11_sea_85 : decode cX11_sea 85 = .ok (.iadd, 1) := by decide +kernel
theorem dX11_sea_86 : decode cX11_sea 86 = .ok (.istore 4, 2) := by decide +kernel
theorem dX11_sea_88 : decode cX11_sea 88 = .ok (.iinc 5 1, 3) := by decide +kernel
theorem dX11_sea_91 : decode cX11_sea 91 = .ok (.goto (-41), 3) := by decide +kernel
theorem dX11_sea_94 : decode cX11_sea 94 = .ok (.iload 4, 2) := by decide +kernel
theorem dX11_sea_96 : decode cX11_sea 96 = .ok (.ireturn, 1) := by decide +kernel
theorem dX11_broken_0 : decode cX11_broken 0 = .ok (.aload_n 0, 1) := by decide +kernel
theorem dX11_broken_1 : decode cX11_broken 1 = .ok (.iload_n 1, 1) := by decide +kernel
theorem dX11_broken_2 : decode cX11_broken 2 = .ok (.invokevirtual 98, 3) := by decide +kernel
theorem dX11_broken_5 : decode cX11_broken 5 = .ok (.ifCond .eq 15, 3) := by decide +kernel
theorem dX11_broken_8 : decode cX11_broken 8 = .ok (.aload_n 0, 1) := by decide +kernel
theorem dX11_broken_9 : decode cX11_broken 9 = .ok (.iload_n 2, 1) := by decide +kernel
theorem dX11_broken_10 : decode cX11_broken 10 = .ok (.invokevirtual 127, 3) := by decide +kernel
theorem dX11_broken_13 : decode cX11_broken 13 = .ok (.ifCond .eq 7, 3) := by decide +kernel
theorem dX11_broken_16 : decode cX11_broken 16 = .ok (.iload_n 3, 1) := by decide +kernel
theorem dX11_broken_17 : decode cX11_broken 17 = .ok (.ifCond .ge 5, 3) := by decide +kernel
theorem dX11_broken_20 : decode cX11_broken 20 = .ok (.iconst (-1), 1) := by decide +kernel
theorem dX11_broken_21 : decode cX11_broken 21 = .ok (.ireturn, 1) := by decide +kernel
theorem dX11_broken_22 : decode cX11_broken 22 = .ok (.aload_n 0, 1) := by decide +kernel
theorem dX11_broken_23 : decode cX11_broken 23 = .ok (.getfield 10, 3) := by decide +kernel
theorem dX11_broken_26 : decode cX11_broken 26 = .ok (.aload_n 0, 1) := by decide +kernel
theorem dX11_broken_27 : decode cX11_broken 27 = .ok (.getfield 33, 3) := by decide +kernel
theorem dX11_broken_30 : decode cX11_broken 30 = .ok (.iload_n 2, 1) := by decide +kernel
theorem dX11_broken_31 : decode cX11_broken 31 = .ok (.iconst (-1), 1) := by decide +kernel
theorem dX11_broken_32 : decode cX11_broken 32 = .ok (.invokevirtual 131, 3) := by decide +kernel
theorem dX11_broken_35 : decode cX11_broken 35 = .ok (.aload_n 0, 1) := by decide +kernel
theorem dX11_broken_36 : decode cX11_broken 36 = .ok (.getfield 10, 3) := by decide +kernel
theorem dX11_broken_39 : decode cX11_broken 39 = .ok (.aload_n 0, 1) := by decide +kernel
theorem dX11_broken_40 : decode cX11_broken 40 = .ok (.getfield 33, 3) := by decide +kernel
theorem dX11_broken_43 : decode cX11_broken 43 = .ok (.iload_n 1, 1) := by decide +kernel
theorem dX11_broken_44 : decode cX11_broken 44 = .ok (.invokevirtual 135, 3) := by decide +kernel
theorem dX11_broken_47 : decode cX11_broken 47 = .ok (.aload_n 0, 1) := by decide +kernel
theorem dX11_broken_48 : decode cX11_broken 48 = .ok (.getfield 10, 3) := by decide +kernel
theorem dX11_broken_51 : decode cX11_broken 51 = .ok (.aload_n 0, 1) := by decide +kernel
theorem dX11_broken_52 : decode cX11_broken 52 = .ok (.getfield 33, 3) := by decide +kernel
theorem dX11_broken_55 : decode cX11_broken 55 = .ok (.iload_n 3, 1) := by decide +kernel
theorem dX11_broken_56 : decode cX11_broken 56 = .ok (.invokevirtual 151, 3) := by decide +kernel
theorem dX11_broken_59 : decode cX11_broken 59 = .ok (.ireturn, 1) := by decide +kernel
theorem dX11_first_0 : decode cX11_first 0 = .ok (.aload_n 0, 1) := by decide +kernel
theorem dX11_first_1 : decode cX11_first 1 = .ok (.iload_n 1, 1) := by decide +kernel
theorem dX11_first_2 : decode cX11_first 2 = .ok (.invokevirtual 143, 3) := by decide +kernel
theorem dX11_first_5 : decode cX11_first 5 = .ok (.ifCond .eq 19, 3) := by decide +kernel
theorem dX11_first_8 : decode cX11_first 8 = .ok (.aload_n 0, 1) := by decide +kernel
theorem dX11_first_9 : decode cX11_first 9 = .ok (.iload_n 2, 1) := by decide +kernel
theorem dX11_first_10 : decode cX11_first 10 = .ok (.invokevirtual 143, 3) := by decide +kernel
theorem dX11_first_13 : decode cX11_first 13 = .ok (.ifCond .eq 11, 3) := by decide +kernel
theorem dX11_first_16 : decode cX11_first 16 = .ok (.aload_n 0, 1) := by decide +kernel
theorem dX11_first_17 : decode cX11_first 17 = .ok (.iload_n 3, 1) := by decide +kernel
theorem dX11_first_18 : decode cX11_first 18 = .ok (.invokevirtual 127, 3) := by decide +kernel
theorem dX11_first_21 : decode cX11_first 21 = .ok (.ifCond .ne 5, 3) := by decide +kernel
theorem dX11_first_24 : decode cX11_first 24 = .ok (.iconst (-1), 1) := by decide +kernel
theorem dX11_first_25 : decode cX11_first 25 = .ok (.ireturn, 1) := by decide +kernel
theorem dX11_first_26 : decode cX11_first 26 = .ok (.aload_n 0, 1) := by decide +kernel
theorem dX11_first_27 : decode cX11_first 27 = .ok (.getfield 10, 3) := by decide +kernel
theorem dX11_first_30 : decode cX11_first 30 = .ok (.aload_n 0, 1) := by decide +kernel
theorem dX11_first_31 : decode cX11_first 31 = .ok (.getfield 33, 3) := by decide +kernel
theorem dX11_first_34 : decode cX11_first 34 = .ok (.iload_n 3, 1) := by decide +kernel
theorem dX11_first_35 : decode cX11_first 35 = .ok (.iconst (-1), 1) := by decide +kernel
theorem dX11_first_36 : decode cX11_first 36 = .ok (.invokevirtual 131, 3) := by decide +kernel
theorem dX11_first_39 : decode cX11_first 39 = .ok (.iconst 0, 1) := by decide +kernel
theorem dX11_first_40 : decode cX11_first 40 = .ok (.istore 4, 2) := by decide +kernel
theorem dX11_first_42 : decode cX11_first 42 = .ok (.iload 4, 2) := by decide +kernel
theorem dX11_first_44 : decode cX11_first 44 = .ok (.iload_n 2, 1) := by decide +kernel
theorem dX11_first_45 : decode cX11_first 45 = .ok (.if_icmp .ge 45, 3) := by decide +kernel
theorem dX11_first_48 : decode cX11_first 48 = .ok (.aload_n 0, 1) := by decide +kernel
theorem dX11_first_49 : decode cX11_first 49 = .ok (.getfield 10, 3) := by decide +kernel
theorem dX11_first_52 : decode cX11_first 52 = .ok (.aload_n 0, 1) := by decide +kernel
theorem dX11_first_53 : decode cX11_first 53 = .ok (.getfield 33, 3) := by decide +kernel
theorem dX11_first_56 : decode cX11_first 56 = .ok (.invokevirtual 147, 3) := by decide +kernel
theorem dX11_first_59 : decode cX11_first 59 = .ok (.iload 4, 2) := by decide +kernel
theorem dX11_first_61 : decode cX11_first 61 = .ok (.iload_n 1, 1) := by decide +kernel
theorem dX11_first_62 : decode cX11_first 62 = .ok (.if_icmp .lt 22, 3) := by decide +kernel
theorem dX11_first_65 : decode cX11_first 65 = .ok (.aload_n 0, 1) := by decide +kernel
theorem dX11_first_66 : decode cX11_first 66 = .ok (.getfield 10, 3) := by decide +kernel
theorem dX11_first_69 : decode cX11_first 69 = .ok (.aload_n 0, 1) := by decide +kernel
theorem dX11_first_70 : decode cX11_first 70 = .ok (.getfield 33, 3) := by decide +kernel
theorem dX11_first_73 : decode cX11_first 73 = .ok (.iconst 0, 1) := by decide +kernel
theorem dX11_first_74 : decode cX11_first 74 = .ok (.invokevirtual 151, 3) := by decide +kernel
theorem dX11_first_77 : decode cX11_first 77 = .ok (.iconst (-1), 1) := by decide +kernel
theorem dX11_first_78 : decode cX11_first 78 = .ok (.if_icmp .eq 6, 3) := by decide +kernel
theorem dX11_first_81 : decode cX11_first 81 = .ok (.iload 4, 2) := by decide +kernel
theorem dX11_first_83 : decode cX11_first 83 = .ok (.ireturn, 1) := by decide +kernel
theorem dX11_first_84 : decode cX11_first 84 = .ok (.iinc 4 1, 3) := by decide +kernel
theorem dX11_first_87 : decode cX11_first 87 = .ok (.goto (-45), 3) := by decide +kernel
theorem dX11_first_90 : decode cX11_first 90 = .ok (.iconst (-1), 1) := by decide +kernel
theorem dX11_first_91 : decode cX11_first 91 = .ok (.ireturn, 1) := by decide +kernel
theorem dX11_loss_0 : decode cX11_loss 0 = .ok (.iload_n 1, 1) := by decide +kernel
theorem dX11_loss_1 : decode cX11_loss 1 = .ok (.ifCond .lt 51, 3) := by decide +kernel
theorem dX11_loss_4 : decode cX11_loss 4 = .ok (.iload_n 1, 1) := by decide +kernel
theorem dX11_loss_5 : decode cX11_loss 5 = .ok (.aload_n 0, 1) := by decide +kernel
theorem dX11_loss_6 : decode cX11_loss 6 = .ok (.getfield 10, 3) := by decide +kernel
theorem dX11_loss_9 : decode cX11_loss 9 = .ok (.getfield 117, 3) := by decide +kernel
theorem dX11_loss_12 : decode cX11_loss 12 = .ok (.getfield 155, 3) := by decide +kernel
theorem dX11_loss_15 : decode cX11_loss 15 = .ok (.if_icmp .ge 37, 3) := by decide +kernel
theorem dX11_loss_18 : decode cX11_loss 18 = .ok (.aload_n 0, 1) := by decide +kernel
theorem dX11_loss_19 : decode cX11_loss 19 = .ok (.iload_n 2, 1) := by decide +kernel
theorem dX11_loss_20 : decode cX11_loss 20 = .ok (.invokevirtual 101, 3) := by decide +kernel
theorem dX11_loss_23 : decode cX11_loss 23 = .ok (.ifCond .eq 29, 3) := by decide +kernel
theorem dX11_loss_26 : decode cX11_loss 26 = .ok (.aload_n 0, 1) := by decide +kernel
theorem dX11_loss_27 : decode cX11_loss 27 = .ok (.iload_n 3, 1) := by decide +kernel
theorem dX11_loss_28 : decode cX11_loss 28 = .ok (.invokevirtual 143, 3) := by decide +kernel
theorem dX11_loss_31 : decode cX11_loss 31 = .ok (.ifCond .eq 21, 3) := by decide +kernel
theorem dX11_loss_34 : decode cX11_loss 34 = .ok (.aload_n 0, 1) := by decide +kernel
theorem dX11_loss_35 : decode cX11_loss 35 = .ok (.iload 4, 2) := by decide +kernel
theorem dX11_loss_37 : decode cX11_loss 37 = .ok (.invokevirtual 143, 3) := by decide +kernel
theorem dX11_loss_40 : decode cX11_loss 40 = .ok (.ifCond .eq 12, 3) := by decide +kernel
theorem dX11_loss_43 : decode cX11_loss 43 = .ok (.aload_n 0, 1) := by decide +kernel
theorem dX11_loss_44 : decode cX11_loss 44 = .ok (.iload 5, 2) := by decide +kernel
theorem dX11_loss_46 : decode cX11_loss 46 = .ok (.invokevirtual 127, 3) := by decide +kernel
theorem dX11_loss_49 : decode cX11_loss 49 = .ok (.ifCond .ne 6, 3) := by decide +kernel
theorem dX11_loss_52 : decode cX11_loss 52 = .ok (.ldc 130, 2) := by decide +kernel
theorem dX11_loss_54 : decode cX11_loss 54 = .ok (.ireturn, 1) := by decide +kernel
theorem dX11_loss_55 : decode cX11_loss 55 = .ok (.aload_n 0, 1) := by decide +kernel
theorem dX11_loss_56 : decode cX11_loss 56 = .ok (.getfield 10, 3) := by decide +kernel
theorem dX11_loss_59 : decode cX11_loss 59 = .ok (.aload_n 0, 1) := by decide +kernel
theorem dX11_loss_60 : decode cX11_loss 60 = .ok (.getfield 33, 3) := by decide +kernel
theorem dX11_loss_63 : decode cX11_loss 63 = .ok (.iload 5, 2) := by decide +kernel
theorem dX11_loss_65 : decode cX11_loss 65 = .ok (.iconst (-1), 1) := by decide +kernel
theorem dX11_loss_66 : decode cX11_loss 66 = .ok (.invokevirtual 131, 3) := by decide +kernel
theorem dX11_loss_69 : decode cX11_loss 69 = .ok (.aload_n 0, 1) := by decide +kernel
theorem dX11_loss_70 : decode cX11_loss 70 = .ok (.getfield 10, 3) := by decide +kernel
theorem dX11_loss_73 : decode cX11_loss 73 = .ok (.aload_n 0, 1) := by decide +kernel
theorem dX11_loss_74 : decode cX11_loss 74 = .ok (.getfield 37, 3) := by decide +kernel
theorem dX11_loss_77 : decode cX11_loss 77 = .ok (.iload 5, 2) := by decide +kernel
theorem dX11_loss_79 : decode cX11_loss 79 = .ok (.iload_n 1, 1) := by decide +kernel
theorem dX11_loss_80 : decode cX11_loss 80 = .ok (.invokevirtual 131, 3) := by decide +kernel
theorem dX11_loss_83 : decode cX11_loss 83 = .ok (.aload_n 0, 1) := by decide +kernel
theorem dX11_loss_84 : decode cX11_loss 84 = .ok (.getfield 10, 3) := by decide +kernel
theorem dX11_loss_87 : decode cX11_loss 87 = .ok (.aload_n 0, 1) := by decide +kernel
theorem dX11_loss_88 : decode cX11_loss 88 = .ok (.getfield 37, 3) := by decide +kernel
theorem dX11_loss_91 : decode cX11_loss 91 = .ok (.iload_n 2, 1) := by decide +kernel
theorem dX11_loss_92 : decode cX11_loss 92 = .ok (.iload_n 3, 1) := by decide +kernel
theorem dX11_loss_93 : decode cX11_loss 93 = .ok (.iload 4, 2) := by decide +kernel
theorem dX11_loss_95 : decode cX11_loss 95 = .ok (.invokevirtual 156, 3) := by decide +kernel
theorem dX11_loss_98 : decode cX11_loss 98 = .ok (.aload_n 0, 1) := by decide +kernel
theorem dX11_loss_99 : decode cX11_loss 99 = .ok (.getfield 10, 3) := by decide +kernel
theorem dX11_loss_102 : decode cX11_loss 102 = .ok (.aload_n 0, 1) := by decide +kernel
theorem dX11_loss_103 : decode cX11_loss 103 = .ok (.getfield 33, 3) := by decide +kernel
theorem dX11_loss_106 : decode cX11_loss 106 = .ok (.iload_n 2, 1) := by decide +kernel
theorem dX11_loss_107 : decode cX11_loss 107 = .ok (.iload_n 3, 1) := by decide +kernel
theorem dX11_loss_108 : decode cX11_loss 108 = .ok (.iload 4, 2) := by decide +kernel
theorem dX11_loss_110 : decode cX11_loss 110 = .ok (.invokevirtual 156, 3) := by decide +kernel
theorem dX11_loss_113 : decode cX11_loss 113 = .ok (.isub, 1) := by decide +kernel
theorem dX11_loss_114 : decode cX11_loss 114 = .ok (.ireturn, 1) := by decide +kernel
theorem dX11_culprit_0 : decode cX11_culprit 0 = .ok (.aload_n 0, 1) := by decide +kernel
theorem dX11_culprit_1 : decode cX11_culprit 1 = .ok (.iload_n 1, 1) := by decide +kernel
theorem dX11_culprit_2 : decode cX11_culprit 2 = .ok (.invokevirtual 101, 3) := by decide +kernel
theorem dX11_culprit_5 : decode cX11_culprit 5 = .ok (.ifCond .eq 28, 3) := by decide +kernel
theorem dX11_culprit_8 : decode cX11_culprit 8 = .ok (.aload_n 0, 1) := by decide +kernel
theorem dX11_culprit_9 : decode cX11_culprit 9 = .ok (.iload_n 2, 1) := by decide +kernel
theorem dX11_culprit_10 : decode cX11_culprit 10 = .ok (.invokevirtual 143, 3) := by decide +kernel
theorem dX11_culprit_13 : decode cX11_culprit 13 = .ok (.ifCond .eq 20, 3) := by decide +kernel
theorem dX11_culprit_16 : decode cX11_culprit 16 = .ok (.aload_n 0, 1) := by decide +kernel
theorem dX11_culprit_17 : decode cX11_culprit 17 = .ok (.iload_n 3, 1) := by decide +kernel
theorem dX11_culprit_18 : decode cX11_culprit 18 = .ok (.invokevirtual 143, 3) := by decide +kernel
theorem dX11_culprit_21 : decode cX11_culprit 21 = .ok (.ifCond .eq 12, 3) := by decide +kernel
theorem dX11_culprit_24 : decode cX11_culprit 24 = .ok (.aload_n 0, 1) := by decide +kernel
theorem dX11_culprit_25 : decode cX11_culprit 25 = .ok (.iload 4, 2) := by decide +kernel
theorem dX11_culprit_27 : decode cX11_culprit 27 = .ok (.invokevirtual 127, 3) := by decide +kernel
theorem dX11_culprit_30 : decode cX11_culprit 30 = .ok (.ifCond .ne 5, 3) := by decide +kernel
theorem dX11_culprit_33 : decode cX11_culprit 33 = .ok (.iconst (-1), 1) := by decide +kernel
theorem dX11_culprit_34 : decode cX11_culprit 34 = .ok (.ireturn, 1) := by decide +kernel
theorem dX11_culprit_35 : decode cX11_culprit 35 = .ok (.aload_n 0, 1) := by decide +kernel
theorem dX11_culprit_36 : decode cX11_culprit 36 = .ok (.getfield 10, 3) := by decide +kernel
theorem dX11_culprit_39 : decode cX11_culprit 39 = .ok (.getfield 117, 3) := by decide +kernel
theorem dX11_culprit_42 : decode cX11_culprit 42 = .ok (.astore 5, 2) := by decide +kernel
theorem dX11_culprit_44 : decode cX11_culprit 44 = .ok (.aload_n 0, 1) := by decide +kernel
theorem dX11_culprit_45 : decode cX11_culprit 45 = .ok (.getfield 10, 3) := by decide +kernel
theorem dX11_culprit_48 : decode cX11_culprit 48 = .ok (.aload_n 0, 1) := by decide +kernel
theorem dX11_culprit_49 : decode cX11_culprit 49 = .ok (.getfield 33, 3) := by decide +kernel
theorem dX11_culprit_52 : decode cX11_culprit 52 = .ok (.iload 4, 2) := by decide +kernel
theorem dX11_culprit_54 : decode cX11_culprit 54 = .ok (.iconst (-1), 1) := by decide +kernel
theorem dX11_culprit_55 : decode cX11_culprit 55 = .ok (.invokevirtual 131, 3) := by decide +kernel
theorem dX11_culprit_58 : decode cX11_culprit 58 = .ok (.aload_n 0, 1) := by decide +kernel
theorem dX11_culprit_59 : decode cX11_culprit 59 = .ok (.getfield 10, 3) := by decide +kernel
theorem dX11_culprit_62 : decode cX11_culprit 62 = .ok (.aload_n 0, 1) := by decide +kernel
theorem dX11_culprit_63 : decode cX11_culprit 63 = .ok (.getfield 33, 3) := by decide +kernel
theorem dX11_culprit_66 : decode cX11_culprit 66 = .ok (.iload_n 1, 1) := by decide +kernel
theorem dX11_culprit_67 : decode cX11_culprit 67 = .ok (.iload_n 2, 1) := by decide +kernel
theorem dX11_culprit_68 : decode cX11_culprit 68 = .ok (.iload_n 3, 1) := by decide +kernel
theorem dX11_culprit_69 : decode cX11_culprit 69 = .ok (.invokevirtual 156, 3) := by decide +kernel
theorem dX11_culprit_72 : decode cX11_culprit 72 = .ok (.istore 6, 2) := by decide +kernel
theorem dX11_culprit_74 : decode cX11_culprit 74 = .ok (.iconst (-1), 1) := by decide +kernel
theorem dX11_culprit_75 : decode cX11_culprit 75 = .ok (.istore 7, 2) := by decide +kernel
theorem dX11_culprit_77 : decode cX11_culprit 77 = .ok (.iconst 0, 1) := by decide +kernel
theorem dX11_culprit_78 : decode cX11_culprit 78 = .ok (.istore 8, 2) := by decide +kernel
theorem dX11_culprit_80 : decode cX11_culprit 80 = .ok (.aload_n 0, 1) := by decide +kernel
theorem dX11_culprit_81 : decode cX11_culprit 81 = .ok (.getfield 10, 3) := by decide +kernel
theorem dX11_culprit_84 : decode cX11_culprit 84 = .ok (.aload_n 0, 1) := by decide +kernel
theorem dX11_culprit_85 : decode cX11_culprit 85 = .ok (.getfield 33, 3) := by decide +kernel
theorem dX11_culprit_88 : decode cX11_culprit 88 = .ok (.iload 4, 2) := by decide +kernel
theorem dX11_culprit_90 : decode cX11_culprit 90 = .ok (.iconst (-1), 1) := by decide +kernel
theorem dX11_culprit_91 : decode cX11_culprit 91 = .ok (.invokevirtual 131, 3) := by decide +kernel
theorem dX11_culprit_94 : decode cX11_culprit 94 = .ok (.iconst 0, 1) := by decide +kernel
theorem dX11_culprit_95 : decode cX11_culprit 95 = .ok (.istore 9, 2) := by decide +kernel
theorem dX11_culprit_97 : decode cX11_culprit 97 = .ok (.iload 9, 2) := by decide +kernel
theorem dX11_culprit_99 : decode cX11_culprit 99 = .ok (.aload 5, 2) := by decide +kernel
theorem dX11_culprit_101 : decode cX11_culprit 101 = .ok (.getfield 155, 3) := by decide +kernel
theorem dX11_culprit_104 : decode cX11_culprit 104 = .ok (.if_icmp .ge 123, 3) := by decide +kernel
theorem dX11_culprit_107 : decode cX11_culprit 107 = .ok (.aload 5, 2) := by decide +kernel
theorem dX11_culprit_109 : decode cX11_culprit 109 = .ok (.getfield 160, 3) := by decide +kernel
theorem dX11_culprit_112 : decode cX11_culprit 112 = .ok (.iload 9, 2) := by decide +kernel
theorem dX11_culprit_114 : decode cX11_culprit 114 = .ok (.iaload, 1) := by decide +kernel
theorem dX11_culprit_115 : decode cX11_culprit 115 = .ok (.iload_n 3, 1) := by decide +kernel
theorem dX11_culprit_116 : decode cX11_culprit 116 = .ok (.if_icmp .ge 111, 3) := by decide +kernel
theorem dX11_culprit_119 : decode cX11_culprit 119 = .ok (.aload 5, 2) := by decide +kernel
theorem dX11_culprit_121 : decode cX11_culprit 121 = .ok (.getfield 164, 3) := by decide +kernel
theorem dX11_culprit_124 : decode cX11_culprit 124 = .ok (.iload 9, 2) := by decide +kernel
theorem dX11_culprit_126 : decode cX11_culprit 126 = .ok (.iaload, 1) := by decide +kernel
theorem dX11_culprit_127 : decode cX11_culprit 127 = .ok (.iload_n 1, 1) := by decide +kernel
theorem dX11_culprit_128 : decode cX11_culprit 128 = .ok (.if_icmp .eq 93, 3) := by decide +kernel
theorem dX11_culprit_131 : decode cX11_culprit 131 = .ok (.aload 5, 2) := by decide +kernel
theorem dX11_culprit_133 : decode cX11_culprit 133 = .ok (.iload 9, 2) := by decide +kernel
theorem dX11_culprit_135 : decode cX11_culprit 135 = .ok (.invokevirtual 167, 3) := by decide +kernel
theorem dX11_culprit_138 : decode cX11_culprit 138 = .ok (.ifCond .eq 83, 3) := by decide +kernel
theorem dX11_culprit_141 : decode cX11_culprit 141 = .ok (.iload 8, 2) := by decide +kernel
theorem dX11_culprit_143 : decode cX11_culprit 143 = .ok (.aload_n 0, 1) := by decide +kernel
theorem dX11_culprit_144 : decode cX11_culprit 144 = .ok (.getfield 10, 3) := by decide +kernel
theorem dX11_culprit_147 : decode cX11_culprit 147 = .ok (.aload_n 0, 1) := by decide +kernel
theorem dX11_culprit_148 : decode cX11_culprit 148 = .ok (.getfield 33, 3) := by decide +kernel
theorem dX11_culprit_151 : decode cX11_culprit 151 = .ok (.iload_n 1, 1) := by decide +kernel
theorem dX11_culprit_152 : decode cX11_culprit 152 = .ok (.iload_n 2, 1) := by decide +kernel
theorem dX11_culprit_153 : decode cX11_culprit 153 = .ok (.aload 5, 2) := by decide +kernel
theorem dX11_culprit_155 : decode cX11_culprit 155 = .ok (.getfield 160, 3) := by decide +kernel
theorem dX11_culprit_158 : decode cX11_culprit 158 = .ok (.iload 9, 2) := by decide +kernel
theorem dX11_culprit_160 : decode cX11_culprit 160 = .ok (.iaload, 1) := by decide +kernel
theorem dX11_culprit_161 : decode cX11_culprit 161 = .ok (.invokevirtual 156, 3) := by decide +kernel
theorem dX11_culprit_164 : decode cX11_culprit 164 = .ok (.iadd, 1) := by decide +kernel
theorem dX11_culprit_165 : decode cX11_culprit 165 = .ok (.istore 8, 2) := by decide +kernel
theorem dX11_culprit_167 : decode cX11_culprit 167 = .ok (.aload_n 0, 1) := by decide +kernel
theorem dX11_culprit_168 : decode cX11_culprit 168 = .ok (.getfield 37, 3) := by decide +kernel
theorem dX11_culprit_171 : decode cX11_culprit 171 = .ok (.aload_n 0, 1) := by decide +kernel
theorem dX11_culprit_172 : decode cX11_culprit 172 = .ok (.getfield 33, 3) := by decide +kernel
theorem dX11_culprit_175 : decode cX11_culprit 175 = .ok (.invokevirtual 170, 3) := by decide +kernel
theorem dX11_culprit_178 : decode cX11_culprit 178 = .ok (.aload_n 0, 1) := by decide +kernel
theorem dX11_culprit_179 : decode cX11_culprit 179 = .ok (.getfield 37, 3) := by decide +kernel
theorem dX11_culprit_182 : decode cX11_culprit 182 = .ok (.iload 9, 2) := by decide +kernel
theorem dX11_culprit_184 : decode cX11_culprit 184 = .ok (.putfield 173, 3) := by decide +kernel
theorem dX11_culprit_187 : decode cX11_culprit 187 = .ok (.iload 8, 2) := by decide +kernel
theorem dX11_culprit_189 : decode cX11_culprit 189 = .ok (.aload_n 0, 1) := by decide +kernel
theorem dX11_culprit_190 : decode cX11_culprit 190 = .ok (.getfield 10, 3) := by decide +kernel
theorem dX11_culprit_193 : decode cX11_culprit 193 = .ok (.aload_n 0, 1) := by decide +kernel
theorem dX11_culprit_194 : decode cX11_culprit 194 = .ok (.getfield 37, 3) := by decide +kernel
theorem dX11_culprit_197 : decode cX11_culprit 197 = .ok (.iload_n 1, 1) := by decide +kernel
theorem dX11_culprit_198 : decode cX11_culprit 198 = .ok (.iload_n 2, 1) := by decide +kernel
theorem dX11_culprit_199 : decode cX11_culprit 199 = .ok (.iload_n 3, 1) := by decide +kernel
theorem dX11_culprit_200 : decode cX11_culprit 200 = .ok (.invokevirtual 156, 3) := by decide +kernel
theorem dX11_culprit_203 : decode cX11_culprit 203 = .ok (.iadd, 1) := by decide +kernel
theorem dX11_culprit_204 : decode cX11_culprit 204 = .ok (.istore 10, 2) := by decide +kernel
theorem dX11_culprit_206 : decode cX11_culprit 206 = .ok (.iload 10, 2) := by decide +kernel
theorem dX11_culprit_208 : decode cX11_culprit 208 = .ok (.iload 6, 2) := by decide +kernel
theorem dX11_culprit_210 : decode cX11_culprit 210 = .ok (.if_icmp .le 11, 3) := by decide +kernel
theorem dX11_culprit_213 : decode cX11_culprit 213 = .ok (.iload 10, 2) := by decide +kernel
theorem dX11_culprit_215 : decode cX11_culprit 215 = .ok (.istore 6, 2) := by decide +kernel
theorem dX11_culprit_217 : decode cX11_culprit 217 = .ok (.iload 9, 2) := by decide +kernel
theorem dX11_culprit_219 : decode cX11_culprit 219 = .ok (.istore 7, 2) := by decide +kernel
theorem dX11_culprit_221 : decode cX11_culprit 221 = .ok (.iinc 9 1, 3) := by decide +kernel
theorem dX11_culprit_224 : decode cX11_culprit 224 = .ok (.goto (-127), 3) := by decide +kernel
theorem dX11_culprit_227 : decode cX11_culprit 227 = .ok (.iload 7, 2) := by decide +kernel
theorem dX11_culprit_229 : decode cX11_culprit 229 = .ok (.ireturn, 1) := by decide +kernel
theorem dX11_plan_0 : decode cX11_plan 0 = .ok (.aload_n 0, 1) := by decide +kernel
theorem dX11_plan_1 : decode cX11_plan 1 = .ok (.iload_n 1, 1) := by decide +kernel
theorem dX11_plan_2 : decode cX11_plan 2 = .ok (.invokevirtual 101, 3) := by decide +kernel
theorem dX11_plan_5 : decode cX11_plan 5 = .ok (.ifCond .eq 37, 3) := by decide +kernel
theorem dX11_plan_8 : decode cX11_plan 8 = .ok (.iload_n 2, 1) := by decide +kernel
theorem dX11_plan_9 : decode cX11_plan 9 = .ok (.iconst 1, 1) := by decide +kernel
theorem dX11_plan_10 : decode cX11_plan 10 = .ok (.if_icmp .lt 32, 3) := by decide +kernel
theorem dX11_plan_13 : decode cX11_plan 13 = .ok (.iload_n 2, 1) := by decide +kernel
theorem dX11_plan_14 : decode cX11_plan 14 = .ok (.bipush 6, 2) := by decide +kernel
theorem dX11_plan_16 : decode cX11_plan 16 = .ok (.if_icmp .gt 26, 3) := by decide +kernel
theorem dX11_plan_19 : decode cX11_plan 19 = .ok (.iload_n 2, 1) := by decide +kernel
theorem dX11_plan_20 : decode cX11_plan 20 = .ok (.sipush 240, 3) := by decide +kernel
theorem dX11_plan_23 : decode cX11_plan 23 = .ok (.aload_n 0, 1) := by decide +kernel
theorem dX11_plan_24 : decode cX11_plan 24 = .ok (.getfield 40, 3) := by decide +kernel
theorem dX11_plan_27 : decode cX11_plan 27 = .ok (.isub, 1) := by decide +kernel
theorem dX11_plan_28 : decode cX11_plan 28 = .ok (.if_icmp .gt 14, 3) := by decide +kernel
theorem dX11_plan_31 : decode cX11_plan 31 = .ok (.iload_n 3, 1) := by decide +kernel
theorem dX11_plan_32 : decode cX11_plan 32 = .ok (.ifCond .lt 10, 3) := by decide +kernel
theorem dX11_plan_35 : decode cX11_plan 35 = .ok (.iload_n 3, 1) := by decide +kernel
theorem dX11_plan_36 : decode cX11_plan 36 = .ok (.sipush 10000, 3) := by decide +kernel
theorem dX11_plan_39 : decode cX11_plan 39 = .ok (.if_icmp .le 6, 3) := by decide +kernel
theorem dX11_plan_42 : decode cX11_plan 42 = .ok (.bipush (-2), 2) := by decide +kernel
theorem dX11_plan_44 : decode cX11_plan 44 = .ok (.ireturn, 1) := by decide +kernel
theorem dX11_plan_45 : decode cX11_plan 45 = .ok (.aload_n 0, 1) := by decide +kernel
theorem dX11_plan_46 : decode cX11_plan 46 = .ok (.getfield 26, 3) := by decide +kernel
theorem dX11_plan_49 : decode cX11_plan 49 = .ok (.iload_n 1, 1) := by decide +kernel
theorem dX11_plan_50 : decode cX11_plan 50 = .ok (.iload_n 2, 1) := by decide +kernel
theorem dX11_plan_51 : decode cX11_plan 51 = .ok (.iload_n 3, 1) := by decide +kernel
theorem dX11_plan_52 : decode cX11_plan 52 = .ok (.aload_n 0, 1) := by decide +kernel
theorem dX11_plan_53 : decode cX11_plan 53 = .ok (.getfield 10, 3) := by decide +kernel
theorem dX11_plan_56 : decode cX11_plan 56 = .ok (.getfield 77, 3) := by decide +kernel
theorem dX11_plan_59 : decode cX11_plan 59 = .ok (.invokevirtual 176, 3) := by decide +kernel
theorem dX11_plan_62 : decode cX11_plan 62 = .ok (.aload_n 0, 1) := by decide +kernel
theorem dX11_plan_63 : decode cX11_plan 63 = .ok (.getfield 10, 3) := by decide +kernel
theorem dX11_plan_66 : decode cX11_plan 66 = .ok (.aload_n 0, 1) := by decide +kernel
theorem dX11_plan_67 : decode cX11_plan 67 = .ok (.getfield 33, 3) := by decide +kernel
theorem dX11_plan_70 : decode cX11_plan 70 = .ok (.aload_n 0, 1) := by decide +kernel
theorem dX11_plan_71 : decode cX11_plan 71 = .ok (.getfield 10, 3) := by decide +kernel
theorem dX11_plan_74 : decode cX11_plan 74 = .ok (.getfield 104, 3) := by decide +kernel
theorem dX11_plan_77 : decode cX11_plan 77 = .ok (.getfield 180, 3) := by decide +kernel
theorem dX11_plan_80 : decode cX11_plan 80 = .ok (.iconst (-1), 1) := by decide +kernel
theorem dX11_plan_81 : decode cX11_plan 81 = .ok (.invokevirtual 131, 3) := by decide +kernel
theorem dX11_plan_84 : decode cX11_plan 84 = .ok (.aload_n 0, 1) := by decide +kernel
theorem dX11_plan_85 : decode cX11_plan 85 = .ok (.getfield 10, 3) := by decide +kernel
theorem dX11_plan_88 : decode cX11_plan 88 = .ok (.aload_n 0, 1) := by decide +kernel
theorem dX11_plan_89 : decode cX11_plan 89 = .ok (.getfield 33, 3) := by decide +kernel
theorem dX11_plan_92 : decode cX11_plan 92 = .ok (.aload_n 0, 1) := by decide +kernel
theorem dX11_plan_93 : decode cX11_plan 93 = .ok (.getfield 40, 3) := by decide +kernel
theorem dX11_plan_96 : decode cX11_plan 96 = .ok (.iconst 1, 1) := by decide +kernel
theorem dX11_plan_97 : decode cX11_plan 97 = .ok (.isub, 1) := by decide +kernel
theorem dX11_plan_98 : decode cX11_plan 98 = .ok (.invokevirtual 135, 3) := by decide +kernel
theorem dX11_plan_101 : decode cX11_plan 101 = .ok (.aload_n 0, 1) := by decide +kernel
theorem dX11_plan_102 : decode cX11_plan 102 = .ok (.getfield 26, 3) := by decide +kernel
theorem dX11_plan_105 : decode cX11_plan 105 = .ok (.aload_n 0, 1) := by decide +kernel
theorem dX11_plan_106 : decode cX11_plan 106 = .ok (.getfield 10, 3) := by decide +kernel
theorem dX11_plan_109 : decode cX11_plan 109 = .ok (.aload_n 0, 1) := by decide +kernel
theorem dX11_plan_110 : decode cX11_plan 110 = .ok (.getfield 33, 3) := by decide +kernel
theorem dX11_plan_113 : decode cX11_plan 113 = .ok (.invokevirtual 181, 3) := by decide +kernel
theorem dX11_plan_116 : decode cX11_plan 116 = .ok (.ireturn, 1) := by decide +kernel
theorem dX11_planned_0 : decode cX11_planned 0 = .ok (.iload_n 1, 1) := by decide +kernel
theorem dX11_planned_1 : decode cX11_planned 1 = .ok (.ifCond .lt 14, 3) := by decide +kernel
theorem dX11_planned_4 : decode cX11_planned 4 = .ok (.iload_n 1, 1) := by decide +kernel
theorem dX11_planned_5 : decode cX11_planned 5 = .ok (.aload_n 0, 1) := by decide +kernel
theorem dX11_planned_6 : decode cX11_planned 6 = .ok (.getfield 26, 3) := by decide +kernel
theorem dX11_planned_9 : decode cX11_planned 9 = .ok (.getfield 185, 3) := by decide +kernel
theorem dX11_planned_12 : decode cX11_planned 12 = .ok (.if_icmp .lt 7, 3) := by decide +kernel
theorem dX11_planned_15 : decode cX11_planned 15 = .ok (.iconst (-1), 1) := by decide +kernel
theorem dX11_planned_16 : decode cX11_planned 16 = .ok (.goto 12, 3) := by decide +kernel
theorem dX11_planned_19 : decode cX11_planned 19 = .ok (.aload_n 0, 1) := by decide +kernel
theorem dX11_planned_20 : decode cX11_planned 20 = .ok (.getfield 26, 3) := by decide +kernel
theorem dX11_planned_23 : decode cX11_planned 23 = .ok (.getfield 186, 3) := by decide +kernel
theorem dX11_planned_26 : decode cX11_planned 26 = .ok (.iload_n 1, 1) := by decide +kernel
theorem dX11_planned_27 : decode cX11_planned 27 = .ok (.iaload, 1) := by decide +kernel
theorem dX11_planned_28 : decode cX11_planned 28 = .ok (.ireturn, 1) := by decide +kernel
theorem dX11_told_0 : decode cX11_told 0 = .ok (.iload_n 1, 1) := by decide +kernel
theorem dX11_told_1 : decode cX11_told 1 = .ok (.ifCond .lt 22, 3) := by decide +kernel
theorem dX11_told_4 : decode cX11_told 4 = .ok (.iload_n 1, 1) := by decide +kernel
theorem dX11_told_5 : decode cX11_told 5 = .ok (.aload_n 0, 1) := by decide +kernel
theorem dX11_told_6 : decode cX11_told 6 = .ok (.getfield 19, 3) := by decide +kernel
theorem dX11_told_9 : decode cX11_told 9 = .ok (.getfield 189, 3) := by decide +kernel
theorem dX11_told_12 : decode cX11_told 12 = .ok (.if_icmp .ge 11, 3) := by decide +kernel
theorem dX11_told_15 : decode cX11_told 15 = .ok (.aload_n 0, 1) := by decide +kernel
theorem dX11_told_16 : decode cX11_told 16 = .ok (.iload_n 2, 1) := by decide +kernel
theorem dX11_told_17 : decode cX11_told 17 = .ok (.invokevirtual 127, 3) := by decide +kernel
theorem dX11_told_20 : decode cX11_told 20 = .ok (.ifCond .ne 5, 3) := by decide +kernel
theorem dX11_told_23 : decode cX11_told 23 = .ok (.iconst (-1), 1) := by decide +kernel
theorem dX11_told_24 : decode cX11_told 24 = .ok (.ireturn, 1) := by decide +kernel
theorem dX11_told_25 : decode cX11_told 25 = .ok (.iload_n 3, 1) := by decide +kernel
theorem dX11_told_26 : decode cX11_told 26 = .ok (.tableswitch 119 0 4 #[34, 44, 54, 64, 91], 34) := by decide +kernel
theorem dX11_told_60 : decode cX11_told 60 = .ok (.aload_n 0, 1) := by decide +kernel
theorem dX11_told_61 : decode cX11_told 61 = .ok (.getfield 19, 3) := by decide +kernel
theorem dX11_told_64 : decode cX11_told 64 = .ok (.getfield 190, 3) := by decide +kernel
theorem dX11_told_67 : decode cX11_told 67 = .ok (.iload_n 1, 1) := by decide +kernel
theorem dX11_told_68 : decode cX11_told 68 = .ok (.iaload, 1) := by decide +kernel
theorem dX11_told_69 : decode cX11_told 69 = .ok (.ireturn, 1) := by decide +kernel
theorem dX11_told_70 : decode cX11_told 70 = .ok (.aload_n 0, 1) := by decide +kernel
theorem dX11_told_71 : decode cX11_told 71 = .ok (.getfield 19, 3) := by decide +kernel
theorem dX11_told_74 : decode cX11_told 74 = .ok (.getfield 191, 3) := by decide +kernel
theorem dX11_told_77 : decode cX11_told 77 = .ok (.iload_n 1, 1) := by decide +kernel
theorem dX11_told_78 : decode cX11_told 78 = .ok (.iaload, 1) := by decide +kernel
theorem dX11_told_79 : decode cX11_told 79 = .ok (.ireturn, 1) := by decide +kernel
theorem dX11_told_80 : decode cX11_told 80 = .ok (.aload_n 0, 1) := by decide +kernel
theorem dX11_told_81 : decode cX11_told 81 = .ok (.getfield 19, 3) := by decide +kernel
theorem dX11_told_84 : decode cX11_told 84 = .ok (.getfield 194, 3) := by decide +kernel
theorem dX11_told_87 : decode cX11_told 87 = .ok (.iload_n 1, 1) := by decide +kernel
theorem dX11_told_88 : decode cX11_told 88 = .ok (.iaload, 1) := by decide +kernel
theorem dX11_told_89 : decode cX11_told 89 = .ok (.ireturn, 1) := by decide +kernel
theorem dX11_told_90 : decode cX11_told 90 = .ok (.aload_n 0, 1) := by decide +kernel
theorem dX11_told_91 : decode cX11_told 91 = .ok (.aload_n 0, 1) := by decide +kernel
theorem dX11_told_92 : decode cX11_told 92 = .ok (.getfield 19, 3) := by decide +kernel
theorem dX11_told_95 : decode cX11_told 95 = .ok (.getfield 190, 3) := by decide +kernel
theorem dX11_told_98 : decode cX11_told 98 = .ok (.iload_n 1, 1) := by decide +kernel
theorem dX11_told_99 : decode cX11_told 99 = .ok (.iaload, 1) := by decide +kernel
theorem dX11_told_100 : decode cX11_told 100 = .ok (.iload_n 2, 1) := by decide +kernel
theorem dX11_told_101 : decode cX11_told 101 = .ok (.sipush 240, 3) := by decide +kernel
theorem dX11_told_104 : decode cX11_told 104 = .ok (.invokevirtual 195, 3) := by decide +kernel
theorem dX11_told_107 : decode cX11_told 107 = .ok (.aload_n 0, 1) := by decide +kernel
theorem dX11_told_108 : decode cX11_told 108 = .ok (.getfield 19, 3) := by decide +kernel
theorem dX11_told_111 : decode cX11_told 111 = .ok (.getfield 199, 3) := by decide +kernel
theorem dX11_told_114 : decode cX11_told 114 = .ok (.iload_n 1, 1) := by decide +kernel
theorem dX11_told_115 : decode cX11_told 115 = .ok (.iaload, 1) := by decide +kernel
theorem dX11_told_116 : decode cX11_told 116 = .ok (.ireturn, 1) := by decide +kernel
theorem dX11_told_117 : decode cX11_told 117 = .ok (.aload_n 0, 1) := by decide +kernel
theorem dX11_told_118 : decode cX11_told 118 = .ok (.aload_n 0, 1) := by decide +kernel
theorem dX11_told_119 : decode cX11_told 119 = .ok (.getfield 19, 3) := by decide +kernel
theorem dX11_told_122 : decode cX11_told 122 = .ok (.getfield 190, 3) := by decide +kernel
theorem dX11_told_125 : decode cX11_told 125 = .ok (.iload_n 1, 1) := by decide +kernel
theorem dX11_told_126 : decode cX11_told 126 = .ok (.iaload, 1) := by decide +kernel
theorem dX11_told_127 : decode cX11_told 127 = .ok (.iload_n 2, 1) := by decide +kernel
theorem dX11_told_128 : decode cX11_told 128 = .ok (.aload_n 0, 1) := by decide +kernel
theorem dX11_told_129 : decode cX11_told 129 = .ok (.getfield 40, 3) := by decide +kernel
theorem dX11_told_132 : decode cX11_told 132 = .ok (.invokevirtual 195, 3) := by decide +kernel
theorem dX11_told_135 : decode cX11_told 135 = .ok (.aload_n 0, 1) := by decide +kernel
theorem dX11_told_136 : decode cX11_told 136 = .ok (.getfield 19, 3) := by decide +kernel
theorem dX11_told_139 : decode cX11_told 139 = .ok (.getfield 202, 3) := by decide +kernel
theorem dX11_told_142 : decode cX11_told 142 = .ok (.iload_n 1, 1) := by decide +kernel
theorem dX11_told_143 : decode cX11_told 143 = .ok (.iaload, 1) := by decide +kernel
theorem dX11_told_144 : decode cX11_told 144 = .ok (.ireturn, 1) := by decide +kernel
theorem dX11_told_145 : decode cX11_told 145 = .ok (.iconst (-1), 1) := by decide +kernel
theorem dX11_told_146 : decode cX11_told 146 = .ok (.ireturn, 1) := by decide +kernel
theorem dX11_tolls_0 : decode cX11_tolls 0 = .ok (.aload_n 0, 1) := by decide +kernel
theorem dX11_tolls_1 : decode cX11_tolls 1 = .ok (.iload_n 1, 1) := by decide +kernel
theorem dX11_tolls_2 : decode cX11_tolls 2 = .ok (.invokevirtual 101, 3) := by decide +kernel
theorem dX11_tolls_5 : decode cX11_tolls 5 = .ok (.ifCond .eq 19, 3) := by decide +kernel
theorem dX11_tolls_8 : decode cX11_tolls 8 = .ok (.aload_n 0, 1) := by decide +kernel
theorem dX11_tolls_9 : decode cX11_tolls 9 = .ok (.iload_n 2, 1) := by decide +kernel
theorem dX11_tolls_10 : decode cX11_tolls 10 = .ok (.invokevirtual 143, 3) := by decide +kernel
theorem dX11_tolls_13 : decode cX11_tolls 13 = .ok (.ifCond .eq 11, 3) := by decide +kernel
theorem dX11_tolls_16 : decode cX11_tolls 16 = .ok (.aload_n 0, 1) := by decide +kernel
theorem dX11_tolls_17 : decode cX11_tolls 17 = .ok (.iload_n 3, 1) := by decide +kernel
theorem dX11_tolls_18 : decode cX11_tolls 18 = .ok (.invokevirtual 127, 3) := by decide +kernel
theorem dX11_tolls_21 : decode cX11_tolls 21 = .ok (.ifCond .ne 5, 3) := by decide +kernel
theorem dX11_tolls_24 : decode cX11_tolls 24 = .ok (.iconst (-1), 1) := by decide +kernel
theorem dX11_tolls_25 : decode cX11_tolls 25 = .ok (.ireturn, 1) := by decide +kernel
theorem dX11_tolls_26 : decode cX11_tolls 26 = .ok (.aload_n 0, 1) := by decide +kernel
theorem dX11_tolls_27 : decode cX11_tolls 27 = .ok (.iload_n 1, 1) := by decide +kernel
theorem dX11_tolls_28 : decode cX11_tolls 28 = .ok (.iload_n 3, 1) := by decide +kernel
theorem dX11_tolls_29 : decode cX11_tolls 29 = .ok (.iload_n 2, 1) := by decide +kernel
theorem dX11_tolls_30 : decode cX11_tolls 30 = .ok (.invokevirtual 195, 3) := by decide +kernel
theorem dX11_tolls_33 : decode cX11_tolls 33 = .ok (.aload_n 0, 1) := by decide +kernel
theorem dX11_tolls_34 : decode cX11_tolls 34 = .ok (.getfield 19, 3) := by decide +kernel
theorem dX11_tolls_37 : decode cX11_tolls 37 = .ok (.iload_n 1, 1) := by decide +kernel
theorem dX11_tolls_38 : decode cX11_tolls 38 = .ok (.invokevirtual 205, 3) := by decide +kernel
theorem dX11_tolls_41 : decode cX11_tolls 41 = .ok (.ireturn, 1) := by decide +kernel
theorem dX11_count_0 : decode cX11_count 0 = .ok (.iload_n 1, 1) := by decide +kernel
theorem dX11_count_1 : decode cX11_count 1 = .ok (.tableswitch 150 0 8 #[51, 62, 73, 84, 92, 106, 120, 125, 136], 51) := by decide +kernel
theorem dX11_count_52 : decode cX11_count 52 = .ok (.aload_n 0, 1) := by decide +kernel
theorem dX11_count_53 : decode cX11_count 53 = .ok (.getfield 10, 3) := by decide +kernel
theorem dX11_count_56 : decode cX11_count 56 = .ok (.getfield 77, 3) := by decide +kernel
theorem dX11_count_59 : decode cX11_count 59 = .ok (.getfield 146, 3) := by decide +kernel
theorem dX11_count_62 : decode cX11_count 62 = .ok (.ireturn, 1) := by decide +kernel
theorem dX11_count_63 : decode cX11_count 63 = .ok (.aload_n 0, 1) := by decide +kernel
theorem dX11_count_64 : decode cX11_count 64 = .ok (.getfield 10, 3) := by decide +kernel
theorem dX11_count_67 : decode cX11_count 67 = .ok (.getfield 104, 3) := by decide +kernel
theorem dX11_count_70 : decode cX11_count 70 = .ok (.getfield 180, 3) := by decide +kernel
theorem dX11_count_73 : decode cX11_count 73 = .ok (.ireturn, 1) := by decide +kernel
theorem dX11_count_74 : decode cX11_count 74 = .ok (.aload_n 0, 1) := by decide +kernel
theorem dX11_count_75 : decode cX11_count 75 = .ok (.getfield 10, 3) := by decide +kernel
theorem dX11_count_78 : decode cX11_count 78 = .ok (.getfield 117, 3) := by decide +kernel
theorem dX11_count_81 : decode cX11_count 81 = .ok (.getfield 155, 3) := by decide +kernel
theorem dX11_count_84 : decode cX11_count 84 = .ok (.ireturn, 1) := by decide +kernel
theorem dX11_count_85 : decode cX11_count 85 = .ok (.aload_n 0, 1) := by decide +kernel
theorem dX11_count_86 : decode cX11_count 86 = .ok (.getfield 19, 3) := by decide +kernel
theorem dX11_count_89 : decode cX11_count 89 = .ok (.getfield 189, 3) := by decide +kernel
theorem dX11_count_92 : decode cX11_count 92 = .ok (.ireturn, 1) := by decide +kernel
theorem dX11_count_93 : decode cX11_count 93 = .ok (.aload_n 0, 1) := by decide +kernel
theorem dX11_count_94 : decode cX11_count 94 = .ok (.getfield 10, 3) := by decide +kernel
theorem dX11_count_97 : decode cX11_count 97 = .ok (.getfield 44, 3) := by decide +kernel
theorem dX11_count_100 : decode cX11_count 100 = .ok (.getfield 209, 3) := by decide +kernel
theorem dX11_count_103 : decode cX11_count 103 = .ok (.getfield 213, 3) := by decide +kernel
theorem dX11_count_106 : decode cX11_count 106 = .ok (.ireturn, 1) := by decide +kernel
theorem dX11_count_107 : decode cX11_count 107 = .ok (.aload_n 0, 1) := by decide +kernel
theorem dX11_count_108 : decode cX11_count 108 = .ok (.getfield 10, 3) := by decide +kernel
theorem dX11_count_111 : decode cX11_count 111 = .ok (.getfield 44, 3) := by decide +kernel
theorem dX11_count_114 : decode cX11_count 114 = .ok (.getfield 209, 3) := by decide +kernel
theorem dX11_count_117 : decode cX11_count 117 = .ok (.getfield 218, 3) := by decide +kernel
theorem dX11_count_120 : decode cX11_count 120 = .ok (.ireturn, 1) := by decide +kernel
theorem dX11_count_121 : decode cX11_count 121 = .ok (.aload_n 0, 1) := by decide +kernel
theorem dX11_count_122 : decode cX11_count 122 = .ok (.getfield 40, 3) := by decide +kernel
theorem dX11_count_125 : decode cX11_count 125 = .ok (.ireturn, 1) := by decide +kernel
theorem dX11_count_126 : decode cX11_count 126 = .ok (.aload_n 0, 1) := by decide +kernel
theorem dX11_count_127 : decode cX11_count 127 = .ok (.getfield 10, 3) := by decide +kernel
theorem dX11_count_130 : decode cX11_count 130 = .ok (.getfield 77, 3) := by decide +kernel
theorem dX11_count_133 : decode cX11_count 133 = .ok (.getfield 221, 3) := by decide +kernel
theorem dX11_count_136 : decode cX11_count 136 = .ok (.ireturn, 1) := by decide +kernel
theorem dX11_count_137 : decode cX11_count 137 = .ok (.aload_n 0, 1) := by decide +kernel
theorem dX11_count_138 : decode cX11_count 138 = .ok (.getfield 10, 3) := by decide +kernel
theorem dX11_count_141 : decode cX11_count 141 = .ok (.getfield 44, 3) := by decide +kernel
theorem dX11_count_144 : decode cX11_count 144 = .ok (.getfield 48, 3) := by decide +kernel
theorem dX11_count_147 : decode cX11_count 147 = .ok (.getfield 54, 3) := by decide +kernel
theorem dX11_count_150 : decode cX11_count 150 = .ok (.ireturn, 1) := by decide +kernel
theorem dX11_count_151 : decode cX11_count 151 = .ok (.iconst (-1), 1) := by decide +kernel
theorem dX11_count_152 : decode cX11_count 152 = .ok (.ireturn, 1) := by decide +kernel
theorem dX11_isMill_0 : decode cX11_isMill 0 = .ok (.iload_n 1, 1) := by decide +kernel
theorem dX11_isMill_1 : decode cX11_isMill 1 = .ok (.ifCond .lt 21, 3) := by decide +kernel
theorem dX11_isMill_4 : decode cX11_isMill 4 = .ok (.iload_n 1, 1) := by decide +kernel
theorem dX11_isMill_5 : decode cX11_isMill 5 = .ok (.aload_n 0, 1) := by decide +kernel
theorem dX11_isMill_6 : decode cX11_isMill 6 = .ok (.getfield 10, 3) := by decide +kernel
theorem dX11_isMill_9 : decode cX11_isMill 9 = .ok (.getfield 77, 3) := by decide +kernel
theorem dX11_isMill_12 : decode cX11_isMill 12 = .ok (.getfield 146, 3) := by decide +kernel
theorem dX11_isMill_15 : decode cX11_isMill 15 = .ok (.if_icmp .ge 7, 3) := by decide +kernel
theorem dX11_isMill_18 : decode cX11_isMill 18 = .ok (.iconst 1, 1) := by decide +kernel
theorem dX11_isMill_19 : decode cX11_isMill 19 = .ok (.goto 4, 3) := by decide +kernel
theorem dX11_isMill_22 : decode cX11_isMill 22 = .ok (.iconst 0, 1) := by decide +kernel
theorem dX11_isMill_23 : decode cX11_isMill 23 = .ok (.ireturn, 1) := by decide +kernel
theorem dX11_isHour_0 : decode cX11_isHour 0 = .ok (.iload_n 1, 1) := by decide +kernel
theorem dX11_isHour_1 : decode cX11_isHour 1 = .ok (.ifCond .lt 14, 3) := by decide +kernel
theorem dX11_isHour_4 : decode cX11_isHour 4 = .ok (.iload_n 1, 1) := by decide +kernel
theorem dX11_isHour_5 : decode cX11_isHour 5 = .ok (.sipush 240, 3) := by decide +kernel
theorem dX11_isHour_8 : decode cX11_isHour 8 = .ok (.if_icmp .ge 7, 3) := by decide +kernel
theorem dX11_isHour_11 : decode cX11_isHour 11 = .ok (.iconst 1, 1) := by decide +kernel
theorem dX11_isHour_12 : decode cX11_isHour 12 = .ok (.goto 4, 3) := by decide +kernel
theorem dX11_isHour_15 : decode cX11_isHour 15 = .ok (.iconst 0, 1) := by decide +kernel
theorem dX11_isHour_16 : decode cX11_isHour 16 = .ok (.ireturn, 1) := by decide +kernel
theorem dX11_isEnd_0 : decode cX11_isEnd 0 = .ok (.iload_n 1, 1) := by decide +kernel
theorem dX11_isEnd_1 : decode cX11_isEnd 1 = .ok (.ifCond .lt 14, 3) := by decide +kernel
theorem dX11_isEnd_4 : decode cX11_isEnd 4 = .ok (.iload_n 1, 1) := by decide +kernel
theorem dX11_isEnd_5 : decode cX11_isEnd 5 = .ok (.sipush 240, 3) := by decide +kernel
theorem dX11_isEnd_8 : decode cX11_isEnd 8 = .ok (.if_icmp .gt 7, 3) := by decide +kernel
theorem dX11_isEnd_11 : decode cX11_isEnd 11 = .ok (.iconst 1, 1) := by decide +kernel
theorem dX11_isEnd_12 : decode cX11_isEnd 12 = .ok (.goto 4, 3) := by decide +kernel
theorem dX11_isEnd_15 : decode cX11_isEnd 15 = .ok (.iconst 0, 1) := by decide +kernel
theorem dX11_isEnd_16 : decode cX11_isEnd 16 = .ok (.ireturn, 1) := by decide +kernel
theorem dX11_isKnown_0 : decode cX11_isKnown 0 = .ok (.iload_n 1, 1) := by decide +kernel
theorem dX11_isKnown_1 : decode cX11_isKnown 1 = .ok (.ifCond .lt 21, 3) := by decide +kernel
theorem dX11_isKnown_4 : decode cX11_isKnown 4 = .ok (.iload_n 1, 1) := by decide +kernel
theorem dX11_isKnown_5 : decode cX11_isKnown 5 = .ok (.aload_n 0, 1) := by decide +kernel
theorem dX11_isKnown_6 : decode cX11_isKnown 6 = .ok (.getfield 10, 3) := by decide +kernel
theorem dX11_isKnown_9 : decode cX11_isKnown 9 = .ok (.getfield 104, 3) := by decide +kernel
theorem dX11_isKnown_12 : decode cX11_isKnown 12 = .ok (.getfield 180, 3) := by decide +kernel
theorem dX11_isKnown_15 : decode cX11_isKnown 15 = .ok (.if_icmp .gt 7, 3) := by decide +kernel
theorem dX11_isKnown_18 : decode cX11_isKnown 18 = .ok (.iconst 1, 1) := by decide +kernel
theorem dX11_isKnown_19 : decode cX11_isKnown 19 = .ok (.goto 4, 3) := by decide +kernel
theorem dX11_isKnown_22 : decode cX11_isKnown 22 = .ok (.iconst 0, 1) := by decide +kernel
theorem dX11_isKnown_23 : decode cX11_isKnown 23 = .ok (.ireturn, 1) := by decide +kernel
theorem dX11_grind_0 : decode cX11_grind 0 = .ok (.aload_n 0, 1) := by decide +kernel
theorem dX11_grind_1 : decode cX11_grind 1 = .ok (.getfield 19, 3) := by decide +kernel
theorem dX11_grind_4 : decode cX11_grind 4 = .ok (.invokevirtual 224, 3) := by decide +kernel
theorem dX11_grind_7 : decode cX11_grind 7 = .ok (.aload_n 0, 1) := by decide +kernel
theorem dX11_grind_8 : decode cX11_grind 8 = .ok (.getfield 10, 3) := by decide +kernel
theorem dX11_grind_11 : decode cX11_grind 11 = .ok (.aload_n 0, 1) := by decide +kernel
theorem dX11_grind_12 : decode cX11_grind 12 = .ok (.getfield 33, 3) := by decide +kernel
theorem dX11_grind_15 : decode cX11_grind 15 = .ok (.iload_n 2, 1) := by decide +kernel
theorem dX11_grind_16 : decode cX11_grind 16 = .ok (.iconst (-1), 1) := by decide +kernel
theorem dX11_grind_17 : decode cX11_grind 17 = .ok (.invokevirtual 131, 3) := by decide +kernel
theorem dX11_grind_20 : decode cX11_grind 20 = .ok (.iconst 0, 1) := by decide +kernel
theorem dX11_grind_21 : decode cX11_grind 21 = .ok (.istore 4, 2) := by decide +kernel
theorem dX11_grind_23 : decode cX11_grind 23 = .ok (.iload 4, 2) := by decide +kernel
theorem dX11_grind_25 : decode cX11_grind 25 = .ok (.iload_n 3, 1) := by decide +kernel
theorem dX11_grind_26 : decode cX11_grind 26 = .ok (.if_icmp .ge 42, 3) := by decide +kernel
theorem dX11_grind_29 : decode cX11_grind 29 = .ok (.aload_n 0, 1) := by decide +kernel
theorem dX11_grind_30 : decode cX11_grind 30 = .ok (.getfield 10, 3) := by decide +kernel
theorem dX11_grind_33 : decode cX11_grind 33 = .ok (.aload_n 0, 1) := by decide +kernel
theorem dX11_grind_34 : decode cX11_grind 34 = .ok (.getfield 33, 3) := by decide +kernel
theorem dX11_grind_37 : decode cX11_grind 37 = .ok (.invokevirtual 147, 3) := by decide +kernel
theorem dX11_grind_40 : decode cX11_grind 40 = .ok (.aload_n 0, 1) := by decide +kernel
theorem dX11_grind_41 : decode cX11_grind 41 = .ok (.getfield 19, 3) := by decide +kernel
theorem dX11_grind_44 : decode cX11_grind 44 = .ok (.iload_n 1, 1) := by decide +kernel
theorem dX11_grind_45 : decode cX11_grind 45 = .ok (.iload 4, 2) := by decide +kernel
theorem dX11_grind_47 : decode cX11_grind 47 = .ok (.aload_n 0, 1) := by decide +kernel
theorem dX11_grind_48 : decode cX11_grind 48 = .ok (.getfield 33, 3) := by decide +kernel
theorem dX11_grind_51 : decode cX11_grind 51 = .ok (.getfield 139, 3) := by decide +kernel
theorem dX11_grind_54 : decode cX11_grind 54 = .ok (.bipush 6, 2) := by decide +kernel
theorem dX11_grind_56 : decode cX11_grind 56 = .ok (.aaload, 1) := by decide +kernel
theorem dX11_grind_57 : decode cX11_grind 57 = .ok (.iload_n 1, 1) := by decide +kernel
theorem dX11_grind_58 : decode cX11_grind 58 = .ok (.iaload, 1) := by decide +kernel
theorem dX11_grind_59 : decode cX11_grind 59 = .ok (.invokevirtual 227, 3) := by decide +kernel
theorem dX11_grind_62 : decode cX11_grind 62 = .ok (.iinc 4 1, 3) := by decide +kernel
theorem dX11_grind_65 : decode cX11_grind 65 = .ok (.goto (-42), 3) := by decide +kernel
theorem dX11_grind_68 : decode cX11_grind 68 = .ok (.return_, 1) := by decide +kernel
theorem dX12_init_0 : decode cX12_init 0 = .ok (.aload_n 0, 1) := by decide +kernel
theorem dX12_init_1 : decode cX12_init 1 = .ok (.invokespecial 7, 3) := by decide +kernel
theorem dX12_init_4 : decode cX12_init 4 = .ok (.aload_n 0, 1) := by decide +kernel
theorem dX12_init_5 : decode cX12_init 5 = .ok (.sipush 2000, 3) := by decide +kernel
theorem dX12_init_8 : decode cX12_init 8 = .ok (.newarray .byte, 2) := by decide +kernel
theorem dX12_init_10 : decode cX12_init 10 = .ok (.putfield 13, 3) := by decide +kernel
theorem dX12_init_13 : decode cX12_init 13 = .ok (.aload_n 0, 1) := by decide +kernel
theorem dX12_init_14 : decode cX12_init 14 = .ok (.sipush 2000, 3) := by decide +kernel
theorem dX12_init_17 : decode cX12_init 17 = .ok (.newarray .byte, 2) := by decide +kernel
theorem dX12_init_19 : decode cX12_init 19 = .ok (.putfield 17, 3) := by decide +kernel
theorem dX12_init_22 : decode cX12_init 22 = .ok (.aload_n 0, 1) := by decide +kernel
theorem dX12_init_23 : decode cX12_init 23 = .ok (.sipush 603, 3) := by decide +kernel
theorem dX12_init_26 : decode cX12_init 26 = .ok (.newarray .int, 2) := by decide +kernel
theorem dX12_init_28 : decode cX12_init 28 = .ok (.putfield 20, 3) := by decide +kernel
theorem dX12_init_31 : decode cX12_init 31 = .ok (.aload_n 0, 1) := by decide +kernel
theorem dX12_init_32 : decode cX12_init 32 = .ok (.sipush 603, 3) := by decide +kernel
theorem dX12_init_35 : decode cX12_init 35 = .ok (.newarray .int, 2) := by decide +kernel
theorem dX12_init_37 : decode cX12_init 37 = .ok (.putfield 24, 3) := by decide +kernel
theorem dX12_init_40 : decode cX12_init 40 = .ok (.aload_n 0, 1) := by decide +kernel
theorem dX12_init_41 : decode cX12_init 41 = .ok (.sipush 603, 3) := by decide +kernel
theorem dX12_init_44 : decode cX12_init 44 = .ok (.newarray .int, 2) := by decide +kernel
theorem dX12_init_46 : decode cX12_init 46 = .ok (.putfield 27, 3) := by decide +kernel
theorem dX12_init_49 : decode cX12_init 49 = .ok (.aload_n 0, 1) := by decide +kernel
theorem dX12_init_50 : decode cX12_init 50 = .ok (.sipush 603, 3) := by decide +kernel
theorem dX12_init_53 : decode cX12_init 53 = .ok (.newarray .long, 2) := by decide +kernel
theorem dX12_init_55 : decode cX12_init 55 = .ok (.putfield 30, 3) := by decide +kernel
theorem dX12_init_58 : decode cX12_init 58 = .ok (.aload_n 0, 1) := by decide +kernel
theorem dX12_init_59 : decode cX12_init 59 = .ok (.bipush 23, 2) := by decide +kernel
theorem dX12_init_61 : decode cX12_init 61 = .ok (.newarray .long, 2) := by decide +kernel
theorem dX12_init_63 : decode cX12_init 63 = .ok (.putfield 34, 3) := by decide +kernel
theorem dX12_init_66 : decode cX12_init 66 = .ok (.aload_n 0, 1) := by decide +kernel
theorem dX12_init_67 : decode cX12_init 67 = .ok (.iconst (-1), 1) := by decide +kernel
theorem dX12_init_68 : decode cX12_init 68 = .ok (.putfield 37, 3) := by decide +kernel
theorem dX12_init_71 : decode cX12_init 71 = .ok (.aload_n 0, 1) := by decide +kernel
theorem dX12_init_72 : decode cX12_init 72 = .ok (.bipush 11, 2) := by decide +kernel
theorem dX12_init_74 : decode cX12_init 74 = .ok (.newarray .long, 2) := by decide +kernel
theorem dX12_init_76 : decode cX12_init 76 = .ok (.putfield 40, 3) := by decide +kernel
theorem dX12_init_79 : decode cX12_init 79 = .ok (.aload_n 0, 1) := by decide +kernel
theorem dX12_init_80 : decode cX12_init 80 = .ok (.bipush 11, 2) := by decide +kernel
theorem dX12_init_82 : decode cX12_init 82 = .ok (.newarray .int, 2) := by decide +kernel
theorem dX12_init_84 : decode cX12_init 84 = .ok (.putfield 43, 3) := by decide +kernel
theorem dX12_init_87 : decode cX12_init 87 = .ok (.aload_n 0, 1) := by decide +kernel
theorem dX12_init_88 : decode cX12_init 88 = .ok (.bipush 11, 2) := by decide +kernel
theorem dX12_init_90 : decode cX12_init 90 = .ok (.newarray .int, 2) := by decide +kernel
theorem dX12_init_92 : decode cX12_init 92 = .ok (.putfield 46, 3) := by decide +kernel
theorem dX12_init_95 : decode cX12_init 95 = .ok (.aload_n 0, 1) := by decide +kernel
theorem dX12_init_96 : decode cX12_init 96 = .ok (.bipush 31, 2) := by decide +kernel
theorem dX12_init_98 : decode cX12_init 98 = .ok (.newarray .int, 2) := by decide +kernel
theorem dX12_init_100 : decode cX12_init 100 = .ok (.putfield 49, 3) := by decide +kernel
theorem dX12_init_103 : decode cX12_init 103 = .ok (.aload_n 0, 1) := by decide +kernel
theorem dX12_init_104 : decode cX12_init 104 = .ok (.bipush 31, 2) := by decide +kernel
theorem dX12_init_106 : decode cX12_init 106 = .ok (.newarray .int, 2) := by decide +kernel
theorem dX12_init_108 : decode cX12_init 108 = .ok (.putfield 52, 3) := by decide +kernel
theorem dX12_init_111 : decode cX12_init 111 = .ok (.aload_n 0, 1) := by decide +kernel
theorem dX12_init_112 : decode cX12_init 112 = .ok (.bipush 31, 2) := by decide +kernel
theorem dX12_init_114 : decode cX12_init 114 = .ok (.newarray .boolean, 2) := by decide +kernel
theorem dX12_init_116 : decode cX12_init 116 = .ok (.putfield 55, 3) := by decide +kernel
theorem dX12_init_119 : decode cX12_init 119 = .ok (.aload_n 0, 1) := by decide +kernel
theorem dX12_init_120 : decode cX12_init 120 = .ok (.bipush 31, 2) := by decide +kernel
theorem dX12_init_122 : decode cX12_init 122 = .ok (.newarray .int, 2) := by decide +kernel
theorem dX12_init_124 : decode cX12_init 124 = .ok (.putfield 59, 3) := by decide +kernel
theorem dX12_init_127 : decode cX12_init 127 = .ok (.aload_n 0, 1) := by decide +kernel
theorem dX12_init_128 : decode cX12_init 128 = .ok (.bipush 31, 2) := by decide +kernel
theorem dX12_init_130 : decode cX12_init 130 = .ok (.newarray .int, 2) := by decide +kernel
theorem dX12_init_132 : decode cX12_init 132 = .ok (.putfield 62, 3) := by decide +kernel
theorem dX12_init_135 : decode cX12_init 135 = .ok (.aload_n 0, 1) := by decide +kernel
theorem dX12_init_136 : decode cX12_init 136 = .ok (.bipush 31, 2) := by decide +kernel
theorem dX12_init_138 : decode cX12_init 138 = .ok (.newarray .int, 2) := by decide +kernel
theorem dX12_init_140 : decode cX12_init 140 = .ok (.putfield 65, 3) := by decide +kernel
theorem dX12_init_143 : decode cX12_init 143 = .ok (.aload_n 0, 1) := by decide +kernel
theorem dX12_init_144 : decode cX12_init 144 = .ok (.bipush 31, 2) := by decide +kernel
theorem dX12_init_146 : decode cX12_init 146 = .ok (.newarray .int, 2) := by decide +kernel
theorem dX12_init_148 : decode cX12_init 148 = .ok (.putfield 68, 3) := by decide +kernel
theorem dX12_init_151 : decode cX12_init 151 = .ok (.aload_n 0, 1) := by decide +kernel
theorem dX12_init_152 : decode cX12_init 152 = .ok (.sipush 6600, 3) := by decide +kernel
theorem dX12_init_155 : decode cX12_init 155 = .ok (.newarray .int, 2) := by decide +kernel
theorem dX12_init_157 : decode cX12_init 157 = .ok (.putfield 71, 3) := by decide +kernel
theorem dX12_init_160 : decode cX12_init 160 = .ok (.aload_n 0, 1) := by decide +kernel
theorem dX12_init_161 : decode cX12_init 161 = .ok (.sipush 6600, 3) := by decide +kernel
theorem dX12_init_164 : decode cX12_init 164 = .ok (.newarray .int, 2) := by decide +kernel
theorem dX12_init_166 : decode cX12_init 166 = .ok (.putfield 74, 3) := by decide +kernel
theorem dX12_init_169 : decode cX12_init 169 = .ok (.aload_n 0, 1) := by decide +kernel
theorem dX12_init_170 : decode cX12_init 170 = .ok (.sipush 6600, 3) := by decide +kernel
theorem dX12_init_173 : decode cX12_init 173 = .ok (.newarray .int, 2) := by decide +kernel
theorem dX12_init_175 : decode cX12_init 175 = .ok (.putfield 77, 3) := by decide +kernel
theorem dX12_init_178 : decode cX12_init 178 = .ok (.aload_n 0, 1) := by decide +kernel
theorem dX12_init_179 : decode cX12_init 179 = .ok (.sipush 6600, 3) := by decide +kernel
theorem dX12_init_182 : decode cX12_init 182 = .ok (.newarray .int, 2) := by decide +kernel
theorem dX12_init_184 : decode cX12_init 184 = .ok (.putfield 80, 3) := by decide +kernel
theorem dX12_init_187 : decode cX12_init 187 = .ok (.aload_n 0, 1) := by decide +kernel
theorem dX12_init_188 : decode cX12_init 188 = .ok (.sipush 6600, 3) := by decide +kernel
theorem dX12_init_191 : decode cX12_init 191 = .ok (.newarray .boolean, 2) := by decide +kernel
theorem dX12_init_193 : decode cX12_init 193 = .ok (.putfield 83, 3) := by decide +kernel
theorem dX12_init_196 : decode cX12_init 196 = .ok (.aload_n 0, 1) := by decide +kernel
theorem dX12_init_197 : decode cX12_init 197 = .ok (.sipush 20000, 3) := by decide +kernel
theorem dX12_init_200 : decode cX12_init 200 = .ok (.newarray .int, 2) := by decide +kernel
theorem dX12_init_202 : decode cX12_init 202 = .ok (.putfield 86, 3) := by decide +kernel
theorem dX12_init_205 : decode cX12_init 205 = .ok (.aload_n 0, 1) := by decide +kernel
theorem dX12_init_206 : decode cX12_init 206 = .ok (.sipush 20000, 3) := by decide +kernel
theorem dX12_init_209 : decode cX12_init 209 = .ok (.newarray .int, 2) := by decide +kernel
theorem dX12_init_211 : decode cX12_init 211 = .ok (.putfield 89, 3) := by decide +kernel
theorem dX12_init_214 : decode cX12_init 214 = .ok (.aload_n 0, 1) := by decide +kernel
theorem dX12_init_215 : decode cX12_init 215 = .ok (.bipush 64, 2) := by decide +kernel
theorem dX12_init_217 : decode cX12_init 217 = .ok (.newarray .int, 2) := by decide +kernel
theorem dX12_init_219 : decode cX12_init 219 = .ok (.putfield 92, 3) := by decide +kernel
theorem dX12_init_222 : decode cX12_init 222 = .ok (.aload_n 0, 1) := by decide +kernel
theorem dX12_init_223 : decode cX12_init 223 = .ok (.bipush 7, 2) := by decide +kernel
theorem dX12_init_225 : decode cX12_init 225 = .ok (.newarray .int, 2) := by decide +kernel
theorem dX12_init_227 : decode cX12_init 227 = .ok (.putfield 95, 3) := by decide +kernel
theorem dX12_init_230 : decode cX12_init 230 = .ok (.aload_n 0, 1) := by decide +kernel
theorem dX12_init_231 : decode cX12_init 231 = .ok (.bipush 7, 2) := by decide +kernel
theorem dX12_init_233 : decode cX12_init 233 = .ok (.newarray .int, 2) := by decide +kernel
theorem dX12_init_235 : decode cX12_init 235 = .ok (.putfield 98, 3) := by decide +kernel
theorem dX12_init_238 : decode cX12_init 238 = .ok (.aload_n 0, 1) := by decide +kernel
theorem dX12_init_239 : decode cX12_init 239 = .ok (.bipush 7, 2) := by decide +kernel
theorem dX12_init_241 : decode cX12_init 241 = .ok (.newarray .int, 2) := by decide +kernel
theorem dX12_init_243 : decode cX12_init 243 = .ok (.putfield 101, 3) := by decide +kernel
theorem dX12_init_246 : decode cX12_init 246 = .ok (.aload_n 0, 1) := by decide +kernel
theorem dX12_init_247 : decode cX12_init 247 = .ok (.bipush 7, 2) := by decide +kernel
theorem dX12_init_249 : decode cX12_init 249 = .ok (.newarray .int, 2) := by decide +kernel
theorem dX12_init_251 : decode cX12_init 251 = .ok (.putfield 104, 3) := by decide +kernel
theorem dX12_init_254 : decode cX12_init 254 = .ok (.aload_n 0, 1) := by decide +kernel
theorem dX12_init_255 : decode cX12_init 255 = .ok (.bipush 20, 2) := by decide +kernel
theorem dX12_init_257 : decode cX12_init 257 = .ok (.newarray .int, 2) := by decide +kernel
theorem dX12_init_259 : decode cX12_init 259 = .ok (.putfield 107, 3) := by decide +kernel
theorem dX12_init_262 : decode cX12_init 262 = .ok (.aload_n 0, 1) := by decide +kernel
theorem dX12_init_263 : decode cX12_init 263 = .ok (.sipush 400, 3) := by decide +kernel
theorem dX12_init_266 : decode cX12_init 266 = .ok (.newarray .int, 2) := by decide +kernel
theorem dX12_init_268 : decode cX12_init 268 = .ok (.putfield 110, 3) := by decide +kernel
theorem dX12_init_271 : decode cX12_init 271 = .ok (.aload_n 0, 1) := by decide +kernel
theorem dX12_init_272 : decode cX12_init 272 = .ok (.sipush 400, 3) := by decide +kernel
theorem dX12_init_275 : decode cX12_init 275 = .ok (.newarray .int, 2) := by decide +kernel
theorem dX12_init_277 : decode cX12_init 277 = .ok (.putfield 113, 3) := by decide +kernel
theorem dX12_init_280 : decode cX12_init 280 = .ok (.aload_n 0, 1) := by decide +kernel
theorem dX12_init_281 : decode cX12_init 281 = .ok (.sipush 400, 3) := by decide +kernel
theorem dX12_init_284 : decode cX12_init 284 = .ok (.newarray .int, 2) := by decide +kernel
theorem dX12_init_286 : decode cX12_init 286 = .ok (.putfield 116, 3) := by decide +kernel
theorem dX12_init_289 : decode cX12_init 289 = .ok (.aload_n 0, 1) := by decide +kernel
theorem dX12_init_290 : decode cX12_init 290 = .ok (.sipush 200, 3) := by decide +kernel
theorem dX12_init_293 : decode cX12_init 293 = .ok (.newarray .int, 2) := by decide +kernel
theorem dX12_init_295 : decode cX12_init 295 = .ok (.putfield 119, 3) := by decide +kernel
theorem dX12_init_298 : decode cX12_init 298 = .ok (.aload_n 0, 1) := by decide +kernel
theorem dX12_init_299 : decode cX12_init 299 = .ok (.sipush 200, 3) := by decide +kernel
theorem dX12_init_302 : decode cX12_init 302 = .ok (.newarray .int, 2) := by decide +kernel
theorem dX12_init_304 : decode cX12_init 304 = .ok (.putfield 122, 3) := by decide +kernel
theorem dX12_init_307 : decode cX12_init 307 = .ok (.aload_n 0, 1) := by decide +kernel
theorem dX12_init_308 : decode cX12_init 308 = .ok (.sipush 200, 3) := by decide +kernel
theorem dX12_init_311 : decode cX12_init 311 = .ok (.newarray .boolean, 2) := by decide +kernel
theorem dX12_init_313 : decode cX12_init 313 = .ok (.putfield 125, 3) := by decide +kernel
theorem dX12_init_316 : decode cX12_init 316 = .ok (.aload_n 0, 1) := by decide +kernel
theorem dX12_init_317 : decode cX12_init 317 = .ok (.sipush 200, 3) := by decide +kernel
theorem dX12_init_320 : decode cX12_init 320 = .ok (.newarray .int, 2) := by decide +kernel
theorem dX12_init_322 : decode cX12_init 322 = .ok (.putfield 128, 3) := by decide +kernel
theorem dX12_init_325 : decode cX12_init 325 = .ok (.aload_n 0, 1) := by decide +kernel
theorem dX12_init_326 : decode cX12_init 326 = .ok (.bipush 60, 2) := by decide +kernel
theorem dX12_init_328 : decode cX12_init 328 = .ok (.newarray .int, 2) := by decide +kernel
theorem dX12_init_330 : decode cX12_init 330 = .ok (.putfield 131, 3) := by decide +kernel
theorem dX12_init_333 : decode cX12_init 333 = .ok (.aload_n 0, 1) := by decide +kernel
theorem dX12_init_334 : decode cX12_init 334 = .ok (.bipush 60, 2) := by decide +kernel
theorem dX12_init_336 : decode cX12_init 336 = .ok (.newarray .int, 2) := by decide +kernel
theorem dX12_init_338 : decode cX12_init 338 = .ok (.putfield 134, 3) := by decide +kernel
theorem dX12_init_341 : decode cX12_init 341 = .ok (.aload_n 0, 1) := by decide +kernel
theorem dX12_init_342 : decode cX12_init 342 = .ok (.bipush 60, 2) := by decide +kernel
theorem dX12_init_344 : decode cX12_init 344 = .ok (.newarray .int, 2) := by decide +kernel
theorem dX12_init_346 : decode cX12_init 346 = .ok (.putfield 137, 3) := by decide +kernel
theorem dX12_init_349 : decode cX12_init 349 = .ok (.aload_n 0, 1) := by decide +kernel
theorem dX12_init_350 : decode cX12_init 350 = .ok (.sipush 16800, 3) := by decide +kernel
theorem dX12_init_353 : decode cX12_init 353 = .ok (.newarray .int, 2) := by decide +kernel
theorem dX12_init_355 : decode cX12_init 355 = .ok (.putfield 140, 3) := by decide +kernel
theorem dX12_init_358 : decode cX12_init 358 = .ok (.aload_n 0, 1) := by decide +kernel
theorem dX12_init_359 : decode cX12_init 359 = .ok (.iconst (-1), 1) := by decide +kernel
theorem dX12_init_360 : decode cX12_init 360 = .ok (.putfield 143, 3) := by decide +kernel
theorem dX12_init_363 : decode cX12_init 363 = .ok (.aload_n 0, 1) := by decide +kernel
theorem dX12_init_364 : decode cX12_init 364 = .ok (.iconst (-1), 1) := by decide +kernel
theorem dX12_init_365 : decode cX12_init 365 = .ok (.putfield 146, 3) := by decide +kernel
theorem dX12_init_368 : decode cX12_init 368 = .ok (.aload_n 0, 1) := by decide +kernel
theorem dX12_init_369 : decode cX12_init 369 = .ok (.sipush 1680, 3) := by decide +kernel
theorem dX12_init_372 : decode cX12_init 372 = .ok (.newarray .int, 2) := by decide +kernel
theorem dX12_init_374 : decode cX12_init 374 = .ok (.putfield 149, 3) := by decide +kernel
theorem dX12_init_377 : decode cX12_init 377 = .ok (.aload_n 0, 1) := by decide +kernel
theorem dX12_init_378 : decode cX12_init 378 = .ok (.sipush 3360, 3) := by decide +kernel
theorem dX12_init_381 : decode cX12_init 381 = .ok (.newarray .int, 2) := by decide +kernel
theorem dX12_init_383 : decode cX12_init 383 = .ok (.putfield 152, 3) := by decide +kernel
theorem dX12_init_386 : decode cX12_init 386 = .ok (.aload_n 0, 1) := by decide +kernel
theorem dX12_init_387 : decode cX12_init 387 = .ok (.bipush 14, 2) := by decide +kernel
theorem dX12_init_389 : decode cX12_init 389 = .ok (.newarray .int, 2) := by decide +kernel
theorem dX12_init_391 : decode cX12_init 391 = .ok (.putfield 155, 3) := by decide +kernel
theorem dX12_init_394 : decode cX12_init 394 = .ok (.aload_n 0, 1) := by decide +kernel
theorem dX12_init_395 : decode cX12_init 395 = .ok (.sipush 700, 3) := by decide +kernel
theorem dX12_init_398 : decode cX12_init 398 = .ok (.newarray .int, 2) := by decide +kernel
theorem dX12_init_400 : decode cX12_init 400 = .ok (.putfield 158, 3) := by decide +kernel
theorem dX12_init_403 : decode cX12_init 403 = .ok (.aload_n 0, 1) := by decide +kernel
theorem dX12_init_404 : decode cX12_init 404 = .ok (.bipush 7, 2) := by decide +kernel
theorem dX12_init_406 : decode cX12_init 406 = .ok (.newarray .int, 2) := by decide +kernel
theorem dX12_init_408 : decode cX12_init 408 = .ok (.putfield 161, 3) := by decide +kernel
theorem dX12_init_411 : decode cX12_init 411 = .ok (.aload_n 0, 1) := by decide +kernel
theorem dX12_init_412 : decode cX12_init 412 = .ok (.bipush 6, 2) := by decide +kernel
theorem dX12_init_414 : decode cX12_init 414 = .ok (.newarray .int, 2) := by decide +kernel
theorem dX12_init_416 : decode cX12_init 416 = .ok (.putfield 164, 3) := by decide +kernel
theorem dX12_init_419 : decode cX12_init 419 = .ok (.aload_n 0, 1) := by decide +kernel
theorem dX12_init_420 : decode cX12_init 420 = .ok (.bipush 6, 2) := by decide +kernel
theorem dX12_init_422 : decode cX12_init 422 = .ok (.newarray .int, 2) := by decide +kernel
theorem dX12_init_424 : decode cX12_init 424 = .ok (.putfield 167, 3) := by decide +kernel
theorem dX12_init_427 : decode cX12_init 427 = .ok (.aload_n 0, 1) := by decide +kernel
theorem dX12_init_428 : decode cX12_init 428 = .ok (.bipush 7, 2) := by decide +kernel
theorem dX12_init_430 : decode cX12_init 430 = .ok (.newarray .int, 2) := by decide +kernel
theorem dX12_init_432 : decode cX12_init 432 = .ok (.putfield 170, 3) := by decide +kernel
theorem dX12_init_435 : decode cX12_init 435 = .ok (.aload_n 0, 1) := by decide +kernel
theorem dX12_init_436 : decode cX12_init 436 = .ok (.bipush 7, 2) := by decide +kernel
theorem dX12_init_438 : decode cX12_init 438 = .ok (.newarray .int, 2) := by decide +kernel
theorem dX12_init_440 : decode cX12_init 440 = .ok (.putfield 173, 3) := by decide +kernel
theorem dX12_init_443 : decode cX12_init 443 = .ok (.aload_n 0, 1) := by decide +kernel
theorem dX12_init_444 : decode cX12_init 444 = .ok (.bipush 60, 2) := by decide +kernel
theorem dX12_init_446 : decode cX12_init 446 = .ok (.newarray .int, 2) := by decide +kernel
theorem dX12_init_448 : decode cX12_init 448 = .ok (.putfield 176, 3) := by decide +kernel
theorem dX12_init_451 : decode cX12_init 451 = .ok (.aload_n 0, 1) := by decide +kernel
theorem dX12_init_452 : decode cX12_init 452 = .ok (.bipush 60, 2) := by decide +kernel
theorem dX12_init_454 : decode cX12_init 454 = .ok (.newarray .int, 2) := by decide +kernel
theorem dX12_init_456 : decode cX12_init 456 = .ok (.putfield 179, 3) := by decide +kernel
theorem dX12_init_459 : decode cX12_init 459 = .ok (.aload_n 0, 1) := by decide +kernel
theorem dX12_init_460 : decode cX12_init 460 = .ok (.getfield 34, 3) := by decide +kernel
theorem dX12_init_463 : decode cX12_init 463 = .ok (.iconst 0, 1) := by decide +kernel
theorem dX12_init_464 : decode cX12_init 464 = .ok (.bipush 97, 2) := by decide +kernel
theorem dX12_init_466 : decode cX12_init 466 = .ok (.bipush 99, 2) := by decide +kernel
theorem dX12_init_468 : decode cX12_init 468 = .ok (.bipush 116, 2) := by decide +kernel
theorem dX12_init_470 : decode cX12_init 470 = .ok (.iconst 0, 1) := by decide +kernel
theorem dX12_init_471 : decode cX12_init 471 = .ok (.iconst 0, 1) := by decide +kernel
theorem dX12_init_472 : decode cX12_init 472 = .ok (.invokestatic 182, 3) := by decide +kernel
theorem dX12_init_475 : decode cX12_init 475 = .ok (.lastore, 1) := by decide +kernel
theorem dX12_init_476 : decode cX12_init 476 = .ok (.aload_n 0, 1) := by decide +kernel
theorem dX12_init_477 : decode cX12_init 477 = .ok (.getfield 34, 3) := by decide +kernel
theorem dX12_init_480 : decode cX12_init 480 = .ok (.iconst 1, 1) := by decide +kernel
theorem dX12_init_481 : decode cX12_init 481 = .ok (.bipush 102, 2) := by decide +kernel
theorem dX12_init_483 : decode cX12_init 483 = .ok (.bipush 114, 2) := by decide +kernel
theorem dX12_init_485 : decode cX12_init 485 = .ok (.bipush 111, 2) := by decide +kernel
theorem dX12_init_487 : decode cX12_init 487 = .ok (.bipush 109, 2) := by decide +kernel
theorem dX12_init_489 : decode cX12_init 489 = .ok (.iconst 0, 1) := by decide +kernel
theorem dX12_init_490 : decode cX12_init 490 = .ok (.invokestatic 182, 3) := by decide +kernel
theorem dX12_init_493 : decode cX12_init 493 = .ok (.lastore, 1) := by decide +kernel
theorem dX12_init_494 : decode cX12_init 494 = .ok (.aload_n 0, 1) := by decide +kernel
theorem dX12_init_495 : decode cX12_init 495 = .ok (.getfield 34, 3) := by decide +kernel
theorem dX12_init_498 : decode cX12_init 498 = .ok (.iconst 2, 1) := by decide +kernel
theorem dX12_init_499 : decode cX12_init 499 = .ok (.bipush 117, 2) := by decide +kernel
theorem dX12_init_501 : decode cX12_init 501 = .ok (.bipush 110, 2) := by decide +kernel
theorem dX12_init_503 : decode cX12_init 503 = .ok (.bipush 116, 2) := by decide +kernel
theorem dX12_init_505 : decode cX12_init 505 = .ok (.bipush 105, 2) := by decide +kernel
theorem dX12_init_507 : decode cX12_init 507 = .ok (.bipush 108, 2) := by decide +kernel
theorem dX12_init_509 : decode cX12_init 509 = .ok (.invokestatic 182, 3) := by decide +kernel
theorem dX12_init_512 : decode cX12_init 512 = .ok (.lastore, 1) := by decide +kernel
theorem dX12_init_513 : decode cX12_init 513 = .ok (.aload_n 0, 1) := by decide +kernel
theorem dX12_init_514 : decode cX12_init 514 = .ok (.getfield 34, 3) := by decide +kernel
theorem dX12_init_517 : decode cX12_init 517 = .ok (.iconst 3, 1) := by decide +kernel
theorem dX12_init_518 : decode cX12_init 518 = .ok (.bipush 101, 2) := by decide +kernel
theorem dX12_init_520 : decode cX12_init 520 = .ok (.bipush 110, 2) := by decide +kernel
theorem dX12_init_522 : decode cX12_init 522 = .ok (.bipush 100, 2) := by decide +kernel
theorem dX12_init_524 : decode cX12_init 524 = .ok (.iconst 0, 1) := by decide +kernel
theorem dX12_init_525 : decode cX12_init 525 = .ok (.iconst 0, 1) := by decide +kernel
theorem dX12_init_526 : decode cX12_init 526 = .ok (.invokestatic 182, 3) := by decide +kernel
theorem dX12_init_529 : decode cX12_init 529 = .ok (.lastore, 1) := by decide +kernel
theorem dX12_init_530 : decode cX12_init 530 = .ok (.aload_n 0, 1) := by decide +kernel
theorem dX12_init_531 : decode cX12_init 531 = .ok (.getfield 34, 3) := by decide +kernel
theorem dX12_init_534 : decode cX12_init 534 = .ok (.iconst 4, 1) := by decide +kernel
theorem dX12_init_535 : decode cX12_init 535 = .ok (.bipush 109, 2) := by decide +kernel
theorem dX12_init_537 : decode cX12_init 537 = .ok (.bipush 105, 2) := by decide +kernel
theorem dX12_init_539 : decode cX12_init 539 = .ok (.bipush 108, 2) := by decide +kernel
theorem dX12_init_541 : decode cX12_init 541 = .ok (.bipush 108, 2) := by decide +kernel
theorem dX12_init_543 : decode cX12_init 543 = .ok (.iconst 0, 1) := by decide +kernel
theorem dX12_init_544 : decode cX12_init 544 = .ok (.invokestatic 182, 3) := by decide +kernel
theorem dX12_init_547 : decode cX12_init 547 = .ok (.lastore, 1) := by decide +kernel
theorem dX12_init_548 : decode cX12_init 548 = .ok (.aload_n 0, 1) := by decide +kernel
theorem dX12_init_549 : decode cX12_init 549 = .ok (.getfield 34, 3) := by decide +kernel
theorem dX12_init_552 : decode cX12_init 552 = .ok (.iconst 5, 1) := by decide +kernel
theorem dX12_init_553 : decode cX12_init 553 = .ok (.bipush 97, 2) := by decide +kernel
theorem dX12_init_555 : decode cX12_init 555 = .ok (.bipush 110, 2) := by decide +kernel
theorem dX12_init_557 : decode cX12_init 557 = .ok (.bipush 121, 2) := by decide +kernel
theorem dX12_init_559 : decode cX12_init 559 = .ok (.iconst 0, 1) := by decide +kernel
theorem dX12_init_560 : decode cX12_init 560 = .ok (.iconst 0, 1) := by decide +kernel
theorem dX12_init_561 : decode cX12_init 561 = .ok (.invokestatic 182, 3) := by decide +kernel
theorem dX12_init_564 : decode cX12_init 564 = .ok (.lastore, 1) := by decide +kernel
theorem dX12_init_565 : decode cX12_init 565 = .ok (.aload_n 0, 1) := by decide +kernel
theorem dX12_init_566 : decode cX12_init 566 = .ok (.getfield 34, 3) := by decide +kernel
theorem dX12_init_569 : decode cX12_init 569 = .ok (.bipush 6, 2) := by decide +kernel
theorem dX12_init_571 : decode cX12_init 571 = .ok (.bipush 109, 2) := by decide +kernel
theorem dX12_init_573 : decode cX12_init 573 = .ok (.bipush 117, 2) := by decide +kernel
theorem dX12_init_575 : decode cX12_init 575 = .ok (.bipush 115, 2) := by decide +kernel
theorem dX12_init_577 : decode cX12_init 577 = .ok (.bipush 116, 2) := by decide +kernel
theorem dX12_init_579 : decode cX12_init 579 = .ok (.iconst 0, 1) := by decide +kernel
theorem dX12_init_580 : decode cX12_init 580 = .ok (.invokestatic 182, 3) := by decide +kernel
theorem dX12_init_583 : decode cX12_init 583 = .ok (.lastore, 1) := by decide +kernel
theorem dX12_init_584 : decode cX12_init 584 = .ok (.aload_n 0, 1) := by decide +kernel
theorem dX12_init_585 : decode cX12_init 585 = .ok (.getfield 34, 3) := by decide +kernel
theorem dX12_init_588 : decode cX12_init 588 = .ok (.bipush 7, 2) := by decide +kernel
theorem dX12_init_590 : decode cX12_init 590 = .ok (.bipush 111, 2) := by decide +kernel
theorem dX12_init_592 : decode cX12_init 592 = .ok (.bipush 112, 2) := by decide +kernel
theorem dX12_init_594 : decode cX12_init 594 = .ok (.bipush 101, 2) := by decide +kernel
theorem dX12_init_596 : decode cX12_init 596 = .ok (.bipush 110, 2) := by decide +kernel
theorem dX12_init_598 : decode cX12_init 598 = .ok (.bipush 115, 2) := by decide +kernel
theorem dX12_init_600 : decode cX12_init 600 = .ok (.invokestatic 182, 3) := by decide +kernel
theorem dX12_init_603 : decode cX12_init 603 = .ok (.lastore, 1) := by decide +kernel
theorem dX12_init_604 : decode cX12_init 604 = .ok (.aload_n 0, 1) := by decide +kernel
theorem dX12_init_605 : decode cX12_init 605 = .ok (.getfield 34, 3) := by decide +kernel
theorem dX12_init_608 : decode cX12_init 608 = .ok (.bipush 8, 2) := by decide +kernel
theorem dX12_init_610 : decode cX12_init 610 = .ok (.bipush 105, 2) := by decide +kernel
theorem dX12_init_612 : decode cX12_init 612 = .ok (.bipush 102, 2) := by decide +kernel
theorem dX12_init_614 : decode cX12_init 614 = .ok (.iconst 0, 1) := by decide +kernel
theorem dX12_init_615 : decode cX12_init 615 = .ok (.iconst 0, 1) := by decide +kernel
theorem dX12_init_616 : decode cX12_init 616 = .ok (.iconst 0, 1) := by decide +kernel
theorem dX12_init_617 : decode cX12_init 617 = .ok (.invokestatic 182, 3) := by decide +kernel
theorem dX12_init_620 : decode cX12_init 620 = .ok (.lastore, 1) := by decide +kernel
theorem dX12_init_621 : decode cX12_init 621 = .ok (.aload_n 0, 1) := by decide +kernel
theorem dX12_init_622 : decode cX12_init 622 = .ok (.getfield 34, 3) := by decide +kernel
theorem dX12_init_625 : decode cX12_init 625 = .ok (.bipush 9, 2) := by decide +kernel
theorem dX12_init_627 : decode cX12_init 627 = .ok (.bipush 111, 2) := by decide +kernel
theorem dX12_init_629 : decode cX12_init 629 = .ok (.bipush 114, 2) := by decide +kernel
theorem dX12_init_631 : decode cX12_init 631 = .ok (.iconst 0, 1) := by decide +kernel
theorem dX12_init_632 : decode cX12_init 632 = .ok (.iconst 0, 1) := by decide +kernel
theorem dX12_init_633 : decode cX12_init 633 = .ok (.iconst 0, 1) := by decide +kernel
theorem dX12_init_634 : decode cX12_init 634 = .ok (.invokestatic 182, 3) := by decide +kernel
theorem dX12_init_637 : decode cX12_init 637 = .ok (.lastore, 1) := by decide +kernel
theorem dX12_init_638 : decode cX12_init 638 = .ok (.aload_n 0, 1) := by decide +kernel
theorem dX12_init_639 : decode cX12_init 639 = .ok (.getfield 34, 3) := by decide +kernel
theorem dX12_init_642 : decode cX12_init 642 = .ok (.bipush 10, 2) := by decide +kernel
theorem dX12_init_644 : decode cX12_init 644 = .ok (.bipush 97, 2) := by decide +kernel
theorem dX12_init_646 : decode cX12_init 646 = .ok (.bipush 110, 2) := by decide +kernel
theorem dX12_init_648 : decode cX12_init 648 = .ok (.bipush 100, 2) := by decide +kernel
theorem dX12_init_650 : decode cX12_init 650 = .ok (.iconst 0, 1) := by decide +kernel
theorem dX12_init_651 : decode cX12_init 651 = .ok (.iconst 0, 1) := by decide +kernel
theorem dX12_init_652 : decode cX12_init 652 = .ok (.invokestatic 182, 3) := by decide +kernel
theorem dX12_init_655 : decode cX12_init 655 = .ok (.lastore, 1) := by decide +kernel
theorem dX12_init_656 : decode cX12_init 656 = .ok (.aload_n 0, 1) := by decide +kernel
theorem dX12_init_657 : decode cX12_init 657 = .ok (.getfield 34, 3) := by decide +kernel
theorem dX12_init_660 : decode cX12_init 660 = .ok (.bipush 11, 2) := by decide +kernel
theorem dX12_init_662 : decode cX12_init 662 = .ok (.bipush 108, 2) := by decide +kernel
theorem dX12_init_664 : decode cX12_init 664 = .ok (.bipush 101, 2) := by decide +kernel
theorem dX12_init_666 : decode cX12_init 666 = .ok (.bipush 118, 2) := by decide +kernel
theorem dX12_init_668 : decode cX12_init 668 = .ok (.bipush 101, 2) := by decide +kernel
theorem dX12_init_670 : decode cX12_init 670 = .ok (.bipush 108, 2) := by decide +kernel
theorem dX12_init_672 : decode cX12_init 672 = .ok (.invokestatic 182, 3) := by decide +kernel
theorem dX12_init_675 : decode cX12_init 675 = .ok (.lastore, 1) := by decide +kernel
theorem dX12_init_676 : decode cX12_init 676 = .ok (.aload_n 0, 1) := by decide +kernel
theorem dX12_init_677 : decode cX12_init 677 = .ok (.getfield 34, 3) := by decide +kernel
theorem dX12_init_680 : decode cX12_init 680 = .ok (.bipush 12, 2) := by decide +kernel
theorem dX12_init_682 : decode cX12_init 682 = .ok (.bipush 109, 2) := by decide +kernel
theorem dX12_init_684 : decode cX12_init 684 = .ok (.bipush 97, 2) := by decide +kernel
theorem dX12_init_686 : decode cX12_init 686 = .ok (.bipush 114, 2) := by decide +kernel
theorem dX12_init_688 : decode cX12_init 688 = .ok (.bipush 107, 2) := by decide +kernel
theorem dX12_init_690 : decode cX12_init 690 = .ok (.iconst 0, 1) := by decide +kernel
theorem dX12_init_691 : decode cX12_init 691 = .ok (.invokestatic 182, 3) := by decide +kernel
theorem dX12_init_694 : decode cX12_init 694 = .ok (.lastore, 1) := by decide +kernel
theorem dX12_init_695 : decode cX12_init 695 = .ok (.aload_n 0, 1) := by decide +kernel
theorem dX12_init_696 : decode cX12_init 696 = .ok (.getfield 34, 3) := by decide +kernel
theorem dX12_init_699 : decode cX12_init 699 = .ok (.bipush 13, 2) := by decide +kernel
theorem dX12_init_701 : decode cX12_init 701 = .ok (.bipush 99, 2) := by decide +kernel
theorem dX12_init_703 : decode cX12_init 703 = .ok (.bipush 97, 2) := by decide +kernel
theorem dX12_init_705 : decode cX12_init 705 = .ok (.bipush 112, 2) := by decide +kernel
theorem dX12_init_707 : decode cX12_init 707 = .ok (.iconst 0, 1) := by decide +kernel
theorem dX12_init_708 : decode cX12_init 708 = .ok (.iconst 0, 1) := by decide +kernel
theorem dX12_init_709 : decode cX12_init 709 = .ok (.invokestatic 182, 3) := by decide +kernel
theorem dX12_init_712 : decode cX12_init 712 = .ok (.lastore, 1) := by decide +kernel
theorem dX12_init_713 : decode cX12_init 713 = .ok (.aload_n 0, 1) := by decide +kernel
theorem dX12_init_714 : decode cX12_init 714 = .ok (.getfield 34, 3) := by decide +kernel
theorem dX12_init_717 : decode cX12_init 717 = .ok (.bipush 14, 2) := by decide +kernel
theorem dX12_init_719 : decode cX12_init 719 = .ok (.bipush 98, 2) := by decide +kernel
theorem dX12_init_721 : decode cX12_init 721 = .ok (.bipush 101, 2) := by decide +kernel
theorem dX12_init_723 : decode cX12_init 723 = .ok (.bipush 108, 2) := by decide +kernel
theorem dX12_init_725 : decode cX12_init 725 = .ok (.bipush 111, 2) := by decide +kernel
theorem dX12_init_727 : decode cX12_init 727 = .ok (.bipush 119, 2) := by decide +kernel
theorem dX12_init_729 : decode cX12_init 729 = .ok (.invokestatic 182, 3) := by decide +kernel
theorem dX12_init_732 : decode cX12_init 732 = .ok (.lastore, 1) := by decide +kernel
theorem dX12_init_733 : decode cX12_init 733 = .ok (.aload_n 0, 1) := by decide +kernel
theorem dX12_init_734 : decode cX12_init 734 = .ok (.getfield 34, 3) := by decide +kernel
theorem dX12_init_737 : decode cX12_init 737 = .ok (.bipush 15, 2) := by decide +kernel
theorem dX12_init_739 : decode cX12_init 739 = .ok (.bipush 97, 2) := by decide +kernel
theorem dX12_init_741 : decode cX12_init 741 = .ok (.bipush 98, 2) := by decide +kernel
theorem dX12_init_743 : decode cX12_init 743 = .ok (.bipush 111, 2) := by decide +kernel
theorem dX12_init_745 : decode cX12_init 745 = .ok (.bipush 118, 2) := by decide +kernel
theorem dX12_init_747 : decode cX12_init 747 = .ok (.bipush 101, 2) := by decide +kernel
theorem dX12_init_749 : decode cX12_init 749 = .ok (.invokestatic 182, 3) := by decide +kernel
theorem dX12_init_752 : decode cX12_init 752 = .ok (.lastore, 1) := by decide +kernel
theorem dX12_init_753 : decode cX12_init 753 = .ok (.aload_n 0, 1) := by decide +kernel
theorem dX12_init_754 : decode cX12_init 754 = .ok (.getfield 34, 3) := by decide +kernel
theorem dX12_init_757 : decode cX12_init 757 = .ok (.bipush 16, 2) := by decide +kernel
theorem dX12_init_759 : decode cX12_init 759 = .ok (.bipush 105, 2) := by decide +kernel
theorem dX12_init_761 : decode cX12_init 761 = .ok (.bipush 110, 2) := by decide +kernel
theorem dX12_init_763 : decode cX12_init 763 = .ok (.iconst 0, 1) := by decide +kernel
theorem dX12_init_764 : decode cX12_init 764 = .ok (.iconst 0, 1) := by decide +kernel
theorem dX12_init_765 : decode cX12_init 765 = .ok (.iconst 0, 1) := by decide +kernel
theorem dX12_init_766 : decode cX12_init 766 = .ok (.invokestatic 182, 3) := by decide +kernel
theorem dX12_init_769 : decode cX12_init 769 = .ok (.lastore, 1) := by decide +kernel
theorem dX12_init_770 : decode cX12_init 770 = .ok (.aload_n 0, 1) := by decide +kernel
theorem dX12_init_771 : decode cX12_init 771 = .ok (.getfield 34, 3) := by decide +kernel
theorem dX12_init_774 : decode cX12_init 774 = .ok (.bipush 17, 2) := by decide +kernel
theorem dX12_init_776 : decode cX12_init 776 = .ok (.bipush 119, 2) := by decide +kernel
theorem dX12_init_778 : decode cX12_init 778 = .ok (.bipush 104, 2) := by decide +kernel
theorem dX12_init_780 : decode cX12_init 780 = .ok (.bipush 101, 2) := by decide +kernel
theorem dX12_init_782 : decode cX12_init 782 = .ok (.bipush 101, 2) := by decide +kernel
theorem dX12_init_784 : decode cX12_init 784 = .ok (.bipush 108, 2) := by decide +kernel
theorem dX12_init_786 : decode cX12_init 786 = .ok (.invokestatic 182, 3) := by decide +kernel
theorem dX12_init_789 : decode cX12_init 789 = .ok (.lastore, 1) := by decide +kernel
theorem dX12_init_790 : decode cX12_init 790 = .ok (.aload_n 0, 1) := by decide +kernel
theorem dX12_init_791 : decode cX12_init 791 = .ok (.getfield 34, 3) := by decide +kernel
theorem dX12_init_794 : decode cX12_init 794 = .ok (.bipush 18, 2) := by decide +kernel
theorem dX12_init_796 : decode cX12_init 796 = .ok (.bipush 103, 2) := by decide +kernel
theorem dX12_init_798 : decode cX12_init 798 = .ok (.bipush 97, 2) := by decide +kernel
theorem dX12_init_800 : decode cX12_init 800 = .ok (.bipush 116, 2) := by decide +kernel
theorem dX12_init_802 : decode cX12_init 802 = .ok (.bipush 101, 2) := by decide +kernel
theorem dX12_init_804 : decode cX12_init 804 = .ok (.iconst 0, 1) := by decide +kernel
theorem dX12_init_805 : decode cX12_init 805 = .ok (.invokestatic 182, 3) := by decide +kernel
theorem dX12_init_808 : decode cX12_init 808 = .ok (.lastore, 1) := by decide +kernel
theorem dX12_init_809 : decode cX12_init 809 = .ok (.aload_n 0, 1) := by decide +kernel
theorem dX12_init_810 : decode cX12_init 810 = .ok (.getfield 34, 3) := by decide +kernel
theorem dX12_init_813 : decode cX12_init 813 = .ok (.bipush 19, 2) := by decide +kernel
theorem dX12_init_815 : decode cX12_init 815 = .ok (.bipush 104, 2) := by decide +kernel
theorem dX12_init_817 : decode cX12_init 817 = .ok (.bipush 111, 2) := by decide +kernel
theorem dX12_init_819 : decode cX12_init 819 = .ok (.bipush 117, 2) := by decide +kernel
theorem dX12_init_821 : decode cX12_init 821 = .ok (.bipush 114, 2) := by decide +kernel
theorem dX12_init_823 : decode cX12_init 823 = .ok (.iconst 0, 1) := by decide +kernel
theorem dX12_init_824 : decode cX12_init 824 = .ok (.invokestatic 182, 3) := by decide +kernel
theorem dX12_init_827 : decode cX12_init 827 = .ok (.lastore, 1) := by decide +kernel
theorem dX12_init_828 : decode cX12_init 828 = .ok (.aload_n 0, 1) := by decide +kernel
theorem dX12_init_829 : decode cX12_init 829 = .ok (.getfield 34, 3) := by decide +kernel
theorem dX12_init_832 : decode cX12_init 832 = .ok (.bipush 20, 2) := by decide +kernel
theorem dX12_init_834 : decode cX12_init 834 = .ok (.bipush 100, 2) := by decide +kernel
theorem dX12_init_836 : decode cX12_init 836 = .ok (.bipush 97, 2) := by decide +kernel
theorem dX12_init_838 : decode cX12_init 838 = .ok (.bipush 121, 2) := by decide +kernel
theorem dX12_init_840 : decode cX12_init 840 = .ok (.iconst 0, 1) := by decide +kernel
theorem dX12_init_841 : decode cX12_init 841 = .ok (.iconst 0, 1) := by decide +kernel
theorem dX12_init_842 : decode cX12_init 842 = .ok (.invokestatic 182, 3) := by decide +kernel
theorem dX12_init_845 : decode cX12_init 845 = .ok (.lastore, 1) := by decide +kernel
theorem dX12_init_846 : decode cX12_init 846 = .ok (.aload_n 0, 1) := by decide +kernel
theorem dX12_init_847 : decode cX12_init 847 = .ok (.getfield 34, 3) := by decide +kernel
theorem dX12_init_850 : decode cX12_init 850 = .ok (.bipush 21, 2) := by decide +kernel
theorem dX12_init_852 : decode cX12_init 852 = .ok (.bipush 119, 2) := by decide +kernel
theorem dX12_init_854 : decode cX12_init 854 = .ok (.bipush 111, 2) := by decide +kernel
theorem dX12_init_856 : decode cX12_init 856 = .ok (.bipush 114, 2) := by decide +kernel
theorem dX12_init_858 : decode cX12_init 858 = .ok (.bipush 107, 2) := by decide +kernel
theorem dX12_init_860 : decode cX12_init 860 = .ok (.iconst 0, 1) := by decide +kernel
theorem dX12_init_861 : decode cX12_init 861 = .ok (.invokestatic 182, 3) := by decide +kernel
theorem dX12_init_864 : decode cX12_init 864 = .ok (.lastore, 1) := by decide +kernel
theorem dX12_init_865 : decode cX12_init 865 = .ok (.aload_n 0, 1) := by decide +kernel
theorem dX12_init_866 : decode cX12_init 866 = .ok (.getfield 34, 3) := by decide +kernel
theorem dX12_init_869 : decode cX12_init 869 = .ok (.bipush 22, 2) := by decide +kernel
theorem dX12_init_871 : decode cX12_init 871 = .ok (.bipush 111, 2) := by decide +kernel
theorem dX12_init_873 : decode cX12_init 873 = .ok (.bipush 117, 2) := by decide +kernel
theorem dX12_init_875 : decode cX12_init 875 = .ok (.bipush 116, 2) := by decide +kernel
theorem dX12_init_877 : decode cX12_init 877 = .ok (.iconst 0, 1) := by decide +kernel
theorem dX12_init_878 : decode cX12_init 878 = .ok (.iconst 0, 1) := by decide +kernel
theorem dX12_init_879 : decode cX12_init 879 = .ok (.invokestatic 182, 3) := by decide +kernel
theorem dX12_init_882 : decode cX12_init 882 = .ok (.lastore, 1) := by decide +kernel
theorem dX12_init_883 : decode cX12_init 883 = .ok (.aload_n 0, 1) := by decide +kernel
theorem dX12_init_884 : decode cX12_init 884 = .ok (.iconst 1, 1) := by decide +kernel
theorem dX12_init_885 : decode cX12_init 885 = .ok (.putfield 186, 3) := by decide +kernel
theorem dX12_init_888 : decode cX12_init 888 = .ok (.aload_n 0, 1) := by decide +kernel
theorem dX12_init_889 : decode cX12_init 889 = .ok (.getfield 107, 3) := by decide +kernel
theorem dX12_init_892 : decode cX12_init 892 = .ok (.iconst 0, 1) := by decide +kernel
theorem dX12_init_893 : decode cX12_init 893 = .ok (.iconst 1, 1) := by decide +kernel
theorem dX12_init_894 : decode cX12_init 894 = .ok (.iastore, 1) := by decide +kernel
theorem dX12_init_895 : decode cX12_init 895 = .ok (.return_, 1) := by decide +kernel
theorem dX12_feed_0 : decode cX12_feed 0 = .ok (.aload_n 0, 1) := by decide +kernel
theorem dX12_feed_1 : decode cX12_feed 1 = .ok (.getfield 189, 3) := by decide +kernel
theorem dX12_feed_4 : decode cX12_feed 4 = .ok (.bipush 20, 2) := by decide +kernel
theorem dX12_feed_6 : decode cX12_feed 6 = .ok (.iadd, 1) := by decide +kernel
theorem dX12_feed_7 : decode cX12_feed 7 = .ok (.sipush 2000, 3) := by decide +kernel
theorem dX12_feed_10 : decode cX12_feed 10 = .ok (.if_icmp .le 5, 3) := by decide +kernel
theorem dX12_feed_13 : decode cX12_feed 13 = .ok (.iconst (-1), 1) := by decide +kernel
theorem dX12_feed_14 : decode cX12_feed 14 = .ok (.ireturn, 1) := by decide +kernel
theorem dX12_feed_15 : decode cX12_feed 15 = .ok (.aload_n 0, 1) := by decide +kernel
theorem dX12_feed_16 : decode cX12_feed 16 = .ok (.iload_n 1, 1) := by decide +kernel
theorem dX12_feed_17 : decode cX12_feed 17 = .ok (.invokevirtual 192, 3) := by decide +kernel
theorem dX12_feed_20 : decode cX12_feed 20 = .ok (.aload_n 0, 1) := by decide +kernel
theorem dX12_feed_21 : decode cX12_feed 21 = .ok (.iload_n 2, 1) := by decide +kernel
theorem dX12_feed_22 : decode cX12_feed 22 = .ok (.invokevirtual 192, 3) := by decide +kernel
theorem dX12_feed_25 : decode cX12_feed 25 = .ok (.aload_n 0, 1) := by decide +kernel
theorem dX12_feed_26 : decode cX12_feed 26 = .ok (.iload_n 3, 1) := by decide +kernel
theorem dX12_feed_27 : decode cX12_feed 27 = .ok (.invokevirtual 192, 3) := by decide +kernel
theorem dX12_feed_30 : decode cX12_feed 30 = .ok (.aload_n 0, 1) := by decide +kernel
theorem dX12_feed_31 : decode cX12_feed 31 = .ok (.iload 4, 2) := by decide +kernel
theorem dX12_feed_33 : decode cX12_feed 33 = .ok (.invokevirtual 192, 3) := by decide +kernel
theorem dX12_feed_36 : decode cX12_feed 36 = .ok (.aload_n 0, 1) := by decide +kernel
theorem dX12_feed_37 : decode cX12_feed 37 = .ok (.iload 5, 2) := by decide +kernel
theorem dX12_feed_39 : decode cX12_feed 39 = .ok (.invokevirtual 192, 3) := by decide +kernel
theorem dX12_feed_42 : decode cX12_feed 42 = .ok (.aload_n 0, 1) := by decide +kernel
theorem dX12_feed_43 : decode cX12_feed 43 = .ok (.getfield 189, 3) := by decide +kernel
theorem dX12_feed_46 : decode cX12_feed 46 = .ok (.ireturn, 1) := by decide +kernel
theorem dX12_put_0 : decode cX12_put 0 = .ok (.bipush 24, 2) := by decide +kernel
theorem dX12_put_2 : decode cX12_put 2 = .ok (.istore_n 2, 1) := by decide +kernel
theorem dX12_put_3 : decode cX12_put 3 = .ok (.iload_n 2, 1) := by decide +kernel
theorem dX12_put_4 : decode cX12_put 4 = .ok (.ifCond .lt 32, 3) := by decide +kernel
theorem dX12_put_7 : decode cX12_put 7 = .ok (.aload_n 0, 1) := by decide +kernel
theorem dX12_put_8 : decode cX12_put 8 = .ok (.getfield 13, 3) := by decide +kernel
theorem dX12_put_11 : decode cX12_put 11 = .ok (.aload_n 0, 1) := by decide +kernel
theorem dX12_put_12 : decode cX12_put 12 = .ok (.getfield 189, 3) := by decide +kernel
theorem dX12_put_15 : decode cX12_put 15 = .ok (.iload_n 1, 1) := by decide +kernel
theorem dX12_put_16 : decode cX12_put 16 = .ok (.iload_n 2, 1) := by decide +kernel
theorem dX12_put_17 : decode cX12_put 17 = .ok (.ishr, 1) := by decide +kernel
theorem dX12_put_18 : decode cX12_put 18 = .ok (.i2b, 1) := by decide +kernel
