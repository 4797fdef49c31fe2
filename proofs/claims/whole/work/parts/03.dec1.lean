theorem dX2_joined_120 : decode cX2_joined 120 = .ok (.iconst 1, 1) := by decide +kernel
theorem dX2_joined_121 : decode cX2_joined 121 = .ok (.goto 4, 3) := by decide +kernel
theorem dX2_joined_124 : decode cX2_joined 124 = .ok (.iconst 0, 1) := by decide +kernel
theorem dX2_joined_125 : decode cX2_joined 125 = .ok (.ireturn, 1) := by decide +kernel
theorem dX2_joined_126 : decode cX2_joined 126 = .ok (.iload_n 1, 1) := by decide +kernel
theorem dX2_joined_127 : decode cX2_joined 127 = .ok (.iload_n 2, 1) := by decide +kernel
theorem dX2_joined_128 : decode cX2_joined 128 = .ok (.if_icmp .ge 7, 3) := by decide +kernel
theorem dX2_joined_131 : decode cX2_joined 131 = .ok (.iconst 1, 1) := by decide +kernel
theorem dX2_joined_132 : decode cX2_joined 132 = .ok (.goto 4, 3) := by decide +kernel
theorem dX2_joined_135 : decode cX2_joined 135 = .ok (.iconst 0, 1) := by decide +kernel
theorem dX2_joined_136 : decode cX2_joined 136 = .ok (.ireturn, 1) := by decide +kernel
theorem dX2_joined_137 : decode cX2_joined 137 = .ok (.iload_n 1, 1) := by decide +kernel
theorem dX2_joined_138 : decode cX2_joined 138 = .ok (.iload_n 2, 1) := by decide +kernel
theorem dX2_joined_139 : decode cX2_joined 139 = .ok (.if_icmp .gt 7, 3) := by decide +kernel
theorem dX2_joined_142 : decode cX2_joined 142 = .ok (.iconst 1, 1) := by decide +kernel
theorem dX2_joined_143 : decode cX2_joined 143 = .ok (.goto 4, 3) := by decide +kernel
theorem dX2_joined_146 : decode cX2_joined 146 = .ok (.iconst 0, 1) := by decide +kernel
theorem dX2_joined_147 : decode cX2_joined 147 = .ok (.ireturn, 1) := by decide +kernel
theorem dX2_joined_148 : decode cX2_joined 148 = .ok (.iload_n 1, 1) := by decide +kernel
theorem dX2_joined_149 : decode cX2_joined 149 = .ok (.iload_n 2, 1) := by decide +kernel
theorem dX2_joined_150 : decode cX2_joined 150 = .ok (.iand, 1) := by decide +kernel
theorem dX2_joined_151 : decode cX2_joined 151 = .ok (.ireturn, 1) := by decide +kernel
theorem dX2_joined_152 : decode cX2_joined 152 = .ok (.iload_n 1, 1) := by decide +kernel
theorem dX2_joined_153 : decode cX2_joined 153 = .ok (.iload_n 2, 1) := by decide +kernel
theorem dX2_joined_154 : decode cX2_joined 154 = .ok (.ior, 1) := by decide +kernel
theorem dX2_joined_155 : decode cX2_joined 155 = .ok (.ireturn, 1) := by decide +kernel
theorem dX3_init_0 : decode cX3_init 0 = .ok (.aload_n 0, 1) := by decide +kernel
theorem dX3_init_1 : decode cX3_init 1 = .ok (.invokespecial 3, 3) := by decide +kernel
theorem dX3_init_4 : decode cX3_init 4 = .ok (.aload_n 0, 1) := by decide +kernel
theorem dX3_init_5 : decode cX3_init 5 = .ok (.bipush 7, 2) := by decide +kernel
theorem dX3_init_7 : decode cX3_init 7 = .ok (.newarray .int, 2) := by decide +kernel
theorem dX3_init_9 : decode cX3_init 9 = .ok (.putfield 9, 3) := by decide +kernel
theorem dX3_init_12 : decode cX3_init 12 = .ok (.aload_n 0, 1) := by decide +kernel
theorem dX3_init_13 : decode cX3_init 13 = .ok (.bipush 7, 2) := by decide +kernel
theorem dX3_init_15 : decode cX3_init 15 = .ok (.newarray .int, 2) := by decide +kernel
theorem dX3_init_17 : decode cX3_init 17 = .ok (.putfield 15, 3) := by decide +kernel
theorem dX3_init_20 : decode cX3_init 20 = .ok (.aload_n 0, 1) := by decide +kernel
theorem dX3_init_21 : decode cX3_init 21 = .ok (.bipush 7, 2) := by decide +kernel
theorem dX3_init_23 : decode cX3_init 23 = .ok (.newarray .int, 2) := by decide +kernel
theorem dX3_init_25 : decode cX3_init 25 = .ok (.putfield 18, 3) := by decide +kernel
theorem dX3_init_28 : decode cX3_init 28 = .ok (.aload_n 0, 1) := by decide +kernel
theorem dX3_init_29 : decode cX3_init 29 = .ok (.bipush 7, 2) := by decide +kernel
theorem dX3_init_31 : decode cX3_init 31 = .ok (.newarray .int, 2) := by decide +kernel
theorem dX3_init_33 : decode cX3_init 33 = .ok (.putfield 21, 3) := by decide +kernel
theorem dX3_init_36 : decode cX3_init 36 = .ok (.aload_n 0, 1) := by decide +kernel
theorem dX3_init_37 : decode cX3_init 37 = .ok (.iconst 0, 1) := by decide +kernel
theorem dX3_init_38 : decode cX3_init 38 = .ok (.putfield 24, 3) := by decide +kernel
theorem dX3_init_41 : decode cX3_init 41 = .ok (.aload_n 0, 1) := by decide +kernel
theorem dX3_init_42 : decode cX3_init 42 = .ok (.iconst 0, 1) := by decide +kernel
theorem dX3_init_43 : decode cX3_init 43 = .ok (.putfield 28, 3) := by decide +kernel
theorem dX3_init_46 : decode cX3_init 46 = .ok (.aload_n 0, 1) := by decide +kernel
theorem dX3_init_47 : decode cX3_init 47 = .ok (.iconst 1, 1) := by decide +kernel
theorem dX3_init_48 : decode cX3_init 48 = .ok (.putfield 31, 3) := by decide +kernel
theorem dX3_init_51 : decode cX3_init 51 = .ok (.aload_n 0, 1) := by decide +kernel
theorem dX3_init_52 : decode cX3_init 52 = .ok (.bipush 20, 2) := by decide +kernel
theorem dX3_init_54 : decode cX3_init 54 = .ok (.newarray .int, 2) := by decide +kernel
theorem dX3_init_56 : decode cX3_init 56 = .ok (.putfield 34, 3) := by decide +kernel
theorem dX3_init_59 : decode cX3_init 59 = .ok (.aload_n 0, 1) := by decide +kernel
theorem dX3_init_60 : decode cX3_init 60 = .ok (.getfield 34, 3) := by decide +kernel
theorem dX3_init_63 : decode cX3_init 63 = .ok (.iconst 1, 1) := by decide +kernel
theorem dX3_init_64 : decode cX3_init 64 = .ok (.invokestatic 37, 3) := by decide +kernel
theorem dX3_init_67 : decode cX3_init 67 = .ok (.return_, 1) := by decide +kernel
theorem dX3_add_0 : decode cX3_add 0 = .ok (.iload_n 1, 1) := by decide +kernel
theorem dX3_add_1 : decode cX3_add 1 = .ok (.iconst 1, 1) := by decide +kernel
theorem dX3_add_2 : decode cX3_add 2 = .ok (.if_icmp .lt 23, 3) := by decide +kernel
theorem dX3_add_5 : decode cX3_add 5 = .ok (.iload_n 1, 1) := by decide +kernel
theorem dX3_add_6 : decode cX3_add 6 = .ok (.sipush 1000, 3) := by decide +kernel
theorem dX3_add_9 : decode cX3_add 9 = .ok (.if_icmp .gt 16, 3) := by decide +kernel
theorem dX3_add_12 : decode cX3_add 12 = .ok (.iload_n 2, 1) := by decide +kernel
theorem dX3_add_13 : decode cX3_add 13 = .ok (.ifCond .lt 12, 3) := by decide +kernel
theorem dX3_add_16 : decode cX3_add 16 = .ok (.iload_n 2, 1) := by decide +kernel
theorem dX3_add_17 : decode cX3_add 17 = .ok (.iload_n 1, 1) := by decide +kernel
theorem dX3_add_18 : decode cX3_add 18 = .ok (.if_icmp .gt 7, 3) := by decide +kernel
theorem dX3_add_21 : decode cX3_add 21 = .ok (.iconst 1, 1) := by decide +kernel
theorem dX3_add_22 : decode cX3_add 22 = .ok (.goto 4, 3) := by decide +kernel
theorem dX3_add_25 : decode cX3_add 25 = .ok (.iconst 0, 1) := by decide +kernel
theorem dX3_add_26 : decode cX3_add 26 = .ok (.istore 5, 2) := by decide +kernel
theorem dX3_add_28 : decode cX3_add 28 = .ok (.iload_n 3, 1) := by decide +kernel
theorem dX3_add_29 : decode cX3_add 29 = .ok (.iconst 1, 1) := by decide +kernel
theorem dX3_add_30 : decode cX3_add 30 = .ok (.if_icmp .lt 24, 3) := by decide +kernel
theorem dX3_add_33 : decode cX3_add 33 = .ok (.iload_n 3, 1) := by decide +kernel
theorem dX3_add_34 : decode cX3_add 34 = .ok (.iconst 4, 1) := by decide +kernel
theorem dX3_add_35 : decode cX3_add 35 = .ok (.if_icmp .gt 19, 3) := by decide +kernel
theorem dX3_add_38 : decode cX3_add 38 = .ok (.iload 4, 2) := by decide +kernel
theorem dX3_add_40 : decode cX3_add 40 = .ok (.ifCond .lt 14, 3) := by decide +kernel
theorem dX3_add_43 : decode cX3_add 43 = .ok (.iload 4, 2) := by decide +kernel
theorem dX3_add_45 : decode cX3_add 45 = .ok (.bipush 9, 2) := by decide +kernel
theorem dX3_add_47 : decode cX3_add 47 = .ok (.if_icmp .gt 7, 3) := by decide +kernel
theorem dX3_add_50 : decode cX3_add 50 = .ok (.iconst 1, 1) := by decide +kernel
theorem dX3_add_51 : decode cX3_add 51 = .ok (.goto 4, 3) := by decide +kernel
theorem dX3_add_54 : decode cX3_add 54 = .ok (.iconst 0, 1) := by decide +kernel
theorem dX3_add_55 : decode cX3_add 55 = .ok (.istore 6, 2) := by decide +kernel
theorem dX3_add_57 : decode cX3_add 57 = .ok (.iload 5, 2) := by decide +kernel
theorem dX3_add_59 : decode cX3_add 59 = .ok (.ifCond .eq 17, 3) := by decide +kernel
theorem dX3_add_62 : decode cX3_add 62 = .ok (.iload 6, 2) := by decide +kernel
theorem dX3_add_64 : decode cX3_add 64 = .ok (.ifCond .eq 12, 3) := by decide +kernel
theorem dX3_add_67 : decode cX3_add 67 = .ok (.aload_n 0, 1) := by decide +kernel
theorem dX3_add_68 : decode cX3_add 68 = .ok (.getfield 24, 3) := by decide +kernel
theorem dX3_add_71 : decode cX3_add 71 = .ok (.bipush 7, 2) := by decide +kernel
theorem dX3_add_73 : decode cX3_add 73 = .ok (.if_icmp .lt 5, 3) := by decide +kernel
theorem dX3_add_76 : decode cX3_add 76 = .ok (.iconst (-1), 1) := by decide +kernel
theorem dX3_add_77 : decode cX3_add 77 = .ok (.ireturn, 1) := by decide +kernel
theorem dX3_add_78 : decode cX3_add 78 = .ok (.aload_n 0, 1) := by decide +kernel
theorem dX3_add_79 : decode cX3_add 79 = .ok (.getfield 9, 3) := by decide +kernel
theorem dX3_add_82 : decode cX3_add 82 = .ok (.aload_n 0, 1) := by decide +kernel
theorem dX3_add_83 : decode cX3_add 83 = .ok (.getfield 24, 3) := by decide +kernel
theorem dX3_add_86 : decode cX3_add 86 = .ok (.iload_n 1, 1) := by decide +kernel
theorem dX3_add_87 : decode cX3_add 87 = .ok (.iastore, 1) := by decide +kernel
theorem dX3_add_88 : decode cX3_add 88 = .ok (.aload_n 0, 1) := by decide +kernel
theorem dX3_add_89 : decode cX3_add 89 = .ok (.getfield 15, 3) := by decide +kernel
theorem dX3_add_92 : decode cX3_add 92 = .ok (.aload_n 0, 1) := by decide +kernel
theorem dX3_add_93 : decode cX3_add 93 = .ok (.getfield 24, 3) := by decide +kernel
theorem dX3_add_96 : decode cX3_add 96 = .ok (.iload_n 2, 1) := by decide +kernel
theorem dX3_add_97 : decode cX3_add 97 = .ok (.iastore, 1) := by decide +kernel
theorem dX3_add_98 : decode cX3_add 98 = .ok (.aload_n 0, 1) := by decide +kernel
theorem dX3_add_99 : decode cX3_add 99 = .ok (.getfield 18, 3) := by decide +kernel
theorem dX3_add_102 : decode cX3_add 102 = .ok (.aload_n 0, 1) := by decide +kernel
theorem dX3_add_103 : decode cX3_add 103 = .ok (.getfield 24, 3) := by decide +kernel
theorem dX3_add_106 : decode cX3_add 106 = .ok (.iload_n 3, 1) := by decide +kernel
theorem dX3_add_107 : decode cX3_add 107 = .ok (.iastore, 1) := by decide +kernel
theorem dX3_add_108 : decode cX3_add 108 = .ok (.aload_n 0, 1) := by decide +kernel
theorem dX3_add_109 : decode cX3_add 109 = .ok (.getfield 21, 3) := by decide +kernel
theorem dX3_add_112 : decode cX3_add 112 = .ok (.aload_n 0, 1) := by decide +kernel
theorem dX3_add_113 : decode cX3_add 113 = .ok (.getfield 24, 3) := by decide +kernel
theorem dX3_add_116 : decode cX3_add 116 = .ok (.iload 4, 2) := by decide +kernel
theorem dX3_add_118 : decode cX3_add 118 = .ok (.iastore, 1) := by decide +kernel
theorem dX3_add_119 : decode cX3_add 119 = .ok (.aload_n 0, 1) := by decide +kernel
theorem dX3_add_120 : decode cX3_add 120 = .ok (.dup, 1) := by decide +kernel
theorem dX3_add_121 : decode cX3_add 121 = .ok (.getfield 24, 3) := by decide +kernel
theorem dX3_add_124 : decode cX3_add 124 = .ok (.iconst 1, 1) := by decide +kernel
theorem dX3_add_125 : decode cX3_add 125 = .ok (.iadd, 1) := by decide +kernel
theorem dX3_add_126 : decode cX3_add 126 = .ok (.putfield 24, 3) := by decide +kernel
theorem dX3_add_129 : decode cX3_add 129 = .ok (.aload_n 0, 1) := by decide +kernel
theorem dX3_add_130 : decode cX3_add 130 = .ok (.getfield 24, 3) := by decide +kernel
theorem dX3_add_133 : decode cX3_add 133 = .ok (.iconst 1, 1) := by decide +kernel
theorem dX3_add_134 : decode cX3_add 134 = .ok (.isub, 1) := by decide +kernel
theorem dX3_add_135 : decode cX3_add 135 = .ok (.ireturn, 1) := by decide +kernel
theorem dX3_mostSetting_0 : decode cX3_mostSetting 0 = .ok (.iload_n 2, 1) := by decide +kernel
theorem dX3_mostSetting_1 : decode cX3_mostSetting 1 = .ok (.ifCond .eq 12, 3) := by decide +kernel
theorem dX3_mostSetting_4 : decode cX3_mostSetting 4 = .ok (.aload_n 0, 1) := by decide +kernel
theorem dX3_mostSetting_5 : decode cX3_mostSetting 5 = .ok (.getfield 21, 3) := by decide +kernel
theorem dX3_mostSetting_8 : decode cX3_mostSetting 8 = .ok (.iload_n 1, 1) := by decide +kernel
theorem dX3_mostSetting_9 : decode cX3_mostSetting 9 = .ok (.iaload, 1) := by decide +kernel
theorem dX3_mostSetting_10 : decode cX3_mostSetting 10 = .ok (.goto 9, 3) := by decide +kernel
theorem dX3_mostSetting_13 : decode cX3_mostSetting 13 = .ok (.aload_n 0, 1) := by decide +kernel
theorem dX3_mostSetting_14 : decode cX3_mostSetting 14 = .ok (.getfield 18, 3) := by decide +kernel
theorem dX3_mostSetting_17 : decode cX3_mostSetting 17 = .ok (.iload_n 1, 1) := by decide +kernel
theorem dX3_mostSetting_18 : decode cX3_mostSetting 18 = .ok (.iaload, 1) := by decide +kernel
theorem dX3_mostSetting_19 : decode cX3_mostSetting 19 = .ok (.ireturn, 1) := by decide +kernel
theorem dX3_makeFactors_0 : decode cX3_makeFactors 0 = .ok (.iload_n 1, 1) := by decide +kernel
theorem dX3_makeFactors_1 : decode cX3_makeFactors 1 = .ok (.iconst (-1), 1) := by decide +kernel
theorem dX3_makeFactors_2 : decode cX3_makeFactors 2 = .ok (.if_icmp .eq 16, 3) := by decide +kernel
theorem dX3_makeFactors_5 : decode cX3_makeFactors 5 = .ok (.iload_n 1, 1) := by decide +kernel
theorem dX3_makeFactors_6 : decode cX3_makeFactors 6 = .ok (.iconst 1, 1) := by decide +kernel
theorem dX3_makeFactors_7 : decode cX3_makeFactors 7 = .ok (.if_icmp .lt 9, 3) := by decide +kernel
theorem dX3_makeFactors_10 : decode cX3_makeFactors 10 = .ok (.iload_n 1, 1) := by decide +kernel
theorem dX3_makeFactors_11 : decode cX3_makeFactors 11 = .ok (.bipush 20, 2) := by decide +kernel
theorem dX3_makeFactors_13 : decode cX3_makeFactors 13 = .ok (.if_icmp .le 5, 3) := by decide +kernel
theorem dX3_makeFactors_16 : decode cX3_makeFactors 16 = .ok (.iconst 0, 1) := by decide +kernel
theorem dX3_makeFactors_17 : decode cX3_makeFactors 17 = .ok (.ireturn, 1) := by decide +kernel
theorem dX3_makeFactors_18 : decode cX3_makeFactors 18 = .ok (.aload_n 0, 1) := by decide +kernel
theorem dX3_makeFactors_19 : decode cX3_makeFactors 19 = .ok (.iload_n 1, 1) := by decide +kernel
theorem dX3_makeFactors_20 : decode cX3_makeFactors 20 = .ok (.putfield 31, 3) := by decide +kernel
theorem dX3_makeFactors_23 : decode cX3_makeFactors 23 = .ok (.aload_n 0, 1) := by decide +kernel
theorem dX3_makeFactors_24 : decode cX3_makeFactors 24 = .ok (.getfield 34, 3) := by decide +kernel
theorem dX3_makeFactors_27 : decode cX3_makeFactors 27 = .ok (.iconst 1, 1) := by decide +kernel
theorem dX3_makeFactors_28 : decode cX3_makeFactors 28 = .ok (.invokestatic 37, 3) := by decide +kernel
theorem dX3_makeFactors_31 : decode cX3_makeFactors 31 = .ok (.iconst 1, 1) := by decide +kernel
theorem dX3_makeFactors_32 : decode cX3_makeFactors 32 = .ok (.ireturn, 1) := by decide +kernel
theorem dX3_setFactor_0 : decode cX3_setFactor 0 = .ok (.iload_n 1, 1) := by decide +kernel
theorem dX3_setFactor_1 : decode cX3_setFactor 1 = .ok (.ifCond .lt 23, 3) := by decide +kernel
theorem dX3_setFactor_4 : decode cX3_setFactor 4 = .ok (.iload_n 1, 1) := by decide +kernel
theorem dX3_setFactor_5 : decode cX3_setFactor 5 = .ok (.aload_n 0, 1) := by decide +kernel
theorem dX3_setFactor_6 : decode cX3_setFactor 6 = .ok (.getfield 31, 3) := by decide +kernel
theorem dX3_setFactor_9 : decode cX3_setFactor 9 = .ok (.if_icmp .ge 15, 3) := by decide +kernel
theorem dX3_setFactor_12 : decode cX3_setFactor 12 = .ok (.iload_n 2, 1) := by decide +kernel
theorem dX3_setFactor_13 : decode cX3_setFactor 13 = .ok (.bipush (-100), 2) := by decide +kernel
theorem dX3_setFactor_15 : decode cX3_setFactor 15 = .ok (.if_icmp .lt 9, 3) := by decide +kernel
theorem dX3_setFactor_18 : decode cX3_setFactor 18 = .ok (.iload_n 2, 1) := by decide +kernel
theorem dX3_setFactor_19 : decode cX3_setFactor 19 = .ok (.bipush 100, 2) := by decide +kernel
theorem dX3_setFactor_21 : decode cX3_setFactor 21 = .ok (.if_icmp .le 5, 3) := by decide +kernel
theorem dX3_setFactor_24 : decode cX3_setFactor 24 = .ok (.iconst 0, 1) := by decide +kernel
theorem dX3_setFactor_25 : decode cX3_setFactor 25 = .ok (.ireturn, 1) := by decide +kernel
theorem dX3_setFactor_26 : decode cX3_setFactor 26 = .ok (.aload_n 0, 1) := by decide +kernel
theorem dX3_setFactor_27 : decode cX3_setFactor 27 = .ok (.getfield 34, 3) := by decide +kernel
theorem dX3_setFactor_30 : decode cX3_setFactor 30 = .ok (.iload_n 1, 1) := by decide +kernel
theorem dX3_setFactor_31 : decode cX3_setFactor 31 = .ok (.iload_n 2, 1) := by decide +kernel
theorem dX3_setFactor_32 : decode cX3_setFactor 32 = .ok (.iastore, 1) := by decide +kernel
theorem dX3_setFactor_33 : decode cX3_setFactor 33 = .ok (.iconst 1, 1) := by decide +kernel
theorem dX3_setFactor_34 : decode cX3_setFactor 34 = .ok (.ireturn, 1) := by decide +kernel
theorem dX3_factorOf_0 : decode cX3_factorOf 0 = .ok (.iload_n 1, 1) := by decide +kernel
theorem dX3_factorOf_1 : decode cX3_factorOf 1 = .ok (.ifCond .gt 5, 3) := by decide +kernel
theorem dX3_factorOf_4 : decode cX3_factorOf 4 = .ok (.iconst 0, 1) := by decide +kernel
theorem dX3_factorOf_5 : decode cX3_factorOf 5 = .ok (.ireturn, 1) := by decide +kernel
theorem dX3_factorOf_6 : decode cX3_factorOf 6 = .ok (.aload_n 0, 1) := by decide +kernel
theorem dX3_factorOf_7 : decode cX3_factorOf 7 = .ok (.getfield 31, 3) := by decide +kernel
theorem dX3_factorOf_10 : decode cX3_factorOf 10 = .ok (.iconst (-1), 1) := by decide +kernel
theorem dX3_factorOf_11 : decode cX3_factorOf 11 = .ok (.if_icmp .ne 7, 3) := by decide +kernel
theorem dX3_factorOf_14 : decode cX3_factorOf 14 = .ok (.iconst 1, 1) := by decide +kernel
theorem dX3_factorOf_15 : decode cX3_factorOf 15 = .ok (.goto 21, 3) := by decide +kernel
theorem dX3_factorOf_18 : decode cX3_factorOf 18 = .ok (.aload_n 0, 1) := by decide +kernel
theorem dX3_factorOf_19 : decode cX3_factorOf 19 = .ok (.getfield 34, 3) := by decide +kernel
theorem dX3_factorOf_22 : decode cX3_factorOf 22 = .ok (.iload_n 1, 1) := by decide +kernel
theorem dX3_factorOf_23 : decode cX3_factorOf 23 = .ok (.bipush 10, 2) := by decide +kernel
theorem dX3_factorOf_25 : decode cX3_factorOf 25 = .ok (.idiv, 1) := by decide +kernel
theorem dX3_factorOf_26 : decode cX3_factorOf 26 = .ok (.aload_n 0, 1) := by decide +kernel
theorem dX3_factorOf_27 : decode cX3_factorOf 27 = .ok (.getfield 31, 3) := by decide +kernel
theorem dX3_factorOf_30 : decode cX3_factorOf 30 = .ok (.iconst 1, 1) := by decide +kernel
theorem dX3_factorOf_31 : decode cX3_factorOf 31 = .ok (.isub, 1) := by decide +kernel
theorem dX3_factorOf_32 : decode cX3_factorOf 32 = .ok (.invokestatic 43, 3) := by decide +kernel
theorem dX3_factorOf_35 : decode cX3_factorOf 35 = .ok (.iaload, 1) := by decide +kernel
theorem dX3_factorOf_36 : decode cX3_factorOf 36 = .ok (.ireturn, 1) := by decide +kernel
theorem dX3_mostWork_0 : decode cX3_mostWork 0 = .ok (.aload_n 0, 1) := by decide +kernel
theorem dX3_mostWork_1 : decode cX3_mostWork 1 = .ok (.getfield 31, 3) := by decide +kernel
theorem dX3_mostWork_4 : decode cX3_mostWork 4 = .ok (.iconst (-1), 1) := by decide +kernel
theorem dX3_mostWork_5 : decode cX3_mostWork 5 = .ok (.if_icmp .ne 7, 3) := by decide +kernel
theorem dX3_mostWork_8 : decode cX3_mostWork 8 = .ok (.iconst 1, 1) := by decide +kernel
theorem dX3_mostWork_9 : decode cX3_mostWork 9 = .ok (.goto 4, 3) := by decide +kernel
theorem dX3_mostWork_12 : decode cX3_mostWork 12 = .ok (.iconst 0, 1) := by decide +kernel
theorem dX3_mostWork_13 : decode cX3_mostWork 13 = .ok (.istore_n 2, 1) := by decide +kernel
theorem dX3_mostWork_14 : decode cX3_mostWork 14 = .ok (.iconst 0, 1) := by decide +kernel
theorem dX3_mostWork_15 : decode cX3_mostWork 15 = .ok (.istore_n 3, 1) := by decide +kernel
theorem dX3_mostWork_16 : decode cX3_mostWork 16 = .ok (.iload_n 3, 1) := by decide +kernel
theorem dX3_mostWork_17 : decode cX3_mostWork 17 = .ok (.aload_n 0, 1) := by decide +kernel
theorem dX3_mostWork_18 : decode cX3_mostWork 18 = .ok (.getfield 31, 3) := by decide +kernel
theorem dX3_mostWork_21 : decode cX3_mostWork 21 = .ok (.if_icmp .ge 20, 3) := by decide +kernel
theorem dX3_mostWork_24 : decode cX3_mostWork 24 = .ok (.iload_n 2, 1) := by decide +kernel
theorem dX3_mostWork_25 : decode cX3_mostWork 25 = .ok (.aload_n 0, 1) := by decide +kernel
theorem dX3_mostWork_26 : decode cX3_mostWork 26 = .ok (.getfield 34, 3) := by decide +kernel
theorem dX3_mostWork_29 : decode cX3_mostWork 29 = .ok (.iload_n 3, 1) := by decide +kernel
theorem dX3_mostWork_30 : decode cX3_mostWork 30 = .ok (.iaload, 1) := by decide +kernel
theorem dX3_mostWork_31 : decode cX3_mostWork 31 = .ok (.invokestatic 49, 3) := by decide +kernel
theorem dX3_mostWork_34 : decode cX3_mostWork 34 = .ok (.istore_n 2, 1) := by decide +kernel
theorem dX3_mostWork_35 : decode cX3_mostWork 35 = .ok (.iinc 3 1, 3) := by decide +kernel
theorem dX3_mostWork_38 : decode cX3_mostWork 38 = .ok (.goto (-22), 3) := by decide +kernel
theorem dX3_mostWork_41 : decode cX3_mostWork 41 = .ok (.iconst 2, 1) := by decide +kernel
theorem dX3_mostWork_42 : decode cX3_mostWork 42 = .ok (.aload_n 0, 1) := by decide +kernel
theorem dX3_mostWork_43 : decode cX3_mostWork 43 = .ok (.getfield 18, 3) := by decide +kernel
theorem dX3_mostWork_46 : decode cX3_mostWork 46 = .ok (.iload_n 1, 1) := by decide +kernel
theorem dX3_mostWork_47 : decode cX3_mostWork 47 = .ok (.iaload, 1) := by decide +kernel
theorem dX3_mostWork_48 : decode cX3_mostWork 48 = .ok (.imul, 1) := by decide +kernel
theorem dX3_mostWork_49 : decode cX3_mostWork 49 = .ok (.iload_n 2, 1) := by decide +kernel
theorem dX3_mostWork_50 : decode cX3_mostWork 50 = .ok (.imul, 1) := by decide +kernel
theorem dX3_mostWork_51 : decode cX3_mostWork 51 = .ok (.ireturn, 1) := by decide +kernel
theorem dX4_init_0 : decode cX4_init 0 = .ok (.aload_n 0, 1) := by decide +kernel
theorem dX4_init_1 : decode cX4_init 1 = .ok (.invokespecial 3, 3) := by decide +kernel
theorem dX4_init_4 : decode cX4_init 4 = .ok (.aload_n 0, 1) := by decide +kernel
theorem dX4_init_5 : decode cX4_init 5 = .ok (.sipush 200, 3) := by decide +kernel
theorem dX4_init_8 : decode cX4_init 8 = .ok (.newarray .int, 2) := by decide +kernel
theorem dX4_init_10 : decode cX4_init 10 = .ok (.putfield 11, 3) := by decide +kernel
theorem dX4_init_13 : decode cX4_init 13 = .ok (.aload_n 0, 1) := by decide +kernel
theorem dX4_init_14 : decode cX4_init 14 = .ok (.sipush 200, 3) := by decide +kernel
theorem dX4_init_17 : decode cX4_init 17 = .ok (.newarray .int, 2) := by decide +kernel
theorem dX4_init_19 : decode cX4_init 19 = .ok (.putfield 15, 3) := by decide +kernel
theorem dX4_init_22 : decode cX4_init 22 = .ok (.aload_n 0, 1) := by decide +kernel
theorem dX4_init_23 : decode cX4_init 23 = .ok (.sipush 200, 3) := by decide +kernel
theorem dX4_init_26 : decode cX4_init 26 = .ok (.newarray .boolean, 2) := by decide +kernel
theorem dX4_init_28 : decode cX4_init 28 = .ok (.putfield 18, 3) := by decide +kernel
theorem dX4_init_31 : decode cX4_init 31 = .ok (.aload_n 0, 1) := by decide +kernel
theorem dX4_init_32 : decode cX4_init 32 = .ok (.sipush 200, 3) := by decide +kernel
theorem dX4_init_35 : decode cX4_init 35 = .ok (.newarray .int, 2) := by decide +kernel
theorem dX4_init_37 : decode cX4_init 37 = .ok (.putfield 22, 3) := by decide +kernel
theorem dX4_init_40 : decode cX4_init 40 = .ok (.aload_n 0, 1) := by decide +kernel
theorem dX4_init_41 : decode cX4_init 41 = .ok (.iconst 0, 1) := by decide +kernel
theorem dX4_init_42 : decode cX4_init 42 = .ok (.putfield 25, 3) := by decide +kernel
theorem dX4_init_45 : decode cX4_init 45 = .ok (.return_, 1) := by decide +kernel
theorem dX4_add_0 : decode cX4_add 0 = .ok (.aload_n 0, 1) := by decide +kernel
theorem dX4_add_1 : decode cX4_add 1 = .ok (.getfield 25, 3) := by decide +kernel
theorem dX4_add_4 : decode cX4_add 4 = .ok (.sipush 200, 3) := by decide +kernel
theorem dX4_add_7 : decode cX4_add 7 = .ok (.if_icmp .lt 5, 3) := by decide +kernel
theorem dX4_add_10 : decode cX4_add 10 = .ok (.iconst (-1), 1) := by decide +kernel
theorem dX4_add_11 : decode cX4_add 11 = .ok (.ireturn, 1) := by decide +kernel
theorem dX4_add_12 : decode cX4_add 12 = .ok (.aload_n 0, 1) := by decide +kernel
theorem dX4_add_13 : decode cX4_add 13 = .ok (.getfield 11, 3) := by decide +kernel
theorem dX4_add_16 : decode cX4_add 16 = .ok (.aload_n 0, 1) := by decide +kernel
theorem dX4_add_17 : decode cX4_add 17 = .ok (.getfield 25, 3) := by decide +kernel
theorem dX4_add_20 : decode cX4_add 20 = .ok (.iload_n 1, 1) := by decide +kernel
theorem dX4_add_21 : decode cX4_add 21 = .ok (.iastore, 1) := by decide +kernel
theorem dX4_add_22 : decode cX4_add 22 = .ok (.aload_n 0, 1) := by decide +kernel
theorem dX4_add_23 : decode cX4_add 23 = .ok (.getfield 15, 3) := by decide +kernel
theorem dX4_add_26 : decode cX4_add 26 = .ok (.aload_n 0, 1) := by decide +kernel
theorem dX4_add_27 : decode cX4_add 27 = .ok (.getfield 25, 3) := by decide +kernel
theorem dX4_add_30 : decode cX4_add 30 = .ok (.iload_n 2, 1) := by decide +kernel
theorem dX4_add_31 : decode cX4_add 31 = .ok (.iastore, 1) := by decide +kernel
theorem dX4_add_32 : decode cX4_add 32 = .ok (.aload_n 0, 1) := by decide +kernel
theorem dX4_add_33 : decode cX4_add 33 = .ok (.getfield 18, 3) := by decide +kernel
theorem dX4_add_36 : decode cX4_add 36 = .ok (.aload_n 0, 1) := by decide +kernel
theorem dX4_add_37 : decode cX4_add 37 = .ok (.getfield 25, 3) := by decide +kernel
theorem dX4_add_40 : decode cX4_add 40 = .ok (.iload_n 3, 1) := by decide +kernel
theorem dX4_add_41 : decode cX4_add 41 = .ok (.bastore, 1) := by decide +kernel
theorem dX4_add_42 : decode cX4_add 42 = .ok (.aload_n 0, 1) := by decide +kernel
theorem dX4_add_43 : decode cX4_add 43 = .ok (.getfield 22, 3) := by decide +kernel
theorem dX4_add_46 : decode cX4_add 46 = .ok (.aload_n 0, 1) := by decide +kernel
theorem dX4_add_47 : decode cX4_add 47 = .ok (.getfield 25, 3) := by decide +kernel
theorem dX4_add_50 : decode cX4_add 50 = .ok (.iload 4, 2) := by decide +kernel
theorem dX4_add_52 : decode cX4_add 52 = .ok (.iastore, 1) := by decide +kernel
theorem dX4_add_53 : decode cX4_add 53 = .ok (.aload_n 0, 1) := by decide +kernel
theorem dX4_add_54 : decode cX4_add 54 = .ok (.dup, 1) := by decide +kernel
theorem dX4_add_55 : decode cX4_add 55 = .ok (.getfield 25, 3) := by decide +kernel
theorem dX4_add_58 : decode cX4_add 58 = .ok (.iconst 1, 1) := by decide +kernel
theorem dX4_add_59 : decode cX4_add 59 = .ok (.iadd, 1) := by decide +kernel
theorem dX4_add_60 : decode cX4_add 60 = .ok (.putfield 25, 3) := by decide +kernel
theorem dX4_add_63 : decode cX4_add 63 = .ok (.aload_n 0, 1) := by decide +kernel
theorem dX4_add_64 : decode cX4_add 64 = .ok (.getfield 25, 3) := by decide +kernel
theorem dX4_add_67 : decode cX4_add 67 = .ok (.iconst 1, 1) := by decide +kernel
theorem dX4_add_68 : decode cX4_add 68 = .ok (.isub, 1) := by decide +kernel
theorem dX4_add_69 : decode cX4_add 69 = .ok (.ireturn, 1) := by decide +kernel
theorem dX4_matters_0 : decode cX4_matters 0 = .ok (.iconst 0, 1) := by decide +kernel
theorem dX4_matters_1 : decode cX4_matters 1 = .ok (.istore_n 2, 1) := by decide +kernel
theorem dX4_matters_2 : decode cX4_matters 2 = .ok (.iconst 0, 1) := by decide +kernel
theorem dX4_matters_3 : decode cX4_matters 3 = .ok (.istore_n 3, 1) := by decide +kernel
theorem dX4_matters_4 : decode cX4_matters 4 = .ok (.iload_n 3, 1) := by decide +kernel
theorem dX4_matters_5 : decode cX4_matters 5 = .ok (.iload_n 1, 1) := by decide +kernel
theorem dX4_matters_6 : decode cX4_matters 6 = .ok (.if_icmp .ge 29, 3) := by decide +kernel
theorem dX4_matters_9 : decode cX4_matters 9 = .ok (.aload_n 0, 1) := by decide +kernel
theorem dX4_matters_10 : decode cX4_matters 10 = .ok (.iload_n 3, 1) := by decide +kernel
theorem dX4_matters_11 : decode cX4_matters 11 = .ok (.iload_n 1, 1) := by decide +kernel
theorem dX4_matters_12 : decode cX4_matters 12 = .ok (.invokevirtual 29, 3) := by decide +kernel
theorem dX4_matters_15 : decode cX4_matters 15 = .ok (.ifCond .eq 12, 3) := by decide +kernel
theorem dX4_matters_18 : decode cX4_matters 18 = .ok (.aload_n 0, 1) := by decide +kernel
theorem dX4_matters_19 : decode cX4_matters 19 = .ok (.getfield 22, 3) := by decide +kernel
theorem dX4_matters_22 : decode cX4_matters 22 = .ok (.iload_n 3, 1) := by decide +kernel
theorem dX4_matters_23 : decode cX4_matters 23 = .ok (.iaload, 1) := by decide +kernel
theorem dX4_matters_24 : decode cX4_matters 24 = .ok (.goto 4, 3) := by decide +kernel
theorem dX4_matters_27 : decode cX4_matters 27 = .ok (.iload_n 2, 1) := by decide +kernel
theorem dX4_matters_28 : decode cX4_matters 28 = .ok (.istore_n 2, 1) := by decide +kernel
theorem dX4_matters_29 : decode cX4_matters 29 = .ok (.iinc 3 1, 3) := by decide +kernel
theorem dX4_matters_32 : decode cX4_matters 32 = .ok (.goto (-28), 3) := by decide +kernel
theorem dX4_matters_35 : decode cX4_matters 35 = .ok (.iconst 1, 1) := by decide +kernel
theorem dX4_matters_36 : decode cX4_matters 36 = .ok (.istore_n 3, 1) := by decide +kernel
theorem dX4_matters_37 : decode cX4_matters 37 = .ok (.iload_n 1, 1) := by decide +kernel
theorem dX4_matters_38 : decode cX4_matters 38 = .ok (.iconst 1, 1) := by decide +kernel
theorem dX4_matters_39 : decode cX4_matters 39 = .ok (.iadd, 1) := by decide +kernel
theorem dX4_matters_40 : decode cX4_matters 40 = .ok (.istore 4, 2) := by decide +kernel
theorem dX4_matters_42 : decode cX4_matters 42 = .ok (.iload 4, 2) := by decide +kernel
theorem dX4_matters_44 : decode cX4_matters 44 = .ok (.aload_n 0, 1) := by decide +kernel
theorem dX4_matters_45 : decode cX4_matters 45 = .ok (.getfield 25, 3) := by decide +kernel
theorem dX4_matters_48 : decode cX4_matters 48 = .ok (.if_icmp .ge 45, 3) := by decide +kernel
theorem dX4_matters_51 : decode cX4_matters 51 = .ok (.aload_n 0, 1) := by decide +kernel
theorem dX4_matters_52 : decode cX4_matters 52 = .ok (.getfield 11, 3) := by decide +kernel
theorem dX4_matters_55 : decode cX4_matters 55 = .ok (.iload 4, 2) := by decide +kernel
theorem dX4_matters_57 : decode cX4_matters 57 = .ok (.iaload, 1) := by decide +kernel
theorem dX4_matters_58 : decode cX4_matters 58 = .ok (.aload_n 0, 1) := by decide +kernel
theorem dX4_matters_59 : decode cX4_matters 59 = .ok (.getfield 11, 3) := by decide +kernel
theorem dX4_matters_62 : decode cX4_matters 62 = .ok (.iload_n 1, 1) := by decide +kernel
theorem dX4_matters_63 : decode cX4_matters 63 = .ok (.iaload, 1) := by decide +kernel
theorem dX4_matters_64 : decode cX4_matters 64 = .ok (.if_icmp .ne 29, 3) := by decide +kernel
theorem dX4_matters_67 : decode cX4_matters 67 = .ok (.iload_n 3, 1) := by decide +kernel
theorem dX4_matters_68 : decode cX4_matters 68 = .ok (.ifCond .eq 17, 3) := by decide +kernel
theorem dX4_matters_71 : decode cX4_matters 71 = .ok (.aload_n 0, 1) := by decide +kernel
theorem dX4_matters_72 : decode cX4_matters 72 = .ok (.iload 4, 2) := by decide +kernel
theorem dX4_matters_74 : decode cX4_matters 74 = .ok (.iload_n 1, 1) := by decide +kernel
theorem dX4_matters_75 : decode cX4_matters 75 = .ok (.invokevirtual 29, 3) := by decide +kernel
theorem dX4_matters_78 : decode cX4_matters 78 = .ok (.ifCond .ne 7, 3) := by decide +kernel
theorem dX4_matters_81 : decode cX4_matters 81 = .ok (.iconst 1, 1) := by decide +kernel
theorem dX4_matters_82 : decode cX4_matters 82 = .ok (.goto 4, 3) := by decide +kernel
theorem dX4_matters_85 : decode cX4_matters 85 = .ok (.iconst 0, 1) := by decide +kernel
theorem dX4_matters_86 : decode cX4_matters 86 = .ok (.istore_n 3, 1) := by decide +kernel
theorem dX4_matters_87 : decode cX4_matters 87 = .ok (.iinc 4 1, 3) := by decide +kernel
theorem dX4_matters_90 : decode cX4_matters 90 = .ok (.goto (-48), 3) := by decide +kernel
theorem dX4_matters_93 : decode cX4_matters 93 = .ok (.iload_n 3, 1) := by decide +kernel
theorem dX4_matters_94 : decode cX4_matters 94 = .ok (.ifCond .eq 17, 3) := by decide +kernel
theorem dX4_matters_97 : decode cX4_matters 97 = .ok (.iload_n 2, 1) := by decide +kernel
theorem dX4_matters_98 : decode cX4_matters 98 = .ok (.aload_n 0, 1) := by decide +kernel
theorem dX4_matters_99 : decode cX4_matters 99 = .ok (.getfield 22, 3) := by decide +kernel
theorem dX4_matters_102 : decode cX4_matters 102 = .ok (.iload_n 1, 1) := by decide +kernel
theorem dX4_matters_103 : decode cX4_matters 103 = .ok (.iaload, 1) := by decide +kernel
theorem dX4_matters_104 : decode cX4_matters 104 = .ok (.if_icmp .eq 7, 3) := by decide +kernel
theorem dX4_matters_107 : decode cX4_matters 107 = .ok (.iconst 1, 1) := by decide +kernel
theorem dX4_matters_108 : decode cX4_matters 108 = .ok (.goto 4, 3) := by decide +kernel
theorem dX4_matters_111 : decode cX4_matters 111 = .ok (.iconst 0, 1) := by decide +kernel
theorem dX4_matters_112 : decode cX4_matters 112 = .ok (.ireturn, 1) := by decide +kernel
theorem dX4_isOfSame_0 : decode cX4_isOfSame 0 = .ok (.aload_n 0, 1) := by decide +kernel
theorem dX4_isOfSame_1 : decode cX4_isOfSame 1 = .ok (.getfield 15, 3) := by decide +kernel
theorem dX4_isOfSame_4 : decode cX4_isOfSame 4 = .ok (.iload_n 1, 1) := by decide +kernel
theorem dX4_isOfSame_5 : decode cX4_isOfSame 5 = .ok (.iaload, 1) := by decide +kernel
theorem dX4_isOfSame_6 : decode cX4_isOfSame 6 = .ok (.aload_n 0, 1) := by decide +kernel
theorem dX4_isOfSame_7 : decode cX4_isOfSame 7 = .ok (.getfield 15, 3) := by decide +kernel
theorem dX4_isOfSame_10 : decode cX4_isOfSame 10 = .ok (.iload_n 2, 1) := by decide +kernel
theorem dX4_isOfSame_11 : decode cX4_isOfSame 11 = .ok (.iaload, 1) := by decide +kernel
theorem dX4_isOfSame_12 : decode cX4_isOfSame 12 = .ok (.if_icmp .ne 22, 3) := by decide +kernel
theorem dX4_isOfSame_15 : decode cX4_isOfSame 15 = .ok (.aload_n 0, 1) := by decide +kernel
theorem dX4_isOfSame_16 : decode cX4_isOfSame 16 = .ok (.getfield 18, 3) := by decide +kernel
theorem dX4_isOfSame_19 : decode cX4_isOfSame 19 = .ok (.iload_n 1, 1) := by decide +kernel
theorem dX4_isOfSame_20 : decode cX4_isOfSame 20 = .ok (.baload, 1) := by decide +kernel
theorem dX4_isOfSame_21 : decode cX4_isOfSame 21 = .ok (.aload_n 0, 1) := by decide +kernel
theorem dX4_isOfSame_22 : decode cX4_isOfSame 22 = .ok (.getfield 18, 3) := by decide +kernel
theorem dX4_isOfSame_25 : decode cX4_isOfSame 25 = .ok (.iload_n 2, 1) := by decide +kernel
theorem dX4_isOfSame_26 : decode cX4_isOfSame 26 = .ok (.baload, 1) := by decide +kernel
theorem dX4_isOfSame_27 : decode cX4_isOfSame 27 = .ok (.if_icmp .ne 7, 3) := by decide +kernel
theorem dX4_isOfSame_30 : decode cX4_isOfSame 30 = .ok (.iconst 1, 1) := by decide +kernel
theorem dX4_isOfSame_31 : decode cX4_isOfSame 31 = .ok (.goto 4, 3) := by decide +kernel
theorem dX4_isOfSame_34 : decode cX4_isOfSame 34 = .ok (.iconst 0, 1) := by decide +kernel
theorem dX4_isOfSame_35 : decode cX4_isOfSame 35 = .ok (.ireturn, 1) := by decide +kernel
theorem dX5_init_0 : decode cX5_init 0 = .ok (.aload_n 0, 1) := by decide +kernel
theorem dX5_init_1 : decode cX5_init 1 = .ok (.invokespecial 3, 3) := by decide +kernel
theorem dX5_init_4 : decode cX5_init 4 = .ok (.aload_n 0, 1) := by decide +kernel
theorem dX5_init_5 : decode cX5_init 5 = .ok (.bipush 6, 2) := by decide +kernel
theorem dX5_init_7 : decode cX5_init 7 = .ok (.newarray .int, 2) := by decide +kernel
theorem dX5_init_9 : decode cX5_init 9 = .ok (.putfield 11, 3) := by decide +kernel
theorem dX5_init_12 : decode cX5_init 12 = .ok (.aload_n 0, 1) := by decide +kernel
theorem dX5_init_13 : decode cX5_init 13 = .ok (.iconst 0, 1) := by decide +kernel
theorem dX5_init_14 : decode cX5_init 14 = .ok (.putfield 15, 3) := by decide +kernel
theorem dX5_init_17 : decode cX5_init 17 = .ok (.aload_n 0, 1) := by decide +kernel
theorem dX5_init_18 : decode cX5_init 18 = .ok (.bipush 6, 2) := by decide +kernel
theorem dX5_init_20 : decode cX5_init 20 = .ok (.anewarray 19, 3) := by decide +kernel
theorem dX5_init_23 : decode cX5_init 23 = .ok (.putfield 21, 3) := by decide +kernel
theorem dX5_init_26 : decode cX5_init 26 = .ok (.aload_n 0, 1) := by decide +kernel
theorem dX5_init_27 : decode cX5_init 27 = .ok (.bipush 6, 2) := by decide +kernel
theorem dX5_init_29 : decode cX5_init 29 = .ok (.newarray .int, 2) := by decide +kernel
theorem dX5_init_31 : decode cX5_init 31 = .ok (.putfield 25, 3) := by decide +kernel
theorem dX5_init_34 : decode cX5_init 34 = .ok (.aload_n 0, 1) := by decide +kernel
theorem dX5_init_35 : decode cX5_init 35 = .ok (.bipush 6, 2) := by decide +kernel
theorem dX5_init_37 : decode cX5_init 37 = .ok (.newarray .int, 2) := by decide +kernel
theorem dX5_init_39 : decode cX5_init 39 = .ok (.putfield 28, 3) := by decide +kernel
theorem dX5_init_42 : decode cX5_init 42 = .ok (.iconst 0, 1) := by decide +kernel
theorem dX5_init_43 : decode cX5_init 43 = .ok (.istore_n 1, 1) := by decide +kernel
theorem dX5_init_44 : decode cX5_init 44 = .ok (.iload_n 1, 1) := by decide +kernel
theorem dX5_init_45 : decode cX5_init 45 = .ok (.bipush 6, 2) := by decide +kernel
theorem dX5_init_47 : decode cX5_init 47 = .ok (.if_icmp .ge 22, 3) := by decide +kernel
theorem dX5_init_50 : decode cX5_init 50 = .ok (.aload_n 0, 1) := by decide +kernel
theorem dX5_init_51 : decode cX5_init 51 = .ok (.getfield 21, 3) := by decide +kernel
theorem dX5_init_54 : decode cX5_init 54 = .ok (.iload_n 1, 1) := by decide +kernel
theorem dX5_init_55 : decode cX5_init 55 = .ok (.new 19, 3) := by decide +kernel
theorem dX5_init_58 : decode cX5_init 58 = .ok (.dup, 1) := by decide +kernel
theorem dX5_init_59 : decode cX5_init 59 = .ok (.invokespecial 31, 3) := by decide +kernel
theorem dX5_init_62 : decode cX5_init 62 = .ok (.aastore, 1) := by decide +kernel
theorem dX5_init_63 : decode cX5_init 63 = .ok (.iinc 1 1, 3) := by decide +kernel
theorem dX5_init_66 : decode cX5_init 66 = .ok (.goto (-22), 3) := by decide +kernel
theorem dX5_init_69 : decode cX5_init 69 = .ok (.return_, 1) := by decide +kernel
theorem dX5_ask_0 : decode cX5_ask 0 = .ok (.aload_n 0, 1) := by decide +kernel
theorem dX5_ask_1 : decode cX5_ask 1 = .ok (.iload_n 1, 1) := by decide +kernel
theorem dX5_ask_2 : decode cX5_ask 2 = .ok (.putfield 32, 3) := by decide +kernel
theorem dX5_ask_5 : decode cX5_ask 5 = .ok (.aload_n 0, 1) := by decide +kernel
theorem dX5_ask_6 : decode cX5_ask 6 = .ok (.iload_n 2, 1) := by decide +kernel
theorem dX5_ask_7 : decode cX5_ask 7 = .ok (.putfield 35, 3) := by decide +kernel
theorem dX5_ask_10 : decode cX5_ask 10 = .ok (.aload_n 0, 1) := by decide +kernel
theorem dX5_ask_11 : decode cX5_ask 11 = .ok (.iload_n 3, 1) := by decide +kernel
theorem dX5_ask_12 : decode cX5_ask 12 = .ok (.putfield 38, 3) := by decide +kernel
theorem dX5_ask_15 : decode cX5_ask 15 = .ok (.aload_n 0, 1) := by decide +kernel
theorem dX5_ask_16 : decode cX5_ask 16 = .ok (.aload 4, 2) := by decide +kernel
theorem dX5_ask_18 : decode cX5_ask 18 = .ok (.iload_n 1, 1) := by decide +kernel
theorem dX5_ask_19 : decode cX5_ask 19 = .ok (.invokevirtual 41, 3) := by decide +kernel
theorem dX5_ask_22 : decode cX5_ask 22 = .ok (.putfield 47, 3) := by decide +kernel
theorem dX5_ask_25 : decode cX5_ask 25 = .ok (.aload_n 0, 1) := by decide +kernel
theorem dX5_ask_26 : decode cX5_ask 26 = .ok (.aload 4, 2) := by decide +kernel
theorem dX5_ask_28 : decode cX5_ask 28 = .ok (.getfield 49, 3) := by decide +kernel
theorem dX5_ask_31 : decode cX5_ask 31 = .ok (.iload_n 1, 1) := by decide +kernel
theorem dX5_ask_32 : decode cX5_ask 32 = .ok (.iaload, 1) := by decide +kernel
theorem dX5_ask_33 : decode cX5_ask 33 = .ok (.putfield 52, 3) := by decide +kernel
theorem dX5_ask_36 : decode cX5_ask 36 = .ok (.aload_n 0, 1) := by decide +kernel
theorem dX5_ask_37 : decode cX5_ask 37 = .ok (.ldc 57, 2) := by decide +kernel
theorem dX5_ask_39 : decode cX5_ask 39 = .ok (.putfield 58, 3) := by decide +kernel
theorem dX5_ask_42 : decode cX5_ask 42 = .ok (.return_, 1) := by decide +kernel
theorem dX5_find_0 : decode cX5_find 0 = .ok (.aload_n 0, 1) := by decide +kernel
theorem dX5_find_1 : decode cX5_find 1 = .ok (.aload_n 1, 1) := by decide +kernel
theorem dX5_find_2 : decode cX5_find 2 = .ok (.aload_n 2, 1) := by decide +kernel
theorem dX5_find_3 : decode cX5_find 3 = .ok (.iconst 0, 1) := by decide +kernel
theorem dX5_find_4 : decode cX5_find 4 = .ok (.iconst 0, 1) := by decide +kernel
theorem dX5_find_5 : decode cX5_find 5 = .ok (.iconst 0, 1) := by decide +kernel
theorem dX5_find_6 : decode cX5_find 6 = .ok (.invokevirtual 61, 3) := by decide +kernel
theorem dX5_find_9 : decode cX5_find 9 = .ok (.aload_n 0, 1) := by decide +kernel
theorem dX5_find_10 : decode cX5_find 10 = .ok (.getfield 58, 3) := by decide +kernel
theorem dX5_find_13 : decode cX5_find 13 = .ok (.ldc 57, 2) := by decide +kernel
theorem dX5_find_15 : decode cX5_find 15 = .ok (.if_icmp .ne 5, 3) := by decide +kernel
theorem dX5_find_18 : decode cX5_find 18 = .ok (.iconst (-1), 1) := by decide +kernel
theorem dX5_find_19 : decode cX5_find 19 = .ok (.ireturn, 1) := by decide +kernel
theorem dX5_find_20 : decode cX5_find 20 = .ok (.aload_n 0, 1) := by decide +kernel
theorem dX5_find_21 : decode cX5_find 21 = .ok (.getfield 28, 3) := by decide +kernel
theorem dX5_find_24 : decode cX5_find 24 = .ok (.iconst 0, 1) := by decide +kernel
theorem dX5_find_25 : decode cX5_find 25 = .ok (.aload_n 0, 1) := by decide +kernel
theorem dX5_find_26 : decode cX5_find 26 = .ok (.getfield 11, 3) := by decide +kernel
theorem dX5_find_29 : decode cX5_find 29 = .ok (.iconst 0, 1) := by decide +kernel
theorem dX5_find_30 : decode cX5_find 30 = .ok (.bipush 6, 2) := by decide +kernel
theorem dX5_find_32 : decode cX5_find 32 = .ok (.invokestatic 65, 3) := by decide +kernel
theorem dX5_find_35 : decode cX5_find 35 = .ok (.aload_n 0, 1) := by decide +kernel
theorem dX5_find_36 : decode cX5_find 36 = .ok (.aload_n 0, 1) := by decide +kernel
theorem dX5_find_37 : decode cX5_find 37 = .ok (.getfield 35, 3) := by decide +kernel
theorem dX5_find_40 : decode cX5_find 40 = .ok (.putfield 15, 3) := by decide +kernel
theorem dX5_find_43 : decode cX5_find 43 = .ok (.aload_n 0, 1) := by decide +kernel
theorem dX5_find_44 : decode cX5_find 44 = .ok (.getfield 58, 3) := by decide +kernel
theorem dX5_find_47 : decode cX5_find 47 = .ok (.ireturn, 1) := by decide +kernel
theorem dX5_search_0 : decode cX5_search 0 = .ok (.iload_n 3, 1) := by decide +kernel
theorem dX5_search_1 : decode cX5_search 1 = .ok (.aload_n 0, 1) := by decide +kernel
theorem dX5_search_2 : decode cX5_search 2 = .ok (.getfield 35, 3) := by decide +kernel
theorem dX5_search_5 : decode cX5_search 5 = .ok (.if_icmp .ge 9, 3) := by decide +kernel
theorem dX5_search_8 : decode cX5_search 8 = .ok (.iload_n 3, 1) := by decide +kernel
theorem dX5_search_9 : decode cX5_search 9 = .ok (.bipush 6, 2) := by decide +kernel
theorem dX5_search_11 : decode cX5_search 11 = .ok (.if_icmp .lt 25, 3) := by decide +kernel
theorem dX5_search_14 : decode cX5_search 14 = .ok (.aload_n 0, 1) := by decide +kernel
theorem dX5_search_15 : decode cX5_search 15 = .ok (.iload 4, 2) := by decide +kernel
theorem dX5_search_17 : decode cX5_search 17 = .ok (.putfield 58, 3) := by decide +kernel
theorem dX5_search_20 : decode cX5_search 20 = .ok (.aload_n 0, 1) := by decide +kernel
theorem dX5_search_21 : decode cX5_search 21 = .ok (.getfield 25, 3) := by decide +kernel
theorem dX5_search_24 : decode cX5_search 24 = .ok (.iconst 0, 1) := by decide +kernel
theorem dX5_search_25 : decode cX5_search 25 = .ok (.aload_n 0, 1) := by decide +kernel
theorem dX5_search_26 : decode cX5_search 26 = .ok (.getfield 28, 3) := by decide +kernel
theorem dX5_search_29 : decode cX5_search 29 = .ok (.iconst 0, 1) := by decide +kernel
theorem dX5_search_30 : decode cX5_search 30 = .ok (.bipush 6, 2) := by decide +kernel
theorem dX5_search_32 : decode cX5_search 32 = .ok (.invokestatic 65, 3) := by decide +kernel
theorem dX5_search_35 : decode cX5_search 35 = .ok (.return_, 1) := by decide +kernel
theorem dX5_search_36 : decode cX5_search 36 = .ok (.aload_n 0, 1) := by decide +kernel
theorem dX5_search_37 : decode cX5_search 37 = .ok (.getfield 21, 3) := by decide +kernel
theorem dX5_search_40 : decode cX5_search 40 = .ok (.iload_n 3, 1) := by decide +kernel
theorem dX5_search_41 : decode cX5_search 41 = .ok (.aaload, 1) := by decide +kernel
theorem dX5_search_42 : decode cX5_search 42 = .ok (.astore 6, 2) := by decide +kernel
theorem dX5_search_44 : decode cX5_search 44 = .ok (.iconst 0, 1) := by decide +kernel
theorem dX5_search_45 : decode cX5_search 45 = .ok (.istore 7, 2) := by decide +kernel
theorem dX5_search_47 : decode cX5_search 47 = .ok (.iload 7, 2) := by decide +kernel
theorem dX5_search_49 : decode cX5_search 49 = .ok (.aload_n 0, 1) := by decide +kernel
theorem dX5_search_50 : decode cX5_search 50 = .ok (.getfield 52, 3) := by decide +kernel
theorem dX5_search_53 : decode cX5_search 53 = .ok (.if_icmp .gt 177, 3) := by decide +kernel
theorem dX5_search_56 : decode cX5_search 56 = .ok (.iload 4, 2) := by decide +kernel
theorem dX5_search_58 : decode cX5_search 58 = .ok (.aload_n 0, 1) := by decide +kernel
theorem dX5_search_59 : decode cX5_search 59 = .ok (.getfield 58, 3) := by decide +kernel
theorem dX5_search_62 : decode cX5_search 62 = .ok (.if_icmp .ge 168, 3) := by decide +kernel
theorem dX5_search_65 : decode cX5_search 65 = .ok (.aload_n 0, 1) := by decide +kernel
theorem dX5_search_66 : decode cX5_search 66 = .ok (.getfield 25, 3) := by decide +kernel
theorem dX5_search_69 : decode cX5_search 69 = .ok (.iload_n 3, 1) := by decide +kernel
theorem dX5_search_70 : decode cX5_search 70 = .ok (.iload 7, 2) := by decide +kernel
theorem dX5_search_72 : decode cX5_search 72 = .ok (.iastore, 1) := by decide +kernel
theorem dX5_search_73 : decode cX5_search 73 = .ok (.aload 6, 2) := by decide +kernel
theorem dX5_search_75 : decode cX5_search 75 = .ok (.aload_n 2, 1) := by decide +kernel
theorem dX5_search_76 : decode cX5_search 76 = .ok (.invokevirtual 71, 3) := by decide +kernel
theorem dX5_search_79 : decode cX5_search 79 = .ok (.aload_n 1, 1) := by decide +kernel
theorem dX5_search_80 : decode cX5_search 80 = .ok (.aload 6, 2) := by decide +kernel
theorem dX5_search_82 : decode cX5_search 82 = .ok (.invokevirtual 75, 3) := by decide +kernel
theorem dX5_search_85 : decode cX5_search 85 = .ok (.aload 6, 2) := by decide +kernel
theorem dX5_search_87 : decode cX5_search 87 = .ok (.getfield 80, 3) := by decide +kernel
theorem dX5_search_90 : decode cX5_search 90 = .ok (.iconst 2, 1) := by decide +kernel
theorem dX5_search_91 : decode cX5_search 91 = .ok (.aaload, 1) := by decide +kernel
theorem dX5_search_92 : decode cX5_search 92 = .ok (.aload_n 0, 1) := by decide +kernel
theorem dX5_search_93 : decode cX5_search 93 = .ok (.getfield 32, 3) := by decide +kernel
theorem dX5_search_96 : decode cX5_search 96 = .ok (.iload 7, 2) := by decide +kernel
theorem dX5_search_98 : decode cX5_search 98 = .ok (.iastore, 1) := by decide +kernel
theorem dX5_search_99 : decode cX5_search 99 = .ok (.aload_n 1, 1) := by decide +kernel
theorem dX5_search_100 : decode cX5_search 100 = .ok (.aload 6, 2) := by decide +kernel
theorem dX5_search_102 : decode cX5_search 102 = .ok (.invokevirtual 84, 3) := by decide +kernel
theorem dX5_search_105 : decode cX5_search 105 = .ok (.iload 4, 2) := by decide +kernel
theorem dX5_search_107 : decode cX5_search 107 = .ok (.aload 6, 2) := by decide +kernel
theorem dX5_search_109 : decode cX5_search 109 = .ok (.getfield 80, 3) := by decide +kernel
theorem dX5_search_112 : decode cX5_search 112 = .ok (.bipush 7, 2) := by decide +kernel
theorem dX5_search_114 : decode cX5_search 114 = .ok (.aaload, 1) := by decide +kernel
theorem dX5_search_115 : decode cX5_search 115 = .ok (.aload_n 0, 1) := by decide +kernel
theorem dX5_search_116 : decode cX5_search 116 = .ok (.getfield 32, 3) := by decide +kernel
theorem dX5_search_119 : decode cX5_search 119 = .ok (.iaload, 1) := by decide +kernel
theorem dX5_search_120 : decode cX5_search 120 = .ok (.iadd, 1) := by decide +kernel
theorem dX5_search_121 : decode cX5_search 121 = .ok (.aload 6, 2) := by decide +kernel
theorem dX5_search_123 : decode cX5_search 123 = .ok (.getfield 80, 3) := by decide +kernel
theorem dX5_search_126 : decode cX5_search 126 = .ok (.bipush 8, 2) := by decide +kernel
theorem dX5_search_128 : decode cX5_search 128 = .ok (.aaload, 1) := by decide +kernel
theorem dX5_search_129 : decode cX5_search 129 = .ok (.aload_n 0, 1) := by decide +kernel
theorem dX5_search_130 : decode cX5_search 130 = .ok (.getfield 32, 3) := by decide +kernel
theorem dX5_search_133 : decode cX5_search 133 = .ok (.iaload, 1) := by decide +kernel
theorem dX5_search_134 : decode cX5_search 134 = .ok (.iadd, 1) := by decide +kernel
theorem dX5_search_135 : decode cX5_search 135 = .ok (.istore 8, 2) := by decide +kernel
theorem dX5_search_137 : decode cX5_search 137 = .ok (.iload 5, 2) := by decide +kernel
theorem dX5_search_139 : decode cX5_search 139 = .ok (.aload 6, 2) := by decide +kernel
theorem dX5_search_141 : decode cX5_search 141 = .ok (.getfield 80, 3) := by decide +kernel
theorem dX5_search_144 : decode cX5_search 144 = .ok (.bipush 6, 2) := by decide +kernel
theorem dX5_search_146 : decode cX5_search 146 = .ok (.aaload, 1) := by decide +kernel
theorem dX5_search_147 : decode cX5_search 147 = .ok (.aload_n 0, 1) := by decide +kernel
theorem dX5_search_148 : decode cX5_search 148 = .ok (.getfield 32, 3) := by decide +kernel
theorem dX5_search_151 : decode cX5_search 151 = .ok (.iaload, 1) := by decide +kernel
theorem dX5_search_152 : decode cX5_search 152 = .ok (.iadd, 1) := by decide +kernel
theorem dX5_search_153 : decode cX5_search 153 = .ok (.istore 9, 2) := by decide +kernel
theorem dX5_search_155 : decode cX5_search 155 = .ok (.iload 9, 2) := by decide +kernel
theorem dX5_search_157 : decode cX5_search 157 = .ok (.aload_n 0, 1) := by decide +kernel
theorem dX5_search_158 : decode cX5_search 158 = .ok (.getfield 47, 3) := by decide +kernel
theorem dX5_search_161 : decode cX5_search 161 = .ok (.aload_n 0, 1) := by decide +kernel
theorem dX5_search_162 : decode cX5_search 162 = .ok (.getfield 35, 3) := by decide +kernel
theorem dX5_search_165 : decode cX5_search 165 = .ok (.iload_n 3, 1) := by decide +kernel
theorem dX5_search_166 : decode cX5_search 166 = .ok (.isub, 1) := by decide +kernel
theorem dX5_search_167 : decode cX5_search 167 = .ok (.iconst 1, 1) := by decide +kernel
theorem dX5_search_168 : decode cX5_search 168 = .ok (.isub, 1) := by decide +kernel
theorem dX5_search_169 : decode cX5_search 169 = .ok (.imul, 1) := by decide +kernel
theorem dX5_search_170 : decode cX5_search 170 = .ok (.iadd, 1) := by decide +kernel
theorem dX5_search_171 : decode cX5_search 171 = .ok (.aload_n 0, 1) := by decide +kernel
theorem dX5_search_172 : decode cX5_search 172 = .ok (.getfield 38, 3) := by decide +kernel
theorem dX5_search_175 : decode cX5_search 175 = .ok (.if_icmp .lt 7, 3) := by decide +kernel
theorem dX5_search_178 : decode cX5_search 178 = .ok (.iconst 1, 1) := by decide +kernel
theorem dX5_search_179 : decode cX5_search 179 = .ok (.goto 4, 3) := by decide +kernel
theorem dX5_search_182 : decode cX5_search 182 = .ok (.iconst 0, 1) := by decide +kernel
theorem dX5_search_183 : decode cX5_search 183 = .ok (.istore 10, 2) := by decide +kernel
theorem dX5_search_185 : decode cX5_search 185 = .ok (.iload 8, 2) := by decide +kernel
theorem dX5_search_187 : decode cX5_search 187 = .ok (.aload_n 0, 1) := by decide +kernel
theorem dX5_search_188 : decode cX5_search 188 = .ok (.getfield 58, 3) := by decide +kernel
theorem dX5_search_191 : decode cX5_search 191 = .ok (.if_icmp .ge 33, 3) := by decide +kernel
theorem dX5_search_194 : decode cX5_search 194 = .ok (.iload 10, 2) := by decide +kernel
theorem dX5_search_196 : decode cX5_search 196 = .ok (.ifCond .eq 28, 3) := by decide +kernel
theorem dX5_search_199 : decode cX5_search 199 = .ok (.aload_n 1, 1) := by decide +kernel
theorem dX5_search_200 : decode cX5_search 200 = .ok (.aload 6, 2) := by decide +kernel
theorem dX5_search_202 : decode cX5_search 202 = .ok (.iconst 0, 1) := by decide +kernel
theorem dX5_search_203 : decode cX5_search 203 = .ok (.invokevirtual 87, 3) := by decide +kernel
theorem dX5_search_206 : decode cX5_search 206 = .ok (.iconst (-1), 1) := by decide +kernel
theorem dX5_search_207 : decode cX5_search 207 = .ok (.if_icmp .ne 17, 3) := by decide +kernel
theorem dX5_search_210 : decode cX5_search 210 = .ok (.aload_n 0, 1) := by decide +kernel
theorem dX5_search_211 : decode cX5_search 211 = .ok (.aload_n 1, 1) := by decide +kernel
theorem dX5_search_212 : decode cX5_search 212 = .ok (.aload 6, 2) := by decide +kernel
theorem dX5_search_214 : decode cX5_search 214 = .ok (.iload_n 3, 1) := by decide +kernel
theorem dX5_search_215 : decode cX5_search 215 = .ok (.iconst 1, 1) := by decide +kernel
theorem dX5_search_216 : decode cX5_search 216 = .ok (.iadd, 1) := by decide +kernel
theorem dX5_search_217 : decode cX5_search 217 = .ok (.iload 8, 2) := by decide +kernel
theorem dX5_search_219 : decode cX5_search 219 = .ok (.iload 9, 2) := by decide +kernel
theorem dX5_search_221 : decode cX5_search 221 = .ok (.invokevirtual 61, 3) := by decide +kernel
theorem dX5_search_224 : decode cX5_search 224 = .ok (.iinc 7 1, 3) := by decide +kernel
theorem dX5_search_227 : decode cX5_search 227 = .ok (.goto (-180), 3) := by decide +kernel
theorem dX5_search_230 : decode cX5_search 230 = .ok (.return_, 1) := by decide +kernel
theorem dX6_init_0 : decode cX6_init 0 = .ok (.aload_n 0, 1) := by decide +kernel
theorem dX6_init_1 : decode cX6_init 1 = .ok (.invokespecial 3, 3) := by decide +kernel
theorem dX6_init_4 : decode cX6_init 4 = .ok (.aload_n 0, 1) := by decide +kernel
theorem dX6_init_5 : decode cX6_init 5 = .ok (.iconst 0, 1) := by decide +kernel
theorem dX6_init_6 : decode cX6_init 6 = .ok (.putfield 9, 3) := by decide +kernel
theorem dX6_init_9 : decode cX6_init 9 = .ok (.aload_n 0, 1) := by decide +kernel
theorem dX6_init_10 : decode cX6_init 10 = .ok (.sipush 400, 3) := by decide +kernel
theorem dX6_init_13 : decode cX6_init 13 = .ok (.newarray .int, 2) := by decide +kernel
theorem dX6_init_15 : decode cX6_init 15 = .ok (.putfield 15, 3) := by decide +kernel
theorem dX6_init_18 : decode cX6_init 18 = .ok (.aload_n 0, 1) := by decide +kernel
theorem dX6_init_19 : decode cX6_init 19 = .ok (.sipush 400, 3) := by decide +kernel
theorem dX6_init_22 : decode cX6_init 22 = .ok (.newarray .int, 2) := by decide +kernel
theorem dX6_init_24 : decode cX6_init 24 = .ok (.putfield 19, 3) := by decide +kernel
theorem dX6_init_27 : decode cX6_init 27 = .ok (.aload_n 0, 1) := by decide +kernel
theorem dX6_init_28 : decode cX6_init 28 = .ok (.sipush 1680, 3) := by decide +kernel
theorem dX6_init_31 : decode cX6_init 31 = .ok (.newarray .int, 2) := by decide +kernel
theorem dX6_init_33 : decode cX6_init 33 = .ok (.putfield 22, 3) := by decide +kernel
theorem dX6_init_36 : decode cX6_init 36 = .ok (.aload_n 0, 1) := by decide +kernel
theorem dX6_init_37 : decode cX6_init 37 = .ok (.iconst 0, 1) := by decide +kernel
theorem dX6_init_38 : decode cX6_init 38 = .ok (.putfield 25, 3) := by decide +kernel
theorem dX6_init_41 : decode cX6_init 41 = .ok (.return_, 1) := by decide +kernel
theorem dX6_add_0 : decode cX6_add 0 = .ok (.aload_n 0, 1) := by decide +kernel
theorem dX6_add_1 : decode cX6_add 1 = .ok (.getfield 9, 3) := by decide +kernel
theorem dX6_add_4 : decode cX6_add 4 = .ok (.sipush 400, 3) := by decide +kernel
theorem dX6_add_7 : decode cX6_add 7 = .ok (.if_icmp .lt 5, 3) := by decide +kernel
theorem dX6_add_10 : decode cX6_add 10 = .ok (.iconst (-1), 1) := by decide +kernel
theorem dX6_add_11 : decode cX6_add 11 = .ok (.ireturn, 1) := by decide +kernel
theorem dX6_add_12 : decode cX6_add 12 = .ok (.aload_n 0, 1) := by decide +kernel
theorem dX6_add_13 : decode cX6_add 13 = .ok (.getfield 15, 3) := by decide +kernel
theorem dX6_add_16 : decode cX6_add 16 = .ok (.aload_n 0, 1) := by decide +kernel
theorem dX6_add_17 : decode cX6_add 17 = .ok (.getfield 9, 3) := by decide +kernel
theorem dX6_add_20 : decode cX6_add 20 = .ok (.iload_n 1, 1) := by decide +kernel
theorem dX6_add_21 : decode cX6_add 21 = .ok (.bipush 7, 2) := by decide +kernel
theorem dX6_add_23 : decode cX6_add 23 = .ok (.imul, 1) := by decide +kernel
theorem dX6_add_24 : decode cX6_add 24 = .ok (.iload_n 2, 1) := by decide +kernel
theorem dX6_add_25 : decode cX6_add 25 = .ok (.iadd, 1) := by decide +kernel
theorem dX6_add_26 : decode cX6_add 26 = .ok (.iastore, 1) := by decide +kernel
theorem dX6_add_27 : decode cX6_add 27 = .ok (.aload_n 0, 1) := by decide +kernel
theorem dX6_add_28 : decode cX6_add 28 = .ok (.getfield 19, 3) := by decide +kernel
theorem dX6_add_31 : decode cX6_add 31 = .ok (.aload_n 0, 1) := by decide +kernel
theorem dX6_add_32 : decode cX6_add 32 = .ok (.getfield 9, 3) := by decide +kernel
theorem dX6_add_35 : decode cX6_add 35 = .ok (.iload_n 3, 1) := by decide +kernel
theorem dX6_add_36 : decode cX6_add 36 = .ok (.iastore, 1) := by decide +kernel
theorem dX6_add_37 : decode cX6_add 37 = .ok (.aload_n 0, 1) := by decide +kernel
theorem dX6_add_38 : decode cX6_add 38 = .ok (.dup, 1) := by decide +kernel
theorem dX6_add_39 : decode cX6_add 39 = .ok (.getfield 9, 3) := by decide +kernel
theorem dX6_add_42 : decode cX6_add 42 = .ok (.iconst 1, 1) := by decide +kernel
theorem dX6_add_43 : decode cX6_add 43 = .ok (.iadd, 1) := by decide +kernel
theorem dX6_add_44 : decode cX6_add 44 = .ok (.putfield 9, 3) := by decide +kernel
theorem dX6_add_47 : decode cX6_add 47 = .ok (.aload_n 0, 1) := by decide +kernel
theorem dX6_add_48 : decode cX6_add 48 = .ok (.getfield 9, 3) := by decide +kernel
theorem dX6_add_51 : decode cX6_add 51 = .ok (.iconst 1, 1) := by decide +kernel
theorem dX6_add_52 : decode cX6_add 52 = .ok (.isub, 1) := by decide +kernel
theorem dX6_add_53 : decode cX6_add 53 = .ok (.ireturn, 1) := by decide +kernel
theorem dX6_know_0 : decode cX6_know 0 = .ok (.iload_n 1, 1) := by decide +kernel
theorem dX6_know_1 : decode cX6_know 1 = .ok (.aload_n 0, 1) := by decide +kernel
theorem dX6_know_2 : decode cX6_know 2 = .ok (.getfield 25, 3) := by decide +kernel
theorem dX6_know_5 : decode cX6_know 5 = .ok (.if_icmp .ge 16, 3) := by decide +kernel
theorem dX6_know_8 : decode cX6_know 8 = .ok (.aload_n 0, 1) := by decide +kernel
theorem dX6_know_9 : decode cX6_know 9 = .ok (.getfield 22, 3) := by decide +kernel
theorem dX6_know_12 : decode cX6_know 12 = .ok (.iconst 0, 1) := by decide +kernel
theorem dX6_know_13 : decode cX6_know 13 = .ok (.invokestatic 28, 3) := by decide +kernel
theorem dX6_know_16 : decode cX6_know 16 = .ok (.aload_n 0, 1) := by decide +kernel
theorem dX6_know_17 : decode cX6_know 17 = .ok (.iconst 0, 1) := by decide +kernel
theorem dX6_know_18 : decode cX6_know 18 = .ok (.putfield 25, 3) := by decide +kernel
theorem dX6_know_21 : decode cX6_know 21 = .ok (.aload_n 0, 1) := by decide +kernel
theorem dX6_know_22 : decode cX6_know 22 = .ok (.getfield 25, 3) := by decide +kernel
theorem dX6_know_25 : decode cX6_know 25 = .ok (.iload_n 1, 1) := by decide +kernel
theorem dX6_know_26 : decode cX6_know 26 = .ok (.if_icmp .ge 50, 3) := by decide +kernel
theorem dX6_know_29 : decode cX6_know 29 = .ok (.aload_n 0, 1) := by decide +kernel
theorem dX6_know_30 : decode cX6_know 30 = .ok (.getfield 25, 3) := by decide +kernel
theorem dX6_know_33 : decode cX6_know 33 = .ok (.aload_n 0, 1) := by decide +kernel
theorem dX6_know_34 : decode cX6_know 34 = .ok (.getfield 9, 3) := by decide +kernel
theorem dX6_know_37 : decode cX6_know 37 = .ok (.if_icmp .ge 39, 3) := by decide +kernel
theorem dX6_know_40 : decode cX6_know 40 = .ok (.aload_n 0, 1) := by decide +kernel
theorem dX6_know_41 : decode cX6_know 41 = .ok (.getfield 22, 3) := by decide +kernel
theorem dX6_know_44 : decode cX6_know 44 = .ok (.aload_n 0, 1) := by decide +kernel
theorem dX6_know_45 : decode cX6_know 45 = .ok (.getfield 15, 3) := by decide +kernel
theorem dX6_know_48 : decode cX6_know 48 = .ok (.aload_n 0, 1) := by decide +kernel
theorem dX6_know_49 : decode cX6_know 49 = .ok (.getfield 25, 3) := by decide +kernel
theorem dX6_know_52 : decode cX6_know 52 = .ok (.iaload, 1) := by decide +kernel
theorem dX6_know_53 : decode cX6_know 53 = .ok (.aload_n 0, 1) := by decide +kernel
theorem dX6_know_54 : decode cX6_know 54 = .ok (.getfield 19, 3) := by decide +kernel
theorem dX6_know_57 : decode cX6_know 57 = .ok (.aload_n 0, 1) := by decide +kernel
theorem dX6_know_58 : decode cX6_know 58 = .ok (.getfield 25, 3) := by decide +kernel
theorem dX6_know_61 : decode cX6_know 61 = .ok (.iaload, 1) := by decide +kernel
theorem dX6_know_62 : decode cX6_know 62 = .ok (.iastore, 1) := by decide +kernel
theorem dX6_know_63 : decode cX6_know 63 = .ok (.aload_n 0, 1) := by decide +kernel
theorem dX6_know_64 : decode cX6_know 64 = .ok (.dup, 1) := by decide +kernel
theorem dX6_know_65 : decode cX6_know 65 = .ok (.getfield 25, 3) := by decide +kernel
theorem dX6_know_68 : decode cX6_know 68 = .ok (.iconst 1, 1) := by decide +kernel
theorem dX6_know_69 : decode cX6_know 69 = .ok (.iadd, 1) := by decide +kernel
theorem dX6_know_70 : decode cX6_know 70 = .ok (.putfield 25, 3) := by decide +kernel
theorem dX6_know_73 : decode cX6_know 73 = .ok (.goto (-52), 3) := by decide +kernel
theorem dX6_know_76 : decode cX6_know 76 = .ok (.return_, 1) := by decide +kernel
theorem dX6_fallen_0 : decode cX6_fallen 0 = .ok (.iload_n 1, 1) := by decide +kernel
theorem dX6_fallen_1 : decode cX6_fallen 1 = .ok (.bipush 7, 2) := by decide +kernel
theorem dX6_fallen_3 : decode cX6_fallen 3 = .ok (.imul, 1) := by decide +kernel
theorem dX6_fallen_4 : decode cX6_fallen 4 = .ok (.iload_n 2, 1) := by decide +kernel
theorem dX6_fallen_5 : decode cX6_fallen 5 = .ok (.iadd, 1) := by decide +kernel
theorem dX6_fallen_6 : decode cX6_fallen 6 = .ok (.istore_n 3, 1) := by decide +kernel
theorem dX6_fallen_7 : decode cX6_fallen 7 = .ok (.iload_n 3, 1) := by decide +kernel
theorem dX6_fallen_8 : decode cX6_fallen 8 = .ok (.ifCond .lt 21, 3) := by decide +kernel
theorem dX6_fallen_11 : decode cX6_fallen 11 = .ok (.iload_n 3, 1) := by decide +kernel
theorem dX6_fallen_12 : decode cX6_fallen 12 = .ok (.aload_n 0, 1) := by decide +kernel
theorem dX6_fallen_13 : decode cX6_fallen 13 = .ok (.getfield 22, 3) := by decide +kernel
theorem dX6_fallen_16 : decode cX6_fallen 16 = .ok (.arraylength, 1) := by decide +kernel
theorem dX6_fallen_17 : decode cX6_fallen 17 = .ok (.if_icmp .ge 12, 3) := by decide +kernel
theorem dX6_fallen_20 : decode cX6_fallen 20 = .ok (.aload_n 0, 1) := by decide +kernel
theorem dX6_fallen_21 : decode cX6_fallen 21 = .ok (.getfield 22, 3) := by decide +kernel
theorem dX6_fallen_24 : decode cX6_fallen 24 = .ok (.iload_n 3, 1) := by decide +kernel
theorem dX6_fallen_25 : decode cX6_fallen 25 = .ok (.iaload, 1) := by decide +kernel
theorem dX6_fallen_26 : decode cX6_fallen 26 = .ok (.goto 4, 3) := by decide +kernel
theorem dX6_fallen_29 : decode cX6_fallen 29 = .ok (.iconst 0, 1) := by decide +kernel
theorem dX6_fallen_30 : decode cX6_fallen 30 = .ok (.ireturn, 1) := by decide +kernel
theorem dX7_init_0 : decode cX7_init 0 = .ok (.aload_n 0, 1) := by decide +kernel
theorem dX7_init_1 : decode cX7_init 1 = .ok (.invokespecial 3, 3) := by decide +kernel
theorem dX7_init_4 : decode cX7_init 4 = .ok (.aload_n 0, 1) := by decide +kernel
theorem dX7_init_5 : decode cX7_init 5 = .ok (.bipush 10, 2) := by decide +kernel
theorem dX7_init_7 : decode cX7_init 7 = .ok (.bipush 7, 2) := by decide +kernel
theorem dX7_init_9 : decode cX7_init 9 = .ok (.multianewarray 9 2, 4) := by decide +kernel
theorem dX7_init_13 : decode cX7_init 13 = .ok (.putfield 11, 3) := by decide +kernel
theorem dX7_init_16 : decode cX7_init 16 = .ok (.aload_n 0, 1) := by decide +kernel
theorem dX7_init_17 : decode cX7_init 17 = .ok (.bipush 7, 2) := by decide +kernel
theorem dX7_init_19 : decode cX7_init 19 = .ok (.newarray .int, 2) := by decide +kernel
theorem dX7_init_21 : decode cX7_init 21 = .ok (.putfield 16, 3) := by decide +kernel
theorem dX7_init_24 : decode cX7_init 24 = .ok (.aload_n 0, 1) := by decide +kernel
theorem dX7_init_25 : decode cX7_init 25 = .ok (.iconst (-1), 1) := by decide +kernel
theorem dX7_init_26 : decode cX7_init 26 = .ok (.putfield 20, 3) := by decide +kernel
theorem dX7_init_29 : decode cX7_init 29 = .ok (.aload_n 0, 1) := by decide +kernel
theorem dX7_init_30 : decode cX7_init 30 = .ok (.iconst 0, 1) := by decide +kernel
theorem dX7_init_31 : decode cX7_init 31 = .ok (.putfield 24, 3) := by decide +kernel
theorem dX7_init_34 : decode cX7_init 34 = .ok (.aload_n 0, 1) := by decide +kernel
theorem dX7_init_35 : decode cX7_init 35 = .ok (.iconst (-1), 1) := by decide +kernel
theorem dX7_init_36 : decode cX7_init 36 = .ok (.putfield 27, 3) := by decide +kernel
theorem dX7_init_39 : decode cX7_init 39 = .ok (.return_, 1) := by decide +kernel
theorem dX7_clear_0 : decode cX7_clear 0 = .ok (.iconst 0, 1) := by decide +kernel
theorem dX7_clear_1 : decode cX7_clear 1 = .ok (.istore_n 1, 1) := by decide +kernel
theorem dX7_clear_2 : decode cX7_clear 2 = .ok (.iload_n 1, 1) := by decide +kernel
theorem dX7_clear_3 : decode cX7_clear 3 = .ok (.bipush 10, 2) := by decide +kernel
theorem dX7_clear_5 : decode cX7_clear 5 = .ok (.if_icmp .ge 19, 3) := by decide +kernel
theorem dX7_clear_8 : decode cX7_clear 8 = .ok (.aload_n 0, 1) := by decide +kernel
theorem dX7_clear_9 : decode cX7_clear 9 = .ok (.getfield 11, 3) := by decide +kernel
theorem dX7_clear_12 : decode cX7_clear 12 = .ok (.iload_n 1, 1) := by decide +kernel
theorem dX7_clear_13 : decode cX7_clear 13 = .ok (.aaload, 1) := by decide +kernel
theorem dX7_clear_14 : decode cX7_clear 14 = .ok (.iconst 0, 1) := by decide +kernel
theorem dX7_clear_15 : decode cX7_clear 15 = .ok (.invokestatic 30, 3) := by decide +kernel
theorem dX7_clear_18 : decode cX7_clear 18 = .ok (.iinc 1 1, 3) := by decide +kernel
theorem dX7_clear_21 : decode cX7_clear 21 = .ok (.goto (-19), 3) := by decide +kernel
theorem dX7_clear_24 : decode cX7_clear 24 = .ok (.aload_n 0, 1) := by decide +kernel
theorem dX7_clear_25 : decode cX7_clear 25 = .ok (.getfield 16, 3) := by decide +kernel
theorem dX7_clear_28 : decode cX7_clear 28 = .ok (.iconst 0, 1) := by decide +kernel
theorem dX7_clear_29 : decode cX7_clear 29 = .ok (.invokestatic 30, 3) := by decide +kernel
theorem dX7_clear_32 : decode cX7_clear 32 = .ok (.aload_n 0, 1) := by decide +kernel
theorem dX7_clear_33 : decode cX7_clear 33 = .ok (.iconst (-1), 1) := by decide +kernel
theorem dX7_clear_34 : decode cX7_clear 34 = .ok (.putfield 20, 3) := by decide +kernel
theorem dX7_clear_37 : decode cX7_clear 37 = .ok (.aload_n 0, 1) := by decide +kernel
theorem dX7_clear_38 : decode cX7_clear 38 = .ok (.iconst 0, 1) := by decide +kernel
theorem dX7_clear_39 : decode cX7_clear 39 = .ok (.putfield 24, 3) := by decide +kernel
theorem dX7_clear_42 : decode cX7_clear 42 = .ok (.aload_n 0, 1) := by decide +kernel
theorem dX7_clear_43 : decode cX7_clear 43 = .ok (.iconst (-1), 1) := by decide +kernel
theorem dX7_clear_44 : decode cX7_clear 44 = .ok (.putfield 27, 3) := by decide +kernel
theorem dX7_clear_47 : decode cX7_clear 47 = .ok (.return_, 1) := by decide +kernel
theorem dX7_copy_0 : decode cX7_copy 0 = .ok (.iconst 0, 1) := by decide +kernel
theorem dX7_copy_1 : decode cX7_copy 1 = .ok (.istore_n 2, 1) := by decide +kernel
theorem dX7_copy_2 : decode cX7_copy 2 = .ok (.iload_n 2, 1) := by decide +kernel
theorem dX7_copy_3 : decode cX7_copy 3 = .ok (.bipush 10, 2) := by decide +kernel
theorem dX7_copy_5 : decode cX7_copy 5 = .ok (.if_icmp .ge 28, 3) := by decide +kernel
theorem dX7_copy_8 : decode cX7_copy 8 = .ok (.aload_n 1, 1) := by decide +kernel
theorem dX7_copy_9 : decode cX7_copy 9 = .ok (.getfield 11, 3) := by decide +kernel
theorem dX7_copy_12 : decode cX7_copy 12 = .ok (.iload_n 2, 1) := by decide +kernel
theorem dX7_copy_13 : decode cX7_copy 13 = .ok (.aaload, 1) := by decide +kernel
theorem dX7_copy_14 : decode cX7_copy 14 = .ok (.iconst 0, 1) := by decide +kernel
theorem dX7_copy_15 : decode cX7_copy 15 = .ok (.aload_n 0, 1) := by decide +kernel
theorem dX7_copy_16 : decode cX7_copy 16 = .ok (.getfield 11, 3) := by decide +kernel
theorem dX7_copy_19 : decode cX7_copy 19 = .ok (.iload_n 2, 1) := by decide +kernel
theorem dX7_copy_20 : decode cX7_copy 20 = .ok (.aaload, 1) := by decide +kernel
theorem dX7_copy_21 : decode cX7_copy 21 = .ok (.iconst 0, 1) := by decide +kernel
theorem dX7_copy_22 : decode cX7_copy 22 = .ok (.bipush 7, 2) := by decide +kernel
theorem dX7_copy_24 : decode cX7_copy 24 = .ok (.invokestatic 36, 3) := by decide +kernel
theorem dX7_copy_27 : decode cX7_copy 27 = .ok (.iinc 2 1, 3) := by decide +kernel
theorem dX7_copy_30 : decode cX7_copy 30 = .ok (.goto (-28), 3) := by decide +kernel
theorem dX7_copy_33 : decode cX7_copy 33 = .ok (.aload_n 1, 1) := by decide +kernel
theorem dX7_copy_34 : decode cX7_copy 34 = .ok (.getfield 16, 3) := by decide +kernel
theorem dX7_copy_37 : decode cX7_copy 37 = .ok (.iconst 0, 1) := by decide +kernel
theorem dX7_copy_38 : decode cX7_copy 38 = .ok (.aload_n 0, 1) := by decide +kernel
theorem dX7_copy_39 : decode cX7_copy 39 = .ok (.getfield 16, 3) := by decide +kernel
theorem dX7_copy_42 : decode cX7_copy 42 = .ok (.iconst 0, 1) := by decide +kernel
theorem dX7_copy_43 : decode cX7_copy 43 = .ok (.bipush 7, 2) := by decide +kernel
theorem dX7_copy_45 : decode cX7_copy 45 = .ok (.invokestatic 36, 3) := by decide +kernel
theorem dX7_copy_48 : decode cX7_copy 48 = .ok (.aload_n 0, 1) := by decide +kernel
theorem dX7_copy_49 : decode cX7_copy 49 = .ok (.aload_n 1, 1) := by decide +kernel
theorem dX7_copy_50 : decode cX7_copy 50 = .ok (.getfield 20, 3) := by decide +kernel
theorem dX7_copy_53 : decode cX7_copy 53 = .ok (.putfield 20, 3) := by decide +kernel
theorem dX7_copy_56 : decode cX7_copy 56 = .ok (.aload_n 0, 1) := by decide +kernel
theorem dX7_copy_57 : decode cX7_copy 57 = .ok (.aload_n 1, 1) := by decide +kernel
theorem dX7_copy_58 : decode cX7_copy 58 = .ok (.getfield 24, 3) := by decide +kernel
theorem dX7_copy_61 : decode cX7_copy 61 = .ok (.putfield 24, 3) := by decide +kernel
theorem dX7_copy_64 : decode cX7_copy 64 = .ok (.aload_n 0, 1) := by decide +kernel
theorem dX7_copy_65 : decode cX7_copy 65 = .ok (.aload_n 1, 1) := by decide +kernel
theorem dX7_copy_66 : decode cX7_copy 66 = .ok (.getfield 27, 3) := by decide +kernel
theorem dX7_copy_69 : decode cX7_copy 69 = .ok (.putfield 27, 3) := by decide +kernel
theorem dX7_copy_72 : decode cX7_copy 72 = .ok (.return_, 1) := by decide +kernel
theorem dX8_init_0 : decode cX8_init 0 = .ok (.aload_n 0, 1) := by decide +kernel
theorem dX8_init_1 : decode cX8_init 1 = .ok (.invokespecial 1, 3) := by decide +kernel
theorem dX8_init_4 : decode cX8_init 4 = .ok (.aload_n 0, 1) := by decide +kernel
theorem dX8_init_5 : decode cX8_init 5 = .ok (.iconst 0, 1) := by decide +kernel
theorem dX8_init_6 : decode cX8_init 6 = .ok (.putfield 7, 3) := by decide +kernel
theorem dX8_init_9 : decode cX8_init 9 = .ok (.aload_n 0, 1) := by decide +kernel
theorem dX8_init_10 : decode cX8_init 10 = .ok (.sipush 2000, 3) := by decide +kernel
theorem dX8_init_13 : decode cX8_init 13 = .ok (.newarray .byte, 2) := by decide +kernel
theorem dX8_init_15 : decode cX8_init 15 = .ok (.putfield 13, 3) := by decide +kernel
theorem dX8_init_18 : decode cX8_init 18 = .ok (.return_, 1) := by decide +kernel
theorem dX8_append_0 : decode cX8_append 0 = .ok (.bipush 24, 2) := by decide +kernel
theorem dX8_append_2 : decode cX8_append 2 = .ok (.istore_n 2, 1) := by decide +kernel
theorem dX8_append_3 : decode cX8_append 3 = .ok (.iload_n 2, 1) := by decide +kernel
theorem dX8_append_4 : decode cX8_append 4 = .ok (.ifCond .lt 42, 3) := by decide +kernel
theorem dX8_append_7 : decode cX8_append 7 = .ok (.aload_n 0, 1) := by decide +kernel
theorem dX8_append_8 : decode cX8_append 8 = .ok (.getfield 7, 3) := by decide +kernel
theorem dX8_append_11 : decode cX8_append 11 = .ok (.sipush 2000, 3) := by decide +kernel
theorem dX8_append_14 : decode cX8_append 14 = .ok (.if_icmp .ge 32, 3) := by decide +kernel
theorem dX8_append_17 : decode cX8_append 17 = .ok (.aload_n 0, 1) := by decide +kernel
theorem dX8_append_18 : decode cX8_append 18 = .ok (.getfield 13, 3) := by decide +kernel
theorem dX8_append_21 : decode cX8_append 21 = .ok (.aload_n 0, 1) := by decide +kernel
theorem dX8_append_22 : decode cX8_append 22 = .ok (.getfield 7, 3) := by decide +kernel
theorem dX8_append_25 : decode cX8_append 25 = .ok (.iload_n 1, 1) := by decide +kernel
theorem dX8_append_26 : decode cX8_append 26 = .ok (.iload_n 2, 1) := by decide +kernel
theorem dX8_append_27 : decode cX8_append 27 = .ok (.ishr, 1) := by decide +kernel
theorem dX8_append_28 : decode cX8_append 28 = .ok (.i2b, 1) := by decide +kernel
theorem dX8_append_29 : decode cX8_append 29 = .ok (.bastore, 1) := by decide +kernel
theorem dX8_append_30 : decode cX8_append 30 = .ok (.aload_n 0, 1) := by decide +kernel
theorem dX8_append_31 : decode cX8_append 31 = .ok (.dup, 1) := by decide +kernel
theorem dX8_append_32 : decode cX8_append 32 = .ok (.getfield 7, 3) := by decide +kernel
theorem dX8_append_35 : decode cX8_append 35 = .ok (.iconst 1, 1) := by decide +kernel
theorem dX8_append_36 : decode cX8_append 36 = .ok (.iadd, 1) := by decide +kernel
theorem dX8_append_37 : decode cX8_append 37 = .ok (.putfield 7, 3) := by decide +kernel
theorem dX8_append_40 : decode cX8_append 40 = .ok (.iinc 2 (-8), 3) := by decide +kernel
theorem dX8_append_43 : decode cX8_append 43 = .ok (.goto (-40), 3) := by decide +kernel
theorem dX8_append_46 : decode cX8_append 46 = .ok (.return_, 1) := by decide +kernel
theorem dX8_peek_0 : decode cX8_peek 0 = .ok (.iload_n 1, 1) := by decide +kernel
theorem dX8_peek_1 : decode cX8_peek 1 = .ok (.ifCond .lt 24, 3) := by decide +kernel
theorem dX8_peek_4 : decode cX8_peek 4 = .ok (.iload_n 1, 1) := by decide +kernel
theorem dX8_peek_5 : decode cX8_peek 5 = .ok (.aload_n 0, 1) := by decide +kernel
theorem dX8_peek_6 : decode cX8_peek 6 = .ok (.getfield 7, 3) := by decide +kernel
theorem dX8_peek_9 : decode cX8_peek 9 = .ok (.if_icmp .ge 16, 3) := by decide +kernel
theorem dX8_peek_12 : decode cX8_peek 12 = .ok (.aload_n 0, 1) := by decide +kernel
theorem dX8_peek_13 : decode cX8_peek 13 = .ok (.getfield 13, 3) := by decide +kernel
theorem dX8_peek_16 : decode cX8_peek 16 = .ok (.iload_n 1, 1) := by decide +kernel
theorem dX8_peek_17 : decode cX8_peek 17 = .ok (.baload, 1) := by decide +kernel
theorem dX8_peek_18 : decode cX8_peek 18 = .ok (.sipush 255, 3) := by decide +kernel
theorem dX8_peek_21 : decode cX8_peek 21 = .ok (.iand, 1) := by decide +kernel
theorem dX8_peek_22 : decode cX8_peek 22 = .ok (.goto 4, 3) := by decide +kernel
theorem dX8_peek_25 : decode cX8_peek 25 = .ok (.iconst (-1), 1) := by decide +kernel
theorem dX8_peek_26 : decode cX8_peek 26 = .ok (.ireturn, 1) := by decide +kernel
theorem dX9_init_0 : decode cX9_init 0 = .ok (.aload_n 0, 1) := by decide +kernel
theorem dX9_init_1 : decode cX9_init 1 = .ok (.invokespecial 1, 3) := by decide +kernel
theorem dX9_init_4 : decode cX9_init 4 = .ok (.aload_n 0, 1) := by decide +kernel
theorem dX9_init_5 : decode cX9_init 5 = .ok (.sipush 601, 3) := by decide +kernel
theorem dX9_init_8 : decode cX9_init 8 = .ok (.newarray .int, 2) := by decide +kernel
theorem dX9_init_10 : decode cX9_init 10 = .ok (.putfield 9, 3) := by decide +kernel
theorem dX9_init_13 : decode cX9_init 13 = .ok (.aload_n 0, 1) := by decide +kernel
theorem dX9_init_14 : decode cX9_init 14 = .ok (.sipush 601, 3) := by decide +kernel
theorem dX9_init_17 : decode cX9_init 17 = .ok (.newarray .int, 2) := by decide +kernel
theorem dX9_init_19 : decode cX9_init 19 = .ok (.putfield 13, 3) := by decide +kernel
theorem dX9_init_22 : decode cX9_init 22 = .ok (.aload_n 0, 1) := by decide +kernel
theorem dX9_init_23 : decode cX9_init 23 = .ok (.sipush 601, 3) := by decide +kernel
theorem dX9_init_26 : decode cX9_init 26 = .ok (.newarray .int, 2) := by decide +kernel
theorem dX9_init_28 : decode cX9_init 28 = .ok (.putfield 16, 3) := by decide +kernel
theorem dX9_init_31 : decode cX9_init 31 = .ok (.return_, 1) := by decide +kernel
theorem dX9_scan_0 : decode cX9_scan 0 = .ok (.iconst 0, 1) := by decide +kernel
theorem dX9_scan_1 : decode cX9_scan 1 = .ok (.istore_n 2, 1) := by decide +kernel
theorem dX9_scan_2 : decode cX9_scan 2 = .ok (.iconst 0, 1) := by decide +kernel
theorem dX9_scan_3 : decode cX9_scan 3 = .ok (.istore_n 3, 1) := by decide +kernel
theorem dX9_scan_4 : decode cX9_scan 4 = .ok (.iload_n 3, 1) := by decide +kernel
theorem dX9_scan_5 : decode cX9_scan 5 = .ok (.sipush 600, 3) := by decide +kernel
theorem dX9_scan_8 : decode cX9_scan 8 = .ok (.if_icmp .gt 112, 3) := by decide +kernel
theorem dX9_scan_11 : decode cX9_scan 11 = .ok (.iload_n 2, 1) := by decide +kernel
theorem dX9_scan_12 : decode cX9_scan 12 = .ok (.aload_n 1, 1) := by decide +kernel
theorem dX9_scan_13 : decode cX9_scan 13 = .ok (.getfield 19, 3) := by decide +kernel
theorem dX9_scan_16 : decode cX9_scan 16 = .ok (.if_icmp .ge 21, 3) := by decide +kernel
theorem dX9_scan_19 : decode cX9_scan 19 = .ok (.aload_n 1, 1) := by decide +kernel
theorem dX9_scan_20 : decode cX9_scan 20 = .ok (.iload_n 2, 1) := by decide +kernel
theorem dX9_scan_21 : decode cX9_scan 21 = .ok (.invokevirtual 25, 3) := by decide +kernel
theorem dX9_scan_24 : decode cX9_scan 24 = .ok (.invokestatic 29, 3) := by decide +kernel
theorem dX9_scan_27 : decode cX9_scan 27 = .ok (.iconst 3, 1) := by decide +kernel
theorem dX9_scan_28 : decode cX9_scan 28 = .ok (.if_icmp .ne 9, 3) := by decide +kernel
theorem dX9_scan_31 : decode cX9_scan 31 = .ok (.iinc 2 1, 3) := by decide +kernel
theorem dX9_scan_34 : decode cX9_scan 34 = .ok (.goto (-23), 3) := by decide +kernel
theorem dX9_scan_37 : decode cX9_scan 37 = .ok (.aload_n 1, 1) := by decide +kernel
theorem dX9_scan_38 : decode cX9_scan 38 = .ok (.iload_n 2, 1) := by decide +kernel
theorem dX9_scan_39 : decode cX9_scan 39 = .ok (.invokestatic 32, 3) := by decide +kernel
theorem dX9_scan_42 : decode cX9_scan 42 = .ok (.istore 4, 2) := by decide +kernel
theorem dX9_scan_44 : decode cX9_scan 44 = .ok (.aload_n 0, 1) := by decide +kernel
theorem dX9_scan_45 : decode cX9_scan 45 = .ok (.getfield 13, 3) := by decide +kernel
theorem dX9_scan_48 : decode cX9_scan 48 = .ok (.iload_n 3, 1) := by decide +kernel
theorem dX9_scan_49 : decode cX9_scan 49 = .ok (.iload_n 2, 1) := by decide +kernel
theorem dX9_scan_50 : decode cX9_scan 50 = .ok (.iastore, 1) := by decide +kernel
theorem dX9_scan_51 : decode cX9_scan 51 = .ok (.aload_n 0, 1) := by decide +kernel
theorem dX9_scan_52 : decode cX9_scan 52 = .ok (.getfield 9, 3) := by decide +kernel
theorem dX9_scan_55 : decode cX9_scan 55 = .ok (.iload_n 3, 1) := by decide +kernel
theorem dX9_scan_56 : decode cX9_scan 56 = .ok (.aload_n 1, 1) := by decide +kernel
theorem dX9_scan_57 : decode cX9_scan 57 = .ok (.iload_n 2, 1) := by decide +kernel
theorem dX9_scan_58 : decode cX9_scan 58 = .ok (.iload 4, 2) := by decide +kernel
theorem dX9_scan_60 : decode cX9_scan 60 = .ok (.invokestatic 36, 3) := by decide +kernel
theorem dX9_scan_63 : decode cX9_scan 63 = .ok (.iastore, 1) := by decide +kernel
theorem dX9_scan_64 : decode cX9_scan 64 = .ok (.aload_n 0, 1) := by decide +kernel
theorem dX9_scan_65 : decode cX9_scan 65 = .ok (.getfield 9, 3) := by decide +kernel
theorem dX9_scan_68 : decode cX9_scan 68 = .ok (.iload_n 3, 1) := by decide +kernel
theorem dX9_scan_69 : decode cX9_scan 69 = .ok (.iaload, 1) := by decide +kernel
theorem dX9_scan_70 : decode cX9_scan 70 = .ok (.ifCond .eq 13, 3) := by decide +kernel
theorem dX9_scan_73 : decode cX9_scan 73 = .ok (.aload_n 0, 1) := by decide +kernel
theorem dX9_scan_74 : decode cX9_scan 74 = .ok (.getfield 9, 3) := by decide +kernel
theorem dX9_scan_77 : decode cX9_scan 77 = .ok (.iload_n 3, 1) := by decide +kernel
theorem dX9_scan_78 : decode cX9_scan 78 = .ok (.iaload, 1) := by decide +kernel
theorem dX9_scan_79 : decode cX9_scan 79 = .ok (.iconst 1, 1) := by decide +kernel
theorem dX9_scan_80 : decode cX9_scan 80 = .ok (.if_icmp .ne 4, 3) := by decide +kernel
theorem dX9_scan_83 : decode cX9_scan 83 = .ok (.return_, 1) := by decide +kernel
theorem dX9_scan_84 : decode cX9_scan 84 = .ok (.aload_n 0, 1) := by decide +kernel
theorem dX9_scan_85 : decode cX9_scan 85 = .ok (.getfield 16, 3) := by decide +kernel
theorem dX9_scan_88 : decode cX9_scan 88 = .ok (.iload_n 3, 1) := by decide +kernel
theorem dX9_scan_89 : decode cX9_scan 89 = .ok (.aload_n 0, 1) := by decide +kernel
theorem dX9_scan_90 : decode cX9_scan 90 = .ok (.getfield 9, 3) := by decide +kernel
theorem dX9_scan_93 : decode cX9_scan 93 = .ok (.iload_n 3, 1) := by decide +kernel
theorem dX9_scan_94 : decode cX9_scan 94 = .ok (.iaload, 1) := by decide +kernel
theorem dX9_scan_95 : decode cX9_scan 95 = .ok (.iconst 2, 1) := by decide +kernel
theorem dX9_scan_96 : decode cX9_scan 96 = .ok (.if_icmp .ne 13, 3) := by decide +kernel
theorem dX9_scan_99 : decode cX9_scan 99 = .ok (.aload_n 1, 1) := by decide +kernel
theorem dX9_scan_100 : decode cX9_scan 100 = .ok (.iload_n 2, 1) := by decide +kernel
theorem dX9_scan_101 : decode cX9_scan 101 = .ok (.iload 4, 2) := by decide +kernel
theorem dX9_scan_103 : decode cX9_scan 103 = .ok (.invokestatic 40, 3) := by decide +kernel
theorem dX9_scan_106 : decode cX9_scan 106 = .ok (.goto 4, 3) := by decide +kernel
theorem dX9_scan_109 : decode cX9_scan 109 = .ok (.iconst 0, 1) := by decide +kernel
theorem dX9_scan_110 : decode cX9_scan 110 = .ok (.iastore, 1) := by decide +kernel
theorem dX9_scan_111 : decode cX9_scan 111 = .ok (.iload 4, 2) := by decide +kernel
theorem dX9_scan_113 : decode cX9_scan 113 = .ok (.istore_n 2, 1) := by decide +kernel
theorem dX9_scan_114 : decode cX9_scan 114 = .ok (.iinc 3 1, 3) := by decide +kernel
theorem dX9_scan_117 : decode cX9_scan 117 = .ok (.goto (-113), 3) := by decide +kernel
theorem dX9_scan_120 : decode cX9_scan 120 = .ok (.return_, 1) := by decide +kernel
theorem dX9_name_0 : decode cX9_name 0 = .ok (.lconst 0, 1) := by decide +kernel
theorem dX9_name_1 : decode cX9_name 1 = .ok (.lstore_n 3, 1) := by decide +kernel
theorem dX9_name_2 : decode cX9_name 2 = .ok (.aload_n 0, 1) := by decide +kernel
theorem dX9_name_3 : decode cX9_name 3 = .ok (.getfield 13, 3) := by decide +kernel
theorem dX9_name_6 : decode cX9_name 6 = .ok (.iload_n 2, 1) := by decide +kernel
theorem dX9_name_7 : decode cX9_name 7 = .ok (.iaload, 1) := by decide +kernel
theorem dX9_name_8 : decode cX9_name 8 = .ok (.istore 5, 2) := by decide +kernel
theorem dX9_name_10 : decode cX9_name 10 = .ok (.iconst 0, 1) := by decide +kernel
theorem dX9_name_11 : decode cX9_name 11 = .ok (.istore 6, 2) := by decide +kernel
theorem dX9_name_13 : decode cX9_name 13 = .ok (.iload 6, 2) := by decide +kernel
theorem dX9_name_15 : decode cX9_name 15 = .ok (.bipush 8, 2) := by decide +kernel
theorem dX9_name_17 : decode cX9_name 17 = .ok (.if_icmp .ge 48, 3) := by decide +kernel
theorem dX9_name_20 : decode cX9_name 20 = .ok (.aload_n 1, 1) := by decide +kernel
theorem dX9_name_21 : decode cX9_name 21 = .ok (.iload 5, 2) := by decide +kernel
theorem dX9_name_23 : decode cX9_name 23 = .ok (.iload 6, 2) := by decide +kernel
theorem dX9_name_25 : decode cX9_name 25 = .ok (.iadd, 1) := by decide +kernel
theorem dX9_name_26 : decode cX9_name 26 = .ok (.invokevirtual 25, 3) := by decide +kernel
theorem dX9_name_29 : decode cX9_name 29 = .ok (.invokestatic 29, 3) := by decide +kernel
theorem dX9_name_32 : decode cX9_name 32 = .ok (.iconst 1, 1) := by decide +kernel
theorem dX9_name_33 : decode cX9_name 33 = .ok (.if_icmp .ne 32, 3) := by decide +kernel
theorem dX9_name_36 : decode cX9_name 36 = .ok (.ldc2_w 43, 3) := by decide +kernel
theorem dX9_name_39 : decode cX9_name 39 = .ok (.lload_n 3, 1) := by decide +kernel
theorem dX9_name_40 : decode cX9_name 40 = .ok (.lmul, 1) := by decide +kernel
theorem dX9_name_41 : decode cX9_name 41 = .ok (.aload_n 1, 1) := by decide +kernel
theorem dX9_name_42 : decode cX9_name 42 = .ok (.iload 5, 2) := by decide +kernel
theorem dX9_name_44 : decode cX9_name 44 = .ok (.iload 6, 2) := by decide +kernel
theorem dX9_name_46 : decode cX9_name 46 = .ok (.iadd, 1) := by decide +kernel
theorem dX9_name_47 : decode cX9_name 47 = .ok (.invokevirtual 25, 3) := by decide +kernel
theorem dX9_name_50 : decode cX9_name 50 = .ok (.i2l, 1) := by decide +kernel
theorem dX9_name_51 : decode cX9_name 51 = .ok (.ladd, 1) := by decide +kernel
theorem dX9_name_52 : decode cX9_name 52 = .ok (.ldc2_w 45, 3) := by decide +kernel
theorem dX9_name_55 : decode cX9_name 55 = .ok (.lsub, 1) := by decide +kernel
theorem dX9_name_56 : decode cX9_name 56 = .ok (.lconst 1, 1) := by decide +kernel
theorem dX9_name_57 : decode cX9_name 57 = .ok (.ladd, 1) := by decide +kernel
theorem dX9_name_58 : decode cX9_name 58 = .ok (.lstore_n 3, 1) := by decide +kernel
theorem dX9_name_59 : decode cX9_name 59 = .ok (.iinc 6 1, 3) := by decide +kernel
theorem dX9_name_62 : decode cX9_name 62 = .ok (.goto (-49), 3) := by decide +kernel
theorem dX9_name_65 : decode cX9_name 65 = .ok (.lload_n 3, 1) := by decide +kernel
theorem dX9_name_66 : decode cX9_name 66 = .ok (.lreturn, 1) := by decide +kernel
theorem dX9_numberOf_0 : decode cX9_numberOf 0 = .ok (.iconst 0, 1) := by decide +kernel
theorem dX9_numberOf_1 : decode cX9_numberOf 1 = .ok (.istore_n 3, 1) := by decide +kernel
theorem dX9_numberOf_2 : decode cX9_numberOf 2 = .ok (.iload_n 1, 1) := by decide +kernel
theorem dX9_numberOf_3 : decode cX9_numberOf 3 = .ok (.istore 4, 2) := by decide +kernel
theorem dX9_numberOf_5 : decode cX9_numberOf 5 = .ok (.iload 4, 2) := by decide +kernel
theorem dX9_numberOf_7 : decode cX9_numberOf 7 = .ok (.iload_n 2, 1) := by decide +kernel
theorem dX9_numberOf_8 : decode cX9_numberOf 8 = .ok (.if_icmp .ge 24, 3) := by decide +kernel
theorem dX9_numberOf_11 : decode cX9_numberOf 11 = .ok (.bipush 10, 2) := by decide +kernel
theorem dX9_numberOf_13 : decode cX9_numberOf 13 = .ok (.iload_n 3, 1) := by decide +kernel
theorem dX9_numberOf_14 : decode cX9_numberOf 14 = .ok (.imul, 1) := by decide +kernel
theorem dX9_numberOf_15 : decode cX9_numberOf 15 = .ok (.aload_n 0, 1) := by decide +kernel
theorem dX9_numberOf_16 : decode cX9_numberOf 16 = .ok (.iload 4, 2) := by decide +kernel
theorem dX9_numberOf_18 : decode cX9_numberOf 18 = .ok (.invokevirtual 25, 3) := by decide +kernel
theorem dX9_numberOf_21 : decode cX9_numberOf 21 = .ok (.iadd, 1) := by decide +kernel
theorem dX9_numberOf_22 : decode cX9_numberOf 22 = .ok (.bipush 48, 2) := by decide +kernel
theorem dX9_numberOf_24 : decode cX9_numberOf 24 = .ok (.isub, 1) := by decide +kernel
theorem dX9_numberOf_25 : decode cX9_numberOf 25 = .ok (.istore_n 3, 1) := by decide +kernel
theorem dX9_numberOf_26 : decode cX9_numberOf 26 = .ok (.iinc 4 1, 3) := by decide +kernel
theorem dX9_numberOf_29 : decode cX9_numberOf 29 = .ok (.goto (-24), 3) := by decide +kernel
theorem dX9_numberOf_32 : decode cX9_numberOf 32 = .ok (.iload_n 3, 1) := by decide +kernel
theorem dX9_numberOf_33 : decode cX9_numberOf 33 = .ok (.ireturn, 1) := by decide +kernel
theorem dX9_sortOf_0 : decode cX9_sortOf 0 = .ok (.iload_n 0, 1) := by decide +kernel
theorem dX9_sortOf_1 : decode cX9_sortOf 1 = .ok (.bipush 97, 2) := by decide +kernel
theorem dX9_sortOf_3 : decode cX9_sortOf 3 = .ok (.if_icmp .lt 11, 3) := by decide +kernel
theorem dX9_sortOf_6 : decode cX9_sortOf 6 = .ok (.iload_n 0, 1) := by decide +kernel
theorem dX9_sortOf_7 : decode cX9_sortOf 7 = .ok (.bipush 122, 2) := by decide +kernel
theorem dX9_sortOf_9 : decode cX9_sortOf 9 = .ok (.if_icmp .gt 5, 3) := by decide +kernel
theorem dX9_sortOf_12 : decode cX9_sortOf 12 = .ok (.iconst 1, 1) := by decide +kernel
theorem dX9_sortOf_13 : decode cX9_sortOf 13 = .ok (.ireturn, 1) := by decide +kernel
theorem dX9_sortOf_14 : decode cX9_sortOf 14 = .ok (.iload_n 0, 1) := by decide +kernel
theorem dX9_sortOf_15 : decode cX9_sortOf 15 = .ok (.bipush 48, 2) := by decide +kernel
theorem dX9_sortOf_17 : decode cX9_sortOf 17 = .ok (.if_icmp .lt 11, 3) := by decide +kernel
theorem dX9_sortOf_20 : decode cX9_sortOf 20 = .ok (.iload_n 0, 1) := by decide +kernel
theorem dX9_sortOf_21 : decode cX9_sortOf 21 = .ok (.bipush 57, 2) := by decide +kernel
theorem dX9_sortOf_23 : decode cX9_sortOf 23 = .ok (.if_icmp .gt 5, 3) := by decide +kernel
theorem dX9_sortOf_26 : decode cX9_sortOf 26 = .ok (.iconst 2, 1) := by decide +kernel
theorem dX9_sortOf_27 : decode cX9_sortOf 27 = .ok (.ireturn, 1) := by decide +kernel
theorem dX9_sortOf_28 : decode cX9_sortOf 28 = .ok (.iload_n 0, 1) := by decide +kernel
theorem dX9_sortOf_29 : decode cX9_sortOf 29 = .ok (.bipush 9, 2) := by decide +kernel
theorem dX9_sortOf_31 : decode cX9_sortOf 31 = .ok (.if_icmp .eq 21, 3) := by decide +kernel
theorem dX9_sortOf_34 : decode cX9_sortOf 34 = .ok (.iload_n 0, 1) := by decide +kernel
theorem dX9_sortOf_35 : decode cX9_sortOf 35 = .ok (.bipush 10, 2) := by decide +kernel
theorem dX9_sortOf_37 : decode cX9_sortOf 37 = .ok (.if_icmp .eq 15, 3) := by decide +kernel
theorem dX9_sortOf_40 : decode cX9_sortOf 40 = .ok (.iload_n 0, 1) := by decide +kernel
theorem dX9_sortOf_41 : decode cX9_sortOf 41 = .ok (.bipush 13, 2) := by decide +kernel
theorem dX9_sortOf_43 : decode cX9_sortOf 43 = .ok (.if_icmp .eq 9, 3) := by decide +kernel
theorem dX9_sortOf_46 : decode cX9_sortOf 46 = .ok (.iload_n 0, 1) := by decide +kernel
theorem dX9_sortOf_47 : decode cX9_sortOf 47 = .ok (.bipush 32, 2) := by decide +kernel
theorem dX9_sortOf_49 : decode cX9_sortOf 49 = .ok (.if_icmp .ne 7, 3) := by decide +kernel
theorem dX9_sortOf_52 : decode cX9_sortOf 52 = .ok (.iconst 3, 1) := by decide +kernel
theorem dX9_sortOf_53 : decode cX9_sortOf 53 = .ok (.goto 4, 3) := by decide +kernel
theorem dX9_sortOf_56 : decode cX9_sortOf 56 = .ok (.iconst 0, 1) := by decide +kernel
theorem dX9_sortOf_57 : decode cX9_sortOf 57 = .ok (.ireturn, 1) := by decide +kernel
theorem dX9_endOf_0 : decode cX9_endOf 0 = .ok (.aload_n 0, 1) := by decide +kernel
theorem dX9_endOf_1 : decode cX9_endOf 1 = .ok (.iload_n 1, 1) := by decide +kernel
theorem dX9_endOf_2 : decode cX9_endOf 2 = .ok (.invokevirtual 25, 3) := by decide +kernel
theorem dX9_endOf_5 : decode cX9_endOf 5 = .ok (.istore_n 2, 1) := by decide +kernel
theorem dX9_endOf_6 : decode cX9_endOf 6 = .ok (.iload_n 2, 1) := by decide +kernel
theorem dX9_endOf_7 : decode cX9_endOf 7 = .ok (.invokestatic 29, 3) := by decide +kernel
theorem dX9_endOf_10 : decode cX9_endOf 10 = .ok (.istore_n 3, 1) := by decide +kernel
theorem dX9_endOf_11 : decode cX9_endOf 11 = .ok (.iload_n 1, 1) := by decide +kernel
theorem dX9_endOf_12 : decode cX9_endOf 12 = .ok (.iconst 1, 1) := by decide +kernel
theorem dX9_endOf_13 : decode cX9_endOf 13 = .ok (.iadd, 1) := by decide +kernel
theorem dX9_endOf_14 : decode cX9_endOf 14 = .ok (.istore 4, 2) := by decide +kernel
theorem dX9_endOf_16 : decode cX9_endOf 16 = .ok (.iload_n 3, 1) := by decide +kernel
theorem dX9_endOf_17 : decode cX9_endOf 17 = .ok (.ifCond .ne 54, 3) := by decide +kernel
theorem dX9_endOf_20 : decode cX9_endOf 20 = .ok (.iload_n 2, 1) := by decide +kernel
theorem dX9_endOf_21 : decode cX9_endOf 21 = .ok (.bipush 61, 2) := by decide +kernel
theorem dX9_endOf_23 : decode cX9_endOf 23 = .ok (.if_icmp .eq 15, 3) := by decide +kernel
theorem dX9_endOf_26 : decode cX9_endOf 26 = .ok (.iload_n 2, 1) := by decide +kernel
theorem dX9_endOf_27 : decode cX9_endOf 27 = .ok (.bipush 33, 2) := by decide +kernel
theorem dX9_endOf_29 : decode cX9_endOf 29 = .ok (.if_icmp .eq 9, 3) := by decide +kernel
theorem dX9_endOf_32 : decode cX9_endOf 32 = .ok (.iload_n 2, 1) := by decide +kernel
theorem dX9_endOf_33 : decode cX9_endOf 33 = .ok (.bipush 60, 2) := by decide +kernel
theorem dX9_endOf_35 : decode cX9_endOf 35 = .ok (.if_icmp .ne 18, 3) := by decide +kernel
theorem dX9_endOf_38 : decode cX9_endOf 38 = .ok (.aload_n 0, 1) := by decide +kernel
theorem dX9_endOf_39 : decode cX9_endOf 39 = .ok (.iload 4, 2) := by decide +kernel
theorem dX9_endOf_41 : decode cX9_endOf 41 = .ok (.invokevirtual 25, 3) := by decide +kernel
theorem dX9_endOf_44 : decode cX9_endOf 44 = .ok (.bipush 61, 2) := by decide +kernel
theorem dX9_endOf_46 : decode cX9_endOf 46 = .ok (.if_icmp .ne 7, 3) := by decide +kernel
theorem dX9_endOf_49 : decode cX9_endOf 49 = .ok (.iconst 1, 1) := by decide +kernel
theorem dX9_endOf_50 : decode cX9_endOf 50 = .ok (.goto 4, 3) := by decide +kernel
theorem dX9_endOf_53 : decode cX9_endOf 53 = .ok (.iconst 0, 1) := by decide +kernel
theorem dX9_endOf_54 : decode cX9_endOf 54 = .ok (.istore 5, 2) := by decide +kernel
theorem dX9_endOf_56 : decode cX9_endOf 56 = .ok (.iload 5, 2) := by decide +kernel
theorem dX9_endOf_58 : decode cX9_endOf 58 = .ok (.ifCond .eq 10, 3) := by decide +kernel
theorem dX9_endOf_61 : decode cX9_endOf 61 = .ok (.iload 4, 2) := by decide +kernel
theorem dX9_endOf_63 : decode cX9_endOf 63 = .ok (.iconst 1, 1) := by decide +kernel
theorem dX9_endOf_64 : decode cX9_endOf 64 = .ok (.iadd, 1) := by decide +kernel
theorem dX9_endOf_65 : decode cX9_endOf 65 = .ok (.goto 5, 3) := by decide +kernel
theorem dX9_endOf_68 : decode cX9_endOf 68 = .ok (.iload 4, 2) := by decide +kernel
theorem dX9_endOf_70 : decode cX9_endOf 70 = .ok (.ireturn, 1) := by decide +kernel
theorem dX9_endOf_71 : decode cX9_endOf 71 = .ok (.iload 4, 2) := by decide +kernel
theorem dX9_endOf_73 : decode cX9_endOf 73 = .ok (.aload_n 0, 1) := by decide +kernel
theorem dX9_endOf_74 : decode cX9_endOf 74 = .ok (.getfield 19, 3) := by decide +kernel
theorem dX9_endOf_77 : decode cX9_endOf 77 = .ok (.if_icmp .ge 22, 3) := by decide +kernel
theorem dX9_endOf_80 : decode cX9_endOf 80 = .ok (.aload_n 0, 1) := by decide +kernel
theorem dX9_endOf_81 : decode cX9_endOf 81 = .ok (.iload 4, 2) := by decide +kernel
theorem dX9_endOf_83 : decode cX9_endOf 83 = .ok (.invokevirtual 25, 3) := by decide +kernel
theorem dX9_endOf_86 : decode cX9_endOf 86 = .ok (.invokestatic 29, 3) := by decide +kernel
theorem dX9_endOf_89 : decode cX9_endOf 89 = .ok (.iload_n 3, 1) := by decide +kernel
theorem dX9_endOf_90 : decode cX9_endOf 90 = .ok (.if_icmp .ne 9, 3) := by decide +kernel
theorem dX9_endOf_93 : decode cX9_endOf 93 = .ok (.iinc 4 1, 3) := by decide +kernel
theorem dX9_endOf_96 : decode cX9_endOf 96 = .ok (.goto (-25), 3) := by decide +kernel
theorem dX9_endOf_99 : decode cX9_endOf 99 = .ok (.iload 4, 2) := by decide +kernel
theorem dX9_endOf_101 : decode cX9_endOf 101 = .ok (.ireturn, 1) := by decide +kernel
theorem dX9_kindOf_0 : decode cX9_kindOf 0 = .ok (.aload_n 0, 1) := by decide +kernel
theorem dX9_kindOf_1 : decode cX9_kindOf 1 = .ok (.iload_n 1, 1) := by decide +kernel
theorem dX9_kindOf_2 : decode cX9_kindOf 2 = .ok (.invokevirtual 25, 3) := by decide +kernel
theorem dX9_kindOf_5 : decode cX9_kindOf 5 = .ok (.istore_n 3, 1) := by decide +kernel
theorem dX9_kindOf_6 : decode cX9_kindOf 6 = .ok (.iload_n 3, 1) := by decide +kernel
theorem dX9_kindOf_7 : decode cX9_kindOf 7 = .ok (.invokestatic 29, 3) := by decide +kernel
theorem dX9_kindOf_10 : decode cX9_kindOf 10 = .ok (.lookupswitch 58 #[(1, 26), (2, 45)], 26) := by decide +kernel
theorem dX9_kindOf_36 : decode cX9_kindOf 36 = .ok (.iload_n 2, 1) := by decide +kernel
theorem dX9_kindOf_37 : decode cX9_kindOf 37 = .ok (.iload_n 1, 1) := by decide +kernel
theorem dX9_kindOf_38 : decode cX9_kindOf 38 = .ok (.isub, 1) := by decide +kernel
theorem dX9_kindOf_39 : decode cX9_kindOf 39 = .ok (.bipush 8, 2) := by decide +kernel
theorem dX9_kindOf_41 : decode cX9_kindOf 41 = .ok (.if_icmp .le 7, 3) := by decide +kernel
theorem dX9_kindOf_44 : decode cX9_kindOf 44 = .ok (.iconst 1, 1) := by decide +kernel
theorem dX9_kindOf_45 : decode cX9_kindOf 45 = .ok (.goto 9, 3) := by decide +kernel
theorem dX9_kindOf_48 : decode cX9_kindOf 48 = .ok (.aload_n 0, 1) := by decide +kernel
theorem dX9_kindOf_49 : decode cX9_kindOf 49 = .ok (.iload_n 1, 1) := by decide +kernel
theorem dX9_kindOf_50 : decode cX9_kindOf 50 = .ok (.iload_n 2, 1) := by decide +kernel
theorem dX9_kindOf_51 : decode cX9_kindOf 51 = .ok (.invokestatic 47, 3) := by decide +kernel
theorem dX9_kindOf_54 : decode cX9_kindOf 54 = .ok (.ireturn, 1) := by decide +kernel
theorem dX9_kindOf_55 : decode cX9_kindOf 55 = .ok (.iload_n 2, 1) := by decide +kernel
theorem dX9_kindOf_56 : decode cX9_kindOf 56 = .ok (.iload_n 1, 1) := by decide +kernel
theorem dX9_kindOf_57 : decode cX9_kindOf 57 = .ok (.isub, 1) := by decide +kernel
theorem dX9_kindOf_58 : decode cX9_kindOf 58 = .ok (.iconst 4, 1) := by decide +kernel
theorem dX9_kindOf_59 : decode cX9_kindOf 59 = .ok (.if_icmp .le 7, 3) := by decide +kernel
theorem dX9_kindOf_62 : decode cX9_kindOf 62 = .ok (.iconst 1, 1) := by decide +kernel
theorem dX9_kindOf_63 : decode cX9_kindOf 63 = .ok (.goto 4, 3) := by decide +kernel
theorem dX9_kindOf_66 : decode cX9_kindOf 66 = .ok (.iconst 2, 1) := by decide +kernel
theorem dX9_kindOf_67 : decode cX9_kindOf 67 = .ok (.ireturn, 1) := by decide +kernel
theorem dX9_kindOf_68 : decode cX9_kindOf 68 = .ok (.iload_n 3, 1) := by decide +kernel
theorem dX9_kindOf_69 : decode cX9_kindOf 69 = .ok (.iconst (-1), 1) := by decide +kernel
theorem dX9_kindOf_70 : decode cX9_kindOf 70 = .ok (.if_icmp .ne 7, 3) := by decide +kernel
theorem dX9_kindOf_73 : decode cX9_kindOf 73 = .ok (.iconst 0, 1) := by decide +kernel
theorem dX9_kindOf_74 : decode cX9_kindOf 74 = .ok (.goto 19, 3) := by decide +kernel
theorem dX9_kindOf_77 : decode cX9_kindOf 77 = .ok (.iload_n 3, 1) := by decide +kernel
theorem dX9_kindOf_78 : decode cX9_kindOf 78 = .ok (.iload_n 2, 1) := by decide +kernel
theorem dX9_kindOf_79 : decode cX9_kindOf 79 = .ok (.iload_n 1, 1) := by decide +kernel
theorem dX9_kindOf_80 : decode cX9_kindOf 80 = .ok (.isub, 1) := by decide +kernel
theorem dX9_kindOf_81 : decode cX9_kindOf 81 = .ok (.iconst 2, 1) := by decide +kernel
theorem dX9_kindOf_82 : decode cX9_kindOf 82 = .ok (.if_icmp .ne 7, 3) := by decide +kernel
theorem dX9_kindOf_85 : decode cX9_kindOf 85 = .ok (.iconst 1, 1) := by decide +kernel
theorem dX9_kindOf_86 : decode cX9_kindOf 86 = .ok (.goto 4, 3) := by decide +kernel
theorem dX9_kindOf_89 : decode cX9_kindOf 89 = .ok (.iconst 0, 1) := by decide +kernel
theorem dX9_kindOf_90 : decode cX9_kindOf 90 = .ok (.invokestatic 50, 3) := by decide +kernel
theorem dX9_kindOf_93 : decode cX9_kindOf 93 = .ok (.ireturn, 1) := by decide +kernel
theorem dX9_wordKind_0 : decode cX9_wordKind 0 = .ok (.iconst 0, 1) := by decide +kernel
theorem dX9_wordKind_1 : decode cX9_wordKind 1 = .ok (.istore_n 3, 1) := by decide +kernel
theorem dX9_wordKind_2 : decode cX9_wordKind 2 = .ok (.iload_n 3, 1) := by decide +kernel
theorem dX9_wordKind_3 : decode cX9_wordKind 3 = .ok (.bipush 8, 2) := by decide +kernel
theorem dX9_wordKind_5 : decode cX9_wordKind 5 = .ok (.iadd, 1) := by decide +kernel
theorem dX9_wordKind_6 : decode cX9_wordKind 6 = .ok (.ldc 54, 2) := by decide +kernel
theorem dX9_wordKind_8 : decode cX9_wordKind 8 = .ok (.invokevirtual 56, 3) := by decide +kernel
theorem dX9_wordKind_11 : decode cX9_wordKind 11 = .ok (.if_icmp .gt 90, 3) := by decide +kernel
theorem dX9_wordKind_14 : decode cX9_wordKind 14 = .ok (.iconst 1, 1) := by decide +kernel
theorem dX9_wordKind_15 : decode cX9_wordKind 15 = .ok (.istore 4, 2) := by decide +kernel
theorem dX9_wordKind_17 : decode cX9_wordKind 17 = .ok (.iconst 0, 1) := by decide +kernel
theorem dX9_wordKind_18 : decode cX9_wordKind 18 = .ok (.istore 5, 2) := by decide +kernel
theorem dX9_wordKind_20 : decode cX9_wordKind 20 = .ok (.iload 5, 2) := by decide +kernel
theorem dX9_wordKind_22 : decode cX9_wordKind 22 = .ok (.bipush 8, 2) := by decide +kernel
theorem dX9_wordKind_24 : decode cX9_wordKind 24 = .ok (.if_icmp .ge 58, 3) := by decide +kernel
theorem dX9_wordKind_27 : decode cX9_wordKind 27 = .ok (.iload 4, 2) := by decide +kernel
theorem dX9_wordKind_29 : decode cX9_wordKind 29 = .ok (.ifCond .eq 53, 3) := by decide +kernel
theorem dX9_wordKind_32 : decode cX9_wordKind 32 = .ok (.iload_n 1, 1) := by decide +kernel
theorem dX9_wordKind_33 : decode cX9_wordKind 33 = .ok (.iload 5, 2) := by decide +kernel
theorem dX9_wordKind_35 : decode cX9_wordKind 35 = .ok (.iadd, 1) := by decide +kernel
theorem dX9_wordKind_36 : decode cX9_wordKind 36 = .ok (.iload_n 2, 1) := by decide +kernel
theorem dX9_wordKind_37 : decode cX9_wordKind 37 = .ok (.if_icmp .ge 14, 3) := by decide +kernel
theorem dX9_wordKind_40 : decode cX9_wordKind 40 = .ok (.aload_n 0, 1) := by decide +kernel
theorem dX9_wordKind_41 : decode cX9_wordKind 41 = .ok (.iload_n 1, 1) := by decide +kernel
theorem dX9_wordKind_42 : decode cX9_wordKind 42 = .ok (.iload 5, 2) := by decide +kernel
theorem dX9_wordKind_44 : decode cX9_wordKind 44 = .ok (.iadd, 1) := by decide +kernel
theorem dX9_wordKind_45 : decode cX9_wordKind 45 = .ok (.invokevirtual 25, 3) := by decide +kernel
theorem dX9_wordKind_48 : decode cX9_wordKind 48 = .ok (.goto 5, 3) := by decide +kernel
theorem dX9_wordKind_51 : decode cX9_wordKind 51 = .ok (.bipush 32, 2) := by decide +kernel
theorem dX9_wordKind_53 : decode cX9_wordKind 53 = .ok (.istore 6, 2) := by decide +kernel
theorem dX9_wordKind_55 : decode cX9_wordKind 55 = .ok (.ldc 54, 2) := by decide +kernel
theorem dX9_wordKind_57 : decode cX9_wordKind 57 = .ok (.iload_n 3, 1) := by decide +kernel
theorem dX9_wordKind_58 : decode cX9_wordKind 58 = .ok (.iload 5, 2) := by decide +kernel
theorem dX9_wordKind_60 : decode cX9_wordKind 60 = .ok (.iadd, 1) := by decide +kernel
theorem dX9_wordKind_61 : decode cX9_wordKind 61 = .ok (.invokevirtual 62, 3) := by decide +kernel
theorem dX9_wordKind_64 : decode cX9_wordKind 64 = .ok (.iload 6, 2) := by decide +kernel
theorem dX9_wordKind_66 : decode cX9_wordKind 66 = .ok (.if_icmp .ne 7, 3) := by decide +kernel
theorem dX9_wordKind_69 : decode cX9_wordKind 69 = .ok (.iconst 1, 1) := by decide +kernel
theorem dX9_wordKind_70 : decode cX9_wordKind 70 = .ok (.goto 4, 3) := by decide +kernel
theorem dX9_wordKind_73 : decode cX9_wordKind 73 = .ok (.iconst 0, 1) := by decide +kernel
theorem dX9_wordKind_74 : decode cX9_wordKind 74 = .ok (.istore 4, 2) := by decide +kernel
theorem dX9_wordKind_76 : decode cX9_wordKind 76 = .ok (.iinc 5 1, 3) := by decide +kernel
theorem dX9_wordKind_79 : decode cX9_wordKind 79 = .ok (.goto (-59), 3) := by decide +kernel
theorem dX9_wordKind_82 : decode cX9_wordKind 82 = .ok (.iload 4, 2) := by decide +kernel
theorem dX9_wordKind_84 : decode cX9_wordKind 84 = .ok (.ifCond .eq 11, 3) := by decide +kernel
theorem dX9_wordKind_87 : decode cX9_wordKind 87 = .ok (.bipush 16, 2) := by decide +kernel
theorem dX9_wordKind_89 : decode cX9_wordKind 89 = .ok (.iload_n 3, 1) := by decide +kernel
theorem dX9_wordKind_90 : decode cX9_wordKind 90 = .ok (.bipush 8, 2) := by decide +kernel
theorem dX9_wordKind_92 : decode cX9_wordKind 92 = .ok (.idiv, 1) := by decide +kernel
theorem dX9_wordKind_93 : decode cX9_wordKind 93 = .ok (.iadd, 1) := by decide +kernel
theorem dX9_wordKind_94 : decode cX9_wordKind 94 = .ok (.ireturn, 1) := by decide +kernel
theorem dX9_wordKind_95 : decode cX9_wordKind 95 = .ok (.iinc 3 8, 3) := by decide +kernel
theorem dX9_wordKind_98 : decode cX9_wordKind 98 = .ok (.goto (-96), 3) := by decide +kernel
theorem dX9_wordKind_101 : decode cX9_wordKind 101 = .ok (.iconst 3, 1) := by decide +kernel
theorem dX9_wordKind_102 : decode cX9_wordKind 102 = .ok (.ireturn, 1) := by decide +kernel
theorem dX9_signKind_0 : decode cX9_signKind 0 = .ok (.iload_n 0, 1) := by decide +kernel
theorem dX9_signKind_1 : decode cX9_signKind 1 = .ok (.tableswitch 184 33 61 #[161, 184, 184, 184, 184, 184, 184, 135, 138, 147, 141, 184, 144, 184, 184, 184, 184, 184, 184, 184, 184, 184, 184, 184, 184, 133, 131, 172, 150], 131) := by decide +kernel
theorem dX9_signKind_132 : decode cX9_signKind 132 = .ok (.iconst 4, 1) := by decide +kernel
theorem dX9_signKind_133 : decode cX9_signKind 133 = .ok (.ireturn, 1) := by decide +kernel
theorem dX9_signKind_134 : decode cX9_signKind 134 = .ok (.iconst 5, 1) := by decide +kernel
theorem dX9_signKind_135 : decode cX9_signKind 135 = .ok (.ireturn, 1) := by decide +kernel
theorem dX9_signKind_136 : decode cX9_signKind 136 = .ok (.bipush 6, 2) := by decide +kernel
theorem dX9_signKind_138 : decode cX9_signKind 138 = .ok (.ireturn, 1) := by decide +kernel
theorem dX9_signKind_139 : decode cX9_signKind 139 = .ok (.bipush 7, 2) := by decide +kernel
theorem dX9_signKind_141 : decode cX9_signKind 141 = .ok (.ireturn, 1) := by decide +kernel
theorem dX9_signKind_142 : decode cX9_signKind 142 = .ok (.bipush 8, 2) := by decide +kernel
theorem dX9_signKind_144 : decode cX9_signKind 144 = .ok (.ireturn, 1) := by decide +kernel
theorem dX9_signKind_145 : decode cX9_signKind 145 = .ok (.bipush 9, 2) := by decide +kernel
theorem dX9_signKind_147 : decode cX9_signKind 147 = .ok (.ireturn, 1) := by decide +kernel
theorem dX9_signKind_148 : decode cX9_signKind 148 = .ok (.bipush 10, 2) := by decide +kernel
theorem dX9_signKind_150 : decode cX9_signKind 150 = .ok (.ireturn, 1) := by decide +kernel
theorem dX9_signKind_151 : decode cX9_signKind 151 = .ok (.iload_n 1, 1) := by decide +kernel
theorem dX9_signKind_152 : decode cX9_signKind 152 = .ok (.ifCond .eq 8, 3) := by decide +kernel
theorem dX9_signKind_155 : decode cX9_signKind 155 = .ok (.bipush 11, 2) := by decide +kernel
theorem dX9_signKind_157 : decode cX9_signKind 157 = .ok (.goto 4, 3) := by decide +kernel
theorem dX9_signKind_160 : decode cX9_signKind 160 = .ok (.iconst 1, 1) := by decide +kernel
theorem dX9_signKind_161 : decode cX9_signKind 161 = .ok (.ireturn, 1) := by decide +kernel
theorem dX9_signKind_162 : decode cX9_signKind 162 = .ok (.iload_n 1, 1) := by decide +kernel
theorem dX9_signKind_163 : decode cX9_signKind 163 = .ok (.ifCond .eq 8, 3) := by decide +kernel
theorem dX9_signKind_166 : decode cX9_signKind 166 = .ok (.bipush 12, 2) := by decide +kernel
theorem dX9_signKind_168 : decode cX9_signKind 168 = .ok (.goto 4, 3) := by decide +kernel
theorem dX9_signKind_171 : decode cX9_signKind 171 = .ok (.iconst 1, 1) := by decide +kernel
theorem dX9_signKind_172 : decode cX9_signKind 172 = .ok (.ireturn, 1) := by decide +kernel
theorem dX9_signKind_173 : decode cX9_signKind 173 = .ok (.iload_n 1, 1) := by decide +kernel
theorem dX9_signKind_174 : decode cX9_signKind 174 = .ok (.ifCond .eq 8, 3) := by decide +kernel
theorem dX9_signKind_177 : decode cX9_signKind 177 = .ok (.bipush 14, 2) := by decide +kernel
theorem dX9_signKind_179 : decode cX9_signKind 179 = .ok (.goto 5, 3) := by decide +kernel
theorem dX9_signKind_182 : decode cX9_signKind 182 = .ok (.bipush 13, 2) := by decide +kernel
theorem dX9_signKind_184 : decode cX9_signKind 184 = .ok (.ireturn, 1) := by decide +kernel
theorem dX9_signKind_185 : decode cX9_signKind 185 = .ok (.iconst 1, 1) := by decide +kernel
theorem dX9_signKind_186 : decode cX9_signKind 186 = .ok (.ireturn, 1) := by decide +kernel
theorem dX10_init_0 : decode cX10_init 0 = .ok (.aload_n 0, 1) := by decide +kernel
theorem dX10_init_1 : decode cX10_init 1 = .ok (.invokespecial 3, 3) := by decide +kernel
theorem dX10_init_4 : decode cX10_init 4 = .ok (.aload_n 0, 1) := by decide +kernel
theorem dX10_init_5 : decode cX10_init 5 = .ok (.new 9, 3) := by decide +kernel
theorem dX10_init_8 : decode cX10_init 8 = .ok (.dup, 1) := by decide +kernel
theorem dX10_init_9 : decode cX10_init 9 = .ok (.invokespecial 11, 3) := by decide +kernel
theorem dX10_init_12 : decode cX10_init 12 = .ok (.putfield 12, 3) := by decide +kernel
theorem dX10_init_15 : decode cX10_init 15 = .ok (.aload_n 0, 1) := by decide +kernel
theorem dX10_init_16 : decode cX10_init 16 = .ok (.new 18, 3) := by decide +kernel
theorem dX10_init_19 : decode cX10_init 19 = .ok (.dup, 1) := by decide +kernel
theorem dX10_init_20 : decode cX10_init 20 = .ok (.invokespecial 20, 3) := by decide +kernel
theorem dX10_init_23 : decode cX10_init 23 = .ok (.putfield 21, 3) := by decide +kernel
theorem dX10_init_26 : decode cX10_init 26 = .ok (.aload_n 0, 1) := by decide +kernel
theorem dX10_init_27 : decode cX10_init 27 = .ok (.new 25, 3) := by decide +kernel
theorem dX10_init_30 : decode cX10_init 30 = .ok (.dup, 1) := by decide +kernel
theorem dX10_init_31 : decode cX10_init 31 = .ok (.invokespecial 27, 3) := by decide +kernel
theorem dX10_init_34 : decode cX10_init 34 = .ok (.putfield 28, 3) := by decide +kernel
theorem dX10_init_37 : decode cX10_init 37 = .ok (.aload_n 0, 1) := by decide +kernel
theorem dX10_init_38 : decode cX10_init 38 = .ok (.new 32, 3) := by decide +kernel
theorem dX10_init_41 : decode cX10_init 41 = .ok (.dup, 1) := by decide +kernel
theorem dX10_init_42 : decode cX10_init 42 = .ok (.invokespecial 34, 3) := by decide +kernel
theorem dX10_init_45 : decode cX10_init 45 = .ok (.putfield 35, 3) := by decide +kernel
theorem dX10_init_48 : decode cX10_init 48 = .ok (.return_, 1) := by decide +kernel
theorem dX10_begin_0 : decode cX10_begin 0 = .ok (.aload_n 0, 1) := by decide +kernel
theorem dX10_begin_1 : decode cX10_begin 1 = .ok (.getfield 21, 3) := by decide +kernel
theorem dX10_begin_4 : decode cX10_begin 4 = .ok (.iload_n 2, 1) := by decide +kernel
theorem dX10_begin_5 : decode cX10_begin 5 = .ok (.invokevirtual 39, 3) := by decide +kernel
theorem dX10_begin_8 : decode cX10_begin 8 = .ok (.aload_n 1, 1) := by decide +kernel
theorem dX10_begin_9 : decode cX10_begin 9 = .ok (.invokevirtual 43, 3) := by decide +kernel
theorem dX10_begin_12 : decode cX10_begin 12 = .ok (.aload_n 1, 1) := by decide +kernel
theorem dX10_begin_13 : decode cX10_begin 13 = .ok (.iload_n 3, 1) := by decide +kernel
theorem dX10_begin_14 : decode cX10_begin 14 = .ok (.putfield 48, 3) := by decide +kernel
theorem dX10_begin_17 : decode cX10_begin 17 = .ok (.return_, 1) := by decide +kernel
theorem dX10_run_0 : decode cX10_run 0 = .ok (.aload_n 1, 1) := by decide +kernel
theorem dX10_run_1 : decode cX10_run 1 = .ok (.getfield 52, 3) := by decide +kernel
theorem dX10_run_4 : decode cX10_run 4 = .ok (.istore_n 3, 1) := by decide +kernel
theorem dX10_run_5 : decode cX10_run 5 = .ok (.iload_n 3, 1) := by decide +kernel
theorem dX10_run_6 : decode cX10_run 6 = .ok (.iload_n 2, 1) := by decide +kernel
theorem dX10_run_7 : decode cX10_run 7 = .ok (.if_icmp .ge 14, 3) := by decide +kernel
theorem dX10_run_10 : decode cX10_run 10 = .ok (.aload_n 0, 1) := by decide +kernel
theorem dX10_run_11 : decode cX10_run 11 = .ok (.aload_n 1, 1) := by decide +kernel
theorem dX10_run_12 : decode cX10_run 12 = .ok (.invokevirtual 55, 3) := by decide +kernel
theorem dX10_run_15 : decode cX10_run 15 = .ok (.iinc 3 1, 3) := by decide +kernel
theorem dX10_run_18 : decode cX10_run 18 = .ok (.goto (-13), 3) := by decide +kernel
theorem dX10_run_21 : decode cX10_run 21 = .ok (.return_, 1) := by decide +kernel
theorem dX10_worked_0 : decode cX10_worked 0 = .ok (.iconst 0, 1) := by decide +kernel
theorem dX10_worked_1 : decode cX10_worked 1 = .ok (.istore 5, 2) := by decide +kernel
theorem dX10_worked_3 : decode cX10_worked 3 = .ok (.aload_n 1, 1) := by decide +kernel
theorem dX10_worked_4 : decode cX10_worked 4 = .ok (.getfield 52, 3) := by decide +kernel
theorem dX10_worked_7 : decode cX10_worked 7 = .ok (.iconst 1, 1) := by decide +kernel
theorem dX10_worked_8 : decode cX10_worked 8 = .ok (.iadd, 1) := by decide +kernel
theorem dX10_worked_9 : decode cX10_worked 9 = .ok (.istore 6, 2) := by decide +kernel
theorem dX10_worked_11 : decode cX10_worked 11 = .ok (.iload 6, 2) := by decide +kernel
theorem dX10_worked_13 : decode cX10_worked 13 = .ok (.iload 4, 2) := by decide +kernel
theorem dX10_worked_15 : decode cX10_worked 15 = .ok (.if_icmp .ge 38, 3) := by decide +kernel
theorem dX10_worked_18 : decode cX10_worked 18 = .ok (.aload_n 0, 1) := by decide +kernel
theorem dX10_worked_19 : decode cX10_worked 19 = .ok (.aload_n 1, 1) := by decide +kernel
theorem dX10_worked_20 : decode cX10_worked 20 = .ok (.invokevirtual 55, 3) := by decide +kernel
theorem dX10_worked_23 : decode cX10_worked 23 = .ok (.iload 5, 2) := by decide +kernel
theorem dX10_worked_25 : decode cX10_worked 25 = .ok (.iload 6, 2) := by decide +kernel
theorem dX10_worked_27 : decode cX10_worked 27 = .ok (.iload_n 3, 1) := by decide +kernel
theorem dX10_worked_28 : decode cX10_worked 28 = .ok (.if_icmp .lt 15, 3) := by decide +kernel
theorem dX10_worked_31 : decode cX10_worked 31 = .ok (.aload_n 1, 1) := by decide +kernel
theorem dX10_worked_32 : decode cX10_worked 32 = .ok (.getfield 59, 3) := by decide +kernel
theorem dX10_worked_35 : decode cX10_worked 35 = .ok (.bipush 6, 2) := by decide +kernel
theorem dX10_worked_37 : decode cX10_worked 37 = .ok (.aaload, 1) := by decide +kernel
theorem dX10_worked_38 : decode cX10_worked 38 = .ok (.iload_n 2, 1) := by decide +kernel
theorem dX10_worked_39 : decode cX10_worked 39 = .ok (.iaload, 1) := by decide +kernel
theorem dX10_worked_40 : decode cX10_worked 40 = .ok (.goto 4, 3) := by decide +kernel
theorem dX10_worked_43 : decode cX10_worked 43 = .ok (.iconst 0, 1) := by decide +kernel
theorem dX10_worked_44 : decode cX10_worked 44 = .ok (.iadd, 1) := by decide +kernel
theorem dX10_worked_45 : decode cX10_worked 45 = .ok (.istore 5, 2) := by decide +kernel
theorem dX10_worked_47 : decode cX10_worked 47 = .ok (.iinc 6 1, 3) := by decide +kernel
theorem dX10_worked_50 : decode cX10_worked 50 = .ok (.goto (-39), 3) := by decide +kernel
theorem dX10_worked_53 : decode cX10_worked 53 = .ok (.iload 5, 2) := by decide +kernel
theorem dX10_worked_55 : decode cX10_worked 55 = .ok (.ireturn, 1) := by decide +kernel
theorem dX10_step_0 : decode cX10_step 0 = .ok (.aload_n 0, 1) := by decide +kernel
theorem dX10_step_1 : decode cX10_step 1 = .ok (.aload_n 1, 1) := by decide +kernel
theorem dX10_step_2 : decode cX10_step 2 = .ok (.invokevirtual 63, 3) := by decide +kernel
theorem dX10_step_5 : decode cX10_step 5 = .ok (.aload_n 0, 1) := by decide +kernel
theorem dX10_step_6 : decode cX10_step 6 = .ok (.aload_n 1, 1) := by decide +kernel
theorem dX10_step_7 : decode cX10_step 7 = .ok (.invokevirtual 66, 3) := by decide +kernel
theorem dX10_step_10 : decode cX10_step 10 = .ok (.return_, 1) := by decide +kernel
theorem dX10_enter_0 : decode cX10_enter 0 = .ok (.aload_n 1, 1) := by decide +kernel
theorem dX10_enter_1 : decode cX10_enter 1 = .ok (.dup, 1) := by decide +kernel
theorem dX10_enter_2 : decode cX10_enter 2 = .ok (.getfield 52, 3) := by decide +kernel
theorem dX10_enter_5 : decode cX10_enter 5 = .ok (.iconst 1, 1) := by decide +kernel
theorem dX10_enter_6 : decode cX10_enter 6 = .ok (.iadd, 1) := by decide +kernel
theorem dX10_enter_7 : decode cX10_enter 7 = .ok (.putfield 52, 3) := by decide +kernel
theorem dX10_enter_10 : decode cX10_enter 10 = .ok (.iconst 0, 1) := by decide +kernel
theorem dX10_enter_11 : decode cX10_enter 11 = .ok (.istore_n 2, 1) := by decide +kernel
theorem dX10_enter_12 : decode cX10_enter 12 = .ok (.iload_n 2, 1) := by decide +kernel
theorem dX10_enter_13 : decode cX10_enter 13 = .ok (.aload_n 0, 1) := by decide +kernel
theorem dX10_enter_14 : decode cX10_enter 14 = .ok (.getfield 12, 3) := by decide +kernel
theorem dX10_enter_17 : decode cX10_enter 17 = .ok (.getfield 69, 3) := by decide +kernel
theorem dX10_enter_20 : decode cX10_enter 20 = .ok (.if_icmp .ge 84, 3) := by decide +kernel
theorem dX10_enter_23 : decode cX10_enter 23 = .ok (.aload_n 1, 1) := by decide +kernel
theorem dX10_enter_24 : decode cX10_enter 24 = .ok (.getfield 59, 3) := by decide +kernel
theorem dX10_enter_27 : decode cX10_enter 27 = .ok (.iconst 0, 1) := by decide +kernel
theorem dX10_enter_28 : decode cX10_enter 28 = .ok (.aaload, 1) := by decide +kernel
theorem dX10_enter_29 : decode cX10_enter 29 = .ok (.iload_n 2, 1) := by decide +kernel
theorem dX10_enter_30 : decode cX10_enter 30 = .ok (.dup2, 1) := by decide +kernel
theorem dX10_enter_31 : decode cX10_enter 31 = .ok (.iaload, 1) := by decide +kernel
theorem dX10_enter_32 : decode cX10_enter 32 = .ok (.aload_n 1, 1) := by decide +kernel
theorem dX10_enter_33 : decode cX10_enter 33 = .ok (.getfield 59, 3) := by decide +kernel
theorem dX10_enter_36 : decode cX10_enter 36 = .ok (.iconst 1, 1) := by decide +kernel
theorem dX10_enter_37 : decode cX10_enter 37 = .ok (.aaload, 1) := by decide +kernel
theorem dX10_enter_38 : decode cX10_enter 38 = .ok (.iload_n 2, 1) := by decide +kernel
theorem dX10_enter_39 : decode cX10_enter 39 = .ok (.iaload, 1) := by decide +kernel
theorem dX10_enter_40 : decode cX10_enter 40 = .ok (.aload_n 1, 1) := by decide +kernel
theorem dX10_enter_41 : decode cX10_enter 41 = .ok (.getfield 59, 3) := by decide +kernel
theorem dX10_enter_44 : decode cX10_enter 44 = .ok (.bipush 9, 2) := by decide +kernel
theorem dX10_enter_46 : decode cX10_enter 46 = .ok (.aaload, 1) := by decide +kernel
theorem dX10_enter_47 : decode cX10_enter 47 = .ok (.iload_n 2, 1) := by decide +kernel
theorem dX10_enter_48 : decode cX10_enter 48 = .ok (.iaload, 1) := by decide +kernel
theorem dX10_enter_49 : decode cX10_enter 49 = .ok (.isub, 1) := by decide +kernel
theorem dX10_enter_50 : decode cX10_enter 50 = .ok (.iadd, 1) := by decide +kernel
theorem dX10_enter_51 : decode cX10_enter 51 = .ok (.iastore, 1) := by decide +kernel
theorem dX10_enter_52 : decode cX10_enter 52 = .ok (.aload_n 1, 1) := by decide +kernel
theorem dX10_enter_53 : decode cX10_enter 53 = .ok (.getfield 59, 3) := by decide +kernel
theorem dX10_enter_56 : decode cX10_enter 56 = .ok (.iconst 1, 1) := by decide +kernel
theorem dX10_enter_57 : decode cX10_enter 57 = .ok (.aaload, 1) := by decide +kernel
theorem dX10_enter_58 : decode cX10_enter 58 = .ok (.iload_n 2, 1) := by decide +kernel
theorem dX10_enter_59 : decode cX10_enter 59 = .ok (.aload_n 0, 1) := by decide +kernel
theorem dX10_enter_60 : decode cX10_enter 60 = .ok (.getfield 21, 3) := by decide +kernel
theorem dX10_enter_63 : decode cX10_enter 63 = .ok (.aload_n 1, 1) := by decide +kernel
theorem dX10_enter_64 : decode cX10_enter 64 = .ok (.getfield 52, 3) := by decide +kernel
theorem dX10_enter_67 : decode cX10_enter 67 = .ok (.iload_n 2, 1) := by decide +kernel
theorem dX10_enter_68 : decode cX10_enter 68 = .ok (.invokevirtual 72, 3) := by decide +kernel
theorem dX10_enter_71 : decode cX10_enter 71 = .ok (.iload_n 2, 1) := by decide +kernel
theorem dX10_enter_72 : decode cX10_enter 72 = .ok (.ifCond .ne 13, 3) := by decide +kernel
theorem dX10_enter_75 : decode cX10_enter 75 = .ok (.aload_n 0, 1) := by decide +kernel
theorem dX10_enter_76 : decode cX10_enter 76 = .ok (.getfield 12, 3) := by decide +kernel
theorem dX10_enter_79 : decode cX10_enter 79 = .ok (.getfield 76, 3) := by decide +kernel
theorem dX10_enter_82 : decode cX10_enter 82 = .ok (.goto 14, 3) := by decide +kernel
theorem dX10_enter_85 : decode cX10_enter 85 = .ok (.aload_n 1, 1) := by decide +kernel
theorem dX10_enter_86 : decode cX10_enter 86 = .ok (.getfield 59, 3) := by decide +kernel
theorem dX10_enter_89 : decode cX10_enter 89 = .ok (.bipush 9, 2) := by decide +kernel
theorem dX10_enter_91 : decode cX10_enter 91 = .ok (.aaload, 1) := by decide +kernel
theorem dX10_enter_92 : decode cX10_enter 92 = .ok (.iload_n 2, 1) := by decide +kernel
theorem dX10_enter_93 : decode cX10_enter 93 = .ok (.iconst 1, 1) := by decide +kernel
theorem dX10_enter_94 : decode cX10_enter 94 = .ok (.isub, 1) := by decide +kernel
theorem dX10_enter_95 : decode cX10_enter 95 = .ok (.iaload, 1) := by decide +kernel
theorem dX10_enter_96 : decode cX10_enter 96 = .ok (.iadd, 1) := by decide +kernel
theorem dX10_enter_97 : decode cX10_enter 97 = .ok (.iastore, 1) := by decide +kernel
theorem dX10_enter_98 : decode cX10_enter 98 = .ok (.iinc 2 1, 3) := by decide +kernel
theorem dX10_enter_101 : decode cX10_enter 101 = .ok (.goto (-89), 3) := by decide +kernel
theorem dX10_enter_104 : decode cX10_enter 104 = .ok (.aload_n 1, 1) := by decide +kernel
theorem dX10_enter_105 : decode cX10_enter 105 = .ok (.getfield 79, 3) := by decide +kernel
theorem dX10_enter_108 : decode cX10_enter 108 = .ok (.aload_n 0, 1) := by decide +kernel
theorem dX10_enter_109 : decode cX10_enter 109 = .ok (.getfield 28, 3) := by decide +kernel
theorem dX10_enter_112 : decode cX10_enter 112 = .ok (.getfield 82, 3) := by decide +kernel
theorem dX10_enter_115 : decode cX10_enter 115 = .ok (.if_icmp .ge 101, 3) := by decide +kernel
theorem dX10_enter_118 : decode cX10_enter 118 = .ok (.aload_n 0, 1) := by decide +kernel
theorem dX10_enter_119 : decode cX10_enter 119 = .ok (.getfield 28, 3) := by decide +kernel
theorem dX10_enter_122 : decode cX10_enter 122 = .ok (.getfield 83, 3) := by decide +kernel
theorem dX10_enter_125 : decode cX10_enter 125 = .ok (.aload_n 1, 1) := by decide +kernel
theorem dX10_enter_126 : decode cX10_enter 126 = .ok (.getfield 79, 3) := by decide +kernel
theorem dX10_enter_129 : decode cX10_enter 129 = .ok (.iaload, 1) := by decide +kernel
theorem dX10_enter_130 : decode cX10_enter 130 = .ok (.aload_n 1, 1) := by decide +kernel
theorem dX10_enter_131 : decode cX10_enter 131 = .ok (.getfield 52, 3) := by decide +kernel
theorem dX10_enter_134 : decode cX10_enter 134 = .ok (.if_icmp .gt 82, 3) := by decide +kernel
theorem dX10_enter_137 : decode cX10_enter 137 = .ok (.aload_n 1, 1) := by decide +kernel
theorem dX10_enter_138 : decode cX10_enter 138 = .ok (.getfield 79, 3) := by decide +kernel
theorem dX10_enter_141 : decode cX10_enter 141 = .ok (.aload_n 1, 1) := by decide +kernel
theorem dX10_enter_142 : decode cX10_enter 142 = .ok (.getfield 48, 3) := by decide +kernel
theorem dX10_enter_145 : decode cX10_enter 145 = .ok (.if_icmp .eq 58, 3) := by decide +kernel
theorem dX10_enter_148 : decode cX10_enter 148 = .ok (.aload_n 0, 1) := by decide +kernel
theorem dX10_enter_149 : decode cX10_enter 149 = .ok (.getfield 28, 3) := by decide +kernel
theorem dX10_enter_152 : decode cX10_enter 152 = .ok (.getfield 86, 3) := by decide +kernel
theorem dX10_enter_155 : decode cX10_enter 155 = .ok (.aload_n 1, 1) := by decide +kernel
theorem dX10_enter_156 : decode cX10_enter 156 = .ok (.getfield 79, 3) := by decide +kernel
theorem dX10_enter_159 : decode cX10_enter 159 = .ok (.baload, 1) := by decide +kernel
theorem dX10_enter_160 : decode cX10_enter 160 = .ok (.ifCond .eq 10, 3) := by decide +kernel
theorem dX10_enter_163 : decode cX10_enter 163 = .ok (.aload_n 1, 1) := by decide +kernel
theorem dX10_enter_164 : decode cX10_enter 164 = .ok (.getfield 90, 3) := by decide +kernel
theorem dX10_enter_167 : decode cX10_enter 167 = .ok (.goto 9, 3) := by decide +kernel
theorem dX10_enter_170 : decode cX10_enter 170 = .ok (.aload_n 1, 1) := by decide +kernel
theorem dX10_enter_171 : decode cX10_enter 171 = .ok (.getfield 59, 3) := by decide +kernel
theorem dX10_enter_174 : decode cX10_enter 174 = .ok (.iconst 2, 1) := by decide +kernel
theorem dX10_enter_175 : decode cX10_enter 175 = .ok (.aaload, 1) := by decide +kernel
theorem dX10_enter_176 : decode cX10_enter 176 = .ok (.astore_n 2, 1) := by decide +kernel
theorem dX10_enter_177 : decode cX10_enter 177 = .ok (.aload_n 2, 1) := by decide +kernel
theorem dX10_enter_178 : decode cX10_enter 178 = .ok (.aload_n 0, 1) := by decide +kernel
theorem dX10_enter_179 : decode cX10_enter 179 = .ok (.getfield 28, 3) := by decide +kernel
theorem dX10_enter_182 : decode cX10_enter 182 = .ok (.getfield 93, 3) := by decide +kernel
theorem dX10_enter_185 : decode cX10_enter 185 = .ok (.aload_n 1, 1) := by decide +kernel
theorem dX10_enter_186 : decode cX10_enter 186 = .ok (.getfield 79, 3) := by decide +kernel
theorem dX10_enter_189 : decode cX10_enter 189 = .ok (.iaload, 1) := by decide +kernel
theorem dX10_enter_190 : decode cX10_enter 190 = .ok (.aload_n 0, 1) := by decide +kernel
theorem dX10_enter_191 : decode cX10_enter 191 = .ok (.getfield 28, 3) := by decide +kernel
theorem dX10_enter_194 : decode cX10_enter 194 = .ok (.getfield 96, 3) := by decide +kernel
theorem dX10_enter_197 : decode cX10_enter 197 = .ok (.aload_n 1, 1) := by decide +kernel
theorem dX10_enter_198 : decode cX10_enter 198 = .ok (.getfield 79, 3) := by decide +kernel
theorem dX10_enter_201 : decode cX10_enter 201 = .ok (.iaload, 1) := by decide +kernel
theorem dX10_enter_202 : decode cX10_enter 202 = .ok (.iastore, 1) := by decide +kernel
theorem dX10_enter_203 : decode cX10_enter 203 = .ok (.aload_n 1, 1) := by decide +kernel
theorem dX10_enter_204 : decode cX10_enter 204 = .ok (.dup, 1) := by decide +kernel
theorem dX10_enter_205 : decode cX10_enter 205 = .ok (.getfield 79, 3) := by decide +kernel
theorem dX10_enter_208 : decode cX10_enter 208 = .ok (.iconst 1, 1) := by decide +kernel
theorem dX10_enter_209 : decode cX10_enter 209 = .ok (.iadd, 1) := by decide +kernel
theorem dX10_enter_210 : decode cX10_enter 210 = .ok (.putfield 79, 3) := by decide +kernel
theorem dX10_enter_213 : decode cX10_enter 213 = .ok (.goto (-109), 3) := by decide +kernel
theorem dX10_enter_216 : decode cX10_enter 216 = .ok (.return_, 1) := by decide +kernel
theorem dX10_settle_0 : decode cX10_settle 0 = .ok (.iconst 0, 1) := by decide +kernel
theorem dX10_settle_1 : decode cX10_settle 1 = .ok (.istore_n 2, 1) := by decide +kernel
theorem dX10_settle_2 : decode cX10_settle 2 = .ok (.iload_n 2, 1) := by decide +kernel
theorem dX10_settle_3 : decode cX10_settle 3 = .ok (.aload_n 0, 1) := by decide +kernel
theorem dX10_settle_4 : decode cX10_settle 4 = .ok (.getfield 12, 3) := by decide +kernel
theorem dX10_settle_7 : decode cX10_settle 7 = .ok (.getfield 69, 3) := by decide +kernel
theorem dX10_settle_10 : decode cX10_settle 10 = .ok (.if_icmp .ge 203, 3) := by decide +kernel
theorem dX10_settle_13 : decode cX10_settle 13 = .ok (.aload_n 1, 1) := by decide +kernel
theorem dX10_settle_14 : decode cX10_settle 14 = .ok (.getfield 59, 3) := by decide +kernel
theorem dX10_settle_17 : decode cX10_settle 17 = .ok (.iconst 0, 1) := by decide +kernel
theorem dX10_settle_18 : decode cX10_settle 18 = .ok (.aaload, 1) := by decide +kernel
theorem dX10_settle_19 : decode cX10_settle 19 = .ok (.iload_n 2, 1) := by decide +kernel
theorem dX10_settle_20 : decode cX10_settle 20 = .ok (.iaload, 1) := by decide +kernel
theorem dX10_settle_21 : decode cX10_settle 21 = .ok (.istore_n 3, 1) := by decide +kernel
theorem dX10_settle_22 : decode cX10_settle 22 = .ok (.iload_n 3, 1) := by decide +kernel
theorem dX10_settle_23 : decode cX10_settle 23 = .ok (.aload_n 1, 1) := by decide +kernel
theorem dX10_settle_24 : decode cX10_settle 24 = .ok (.getfield 59, 3) := by decide +kernel
theorem dX10_settle_27 : decode cX10_settle 27 = .ok (.iconst 1, 1) := by decide +kernel
theorem dX10_settle_28 : decode cX10_settle 28 = .ok (.aaload, 1) := by decide +kernel
theorem dX10_settle_29 : decode cX10_settle 29 = .ok (.iload_n 2, 1) := by decide +kernel
theorem dX10_settle_30 : decode cX10_settle 30 = .ok (.iaload, 1) := by decide +kernel
theorem dX10_settle_31 : decode cX10_settle 31 = .ok (.iadd, 1) := by decide +kernel
theorem dX10_settle_32 : decode cX10_settle 32 = .ok (.istore 4, 2) := by decide +kernel
theorem dX10_settle_34 : decode cX10_settle 34 = .ok (.aload_n 0, 1) := by decide +kernel
theorem dX10_settle_35 : decode cX10_settle 35 = .ok (.getfield 35, 3) := by decide +kernel
theorem dX10_settle_38 : decode cX10_settle 38 = .ok (.getfield 99, 3) := by decide +kernel
theorem dX10_settle_41 : decode cX10_settle 41 = .ok (.aload_n 1, 1) := by decide +kernel
theorem dX10_settle_42 : decode cX10_settle 42 = .ok (.iload_n 2, 1) := by decide +kernel
theorem dX10_settle_43 : decode cX10_settle 43 = .ok (.aload_n 0, 1) := by decide +kernel
theorem dX10_settle_44 : decode cX10_settle 44 = .ok (.getfield 12, 3) := by decide +kernel
theorem dX10_settle_47 : decode cX10_settle 47 = .ok (.invokevirtual 103, 3) := by decide +kernel
theorem dX10_settle_50 : decode cX10_settle 50 = .ok (.istore 5, 2) := by decide +kernel
theorem dX10_settle_52 : decode cX10_settle 52 = .ok (.iload_n 3, 1) := by decide +kernel
theorem dX10_settle_53 : decode cX10_settle 53 = .ok (.aload_n 0, 1) := by decide +kernel
theorem dX10_settle_54 : decode cX10_settle 54 = .ok (.aload_n 1, 1) := by decide +kernel
theorem dX10_settle_55 : decode cX10_settle 55 = .ok (.iload_n 2, 1) := by decide +kernel
theorem dX10_settle_56 : decode cX10_settle 56 = .ok (.invokevirtual 109, 3) := by decide +kernel
theorem dX10_settle_59 : decode cX10_settle 59 = .ok (.isub, 1) := by decide +kernel
theorem dX10_settle_60 : decode cX10_settle 60 = .ok (.istore 6, 2) := by decide +kernel
theorem dX10_settle_62 : decode cX10_settle 62 = .ok (.iconst 2, 1) := by decide +kernel
theorem dX10_settle_63 : decode cX10_settle 63 = .ok (.aload_n 1, 1) := by decide +kernel
theorem dX10_settle_64 : decode cX10_settle 64 = .ok (.getfield 59, 3) := by decide +kernel
theorem dX10_settle_67 : decode cX10_settle 67 = .ok (.iconst 2, 1) := by decide +kernel
theorem dX10_settle_68 : decode cX10_settle 68 = .ok (.aaload, 1) := by decide +kernel
theorem dX10_settle_69 : decode cX10_settle 69 = .ok (.iload_n 2, 1) := by decide +kernel
theorem dX10_settle_70 : decode cX10_settle 70 = .ok (.iaload, 1) := by decide +kernel
theorem dX10_settle_71 : decode cX10_settle 71 = .ok (.imul, 1) := by decide +kernel
theorem dX10_settle_72 : decode cX10_settle 72 = .ok (.iload 4, 2) := by decide +kernel
theorem dX10_settle_74 : decode cX10_settle 74 = .ok (.invokestatic 113, 3) := by decide +kernel
theorem dX10_settle_77 : decode cX10_settle 77 = .ok (.istore 7, 2) := by decide +kernel
theorem dX10_settle_79 : decode cX10_settle 79 = .ok (.iconst 3, 1) := by decide +kernel
theorem dX10_settle_80 : decode cX10_settle 80 = .ok (.iload 5, 2) := by decide +kernel
theorem dX10_settle_82 : decode cX10_settle 82 = .ok (.imul, 1) := by decide +kernel
theorem dX10_settle_83 : decode cX10_settle 83 = .ok (.iload 4, 2) := by decide +kernel
theorem dX10_settle_85 : decode cX10_settle 85 = .ok (.iload 7, 2) := by decide +kernel
theorem dX10_settle_87 : decode cX10_settle 87 = .ok (.isub, 1) := by decide +kernel
theorem dX10_settle_88 : decode cX10_settle 88 = .ok (.invokestatic 113, 3) := by decide +kernel
theorem dX10_settle_91 : decode cX10_settle 91 = .ok (.istore 8, 2) := by decide +kernel
theorem dX10_settle_93 : decode cX10_settle 93 = .ok (.iload 4, 2) := by decide +kernel
theorem dX10_settle_95 : decode cX10_settle 95 = .ok (.iload 7, 2) := by decide +kernel
theorem dX10_settle_97 : decode cX10_settle 97 = .ok (.isub, 1) := by decide +kernel
theorem dX10_settle_98 : decode cX10_settle 98 = .ok (.iload 8, 2) := by decide +kernel
theorem dX10_settle_100 : decode cX10_settle 100 = .ok (.isub, 1) := by decide +kernel
theorem dX10_settle_101 : decode cX10_settle 101 = .ok (.aload_n 0, 1) := by decide +kernel
theorem dX10_settle_102 : decode cX10_settle 102 = .ok (.getfield 12, 3) := by decide +kernel
theorem dX10_settle_105 : decode cX10_settle 105 = .ok (.getfield 118, 3) := by decide +kernel
theorem dX10_settle_108 : decode cX10_settle 108 = .ok (.iload_n 2, 1) := by decide +kernel
theorem dX10_settle_109 : decode cX10_settle 109 = .ok (.iaload, 1) := by decide +kernel
theorem dX10_settle_110 : decode cX10_settle 110 = .ok (.isub, 1) := by decide +kernel
theorem dX10_settle_111 : decode cX10_settle 111 = .ok (.iconst 0, 1) := by decide +kernel
