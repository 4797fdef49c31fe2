theorem dX0_init_0 : decode cX0_init 0 = .ok (.aload_n 0, 1) := by decide +kernel
theorem dX0_init_1 : decode cX0_init 1 = .ok (.invokespecial 3, 3) := by decide +kernel
theorem dX0_init_4 : decode cX0_init 4 = .ok (.aload_n 0, 1) := by decide +kernel
theorem dX0_init_5 : decode cX0_init 5 = .ok (.new 9, 3) := by decide +kernel
theorem dX0_init_8 : decode cX0_init 8 = .ok (.dup, 1) := by decide +kernel
theorem dX0_init_9 : decode cX0_init 9 = .ok (.invokespecial 11, 3) := by decide +kernel
theorem dX0_init_12 : decode cX0_init 12 = .ok (.putfield 12, 3) := by decide +kernel
theorem dX0_init_15 : decode cX0_init 15 = .ok (.aload_n 0, 1) := by decide +kernel
theorem dX0_init_16 : decode cX0_init 16 = .ok (.new 18, 3) := by decide +kernel
theorem dX0_init_19 : decode cX0_init 19 = .ok (.dup, 1) := by decide +kernel
theorem dX0_init_20 : decode cX0_init 20 = .ok (.invokespecial 20, 3) := by decide +kernel
theorem dX0_init_23 : decode cX0_init 23 = .ok (.putfield 21, 3) := by decide +kernel
theorem dX0_init_26 : decode cX0_init 26 = .ok (.aload_n 0, 1) := by decide +kernel
theorem dX0_init_27 : decode cX0_init 27 = .ok (.iconst (-1), 1) := by decide +kernel
theorem dX0_init_28 : decode cX0_init 28 = .ok (.putfield 25, 3) := by decide +kernel
theorem dX0_init_31 : decode cX0_init 31 = .ok (.aload_n 0, 1) := by decide +kernel
theorem dX0_init_32 : decode cX0_init 32 = .ok (.new 29, 3) := by decide +kernel
theorem dX0_init_35 : decode cX0_init 35 = .ok (.dup, 1) := by decide +kernel
theorem dX0_init_36 : decode cX0_init 36 = .ok (.invokespecial 31, 3) := by decide +kernel
theorem dX0_init_39 : decode cX0_init 39 = .ok (.putfield 32, 3) := by decide +kernel
theorem dX0_init_42 : decode cX0_init 42 = .ok (.aload_n 0, 1) := by decide +kernel
theorem dX0_init_43 : decode cX0_init 43 = .ok (.iconst 0, 1) := by decide +kernel
theorem dX0_init_44 : decode cX0_init 44 = .ok (.putfield 36, 3) := by decide +kernel
theorem dX0_init_47 : decode cX0_init 47 = .ok (.aload_n 0, 1) := by decide +kernel
theorem dX0_init_48 : decode cX0_init 48 = .ok (.iconst 1, 1) := by decide +kernel
theorem dX0_init_49 : decode cX0_init 49 = .ok (.putfield 39, 3) := by decide +kernel
theorem dX0_init_52 : decode cX0_init 52 = .ok (.aload_n 0, 1) := by decide +kernel
theorem dX0_init_53 : decode cX0_init 53 = .ok (.iconst 0, 1) := by decide +kernel
theorem dX0_init_54 : decode cX0_init 54 = .ok (.putfield 42, 3) := by decide +kernel
theorem dX0_init_57 : decode cX0_init 57 = .ok (.aload_n 0, 1) := by decide +kernel
theorem dX0_init_58 : decode cX0_init 58 = .ok (.iconst (-1), 1) := by decide +kernel
theorem dX0_init_59 : decode cX0_init 59 = .ok (.putfield 45, 3) := by decide +kernel
theorem dX0_init_62 : decode cX0_init 62 = .ok (.return_, 1) := by decide +kernel
theorem dX0_open_0 : decode cX0_open 0 = .ok (.aload_n 0, 1) := by decide +kernel
theorem dX0_open_1 : decode cX0_open 1 = .ok (.getfield 32, 3) := by decide +kernel
theorem dX0_open_4 : decode cX0_open 4 = .ok (.aload_n 0, 1) := by decide +kernel
theorem dX0_open_5 : decode cX0_open 5 = .ok (.getfield 12, 3) := by decide +kernel
theorem dX0_open_8 : decode cX0_open 8 = .ok (.invokevirtual 48, 3) := by decide +kernel
theorem dX0_open_11 : decode cX0_open 11 = .ok (.aload_n 0, 1) := by decide +kernel
theorem dX0_open_12 : decode cX0_open 12 = .ok (.getfield 21, 3) := by decide +kernel
theorem dX0_open_15 : decode cX0_open 15 = .ok (.invokevirtual 52, 3) := by decide +kernel
theorem dX0_open_18 : decode cX0_open 18 = .ok (.aload_n 0, 1) := by decide +kernel
theorem dX0_open_19 : decode cX0_open 19 = .ok (.iconst 0, 1) := by decide +kernel
theorem dX0_open_20 : decode cX0_open 20 = .ok (.putfield 36, 3) := by decide +kernel
theorem dX0_open_23 : decode cX0_open 23 = .ok (.aload_n 0, 1) := by decide +kernel
theorem dX0_open_24 : decode cX0_open 24 = .ok (.iconst 1, 1) := by decide +kernel
theorem dX0_open_25 : decode cX0_open 25 = .ok (.putfield 39, 3) := by decide +kernel
theorem dX0_open_28 : decode cX0_open 28 = .ok (.aload_n 0, 1) := by decide +kernel
theorem dX0_open_29 : decode cX0_open 29 = .ok (.iconst 0, 1) := by decide +kernel
theorem dX0_open_30 : decode cX0_open 30 = .ok (.putfield 42, 3) := by decide +kernel
theorem dX0_open_33 : decode cX0_open 33 = .ok (.aload_n 0, 1) := by decide +kernel
theorem dX0_open_34 : decode cX0_open 34 = .ok (.iconst (-1), 1) := by decide +kernel
theorem dX0_open_35 : decode cX0_open 35 = .ok (.putfield 45, 3) := by decide +kernel
theorem dX0_open_38 : decode cX0_open 38 = .ok (.return_, 1) := by decide +kernel
theorem dX0_close_0 : decode cX0_close 0 = .ok (.aload_n 0, 1) := by decide +kernel
theorem dX0_close_1 : decode cX0_close 1 = .ok (.getfield 12, 3) := by decide +kernel
theorem dX0_close_4 : decode cX0_close 4 = .ok (.iconst 0, 1) := by decide +kernel
theorem dX0_close_5 : decode cX0_close 5 = .ok (.putfield 55, 3) := by decide +kernel
theorem dX0_close_8 : decode cX0_close 8 = .ok (.iload_n 1, 1) := by decide +kernel
theorem dX0_close_9 : decode cX0_close 9 = .ok (.ifCond .ne 38, 3) := by decide +kernel
theorem dX0_close_12 : decode cX0_close 12 = .ok (.aload_n 0, 1) := by decide +kernel
theorem dX0_close_13 : decode cX0_close 13 = .ok (.aload_n 0, 1) := by decide +kernel
theorem dX0_close_14 : decode cX0_close 14 = .ok (.getfield 36, 3) := by decide +kernel
theorem dX0_close_17 : decode cX0_close 17 = .ok (.sipush 600, 3) := by decide +kernel
theorem dX0_close_20 : decode cX0_close 20 = .ok (.if_icmp .gt 18, 3) := by decide +kernel
theorem dX0_close_23 : decode cX0_close 23 = .ok (.aload_n 0, 1) := by decide +kernel
theorem dX0_close_24 : decode cX0_close 24 = .ok (.getfield 32, 3) := by decide +kernel
theorem dX0_close_27 : decode cX0_close 27 = .ok (.getfield 58, 3) := by decide +kernel
theorem dX0_close_30 : decode cX0_close 30 = .ok (.aload_n 0, 1) := by decide +kernel
theorem dX0_close_31 : decode cX0_close 31 = .ok (.getfield 36, 3) := by decide +kernel
theorem dX0_close_34 : decode cX0_close 34 = .ok (.iaload, 1) := by decide +kernel
theorem dX0_close_35 : decode cX0_close 35 = .ok (.goto 4, 3) := by decide +kernel
theorem dX0_close_38 : decode cX0_close 38 = .ok (.iconst (-1), 1) := by decide +kernel
theorem dX0_close_39 : decode cX0_close 39 = .ok (.putfield 25, 3) := by decide +kernel
theorem dX0_close_42 : decode cX0_close 42 = .ok (.aload_n 0, 1) := by decide +kernel
theorem dX0_close_43 : decode cX0_close 43 = .ok (.getfield 39, 3) := by decide +kernel
theorem dX0_close_46 : decode cX0_close 46 = .ok (.ireturn, 1) := by decide +kernel
theorem dX0_close_47 : decode cX0_close 47 = .ok (.aload_n 0, 1) := by decide +kernel
theorem dX0_close_48 : decode cX0_close 48 = .ok (.getfield 42, 3) := by decide +kernel
theorem dX0_close_51 : decode cX0_close 51 = .ok (.ifCond .ne 10, 3) := by decide +kernel
theorem dX0_close_54 : decode cX0_close 54 = .ok (.aload_n 0, 1) := by decide +kernel
theorem dX0_close_55 : decode cX0_close 55 = .ok (.getfield 21, 3) := by decide +kernel
theorem dX0_close_58 : decode cX0_close 58 = .ok (.invokevirtual 62, 3) := by decide +kernel
theorem dX0_close_61 : decode cX0_close 61 = .ok (.aload_n 0, 1) := by decide +kernel
theorem dX0_close_62 : decode cX0_close 62 = .ok (.aload_n 0, 1) := by decide +kernel
theorem dX0_close_63 : decode cX0_close 63 = .ok (.getfield 45, 3) := by decide +kernel
theorem dX0_close_66 : decode cX0_close 66 = .ok (.putfield 25, 3) := by decide +kernel
theorem dX0_close_69 : decode cX0_close 69 = .ok (.aload_n 0, 1) := by decide +kernel
theorem dX0_close_70 : decode cX0_close 70 = .ok (.getfield 42, 3) := by decide +kernel
theorem dX0_close_73 : decode cX0_close 73 = .ok (.ireturn, 1) := by decide +kernel
theorem dX0_text_0 : decode cX0_text 0 = .ok (.iconst 0, 1) := by decide +kernel
theorem dX0_text_1 : decode cX0_text 1 = .ok (.istore_n 1, 1) := by decide +kernel
theorem dX0_text_2 : decode cX0_text 2 = .ok (.iload_n 1, 1) := by decide +kernel
theorem dX0_text_3 : decode cX0_text 3 = .ok (.bipush 10, 2) := by decide +kernel
theorem dX0_text_5 : decode cX0_text 5 = .ok (.if_icmp .gt 79, 3) := by decide +kernel
theorem dX0_text_8 : decode cX0_text 8 = .ok (.aload_n 0, 1) := by decide +kernel
theorem dX0_text_9 : decode cX0_text 9 = .ok (.invokevirtual 65, 3) := by decide +kernel
theorem dX0_text_12 : decode cX0_text 12 = .ok (.bipush 16, 2) := by decide +kernel
theorem dX0_text_14 : decode cX0_text 14 = .ok (.if_icmp .ne 70, 3) := by decide +kernel
theorem dX0_text_17 : decode cX0_text 17 = .ok (.aload_n 0, 1) := by decide +kernel
theorem dX0_text_18 : decode cX0_text 18 = .ok (.invokevirtual 69, 3) := by decide +kernel
theorem dX0_text_21 : decode cX0_text 21 = .ok (.ifCond .ne 5, 3) := by decide +kernel
theorem dX0_text_24 : decode cX0_text 24 = .ok (.iconst 0, 1) := by decide +kernel
theorem dX0_text_25 : decode cX0_text 25 = .ok (.ireturn, 1) := by decide +kernel
theorem dX0_text_26 : decode cX0_text 26 = .ok (.iconst 0, 1) := by decide +kernel
theorem dX0_text_27 : decode cX0_text 27 = .ok (.istore_n 2, 1) := by decide +kernel
theorem dX0_text_28 : decode cX0_text 28 = .ok (.iload_n 2, 1) := by decide +kernel
theorem dX0_text_29 : decode cX0_text 29 = .ok (.bipush 30, 2) := by decide +kernel
theorem dX0_text_31 : decode cX0_text 31 = .ok (.if_icmp .gt 36, 3) := by decide +kernel
theorem dX0_text_34 : decode cX0_text 34 = .ok (.aload_n 0, 1) := by decide +kernel
theorem dX0_text_35 : decode cX0_text 35 = .ok (.invokevirtual 65, 3) := by decide +kernel
theorem dX0_text_38 : decode cX0_text 38 = .ok (.bipush 23, 2) := by decide +kernel
theorem dX0_text_40 : decode cX0_text 40 = .ok (.if_icmp .eq 12, 3) := by decide +kernel
theorem dX0_text_43 : decode cX0_text 43 = .ok (.aload_n 0, 1) := by decide +kernel
theorem dX0_text_44 : decode cX0_text 44 = .ok (.invokevirtual 65, 3) := by decide +kernel
theorem dX0_text_47 : decode cX0_text 47 = .ok (.bipush 24, 2) := by decide +kernel
theorem dX0_text_49 : decode cX0_text 49 = .ok (.if_icmp .ne 18, 3) := by decide +kernel
theorem dX0_text_52 : decode cX0_text 52 = .ok (.aload_n 0, 1) := by decide +kernel
theorem dX0_text_53 : decode cX0_text 53 = .ok (.invokevirtual 73, 3) := by decide +kernel
theorem dX0_text_56 : decode cX0_text 56 = .ok (.ifCond .ne 5, 3) := by decide +kernel
theorem dX0_text_59 : decode cX0_text 59 = .ok (.iconst 0, 1) := by decide +kernel
theorem dX0_text_60 : decode cX0_text 60 = .ok (.ireturn, 1) := by decide +kernel
theorem dX0_text_61 : decode cX0_text 61 = .ok (.iinc 2 1, 3) := by decide +kernel
theorem dX0_text_64 : decode cX0_text 64 = .ok (.goto (-36), 3) := by decide +kernel
theorem dX0_text_67 : decode cX0_text 67 = .ok (.aload_n 0, 1) := by decide +kernel
theorem dX0_text_68 : decode cX0_text 68 = .ok (.bipush 19, 2) := by decide +kernel
theorem dX0_text_70 : decode cX0_text 70 = .ok (.invokevirtual 76, 3) := by decide +kernel
theorem dX0_text_73 : decode cX0_text 73 = .ok (.ifCond .ne 5, 3) := by decide +kernel
theorem dX0_text_76 : decode cX0_text 76 = .ok (.iconst 0, 1) := by decide +kernel
theorem dX0_text_77 : decode cX0_text 77 = .ok (.ireturn, 1) := by decide +kernel
theorem dX0_text_78 : decode cX0_text 78 = .ok (.iinc 1 1, 3) := by decide +kernel
theorem dX0_text_81 : decode cX0_text 81 = .ok (.goto (-79), 3) := by decide +kernel
theorem dX0_text_84 : decode cX0_text 84 = .ok (.aload_n 0, 1) := by decide +kernel
theorem dX0_text_85 : decode cX0_text 85 = .ok (.invokevirtual 65, 3) := by decide +kernel
theorem dX0_text_88 : decode cX0_text 88 = .ok (.ifCond .ne 7, 3) := by decide +kernel
theorem dX0_text_91 : decode cX0_text 91 = .ok (.iconst 1, 1) := by decide +kernel
theorem dX0_text_92 : decode cX0_text 92 = .ok (.goto 4, 3) := by decide +kernel
theorem dX0_text_95 : decode cX0_text 95 = .ok (.iconst 0, 1) := by decide +kernel
theorem dX0_text_96 : decode cX0_text 96 = .ok (.ireturn, 1) := by decide +kernel
theorem dX0_heading_0 : decode cX0_heading 0 = .ok (.aload_n 0, 1) := by decide +kernel
theorem dX0_heading_1 : decode cX0_heading 1 = .ok (.getfield 21, 3) := by decide +kernel
theorem dX0_heading_4 : decode cX0_heading 4 = .ok (.getfield 80, 3) := by decide +kernel
theorem dX0_heading_7 : decode cX0_heading 7 = .ok (.bipush 10, 2) := by decide +kernel
theorem dX0_heading_9 : decode cX0_heading 9 = .ok (.if_icmp .lt 10, 3) := by decide +kernel
theorem dX0_heading_12 : decode cX0_heading 12 = .ok (.aload_n 0, 1) := by decide +kernel
theorem dX0_heading_13 : decode cX0_heading 13 = .ok (.iconst 2, 1) := by decide +kernel
theorem dX0_heading_14 : decode cX0_heading 14 = .ok (.putfield 39, 3) := by decide +kernel
theorem dX0_heading_17 : decode cX0_heading 17 = .ok (.iconst 0, 1) := by decide +kernel
theorem dX0_heading_18 : decode cX0_heading 18 = .ok (.ireturn, 1) := by decide +kernel
theorem dX0_heading_19 : decode cX0_heading 19 = .ok (.aload_n 0, 1) := by decide +kernel
theorem dX0_heading_20 : decode cX0_heading 20 = .ok (.getfield 36, 3) := by decide +kernel
theorem dX0_heading_23 : decode cX0_heading 23 = .ok (.iconst 1, 1) := by decide +kernel
theorem dX0_heading_24 : decode cX0_heading 24 = .ok (.iadd, 1) := by decide +kernel
theorem dX0_heading_25 : decode cX0_heading 25 = .ok (.istore_n 1, 1) := by decide +kernel
theorem dX0_heading_26 : decode cX0_heading 26 = .ok (.aload_n 0, 1) := by decide +kernel
theorem dX0_heading_27 : decode cX0_heading 27 = .ok (.bipush 16, 2) := by decide +kernel
theorem dX0_heading_29 : decode cX0_heading 29 = .ok (.invokevirtual 76, 3) := by decide +kernel
theorem dX0_heading_32 : decode cX0_heading 32 = .ok (.ifCond .eq 11, 3) := by decide +kernel
theorem dX0_heading_35 : decode cX0_heading 35 = .ok (.aload_n 0, 1) := by decide +kernel
theorem dX0_heading_36 : decode cX0_heading 36 = .ok (.iconst 3, 1) := by decide +kernel
theorem dX0_heading_37 : decode cX0_heading 37 = .ok (.invokevirtual 76, 3) := by decide +kernel
theorem dX0_heading_40 : decode cX0_heading 40 = .ok (.ifCond .ne 5, 3) := by decide +kernel
theorem dX0_heading_43 : decode cX0_heading 43 = .ok (.iconst 0, 1) := by decide +kernel
theorem dX0_heading_44 : decode cX0_heading 44 = .ok (.ireturn, 1) := by decide +kernel
theorem dX0_heading_45 : decode cX0_heading 45 = .ok (.aload_n 0, 1) := by decide +kernel
theorem dX0_heading_46 : decode cX0_heading 46 = .ok (.getfield 32, 3) := by decide +kernel
theorem dX0_heading_49 : decode cX0_heading 49 = .ok (.aload_n 0, 1) := by decide +kernel
theorem dX0_heading_50 : decode cX0_heading 50 = .ok (.getfield 12, 3) := by decide +kernel
theorem dX0_heading_53 : decode cX0_heading 53 = .ok (.iload_n 1, 1) := by decide +kernel
theorem dX0_heading_54 : decode cX0_heading 54 = .ok (.invokevirtual 83, 3) := by decide +kernel
theorem dX0_heading_57 : decode cX0_heading 57 = .ok (.lstore_n 2, 1) := by decide +kernel
theorem dX0_heading_58 : decode cX0_heading 58 = .ok (.aload_n 0, 1) := by decide +kernel
theorem dX0_heading_59 : decode cX0_heading 59 = .ok (.getfield 21, 3) := by decide +kernel
theorem dX0_heading_62 : decode cX0_heading 62 = .ok (.lload_n 2, 1) := by decide +kernel
theorem dX0_heading_63 : decode cX0_heading 63 = .ok (.invokevirtual 87, 3) := by decide +kernel
theorem dX0_heading_66 : decode cX0_heading 66 = .ok (.ifCond .eq 9, 3) := by decide +kernel
theorem dX0_heading_69 : decode cX0_heading 69 = .ok (.aload_n 0, 1) := by decide +kernel
theorem dX0_heading_70 : decode cX0_heading 70 = .ok (.iconst 3, 1) := by decide +kernel
theorem dX0_heading_71 : decode cX0_heading 71 = .ok (.iload_n 1, 1) := by decide +kernel
theorem dX0_heading_72 : decode cX0_heading 72 = .ok (.invokevirtual 91, 3) := by decide +kernel
theorem dX0_heading_75 : decode cX0_heading 75 = .ok (.aload_n 0, 1) := by decide +kernel
theorem dX0_heading_76 : decode cX0_heading 76 = .ok (.getfield 36, 3) := by decide +kernel
theorem dX0_heading_79 : decode cX0_heading 79 = .ok (.iconst 1, 1) := by decide +kernel
theorem dX0_heading_80 : decode cX0_heading 80 = .ok (.iadd, 1) := by decide +kernel
theorem dX0_heading_81 : decode cX0_heading 81 = .ok (.istore 4, 2) := by decide +kernel
theorem dX0_heading_83 : decode cX0_heading 83 = .ok (.aload_n 0, 1) := by decide +kernel
theorem dX0_heading_84 : decode cX0_heading 84 = .ok (.bipush 17, 2) := by decide +kernel
theorem dX0_heading_86 : decode cX0_heading 86 = .ok (.invokevirtual 76, 3) := by decide +kernel
theorem dX0_heading_89 : decode cX0_heading 89 = .ok (.ifCond .eq 11, 3) := by decide +kernel
theorem dX0_heading_92 : decode cX0_heading 92 = .ok (.aload_n 0, 1) := by decide +kernel
theorem dX0_heading_93 : decode cX0_heading 93 = .ok (.iconst 2, 1) := by decide +kernel
theorem dX0_heading_94 : decode cX0_heading 94 = .ok (.invokevirtual 76, 3) := by decide +kernel
theorem dX0_heading_97 : decode cX0_heading 97 = .ok (.ifCond .ne 5, 3) := by decide +kernel
theorem dX0_heading_100 : decode cX0_heading 100 = .ok (.iconst 0, 1) := by decide +kernel
theorem dX0_heading_101 : decode cX0_heading 101 = .ok (.ireturn, 1) := by decide +kernel
theorem dX0_heading_102 : decode cX0_heading 102 = .ok (.aload_n 0, 1) := by decide +kernel
theorem dX0_heading_103 : decode cX0_heading 103 = .ok (.getfield 32, 3) := by decide +kernel
theorem dX0_heading_106 : decode cX0_heading 106 = .ok (.getfield 95, 3) := by decide +kernel
theorem dX0_heading_109 : decode cX0_heading 109 = .ok (.iload 4, 2) := by decide +kernel
theorem dX0_heading_111 : decode cX0_heading 111 = .ok (.iaload, 1) := by decide +kernel
theorem dX0_heading_112 : decode cX0_heading 112 = .ok (.istore 5, 2) := by decide +kernel
theorem dX0_heading_114 : decode cX0_heading 114 = .ok (.iconst (-1), 1) := by decide +kernel
theorem dX0_heading_115 : decode cX0_heading 115 = .ok (.istore 6, 2) := by decide +kernel
theorem dX0_heading_117 : decode cX0_heading 117 = .ok (.aload_n 0, 1) := by decide +kernel
theorem dX0_heading_118 : decode cX0_heading 118 = .ok (.invokevirtual 65, 3) := by decide +kernel
theorem dX0_heading_121 : decode cX0_heading 121 = .ok (.bipush 18, 2) := by decide +kernel
theorem dX0_heading_123 : decode cX0_heading 123 = .ok (.if_icmp .ne 56, 3) := by decide +kernel
theorem dX0_heading_126 : decode cX0_heading 126 = .ok (.aload_n 0, 1) := by decide +kernel
theorem dX0_heading_127 : decode cX0_heading 127 = .ok (.getfield 36, 3) := by decide +kernel
theorem dX0_heading_130 : decode cX0_heading 130 = .ok (.iconst 1, 1) := by decide +kernel
theorem dX0_heading_131 : decode cX0_heading 131 = .ok (.iadd, 1) := by decide +kernel
theorem dX0_heading_132 : decode cX0_heading 132 = .ok (.istore 7, 2) := by decide +kernel
theorem dX0_heading_134 : decode cX0_heading 134 = .ok (.aload_n 0, 1) := by decide +kernel
theorem dX0_heading_135 : decode cX0_heading 135 = .ok (.bipush 18, 2) := by decide +kernel
theorem dX0_heading_137 : decode cX0_heading 137 = .ok (.invokevirtual 76, 3) := by decide +kernel
theorem dX0_heading_140 : decode cX0_heading 140 = .ok (.ifCond .eq 11, 3) := by decide +kernel
theorem dX0_heading_143 : decode cX0_heading 143 = .ok (.aload_n 0, 1) := by decide +kernel
theorem dX0_heading_144 : decode cX0_heading 144 = .ok (.iconst 2, 1) := by decide +kernel
theorem dX0_heading_145 : decode cX0_heading 145 = .ok (.invokevirtual 76, 3) := by decide +kernel
theorem dX0_heading_148 : decode cX0_heading 148 = .ok (.ifCond .ne 5, 3) := by decide +kernel
theorem dX0_heading_151 : decode cX0_heading 151 = .ok (.iconst 0, 1) := by decide +kernel
theorem dX0_heading_152 : decode cX0_heading 152 = .ok (.ireturn, 1) := by decide +kernel
theorem dX0_heading_153 : decode cX0_heading 153 = .ok (.aload_n 0, 1) := by decide +kernel
theorem dX0_heading_154 : decode cX0_heading 154 = .ok (.getfield 32, 3) := by decide +kernel
theorem dX0_heading_157 : decode cX0_heading 157 = .ok (.getfield 95, 3) := by decide +kernel
theorem dX0_heading_160 : decode cX0_heading 160 = .ok (.iload 7, 2) := by decide +kernel
theorem dX0_heading_162 : decode cX0_heading 162 = .ok (.iaload, 1) := by decide +kernel
theorem dX0_heading_163 : decode cX0_heading 163 = .ok (.istore 6, 2) := by decide +kernel
theorem dX0_heading_165 : decode cX0_heading 165 = .ok (.iload 6, 2) := by decide +kernel
theorem dX0_heading_167 : decode cX0_heading 167 = .ok (.iload 5, 2) := by decide +kernel
theorem dX0_heading_169 : decode cX0_heading 169 = .ok (.if_icmp .gt 10, 3) := by decide +kernel
theorem dX0_heading_172 : decode cX0_heading 172 = .ok (.aload_n 0, 1) := by decide +kernel
theorem dX0_heading_173 : decode cX0_heading 173 = .ok (.iconst 5, 1) := by decide +kernel
theorem dX0_heading_174 : decode cX0_heading 174 = .ok (.iload 7, 2) := by decide +kernel
theorem dX0_heading_176 : decode cX0_heading 176 = .ok (.invokevirtual 91, 3) := by decide +kernel
theorem dX0_heading_179 : decode cX0_heading 179 = .ok (.aload_n 0, 1) := by decide +kernel
theorem dX0_heading_180 : decode cX0_heading 180 = .ok (.getfield 21, 3) := by decide +kernel
theorem dX0_heading_183 : decode cX0_heading 183 = .ok (.lload_n 2, 1) := by decide +kernel
theorem dX0_heading_184 : decode cX0_heading 184 = .ok (.iload 5, 2) := by decide +kernel
theorem dX0_heading_186 : decode cX0_heading 186 = .ok (.iload 6, 2) := by decide +kernel
theorem dX0_heading_188 : decode cX0_heading 188 = .ok (.invokevirtual 98, 3) := by decide +kernel
theorem dX0_heading_191 : decode cX0_heading 191 = .ok (.aload_n 0, 1) := by decide +kernel
theorem dX0_heading_192 : decode cX0_heading 192 = .ok (.iconst 4, 1) := by decide +kernel
theorem dX0_heading_193 : decode cX0_heading 193 = .ok (.invokevirtual 76, 3) := by decide +kernel
theorem dX0_heading_196 : decode cX0_heading 196 = .ok (.ireturn, 1) := by decide +kernel
theorem dX0_rule_0 : decode cX0_rule 0 = .ok (.aload_n 0, 1) := by decide +kernel
theorem dX0_rule_1 : decode cX0_rule 1 = .ok (.getfield 21, 3) := by decide +kernel
theorem dX0_rule_4 : decode cX0_rule 4 = .ok (.getfield 102, 3) := by decide +kernel
theorem dX0_rule_7 : decode cX0_rule 7 = .ok (.istore_n 1, 1) := by decide +kernel
theorem dX0_rule_8 : decode cX0_rule 8 = .ok (.iload_n 1, 1) := by decide +kernel
theorem dX0_rule_9 : decode cX0_rule 9 = .ok (.bipush 30, 2) := by decide +kernel
theorem dX0_rule_11 : decode cX0_rule 11 = .ok (.if_icmp .lt 10, 3) := by decide +kernel
theorem dX0_rule_14 : decode cX0_rule 14 = .ok (.aload_n 0, 1) := by decide +kernel
theorem dX0_rule_15 : decode cX0_rule 15 = .ok (.iconst 2, 1) := by decide +kernel
theorem dX0_rule_16 : decode cX0_rule 16 = .ok (.putfield 39, 3) := by decide +kernel
theorem dX0_rule_19 : decode cX0_rule 19 = .ok (.iconst 0, 1) := by decide +kernel
theorem dX0_rule_20 : decode cX0_rule 20 = .ok (.ireturn, 1) := by decide +kernel
theorem dX0_rule_21 : decode cX0_rule 21 = .ok (.aload_n 0, 1) := by decide +kernel
theorem dX0_rule_22 : decode cX0_rule 22 = .ok (.getfield 21, 3) := by decide +kernel
theorem dX0_rule_25 : decode cX0_rule 25 = .ok (.invokevirtual 105, 3) := by decide +kernel
theorem dX0_rule_28 : decode cX0_rule 28 = .ok (.aload_n 0, 1) := by decide +kernel
theorem dX0_rule_29 : decode cX0_rule 29 = .ok (.iload_n 1, 1) := by decide +kernel
theorem dX0_rule_30 : decode cX0_rule 30 = .ok (.invokevirtual 108, 3) := by decide +kernel
theorem dX0_rule_33 : decode cX0_rule 33 = .ok (.ifCond .ne 5, 3) := by decide +kernel
theorem dX0_rule_36 : decode cX0_rule 36 = .ok (.iconst 0, 1) := by decide +kernel
theorem dX0_rule_37 : decode cX0_rule 37 = .ok (.ireturn, 1) := by decide +kernel
theorem dX0_rule_38 : decode cX0_rule 38 = .ok (.aload_n 0, 1) := by decide +kernel
theorem dX0_rule_39 : decode cX0_rule 39 = .ok (.getfield 21, 3) := by decide +kernel
theorem dX0_rule_42 : decode cX0_rule 42 = .ok (.getfield 111, 3) := by decide +kernel
theorem dX0_rule_45 : decode cX0_rule 45 = .ok (.iload_n 1, 1) := by decide +kernel
theorem dX0_rule_46 : decode cX0_rule 46 = .ok (.aload_n 0, 1) := by decide +kernel
theorem dX0_rule_47 : decode cX0_rule 47 = .ok (.invokevirtual 65, 3) := by decide +kernel
theorem dX0_rule_50 : decode cX0_rule 50 = .ok (.bipush 22, 2) := by decide +kernel
theorem dX0_rule_52 : decode cX0_rule 52 = .ok (.if_icmp .ne 7, 3) := by decide +kernel
theorem dX0_rule_55 : decode cX0_rule 55 = .ok (.iconst 1, 1) := by decide +kernel
theorem dX0_rule_56 : decode cX0_rule 56 = .ok (.goto 4, 3) := by decide +kernel
theorem dX0_rule_59 : decode cX0_rule 59 = .ok (.iconst 0, 1) := by decide +kernel
theorem dX0_rule_60 : decode cX0_rule 60 = .ok (.bastore, 1) := by decide +kernel
theorem dX0_rule_61 : decode cX0_rule 61 = .ok (.aload_n 0, 1) := by decide +kernel
theorem dX0_rule_62 : decode cX0_rule 62 = .ok (.getfield 21, 3) := by decide +kernel
theorem dX0_rule_65 : decode cX0_rule 65 = .ok (.getfield 111, 3) := by decide +kernel
theorem dX0_rule_68 : decode cX0_rule 68 = .ok (.iload_n 1, 1) := by decide +kernel
theorem dX0_rule_69 : decode cX0_rule 69 = .ok (.baload, 1) := by decide +kernel
theorem dX0_rule_70 : decode cX0_rule 70 = .ok (.ifCond .eq 28, 3) := by decide +kernel
theorem dX0_rule_73 : decode cX0_rule 73 = .ok (.aload_n 0, 1) := by decide +kernel
theorem dX0_rule_74 : decode cX0_rule 74 = .ok (.bipush 22, 2) := by decide +kernel
theorem dX0_rule_76 : decode cX0_rule 76 = .ok (.invokevirtual 76, 3) := by decide +kernel
theorem dX0_rule_79 : decode cX0_rule 79 = .ok (.ifCond .eq 15, 3) := by decide +kernel
theorem dX0_rule_82 : decode cX0_rule 82 = .ok (.aload_n 0, 1) := by decide +kernel
theorem dX0_rule_83 : decode cX0_rule 83 = .ok (.iconst 0, 1) := by decide +kernel
theorem dX0_rule_84 : decode cX0_rule 84 = .ok (.invokevirtual 115, 3) := by decide +kernel
theorem dX0_rule_87 : decode cX0_rule 87 = .ok (.ifCond .eq 7, 3) := by decide +kernel
theorem dX0_rule_90 : decode cX0_rule 90 = .ok (.iconst 1, 1) := by decide +kernel
theorem dX0_rule_91 : decode cX0_rule 91 = .ok (.goto 28, 3) := by decide +kernel
theorem dX0_rule_94 : decode cX0_rule 94 = .ok (.iconst 0, 1) := by decide +kernel
theorem dX0_rule_95 : decode cX0_rule 95 = .ok (.goto 24, 3) := by decide +kernel
theorem dX0_rule_98 : decode cX0_rule 98 = .ok (.aload_n 0, 1) := by decide +kernel
theorem dX0_rule_99 : decode cX0_rule 99 = .ok (.bipush 20, 2) := by decide +kernel
theorem dX0_rule_101 : decode cX0_rule 101 = .ok (.invokevirtual 76, 3) := by decide +kernel
theorem dX0_rule_104 : decode cX0_rule 104 = .ok (.ifCond .eq 14, 3) := by decide +kernel
theorem dX0_rule_107 : decode cX0_rule 107 = .ok (.aload_n 0, 1) := by decide +kernel
theorem dX0_rule_108 : decode cX0_rule 108 = .ok (.invokevirtual 118, 3) := by decide +kernel
theorem dX0_rule_111 : decode cX0_rule 111 = .ok (.ifCond .eq 7, 3) := by decide +kernel
theorem dX0_rule_114 : decode cX0_rule 114 = .ok (.iconst 1, 1) := by decide +kernel
theorem dX0_rule_115 : decode cX0_rule 115 = .ok (.goto 4, 3) := by decide +kernel
theorem dX0_rule_118 : decode cX0_rule 118 = .ok (.iconst 0, 1) := by decide +kernel
theorem dX0_rule_119 : decode cX0_rule 119 = .ok (.istore_n 2, 1) := by decide +kernel
theorem dX0_rule_120 : decode cX0_rule 120 = .ok (.aload_n 0, 1) := by decide +kernel
theorem dX0_rule_121 : decode cX0_rule 121 = .ok (.getfield 21, 3) := by decide +kernel
theorem dX0_rule_124 : decode cX0_rule 124 = .ok (.getfield 121, 3) := by decide +kernel
theorem dX0_rule_127 : decode cX0_rule 127 = .ok (.iload_n 1, 1) := by decide +kernel
theorem dX0_rule_128 : decode cX0_rule 128 = .ok (.aload_n 0, 1) := by decide +kernel
theorem dX0_rule_129 : decode cX0_rule 129 = .ok (.getfield 21, 3) := by decide +kernel
theorem dX0_rule_132 : decode cX0_rule 132 = .ok (.getfield 124, 3) := by decide +kernel
theorem dX0_rule_135 : decode cX0_rule 135 = .ok (.iastore, 1) := by decide +kernel
theorem dX0_rule_136 : decode cX0_rule 136 = .ok (.iload_n 2, 1) := by decide +kernel
theorem dX0_rule_137 : decode cX0_rule 137 = .ok (.ifCond .ne 5, 3) := by decide +kernel
theorem dX0_rule_140 : decode cX0_rule 140 = .ok (.iconst 0, 1) := by decide +kernel
theorem dX0_rule_141 : decode cX0_rule 141 = .ok (.ireturn, 1) := by decide +kernel
theorem dX0_rule_142 : decode cX0_rule 142 = .ok (.aload_n 0, 1) := by decide +kernel
theorem dX0_rule_143 : decode cX0_rule 143 = .ok (.invokevirtual 65, 3) := by decide +kernel
theorem dX0_rule_146 : decode cX0_rule 146 = .ok (.bipush 21, 2) := by decide +kernel
theorem dX0_rule_148 : decode cX0_rule 148 = .ok (.if_icmp .ne 21, 3) := by decide +kernel
theorem dX0_rule_151 : decode cX0_rule 151 = .ok (.aload_n 0, 1) := by decide +kernel
theorem dX0_rule_152 : decode cX0_rule 152 = .ok (.bipush 21, 2) := by decide +kernel
theorem dX0_rule_154 : decode cX0_rule 154 = .ok (.invokevirtual 76, 3) := by decide +kernel
theorem dX0_rule_157 : decode cX0_rule 157 = .ok (.ifCond .eq 10, 3) := by decide +kernel
theorem dX0_rule_160 : decode cX0_rule 160 = .ok (.aload_n 0, 1) := by decide +kernel
theorem dX0_rule_161 : decode cX0_rule 161 = .ok (.invokevirtual 118, 3) := by decide +kernel
theorem dX0_rule_164 : decode cX0_rule 164 = .ok (.ifCond .ne 5, 3) := by decide +kernel
theorem dX0_rule_167 : decode cX0_rule 167 = .ok (.iconst 0, 1) := by decide +kernel
theorem dX0_rule_168 : decode cX0_rule 168 = .ok (.ireturn, 1) := by decide +kernel
theorem dX0_rule_169 : decode cX0_rule 169 = .ok (.aload_n 0, 1) := by decide +kernel
theorem dX0_rule_170 : decode cX0_rule 170 = .ok (.getfield 21, 3) := by decide +kernel
theorem dX0_rule_173 : decode cX0_rule 173 = .ok (.getfield 127, 3) := by decide +kernel
theorem dX0_rule_176 : decode cX0_rule 176 = .ok (.iload_n 1, 1) := by decide +kernel
theorem dX0_rule_177 : decode cX0_rule 177 = .ok (.aload_n 0, 1) := by decide +kernel
theorem dX0_rule_178 : decode cX0_rule 178 = .ok (.getfield 21, 3) := by decide +kernel
theorem dX0_rule_181 : decode cX0_rule 181 = .ok (.getfield 124, 3) := by decide +kernel
theorem dX0_rule_184 : decode cX0_rule 184 = .ok (.iastore, 1) := by decide +kernel
theorem dX0_rule_185 : decode cX0_rule 185 = .ok (.aload_n 0, 1) := by decide +kernel
theorem dX0_rule_186 : decode cX0_rule 186 = .ok (.iconst 4, 1) := by decide +kernel
theorem dX0_rule_187 : decode cX0_rule 187 = .ok (.invokevirtual 76, 3) := by decide +kernel
theorem dX0_rule_190 : decode cX0_rule 190 = .ok (.ireturn, 1) := by decide +kernel
theorem dX0_who_0 : decode cX0_who 0 = .ok (.aload_n 0, 1) := by decide +kernel
theorem dX0_who_1 : decode cX0_who 1 = .ok (.getfield 21, 3) := by decide +kernel
theorem dX0_who_4 : decode cX0_who 4 = .ok (.getfield 130, 3) := by decide +kernel
theorem dX0_who_7 : decode cX0_who 7 = .ok (.iload_n 1, 1) := by decide +kernel
theorem dX0_who_8 : decode cX0_who 8 = .ok (.iconst (-1), 1) := by decide +kernel
theorem dX0_who_9 : decode cX0_who 9 = .ok (.iastore, 1) := by decide +kernel
theorem dX0_who_10 : decode cX0_who 10 = .ok (.aload_n 0, 1) := by decide +kernel
theorem dX0_who_11 : decode cX0_who 11 = .ok (.invokevirtual 65, 3) := by decide +kernel
theorem dX0_who_14 : decode cX0_who 14 = .ok (.bipush 24, 2) := by decide +kernel
theorem dX0_who_16 : decode cX0_who 16 = .ok (.if_icmp .ne 10, 3) := by decide +kernel
theorem dX0_who_19 : decode cX0_who 19 = .ok (.aload_n 0, 1) := by decide +kernel
theorem dX0_who_20 : decode cX0_who 20 = .ok (.bipush 24, 2) := by decide +kernel
theorem dX0_who_22 : decode cX0_who 22 = .ok (.invokevirtual 76, 3) := by decide +kernel
theorem dX0_who_25 : decode cX0_who 25 = .ok (.ireturn, 1) := by decide +kernel
theorem dX0_who_26 : decode cX0_who 26 = .ok (.aload_n 0, 1) := by decide +kernel
theorem dX0_who_27 : decode cX0_who 27 = .ok (.getfield 36, 3) := by decide +kernel
theorem dX0_who_30 : decode cX0_who 30 = .ok (.iconst 1, 1) := by decide +kernel
theorem dX0_who_31 : decode cX0_who 31 = .ok (.iadd, 1) := by decide +kernel
theorem dX0_who_32 : decode cX0_who 32 = .ok (.istore_n 2, 1) := by decide +kernel
theorem dX0_who_33 : decode cX0_who 33 = .ok (.aload_n 0, 1) := by decide +kernel
theorem dX0_who_34 : decode cX0_who 34 = .ok (.bipush 23, 2) := by decide +kernel
theorem dX0_who_36 : decode cX0_who 36 = .ok (.invokevirtual 76, 3) := by decide +kernel
theorem dX0_who_39 : decode cX0_who 39 = .ok (.ifCond .eq 11, 3) := by decide +kernel
theorem dX0_who_42 : decode cX0_who 42 = .ok (.aload_n 0, 1) := by decide +kernel
theorem dX0_who_43 : decode cX0_who 43 = .ok (.iconst 2, 1) := by decide +kernel
theorem dX0_who_44 : decode cX0_who 44 = .ok (.invokevirtual 76, 3) := by decide +kernel
theorem dX0_who_47 : decode cX0_who 47 = .ok (.ifCond .ne 5, 3) := by decide +kernel
theorem dX0_who_50 : decode cX0_who 50 = .ok (.iconst 0, 1) := by decide +kernel
theorem dX0_who_51 : decode cX0_who 51 = .ok (.ireturn, 1) := by decide +kernel
theorem dX0_who_52 : decode cX0_who 52 = .ok (.aload_n 0, 1) := by decide +kernel
theorem dX0_who_53 : decode cX0_who 53 = .ok (.getfield 21, 3) := by decide +kernel
theorem dX0_who_56 : decode cX0_who 56 = .ok (.getfield 130, 3) := by decide +kernel
theorem dX0_who_59 : decode cX0_who 59 = .ok (.iload_n 1, 1) := by decide +kernel
theorem dX0_who_60 : decode cX0_who 60 = .ok (.aload_n 0, 1) := by decide +kernel
theorem dX0_who_61 : decode cX0_who 61 = .ok (.getfield 32, 3) := by decide +kernel
theorem dX0_who_64 : decode cX0_who 64 = .ok (.getfield 95, 3) := by decide +kernel
theorem dX0_who_67 : decode cX0_who 67 = .ok (.iload_n 2, 1) := by decide +kernel
theorem dX0_who_68 : decode cX0_who 68 = .ok (.iaload, 1) := by decide +kernel
theorem dX0_who_69 : decode cX0_who 69 = .ok (.iastore, 1) := by decide +kernel
theorem dX0_who_70 : decode cX0_who 70 = .ok (.aload_n 0, 1) := by decide +kernel
theorem dX0_who_71 : decode cX0_who 71 = .ok (.getfield 21, 3) := by decide +kernel
theorem dX0_who_74 : decode cX0_who 74 = .ok (.getfield 130, 3) := by decide +kernel
theorem dX0_who_77 : decode cX0_who 77 = .ok (.iload_n 1, 1) := by decide +kernel
theorem dX0_who_78 : decode cX0_who 78 = .ok (.iaload, 1) := by decide +kernel
theorem dX0_who_79 : decode cX0_who 79 = .ok (.bipush 7, 2) := by decide +kernel
theorem dX0_who_81 : decode cX0_who 81 = .ok (.if_icmp .lt 9, 3) := by decide +kernel
theorem dX0_who_84 : decode cX0_who 84 = .ok (.aload_n 0, 1) := by decide +kernel
theorem dX0_who_85 : decode cX0_who 85 = .ok (.iconst 5, 1) := by decide +kernel
theorem dX0_who_86 : decode cX0_who 86 = .ok (.iload_n 2, 1) := by decide +kernel
theorem dX0_who_87 : decode cX0_who 87 = .ok (.invokevirtual 91, 3) := by decide +kernel
theorem dX0_who_90 : decode cX0_who 90 = .ok (.iconst 1, 1) := by decide +kernel
theorem dX0_who_91 : decode cX0_who 91 = .ok (.ireturn, 1) := by decide +kernel
theorem dX0_condition_0 : decode cX0_condition 0 = .ok (.iconst 0, 1) := by decide +kernel
theorem dX0_condition_1 : decode cX0_condition 1 = .ok (.istore_n 1, 1) := by decide +kernel
theorem dX0_condition_2 : decode cX0_condition 2 = .ok (.aload_n 0, 1) := by decide +kernel
theorem dX0_condition_3 : decode cX0_condition 3 = .ok (.invokevirtual 132, 3) := by decide +kernel
theorem dX0_condition_6 : decode cX0_condition 6 = .ok (.ifCond .ne 5, 3) := by decide +kernel
theorem dX0_condition_9 : decode cX0_condition 9 = .ok (.iconst 0, 1) := by decide +kernel
theorem dX0_condition_10 : decode cX0_condition 10 = .ok (.ireturn, 1) := by decide +kernel
theorem dX0_condition_11 : decode cX0_condition 11 = .ok (.iconst 0, 1) := by decide +kernel
theorem dX0_condition_12 : decode cX0_condition 12 = .ok (.istore_n 2, 1) := by decide +kernel
theorem dX0_condition_13 : decode cX0_condition 13 = .ok (.iload_n 2, 1) := by decide +kernel
theorem dX0_condition_14 : decode cX0_condition 14 = .ok (.sipush 600, 3) := by decide +kernel
theorem dX0_condition_17 : decode cX0_condition 17 = .ok (.if_icmp .ge 99, 3) := by decide +kernel
theorem dX0_condition_20 : decode cX0_condition 20 = .ok (.aload_n 0, 1) := by decide +kernel
theorem dX0_condition_21 : decode cX0_condition 21 = .ok (.invokevirtual 65, 3) := by decide +kernel
theorem dX0_condition_24 : decode cX0_condition 24 = .ok (.bipush 26, 2) := by decide +kernel
theorem dX0_condition_26 : decode cX0_condition 26 = .ok (.if_icmp .eq 12, 3) := by decide +kernel
theorem dX0_condition_29 : decode cX0_condition 29 = .ok (.aload_n 0, 1) := by decide +kernel
theorem dX0_condition_30 : decode cX0_condition 30 = .ok (.invokevirtual 65, 3) := by decide +kernel
theorem dX0_condition_33 : decode cX0_condition 33 = .ok (.bipush 25, 2) := by decide +kernel
theorem dX0_condition_35 : decode cX0_condition 35 = .ok (.if_icmp .ne 81, 3) := by decide +kernel
theorem dX0_condition_38 : decode cX0_condition 38 = .ok (.aload_n 0, 1) := by decide +kernel
theorem dX0_condition_39 : decode cX0_condition 39 = .ok (.invokevirtual 65, 3) := by decide +kernel
theorem dX0_condition_42 : decode cX0_condition 42 = .ok (.istore_n 3, 1) := by decide +kernel
theorem dX0_condition_43 : decode cX0_condition 43 = .ok (.iload_n 3, 1) := by decide +kernel
theorem dX0_condition_44 : decode cX0_condition 44 = .ok (.bipush 25, 2) := by decide +kernel
theorem dX0_condition_46 : decode cX0_condition 46 = .ok (.if_icmp .ne 16, 3) := by decide +kernel
theorem dX0_condition_49 : decode cX0_condition 49 = .ok (.iload_n 1, 1) := by decide +kernel
theorem dX0_condition_50 : decode cX0_condition 50 = .ok (.ifCond .eq 12, 3) := by decide +kernel
theorem dX0_condition_53 : decode cX0_condition 53 = .ok (.aload_n 0, 1) := by decide +kernel
theorem dX0_condition_54 : decode cX0_condition 54 = .ok (.getfield 21, 3) := by decide +kernel
theorem dX0_condition_57 : decode cX0_condition 57 = .ok (.bipush (-25), 2) := by decide +kernel
theorem dX0_condition_59 : decode cX0_condition 59 = .ok (.invokevirtual 135, 3) := by decide +kernel
theorem dX0_condition_62 : decode cX0_condition 62 = .ok (.iload_n 1, 1) := by decide +kernel
theorem dX0_condition_63 : decode cX0_condition 63 = .ok (.ifCond .ne 9, 3) := by decide +kernel
theorem dX0_condition_66 : decode cX0_condition 66 = .ok (.iload_n 3, 1) := by decide +kernel
theorem dX0_condition_67 : decode cX0_condition 67 = .ok (.bipush 25, 2) := by decide +kernel
theorem dX0_condition_69 : decode cX0_condition 69 = .ok (.if_icmp .ne 7, 3) := by decide +kernel
theorem dX0_condition_72 : decode cX0_condition 72 = .ok (.iconst 1, 1) := by decide +kernel
theorem dX0_condition_73 : decode cX0_condition 73 = .ok (.goto 4, 3) := by decide +kernel
theorem dX0_condition_76 : decode cX0_condition 76 = .ok (.iconst 0, 1) := by decide +kernel
theorem dX0_condition_77 : decode cX0_condition 77 = .ok (.istore_n 1, 1) := by decide +kernel
theorem dX0_condition_78 : decode cX0_condition 78 = .ok (.aload_n 0, 1) := by decide +kernel
theorem dX0_condition_79 : decode cX0_condition 79 = .ok (.iload_n 3, 1) := by decide +kernel
theorem dX0_condition_80 : decode cX0_condition 80 = .ok (.invokevirtual 76, 3) := by decide +kernel
theorem dX0_condition_83 : decode cX0_condition 83 = .ok (.ifCond .eq 10, 3) := by decide +kernel
theorem dX0_condition_86 : decode cX0_condition 86 = .ok (.aload_n 0, 1) := by decide +kernel
theorem dX0_condition_87 : decode cX0_condition 87 = .ok (.invokevirtual 132, 3) := by decide +kernel
theorem dX0_condition_90 : decode cX0_condition 90 = .ok (.ifCond .ne 5, 3) := by decide +kernel
theorem dX0_condition_93 : decode cX0_condition 93 = .ok (.iconst 0, 1) := by decide +kernel
theorem dX0_condition_94 : decode cX0_condition 94 = .ok (.ireturn, 1) := by decide +kernel
theorem dX0_condition_95 : decode cX0_condition 95 = .ok (.iload_n 3, 1) := by decide +kernel
theorem dX0_condition_96 : decode cX0_condition 96 = .ok (.bipush 26, 2) := by decide +kernel
theorem dX0_condition_98 : decode cX0_condition 98 = .ok (.if_icmp .ne 12, 3) := by decide +kernel
theorem dX0_condition_101 : decode cX0_condition 101 = .ok (.aload_n 0, 1) := by decide +kernel
theorem dX0_condition_102 : decode cX0_condition 102 = .ok (.getfield 21, 3) := by decide +kernel
theorem dX0_condition_105 : decode cX0_condition 105 = .ok (.bipush (-26), 2) := by decide +kernel
theorem dX0_condition_107 : decode cX0_condition 107 = .ok (.invokevirtual 135, 3) := by decide +kernel
theorem dX0_condition_110 : decode cX0_condition 110 = .ok (.iinc 2 1, 3) := by decide +kernel
theorem dX0_condition_113 : decode cX0_condition 113 = .ok (.goto (-100), 3) := by decide +kernel
theorem dX0_condition_116 : decode cX0_condition 116 = .ok (.iload_n 1, 1) := by decide +kernel
theorem dX0_condition_117 : decode cX0_condition 117 = .ok (.ifCond .eq 12, 3) := by decide +kernel
theorem dX0_condition_120 : decode cX0_condition 120 = .ok (.aload_n 0, 1) := by decide +kernel
theorem dX0_condition_121 : decode cX0_condition 121 = .ok (.getfield 21, 3) := by decide +kernel
theorem dX0_condition_124 : decode cX0_condition 124 = .ok (.bipush (-25), 2) := by decide +kernel
theorem dX0_condition_126 : decode cX0_condition 126 = .ok (.invokevirtual 135, 3) := by decide +kernel
theorem dX0_condition_129 : decode cX0_condition 129 = .ok (.iconst 1, 1) := by decide +kernel
theorem dX0_condition_130 : decode cX0_condition 130 = .ok (.ireturn, 1) := by decide +kernel
theorem dX0_relation_0 : decode cX0_relation 0 = .ok (.aload_n 0, 1) := by decide +kernel
theorem dX0_relation_1 : decode cX0_relation 1 = .ok (.iconst 0, 1) := by decide +kernel
theorem dX0_relation_2 : decode cX0_relation 2 = .ok (.invokevirtual 115, 3) := by decide +kernel
theorem dX0_relation_5 : decode cX0_relation 5 = .ok (.ifCond .ne 5, 3) := by decide +kernel
theorem dX0_relation_8 : decode cX0_relation 8 = .ok (.iconst 0, 1) := by decide +kernel
theorem dX0_relation_9 : decode cX0_relation 9 = .ok (.ireturn, 1) := by decide +kernel
theorem dX0_relation_10 : decode cX0_relation 10 = .ok (.aload_n 0, 1) := by decide +kernel
theorem dX0_relation_11 : decode cX0_relation 11 = .ok (.invokevirtual 65, 3) := by decide +kernel
theorem dX0_relation_14 : decode cX0_relation 14 = .ok (.istore_n 1, 1) := by decide +kernel
theorem dX0_relation_15 : decode cX0_relation 15 = .ok (.iload_n 1, 1) := by decide +kernel
theorem dX0_relation_16 : decode cX0_relation 16 = .ok (.bipush 11, 2) := by decide +kernel
theorem dX0_relation_18 : decode cX0_relation 18 = .ok (.if_icmp .lt 25, 3) := by decide +kernel
theorem dX0_relation_21 : decode cX0_relation 21 = .ok (.iload_n 1, 1) := by decide +kernel
theorem dX0_relation_22 : decode cX0_relation 22 = .ok (.bipush 14, 2) := by decide +kernel
theorem dX0_relation_24 : decode cX0_relation 24 = .ok (.if_icmp .gt 19, 3) := by decide +kernel
theorem dX0_relation_27 : decode cX0_relation 27 = .ok (.aload_n 0, 1) := by decide +kernel
theorem dX0_relation_28 : decode cX0_relation 28 = .ok (.iload_n 1, 1) := by decide +kernel
theorem dX0_relation_29 : decode cX0_relation 29 = .ok (.invokevirtual 76, 3) := by decide +kernel
theorem dX0_relation_32 : decode cX0_relation 32 = .ok (.ifCond .eq 11, 3) := by decide +kernel
theorem dX0_relation_35 : decode cX0_relation 35 = .ok (.aload_n 0, 1) := by decide +kernel
theorem dX0_relation_36 : decode cX0_relation 36 = .ok (.iconst 0, 1) := by decide +kernel
theorem dX0_relation_37 : decode cX0_relation 37 = .ok (.invokevirtual 115, 3) := by decide +kernel
theorem dX0_relation_40 : decode cX0_relation 40 = .ok (.ifCond .ne 5, 3) := by decide +kernel
theorem dX0_relation_43 : decode cX0_relation 43 = .ok (.iconst 0, 1) := by decide +kernel
theorem dX0_relation_44 : decode cX0_relation 44 = .ok (.ireturn, 1) := by decide +kernel
theorem dX0_relation_45 : decode cX0_relation 45 = .ok (.aload_n 0, 1) := by decide +kernel
theorem dX0_relation_46 : decode cX0_relation 46 = .ok (.getfield 21, 3) := by decide +kernel
theorem dX0_relation_49 : decode cX0_relation 49 = .ok (.iload_n 1, 1) := by decide +kernel
theorem dX0_relation_50 : decode cX0_relation 50 = .ok (.ineg, 1) := by decide +kernel
theorem dX0_relation_51 : decode cX0_relation 51 = .ok (.invokevirtual 135, 3) := by decide +kernel
theorem dX0_relation_54 : decode cX0_relation 54 = .ok (.iconst 1, 1) := by decide +kernel
theorem dX0_relation_55 : decode cX0_relation 55 = .ok (.ireturn, 1) := by decide +kernel
theorem dX0_sum_0 : decode cX0_sum 0 = .ok (.aload_n 0, 1) := by decide +kernel
theorem dX0_sum_1 : decode cX0_sum 1 = .ok (.invokevirtual 65, 3) := by decide +kernel
theorem dX0_sum_4 : decode cX0_sum 4 = .ok (.bipush 9, 2) := by decide +kernel
theorem dX0_sum_6 : decode cX0_sum 6 = .ok (.if_icmp .ne 8, 3) := by decide +kernel
theorem dX0_sum_9 : decode cX0_sum 9 = .ok (.bipush 15, 2) := by decide +kernel
theorem dX0_sum_11 : decode cX0_sum 11 = .ok (.goto 4, 3) := by decide +kernel
theorem dX0_sum_14 : decode cX0_sum 14 = .ok (.iconst 0, 1) := by decide +kernel
theorem dX0_sum_15 : decode cX0_sum 15 = .ok (.istore_n 2, 1) := by decide +kernel
theorem dX0_sum_16 : decode cX0_sum 16 = .ok (.iload_n 2, 1) := by decide +kernel
theorem dX0_sum_17 : decode cX0_sum 17 = .ok (.ifCond .eq 12, 3) := by decide +kernel
theorem dX0_sum_20 : decode cX0_sum 20 = .ok (.aload_n 0, 1) := by decide +kernel
theorem dX0_sum_21 : decode cX0_sum 21 = .ok (.bipush 9, 2) := by decide +kernel
theorem dX0_sum_23 : decode cX0_sum 23 = .ok (.invokevirtual 76, 3) := by decide +kernel
theorem dX0_sum_26 : decode cX0_sum 26 = .ok (.ifCond .eq 11, 3) := by decide +kernel
theorem dX0_sum_29 : decode cX0_sum 29 = .ok (.aload_n 0, 1) := by decide +kernel
theorem dX0_sum_30 : decode cX0_sum 30 = .ok (.iload_n 1, 1) := by decide +kernel
theorem dX0_sum_31 : decode cX0_sum 31 = .ok (.invokevirtual 139, 3) := by decide +kernel
theorem dX0_sum_34 : decode cX0_sum 34 = .ok (.ifCond .ne 5, 3) := by decide +kernel
theorem dX0_sum_37 : decode cX0_sum 37 = .ok (.iconst 0, 1) := by decide +kernel
theorem dX0_sum_38 : decode cX0_sum 38 = .ok (.ireturn, 1) := by decide +kernel
theorem dX0_sum_39 : decode cX0_sum 39 = .ok (.iconst 0, 1) := by decide +kernel
theorem dX0_sum_40 : decode cX0_sum 40 = .ok (.istore_n 3, 1) := by decide +kernel
theorem dX0_sum_41 : decode cX0_sum 41 = .ok (.iload_n 3, 1) := by decide +kernel
theorem dX0_sum_42 : decode cX0_sum 42 = .ok (.sipush 600, 3) := by decide +kernel
theorem dX0_sum_45 : decode cX0_sum 45 = .ok (.if_icmp .ge 92, 3) := by decide +kernel
theorem dX0_sum_48 : decode cX0_sum 48 = .ok (.aload_n 0, 1) := by decide +kernel
theorem dX0_sum_49 : decode cX0_sum 49 = .ok (.invokevirtual 65, 3) := by decide +kernel
theorem dX0_sum_52 : decode cX0_sum 52 = .ok (.bipush 8, 2) := by decide +kernel
theorem dX0_sum_54 : decode cX0_sum 54 = .ok (.if_icmp .lt 83, 3) := by decide +kernel
theorem dX0_sum_57 : decode cX0_sum 57 = .ok (.aload_n 0, 1) := by decide +kernel
theorem dX0_sum_58 : decode cX0_sum 58 = .ok (.invokevirtual 65, 3) := by decide +kernel
theorem dX0_sum_61 : decode cX0_sum 61 = .ok (.bipush 10, 2) := by decide +kernel
theorem dX0_sum_63 : decode cX0_sum 63 = .ok (.if_icmp .gt 74, 3) := by decide +kernel
theorem dX0_sum_66 : decode cX0_sum 66 = .ok (.aload_n 0, 1) := by decide +kernel
theorem dX0_sum_67 : decode cX0_sum 67 = .ok (.invokevirtual 65, 3) := by decide +kernel
theorem dX0_sum_70 : decode cX0_sum 70 = .ok (.istore 4, 2) := by decide +kernel
theorem dX0_sum_72 : decode cX0_sum 72 = .ok (.iload 4, 2) := by decide +kernel
theorem dX0_sum_74 : decode cX0_sum 74 = .ok (.bipush 10, 2) := by decide +kernel
theorem dX0_sum_76 : decode cX0_sum 76 = .ok (.if_icmp .eq 19, 3) := by decide +kernel
theorem dX0_sum_79 : decode cX0_sum 79 = .ok (.iload_n 2, 1) := by decide +kernel
theorem dX0_sum_80 : decode cX0_sum 80 = .ok (.ifCond .eq 12, 3) := by decide +kernel
theorem dX0_sum_83 : decode cX0_sum 83 = .ok (.aload_n 0, 1) := by decide +kernel
theorem dX0_sum_84 : decode cX0_sum 84 = .ok (.getfield 21, 3) := by decide +kernel
theorem dX0_sum_87 : decode cX0_sum 87 = .ok (.iload_n 2, 1) := by decide +kernel
theorem dX0_sum_88 : decode cX0_sum 88 = .ok (.ineg, 1) := by decide +kernel
theorem dX0_sum_89 : decode cX0_sum 89 = .ok (.invokevirtual 135, 3) := by decide +kernel
theorem dX0_sum_92 : decode cX0_sum 92 = .ok (.iload 4, 2) := by decide +kernel
theorem dX0_sum_94 : decode cX0_sum 94 = .ok (.istore_n 2, 1) := by decide +kernel
theorem dX0_sum_95 : decode cX0_sum 95 = .ok (.aload_n 0, 1) := by decide +kernel
theorem dX0_sum_96 : decode cX0_sum 96 = .ok (.iload 4, 2) := by decide +kernel
theorem dX0_sum_98 : decode cX0_sum 98 = .ok (.invokevirtual 76, 3) := by decide +kernel
theorem dX0_sum_101 : decode cX0_sum 101 = .ok (.ifCond .eq 11, 3) := by decide +kernel
theorem dX0_sum_104 : decode cX0_sum 104 = .ok (.aload_n 0, 1) := by decide +kernel
theorem dX0_sum_105 : decode cX0_sum 105 = .ok (.iload_n 1, 1) := by decide +kernel
theorem dX0_sum_106 : decode cX0_sum 106 = .ok (.invokevirtual 139, 3) := by decide +kernel
theorem dX0_sum_109 : decode cX0_sum 109 = .ok (.ifCond .ne 5, 3) := by decide +kernel
theorem dX0_sum_112 : decode cX0_sum 112 = .ok (.iconst 0, 1) := by decide +kernel
theorem dX0_sum_113 : decode cX0_sum 113 = .ok (.ireturn, 1) := by decide +kernel
theorem dX0_sum_114 : decode cX0_sum 114 = .ok (.iload 4, 2) := by decide +kernel
theorem dX0_sum_116 : decode cX0_sum 116 = .ok (.bipush 10, 2) := by decide +kernel
theorem dX0_sum_118 : decode cX0_sum 118 = .ok (.if_icmp .ne 13, 3) := by decide +kernel
theorem dX0_sum_121 : decode cX0_sum 121 = .ok (.aload_n 0, 1) := by decide +kernel
theorem dX0_sum_122 : decode cX0_sum 122 = .ok (.getfield 21, 3) := by decide +kernel
theorem dX0_sum_125 : decode cX0_sum 125 = .ok (.iload 4, 2) := by decide +kernel
theorem dX0_sum_127 : decode cX0_sum 127 = .ok (.ineg, 1) := by decide +kernel
theorem dX0_sum_128 : decode cX0_sum 128 = .ok (.invokevirtual 135, 3) := by decide +kernel
theorem dX0_sum_131 : decode cX0_sum 131 = .ok (.iinc 3 1, 3) := by decide +kernel
theorem dX0_sum_134 : decode cX0_sum 134 = .ok (.goto (-93), 3) := by decide +kernel
theorem dX0_sum_137 : decode cX0_sum 137 = .ok (.iload_n 2, 1) := by decide +kernel
theorem dX0_sum_138 : decode cX0_sum 138 = .ok (.ifCond .eq 12, 3) := by decide +kernel
theorem dX0_sum_141 : decode cX0_sum 141 = .ok (.aload_n 0, 1) := by decide +kernel
theorem dX0_sum_142 : decode cX0_sum 142 = .ok (.getfield 21, 3) := by decide +kernel
theorem dX0_sum_145 : decode cX0_sum 145 = .ok (.iload_n 2, 1) := by decide +kernel
theorem dX0_sum_146 : decode cX0_sum 146 = .ok (.ineg, 1) := by decide +kernel
theorem dX0_sum_147 : decode cX0_sum 147 = .ok (.invokevirtual 135, 3) := by decide +kernel
theorem dX0_sum_150 : decode cX0_sum 150 = .ok (.iconst 1, 1) := by decide +kernel
theorem dX0_sum_151 : decode cX0_sum 151 = .ok (.ireturn, 1) := by decide +kernel
theorem dX0_unit_0 : decode cX0_unit 0 = .ok (.aload_n 0, 1) := by decide +kernel
theorem dX0_unit_1 : decode cX0_unit 1 = .ok (.invokevirtual 65, 3) := by decide +kernel
theorem dX0_unit_4 : decode cX0_unit 4 = .ok (.istore_n 2, 1) := by decide +kernel
theorem dX0_unit_5 : decode cX0_unit 5 = .ok (.iload_n 2, 1) := by decide +kernel
theorem dX0_unit_6 : decode cX0_unit 6 = .ok (.iconst 2, 1) := by decide +kernel
theorem dX0_unit_7 : decode cX0_unit 7 = .ok (.if_icmp .eq 9, 3) := by decide +kernel
theorem dX0_unit_10 : decode cX0_unit 10 = .ok (.iload_n 2, 1) := by decide +kernel
theorem dX0_unit_11 : decode cX0_unit 11 = .ok (.bipush 27, 2) := by decide +kernel
theorem dX0_unit_13 : decode cX0_unit 13 = .ok (.if_icmp .lt 38, 3) := by decide +kernel
theorem dX0_unit_16 : decode cX0_unit 16 = .ok (.aload_n 0, 1) := by decide +kernel
theorem dX0_unit_17 : decode cX0_unit 17 = .ok (.getfield 21, 3) := by decide +kernel
theorem dX0_unit_20 : decode cX0_unit 20 = .ok (.iload_n 2, 1) := by decide +kernel
theorem dX0_unit_21 : decode cX0_unit 21 = .ok (.iconst 2, 1) := by decide +kernel
theorem dX0_unit_22 : decode cX0_unit 22 = .ok (.if_icmp .ne 18, 3) := by decide +kernel
theorem dX0_unit_25 : decode cX0_unit 25 = .ok (.aload_n 0, 1) := by decide +kernel
theorem dX0_unit_26 : decode cX0_unit 26 = .ok (.getfield 32, 3) := by decide +kernel
theorem dX0_unit_29 : decode cX0_unit 29 = .ok (.getfield 95, 3) := by decide +kernel
theorem dX0_unit_32 : decode cX0_unit 32 = .ok (.aload_n 0, 1) := by decide +kernel
theorem dX0_unit_33 : decode cX0_unit 33 = .ok (.getfield 36, 3) := by decide +kernel
theorem dX0_unit_36 : decode cX0_unit 36 = .ok (.iaload, 1) := by decide +kernel
theorem dX0_unit_37 : decode cX0_unit 37 = .ok (.goto 5, 3) := by decide +kernel
theorem dX0_unit_40 : decode cX0_unit 40 = .ok (.iload_n 2, 1) := by decide +kernel
theorem dX0_unit_41 : decode cX0_unit 41 = .ok (.ineg, 1) := by decide +kernel
theorem dX0_unit_42 : decode cX0_unit 42 = .ok (.invokevirtual 135, 3) := by decide +kernel
theorem dX0_unit_45 : decode cX0_unit 45 = .ok (.aload_n 0, 1) := by decide +kernel
theorem dX0_unit_46 : decode cX0_unit 46 = .ok (.iload_n 2, 1) := by decide +kernel
theorem dX0_unit_47 : decode cX0_unit 47 = .ok (.invokevirtual 76, 3) := by decide +kernel
theorem dX0_unit_50 : decode cX0_unit 50 = .ok (.ireturn, 1) := by decide +kernel
theorem dX0_unit_51 : decode cX0_unit 51 = .ok (.iload_n 2, 1) := by decide +kernel
theorem dX0_unit_52 : decode cX0_unit 52 = .ok (.bipush 6, 2) := by decide +kernel
theorem dX0_unit_54 : decode cX0_unit 54 = .ok (.if_icmp .ne 16, 3) := by decide +kernel
theorem dX0_unit_57 : decode cX0_unit 57 = .ok (.iload_n 1, 1) := by decide +kernel
theorem dX0_unit_58 : decode cX0_unit 58 = .ok (.bipush 8, 2) := by decide +kernel
theorem dX0_unit_60 : decode cX0_unit 60 = .ok (.if_icmp .lt 10, 3) := by decide +kernel
theorem dX0_unit_63 : decode cX0_unit 63 = .ok (.aload_n 0, 1) := by decide +kernel
theorem dX0_unit_64 : decode cX0_unit 64 = .ok (.iconst 2, 1) := by decide +kernel
theorem dX0_unit_65 : decode cX0_unit 65 = .ok (.putfield 39, 3) := by decide +kernel
theorem dX0_unit_68 : decode cX0_unit 68 = .ok (.iconst 0, 1) := by decide +kernel
theorem dX0_unit_69 : decode cX0_unit 69 = .ok (.ireturn, 1) := by decide +kernel
theorem dX0_unit_70 : decode cX0_unit 70 = .ok (.aload_n 0, 1) := by decide +kernel
theorem dX0_unit_71 : decode cX0_unit 71 = .ok (.bipush 6, 2) := by decide +kernel
theorem dX0_unit_73 : decode cX0_unit 73 = .ok (.invokevirtual 76, 3) := by decide +kernel
theorem dX0_unit_76 : decode cX0_unit 76 = .ok (.ifCond .eq 26, 3) := by decide +kernel
theorem dX0_unit_79 : decode cX0_unit 79 = .ok (.aload_n 0, 1) := by decide +kernel
theorem dX0_unit_80 : decode cX0_unit 80 = .ok (.iload_n 1, 1) := by decide +kernel
theorem dX0_unit_81 : decode cX0_unit 81 = .ok (.iconst 1, 1) := by decide +kernel
theorem dX0_unit_82 : decode cX0_unit 82 = .ok (.iadd, 1) := by decide +kernel
theorem dX0_unit_83 : decode cX0_unit 83 = .ok (.invokevirtual 115, 3) := by decide +kernel
theorem dX0_unit_86 : decode cX0_unit 86 = .ok (.ifCond .eq 16, 3) := by decide +kernel
theorem dX0_unit_89 : decode cX0_unit 89 = .ok (.aload_n 0, 1) := by decide +kernel
theorem dX0_unit_90 : decode cX0_unit 90 = .ok (.bipush 7, 2) := by decide +kernel
theorem dX0_unit_92 : decode cX0_unit 92 = .ok (.invokevirtual 76, 3) := by decide +kernel
theorem dX0_unit_95 : decode cX0_unit 95 = .ok (.ifCond .eq 7, 3) := by decide +kernel
theorem dX0_unit_98 : decode cX0_unit 98 = .ok (.iconst 1, 1) := by decide +kernel
theorem dX0_unit_99 : decode cX0_unit 99 = .ok (.goto 4, 3) := by decide +kernel
theorem dX0_unit_102 : decode cX0_unit 102 = .ok (.iconst 0, 1) := by decide +kernel
theorem dX0_unit_103 : decode cX0_unit 103 = .ok (.ireturn, 1) := by decide +kernel
theorem dX0_kind_0 : decode cX0_kind 0 = .ok (.aload_n 0, 1) := by decide +kernel
theorem dX0_kind_1 : decode cX0_kind 1 = .ok (.getfield 36, 3) := by decide +kernel
theorem dX0_kind_4 : decode cX0_kind 4 = .ok (.sipush 600, 3) := by decide +kernel
theorem dX0_kind_7 : decode cX0_kind 7 = .ok (.if_icmp .gt 18, 3) := by decide +kernel
theorem dX0_kind_10 : decode cX0_kind 10 = .ok (.aload_n 0, 1) := by decide +kernel
theorem dX0_kind_11 : decode cX0_kind 11 = .ok (.getfield 32, 3) := by decide +kernel
theorem dX0_kind_14 : decode cX0_kind 14 = .ok (.getfield 142, 3) := by decide +kernel
theorem dX0_kind_17 : decode cX0_kind 17 = .ok (.aload_n 0, 1) := by decide +kernel
theorem dX0_kind_18 : decode cX0_kind 18 = .ok (.getfield 36, 3) := by decide +kernel
theorem dX0_kind_21 : decode cX0_kind 21 = .ok (.iaload, 1) := by decide +kernel
theorem dX0_kind_22 : decode cX0_kind 22 = .ok (.goto 4, 3) := by decide +kernel
theorem dX0_kind_25 : decode cX0_kind 25 = .ok (.iconst 1, 1) := by decide +kernel
theorem dX0_kind_26 : decode cX0_kind 26 = .ok (.ireturn, 1) := by decide +kernel
theorem dX0_take_0 : decode cX0_take 0 = .ok (.aload_n 0, 1) := by decide +kernel
theorem dX0_take_1 : decode cX0_take 1 = .ok (.getfield 36, 3) := by decide +kernel
theorem dX0_take_4 : decode cX0_take 4 = .ok (.sipush 600, 3) := by decide +kernel
theorem dX0_take_7 : decode cX0_take 7 = .ok (.if_icmp .gt 19, 3) := by decide +kernel
theorem dX0_take_10 : decode cX0_take 10 = .ok (.aload_n 0, 1) := by decide +kernel
theorem dX0_take_11 : decode cX0_take 11 = .ok (.getfield 32, 3) := by decide +kernel
theorem dX0_take_14 : decode cX0_take 14 = .ok (.getfield 142, 3) := by decide +kernel
theorem dX0_take_17 : decode cX0_take 17 = .ok (.aload_n 0, 1) := by decide +kernel
theorem dX0_take_18 : decode cX0_take 18 = .ok (.getfield 36, 3) := by decide +kernel
theorem dX0_take_21 : decode cX0_take 21 = .ok (.iaload, 1) := by decide +kernel
theorem dX0_take_22 : decode cX0_take 22 = .ok (.iload_n 1, 1) := by decide +kernel
theorem dX0_take_23 : decode cX0_take 23 = .ok (.if_icmp .eq 5, 3) := by decide +kernel
theorem dX0_take_26 : decode cX0_take 26 = .ok (.iconst 0, 1) := by decide +kernel
theorem dX0_take_27 : decode cX0_take 27 = .ok (.ireturn, 1) := by decide +kernel
theorem dX0_take_28 : decode cX0_take 28 = .ok (.aload_n 0, 1) := by decide +kernel
theorem dX0_take_29 : decode cX0_take 29 = .ok (.getfield 36, 3) := by decide +kernel
theorem dX0_take_32 : decode cX0_take 32 = .ok (.sipush 600, 3) := by decide +kernel
theorem dX0_take_35 : decode cX0_take 35 = .ok (.if_icmp .ne 10, 3) := by decide +kernel
theorem dX0_take_38 : decode cX0_take 38 = .ok (.aload_n 0, 1) := by decide +kernel
theorem dX0_take_39 : decode cX0_take 39 = .ok (.iconst 2, 1) := by decide +kernel
theorem dX0_take_40 : decode cX0_take 40 = .ok (.putfield 39, 3) := by decide +kernel
theorem dX0_take_43 : decode cX0_take 43 = .ok (.iconst 0, 1) := by decide +kernel
theorem dX0_take_44 : decode cX0_take 44 = .ok (.ireturn, 1) := by decide +kernel
theorem dX0_take_45 : decode cX0_take 45 = .ok (.aload_n 0, 1) := by decide +kernel
theorem dX0_take_46 : decode cX0_take 46 = .ok (.dup, 1) := by decide +kernel
theorem dX0_take_47 : decode cX0_take 47 = .ok (.getfield 36, 3) := by decide +kernel
theorem dX0_take_50 : decode cX0_take 50 = .ok (.iconst 1, 1) := by decide +kernel
theorem dX0_take_51 : decode cX0_take 51 = .ok (.iadd, 1) := by decide +kernel
theorem dX0_take_52 : decode cX0_take 52 = .ok (.putfield 36, 3) := by decide +kernel
theorem dX0_take_55 : decode cX0_take 55 = .ok (.iconst 1, 1) := by decide +kernel
theorem dX0_take_56 : decode cX0_take 56 = .ok (.ireturn, 1) := by decide +kernel
theorem dX0_note_0 : decode cX0_note 0 = .ok (.aload_n 0, 1) := by decide +kernel
theorem dX0_note_1 : decode cX0_note 1 = .ok (.getfield 42, 3) := by decide +kernel
theorem dX0_note_4 : decode cX0_note 4 = .ok (.ifCond .ne 28, 3) := by decide +kernel
theorem dX0_note_7 : decode cX0_note 7 = .ok (.iload_n 2, 1) := by decide +kernel
theorem dX0_note_8 : decode cX0_note 8 = .ok (.sipush 600, 3) := by decide +kernel
theorem dX0_note_11 : decode cX0_note 11 = .ok (.if_icmp .gt 21, 3) := by decide +kernel
theorem dX0_note_14 : decode cX0_note 14 = .ok (.aload_n 0, 1) := by decide +kernel
theorem dX0_note_15 : decode cX0_note 15 = .ok (.iload_n 1, 1) := by decide +kernel
theorem dX0_note_16 : decode cX0_note 16 = .ok (.putfield 42, 3) := by decide +kernel
theorem dX0_note_19 : decode cX0_note 19 = .ok (.aload_n 0, 1) := by decide +kernel
theorem dX0_note_20 : decode cX0_note 20 = .ok (.aload_n 0, 1) := by decide +kernel
theorem dX0_note_21 : decode cX0_note 21 = .ok (.getfield 32, 3) := by decide +kernel
theorem dX0_note_24 : decode cX0_note 24 = .ok (.getfield 58, 3) := by decide +kernel
theorem dX0_note_27 : decode cX0_note 27 = .ok (.iload_n 2, 1) := by decide +kernel
theorem dX0_note_28 : decode cX0_note 28 = .ok (.iaload, 1) := by decide +kernel
theorem dX0_note_29 : decode cX0_note 29 = .ok (.putfield 45, 3) := by decide +kernel
theorem dX0_note_32 : decode cX0_note 32 = .ok (.return_, 1) := by decide +kernel
theorem dX1_init_0 : decode cX1_init 0 = .ok (.aload_n 0, 1) := by decide +kernel
theorem dX1_init_1 : decode cX1_init 1 = .ok (.invokespecial 3, 3) := by decide +kernel
theorem dX1_init_4 : decode cX1_init 4 = .ok (.aload_n 0, 1) := by decide +kernel
theorem dX1_init_5 : decode cX1_init 5 = .ok (.bipush 60, 2) := by decide +kernel
theorem dX1_init_7 : decode cX1_init 7 = .ok (.newarray .int, 2) := by decide +kernel
theorem dX1_init_9 : decode cX1_init 9 = .ok (.putfield 11, 3) := by decide +kernel
theorem dX1_init_12 : decode cX1_init 12 = .ok (.aload_n 0, 1) := by decide +kernel
theorem dX1_init_13 : decode cX1_init 13 = .ok (.bipush 60, 2) := by decide +kernel
theorem dX1_init_15 : decode cX1_init 15 = .ok (.newarray .int, 2) := by decide +kernel
theorem dX1_init_17 : decode cX1_init 17 = .ok (.putfield 15, 3) := by decide +kernel
theorem dX1_init_20 : decode cX1_init 20 = .ok (.aload_n 0, 1) := by decide +kernel
theorem dX1_init_21 : decode cX1_init 21 = .ok (.bipush 60, 2) := by decide +kernel
theorem dX1_init_23 : decode cX1_init 23 = .ok (.newarray .int, 2) := by decide +kernel
theorem dX1_init_25 : decode cX1_init 25 = .ok (.putfield 18, 3) := by decide +kernel
theorem dX1_init_28 : decode cX1_init 28 = .ok (.aload_n 0, 1) := by decide +kernel
theorem dX1_init_29 : decode cX1_init 29 = .ok (.bipush 60, 2) := by decide +kernel
theorem dX1_init_31 : decode cX1_init 31 = .ok (.newarray .int, 2) := by decide +kernel
theorem dX1_init_33 : decode cX1_init 33 = .ok (.putfield 21, 3) := by decide +kernel
theorem dX1_init_36 : decode cX1_init 36 = .ok (.aload_n 0, 1) := by decide +kernel
theorem dX1_init_37 : decode cX1_init 37 = .ok (.bipush 60, 2) := by decide +kernel
theorem dX1_init_39 : decode cX1_init 39 = .ok (.newarray .int, 2) := by decide +kernel
theorem dX1_init_41 : decode cX1_init 41 = .ok (.putfield 24, 3) := by decide +kernel
theorem dX1_init_44 : decode cX1_init 44 = .ok (.aload_n 0, 1) := by decide +kernel
theorem dX1_init_45 : decode cX1_init 45 = .ok (.iconst 0, 1) := by decide +kernel
theorem dX1_init_46 : decode cX1_init 46 = .ok (.putfield 27, 3) := by decide +kernel
theorem dX1_init_49 : decode cX1_init 49 = .ok (.return_, 1) := by decide +kernel
theorem dX1_add_0 : decode cX1_add 0 = .ok (.aload_n 0, 1) := by decide +kernel
theorem dX1_add_1 : decode cX1_add 1 = .ok (.getfield 27, 3) := by decide +kernel
theorem dX1_add_4 : decode cX1_add 4 = .ok (.bipush 60, 2) := by decide +kernel
theorem dX1_add_6 : decode cX1_add 6 = .ok (.if_icmp .lt 5, 3) := by decide +kernel
theorem dX1_add_9 : decode cX1_add 9 = .ok (.iconst (-1), 1) := by decide +kernel
theorem dX1_add_10 : decode cX1_add 10 = .ok (.ireturn, 1) := by decide +kernel
theorem dX1_add_11 : decode cX1_add 11 = .ok (.aload_n 0, 1) := by decide +kernel
theorem dX1_add_12 : decode cX1_add 12 = .ok (.getfield 11, 3) := by decide +kernel
theorem dX1_add_15 : decode cX1_add 15 = .ok (.aload_n 0, 1) := by decide +kernel
theorem dX1_add_16 : decode cX1_add 16 = .ok (.getfield 27, 3) := by decide +kernel
theorem dX1_add_19 : decode cX1_add 19 = .ok (.iload_n 1, 1) := by decide +kernel
theorem dX1_add_20 : decode cX1_add 20 = .ok (.iastore, 1) := by decide +kernel
theorem dX1_add_21 : decode cX1_add 21 = .ok (.aload_n 0, 1) := by decide +kernel
theorem dX1_add_22 : decode cX1_add 22 = .ok (.getfield 15, 3) := by decide +kernel
theorem dX1_add_25 : decode cX1_add 25 = .ok (.aload_n 0, 1) := by decide +kernel
theorem dX1_add_26 : decode cX1_add 26 = .ok (.getfield 27, 3) := by decide +kernel
theorem dX1_add_29 : decode cX1_add 29 = .ok (.iload_n 2, 1) := by decide +kernel
theorem dX1_add_30 : decode cX1_add 30 = .ok (.iastore, 1) := by decide +kernel
theorem dX1_add_31 : decode cX1_add 31 = .ok (.aload_n 0, 1) := by decide +kernel
theorem dX1_add_32 : decode cX1_add 32 = .ok (.getfield 18, 3) := by decide +kernel
theorem dX1_add_35 : decode cX1_add 35 = .ok (.aload_n 0, 1) := by decide +kernel
theorem dX1_add_36 : decode cX1_add 36 = .ok (.getfield 27, 3) := by decide +kernel
theorem dX1_add_39 : decode cX1_add 39 = .ok (.iload_n 3, 1) := by decide +kernel
theorem dX1_add_40 : decode cX1_add 40 = .ok (.iastore, 1) := by decide +kernel
theorem dX1_add_41 : decode cX1_add 41 = .ok (.aload_n 0, 1) := by decide +kernel
theorem dX1_add_42 : decode cX1_add 42 = .ok (.dup, 1) := by decide +kernel
theorem dX1_add_43 : decode cX1_add 43 = .ok (.getfield 27, 3) := by decide +kernel
theorem dX1_add_46 : decode cX1_add 46 = .ok (.iconst 1, 1) := by decide +kernel
theorem dX1_add_47 : decode cX1_add 47 = .ok (.iadd, 1) := by decide +kernel
theorem dX1_add_48 : decode cX1_add 48 = .ok (.putfield 27, 3) := by decide +kernel
theorem dX1_add_51 : decode cX1_add 51 = .ok (.aload_n 0, 1) := by decide +kernel
theorem dX1_add_52 : decode cX1_add 52 = .ok (.getfield 27, 3) := by decide +kernel
theorem dX1_add_55 : decode cX1_add 55 = .ok (.iconst 1, 1) := by decide +kernel
theorem dX1_add_56 : decode cX1_add 56 = .ok (.isub, 1) := by decide +kernel
theorem dX1_add_57 : decode cX1_add 57 = .ok (.ireturn, 1) := by decide +kernel
theorem dX1_restart_0 : decode cX1_restart 0 = .ok (.aload_n 0, 1) := by decide +kernel
theorem dX1_restart_1 : decode cX1_restart 1 = .ok (.getfield 21, 3) := by decide +kernel
theorem dX1_restart_4 : decode cX1_restart 4 = .ok (.iconst 0, 1) := by decide +kernel
theorem dX1_restart_5 : decode cX1_restart 5 = .ok (.invokestatic 31, 3) := by decide +kernel
theorem dX1_restart_8 : decode cX1_restart 8 = .ok (.aload_n 0, 1) := by decide +kernel
theorem dX1_restart_9 : decode cX1_restart 9 = .ok (.getfield 24, 3) := by decide +kernel
theorem dX1_restart_12 : decode cX1_restart 12 = .ok (.iconst (-1), 1) := by decide +kernel
theorem dX1_restart_13 : decode cX1_restart 13 = .ok (.invokestatic 31, 3) := by decide +kernel
theorem dX1_restart_16 : decode cX1_restart 16 = .ok (.return_, 1) := by decide +kernel
theorem dX1_take_0 : decode cX1_take 0 = .ok (.iload_n 3, 1) := by decide +kernel
theorem dX1_take_1 : decode cX1_take 1 = .ok (.istore 4, 2) := by decide +kernel
theorem dX1_take_3 : decode cX1_take 3 = .ok (.iconst 0, 1) := by decide +kernel
theorem dX1_take_4 : decode cX1_take 4 = .ok (.istore 5, 2) := by decide +kernel
theorem dX1_take_6 : decode cX1_take 6 = .ok (.iload 5, 2) := by decide +kernel
theorem dX1_take_8 : decode cX1_take 8 = .ok (.aload_n 0, 1) := by decide +kernel
theorem dX1_take_9 : decode cX1_take 9 = .ok (.getfield 27, 3) := by decide +kernel
theorem dX1_take_12 : decode cX1_take 12 = .ok (.if_icmp .ge 113, 3) := by decide +kernel
theorem dX1_take_15 : decode cX1_take 15 = .ok (.iload 4, 2) := by decide +kernel
theorem dX1_take_17 : decode cX1_take 17 = .ok (.ifCond .le 108, 3) := by decide +kernel
theorem dX1_take_20 : decode cX1_take 20 = .ok (.aload_n 0, 1) := by decide +kernel
theorem dX1_take_21 : decode cX1_take 21 = .ok (.getfield 15, 3) := by decide +kernel
theorem dX1_take_24 : decode cX1_take 24 = .ok (.iload 5, 2) := by decide +kernel
theorem dX1_take_26 : decode cX1_take 26 = .ok (.iaload, 1) := by decide +kernel
theorem dX1_take_27 : decode cX1_take 27 = .ok (.iload_n 1, 1) := by decide +kernel
theorem dX1_take_28 : decode cX1_take 28 = .ok (.if_icmp .ne 91, 3) := by decide +kernel
theorem dX1_take_31 : decode cX1_take 31 = .ok (.aload_n 0, 1) := by decide +kernel
theorem dX1_take_32 : decode cX1_take 32 = .ok (.getfield 11, 3) := by decide +kernel
theorem dX1_take_35 : decode cX1_take 35 = .ok (.iload 5, 2) := by decide +kernel
theorem dX1_take_37 : decode cX1_take 37 = .ok (.iaload, 1) := by decide +kernel
theorem dX1_take_38 : decode cX1_take 38 = .ok (.iload_n 2, 1) := by decide +kernel
theorem dX1_take_39 : decode cX1_take 39 = .ok (.if_icmp .gt 80, 3) := by decide +kernel
theorem dX1_take_42 : decode cX1_take 42 = .ok (.aload_n 0, 1) := by decide +kernel
theorem dX1_take_43 : decode cX1_take 43 = .ok (.getfield 24, 3) := by decide +kernel
theorem dX1_take_46 : decode cX1_take 46 = .ok (.iload 5, 2) := by decide +kernel
theorem dX1_take_48 : decode cX1_take 48 = .ok (.iaload, 1) := by decide +kernel
theorem dX1_take_49 : decode cX1_take 49 = .ok (.iconst (-1), 1) := by decide +kernel
theorem dX1_take_50 : decode cX1_take 50 = .ok (.if_icmp .ne 69, 3) := by decide +kernel
theorem dX1_take_53 : decode cX1_take 53 = .ok (.iload 4, 2) := by decide +kernel
theorem dX1_take_55 : decode cX1_take 55 = .ok (.aload_n 0, 1) := by decide +kernel
theorem dX1_take_56 : decode cX1_take 56 = .ok (.getfield 18, 3) := by decide +kernel
theorem dX1_take_59 : decode cX1_take 59 = .ok (.iload 5, 2) := by decide +kernel
theorem dX1_take_61 : decode cX1_take 61 = .ok (.iaload, 1) := by decide +kernel
theorem dX1_take_62 : decode cX1_take 62 = .ok (.aload_n 0, 1) := by decide +kernel
theorem dX1_take_63 : decode cX1_take 63 = .ok (.getfield 21, 3) := by decide +kernel
theorem dX1_take_66 : decode cX1_take 66 = .ok (.iload 5, 2) := by decide +kernel
theorem dX1_take_68 : decode cX1_take 68 = .ok (.iaload, 1) := by decide +kernel
theorem dX1_take_69 : decode cX1_take 69 = .ok (.isub, 1) := by decide +kernel
theorem dX1_take_70 : decode cX1_take 70 = .ok (.invokestatic 37, 3) := by decide +kernel
theorem dX1_take_73 : decode cX1_take 73 = .ok (.istore 6, 2) := by decide +kernel
theorem dX1_take_75 : decode cX1_take 75 = .ok (.aload_n 0, 1) := by decide +kernel
theorem dX1_take_76 : decode cX1_take 76 = .ok (.getfield 21, 3) := by decide +kernel
theorem dX1_take_79 : decode cX1_take 79 = .ok (.iload 5, 2) := by decide +kernel
theorem dX1_take_81 : decode cX1_take 81 = .ok (.dup2, 1) := by decide +kernel
theorem dX1_take_82 : decode cX1_take 82 = .ok (.iaload, 1) := by decide +kernel
theorem dX1_take_83 : decode cX1_take 83 = .ok (.iload 6, 2) := by decide +kernel
theorem dX1_take_85 : decode cX1_take 85 = .ok (.iadd, 1) := by decide +kernel
theorem dX1_take_86 : decode cX1_take 86 = .ok (.iastore, 1) := by decide +kernel
theorem dX1_take_87 : decode cX1_take 87 = .ok (.iload 4, 2) := by decide +kernel
theorem dX1_take_89 : decode cX1_take 89 = .ok (.iload 6, 2) := by decide +kernel
theorem dX1_take_91 : decode cX1_take 91 = .ok (.isub, 1) := by decide +kernel
theorem dX1_take_92 : decode cX1_take 92 = .ok (.istore 4, 2) := by decide +kernel
theorem dX1_take_94 : decode cX1_take 94 = .ok (.aload_n 0, 1) := by decide +kernel
theorem dX1_take_95 : decode cX1_take 95 = .ok (.getfield 21, 3) := by decide +kernel
theorem dX1_take_98 : decode cX1_take 98 = .ok (.iload 5, 2) := by decide +kernel
theorem dX1_take_100 : decode cX1_take 100 = .ok (.iaload, 1) := by decide +kernel
theorem dX1_take_101 : decode cX1_take 101 = .ok (.aload_n 0, 1) := by decide +kernel
theorem dX1_take_102 : decode cX1_take 102 = .ok (.getfield 18, 3) := by decide +kernel
theorem dX1_take_105 : decode cX1_take 105 = .ok (.iload 5, 2) := by decide +kernel
theorem dX1_take_107 : decode cX1_take 107 = .ok (.iaload, 1) := by decide +kernel
theorem dX1_take_108 : decode cX1_take 108 = .ok (.if_icmp .ne 11, 3) := by decide +kernel
theorem dX1_take_111 : decode cX1_take 111 = .ok (.aload_n 0, 1) := by decide +kernel
theorem dX1_take_112 : decode cX1_take 112 = .ok (.getfield 24, 3) := by decide +kernel
theorem dX1_take_115 : decode cX1_take 115 = .ok (.iload 5, 2) := by decide +kernel
theorem dX1_take_117 : decode cX1_take 117 = .ok (.iload_n 2, 1) := by decide +kernel
theorem dX1_take_118 : decode cX1_take 118 = .ok (.iastore, 1) := by decide +kernel
theorem dX1_take_119 : decode cX1_take 119 = .ok (.iinc 5 1, 3) := by decide +kernel
theorem dX1_take_122 : decode cX1_take 122 = .ok (.goto (-116), 3) := by decide +kernel
theorem dX1_take_125 : decode cX1_take 125 = .ok (.return_, 1) := by decide +kernel
theorem dX1_tollsOf_0 : decode cX1_tollsOf 0 = .ok (.iconst 0, 1) := by decide +kernel
theorem dX1_tollsOf_1 : decode cX1_tollsOf 1 = .ok (.istore_n 2, 1) := by decide +kernel
theorem dX1_tollsOf_2 : decode cX1_tollsOf 2 = .ok (.iconst 0, 1) := by decide +kernel
theorem dX1_tollsOf_3 : decode cX1_tollsOf 3 = .ok (.istore_n 3, 1) := by decide +kernel
theorem dX1_tollsOf_4 : decode cX1_tollsOf 4 = .ok (.iload_n 3, 1) := by decide +kernel
theorem dX1_tollsOf_5 : decode cX1_tollsOf 5 = .ok (.aload_n 0, 1) := by decide +kernel
theorem dX1_tollsOf_6 : decode cX1_tollsOf 6 = .ok (.getfield 27, 3) := by decide +kernel
theorem dX1_tollsOf_9 : decode cX1_tollsOf 9 = .ok (.if_icmp .ge 45, 3) := by decide +kernel
theorem dX1_tollsOf_12 : decode cX1_tollsOf 12 = .ok (.iload_n 2, 1) := by decide +kernel
theorem dX1_tollsOf_13 : decode cX1_tollsOf 13 = .ok (.aload_n 0, 1) := by decide +kernel
theorem dX1_tollsOf_14 : decode cX1_tollsOf 14 = .ok (.getfield 15, 3) := by decide +kernel
theorem dX1_tollsOf_17 : decode cX1_tollsOf 17 = .ok (.iload_n 3, 1) := by decide +kernel
theorem dX1_tollsOf_18 : decode cX1_tollsOf 18 = .ok (.iaload, 1) := by decide +kernel
theorem dX1_tollsOf_19 : decode cX1_tollsOf 19 = .ok (.iload_n 1, 1) := by decide +kernel
theorem dX1_tollsOf_20 : decode cX1_tollsOf 20 = .ok (.if_icmp .ne 25, 3) := by decide +kernel
theorem dX1_tollsOf_23 : decode cX1_tollsOf 23 = .ok (.aload_n 0, 1) := by decide +kernel
theorem dX1_tollsOf_24 : decode cX1_tollsOf 24 = .ok (.getfield 24, 3) := by decide +kernel
theorem dX1_tollsOf_27 : decode cX1_tollsOf 27 = .ok (.iload_n 3, 1) := by decide +kernel
theorem dX1_tollsOf_28 : decode cX1_tollsOf 28 = .ok (.iaload, 1) := by decide +kernel
theorem dX1_tollsOf_29 : decode cX1_tollsOf 29 = .ok (.iconst (-1), 1) := by decide +kernel
theorem dX1_tollsOf_30 : decode cX1_tollsOf 30 = .ok (.if_icmp .eq 15, 3) := by decide +kernel
theorem dX1_tollsOf_33 : decode cX1_tollsOf 33 = .ok (.aload_n 0, 1) := by decide +kernel
theorem dX1_tollsOf_34 : decode cX1_tollsOf 34 = .ok (.getfield 18, 3) := by decide +kernel
theorem dX1_tollsOf_37 : decode cX1_tollsOf 37 = .ok (.iload_n 3, 1) := by decide +kernel
theorem dX1_tollsOf_38 : decode cX1_tollsOf 38 = .ok (.iaload, 1) := by decide +kernel
theorem dX1_tollsOf_39 : decode cX1_tollsOf 39 = .ok (.bipush 16, 2) := by decide +kernel
theorem dX1_tollsOf_41 : decode cX1_tollsOf 41 = .ok (.idiv, 1) := by decide +kernel
theorem dX1_tollsOf_42 : decode cX1_tollsOf 42 = .ok (.goto 4, 3) := by decide +kernel
theorem dX1_tollsOf_45 : decode cX1_tollsOf 45 = .ok (.iconst 0, 1) := by decide +kernel
theorem dX1_tollsOf_46 : decode cX1_tollsOf 46 = .ok (.iadd, 1) := by decide +kernel
theorem dX1_tollsOf_47 : decode cX1_tollsOf 47 = .ok (.istore_n 2, 1) := by decide +kernel
theorem dX1_tollsOf_48 : decode cX1_tollsOf 48 = .ok (.iinc 3 1, 3) := by decide +kernel
theorem dX1_tollsOf_51 : decode cX1_tollsOf 51 = .ok (.goto (-47), 3) := by decide +kernel
theorem dX1_tollsOf_54 : decode cX1_tollsOf 54 = .ok (.iload_n 2, 1) := by decide +kernel
theorem dX1_tollsOf_55 : decode cX1_tollsOf 55 = .ok (.ireturn, 1) := by decide +kernel
theorem dX2_init_0 : decode cX2_init 0 = .ok (.aload_n 0, 1) := by decide +kernel
theorem dX2_init_1 : decode cX2_init 1 = .ok (.invokespecial 3, 3) := by decide +kernel
theorem dX2_init_4 : decode cX2_init 4 = .ok (.aload_n 0, 1) := by decide +kernel
theorem dX2_init_5 : decode cX2_init 5 = .ok (.iconst 0, 1) := by decide +kernel
theorem dX2_init_6 : decode cX2_init 6 = .ok (.putfield 9, 3) := by decide +kernel
theorem dX2_init_9 : decode cX2_init 9 = .ok (.aload_n 0, 1) := by decide +kernel
theorem dX2_init_10 : decode cX2_init 10 = .ok (.iconst 0, 1) := by decide +kernel
theorem dX2_init_11 : decode cX2_init 11 = .ok (.putfield 15, 3) := by decide +kernel
theorem dX2_init_14 : decode cX2_init 14 = .ok (.aload_n 0, 1) := by decide +kernel
theorem dX2_init_15 : decode cX2_init 15 = .ok (.iconst 0, 1) := by decide +kernel
theorem dX2_init_16 : decode cX2_init 16 = .ok (.putfield 18, 3) := by decide +kernel
theorem dX2_init_19 : decode cX2_init 19 = .ok (.aload_n 0, 1) := by decide +kernel
theorem dX2_init_20 : decode cX2_init 20 = .ok (.iconst 0, 1) := by decide +kernel
theorem dX2_init_21 : decode cX2_init 21 = .ok (.putfield 21, 3) := by decide +kernel
theorem dX2_init_24 : decode cX2_init 24 = .ok (.aload_n 0, 1) := by decide +kernel
theorem dX2_init_25 : decode cX2_init 25 = .ok (.iconst 0, 1) := by decide +kernel
theorem dX2_init_26 : decode cX2_init 26 = .ok (.putfield 24, 3) := by decide +kernel
theorem dX2_init_29 : decode cX2_init 29 = .ok (.aload_n 0, 1) := by decide +kernel
theorem dX2_init_30 : decode cX2_init 30 = .ok (.bipush 30, 2) := by decide +kernel
theorem dX2_init_32 : decode cX2_init 32 = .ok (.newarray .int, 2) := by decide +kernel
theorem dX2_init_34 : decode cX2_init 34 = .ok (.putfield 27, 3) := by decide +kernel
theorem dX2_init_37 : decode cX2_init 37 = .ok (.aload_n 0, 1) := by decide +kernel
theorem dX2_init_38 : decode cX2_init 38 = .ok (.bipush 30, 2) := by decide +kernel
theorem dX2_init_40 : decode cX2_init 40 = .ok (.newarray .boolean, 2) := by decide +kernel
theorem dX2_init_42 : decode cX2_init 42 = .ok (.putfield 31, 3) := by decide +kernel
theorem dX2_init_45 : decode cX2_init 45 = .ok (.aload_n 0, 1) := by decide +kernel
theorem dX2_init_46 : decode cX2_init 46 = .ok (.bipush 30, 2) := by decide +kernel
theorem dX2_init_48 : decode cX2_init 48 = .ok (.newarray .int, 2) := by decide +kernel
theorem dX2_init_50 : decode cX2_init 50 = .ok (.putfield 35, 3) := by decide +kernel
theorem dX2_init_53 : decode cX2_init 53 = .ok (.aload_n 0, 1) := by decide +kernel
theorem dX2_init_54 : decode cX2_init 54 = .ok (.bipush 30, 2) := by decide +kernel
theorem dX2_init_56 : decode cX2_init 56 = .ok (.newarray .int, 2) := by decide +kernel
theorem dX2_init_58 : decode cX2_init 58 = .ok (.putfield 38, 3) := by decide +kernel
theorem dX2_init_61 : decode cX2_init 61 = .ok (.aload_n 0, 1) := by decide +kernel
theorem dX2_init_62 : decode cX2_init 62 = .ok (.bipush 30, 2) := by decide +kernel
theorem dX2_init_64 : decode cX2_init 64 = .ok (.newarray .int, 2) := by decide +kernel
theorem dX2_init_66 : decode cX2_init 66 = .ok (.putfield 41, 3) := by decide +kernel
theorem dX2_init_69 : decode cX2_init 69 = .ok (.aload_n 0, 1) := by decide +kernel
theorem dX2_init_70 : decode cX2_init 70 = .ok (.bipush 30, 2) := by decide +kernel
theorem dX2_init_72 : decode cX2_init 72 = .ok (.newarray .int, 2) := by decide +kernel
theorem dX2_init_74 : decode cX2_init 74 = .ok (.putfield 44, 3) := by decide +kernel
theorem dX2_init_77 : decode cX2_init 77 = .ok (.aload_n 0, 1) := by decide +kernel
theorem dX2_init_78 : decode cX2_init 78 = .ok (.bipush 10, 2) := by decide +kernel
theorem dX2_init_80 : decode cX2_init 80 = .ok (.newarray .long, 2) := by decide +kernel
theorem dX2_init_82 : decode cX2_init 82 = .ok (.putfield 47, 3) := by decide +kernel
theorem dX2_init_85 : decode cX2_init 85 = .ok (.aload_n 0, 1) := by decide +kernel
theorem dX2_init_86 : decode cX2_init 86 = .ok (.bipush 10, 2) := by decide +kernel
theorem dX2_init_88 : decode cX2_init 88 = .ok (.newarray .int, 2) := by decide +kernel
theorem dX2_init_90 : decode cX2_init 90 = .ok (.putfield 51, 3) := by decide +kernel
theorem dX2_init_93 : decode cX2_init 93 = .ok (.aload_n 0, 1) := by decide +kernel
theorem dX2_init_94 : decode cX2_init 94 = .ok (.bipush 10, 2) := by decide +kernel
theorem dX2_init_96 : decode cX2_init 96 = .ok (.newarray .int, 2) := by decide +kernel
theorem dX2_init_98 : decode cX2_init 98 = .ok (.putfield 54, 3) := by decide +kernel
theorem dX2_init_101 : decode cX2_init 101 = .ok (.aload_n 0, 1) := by decide +kernel
theorem dX2_init_102 : decode cX2_init 102 = .ok (.sipush 600, 3) := by decide +kernel
theorem dX2_init_105 : decode cX2_init 105 = .ok (.newarray .int, 2) := by decide +kernel
theorem dX2_init_107 : decode cX2_init 107 = .ok (.putfield 59, 3) := by decide +kernel
theorem dX2_init_110 : decode cX2_init 110 = .ok (.aload_n 0, 1) := by decide +kernel
theorem dX2_init_111 : decode cX2_init 111 = .ok (.iconst 0, 1) := by decide +kernel
theorem dX2_init_112 : decode cX2_init 112 = .ok (.putfield 62, 3) := by decide +kernel
theorem dX2_init_115 : decode cX2_init 115 = .ok (.aload_n 0, 1) := by decide +kernel
theorem dX2_init_116 : decode cX2_init 116 = .ok (.bipush 12, 2) := by decide +kernel
theorem dX2_init_118 : decode cX2_init 118 = .ok (.newarray .int, 2) := by decide +kernel
theorem dX2_init_120 : decode cX2_init 120 = .ok (.putfield 65, 3) := by decide +kernel
theorem dX2_init_123 : decode cX2_init 123 = .ok (.aload_n 0, 1) := by decide +kernel
theorem dX2_init_124 : decode cX2_init 124 = .ok (.bipush 32, 2) := by decide +kernel
theorem dX2_init_126 : decode cX2_init 126 = .ok (.newarray .int, 2) := by decide +kernel
theorem dX2_init_128 : decode cX2_init 128 = .ok (.putfield 68, 3) := by decide +kernel
theorem dX2_init_131 : decode cX2_init 131 = .ok (.aload_n 0, 1) := by decide +kernel
theorem dX2_init_132 : decode cX2_init 132 = .ok (.iconst 0, 1) := by decide +kernel
theorem dX2_init_133 : decode cX2_init 133 = .ok (.putfield 71, 3) := by decide +kernel
theorem dX2_init_136 : decode cX2_init 136 = .ok (.return_, 1) := by decide +kernel
theorem dX2_startDraft_0 : decode cX2_startDraft 0 = .ok (.aload_n 0, 1) := by decide +kernel
theorem dX2_startDraft_1 : decode cX2_startDraft 1 = .ok (.aload_n 0, 1) := by decide +kernel
theorem dX2_startDraft_2 : decode cX2_startDraft 2 = .ok (.getfield 9, 3) := by decide +kernel
theorem dX2_startDraft_5 : decode cX2_startDraft 5 = .ok (.putfield 18, 3) := by decide +kernel
theorem dX2_startDraft_8 : decode cX2_startDraft 8 = .ok (.aload_n 0, 1) := by decide +kernel
theorem dX2_startDraft_9 : decode cX2_startDraft 9 = .ok (.aload_n 0, 1) := by decide +kernel
theorem dX2_startDraft_10 : decode cX2_startDraft 10 = .ok (.getfield 15, 3) := by decide +kernel
theorem dX2_startDraft_13 : decode cX2_startDraft 13 = .ok (.putfield 21, 3) := by decide +kernel
theorem dX2_startDraft_16 : decode cX2_startDraft 16 = .ok (.aload_n 0, 1) := by decide +kernel
theorem dX2_startDraft_17 : decode cX2_startDraft 17 = .ok (.aload_n 0, 1) := by decide +kernel
theorem dX2_startDraft_18 : decode cX2_startDraft 18 = .ok (.getfield 62, 3) := by decide +kernel
theorem dX2_startDraft_21 : decode cX2_startDraft 21 = .ok (.putfield 24, 3) := by decide +kernel
theorem dX2_startDraft_24 : decode cX2_startDraft 24 = .ok (.aload_n 0, 1) := by decide +kernel
theorem dX2_startDraft_25 : decode cX2_startDraft 25 = .ok (.getfield 59, 3) := by decide +kernel
theorem dX2_startDraft_28 : decode cX2_startDraft 28 = .ok (.arraylength, 1) := by decide +kernel
theorem dX2_startDraft_29 : decode cX2_startDraft 29 = .ok (.aload_n 0, 1) := by decide +kernel
theorem dX2_startDraft_30 : decode cX2_startDraft 30 = .ok (.getfield 62, 3) := by decide +kernel
theorem dX2_startDraft_33 : decode cX2_startDraft 33 = .ok (.sipush 600, 3) := by decide +kernel
theorem dX2_startDraft_36 : decode cX2_startDraft 36 = .ok (.iadd, 1) := by decide +kernel
theorem dX2_startDraft_37 : decode cX2_startDraft 37 = .ok (.if_icmp .ge 22, 3) := by decide +kernel
theorem dX2_startDraft_40 : decode cX2_startDraft 40 = .ok (.aload_n 0, 1) := by decide +kernel
theorem dX2_startDraft_41 : decode cX2_startDraft 41 = .ok (.aload_n 0, 1) := by decide +kernel
theorem dX2_startDraft_42 : decode cX2_startDraft 42 = .ok (.getfield 59, 3) := by decide +kernel
theorem dX2_startDraft_45 : decode cX2_startDraft 45 = .ok (.aload_n 0, 1) := by decide +kernel
theorem dX2_startDraft_46 : decode cX2_startDraft 46 = .ok (.getfield 62, 3) := by decide +kernel
theorem dX2_startDraft_49 : decode cX2_startDraft 49 = .ok (.sipush 600, 3) := by decide +kernel
theorem dX2_startDraft_52 : decode cX2_startDraft 52 = .ok (.iadd, 1) := by decide +kernel
theorem dX2_startDraft_53 : decode cX2_startDraft 53 = .ok (.invokestatic 74, 3) := by decide +kernel
theorem dX2_startDraft_56 : decode cX2_startDraft 56 = .ok (.putfield 59, 3) := by decide +kernel
theorem dX2_startDraft_59 : decode cX2_startDraft 59 = .ok (.return_, 1) := by decide +kernel
theorem dX2_takeDraft_0 : decode cX2_takeDraft 0 = .ok (.aload_n 0, 1) := by decide +kernel
theorem dX2_takeDraft_1 : decode cX2_takeDraft 1 = .ok (.aload_n 0, 1) := by decide +kernel
theorem dX2_takeDraft_2 : decode cX2_takeDraft 2 = .ok (.getfield 18, 3) := by decide +kernel
theorem dX2_takeDraft_5 : decode cX2_takeDraft 5 = .ok (.putfield 9, 3) := by decide +kernel
theorem dX2_takeDraft_8 : decode cX2_takeDraft 8 = .ok (.aload_n 0, 1) := by decide +kernel
theorem dX2_takeDraft_9 : decode cX2_takeDraft 9 = .ok (.aload_n 0, 1) := by decide +kernel
theorem dX2_takeDraft_10 : decode cX2_takeDraft 10 = .ok (.getfield 21, 3) := by decide +kernel
theorem dX2_takeDraft_13 : decode cX2_takeDraft 13 = .ok (.putfield 15, 3) := by decide +kernel
theorem dX2_takeDraft_16 : decode cX2_takeDraft 16 = .ok (.aload_n 0, 1) := by decide +kernel
theorem dX2_takeDraft_17 : decode cX2_takeDraft 17 = .ok (.aload_n 0, 1) := by decide +kernel
theorem dX2_takeDraft_18 : decode cX2_takeDraft 18 = .ok (.getfield 24, 3) := by decide +kernel
theorem dX2_takeDraft_21 : decode cX2_takeDraft 21 = .ok (.putfield 62, 3) := by decide +kernel
theorem dX2_takeDraft_24 : decode cX2_takeDraft 24 = .ok (.return_, 1) := by decide +kernel
theorem dX2_hasAct_0 : decode cX2_hasAct 0 = .ok (.iconst 0, 1) := by decide +kernel
theorem dX2_hasAct_1 : decode cX2_hasAct 1 = .ok (.istore_n 3, 1) := by decide +kernel
theorem dX2_hasAct_2 : decode cX2_hasAct 2 = .ok (.iload_n 3, 1) := by decide +kernel
theorem dX2_hasAct_3 : decode cX2_hasAct 3 = .ok (.aload_n 0, 1) := by decide +kernel
theorem dX2_hasAct_4 : decode cX2_hasAct 4 = .ok (.getfield 18, 3) := by decide +kernel
theorem dX2_hasAct_7 : decode cX2_hasAct 7 = .ok (.if_icmp .ge 22, 3) := by decide +kernel
theorem dX2_hasAct_10 : decode cX2_hasAct 10 = .ok (.aload_n 0, 1) := by decide +kernel
theorem dX2_hasAct_11 : decode cX2_hasAct 11 = .ok (.getfield 47, 3) := by decide +kernel
theorem dX2_hasAct_14 : decode cX2_hasAct 14 = .ok (.iload_n 3, 1) := by decide +kernel
theorem dX2_hasAct_15 : decode cX2_hasAct 15 = .ok (.laload, 1) := by decide +kernel
theorem dX2_hasAct_16 : decode cX2_hasAct 16 = .ok (.lload_n 1, 1) := by decide +kernel
theorem dX2_hasAct_17 : decode cX2_hasAct 17 = .ok (.lcmp, 1) := by decide +kernel
theorem dX2_hasAct_18 : decode cX2_hasAct 18 = .ok (.ifCond .ne 5, 3) := by decide +kernel
theorem dX2_hasAct_21 : decode cX2_hasAct 21 = .ok (.iconst 1, 1) := by decide +kernel
theorem dX2_hasAct_22 : decode cX2_hasAct 22 = .ok (.ireturn, 1) := by decide +kernel
theorem dX2_hasAct_23 : decode cX2_hasAct 23 = .ok (.iinc 3 1, 3) := by decide +kernel
theorem dX2_hasAct_26 : decode cX2_hasAct 26 = .ok (.goto (-24), 3) := by decide +kernel
theorem dX2_hasAct_29 : decode cX2_hasAct 29 = .ok (.iconst 0, 1) := by decide +kernel
theorem dX2_hasAct_30 : decode cX2_hasAct 30 = .ok (.ireturn, 1) := by decide +kernel
theorem dX2_draftAct_0 : decode cX2_draftAct 0 = .ok (.aload_n 0, 1) := by decide +kernel
theorem dX2_draftAct_1 : decode cX2_draftAct 1 = .ok (.getfield 18, 3) := by decide +kernel
theorem dX2_draftAct_4 : decode cX2_draftAct 4 = .ok (.bipush 10, 2) := by decide +kernel
theorem dX2_draftAct_6 : decode cX2_draftAct 6 = .ok (.if_icmp .ge 44, 3) := by decide +kernel
theorem dX2_draftAct_9 : decode cX2_draftAct 9 = .ok (.aload_n 0, 1) := by decide +kernel
theorem dX2_draftAct_10 : decode cX2_draftAct 10 = .ok (.getfield 47, 3) := by decide +kernel
theorem dX2_draftAct_13 : decode cX2_draftAct 13 = .ok (.aload_n 0, 1) := by decide +kernel
theorem dX2_draftAct_14 : decode cX2_draftAct 14 = .ok (.getfield 18, 3) := by decide +kernel
theorem dX2_draftAct_17 : decode cX2_draftAct 17 = .ok (.lload_n 1, 1) := by decide +kernel
theorem dX2_draftAct_18 : decode cX2_draftAct 18 = .ok (.lastore, 1) := by decide +kernel
theorem dX2_draftAct_19 : decode cX2_draftAct 19 = .ok (.aload_n 0, 1) := by decide +kernel
theorem dX2_draftAct_20 : decode cX2_draftAct 20 = .ok (.getfield 51, 3) := by decide +kernel
theorem dX2_draftAct_23 : decode cX2_draftAct 23 = .ok (.aload_n 0, 1) := by decide +kernel
theorem dX2_draftAct_24 : decode cX2_draftAct 24 = .ok (.getfield 18, 3) := by decide +kernel
theorem dX2_draftAct_27 : decode cX2_draftAct 27 = .ok (.iload_n 3, 1) := by decide +kernel
theorem dX2_draftAct_28 : decode cX2_draftAct 28 = .ok (.iastore, 1) := by decide +kernel
theorem dX2_draftAct_29 : decode cX2_draftAct 29 = .ok (.aload_n 0, 1) := by decide +kernel
theorem dX2_draftAct_30 : decode cX2_draftAct 30 = .ok (.getfield 54, 3) := by decide +kernel
theorem dX2_draftAct_33 : decode cX2_draftAct 33 = .ok (.aload_n 0, 1) := by decide +kernel
theorem dX2_draftAct_34 : decode cX2_draftAct 34 = .ok (.getfield 18, 3) := by decide +kernel
theorem dX2_draftAct_37 : decode cX2_draftAct 37 = .ok (.iload 4, 2) := by decide +kernel
theorem dX2_draftAct_39 : decode cX2_draftAct 39 = .ok (.iastore, 1) := by decide +kernel
theorem dX2_draftAct_40 : decode cX2_draftAct 40 = .ok (.aload_n 0, 1) := by decide +kernel
theorem dX2_draftAct_41 : decode cX2_draftAct 41 = .ok (.dup, 1) := by decide +kernel
theorem dX2_draftAct_42 : decode cX2_draftAct 42 = .ok (.getfield 18, 3) := by decide +kernel
theorem dX2_draftAct_45 : decode cX2_draftAct 45 = .ok (.iconst 1, 1) := by decide +kernel
theorem dX2_draftAct_46 : decode cX2_draftAct 46 = .ok (.iadd, 1) := by decide +kernel
theorem dX2_draftAct_47 : decode cX2_draftAct 47 = .ok (.putfield 18, 3) := by decide +kernel
theorem dX2_draftAct_50 : decode cX2_draftAct 50 = .ok (.return_, 1) := by decide +kernel
theorem dX2_draftRule_0 : decode cX2_draftRule 0 = .ok (.aload_n 0, 1) := by decide +kernel
theorem dX2_draftRule_1 : decode cX2_draftRule 1 = .ok (.getfield 21, 3) := by decide +kernel
theorem dX2_draftRule_4 : decode cX2_draftRule 4 = .ok (.bipush 30, 2) := by decide +kernel
theorem dX2_draftRule_6 : decode cX2_draftRule 6 = .ok (.if_icmp .ge 41, 3) := by decide +kernel
theorem dX2_draftRule_9 : decode cX2_draftRule 9 = .ok (.aload_n 0, 1) := by decide +kernel
theorem dX2_draftRule_10 : decode cX2_draftRule 10 = .ok (.getfield 44, 3) := by decide +kernel
theorem dX2_draftRule_13 : decode cX2_draftRule 13 = .ok (.aload_n 0, 1) := by decide +kernel
theorem dX2_draftRule_14 : decode cX2_draftRule 14 = .ok (.getfield 21, 3) := by decide +kernel
theorem dX2_draftRule_17 : decode cX2_draftRule 17 = .ok (.aload_n 0, 1) := by decide +kernel
theorem dX2_draftRule_18 : decode cX2_draftRule 18 = .ok (.getfield 18, 3) := by decide +kernel
theorem dX2_draftRule_21 : decode cX2_draftRule 21 = .ok (.iconst 1, 1) := by decide +kernel
theorem dX2_draftRule_22 : decode cX2_draftRule 22 = .ok (.isub, 1) := by decide +kernel
theorem dX2_draftRule_23 : decode cX2_draftRule 23 = .ok (.iastore, 1) := by decide +kernel
theorem dX2_draftRule_24 : decode cX2_draftRule 24 = .ok (.aload_n 0, 1) := by decide +kernel
theorem dX2_draftRule_25 : decode cX2_draftRule 25 = .ok (.getfield 41, 3) := by decide +kernel
theorem dX2_draftRule_28 : decode cX2_draftRule 28 = .ok (.aload_n 0, 1) := by decide +kernel
theorem dX2_draftRule_29 : decode cX2_draftRule 29 = .ok (.getfield 21, 3) := by decide +kernel
theorem dX2_draftRule_32 : decode cX2_draftRule 32 = .ok (.aload_n 0, 1) := by decide +kernel
theorem dX2_draftRule_33 : decode cX2_draftRule 33 = .ok (.getfield 24, 3) := by decide +kernel
theorem dX2_draftRule_36 : decode cX2_draftRule 36 = .ok (.iastore, 1) := by decide +kernel
theorem dX2_draftRule_37 : decode cX2_draftRule 37 = .ok (.aload_n 0, 1) := by decide +kernel
theorem dX2_draftRule_38 : decode cX2_draftRule 38 = .ok (.dup, 1) := by decide +kernel
theorem dX2_draftRule_39 : decode cX2_draftRule 39 = .ok (.getfield 21, 3) := by decide +kernel
theorem dX2_draftRule_42 : decode cX2_draftRule 42 = .ok (.iconst 1, 1) := by decide +kernel
theorem dX2_draftRule_43 : decode cX2_draftRule 43 = .ok (.iadd, 1) := by decide +kernel
theorem dX2_draftRule_44 : decode cX2_draftRule 44 = .ok (.putfield 21, 3) := by decide +kernel
theorem dX2_draftRule_47 : decode cX2_draftRule 47 = .ok (.return_, 1) := by decide +kernel
theorem dX2_emit_0 : decode cX2_emit 0 = .ok (.aload_n 0, 1) := by decide +kernel
theorem dX2_emit_1 : decode cX2_emit 1 = .ok (.getfield 24, 3) := by decide +kernel
theorem dX2_emit_4 : decode cX2_emit 4 = .ok (.aload_n 0, 1) := by decide +kernel
theorem dX2_emit_5 : decode cX2_emit 5 = .ok (.getfield 59, 3) := by decide +kernel
theorem dX2_emit_8 : decode cX2_emit 8 = .ok (.arraylength, 1) := by decide +kernel
theorem dX2_emit_9 : decode cX2_emit 9 = .ok (.if_icmp .ge 23, 3) := by decide +kernel
theorem dX2_emit_12 : decode cX2_emit 12 = .ok (.aload_n 0, 1) := by decide +kernel
theorem dX2_emit_13 : decode cX2_emit 13 = .ok (.getfield 59, 3) := by decide +kernel
theorem dX2_emit_16 : decode cX2_emit 16 = .ok (.aload_n 0, 1) := by decide +kernel
theorem dX2_emit_17 : decode cX2_emit 17 = .ok (.getfield 24, 3) := by decide +kernel
theorem dX2_emit_20 : decode cX2_emit 20 = .ok (.iload_n 1, 1) := by decide +kernel
theorem dX2_emit_21 : decode cX2_emit 21 = .ok (.iastore, 1) := by decide +kernel
theorem dX2_emit_22 : decode cX2_emit 22 = .ok (.aload_n 0, 1) := by decide +kernel
theorem dX2_emit_23 : decode cX2_emit 23 = .ok (.dup, 1) := by decide +kernel
theorem dX2_emit_24 : decode cX2_emit 24 = .ok (.getfield 24, 3) := by decide +kernel
theorem dX2_emit_27 : decode cX2_emit 27 = .ok (.iconst 1, 1) := by decide +kernel
theorem dX2_emit_28 : decode cX2_emit 28 = .ok (.iadd, 1) := by decide +kernel
theorem dX2_emit_29 : decode cX2_emit 29 = .ok (.putfield 24, 3) := by decide +kernel
theorem dX2_emit_32 : decode cX2_emit 32 = .ok (.return_, 1) := by decide +kernel
theorem dX2_opened_0 : decode cX2_opened 0 = .ok (.aload_n 1, 1) := by decide +kernel
theorem dX2_opened_1 : decode cX2_opened 1 = .ok (.getfield 80, 3) := by decide +kernel
theorem dX2_opened_4 : decode cX2_opened 4 = .ok (.iload_n 2, 1) := by decide +kernel
theorem dX2_opened_5 : decode cX2_opened 5 = .ok (.iaload, 1) := by decide +kernel
theorem dX2_opened_6 : decode cX2_opened 6 = .ok (.istore 4, 2) := by decide +kernel
theorem dX2_opened_8 : decode cX2_opened 8 = .ok (.aload_n 0, 1) := by decide +kernel
theorem dX2_opened_9 : decode cX2_opened 9 = .ok (.getfield 15, 3) := by decide +kernel
theorem dX2_opened_12 : decode cX2_opened 12 = .ok (.ifCond .le 10, 3) := by decide +kernel
theorem dX2_opened_15 : decode cX2_opened 15 = .ok (.aload_n 0, 1) := by decide +kernel
theorem dX2_opened_16 : decode cX2_opened 16 = .ok (.aload_n 1, 1) := by decide +kernel
theorem dX2_opened_17 : decode cX2_opened 17 = .ok (.iload_n 2, 1) := by decide +kernel
theorem dX2_opened_18 : decode cX2_opened 18 = .ok (.aload_n 3, 1) := by decide +kernel
theorem dX2_opened_19 : decode cX2_opened 19 = .ok (.invokevirtual 85, 3) := by decide +kernel
theorem dX2_opened_22 : decode cX2_opened 22 = .ok (.iconst 0, 1) := by decide +kernel
theorem dX2_opened_23 : decode cX2_opened 23 = .ok (.istore 5, 2) := by decide +kernel
theorem dX2_opened_25 : decode cX2_opened 25 = .ok (.iload 5, 2) := by decide +kernel
theorem dX2_opened_27 : decode cX2_opened 27 = .ok (.aload_n 0, 1) := by decide +kernel
theorem dX2_opened_28 : decode cX2_opened 28 = .ok (.getfield 15, 3) := by decide +kernel
theorem dX2_opened_31 : decode cX2_opened 31 = .ok (.if_icmp .ge 63, 3) := by decide +kernel
theorem dX2_opened_34 : decode cX2_opened 34 = .ok (.aload_n 0, 1) := by decide +kernel
theorem dX2_opened_35 : decode cX2_opened 35 = .ok (.getfield 31, 3) := by decide +kernel
theorem dX2_opened_38 : decode cX2_opened 38 = .ok (.iload 5, 2) := by decide +kernel
theorem dX2_opened_40 : decode cX2_opened 40 = .ok (.baload, 1) := by decide +kernel
theorem dX2_opened_41 : decode cX2_opened 41 = .ok (.ifCond .eq 47, 3) := by decide +kernel
theorem dX2_opened_44 : decode cX2_opened 44 = .ok (.aload_n 0, 1) := by decide +kernel
theorem dX2_opened_45 : decode cX2_opened 45 = .ok (.iload 5, 2) := by decide +kernel
theorem dX2_opened_47 : decode cX2_opened 47 = .ok (.iload_n 2, 1) := by decide +kernel
theorem dX2_opened_48 : decode cX2_opened 48 = .ok (.invokevirtual 89, 3) := by decide +kernel
theorem dX2_opened_51 : decode cX2_opened 51 = .ok (.ifCond .eq 37, 3) := by decide +kernel
theorem dX2_opened_54 : decode cX2_opened 54 = .ok (.iload 4, 2) := by decide +kernel
theorem dX2_opened_56 : decode cX2_opened 56 = .ok (.aload_n 0, 1) := by decide +kernel
theorem dX2_opened_57 : decode cX2_opened 57 = .ok (.aload_n 0, 1) := by decide +kernel
theorem dX2_opened_58 : decode cX2_opened 58 = .ok (.getfield 41, 3) := by decide +kernel
theorem dX2_opened_61 : decode cX2_opened 61 = .ok (.iload 5, 2) := by decide +kernel
theorem dX2_opened_63 : decode cX2_opened 63 = .ok (.iaload, 1) := by decide +kernel
theorem dX2_opened_64 : decode cX2_opened 64 = .ok (.aload_n 0, 1) := by decide +kernel
theorem dX2_opened_65 : decode cX2_opened 65 = .ok (.getfield 35, 3) := by decide +kernel
theorem dX2_opened_68 : decode cX2_opened 68 = .ok (.iload 5, 2) := by decide +kernel
theorem dX2_opened_70 : decode cX2_opened 70 = .ok (.iaload, 1) := by decide +kernel
theorem dX2_opened_71 : decode cX2_opened 71 = .ok (.invokevirtual 93, 3) := by decide +kernel
theorem dX2_opened_74 : decode cX2_opened 74 = .ok (.aload_n 3, 1) := by decide +kernel
theorem dX2_opened_75 : decode cX2_opened 75 = .ok (.getfield 97, 3) := by decide +kernel
theorem dX2_opened_78 : decode cX2_opened 78 = .ok (.iload_n 2, 1) := by decide +kernel
theorem dX2_opened_79 : decode cX2_opened 79 = .ok (.iaload, 1) := by decide +kernel
theorem dX2_opened_80 : decode cX2_opened 80 = .ok (.invokestatic 102, 3) := by decide +kernel
theorem dX2_opened_83 : decode cX2_opened 83 = .ok (.invokestatic 107, 3) := by decide +kernel
theorem dX2_opened_86 : decode cX2_opened 86 = .ok (.istore 4, 2) := by decide +kernel
theorem dX2_opened_88 : decode cX2_opened 88 = .ok (.iinc 5 1, 3) := by decide +kernel
theorem dX2_opened_91 : decode cX2_opened 91 = .ok (.goto (-66), 3) := by decide +kernel
theorem dX2_opened_94 : decode cX2_opened 94 = .ok (.iload 4, 2) := by decide +kernel
theorem dX2_opened_96 : decode cX2_opened 96 = .ok (.ireturn, 1) := by decide +kernel
theorem dX2_isBroken_0 : decode cX2_isBroken 0 = .ok (.aload_n 0, 1) := by decide +kernel
theorem dX2_isBroken_1 : decode cX2_isBroken 1 = .ok (.getfield 31, 3) := by decide +kernel
theorem dX2_isBroken_4 : decode cX2_isBroken 4 = .ok (.iload_n 1, 1) := by decide +kernel
theorem dX2_isBroken_5 : decode cX2_isBroken 5 = .ok (.baload, 1) := by decide +kernel
theorem dX2_isBroken_6 : decode cX2_isBroken 6 = .ok (.ifCond .ne 35, 3) := by decide +kernel
theorem dX2_isBroken_9 : decode cX2_isBroken 9 = .ok (.aload_n 0, 1) := by decide +kernel
theorem dX2_isBroken_10 : decode cX2_isBroken 10 = .ok (.iload_n 1, 1) := by decide +kernel
theorem dX2_isBroken_11 : decode cX2_isBroken 11 = .ok (.iload_n 2, 1) := by decide +kernel
theorem dX2_isBroken_12 : decode cX2_isBroken 12 = .ok (.invokevirtual 89, 3) := by decide +kernel
theorem dX2_isBroken_15 : decode cX2_isBroken 15 = .ok (.ifCond .eq 26, 3) := by decide +kernel
theorem dX2_isBroken_18 : decode cX2_isBroken 18 = .ok (.aload_n 0, 1) := by decide +kernel
theorem dX2_isBroken_19 : decode cX2_isBroken 19 = .ok (.aload_n 0, 1) := by decide +kernel
theorem dX2_isBroken_20 : decode cX2_isBroken 20 = .ok (.getfield 41, 3) := by decide +kernel
theorem dX2_isBroken_23 : decode cX2_isBroken 23 = .ok (.iload_n 1, 1) := by decide +kernel
theorem dX2_isBroken_24 : decode cX2_isBroken 24 = .ok (.iaload, 1) := by decide +kernel
theorem dX2_isBroken_25 : decode cX2_isBroken 25 = .ok (.aload_n 0, 1) := by decide +kernel
theorem dX2_isBroken_26 : decode cX2_isBroken 26 = .ok (.getfield 35, 3) := by decide +kernel
theorem dX2_isBroken_29 : decode cX2_isBroken 29 = .ok (.iload_n 1, 1) := by decide +kernel
theorem dX2_isBroken_30 : decode cX2_isBroken 30 = .ok (.iaload, 1) := by decide +kernel
theorem dX2_isBroken_31 : decode cX2_isBroken 31 = .ok (.invokevirtual 93, 3) := by decide +kernel
theorem dX2_isBroken_34 : decode cX2_isBroken 34 = .ok (.ifCond .ne 7, 3) := by decide +kernel
theorem dX2_isBroken_37 : decode cX2_isBroken 37 = .ok (.iconst 1, 1) := by decide +kernel
theorem dX2_isBroken_38 : decode cX2_isBroken 38 = .ok (.goto 4, 3) := by decide +kernel
theorem dX2_isBroken_41 : decode cX2_isBroken 41 = .ok (.iconst 0, 1) := by decide +kernel
theorem dX2_isBroken_42 : decode cX2_isBroken 42 = .ok (.ireturn, 1) := by decide +kernel
theorem dX2_look_0 : decode cX2_look 0 = .ok (.aload_n 0, 1) := by decide +kernel
theorem dX2_look_1 : decode cX2_look 1 = .ok (.aload_n 1, 1) := by decide +kernel
theorem dX2_look_2 : decode cX2_look 2 = .ok (.getfield 110, 3) := by decide +kernel
theorem dX2_look_5 : decode cX2_look 5 = .ok (.bipush 24, 2) := by decide +kernel
theorem dX2_look_7 : decode cX2_look 7 = .ok (.idiv, 1) := by decide +kernel
theorem dX2_look_8 : decode cX2_look 8 = .ok (.putfield 71, 3) := by decide +kernel
theorem dX2_look_11 : decode cX2_look 11 = .ok (.aload_n 0, 1) := by decide +kernel
theorem dX2_look_12 : decode cX2_look 12 = .ok (.getfield 65, 3) := by decide +kernel
theorem dX2_look_15 : decode cX2_look 15 = .ok (.iconst 0, 1) := by decide +kernel
theorem dX2_look_16 : decode cX2_look 16 = .ok (.aload_n 1, 1) := by decide +kernel
theorem dX2_look_17 : decode cX2_look 17 = .ok (.getfield 113, 3) := by decide +kernel
theorem dX2_look_20 : decode cX2_look 20 = .ok (.iconst 0, 1) := by decide +kernel
theorem dX2_look_21 : decode cX2_look 21 = .ok (.aaload, 1) := by decide +kernel
theorem dX2_look_22 : decode cX2_look 22 = .ok (.iload_n 2, 1) := by decide +kernel
theorem dX2_look_23 : decode cX2_look 23 = .ok (.iaload, 1) := by decide +kernel
theorem dX2_look_24 : decode cX2_look 24 = .ok (.iastore, 1) := by decide +kernel
theorem dX2_look_25 : decode cX2_look 25 = .ok (.aload_n 0, 1) := by decide +kernel
theorem dX2_look_26 : decode cX2_look 26 = .ok (.getfield 65, 3) := by decide +kernel
theorem dX2_look_29 : decode cX2_look 29 = .ok (.iconst 1, 1) := by decide +kernel
theorem dX2_look_30 : decode cX2_look 30 = .ok (.aload_n 3, 1) := by decide +kernel
theorem dX2_look_31 : decode cX2_look 31 = .ok (.getfield 117, 3) := by decide +kernel
theorem dX2_look_34 : decode cX2_look 34 = .ok (.iload_n 2, 1) := by decide +kernel
theorem dX2_look_35 : decode cX2_look 35 = .ok (.iaload, 1) := by decide +kernel
theorem dX2_look_36 : decode cX2_look 36 = .ok (.iastore, 1) := by decide +kernel
theorem dX2_look_37 : decode cX2_look 37 = .ok (.aload_n 0, 1) := by decide +kernel
theorem dX2_look_38 : decode cX2_look 38 = .ok (.getfield 65, 3) := by decide +kernel
theorem dX2_look_41 : decode cX2_look 41 = .ok (.iconst 2, 1) := by decide +kernel
theorem dX2_look_42 : decode cX2_look 42 = .ok (.aload_n 3, 1) := by decide +kernel
theorem dX2_look_43 : decode cX2_look 43 = .ok (.getfield 120, 3) := by decide +kernel
theorem dX2_look_46 : decode cX2_look 46 = .ok (.iload_n 2, 1) := by decide +kernel
theorem dX2_look_47 : decode cX2_look 47 = .ok (.iaload, 1) := by decide +kernel
theorem dX2_look_48 : decode cX2_look 48 = .ok (.iastore, 1) := by decide +kernel
theorem dX2_look_49 : decode cX2_look 49 = .ok (.aload_n 0, 1) := by decide +kernel
theorem dX2_look_50 : decode cX2_look 50 = .ok (.getfield 65, 3) := by decide +kernel
theorem dX2_look_53 : decode cX2_look 53 = .ok (.iconst 3, 1) := by decide +kernel
theorem dX2_look_54 : decode cX2_look 54 = .ok (.iload_n 2, 1) := by decide +kernel
theorem dX2_look_55 : decode cX2_look 55 = .ok (.iconst 1, 1) := by decide +kernel
theorem dX2_look_56 : decode cX2_look 56 = .ok (.iadd, 1) := by decide +kernel
theorem dX2_look_57 : decode cX2_look 57 = .ok (.aload_n 3, 1) := by decide +kernel
theorem dX2_look_58 : decode cX2_look 58 = .ok (.getfield 123, 3) := by decide +kernel
theorem dX2_look_61 : decode cX2_look 61 = .ok (.if_icmp .ge 16, 3) := by decide +kernel
theorem dX2_look_64 : decode cX2_look 64 = .ok (.aload_n 1, 1) := by decide +kernel
theorem dX2_look_65 : decode cX2_look 65 = .ok (.getfield 113, 3) := by decide +kernel
theorem dX2_look_68 : decode cX2_look 68 = .ok (.iconst 0, 1) := by decide +kernel
theorem dX2_look_69 : decode cX2_look 69 = .ok (.aaload, 1) := by decide +kernel
theorem dX2_look_70 : decode cX2_look 70 = .ok (.iload_n 2, 1) := by decide +kernel
theorem dX2_look_71 : decode cX2_look 71 = .ok (.iconst 1, 1) := by decide +kernel
theorem dX2_look_72 : decode cX2_look 72 = .ok (.iadd, 1) := by decide +kernel
theorem dX2_look_73 : decode cX2_look 73 = .ok (.iaload, 1) := by decide +kernel
theorem dX2_look_74 : decode cX2_look 74 = .ok (.goto 4, 3) := by decide +kernel
theorem dX2_look_77 : decode cX2_look 77 = .ok (.iconst 0, 1) := by decide +kernel
theorem dX2_look_78 : decode cX2_look 78 = .ok (.iastore, 1) := by decide +kernel
theorem dX2_look_79 : decode cX2_look 79 = .ok (.aload_n 0, 1) := by decide +kernel
theorem dX2_look_80 : decode cX2_look 80 = .ok (.getfield 65, 3) := by decide +kernel
theorem dX2_look_83 : decode cX2_look 83 = .ok (.iconst 4, 1) := by decide +kernel
theorem dX2_look_84 : decode cX2_look 84 = .ok (.iload_n 2, 1) := by decide +kernel
theorem dX2_look_85 : decode cX2_look 85 = .ok (.ifCond .le 16, 3) := by decide +kernel
theorem dX2_look_88 : decode cX2_look 88 = .ok (.aload_n 1, 1) := by decide +kernel
theorem dX2_look_89 : decode cX2_look 89 = .ok (.getfield 113, 3) := by decide +kernel
theorem dX2_look_92 : decode cX2_look 92 = .ok (.iconst 0, 1) := by decide +kernel
theorem dX2_look_93 : decode cX2_look 93 = .ok (.aaload, 1) := by decide +kernel
theorem dX2_look_94 : decode cX2_look 94 = .ok (.iload_n 2, 1) := by decide +kernel
theorem dX2_look_95 : decode cX2_look 95 = .ok (.iconst 1, 1) := by decide +kernel
theorem dX2_look_96 : decode cX2_look 96 = .ok (.isub, 1) := by decide +kernel
theorem dX2_look_97 : decode cX2_look 97 = .ok (.iaload, 1) := by decide +kernel
theorem dX2_look_98 : decode cX2_look 98 = .ok (.goto 4, 3) := by decide +kernel
theorem dX2_look_101 : decode cX2_look 101 = .ok (.iconst 0, 1) := by decide +kernel
theorem dX2_look_102 : decode cX2_look 102 = .ok (.iastore, 1) := by decide +kernel
theorem dX2_look_103 : decode cX2_look 103 = .ok (.aload_n 0, 1) := by decide +kernel
theorem dX2_look_104 : decode cX2_look 104 = .ok (.getfield 65, 3) := by decide +kernel
theorem dX2_look_107 : decode cX2_look 107 = .ok (.iconst 5, 1) := by decide +kernel
theorem dX2_look_108 : decode cX2_look 108 = .ok (.aload_n 1, 1) := by decide +kernel
theorem dX2_look_109 : decode cX2_look 109 = .ok (.getfield 113, 3) := by decide +kernel
theorem dX2_look_112 : decode cX2_look 112 = .ok (.iconst 1, 1) := by decide +kernel
theorem dX2_look_113 : decode cX2_look 113 = .ok (.aaload, 1) := by decide +kernel
theorem dX2_look_114 : decode cX2_look 114 = .ok (.iload_n 2, 1) := by decide +kernel
theorem dX2_look_115 : decode cX2_look 115 = .ok (.iaload, 1) := by decide +kernel
theorem dX2_look_116 : decode cX2_look 116 = .ok (.iastore, 1) := by decide +kernel
theorem dX2_look_117 : decode cX2_look 117 = .ok (.aload_n 0, 1) := by decide +kernel
theorem dX2_look_118 : decode cX2_look 118 = .ok (.getfield 65, 3) := by decide +kernel
theorem dX2_look_121 : decode cX2_look 121 = .ok (.bipush 6, 2) := by decide +kernel
theorem dX2_look_123 : decode cX2_look 123 = .ok (.aload_n 1, 1) := by decide +kernel
theorem dX2_look_124 : decode cX2_look 124 = .ok (.getfield 113, 3) := by decide +kernel
theorem dX2_look_127 : decode cX2_look 127 = .ok (.iconst 2, 1) := by decide +kernel
theorem dX2_look_128 : decode cX2_look 128 = .ok (.aaload, 1) := by decide +kernel
theorem dX2_look_129 : decode cX2_look 129 = .ok (.iload_n 2, 1) := by decide +kernel
theorem dX2_look_130 : decode cX2_look 130 = .ok (.iaload, 1) := by decide +kernel
theorem dX2_look_131 : decode cX2_look 131 = .ok (.iastore, 1) := by decide +kernel
theorem dX2_look_132 : decode cX2_look 132 = .ok (.aload_n 0, 1) := by decide +kernel
theorem dX2_look_133 : decode cX2_look 133 = .ok (.getfield 65, 3) := by decide +kernel
theorem dX2_look_136 : decode cX2_look 136 = .ok (.bipush 7, 2) := by decide +kernel
theorem dX2_look_138 : decode cX2_look 138 = .ok (.aload_n 1, 1) := by decide +kernel
theorem dX2_look_139 : decode cX2_look 139 = .ok (.getfield 80, 3) := by decide +kernel
theorem dX2_look_142 : decode cX2_look 142 = .ok (.iload_n 2, 1) := by decide +kernel
theorem dX2_look_143 : decode cX2_look 143 = .ok (.iaload, 1) := by decide +kernel
theorem dX2_look_144 : decode cX2_look 144 = .ok (.iastore, 1) := by decide +kernel
theorem dX2_look_145 : decode cX2_look 145 = .ok (.aload_n 0, 1) := by decide +kernel
theorem dX2_look_146 : decode cX2_look 146 = .ok (.getfield 65, 3) := by decide +kernel
theorem dX2_look_149 : decode cX2_look 149 = .ok (.bipush 8, 2) := by decide +kernel
theorem dX2_look_151 : decode cX2_look 151 = .ok (.aload_n 1, 1) := by decide +kernel
theorem dX2_look_152 : decode cX2_look 152 = .ok (.getfield 110, 3) := by decide +kernel
theorem dX2_look_155 : decode cX2_look 155 = .ok (.bipush 24, 2) := by decide +kernel
theorem dX2_look_157 : decode cX2_look 157 = .ok (.irem, 1) := by decide +kernel
theorem dX2_look_158 : decode cX2_look 158 = .ok (.iastore, 1) := by decide +kernel
theorem dX2_look_159 : decode cX2_look 159 = .ok (.aload_n 0, 1) := by decide +kernel
theorem dX2_look_160 : decode cX2_look 160 = .ok (.getfield 65, 3) := by decide +kernel
theorem dX2_look_163 : decode cX2_look 163 = .ok (.bipush 9, 2) := by decide +kernel
theorem dX2_look_165 : decode cX2_look 165 = .ok (.aload_n 0, 1) := by decide +kernel
theorem dX2_look_166 : decode cX2_look 166 = .ok (.getfield 71, 3) := by decide +kernel
theorem dX2_look_169 : decode cX2_look 169 = .ok (.iastore, 1) := by decide +kernel
theorem dX2_look_170 : decode cX2_look 170 = .ok (.aload_n 0, 1) := by decide +kernel
theorem dX2_look_171 : decode cX2_look 171 = .ok (.getfield 65, 3) := by decide +kernel
theorem dX2_look_174 : decode cX2_look 174 = .ok (.bipush 10, 2) := by decide +kernel
theorem dX2_look_176 : decode cX2_look 176 = .ok (.iconst 0, 1) := by decide +kernel
theorem dX2_look_177 : decode cX2_look 177 = .ok (.iastore, 1) := by decide +kernel
theorem dX2_look_178 : decode cX2_look 178 = .ok (.aload_n 0, 1) := by decide +kernel
theorem dX2_look_179 : decode cX2_look 179 = .ok (.getfield 65, 3) := by decide +kernel
theorem dX2_look_182 : decode cX2_look 182 = .ok (.bipush 11, 2) := by decide +kernel
theorem dX2_look_184 : decode cX2_look 184 = .ok (.iconst 0, 1) := by decide +kernel
theorem dX2_look_185 : decode cX2_look 185 = .ok (.iastore, 1) := by decide +kernel
theorem dX2_look_186 : decode cX2_look 186 = .ok (.return_, 1) := by decide +kernel
theorem dX2_seeOutcome_0 : decode cX2_seeOutcome 0 = .ok (.aload_n 0, 1) := by decide +kernel
theorem dX2_seeOutcome_1 : decode cX2_seeOutcome 1 = .ok (.getfield 65, 3) := by decide +kernel
theorem dX2_seeOutcome_4 : decode cX2_seeOutcome 4 = .ok (.bipush 7, 2) := by decide +kernel
theorem dX2_seeOutcome_6 : decode cX2_seeOutcome 6 = .ok (.aload_n 1, 1) := by decide +kernel
theorem dX2_seeOutcome_7 : decode cX2_seeOutcome 7 = .ok (.getfield 113, 3) := by decide +kernel
theorem dX2_seeOutcome_10 : decode cX2_seeOutcome 10 = .ok (.iconst 3, 1) := by decide +kernel
theorem dX2_seeOutcome_11 : decode cX2_seeOutcome 11 = .ok (.aaload, 1) := by decide +kernel
theorem dX2_seeOutcome_12 : decode cX2_seeOutcome 12 = .ok (.iload_n 2, 1) := by decide +kernel
theorem dX2_seeOutcome_13 : decode cX2_seeOutcome 13 = .ok (.iaload, 1) := by decide +kernel
theorem dX2_seeOutcome_14 : decode cX2_seeOutcome 14 = .ok (.iastore, 1) := by decide +kernel
theorem dX2_seeOutcome_15 : decode cX2_seeOutcome 15 = .ok (.aload_n 0, 1) := by decide +kernel
theorem dX2_seeOutcome_16 : decode cX2_seeOutcome 16 = .ok (.getfield 65, 3) := by decide +kernel
theorem dX2_seeOutcome_19 : decode cX2_seeOutcome 19 = .ok (.bipush 10, 2) := by decide +kernel
theorem dX2_seeOutcome_21 : decode cX2_seeOutcome 21 = .ok (.aload_n 1, 1) := by decide +kernel
theorem dX2_seeOutcome_22 : decode cX2_seeOutcome 22 = .ok (.getfield 113, 3) := by decide +kernel
theorem dX2_seeOutcome_25 : decode cX2_seeOutcome 25 = .ok (.bipush 6, 2) := by decide +kernel
theorem dX2_seeOutcome_27 : decode cX2_seeOutcome 27 = .ok (.aaload, 1) := by decide +kernel
theorem dX2_seeOutcome_28 : decode cX2_seeOutcome 28 = .ok (.iload_n 2, 1) := by decide +kernel
theorem dX2_seeOutcome_29 : decode cX2_seeOutcome 29 = .ok (.iaload, 1) := by decide +kernel
theorem dX2_seeOutcome_30 : decode cX2_seeOutcome 30 = .ok (.iastore, 1) := by decide +kernel
theorem dX2_seeOutcome_31 : decode cX2_seeOutcome 31 = .ok (.aload_n 0, 1) := by decide +kernel
theorem dX2_seeOutcome_32 : decode cX2_seeOutcome 32 = .ok (.getfield 65, 3) := by decide +kernel
theorem dX2_seeOutcome_35 : decode cX2_seeOutcome 35 = .ok (.bipush 11, 2) := by decide +kernel
theorem dX2_seeOutcome_37 : decode cX2_seeOutcome 37 = .ok (.aload_n 1, 1) := by decide +kernel
theorem dX2_seeOutcome_38 : decode cX2_seeOutcome 38 = .ok (.getfield 113, 3) := by decide +kernel
theorem dX2_seeOutcome_41 : decode cX2_seeOutcome 41 = .ok (.bipush 9, 2) := by decide +kernel
theorem dX2_seeOutcome_43 : decode cX2_seeOutcome 43 = .ok (.aaload, 1) := by decide +kernel
theorem dX2_seeOutcome_44 : decode cX2_seeOutcome 44 = .ok (.iload_n 2, 1) := by decide +kernel
theorem dX2_seeOutcome_45 : decode cX2_seeOutcome 45 = .ok (.iaload, 1) := by decide +kernel
theorem dX2_seeOutcome_46 : decode cX2_seeOutcome 46 = .ok (.iastore, 1) := by decide +kernel
theorem dX2_seeOutcome_47 : decode cX2_seeOutcome 47 = .ok (.return_, 1) := by decide +kernel
theorem dX2_isFor_0 : decode cX2_isFor 0 = .ok (.aload_n 0, 1) := by decide +kernel
theorem dX2_isFor_1 : decode cX2_isFor 1 = .ok (.getfield 27, 3) := by decide +kernel
theorem dX2_isFor_4 : decode cX2_isFor 4 = .ok (.iload_n 1, 1) := by decide +kernel
theorem dX2_isFor_5 : decode cX2_isFor 5 = .ok (.iaload, 1) := by decide +kernel
theorem dX2_isFor_6 : decode cX2_isFor 6 = .ok (.iconst (-1), 1) := by decide +kernel
theorem dX2_isFor_7 : decode cX2_isFor 7 = .ok (.if_icmp .eq 13, 3) := by decide +kernel
theorem dX2_isFor_10 : decode cX2_isFor 10 = .ok (.aload_n 0, 1) := by decide +kernel
theorem dX2_isFor_11 : decode cX2_isFor 11 = .ok (.getfield 27, 3) := by decide +kernel
theorem dX2_isFor_14 : decode cX2_isFor 14 = .ok (.iload_n 1, 1) := by decide +kernel
theorem dX2_isFor_15 : decode cX2_isFor 15 = .ok (.iaload, 1) := by decide +kernel
theorem dX2_isFor_16 : decode cX2_isFor 16 = .ok (.iload_n 2, 1) := by decide +kernel
theorem dX2_isFor_17 : decode cX2_isFor 17 = .ok (.if_icmp .ne 20, 3) := by decide +kernel
theorem dX2_isFor_20 : decode cX2_isFor 20 = .ok (.aload_n 0, 1) := by decide +kernel
theorem dX2_isFor_21 : decode cX2_isFor 21 = .ok (.aload_n 0, 1) := by decide +kernel
theorem dX2_isFor_22 : decode cX2_isFor 22 = .ok (.getfield 44, 3) := by decide +kernel
theorem dX2_isFor_25 : decode cX2_isFor 25 = .ok (.iload_n 1, 1) := by decide +kernel
theorem dX2_isFor_26 : decode cX2_isFor 26 = .ok (.iaload, 1) := by decide +kernel
theorem dX2_isFor_27 : decode cX2_isFor 27 = .ok (.invokevirtual 126, 3) := by decide +kernel
theorem dX2_isFor_30 : decode cX2_isFor 30 = .ok (.ifCond .eq 7, 3) := by decide +kernel
theorem dX2_isFor_33 : decode cX2_isFor 33 = .ok (.iconst 1, 1) := by decide +kernel
theorem dX2_isFor_34 : decode cX2_isFor 34 = .ok (.goto 4, 3) := by decide +kernel
theorem dX2_isFor_37 : decode cX2_isFor 37 = .ok (.iconst 0, 1) := by decide +kernel
theorem dX2_isFor_38 : decode cX2_isFor 38 = .ok (.istore_n 3, 1) := by decide +kernel
theorem dX2_isFor_39 : decode cX2_isFor 39 = .ok (.iload_n 3, 1) := by decide +kernel
theorem dX2_isFor_40 : decode cX2_isFor 40 = .ok (.ifCond .eq 41, 3) := by decide +kernel
theorem dX2_isFor_43 : decode cX2_isFor 43 = .ok (.aload_n 0, 1) := by decide +kernel
theorem dX2_isFor_44 : decode cX2_isFor 44 = .ok (.getfield 35, 3) := by decide +kernel
theorem dX2_isFor_47 : decode cX2_isFor 47 = .ok (.iload_n 1, 1) := by decide +kernel
theorem dX2_isFor_48 : decode cX2_isFor 48 = .ok (.iaload, 1) := by decide +kernel
theorem dX2_isFor_49 : decode cX2_isFor 49 = .ok (.aload_n 0, 1) := by decide +kernel
theorem dX2_isFor_50 : decode cX2_isFor 50 = .ok (.getfield 38, 3) := by decide +kernel
theorem dX2_isFor_53 : decode cX2_isFor 53 = .ok (.iload_n 1, 1) := by decide +kernel
theorem dX2_isFor_54 : decode cX2_isFor 54 = .ok (.iaload, 1) := by decide +kernel
theorem dX2_isFor_55 : decode cX2_isFor 55 = .ok (.if_icmp .eq 22, 3) := by decide +kernel
theorem dX2_isFor_58 : decode cX2_isFor 58 = .ok (.aload_n 0, 1) := by decide +kernel
theorem dX2_isFor_59 : decode cX2_isFor 59 = .ok (.aload_n 0, 1) := by decide +kernel
theorem dX2_isFor_60 : decode cX2_isFor 60 = .ok (.getfield 35, 3) := by decide +kernel
theorem dX2_isFor_63 : decode cX2_isFor 63 = .ok (.iload_n 1, 1) := by decide +kernel
theorem dX2_isFor_64 : decode cX2_isFor 64 = .ok (.iaload, 1) := by decide +kernel
theorem dX2_isFor_65 : decode cX2_isFor 65 = .ok (.aload_n 0, 1) := by decide +kernel
theorem dX2_isFor_66 : decode cX2_isFor 66 = .ok (.getfield 38, 3) := by decide +kernel
theorem dX2_isFor_69 : decode cX2_isFor 69 = .ok (.iload_n 1, 1) := by decide +kernel
theorem dX2_isFor_70 : decode cX2_isFor 70 = .ok (.iaload, 1) := by decide +kernel
theorem dX2_isFor_71 : decode cX2_isFor 71 = .ok (.invokevirtual 93, 3) := by decide +kernel
theorem dX2_isFor_74 : decode cX2_isFor 74 = .ok (.ifCond .eq 7, 3) := by decide +kernel
theorem dX2_isFor_77 : decode cX2_isFor 77 = .ok (.iconst 1, 1) := by decide +kernel
theorem dX2_isFor_78 : decode cX2_isFor 78 = .ok (.goto 4, 3) := by decide +kernel
theorem dX2_isFor_81 : decode cX2_isFor 81 = .ok (.iconst 0, 1) := by decide +kernel
theorem dX2_isFor_82 : decode cX2_isFor 82 = .ok (.ireturn, 1) := by decide +kernel
theorem dX2_isInForce_0 : decode cX2_isInForce 0 = .ok (.iload_n 1, 1) := by decide +kernel
theorem dX2_isInForce_1 : decode cX2_isInForce 1 = .ok (.ifCond .lt 43, 3) := by decide +kernel
theorem dX2_isInForce_4 : decode cX2_isInForce 4 = .ok (.aload_n 0, 1) := by decide +kernel
theorem dX2_isInForce_5 : decode cX2_isInForce 5 = .ok (.getfield 71, 3) := by decide +kernel
theorem dX2_isInForce_8 : decode cX2_isInForce 8 = .ok (.aload_n 0, 1) := by decide +kernel
theorem dX2_isInForce_9 : decode cX2_isInForce 9 = .ok (.getfield 51, 3) := by decide +kernel
theorem dX2_isInForce_12 : decode cX2_isInForce 12 = .ok (.iload_n 1, 1) := by decide +kernel
theorem dX2_isInForce_13 : decode cX2_isInForce 13 = .ok (.iaload, 1) := by decide +kernel
theorem dX2_isInForce_14 : decode cX2_isInForce 14 = .ok (.if_icmp .lt 30, 3) := by decide +kernel
theorem dX2_isInForce_17 : decode cX2_isInForce 17 = .ok (.aload_n 0, 1) := by decide +kernel
theorem dX2_isInForce_18 : decode cX2_isInForce 18 = .ok (.getfield 54, 3) := by decide +kernel
theorem dX2_isInForce_21 : decode cX2_isInForce 21 = .ok (.iload_n 1, 1) := by decide +kernel
theorem dX2_isInForce_22 : decode cX2_isInForce 22 = .ok (.iaload, 1) := by decide +kernel
theorem dX2_isInForce_23 : decode cX2_isInForce 23 = .ok (.iconst (-1), 1) := by decide +kernel
theorem dX2_isInForce_24 : decode cX2_isInForce 24 = .ok (.if_icmp .eq 16, 3) := by decide +kernel
theorem dX2_isInForce_27 : decode cX2_isInForce 27 = .ok (.aload_n 0, 1) := by decide +kernel
theorem dX2_isInForce_28 : decode cX2_isInForce 28 = .ok (.getfield 71, 3) := by decide +kernel
theorem dX2_isInForce_31 : decode cX2_isInForce 31 = .ok (.aload_n 0, 1) := by decide +kernel
theorem dX2_isInForce_32 : decode cX2_isInForce 32 = .ok (.getfield 54, 3) := by decide +kernel
theorem dX2_isInForce_35 : decode cX2_isInForce 35 = .ok (.iload_n 1, 1) := by decide +kernel
theorem dX2_isInForce_36 : decode cX2_isInForce 36 = .ok (.iaload, 1) := by decide +kernel
theorem dX2_isInForce_37 : decode cX2_isInForce 37 = .ok (.if_icmp .ge 7, 3) := by decide +kernel
theorem dX2_isInForce_40 : decode cX2_isInForce 40 = .ok (.iconst 1, 1) := by decide +kernel
theorem dX2_isInForce_41 : decode cX2_isInForce 41 = .ok (.goto 4, 3) := by decide +kernel
theorem dX2_isInForce_44 : decode cX2_isInForce 44 = .ok (.iconst 0, 1) := by decide +kernel
theorem dX2_isInForce_45 : decode cX2_isInForce 45 = .ok (.ireturn, 1) := by decide +kernel
theorem dX2_valueOf_0 : decode cX2_valueOf 0 = .ok (.iconst 0, 1) := by decide +kernel
theorem dX2_valueOf_1 : decode cX2_valueOf 1 = .ok (.istore_n 3, 1) := by decide +kernel
theorem dX2_valueOf_2 : decode cX2_valueOf 2 = .ok (.iload_n 1, 1) := by decide +kernel
theorem dX2_valueOf_3 : decode cX2_valueOf 3 = .ok (.istore 4, 2) := by decide +kernel
theorem dX2_valueOf_5 : decode cX2_valueOf 5 = .ok (.iload 4, 2) := by decide +kernel
theorem dX2_valueOf_7 : decode cX2_valueOf 7 = .ok (.iload_n 2, 1) := by decide +kernel
theorem dX2_valueOf_8 : decode cX2_valueOf 8 = .ok (.if_icmp .ge 145, 3) := by decide +kernel
theorem dX2_valueOf_11 : decode cX2_valueOf 11 = .ok (.iload 4, 2) := by decide +kernel
theorem dX2_valueOf_13 : decode cX2_valueOf 13 = .ok (.aload_n 0, 1) := by decide +kernel
theorem dX2_valueOf_14 : decode cX2_valueOf 14 = .ok (.getfield 59, 3) := by decide +kernel
theorem dX2_valueOf_17 : decode cX2_valueOf 17 = .ok (.arraylength, 1) := by decide +kernel
theorem dX2_valueOf_18 : decode cX2_valueOf 18 = .ok (.if_icmp .ge 135, 3) := by decide +kernel
theorem dX2_valueOf_21 : decode cX2_valueOf 21 = .ok (.aload_n 0, 1) := by decide +kernel
theorem dX2_valueOf_22 : decode cX2_valueOf 22 = .ok (.getfield 59, 3) := by decide +kernel
theorem dX2_valueOf_25 : decode cX2_valueOf 25 = .ok (.iload 4, 2) := by decide +kernel
theorem dX2_valueOf_27 : decode cX2_valueOf 27 = .ok (.iaload, 1) := by decide +kernel
theorem dX2_valueOf_28 : decode cX2_valueOf 28 = .ok (.istore 5, 2) := by decide +kernel
theorem dX2_valueOf_30 : decode cX2_valueOf 30 = .ok (.iload 5, 2) := by decide +kernel
theorem dX2_valueOf_32 : decode cX2_valueOf 32 = .ok (.ifCond .ge 10, 3) := by decide +kernel
theorem dX2_valueOf_35 : decode cX2_valueOf 35 = .ok (.iload 5, 2) := by decide +kernel
theorem dX2_valueOf_37 : decode cX2_valueOf 37 = .ok (.bipush (-27), 2) := by decide +kernel
theorem dX2_valueOf_39 : decode cX2_valueOf 39 = .ok (.if_icmp .gt 41, 3) := by decide +kernel
theorem dX2_valueOf_42 : decode cX2_valueOf 42 = .ok (.iload_n 3, 1) := by decide +kernel
theorem dX2_valueOf_43 : decode cX2_valueOf 43 = .ok (.bipush 32, 2) := by decide +kernel
theorem dX2_valueOf_45 : decode cX2_valueOf 45 = .ok (.if_icmp .ge 102, 3) := by decide +kernel
theorem dX2_valueOf_48 : decode cX2_valueOf 48 = .ok (.aload_n 0, 1) := by decide +kernel
theorem dX2_valueOf_49 : decode cX2_valueOf 49 = .ok (.getfield 68, 3) := by decide +kernel
theorem dX2_valueOf_52 : decode cX2_valueOf 52 = .ok (.iload_n 3, 1) := by decide +kernel
theorem dX2_valueOf_53 : decode cX2_valueOf 53 = .ok (.iload 5, 2) := by decide +kernel
theorem dX2_valueOf_55 : decode cX2_valueOf 55 = .ok (.ifCond .lt 8, 3) := by decide +kernel
theorem dX2_valueOf_58 : decode cX2_valueOf 58 = .ok (.iload 5, 2) := by decide +kernel
theorem dX2_valueOf_60 : decode cX2_valueOf 60 = .ok (.goto 13, 3) := by decide +kernel
theorem dX2_valueOf_63 : decode cX2_valueOf 63 = .ok (.aload_n 0, 1) := by decide +kernel
theorem dX2_valueOf_64 : decode cX2_valueOf 64 = .ok (.iload 5, 2) := by decide +kernel
theorem dX2_valueOf_66 : decode cX2_valueOf 66 = .ok (.ineg, 1) := by decide +kernel
theorem dX2_valueOf_67 : decode cX2_valueOf 67 = .ok (.bipush 27, 2) := by decide +kernel
theorem dX2_valueOf_69 : decode cX2_valueOf 69 = .ok (.isub, 1) := by decide +kernel
theorem dX2_valueOf_70 : decode cX2_valueOf 70 = .ok (.invokevirtual 130, 3) := by decide +kernel
theorem dX2_valueOf_73 : decode cX2_valueOf 73 = .ok (.iastore, 1) := by decide +kernel
theorem dX2_valueOf_74 : decode cX2_valueOf 74 = .ok (.iinc 3 1, 3) := by decide +kernel
theorem dX2_valueOf_77 : decode cX2_valueOf 77 = .ok (.goto 70, 3) := by decide +kernel
theorem dX2_valueOf_80 : decode cX2_valueOf 80 = .ok (.iload 5, 2) := by decide +kernel
theorem dX2_valueOf_82 : decode cX2_valueOf 82 = .ok (.bipush (-15), 2) := by decide +kernel
theorem dX2_valueOf_84 : decode cX2_valueOf 84 = .ok (.if_icmp .ne 27, 3) := by decide +kernel
theorem dX2_valueOf_87 : decode cX2_valueOf 87 = .ok (.iload_n 3, 1) := by decide +kernel
theorem dX2_valueOf_88 : decode cX2_valueOf 88 = .ok (.ifCond .le 23, 3) := by decide +kernel
theorem dX2_valueOf_91 : decode cX2_valueOf 91 = .ok (.aload_n 0, 1) := by decide +kernel
theorem dX2_valueOf_92 : decode cX2_valueOf 92 = .ok (.getfield 68, 3) := by decide +kernel
theorem dX2_valueOf_95 : decode cX2_valueOf 95 = .ok (.iload_n 3, 1) := by decide +kernel
theorem dX2_valueOf_96 : decode cX2_valueOf 96 = .ok (.iconst 1, 1) := by decide +kernel
theorem dX2_valueOf_97 : decode cX2_valueOf 97 = .ok (.isub, 1) := by decide +kernel
theorem dX2_valueOf_98 : decode cX2_valueOf 98 = .ok (.aload_n 0, 1) := by decide +kernel
theorem dX2_valueOf_99 : decode cX2_valueOf 99 = .ok (.getfield 68, 3) := by decide +kernel
theorem dX2_valueOf_102 : decode cX2_valueOf 102 = .ok (.iload_n 3, 1) := by decide +kernel
theorem dX2_valueOf_103 : decode cX2_valueOf 103 = .ok (.iconst 1, 1) := by decide +kernel
theorem dX2_valueOf_104 : decode cX2_valueOf 104 = .ok (.isub, 1) := by decide +kernel
theorem dX2_valueOf_105 : decode cX2_valueOf 105 = .ok (.iaload, 1) := by decide +kernel
theorem dX2_valueOf_106 : decode cX2_valueOf 106 = .ok (.ineg, 1) := by decide +kernel
theorem dX2_valueOf_107 : decode cX2_valueOf 107 = .ok (.iastore, 1) := by decide +kernel
theorem dX2_valueOf_108 : decode cX2_valueOf 108 = .ok (.goto 39, 3) := by decide +kernel
theorem dX2_valueOf_111 : decode cX2_valueOf 111 = .ok (.iload_n 3, 1) := by decide +kernel
theorem dX2_valueOf_112 : decode cX2_valueOf 112 = .ok (.iconst 1, 1) := by decide +kernel
theorem dX2_valueOf_113 : decode cX2_valueOf 113 = .ok (.if_icmp .le 34, 3) := by decide +kernel
theorem dX2_valueOf_116 : decode cX2_valueOf 116 = .ok (.iinc 3 (-1), 3) := by decide +kernel
theorem dX2_valueOf_119 : decode cX2_valueOf 119 = .ok (.aload_n 0, 1) := by decide +kernel
theorem dX2_valueOf_120 : decode cX2_valueOf 120 = .ok (.getfield 68, 3) := by decide +kernel
theorem dX2_valueOf_123 : decode cX2_valueOf 123 = .ok (.iload_n 3, 1) := by decide +kernel
theorem dX2_valueOf_124 : decode cX2_valueOf 124 = .ok (.iconst 1, 1) := by decide +kernel
theorem dX2_valueOf_125 : decode cX2_valueOf 125 = .ok (.isub, 1) := by decide +kernel
theorem dX2_valueOf_126 : decode cX2_valueOf 126 = .ok (.iload 5, 2) := by decide +kernel
theorem dX2_valueOf_128 : decode cX2_valueOf 128 = .ok (.ineg, 1) := by decide +kernel
theorem dX2_valueOf_129 : decode cX2_valueOf 129 = .ok (.aload_n 0, 1) := by decide +kernel
theorem dX2_valueOf_130 : decode cX2_valueOf 130 = .ok (.getfield 68, 3) := by decide +kernel
theorem dX2_valueOf_133 : decode cX2_valueOf 133 = .ok (.iload_n 3, 1) := by decide +kernel
theorem dX2_valueOf_134 : decode cX2_valueOf 134 = .ok (.iconst 1, 1) := by decide +kernel
theorem dX2_valueOf_135 : decode cX2_valueOf 135 = .ok (.isub, 1) := by decide +kernel
theorem dX2_valueOf_136 : decode cX2_valueOf 136 = .ok (.iaload, 1) := by decide +kernel
theorem dX2_valueOf_137 : decode cX2_valueOf 137 = .ok (.aload_n 0, 1) := by decide +kernel
theorem dX2_valueOf_138 : decode cX2_valueOf 138 = .ok (.getfield 68, 3) := by decide +kernel
theorem dX2_valueOf_141 : decode cX2_valueOf 141 = .ok (.iload_n 3, 1) := by decide +kernel
theorem dX2_valueOf_142 : decode cX2_valueOf 142 = .ok (.iaload, 1) := by decide +kernel
theorem dX2_valueOf_143 : decode cX2_valueOf 143 = .ok (.invokestatic 134, 3) := by decide +kernel
theorem dX2_valueOf_146 : decode cX2_valueOf 146 = .ok (.iastore, 1) := by decide +kernel
theorem dX2_valueOf_147 : decode cX2_valueOf 147 = .ok (.iinc 4 1, 3) := by decide +kernel
theorem dX2_valueOf_150 : decode cX2_valueOf 150 = .ok (.goto (-145), 3) := by decide +kernel
theorem dX2_valueOf_153 : decode cX2_valueOf 153 = .ok (.aload_n 0, 1) := by decide +kernel
theorem dX2_valueOf_154 : decode cX2_valueOf 154 = .ok (.getfield 68, 3) := by decide +kernel
theorem dX2_valueOf_157 : decode cX2_valueOf 157 = .ok (.iconst 0, 1) := by decide +kernel
theorem dX2_valueOf_158 : decode cX2_valueOf 158 = .ok (.iaload, 1) := by decide +kernel
theorem dX2_valueOf_159 : decode cX2_valueOf 159 = .ok (.ireturn, 1) := by decide +kernel
theorem dX2_valueOfVar_0 : decode cX2_valueOfVar 0 = .ok (.iload_n 1, 1) := by decide +kernel
theorem dX2_valueOfVar_1 : decode cX2_valueOfVar 1 = .ok (.bipush 12, 2) := by decide +kernel
theorem dX2_valueOfVar_3 : decode cX2_valueOfVar 3 = .ok (.if_icmp .ge 12, 3) := by decide +kernel
theorem dX2_valueOfVar_6 : decode cX2_valueOfVar 6 = .ok (.aload_n 0, 1) := by decide +kernel
theorem dX2_valueOfVar_7 : decode cX2_valueOfVar 7 = .ok (.getfield 65, 3) := by decide +kernel
theorem dX2_valueOfVar_10 : decode cX2_valueOfVar 10 = .ok (.iload_n 1, 1) := by decide +kernel
theorem dX2_valueOfVar_11 : decode cX2_valueOfVar 11 = .ok (.iaload, 1) := by decide +kernel
theorem dX2_valueOfVar_12 : decode cX2_valueOfVar 12 = .ok (.goto 4, 3) := by decide +kernel
theorem dX2_valueOfVar_15 : decode cX2_valueOfVar 15 = .ok (.iconst 0, 1) := by decide +kernel
theorem dX2_valueOfVar_16 : decode cX2_valueOfVar 16 = .ok (.ireturn, 1) := by decide +kernel
theorem dX2_joined_0 : decode cX2_joined 0 = .ok (.iload_n 0, 1) := by decide +kernel
theorem dX2_joined_1 : decode cX2_joined 1 = .ok (.tableswitch 151 8 26 #[91, 95, 99, 103, 114, 125, 136, 151, 151, 151, 151, 151, 151, 151, 151, 151, 151, 151, 147], 91) := by decide +kernel
theorem dX2_joined_92 : decode cX2_joined 92 = .ok (.iload_n 1, 1) := by decide +kernel
theorem dX2_joined_93 : decode cX2_joined 93 = .ok (.iload_n 2, 1) := by decide +kernel
theorem dX2_joined_94 : decode cX2_joined 94 = .ok (.iadd, 1) := by decide +kernel
theorem dX2_joined_95 : decode cX2_joined 95 = .ok (.ireturn, 1) := by decide +kernel
theorem dX2_joined_96 : decode cX2_joined 96 = .ok (.iload_n 1, 1) := by decide +kernel
theorem dX2_joined_97 : decode cX2_joined 97 = .ok (.iload_n 2, 1) := by decide +kernel
theorem dX2_joined_98 : decode cX2_joined 98 = .ok (.isub, 1) := by decide +kernel
theorem dX2_joined_99 : decode cX2_joined 99 = .ok (.ireturn, 1) := by decide +kernel
theorem dX2_joined_100 : decode cX2_joined 100 = .ok (.iload_n 1, 1) := by decide +kernel
theorem dX2_joined_101 : decode cX2_joined 101 = .ok (.iload_n 2, 1) := by decide +kernel
theorem dX2_joined_102 : decode cX2_joined 102 = .ok (.imul, 1) := by decide +kernel
theorem dX2_joined_103 : decode cX2_joined 103 = .ok (.ireturn, 1) := by decide +kernel
theorem dX2_joined_104 : decode cX2_joined 104 = .ok (.iload_n 1, 1) := by decide +kernel
theorem dX2_joined_105 : decode cX2_joined 105 = .ok (.iload_n 2, 1) := by decide +kernel
theorem dX2_joined_106 : decode cX2_joined 106 = .ok (.if_icmp .ne 7, 3) := by decide +kernel
theorem dX2_joined_109 : decode cX2_joined 109 = .ok (.iconst 1, 1) := by decide +kernel
theorem dX2_joined_110 : decode cX2_joined 110 = .ok (.goto 4, 3) := by decide +kernel
theorem dX2_joined_113 : decode cX2_joined 113 = .ok (.iconst 0, 1) := by decide +kernel
theorem dX2_joined_114 : decode cX2_joined 114 = .ok (.ireturn, 1) := by decide +kernel
theorem dX2_joined_115 : decode cX2_joined 115 = .ok (.iload_n 1, 1) := by decide +kernel
theorem dX2_joined_116 : decode cX2_joined 116 = .ok (.iload_n 2, 1) := by decide +kernel
theorem dX2_joined_117 : decode cX2_joined 117 = .ok (.if_icmp .eq 7, 3) := by decide +kernel
