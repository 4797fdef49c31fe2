theorem dX12_order_45 : decode cX12_order 45 = .ok (.iconst (-1), 1) := by decide +kernel
theorem dX12_order_46 : decode cX12_order 46 = .ok (.ireturn, 1) := by decide +kernel
theorem dX12_order_47 : decode cX12_order 47 = .ok (.aload_n 0, 1) := by decide +kernel
theorem dX12_order_48 : decode cX12_order 48 = .ok (.getfield 119, 3) := by decide +kernel
theorem dX12_order_51 : decode cX12_order 51 = .ok (.aload_n 0, 1) := by decide +kernel
theorem dX12_order_52 : decode cX12_order 52 = .ok (.getfield 322, 3) := by decide +kernel
theorem dX12_order_55 : decode cX12_order 55 = .ok (.aload_n 0, 1) := by decide +kernel
theorem dX12_order_56 : decode cX12_order 56 = .ok (.getfield 310, 3) := by decide +kernel
theorem dX12_order_59 : decode cX12_order 59 = .ok (.iastore, 1) := by decide +kernel
theorem dX12_order_60 : decode cX12_order 60 = .ok (.aload_n 0, 1) := by decide +kernel
theorem dX12_order_61 : decode cX12_order 61 = .ok (.getfield 122, 3) := by decide +kernel
theorem dX12_order_64 : decode cX12_order 64 = .ok (.aload_n 0, 1) := by decide +kernel
theorem dX12_order_65 : decode cX12_order 65 = .ok (.getfield 322, 3) := by decide +kernel
theorem dX12_order_68 : decode cX12_order 68 = .ok (.iload_n 1, 1) := by decide +kernel
theorem dX12_order_69 : decode cX12_order 69 = .ok (.iastore, 1) := by decide +kernel
theorem dX12_order_70 : decode cX12_order 70 = .ok (.aload_n 0, 1) := by decide +kernel
theorem dX12_order_71 : decode cX12_order 71 = .ok (.getfield 125, 3) := by decide +kernel
theorem dX12_order_74 : decode cX12_order 74 = .ok (.aload_n 0, 1) := by decide +kernel
theorem dX12_order_75 : decode cX12_order 75 = .ok (.getfield 322, 3) := by decide +kernel
theorem dX12_order_78 : decode cX12_order 78 = .ok (.iload_n 2, 1) := by decide +kernel
theorem dX12_order_79 : decode cX12_order 79 = .ok (.bastore, 1) := by decide +kernel
theorem dX12_order_80 : decode cX12_order 80 = .ok (.aload_n 0, 1) := by decide +kernel
theorem dX12_order_81 : decode cX12_order 81 = .ok (.getfield 128, 3) := by decide +kernel
theorem dX12_order_84 : decode cX12_order 84 = .ok (.aload_n 0, 1) := by decide +kernel
theorem dX12_order_85 : decode cX12_order 85 = .ok (.getfield 322, 3) := by decide +kernel
theorem dX12_order_88 : decode cX12_order 88 = .ok (.iload_n 3, 1) := by decide +kernel
theorem dX12_order_89 : decode cX12_order 89 = .ok (.iastore, 1) := by decide +kernel
theorem dX12_order_90 : decode cX12_order 90 = .ok (.aload_n 0, 1) := by decide +kernel
theorem dX12_order_91 : decode cX12_order 91 = .ok (.dup, 1) := by decide +kernel
theorem dX12_order_92 : decode cX12_order 92 = .ok (.getfield 322, 3) := by decide +kernel
theorem dX12_order_95 : decode cX12_order 95 = .ok (.iconst 1, 1) := by decide +kernel
theorem dX12_order_96 : decode cX12_order 96 = .ok (.iadd, 1) := by decide +kernel
theorem dX12_order_97 : decode cX12_order 97 = .ok (.putfield 322, 3) := by decide +kernel
theorem dX12_order_100 : decode cX12_order 100 = .ok (.aload_n 0, 1) := by decide +kernel
theorem dX12_order_101 : decode cX12_order 101 = .ok (.invokevirtual 278, 3) := by decide +kernel
theorem dX12_order_104 : decode cX12_order 104 = .ok (.aload_n 0, 1) := by decide +kernel
theorem dX12_order_105 : decode cX12_order 105 = .ok (.getfield 322, 3) := by decide +kernel
theorem dX12_order_108 : decode cX12_order 108 = .ok (.iconst 1, 1) := by decide +kernel
theorem dX12_order_109 : decode cX12_order 109 = .ok (.isub, 1) := by decide +kernel
theorem dX12_order_110 : decode cX12_order 110 = .ok (.ireturn, 1) := by decide +kernel
theorem dX12_grist_0 : decode cX12_grist 0 = .ok (.aload_n 0, 1) := by decide +kernel
theorem dX12_grist_1 : decode cX12_grist 1 = .ok (.getfield 325, 3) := by decide +kernel
theorem dX12_grist_4 : decode cX12_grist 4 = .ok (.bipush 60, 2) := by decide +kernel
theorem dX12_grist_6 : decode cX12_grist 6 = .ok (.if_icmp .eq 23, 3) := by decide +kernel
theorem dX12_grist_9 : decode cX12_grist 9 = .ok (.aload_n 0, 1) := by decide +kernel
theorem dX12_grist_10 : decode cX12_grist 10 = .ok (.iload_n 1, 1) := by decide +kernel
theorem dX12_grist_11 : decode cX12_grist 11 = .ok (.invokevirtual 319, 3) := by decide +kernel
theorem dX12_grist_14 : decode cX12_grist 14 = .ok (.ifCond .eq 15, 3) := by decide +kernel
theorem dX12_grist_17 : decode cX12_grist 17 = .ok (.iload_n 2, 1) := by decide +kernel
theorem dX12_grist_18 : decode cX12_grist 18 = .ok (.iconst 1, 1) := by decide +kernel
theorem dX12_grist_19 : decode cX12_grist 19 = .ok (.if_icmp .lt 10, 3) := by decide +kernel
theorem dX12_grist_22 : decode cX12_grist 22 = .ok (.iload_n 2, 1) := by decide +kernel
theorem dX12_grist_23 : decode cX12_grist 23 = .ok (.sipush 10000, 3) := by decide +kernel
theorem dX12_grist_26 : decode cX12_grist 26 = .ok (.if_icmp .le 5, 3) := by decide +kernel
theorem dX12_grist_29 : decode cX12_grist 29 = .ok (.iconst (-1), 1) := by decide +kernel
theorem dX12_grist_30 : decode cX12_grist 30 = .ok (.ireturn, 1) := by decide +kernel
theorem dX12_grist_31 : decode cX12_grist 31 = .ok (.aload_n 0, 1) := by decide +kernel
theorem dX12_grist_32 : decode cX12_grist 32 = .ok (.getfield 131, 3) := by decide +kernel
theorem dX12_grist_35 : decode cX12_grist 35 = .ok (.aload_n 0, 1) := by decide +kernel
theorem dX12_grist_36 : decode cX12_grist 36 = .ok (.getfield 325, 3) := by decide +kernel
theorem dX12_grist_39 : decode cX12_grist 39 = .ok (.iload_n 1, 1) := by decide +kernel
theorem dX12_grist_40 : decode cX12_grist 40 = .ok (.iastore, 1) := by decide +kernel
theorem dX12_grist_41 : decode cX12_grist 41 = .ok (.aload_n 0, 1) := by decide +kernel
theorem dX12_grist_42 : decode cX12_grist 42 = .ok (.getfield 134, 3) := by decide +kernel
theorem dX12_grist_45 : decode cX12_grist 45 = .ok (.aload_n 0, 1) := by decide +kernel
theorem dX12_grist_46 : decode cX12_grist 46 = .ok (.getfield 325, 3) := by decide +kernel
theorem dX12_grist_49 : decode cX12_grist 49 = .ok (.iload_n 2, 1) := by decide +kernel
theorem dX12_grist_50 : decode cX12_grist 50 = .ok (.iastore, 1) := by decide +kernel
theorem dX12_grist_51 : decode cX12_grist 51 = .ok (.aload_n 0, 1) := by decide +kernel
theorem dX12_grist_52 : decode cX12_grist 52 = .ok (.getfield 137, 3) := by decide +kernel
theorem dX12_grist_55 : decode cX12_grist 55 = .ok (.aload_n 0, 1) := by decide +kernel
theorem dX12_grist_56 : decode cX12_grist 56 = .ok (.getfield 325, 3) := by decide +kernel
theorem dX12_grist_59 : decode cX12_grist 59 = .ok (.aload_n 0, 1) := by decide +kernel
theorem dX12_grist_60 : decode cX12_grist 60 = .ok (.getfield 310, 3) := by decide +kernel
theorem dX12_grist_63 : decode cX12_grist 63 = .ok (.iastore, 1) := by decide +kernel
theorem dX12_grist_64 : decode cX12_grist 64 = .ok (.aload_n 0, 1) := by decide +kernel
theorem dX12_grist_65 : decode cX12_grist 65 = .ok (.dup, 1) := by decide +kernel
theorem dX12_grist_66 : decode cX12_grist 66 = .ok (.getfield 325, 3) := by decide +kernel
theorem dX12_grist_69 : decode cX12_grist 69 = .ok (.iconst 1, 1) := by decide +kernel
theorem dX12_grist_70 : decode cX12_grist 70 = .ok (.iadd, 1) := by decide +kernel
theorem dX12_grist_71 : decode cX12_grist 71 = .ok (.putfield 325, 3) := by decide +kernel
theorem dX12_grist_74 : decode cX12_grist 74 = .ok (.aload_n 0, 1) := by decide +kernel
theorem dX12_grist_75 : decode cX12_grist 75 = .ok (.getfield 325, 3) := by decide +kernel
theorem dX12_grist_78 : decode cX12_grist 78 = .ok (.iconst 1, 1) := by decide +kernel
theorem dX12_grist_79 : decode cX12_grist 79 = .ok (.isub, 1) := by decide +kernel
theorem dX12_grist_80 : decode cX12_grist 80 = .ok (.ireturn, 1) := by decide +kernel
theorem dX12_changes_0 : decode cX12_changes 0 = .ok (.aload_n 0, 1) := by decide +kernel
theorem dX12_changes_1 : decode cX12_changes 1 = .ok (.iconst (-1), 1) := by decide +kernel
theorem dX12_changes_2 : decode cX12_changes 2 = .ok (.putfield 143, 3) := by decide +kernel
theorem dX12_changes_5 : decode cX12_changes 5 = .ok (.return_, 1) := by decide +kernel
theorem dX12_knows_0 : decode cX12_knows 0 = .ok (.iconst 0, 1) := by decide +kernel
theorem dX12_knows_1 : decode cX12_knows 1 = .ok (.istore_n 2, 1) := by decide +kernel
theorem dX12_knows_2 : decode cX12_knows 2 = .ok (.iload_n 2, 1) := by decide +kernel
theorem dX12_knows_3 : decode cX12_knows 3 = .ok (.sipush 1680, 3) := by decide +kernel
theorem dX12_knows_6 : decode cX12_knows 6 = .ok (.if_icmp .ge 16, 3) := by decide +kernel
theorem dX12_knows_9 : decode cX12_knows 9 = .ok (.aload_n 0, 1) := by decide +kernel
theorem dX12_knows_10 : decode cX12_knows 10 = .ok (.getfield 149, 3) := by decide +kernel
theorem dX12_knows_13 : decode cX12_knows 13 = .ok (.iload_n 2, 1) := by decide +kernel
theorem dX12_knows_14 : decode cX12_knows 14 = .ok (.iconst 0, 1) := by decide +kernel
theorem dX12_knows_15 : decode cX12_knows 15 = .ok (.iastore, 1) := by decide +kernel
theorem dX12_knows_16 : decode cX12_knows 16 = .ok (.iinc 2 1, 3) := by decide +kernel
theorem dX12_knows_19 : decode cX12_knows 19 = .ok (.goto (-17), 3) := by decide +kernel
theorem dX12_knows_22 : decode cX12_knows 22 = .ok (.iconst 0, 1) := by decide +kernel
theorem dX12_knows_23 : decode cX12_knows 23 = .ok (.istore_n 2, 1) := by decide +kernel
theorem dX12_knows_24 : decode cX12_knows 24 = .ok (.iload_n 2, 1) := by decide +kernel
theorem dX12_knows_25 : decode cX12_knows 25 = .ok (.iload_n 1, 1) := by decide +kernel
theorem dX12_knows_26 : decode cX12_knows 26 = .ok (.if_icmp .ge 36, 3) := by decide +kernel
theorem dX12_knows_29 : decode cX12_knows 29 = .ok (.aload_n 0, 1) := by decide +kernel
theorem dX12_knows_30 : decode cX12_knows 30 = .ok (.getfield 149, 3) := by decide +kernel
theorem dX12_knows_33 : decode cX12_knows 33 = .ok (.bipush 7, 2) := by decide +kernel
theorem dX12_knows_35 : decode cX12_knows 35 = .ok (.aload_n 0, 1) := by decide +kernel
theorem dX12_knows_36 : decode cX12_knows 36 = .ok (.getfield 110, 3) := by decide +kernel
theorem dX12_knows_39 : decode cX12_knows 39 = .ok (.iload_n 2, 1) := by decide +kernel
theorem dX12_knows_40 : decode cX12_knows 40 = .ok (.iaload, 1) := by decide +kernel
theorem dX12_knows_41 : decode cX12_knows 41 = .ok (.imul, 1) := by decide +kernel
theorem dX12_knows_42 : decode cX12_knows 42 = .ok (.aload_n 0, 1) := by decide +kernel
theorem dX12_knows_43 : decode cX12_knows 43 = .ok (.getfield 113, 3) := by decide +kernel
theorem dX12_knows_46 : decode cX12_knows 46 = .ok (.iload_n 2, 1) := by decide +kernel
theorem dX12_knows_47 : decode cX12_knows 47 = .ok (.iaload, 1) := by decide +kernel
theorem dX12_knows_48 : decode cX12_knows 48 = .ok (.iadd, 1) := by decide +kernel
theorem dX12_knows_49 : decode cX12_knows 49 = .ok (.aload_n 0, 1) := by decide +kernel
theorem dX12_knows_50 : decode cX12_knows 50 = .ok (.getfield 116, 3) := by decide +kernel
theorem dX12_knows_53 : decode cX12_knows 53 = .ok (.iload_n 2, 1) := by decide +kernel
theorem dX12_knows_54 : decode cX12_knows 54 = .ok (.iaload, 1) := by decide +kernel
theorem dX12_knows_55 : decode cX12_knows 55 = .ok (.iastore, 1) := by decide +kernel
theorem dX12_knows_56 : decode cX12_knows 56 = .ok (.iinc 2 1, 3) := by decide +kernel
theorem dX12_knows_59 : decode cX12_knows 59 = .ok (.goto (-35), 3) := by decide +kernel
theorem dX12_knows_62 : decode cX12_knows 62 = .ok (.return_, 1) := by decide +kernel
theorem dX12_sets_0 : decode cX12_sets 0 = .ok (.iconst 0, 1) := by decide +kernel
theorem dX12_sets_1 : decode cX12_sets 1 = .ok (.istore_n 2, 1) := by decide +kernel
theorem dX12_sets_2 : decode cX12_sets 2 = .ok (.iload_n 2, 1) := by decide +kernel
theorem dX12_sets_3 : decode cX12_sets 3 = .ok (.bipush 14, 2) := by decide +kernel
theorem dX12_sets_5 : decode cX12_sets 5 = .ok (.if_icmp .ge 16, 3) := by decide +kernel
theorem dX12_sets_8 : decode cX12_sets 8 = .ok (.aload_n 0, 1) := by decide +kernel
theorem dX12_sets_9 : decode cX12_sets 9 = .ok (.getfield 155, 3) := by decide +kernel
theorem dX12_sets_12 : decode cX12_sets 12 = .ok (.iload_n 2, 1) := by decide +kernel
theorem dX12_sets_13 : decode cX12_sets 13 = .ok (.iconst 0, 1) := by decide +kernel
theorem dX12_sets_14 : decode cX12_sets 14 = .ok (.iastore, 1) := by decide +kernel
theorem dX12_sets_15 : decode cX12_sets 15 = .ok (.iinc 2 1, 3) := by decide +kernel
theorem dX12_sets_18 : decode cX12_sets 18 = .ok (.goto (-16), 3) := by decide +kernel
theorem dX12_sets_21 : decode cX12_sets 21 = .ok (.iconst 0, 1) := by decide +kernel
theorem dX12_sets_22 : decode cX12_sets 22 = .ok (.istore_n 2, 1) := by decide +kernel
theorem dX12_sets_23 : decode cX12_sets 23 = .ok (.iconst 0, 1) := by decide +kernel
theorem dX12_sets_24 : decode cX12_sets 24 = .ok (.istore_n 3, 1) := by decide +kernel
theorem dX12_sets_25 : decode cX12_sets 25 = .ok (.iload_n 3, 1) := by decide +kernel
theorem dX12_sets_26 : decode cX12_sets 26 = .ok (.sipush 240, 3) := by decide +kernel
theorem dX12_sets_29 : decode cX12_sets 29 = .ok (.if_icmp .ge 106, 3) := by decide +kernel
theorem dX12_sets_32 : decode cX12_sets 32 = .ok (.iload_n 2, 1) := by decide +kernel
theorem dX12_sets_33 : decode cX12_sets 33 = .ok (.aload_n 0, 1) := by decide +kernel
theorem dX12_sets_34 : decode cX12_sets 34 = .ok (.getfield 322, 3) := by decide +kernel
theorem dX12_sets_37 : decode cX12_sets 37 = .ok (.if_icmp .ge 57, 3) := by decide +kernel
theorem dX12_sets_40 : decode cX12_sets 40 = .ok (.aload_n 0, 1) := by decide +kernel
theorem dX12_sets_41 : decode cX12_sets 41 = .ok (.getfield 119, 3) := by decide +kernel
theorem dX12_sets_44 : decode cX12_sets 44 = .ok (.iload_n 2, 1) := by decide +kernel
theorem dX12_sets_45 : decode cX12_sets 45 = .ok (.iaload, 1) := by decide +kernel
theorem dX12_sets_46 : decode cX12_sets 46 = .ok (.iload_n 3, 1) := by decide +kernel
theorem dX12_sets_47 : decode cX12_sets 47 = .ok (.if_icmp .gt 47, 3) := by decide +kernel
theorem dX12_sets_50 : decode cX12_sets 50 = .ok (.iload_n 2, 1) := by decide +kernel
theorem dX12_sets_51 : decode cX12_sets 51 = .ok (.iload_n 1, 1) := by decide +kernel
theorem dX12_sets_52 : decode cX12_sets 52 = .ok (.if_icmp .eq 36, 3) := by decide +kernel
theorem dX12_sets_55 : decode cX12_sets 55 = .ok (.aload_n 0, 1) := by decide +kernel
theorem dX12_sets_56 : decode cX12_sets 56 = .ok (.getfield 155, 3) := by decide +kernel
theorem dX12_sets_59 : decode cX12_sets 59 = .ok (.aload_n 0, 1) := by decide +kernel
theorem dX12_sets_60 : decode cX12_sets 60 = .ok (.getfield 122, 3) := by decide +kernel
theorem dX12_sets_63 : decode cX12_sets 63 = .ok (.iload_n 2, 1) := by decide +kernel
theorem dX12_sets_64 : decode cX12_sets 64 = .ok (.iaload, 1) := by decide +kernel
theorem dX12_sets_65 : decode cX12_sets 65 = .ok (.aload_n 0, 1) := by decide +kernel
theorem dX12_sets_66 : decode cX12_sets 66 = .ok (.getfield 125, 3) := by decide +kernel
theorem dX12_sets_69 : decode cX12_sets 69 = .ok (.iload_n 2, 1) := by decide +kernel
theorem dX12_sets_70 : decode cX12_sets 70 = .ok (.baload, 1) := by decide +kernel
theorem dX12_sets_71 : decode cX12_sets 71 = .ok (.ifCond .eq 8, 3) := by decide +kernel
theorem dX12_sets_74 : decode cX12_sets 74 = .ok (.bipush 7, 2) := by decide +kernel
theorem dX12_sets_76 : decode cX12_sets 76 = .ok (.goto 4, 3) := by decide +kernel
theorem dX12_sets_79 : decode cX12_sets 79 = .ok (.iconst 0, 1) := by decide +kernel
theorem dX12_sets_80 : decode cX12_sets 80 = .ok (.iadd, 1) := by decide +kernel
theorem dX12_sets_81 : decode cX12_sets 81 = .ok (.aload_n 0, 1) := by decide +kernel
theorem dX12_sets_82 : decode cX12_sets 82 = .ok (.getfield 128, 3) := by decide +kernel
theorem dX12_sets_85 : decode cX12_sets 85 = .ok (.iload_n 2, 1) := by decide +kernel
theorem dX12_sets_86 : decode cX12_sets 86 = .ok (.iaload, 1) := by decide +kernel
theorem dX12_sets_87 : decode cX12_sets 87 = .ok (.iastore, 1) := by decide +kernel
theorem dX12_sets_88 : decode cX12_sets 88 = .ok (.iinc 2 1, 3) := by decide +kernel
theorem dX12_sets_91 : decode cX12_sets 91 = .ok (.goto (-59), 3) := by decide +kernel
theorem dX12_sets_94 : decode cX12_sets 94 = .ok (.iconst 0, 1) := by decide +kernel
theorem dX12_sets_95 : decode cX12_sets 95 = .ok (.istore 4, 2) := by decide +kernel
theorem dX12_sets_97 : decode cX12_sets 97 = .ok (.iload 4, 2) := by decide +kernel
theorem dX12_sets_99 : decode cX12_sets 99 = .ok (.bipush 14, 2) := by decide +kernel
theorem dX12_sets_101 : decode cX12_sets 101 = .ok (.if_icmp .ge 28, 3) := by decide +kernel
theorem dX12_sets_104 : decode cX12_sets 104 = .ok (.aload_n 0, 1) := by decide +kernel
theorem dX12_sets_105 : decode cX12_sets 105 = .ok (.getfield 152, 3) := by decide +kernel
theorem dX12_sets_108 : decode cX12_sets 108 = .ok (.bipush 14, 2) := by decide +kernel
theorem dX12_sets_110 : decode cX12_sets 110 = .ok (.iload_n 3, 1) := by decide +kernel
theorem dX12_sets_111 : decode cX12_sets 111 = .ok (.imul, 1) := by decide +kernel
theorem dX12_sets_112 : decode cX12_sets 112 = .ok (.iload 4, 2) := by decide +kernel
theorem dX12_sets_114 : decode cX12_sets 114 = .ok (.iadd, 1) := by decide +kernel
theorem dX12_sets_115 : decode cX12_sets 115 = .ok (.aload_n 0, 1) := by decide +kernel
theorem dX12_sets_116 : decode cX12_sets 116 = .ok (.getfield 155, 3) := by decide +kernel
theorem dX12_sets_119 : decode cX12_sets 119 = .ok (.iload 4, 2) := by decide +kernel
theorem dX12_sets_121 : decode cX12_sets 121 = .ok (.iaload, 1) := by decide +kernel
theorem dX12_sets_122 : decode cX12_sets 122 = .ok (.iastore, 1) := by decide +kernel
theorem dX12_sets_123 : decode cX12_sets 123 = .ok (.iinc 4 1, 3) := by decide +kernel
theorem dX12_sets_126 : decode cX12_sets 126 = .ok (.goto (-29), 3) := by decide +kernel
theorem dX12_sets_129 : decode cX12_sets 129 = .ok (.iinc 3 1, 3) := by decide +kernel
theorem dX12_sets_132 : decode cX12_sets 132 = .ok (.goto (-107), 3) := by decide +kernel
theorem dX12_sets_135 : decode cX12_sets 135 = .ok (.return_, 1) := by decide +kernel
theorem dX12_variable_0 : decode cX12_variable 0 = .ok (.bipush 10, 2) := by decide +kernel
theorem dX12_variable_2 : decode cX12_variable 2 = .ok (.bipush 7, 2) := by decide +kernel
theorem dX12_variable_4 : decode cX12_variable 4 = .ok (.iload_n 3, 1) := by decide +kernel
theorem dX12_variable_5 : decode cX12_variable 5 = .ok (.imul, 1) := by decide +kernel
theorem dX12_variable_6 : decode cX12_variable 6 = .ok (.iload_n 2, 1) := by decide +kernel
theorem dX12_variable_7 : decode cX12_variable 7 = .ok (.iadd, 1) := by decide +kernel
theorem dX12_variable_8 : decode cX12_variable 8 = .ok (.imul, 1) := by decide +kernel
theorem dX12_variable_9 : decode cX12_variable 9 = .ok (.istore 5, 2) := by decide +kernel
theorem dX12_variable_11 : decode cX12_variable 11 = .ok (.iload_n 1, 1) := by decide +kernel
theorem dX12_variable_12 : decode cX12_variable 12 = .ok (.tableswitch 198 0 10 #[60, 68, 75, 82, 107, 126, 136, 146, 167, 172, 177], 60) := by decide +kernel
theorem dX12_variable_72 : decode cX12_variable 72 = .ok (.aload_n 0, 1) := by decide +kernel
theorem dX12_variable_73 : decode cX12_variable 73 = .ok (.getfield 140, 3) := by decide +kernel
theorem dX12_variable_76 : decode cX12_variable 76 = .ok (.iload 5, 2) := by decide +kernel
theorem dX12_variable_78 : decode cX12_variable 78 = .ok (.iaload, 1) := by decide +kernel
theorem dX12_variable_79 : decode cX12_variable 79 = .ok (.ireturn, 1) := by decide +kernel
theorem dX12_variable_80 : decode cX12_variable 80 = .ok (.aload_n 0, 1) := by decide +kernel
theorem dX12_variable_81 : decode cX12_variable 81 = .ok (.getfield 98, 3) := by decide +kernel
theorem dX12_variable_84 : decode cX12_variable 84 = .ok (.iload_n 2, 1) := by decide +kernel
theorem dX12_variable_85 : decode cX12_variable 85 = .ok (.iaload, 1) := by decide +kernel
theorem dX12_variable_86 : decode cX12_variable 86 = .ok (.ireturn, 1) := by decide +kernel
theorem dX12_variable_87 : decode cX12_variable 87 = .ok (.aload_n 0, 1) := by decide +kernel
theorem dX12_variable_88 : decode cX12_variable 88 = .ok (.getfield 95, 3) := by decide +kernel
theorem dX12_variable_91 : decode cX12_variable 91 = .ok (.iload_n 2, 1) := by decide +kernel
theorem dX12_variable_92 : decode cX12_variable 92 = .ok (.iaload, 1) := by decide +kernel
theorem dX12_variable_93 : decode cX12_variable 93 = .ok (.ireturn, 1) := by decide +kernel
theorem dX12_variable_94 : decode cX12_variable 94 = .ok (.iload_n 2, 1) := by decide +kernel
theorem dX12_variable_95 : decode cX12_variable 95 = .ok (.iconst 1, 1) := by decide +kernel
theorem dX12_variable_96 : decode cX12_variable 96 = .ok (.iadd, 1) := by decide +kernel
theorem dX12_variable_97 : decode cX12_variable 97 = .ok (.aload_n 0, 1) := by decide +kernel
theorem dX12_variable_98 : decode cX12_variable 98 = .ok (.getfield 307, 3) := by decide +kernel
theorem dX12_variable_101 : decode cX12_variable 101 = .ok (.if_icmp .ge 16, 3) := by decide +kernel
theorem dX12_variable_104 : decode cX12_variable 104 = .ok (.aload_n 0, 1) := by decide +kernel
theorem dX12_variable_105 : decode cX12_variable 105 = .ok (.getfield 140, 3) := by decide +kernel
theorem dX12_variable_108 : decode cX12_variable 108 = .ok (.iload 5, 2) := by decide +kernel
theorem dX12_variable_110 : decode cX12_variable 110 = .ok (.bipush 10, 2) := by decide +kernel
theorem dX12_variable_112 : decode cX12_variable 112 = .ok (.iadd, 1) := by decide +kernel
theorem dX12_variable_113 : decode cX12_variable 113 = .ok (.iaload, 1) := by decide +kernel
theorem dX12_variable_114 : decode cX12_variable 114 = .ok (.goto 4, 3) := by decide +kernel
theorem dX12_variable_117 : decode cX12_variable 117 = .ok (.iconst 0, 1) := by decide +kernel
theorem dX12_variable_118 : decode cX12_variable 118 = .ok (.ireturn, 1) := by decide +kernel
theorem dX12_variable_119 : decode cX12_variable 119 = .ok (.iload_n 2, 1) := by decide +kernel
theorem dX12_variable_120 : decode cX12_variable 120 = .ok (.ifCond .le 16, 3) := by decide +kernel
theorem dX12_variable_123 : decode cX12_variable 123 = .ok (.aload_n 0, 1) := by decide +kernel
theorem dX12_variable_124 : decode cX12_variable 124 = .ok (.getfield 140, 3) := by decide +kernel
theorem dX12_variable_127 : decode cX12_variable 127 = .ok (.iload 5, 2) := by decide +kernel
theorem dX12_variable_129 : decode cX12_variable 129 = .ok (.bipush 10, 2) := by decide +kernel
theorem dX12_variable_131 : decode cX12_variable 131 = .ok (.isub, 1) := by decide +kernel
theorem dX12_variable_132 : decode cX12_variable 132 = .ok (.iaload, 1) := by decide +kernel
theorem dX12_variable_133 : decode cX12_variable 133 = .ok (.goto 4, 3) := by decide +kernel
theorem dX12_variable_136 : decode cX12_variable 136 = .ok (.iconst 0, 1) := by decide +kernel
theorem dX12_variable_137 : decode cX12_variable 137 = .ok (.ireturn, 1) := by decide +kernel
theorem dX12_variable_138 : decode cX12_variable 138 = .ok (.aload_n 0, 1) := by decide +kernel
theorem dX12_variable_139 : decode cX12_variable 139 = .ok (.getfield 140, 3) := by decide +kernel
theorem dX12_variable_142 : decode cX12_variable 142 = .ok (.iload 5, 2) := by decide +kernel
theorem dX12_variable_144 : decode cX12_variable 144 = .ok (.iconst 1, 1) := by decide +kernel
theorem dX12_variable_145 : decode cX12_variable 145 = .ok (.iadd, 1) := by decide +kernel
theorem dX12_variable_146 : decode cX12_variable 146 = .ok (.iaload, 1) := by decide +kernel
theorem dX12_variable_147 : decode cX12_variable 147 = .ok (.ireturn, 1) := by decide +kernel
theorem dX12_variable_148 : decode cX12_variable 148 = .ok (.aload_n 0, 1) := by decide +kernel
theorem dX12_variable_149 : decode cX12_variable 149 = .ok (.getfield 140, 3) := by decide +kernel
theorem dX12_variable_152 : decode cX12_variable 152 = .ok (.iload 5, 2) := by decide +kernel
theorem dX12_variable_154 : decode cX12_variable 154 = .ok (.iconst 2, 1) := by decide +kernel
theorem dX12_variable_155 : decode cX12_variable 155 = .ok (.iadd, 1) := by decide +kernel
theorem dX12_variable_156 : decode cX12_variable 156 = .ok (.iaload, 1) := by decide +kernel
theorem dX12_variable_157 : decode cX12_variable 157 = .ok (.ireturn, 1) := by decide +kernel
theorem dX12_variable_158 : decode cX12_variable 158 = .ok (.iload 4, 2) := by decide +kernel
theorem dX12_variable_160 : decode cX12_variable 160 = .ok (.iconst (-1), 1) := by decide +kernel
theorem dX12_variable_161 : decode cX12_variable 161 = .ok (.if_icmp .eq 8, 3) := by decide +kernel
theorem dX12_variable_164 : decode cX12_variable 164 = .ok (.iload 4, 2) := by decide +kernel
theorem dX12_variable_166 : decode cX12_variable 166 = .ok (.goto 12, 3) := by decide +kernel
theorem dX12_variable_169 : decode cX12_variable 169 = .ok (.aload_n 0, 1) := by decide +kernel
theorem dX12_variable_170 : decode cX12_variable 170 = .ok (.getfield 140, 3) := by decide +kernel
theorem dX12_variable_173 : decode cX12_variable 173 = .ok (.iload 5, 2) := by decide +kernel
theorem dX12_variable_175 : decode cX12_variable 175 = .ok (.iconst 3, 1) := by decide +kernel
theorem dX12_variable_176 : decode cX12_variable 176 = .ok (.iadd, 1) := by decide +kernel
theorem dX12_variable_177 : decode cX12_variable 177 = .ok (.iaload, 1) := by decide +kernel
theorem dX12_variable_178 : decode cX12_variable 178 = .ok (.ireturn, 1) := by decide +kernel
theorem dX12_variable_179 : decode cX12_variable 179 = .ok (.iload_n 3, 1) := by decide +kernel
theorem dX12_variable_180 : decode cX12_variable 180 = .ok (.bipush 24, 2) := by decide +kernel
theorem dX12_variable_182 : decode cX12_variable 182 = .ok (.irem, 1) := by decide +kernel
theorem dX12_variable_183 : decode cX12_variable 183 = .ok (.ireturn, 1) := by decide +kernel
theorem dX12_variable_184 : decode cX12_variable 184 = .ok (.iload_n 3, 1) := by decide +kernel
theorem dX12_variable_185 : decode cX12_variable 185 = .ok (.bipush 24, 2) := by decide +kernel
theorem dX12_variable_187 : decode cX12_variable 187 = .ok (.idiv, 1) := by decide +kernel
theorem dX12_variable_188 : decode cX12_variable 188 = .ok (.ireturn, 1) := by decide +kernel
theorem dX12_variable_189 : decode cX12_variable 189 = .ok (.iload 4, 2) := by decide +kernel
theorem dX12_variable_191 : decode cX12_variable 191 = .ok (.iconst (-1), 1) := by decide +kernel
theorem dX12_variable_192 : decode cX12_variable 192 = .ok (.if_icmp .eq 7, 3) := by decide +kernel
theorem dX12_variable_195 : decode cX12_variable 195 = .ok (.iconst 0, 1) := by decide +kernel
theorem dX12_variable_196 : decode cX12_variable 196 = .ok (.goto 13, 3) := by decide +kernel
theorem dX12_variable_199 : decode cX12_variable 199 = .ok (.aload_n 0, 1) := by decide +kernel
theorem dX12_variable_200 : decode cX12_variable 200 = .ok (.getfield 140, 3) := by decide +kernel
theorem dX12_variable_203 : decode cX12_variable 203 = .ok (.iload 5, 2) := by decide +kernel
theorem dX12_variable_205 : decode cX12_variable 205 = .ok (.bipush 6, 2) := by decide +kernel
theorem dX12_variable_207 : decode cX12_variable 207 = .ok (.iadd, 1) := by decide +kernel
theorem dX12_variable_208 : decode cX12_variable 208 = .ok (.iaload, 1) := by decide +kernel
theorem dX12_variable_209 : decode cX12_variable 209 = .ok (.ireturn, 1) := by decide +kernel
theorem dX12_variable_210 : decode cX12_variable 210 = .ok (.iload 4, 2) := by decide +kernel
theorem dX12_variable_212 : decode cX12_variable 212 = .ok (.iconst (-1), 1) := by decide +kernel
theorem dX12_variable_213 : decode cX12_variable 213 = .ok (.if_icmp .eq 7, 3) := by decide +kernel
theorem dX12_variable_216 : decode cX12_variable 216 = .ok (.iconst 0, 1) := by decide +kernel
theorem dX12_variable_217 : decode cX12_variable 217 = .ok (.goto 13, 3) := by decide +kernel
theorem dX12_variable_220 : decode cX12_variable 220 = .ok (.aload_n 0, 1) := by decide +kernel
theorem dX12_variable_221 : decode cX12_variable 221 = .ok (.getfield 140, 3) := by decide +kernel
theorem dX12_variable_224 : decode cX12_variable 224 = .ok (.iload 5, 2) := by decide +kernel
theorem dX12_variable_226 : decode cX12_variable 226 = .ok (.bipush 9, 2) := by decide +kernel
theorem dX12_variable_228 : decode cX12_variable 228 = .ok (.iadd, 1) := by decide +kernel
theorem dX12_variable_229 : decode cX12_variable 229 = .ok (.iaload, 1) := by decide +kernel
theorem dX12_variable_230 : decode cX12_variable 230 = .ok (.ireturn, 1) := by decide +kernel
theorem dX12_value_0 : decode cX12_value 0 = .ok (.iconst 0, 1) := by decide +kernel
theorem dX12_value_1 : decode cX12_value 1 = .ok (.istore 6, 2) := by decide +kernel
theorem dX12_value_3 : decode cX12_value 3 = .ok (.iload_n 1, 1) := by decide +kernel
theorem dX12_value_4 : decode cX12_value 4 = .ok (.istore 7, 2) := by decide +kernel
theorem dX12_value_6 : decode cX12_value 6 = .ok (.iload 7, 2) := by decide +kernel
theorem dX12_value_8 : decode cX12_value 8 = .ok (.iload_n 2, 1) := by decide +kernel
theorem dX12_value_9 : decode cX12_value 9 = .ok (.if_icmp .ge 177, 3) := by decide +kernel
theorem dX12_value_12 : decode cX12_value 12 = .ok (.aload_n 0, 1) := by decide +kernel
theorem dX12_value_13 : decode cX12_value 13 = .ok (.getfield 86, 3) := by decide +kernel
theorem dX12_value_16 : decode cX12_value 16 = .ok (.iload 7, 2) := by decide +kernel
theorem dX12_value_18 : decode cX12_value 18 = .ok (.iaload, 1) := by decide +kernel
theorem dX12_value_19 : decode cX12_value 19 = .ok (.iconst 2, 1) := by decide +kernel
theorem dX12_value_20 : decode cX12_value 20 = .ok (.if_icmp .ge 52, 3) := by decide +kernel
theorem dX12_value_23 : decode cX12_value 23 = .ok (.aload_n 0, 1) := by decide +kernel
theorem dX12_value_24 : decode cX12_value 24 = .ok (.getfield 158, 3) := by decide +kernel
theorem dX12_value_27 : decode cX12_value 27 = .ok (.iload 6, 2) := by decide +kernel
theorem dX12_value_29 : decode cX12_value 29 = .ok (.aload_n 0, 1) := by decide +kernel
theorem dX12_value_30 : decode cX12_value 30 = .ok (.getfield 86, 3) := by decide +kernel
theorem dX12_value_33 : decode cX12_value 33 = .ok (.iload 7, 2) := by decide +kernel
theorem dX12_value_35 : decode cX12_value 35 = .ok (.iaload, 1) := by decide +kernel
theorem dX12_value_36 : decode cX12_value 36 = .ok (.ifCond .ne 13, 3) := by decide +kernel
theorem dX12_value_39 : decode cX12_value 39 = .ok (.aload_n 0, 1) := by decide +kernel
theorem dX12_value_40 : decode cX12_value 40 = .ok (.getfield 89, 3) := by decide +kernel
theorem dX12_value_43 : decode cX12_value 43 = .ok (.iload 7, 2) := by decide +kernel
theorem dX12_value_45 : decode cX12_value 45 = .ok (.iaload, 1) := by decide +kernel
theorem dX12_value_46 : decode cX12_value 46 = .ok (.goto 19, 3) := by decide +kernel
theorem dX12_value_49 : decode cX12_value 49 = .ok (.aload_n 0, 1) := by decide +kernel
theorem dX12_value_50 : decode cX12_value 50 = .ok (.aload_n 0, 1) := by decide +kernel
theorem dX12_value_51 : decode cX12_value 51 = .ok (.getfield 89, 3) := by decide +kernel
theorem dX12_value_54 : decode cX12_value 54 = .ok (.iload 7, 2) := by decide +kernel
theorem dX12_value_56 : decode cX12_value 56 = .ok (.iaload, 1) := by decide +kernel
theorem dX12_value_57 : decode cX12_value 57 = .ok (.iload_n 3, 1) := by decide +kernel
theorem dX12_value_58 : decode cX12_value 58 = .ok (.iload 4, 2) := by decide +kernel
theorem dX12_value_60 : decode cX12_value 60 = .ok (.iload 5, 2) := by decide +kernel
theorem dX12_value_62 : decode cX12_value 62 = .ok (.invokevirtual 328, 3) := by decide +kernel
theorem dX12_value_65 : decode cX12_value 65 = .ok (.iastore, 1) := by decide +kernel
theorem dX12_value_66 : decode cX12_value 66 = .ok (.iinc 6 1, 3) := by decide +kernel
theorem dX12_value_69 : decode cX12_value 69 = .ok (.goto 111, 3) := by decide +kernel
theorem dX12_value_72 : decode cX12_value 72 = .ok (.aload_n 0, 1) := by decide +kernel
theorem dX12_value_73 : decode cX12_value 73 = .ok (.getfield 86, 3) := by decide +kernel
theorem dX12_value_76 : decode cX12_value 76 = .ok (.iload 7, 2) := by decide +kernel
theorem dX12_value_78 : decode cX12_value 78 = .ok (.iaload, 1) := by decide +kernel
theorem dX12_value_79 : decode cX12_value 79 = .ok (.iconst 5, 1) := by decide +kernel
theorem dX12_value_80 : decode cX12_value 80 = .ok (.if_icmp .ne 25, 3) := by decide +kernel
theorem dX12_value_83 : decode cX12_value 83 = .ok (.aload_n 0, 1) := by decide +kernel
theorem dX12_value_84 : decode cX12_value 84 = .ok (.getfield 158, 3) := by decide +kernel
theorem dX12_value_87 : decode cX12_value 87 = .ok (.iload 6, 2) := by decide +kernel
theorem dX12_value_89 : decode cX12_value 89 = .ok (.iconst 1, 1) := by decide +kernel
theorem dX12_value_90 : decode cX12_value 90 = .ok (.isub, 1) := by decide +kernel
theorem dX12_value_91 : decode cX12_value 91 = .ok (.aload_n 0, 1) := by decide +kernel
theorem dX12_value_92 : decode cX12_value 92 = .ok (.getfield 158, 3) := by decide +kernel
theorem dX12_value_95 : decode cX12_value 95 = .ok (.iload 6, 2) := by decide +kernel
theorem dX12_value_97 : decode cX12_value 97 = .ok (.iconst 1, 1) := by decide +kernel
theorem dX12_value_98 : decode cX12_value 98 = .ok (.isub, 1) := by decide +kernel
theorem dX12_value_99 : decode cX12_value 99 = .ok (.iaload, 1) := by decide +kernel
theorem dX12_value_100 : decode cX12_value 100 = .ok (.ineg, 1) := by decide +kernel
theorem dX12_value_101 : decode cX12_value 101 = .ok (.iastore, 1) := by decide +kernel
theorem dX12_value_102 : decode cX12_value 102 = .ok (.goto 78, 3) := by decide +kernel
theorem dX12_value_105 : decode cX12_value 105 = .ok (.iinc 6 (-1), 3) := by decide +kernel
theorem dX12_value_108 : decode cX12_value 108 = .ok (.aload_n 0, 1) := by decide +kernel
theorem dX12_value_109 : decode cX12_value 109 = .ok (.getfield 158, 3) := by decide +kernel
theorem dX12_value_112 : decode cX12_value 112 = .ok (.iload 6, 2) := by decide +kernel
theorem dX12_value_114 : decode cX12_value 114 = .ok (.iconst 1, 1) := by decide +kernel
theorem dX12_value_115 : decode cX12_value 115 = .ok (.isub, 1) := by decide +kernel
theorem dX12_value_116 : decode cX12_value 116 = .ok (.iaload, 1) := by decide +kernel
theorem dX12_value_117 : decode cX12_value 117 = .ok (.istore 8, 2) := by decide +kernel
theorem dX12_value_119 : decode cX12_value 119 = .ok (.aload_n 0, 1) := by decide +kernel
theorem dX12_value_120 : decode cX12_value 120 = .ok (.getfield 158, 3) := by decide +kernel
theorem dX12_value_123 : decode cX12_value 123 = .ok (.iload 6, 2) := by decide +kernel
theorem dX12_value_125 : decode cX12_value 125 = .ok (.iaload, 1) := by decide +kernel
theorem dX12_value_126 : decode cX12_value 126 = .ok (.istore 9, 2) := by decide +kernel
theorem dX12_value_128 : decode cX12_value 128 = .ok (.aload_n 0, 1) := by decide +kernel
theorem dX12_value_129 : decode cX12_value 129 = .ok (.getfield 158, 3) := by decide +kernel
theorem dX12_value_132 : decode cX12_value 132 = .ok (.iload 6, 2) := by decide +kernel
theorem dX12_value_134 : decode cX12_value 134 = .ok (.iconst 1, 1) := by decide +kernel
theorem dX12_value_135 : decode cX12_value 135 = .ok (.isub, 1) := by decide +kernel
theorem dX12_value_136 : decode cX12_value 136 = .ok (.aload_n 0, 1) := by decide +kernel
theorem dX12_value_137 : decode cX12_value 137 = .ok (.getfield 86, 3) := by decide +kernel
theorem dX12_value_140 : decode cX12_value 140 = .ok (.iload 7, 2) := by decide +kernel
theorem dX12_value_142 : decode cX12_value 142 = .ok (.iaload, 1) := by decide +kernel
theorem dX12_value_143 : decode cX12_value 143 = .ok (.iconst 2, 1) := by decide +kernel
theorem dX12_value_144 : decode cX12_value 144 = .ok (.if_icmp .ne 11, 3) := by decide +kernel
theorem dX12_value_147 : decode cX12_value 147 = .ok (.iload 8, 2) := by decide +kernel
theorem dX12_value_149 : decode cX12_value 149 = .ok (.iload 9, 2) := by decide +kernel
theorem dX12_value_151 : decode cX12_value 151 = .ok (.iadd, 1) := by decide +kernel
theorem dX12_value_152 : decode cX12_value 152 = .ok (.goto 27, 3) := by decide +kernel
theorem dX12_value_155 : decode cX12_value 155 = .ok (.aload_n 0, 1) := by decide +kernel
theorem dX12_value_156 : decode cX12_value 156 = .ok (.getfield 86, 3) := by decide +kernel
theorem dX12_value_159 : decode cX12_value 159 = .ok (.iload 7, 2) := by decide +kernel
theorem dX12_value_161 : decode cX12_value 161 = .ok (.iaload, 1) := by decide +kernel
theorem dX12_value_162 : decode cX12_value 162 = .ok (.iconst 3, 1) := by decide +kernel
theorem dX12_value_163 : decode cX12_value 163 = .ok (.if_icmp .ne 11, 3) := by decide +kernel
theorem dX12_value_166 : decode cX12_value 166 = .ok (.iload 8, 2) := by decide +kernel
theorem dX12_value_168 : decode cX12_value 168 = .ok (.iload 9, 2) := by decide +kernel
theorem dX12_value_170 : decode cX12_value 170 = .ok (.isub, 1) := by decide +kernel
theorem dX12_value_171 : decode cX12_value 171 = .ok (.goto 8, 3) := by decide +kernel
theorem dX12_value_174 : decode cX12_value 174 = .ok (.iload 8, 2) := by decide +kernel
theorem dX12_value_176 : decode cX12_value 176 = .ok (.iload 9, 2) := by decide +kernel
theorem dX12_value_178 : decode cX12_value 178 = .ok (.imul, 1) := by decide +kernel
theorem dX12_value_179 : decode cX12_value 179 = .ok (.iastore, 1) := by decide +kernel
theorem dX12_value_180 : decode cX12_value 180 = .ok (.iinc 7 1, 3) := by decide +kernel
theorem dX12_value_183 : decode cX12_value 183 = .ok (.goto (-177), 3) := by decide +kernel
theorem dX12_value_186 : decode cX12_value 186 = .ok (.aload_n 0, 1) := by decide +kernel
theorem dX12_value_187 : decode cX12_value 187 = .ok (.getfield 158, 3) := by decide +kernel
theorem dX12_value_190 : decode cX12_value 190 = .ok (.iconst 0, 1) := by decide +kernel
theorem dX12_value_191 : decode cX12_value 191 = .ok (.iaload, 1) := by decide +kernel
theorem dX12_value_192 : decode cX12_value 192 = .ok (.ireturn, 1) := by decide +kernel
theorem dX12_holds_0 : decode cX12_holds 0 = .ok (.iconst 0, 1) := by decide +kernel
theorem dX12_holds_1 : decode cX12_holds 1 = .ok (.istore 6, 2) := by decide +kernel
theorem dX12_holds_3 : decode cX12_holds 3 = .ok (.iload_n 1, 1) := by decide +kernel
theorem dX12_holds_4 : decode cX12_holds 4 = .ok (.istore 7, 2) := by decide +kernel
theorem dX12_holds_6 : decode cX12_holds 6 = .ok (.iload 7, 2) := by decide +kernel
theorem dX12_holds_8 : decode cX12_holds 8 = .ok (.iload_n 2, 1) := by decide +kernel
theorem dX12_holds_9 : decode cX12_holds 9 = .ok (.if_icmp .ge 188, 3) := by decide +kernel
theorem dX12_holds_12 : decode cX12_holds 12 = .ok (.aload_n 0, 1) := by decide +kernel
theorem dX12_holds_13 : decode cX12_holds 13 = .ok (.getfield 83, 3) := by decide +kernel
theorem dX12_holds_16 : decode cX12_holds 16 = .ok (.iload 7, 2) := by decide +kernel
theorem dX12_holds_18 : decode cX12_holds 18 = .ok (.baload, 1) := by decide +kernel
theorem dX12_holds_19 : decode cX12_holds 19 = .ok (.ifCond .eq 10, 3) := by decide +kernel
theorem dX12_holds_22 : decode cX12_holds 22 = .ok (.iload 6, 2) := by decide +kernel
theorem dX12_holds_24 : decode cX12_holds 24 = .ok (.ifCond .eq 5, 3) := by decide +kernel
theorem dX12_holds_27 : decode cX12_holds 27 = .ok (.iconst 1, 1) := by decide +kernel
theorem dX12_holds_28 : decode cX12_holds 28 = .ok (.ireturn, 1) := by decide +kernel
theorem dX12_holds_29 : decode cX12_holds 29 = .ok (.aload_n 0, 1) := by decide +kernel
theorem dX12_holds_30 : decode cX12_holds 30 = .ok (.getfield 83, 3) := by decide +kernel
theorem dX12_holds_33 : decode cX12_holds 33 = .ok (.iload 7, 2) := by decide +kernel
theorem dX12_holds_35 : decode cX12_holds 35 = .ok (.baload, 1) := by decide +kernel
theorem dX12_holds_36 : decode cX12_holds 36 = .ok (.ifCond .eq 6, 3) := by decide +kernel
theorem dX12_holds_39 : decode cX12_holds 39 = .ok (.iconst 1, 1) := by decide +kernel
theorem dX12_holds_40 : decode cX12_holds 40 = .ok (.istore 6, 2) := by decide +kernel
theorem dX12_holds_42 : decode cX12_holds 42 = .ok (.iload 6, 2) := by decide +kernel
theorem dX12_holds_44 : decode cX12_holds 44 = .ok (.ifCond .ne 6, 3) := by decide +kernel
theorem dX12_holds_47 : decode cX12_holds 47 = .ok (.goto 144, 3) := by decide +kernel
theorem dX12_holds_50 : decode cX12_holds 50 = .ok (.aload_n 0, 1) := by decide +kernel
theorem dX12_holds_51 : decode cX12_holds 51 = .ok (.aload_n 0, 1) := by decide +kernel
theorem dX12_holds_52 : decode cX12_holds 52 = .ok (.getfield 74, 3) := by decide +kernel
theorem dX12_holds_55 : decode cX12_holds 55 = .ok (.iload 7, 2) := by decide +kernel
theorem dX12_holds_57 : decode cX12_holds 57 = .ok (.iaload, 1) := by decide +kernel
theorem dX12_holds_58 : decode cX12_holds 58 = .ok (.aload_n 0, 1) := by decide +kernel
theorem dX12_holds_59 : decode cX12_holds 59 = .ok (.getfield 77, 3) := by decide +kernel
theorem dX12_holds_62 : decode cX12_holds 62 = .ok (.iload 7, 2) := by decide +kernel
theorem dX12_holds_64 : decode cX12_holds 64 = .ok (.iaload, 1) := by decide +kernel
theorem dX12_holds_65 : decode cX12_holds 65 = .ok (.iload_n 3, 1) := by decide +kernel
theorem dX12_holds_66 : decode cX12_holds 66 = .ok (.iload 4, 2) := by decide +kernel
theorem dX12_holds_68 : decode cX12_holds 68 = .ok (.iload 5, 2) := by decide +kernel
theorem dX12_holds_70 : decode cX12_holds 70 = .ok (.invokevirtual 332, 3) := by decide +kernel
theorem dX12_holds_73 : decode cX12_holds 73 = .ok (.istore 8, 2) := by decide +kernel
theorem dX12_holds_75 : decode cX12_holds 75 = .ok (.aload_n 0, 1) := by decide +kernel
theorem dX12_holds_76 : decode cX12_holds 76 = .ok (.aload_n 0, 1) := by decide +kernel
theorem dX12_holds_77 : decode cX12_holds 77 = .ok (.getfield 77, 3) := by decide +kernel
theorem dX12_holds_80 : decode cX12_holds 80 = .ok (.iload 7, 2) := by decide +kernel
theorem dX12_holds_82 : decode cX12_holds 82 = .ok (.iaload, 1) := by decide +kernel
theorem dX12_holds_83 : decode cX12_holds 83 = .ok (.aload_n 0, 1) := by decide +kernel
theorem dX12_holds_84 : decode cX12_holds 84 = .ok (.getfield 80, 3) := by decide +kernel
theorem dX12_holds_87 : decode cX12_holds 87 = .ok (.iload 7, 2) := by decide +kernel
theorem dX12_holds_89 : decode cX12_holds 89 = .ok (.iaload, 1) := by decide +kernel
theorem dX12_holds_90 : decode cX12_holds 90 = .ok (.iload_n 3, 1) := by decide +kernel
theorem dX12_holds_91 : decode cX12_holds 91 = .ok (.iload 4, 2) := by decide +kernel
theorem dX12_holds_93 : decode cX12_holds 93 = .ok (.iload 5, 2) := by decide +kernel
theorem dX12_holds_95 : decode cX12_holds 95 = .ok (.invokevirtual 332, 3) := by decide +kernel
theorem dX12_holds_98 : decode cX12_holds 98 = .ok (.istore 9, 2) := by decide +kernel
theorem dX12_holds_100 : decode cX12_holds 100 = .ok (.aload_n 0, 1) := by decide +kernel
theorem dX12_holds_101 : decode cX12_holds 101 = .ok (.getfield 71, 3) := by decide +kernel
theorem dX12_holds_104 : decode cX12_holds 104 = .ok (.iload 7, 2) := by decide +kernel
theorem dX12_holds_106 : decode cX12_holds 106 = .ok (.iaload, 1) := by decide +kernel
theorem dX12_holds_107 : decode cX12_holds 107 = .ok (.ifCond .ne 18, 3) := by decide +kernel
theorem dX12_holds_110 : decode cX12_holds 110 = .ok (.iload 8, 2) := by decide +kernel
theorem dX12_holds_112 : decode cX12_holds 112 = .ok (.iload 9, 2) := by decide +kernel
theorem dX12_holds_114 : decode cX12_holds 114 = .ok (.if_icmp .ne 7, 3) := by decide +kernel
theorem dX12_holds_117 : decode cX12_holds 117 = .ok (.iconst 1, 1) := by decide +kernel
theorem dX12_holds_118 : decode cX12_holds 118 = .ok (.goto 71, 3) := by decide +kernel
theorem dX12_holds_121 : decode cX12_holds 121 = .ok (.iconst 0, 1) := by decide +kernel
theorem dX12_holds_122 : decode cX12_holds 122 = .ok (.goto 67, 3) := by decide +kernel
theorem dX12_holds_125 : decode cX12_holds 125 = .ok (.aload_n 0, 1) := by decide +kernel
theorem dX12_holds_126 : decode cX12_holds 126 = .ok (.getfield 71, 3) := by decide +kernel
theorem dX12_holds_129 : decode cX12_holds 129 = .ok (.iload 7, 2) := by decide +kernel
theorem dX12_holds_131 : decode cX12_holds 131 = .ok (.iaload, 1) := by decide +kernel
theorem dX12_holds_132 : decode cX12_holds 132 = .ok (.iconst 1, 1) := by decide +kernel
theorem dX12_holds_133 : decode cX12_holds 133 = .ok (.if_icmp .ne 18, 3) := by decide +kernel
theorem dX12_holds_136 : decode cX12_holds 136 = .ok (.iload 8, 2) := by decide +kernel
theorem dX12_holds_138 : decode cX12_holds 138 = .ok (.iload 9, 2) := by decide +kernel
theorem dX12_holds_140 : decode cX12_holds 140 = .ok (.if_icmp .eq 7, 3) := by decide +kernel
theorem dX12_holds_143 : decode cX12_holds 143 = .ok (.iconst 1, 1) := by decide +kernel
theorem dX12_holds_144 : decode cX12_holds 144 = .ok (.goto 45, 3) := by decide +kernel
theorem dX12_holds_147 : decode cX12_holds 147 = .ok (.iconst 0, 1) := by decide +kernel
theorem dX12_holds_148 : decode cX12_holds 148 = .ok (.goto 41, 3) := by decide +kernel
theorem dX12_holds_151 : decode cX12_holds 151 = .ok (.aload_n 0, 1) := by decide +kernel
theorem dX12_holds_152 : decode cX12_holds 152 = .ok (.getfield 71, 3) := by decide +kernel
theorem dX12_holds_155 : decode cX12_holds 155 = .ok (.iload 7, 2) := by decide +kernel
theorem dX12_holds_157 : decode cX12_holds 157 = .ok (.iaload, 1) := by decide +kernel
theorem dX12_holds_158 : decode cX12_holds 158 = .ok (.iconst 2, 1) := by decide +kernel
theorem dX12_holds_159 : decode cX12_holds 159 = .ok (.if_icmp .ne 18, 3) := by decide +kernel
theorem dX12_holds_162 : decode cX12_holds 162 = .ok (.iload 8, 2) := by decide +kernel
theorem dX12_holds_164 : decode cX12_holds 164 = .ok (.iload 9, 2) := by decide +kernel
theorem dX12_holds_166 : decode cX12_holds 166 = .ok (.if_icmp .ge 7, 3) := by decide +kernel
theorem dX12_holds_169 : decode cX12_holds 169 = .ok (.iconst 1, 1) := by decide +kernel
theorem dX12_holds_170 : decode cX12_holds 170 = .ok (.goto 19, 3) := by decide +kernel
theorem dX12_holds_173 : decode cX12_holds 173 = .ok (.iconst 0, 1) := by decide +kernel
theorem dX12_holds_174 : decode cX12_holds 174 = .ok (.goto 15, 3) := by decide +kernel
theorem dX12_holds_177 : decode cX12_holds 177 = .ok (.iload 8, 2) := by decide +kernel
theorem dX12_holds_179 : decode cX12_holds 179 = .ok (.iload 9, 2) := by decide +kernel
theorem dX12_holds_181 : decode cX12_holds 181 = .ok (.if_icmp .gt 7, 3) := by decide +kernel
theorem dX12_holds_184 : decode cX12_holds 184 = .ok (.iconst 1, 1) := by decide +kernel
theorem dX12_holds_185 : decode cX12_holds 185 = .ok (.goto 4, 3) := by decide +kernel
theorem dX12_holds_188 : decode cX12_holds 188 = .ok (.iconst 0, 1) := by decide +kernel
theorem dX12_holds_189 : decode cX12_holds 189 = .ok (.istore 6, 2) := by decide +kernel
theorem dX12_holds_191 : decode cX12_holds 191 = .ok (.iinc 7 1, 3) := by decide +kernel
theorem dX12_holds_194 : decode cX12_holds 194 = .ok (.goto (-188), 3) := by decide +kernel
theorem dX12_holds_197 : decode cX12_holds 197 = .ok (.iload 6, 2) := by decide +kernel
theorem dX12_holds_199 : decode cX12_holds 199 = .ok (.ireturn, 1) := by decide +kernel
theorem dX12_counts_0 : decode cX12_counts 0 = .ok (.aload_n 0, 1) := by decide +kernel
theorem dX12_counts_1 : decode cX12_counts 1 = .ok (.getfield 52, 3) := by decide +kernel
theorem dX12_counts_4 : decode cX12_counts 4 = .ok (.iload_n 1, 1) := by decide +kernel
theorem dX12_counts_5 : decode cX12_counts 5 = .ok (.iaload, 1) := by decide +kernel
theorem dX12_counts_6 : decode cX12_counts 6 = .ok (.iconst (-1), 1) := by decide +kernel
theorem dX12_counts_7 : decode cX12_counts 7 = .ok (.if_icmp .eq 15, 3) := by decide +kernel
theorem dX12_counts_10 : decode cX12_counts 10 = .ok (.aload_n 0, 1) := by decide +kernel
theorem dX12_counts_11 : decode cX12_counts 11 = .ok (.getfield 52, 3) := by decide +kernel
theorem dX12_counts_14 : decode cX12_counts 14 = .ok (.iload_n 1, 1) := by decide +kernel
theorem dX12_counts_15 : decode cX12_counts 15 = .ok (.iaload, 1) := by decide +kernel
theorem dX12_counts_16 : decode cX12_counts 16 = .ok (.iload_n 2, 1) := by decide +kernel
theorem dX12_counts_17 : decode cX12_counts 17 = .ok (.if_icmp .eq 5, 3) := by decide +kernel
theorem dX12_counts_20 : decode cX12_counts 20 = .ok (.iconst 0, 1) := by decide +kernel
theorem dX12_counts_21 : decode cX12_counts 21 = .ok (.ireturn, 1) := by decide +kernel
theorem dX12_counts_22 : decode cX12_counts 22 = .ok (.iload_n 3, 1) := by decide +kernel
theorem dX12_counts_23 : decode cX12_counts 23 = .ok (.bipush 24, 2) := by decide +kernel
theorem dX12_counts_25 : decode cX12_counts 25 = .ok (.idiv, 1) := by decide +kernel
theorem dX12_counts_26 : decode cX12_counts 26 = .ok (.istore 5, 2) := by decide +kernel
theorem dX12_counts_28 : decode cX12_counts 28 = .ok (.iload 5, 2) := by decide +kernel
theorem dX12_counts_30 : decode cX12_counts 30 = .ok (.aload_n 0, 1) := by decide +kernel
theorem dX12_counts_31 : decode cX12_counts 31 = .ok (.getfield 43, 3) := by decide +kernel
theorem dX12_counts_34 : decode cX12_counts 34 = .ok (.aload_n 0, 1) := by decide +kernel
theorem dX12_counts_35 : decode cX12_counts 35 = .ok (.getfield 49, 3) := by decide +kernel
theorem dX12_counts_38 : decode cX12_counts 38 = .ok (.iload_n 1, 1) := by decide +kernel
theorem dX12_counts_39 : decode cX12_counts 39 = .ok (.iaload, 1) := by decide +kernel
theorem dX12_counts_40 : decode cX12_counts 40 = .ok (.iaload, 1) := by decide +kernel
theorem dX12_counts_41 : decode cX12_counts 41 = .ok (.if_icmp .lt 34, 3) := by decide +kernel
theorem dX12_counts_44 : decode cX12_counts 44 = .ok (.aload_n 0, 1) := by decide +kernel
theorem dX12_counts_45 : decode cX12_counts 45 = .ok (.getfield 46, 3) := by decide +kernel
theorem dX12_counts_48 : decode cX12_counts 48 = .ok (.aload_n 0, 1) := by decide +kernel
theorem dX12_counts_49 : decode cX12_counts 49 = .ok (.getfield 49, 3) := by decide +kernel
theorem dX12_counts_52 : decode cX12_counts 52 = .ok (.iload_n 1, 1) := by decide +kernel
theorem dX12_counts_53 : decode cX12_counts 53 = .ok (.iaload, 1) := by decide +kernel
theorem dX12_counts_54 : decode cX12_counts 54 = .ok (.iaload, 1) := by decide +kernel
theorem dX12_counts_55 : decode cX12_counts 55 = .ok (.iconst (-1), 1) := by decide +kernel
theorem dX12_counts_56 : decode cX12_counts 56 = .ok (.if_icmp .eq 21, 3) := by decide +kernel
theorem dX12_counts_59 : decode cX12_counts 59 = .ok (.iload 5, 2) := by decide +kernel
theorem dX12_counts_61 : decode cX12_counts 61 = .ok (.aload_n 0, 1) := by decide +kernel
theorem dX12_counts_62 : decode cX12_counts 62 = .ok (.getfield 46, 3) := by decide +kernel
theorem dX12_counts_65 : decode cX12_counts 65 = .ok (.aload_n 0, 1) := by decide +kernel
theorem dX12_counts_66 : decode cX12_counts 66 = .ok (.getfield 49, 3) := by decide +kernel
theorem dX12_counts_69 : decode cX12_counts 69 = .ok (.iload_n 1, 1) := by decide +kernel
theorem dX12_counts_70 : decode cX12_counts 70 = .ok (.iaload, 1) := by decide +kernel
theorem dX12_counts_71 : decode cX12_counts 71 = .ok (.iaload, 1) := by decide +kernel
theorem dX12_counts_72 : decode cX12_counts 72 = .ok (.if_icmp .lt 5, 3) := by decide +kernel
theorem dX12_counts_75 : decode cX12_counts 75 = .ok (.iconst 0, 1) := by decide +kernel
theorem dX12_counts_76 : decode cX12_counts 76 = .ok (.ireturn, 1) := by decide +kernel
theorem dX12_counts_77 : decode cX12_counts 77 = .ok (.aload_n 0, 1) := by decide +kernel
theorem dX12_counts_78 : decode cX12_counts 78 = .ok (.getfield 65, 3) := by decide +kernel
theorem dX12_counts_81 : decode cX12_counts 81 = .ok (.iload_n 1, 1) := by decide +kernel
theorem dX12_counts_82 : decode cX12_counts 82 = .ok (.iaload, 1) := by decide +kernel
theorem dX12_counts_83 : decode cX12_counts 83 = .ok (.aload_n 0, 1) := by decide +kernel
theorem dX12_counts_84 : decode cX12_counts 84 = .ok (.getfield 68, 3) := by decide +kernel
theorem dX12_counts_87 : decode cX12_counts 87 = .ok (.iload_n 1, 1) := by decide +kernel
theorem dX12_counts_88 : decode cX12_counts 88 = .ok (.iaload, 1) := by decide +kernel
theorem dX12_counts_89 : decode cX12_counts 89 = .ok (.if_icmp .eq 26, 3) := by decide +kernel
theorem dX12_counts_92 : decode cX12_counts 92 = .ok (.aload_n 0, 1) := by decide +kernel
theorem dX12_counts_93 : decode cX12_counts 93 = .ok (.aload_n 0, 1) := by decide +kernel
theorem dX12_counts_94 : decode cX12_counts 94 = .ok (.getfield 65, 3) := by decide +kernel
theorem dX12_counts_97 : decode cX12_counts 97 = .ok (.iload_n 1, 1) := by decide +kernel
theorem dX12_counts_98 : decode cX12_counts 98 = .ok (.iaload, 1) := by decide +kernel
theorem dX12_counts_99 : decode cX12_counts 99 = .ok (.aload_n 0, 1) := by decide +kernel
theorem dX12_counts_100 : decode cX12_counts 100 = .ok (.getfield 68, 3) := by decide +kernel
theorem dX12_counts_103 : decode cX12_counts 103 = .ok (.iload_n 1, 1) := by decide +kernel
theorem dX12_counts_104 : decode cX12_counts 104 = .ok (.iaload, 1) := by decide +kernel
theorem dX12_counts_105 : decode cX12_counts 105 = .ok (.iload_n 2, 1) := by decide +kernel
theorem dX12_counts_106 : decode cX12_counts 106 = .ok (.iload_n 3, 1) := by decide +kernel
theorem dX12_counts_107 : decode cX12_counts 107 = .ok (.iload 4, 2) := by decide +kernel
theorem dX12_counts_109 : decode cX12_counts 109 = .ok (.invokevirtual 336, 3) := by decide +kernel
theorem dX12_counts_112 : decode cX12_counts 112 = .ok (.ifCond .eq 7, 3) := by decide +kernel
theorem dX12_counts_115 : decode cX12_counts 115 = .ok (.iconst 1, 1) := by decide +kernel
theorem dX12_counts_116 : decode cX12_counts 116 = .ok (.goto 4, 3) := by decide +kernel
theorem dX12_counts_119 : decode cX12_counts 119 = .ok (.iconst 0, 1) := by decide +kernel
theorem dX12_counts_120 : decode cX12_counts 120 = .ok (.ireturn, 1) := by decide +kernel
theorem dX12_factorOf_0 : decode cX12_factorOf 0 = .ok (.iload_n 1, 1) := by decide +kernel
theorem dX12_factorOf_1 : decode cX12_factorOf 1 = .ok (.ifCond .gt 5, 3) := by decide +kernel
theorem dX12_factorOf_4 : decode cX12_factorOf 4 = .ok (.iconst 0, 1) := by decide +kernel
theorem dX12_factorOf_5 : decode cX12_factorOf 5 = .ok (.ireturn, 1) := by decide +kernel
theorem dX12_factorOf_6 : decode cX12_factorOf 6 = .ok (.aload_n 0, 1) := by decide +kernel
theorem dX12_factorOf_7 : decode cX12_factorOf 7 = .ok (.getfield 186, 3) := by decide +kernel
theorem dX12_factorOf_10 : decode cX12_factorOf 10 = .ok (.iconst (-1), 1) := by decide +kernel
theorem dX12_factorOf_11 : decode cX12_factorOf 11 = .ok (.if_icmp .ne 5, 3) := by decide +kernel
theorem dX12_factorOf_14 : decode cX12_factorOf 14 = .ok (.iconst 1, 1) := by decide +kernel
theorem dX12_factorOf_15 : decode cX12_factorOf 15 = .ok (.ireturn, 1) := by decide +kernel
theorem dX12_factorOf_16 : decode cX12_factorOf 16 = .ok (.aload_n 0, 1) := by decide +kernel
theorem dX12_factorOf_17 : decode cX12_factorOf 17 = .ok (.getfield 107, 3) := by decide +kernel
theorem dX12_factorOf_20 : decode cX12_factorOf 20 = .ok (.iload_n 1, 1) := by decide +kernel
theorem dX12_factorOf_21 : decode cX12_factorOf 21 = .ok (.bipush 10, 2) := by decide +kernel
theorem dX12_factorOf_23 : decode cX12_factorOf 23 = .ok (.idiv, 1) := by decide +kernel
theorem dX12_factorOf_24 : decode cX12_factorOf 24 = .ok (.aload_n 0, 1) := by decide +kernel
theorem dX12_factorOf_25 : decode cX12_factorOf 25 = .ok (.getfield 186, 3) := by decide +kernel
theorem dX12_factorOf_28 : decode cX12_factorOf 28 = .ok (.if_icmp .ge 10, 3) := by decide +kernel
theorem dX12_factorOf_31 : decode cX12_factorOf 31 = .ok (.iload_n 1, 1) := by decide +kernel
theorem dX12_factorOf_32 : decode cX12_factorOf 32 = .ok (.bipush 10, 2) := by decide +kernel
theorem dX12_factorOf_34 : decode cX12_factorOf 34 = .ok (.idiv, 1) := by decide +kernel
theorem dX12_factorOf_35 : decode cX12_factorOf 35 = .ok (.goto 9, 3) := by decide +kernel
theorem dX12_factorOf_38 : decode cX12_factorOf 38 = .ok (.aload_n 0, 1) := by decide +kernel
theorem dX12_factorOf_39 : decode cX12_factorOf 39 = .ok (.getfield 186, 3) := by decide +kernel
theorem dX12_factorOf_42 : decode cX12_factorOf 42 = .ok (.iconst 1, 1) := by decide +kernel
theorem dX12_factorOf_43 : decode cX12_factorOf 43 = .ok (.isub, 1) := by decide +kernel
theorem dX12_factorOf_44 : decode cX12_factorOf 44 = .ok (.iaload, 1) := by decide +kernel
theorem dX12_factorOf_45 : decode cX12_factorOf 45 = .ok (.ireturn, 1) := by decide +kernel
theorem dX12_steps_0 : decode cX12_steps 0 = .ok (.iconst 0, 1) := by decide +kernel
theorem dX12_steps_1 : decode cX12_steps 1 = .ok (.istore 4, 2) := by decide +kernel
theorem dX12_steps_3 : decode cX12_steps 3 = .ok (.iload 4, 2) := by decide +kernel
theorem dX12_steps_5 : decode cX12_steps 5 = .ok (.aload_n 0, 1) := by decide +kernel
theorem dX12_steps_6 : decode cX12_steps 6 = .ok (.getfield 307, 3) := by decide +kernel
theorem dX12_steps_9 : decode cX12_steps 9 = .ok (.if_icmp .ge 111, 3) := by decide +kernel
theorem dX12_steps_12 : decode cX12_steps 12 = .ok (.bipush 10, 2) := by decide +kernel
theorem dX12_steps_14 : decode cX12_steps 14 = .ok (.bipush 7, 2) := by decide +kernel
theorem dX12_steps_16 : decode cX12_steps 16 = .ok (.iload_n 1, 1) := by decide +kernel
theorem dX12_steps_17 : decode cX12_steps 17 = .ok (.imul, 1) := by decide +kernel
theorem dX12_steps_18 : decode cX12_steps 18 = .ok (.iload 4, 2) := by decide +kernel
theorem dX12_steps_20 : decode cX12_steps 20 = .ok (.iadd, 1) := by decide +kernel
theorem dX12_steps_21 : decode cX12_steps 21 = .ok (.imul, 1) := by decide +kernel
theorem dX12_steps_22 : decode cX12_steps 22 = .ok (.istore 5, 2) := by decide +kernel
theorem dX12_steps_24 : decode cX12_steps 24 = .ok (.iload 4, 2) := by decide +kernel
theorem dX12_steps_26 : decode cX12_steps 26 = .ok (.ifCond .ne 10, 3) := by decide +kernel
theorem dX12_steps_29 : decode cX12_steps 29 = .ok (.aload_n 0, 1) := by decide +kernel
theorem dX12_steps_30 : decode cX12_steps 30 = .ok (.getfield 313, 3) := by decide +kernel
theorem dX12_steps_33 : decode cX12_steps 33 = .ok (.goto 24, 3) := by decide +kernel
theorem dX12_steps_36 : decode cX12_steps 36 = .ok (.iload_n 1, 1) := by decide +kernel
theorem dX12_steps_37 : decode cX12_steps 37 = .ok (.ifCond .ne 7, 3) := by decide +kernel
theorem dX12_steps_40 : decode cX12_steps 40 = .ok (.iconst 0, 1) := by decide +kernel
theorem dX12_steps_41 : decode cX12_steps 41 = .ok (.goto 16, 3) := by decide +kernel
theorem dX12_steps_44 : decode cX12_steps 44 = .ok (.aload_n 0, 1) := by decide +kernel
theorem dX12_steps_45 : decode cX12_steps 45 = .ok (.getfield 140, 3) := by decide +kernel
theorem dX12_steps_48 : decode cX12_steps 48 = .ok (.iload 5, 2) := by decide +kernel
theorem dX12_steps_50 : decode cX12_steps 50 = .ok (.bipush 80, 2) := by decide +kernel
theorem dX12_steps_52 : decode cX12_steps 52 = .ok (.isub, 1) := by decide +kernel
theorem dX12_steps_53 : decode cX12_steps 53 = .ok (.bipush 9, 2) := by decide +kernel
theorem dX12_steps_55 : decode cX12_steps 55 = .ok (.iadd, 1) := by decide +kernel
theorem dX12_steps_56 : decode cX12_steps 56 = .ok (.iaload, 1) := by decide +kernel
theorem dX12_steps_57 : decode cX12_steps 57 = .ok (.istore 6, 2) := by decide +kernel
theorem dX12_steps_59 : decode cX12_steps 59 = .ok (.aload_n 0, 1) := by decide +kernel
theorem dX12_steps_60 : decode cX12_steps 60 = .ok (.getfield 140, 3) := by decide +kernel
theorem dX12_steps_63 : decode cX12_steps 63 = .ok (.iload 5, 2) := by decide +kernel
theorem dX12_steps_65 : decode cX12_steps 65 = .ok (.iconst 1, 1) := by decide +kernel
theorem dX12_steps_66 : decode cX12_steps 66 = .ok (.iadd, 1) := by decide +kernel
theorem dX12_steps_67 : decode cX12_steps 67 = .ok (.iload 6, 2) := by decide +kernel
theorem dX12_steps_69 : decode cX12_steps 69 = .ok (.aload_n 0, 1) := by decide +kernel
theorem dX12_steps_70 : decode cX12_steps 70 = .ok (.getfield 149, 3) := by decide +kernel
theorem dX12_steps_73 : decode cX12_steps 73 = .ok (.bipush 7, 2) := by decide +kernel
theorem dX12_steps_75 : decode cX12_steps 75 = .ok (.iload_n 1, 1) := by decide +kernel
theorem dX12_steps_76 : decode cX12_steps 76 = .ok (.imul, 1) := by decide +kernel
theorem dX12_steps_77 : decode cX12_steps 77 = .ok (.iload 4, 2) := by decide +kernel
theorem dX12_steps_79 : decode cX12_steps 79 = .ok (.iadd, 1) := by decide +kernel
theorem dX12_steps_80 : decode cX12_steps 80 = .ok (.iaload, 1) := by decide +kernel
theorem dX12_steps_81 : decode cX12_steps 81 = .ok (.iadd, 1) := by decide +kernel
theorem dX12_steps_82 : decode cX12_steps 82 = .ok (.iastore, 1) := by decide +kernel
theorem dX12_steps_83 : decode cX12_steps 83 = .ok (.aload_n 0, 1) := by decide +kernel
theorem dX12_steps_84 : decode cX12_steps 84 = .ok (.getfield 140, 3) := by decide +kernel
theorem dX12_steps_87 : decode cX12_steps 87 = .ok (.iload 5, 2) := by decide +kernel
theorem dX12_steps_89 : decode cX12_steps 89 = .ok (.iconst 2, 1) := by decide +kernel
theorem dX12_steps_90 : decode cX12_steps 90 = .ok (.iadd, 1) := by decide +kernel
theorem dX12_steps_91 : decode cX12_steps 91 = .ok (.iload 4, 2) := by decide +kernel
theorem dX12_steps_93 : decode cX12_steps 93 = .ok (.iload_n 2, 1) := by decide +kernel
theorem dX12_steps_94 : decode cX12_steps 94 = .ok (.if_icmp .ne 7, 3) := by decide +kernel
theorem dX12_steps_97 : decode cX12_steps 97 = .ok (.iload_n 3, 1) := by decide +kernel
theorem dX12_steps_98 : decode cX12_steps 98 = .ok (.goto 15, 3) := by decide +kernel
theorem dX12_steps_101 : decode cX12_steps 101 = .ok (.aload_n 0, 1) := by decide +kernel
theorem dX12_steps_102 : decode cX12_steps 102 = .ok (.getfield 152, 3) := by decide +kernel
theorem dX12_steps_105 : decode cX12_steps 105 = .ok (.bipush 14, 2) := by decide +kernel
theorem dX12_steps_107 : decode cX12_steps 107 = .ok (.iload_n 1, 1) := by decide +kernel
theorem dX12_steps_108 : decode cX12_steps 108 = .ok (.imul, 1) := by decide +kernel
theorem dX12_steps_109 : decode cX12_steps 109 = .ok (.iload 4, 2) := by decide +kernel
theorem dX12_steps_111 : decode cX12_steps 111 = .ok (.iadd, 1) := by decide +kernel
theorem dX12_steps_112 : decode cX12_steps 112 = .ok (.iaload, 1) := by decide +kernel
theorem dX12_steps_113 : decode cX12_steps 113 = .ok (.iastore, 1) := by decide +kernel
theorem dX12_steps_114 : decode cX12_steps 114 = .ok (.iinc 4 1, 3) := by decide +kernel
theorem dX12_steps_117 : decode cX12_steps 117 = .ok (.goto (-114), 3) := by decide +kernel
theorem dX12_steps_120 : decode cX12_steps 120 = .ok (.iconst 0, 1) := by decide +kernel
theorem dX12_steps_121 : decode cX12_steps 121 = .ok (.istore 4, 2) := by decide +kernel
theorem dX12_steps_123 : decode cX12_steps 123 = .ok (.iload 4, 2) := by decide +kernel
theorem dX12_steps_125 : decode cX12_steps 125 = .ok (.aload_n 0, 1) := by decide +kernel
theorem dX12_steps_126 : decode cX12_steps 126 = .ok (.getfield 307, 3) := by decide +kernel
theorem dX12_steps_129 : decode cX12_steps 129 = .ok (.if_icmp .ge 427, 3) := by decide +kernel
theorem dX12_steps_132 : decode cX12_steps 132 = .ok (.bipush 10, 2) := by decide +kernel
theorem dX12_steps_134 : decode cX12_steps 134 = .ok (.bipush 7, 2) := by decide +kernel
theorem dX12_steps_136 : decode cX12_steps 136 = .ok (.iload_n 1, 1) := by decide +kernel
theorem dX12_steps_137 : decode cX12_steps 137 = .ok (.imul, 1) := by decide +kernel
theorem dX12_steps_138 : decode cX12_steps 138 = .ok (.iload 4, 2) := by decide +kernel
theorem dX12_steps_140 : decode cX12_steps 140 = .ok (.iadd, 1) := by decide +kernel
theorem dX12_steps_141 : decode cX12_steps 141 = .ok (.imul, 1) := by decide +kernel
theorem dX12_steps_142 : decode cX12_steps 142 = .ok (.istore 5, 2) := by decide +kernel
theorem dX12_steps_144 : decode cX12_steps 144 = .ok (.aload_n 0, 1) := by decide +kernel
theorem dX12_steps_145 : decode cX12_steps 145 = .ok (.getfield 152, 3) := by decide +kernel
theorem dX12_steps_148 : decode cX12_steps 148 = .ok (.bipush 14, 2) := by decide +kernel
theorem dX12_steps_150 : decode cX12_steps 150 = .ok (.iload_n 1, 1) := by decide +kernel
theorem dX12_steps_151 : decode cX12_steps 151 = .ok (.imul, 1) := by decide +kernel
theorem dX12_steps_152 : decode cX12_steps 152 = .ok (.bipush 7, 2) := by decide +kernel
theorem dX12_steps_154 : decode cX12_steps 154 = .ok (.iadd, 1) := by decide +kernel
theorem dX12_steps_155 : decode cX12_steps 155 = .ok (.iload 4, 2) := by decide +kernel
theorem dX12_steps_157 : decode cX12_steps 157 = .ok (.iadd, 1) := by decide +kernel
theorem dX12_steps_158 : decode cX12_steps 158 = .ok (.iaload, 1) := by decide +kernel
theorem dX12_steps_159 : decode cX12_steps 159 = .ok (.istore 6, 2) := by decide +kernel
theorem dX12_steps_161 : decode cX12_steps 161 = .ok (.iload 6, 2) := by decide +kernel
theorem dX12_steps_163 : decode cX12_steps 163 = .ok (.istore 7, 2) := by decide +kernel
theorem dX12_steps_165 : decode cX12_steps 165 = .ok (.iconst 0, 1) := by decide +kernel
theorem dX12_steps_166 : decode cX12_steps 166 = .ok (.istore 8, 2) := by decide +kernel
theorem dX12_steps_168 : decode cX12_steps 168 = .ok (.iload 8, 2) := by decide +kernel
theorem dX12_steps_170 : decode cX12_steps 170 = .ok (.aload_n 0, 1) := by decide +kernel
theorem dX12_steps_171 : decode cX12_steps 171 = .ok (.getfield 263, 3) := by decide +kernel
theorem dX12_steps_174 : decode cX12_steps 174 = .ok (.if_icmp .ge 72, 3) := by decide +kernel
theorem dX12_steps_177 : decode cX12_steps 177 = .ok (.aload_n 0, 1) := by decide +kernel
theorem dX12_steps_178 : decode cX12_steps 178 = .ok (.getfield 55, 3) := by decide +kernel
theorem dX12_steps_181 : decode cX12_steps 181 = .ok (.iload 8, 2) := by decide +kernel
theorem dX12_steps_183 : decode cX12_steps 183 = .ok (.baload, 1) := by decide +kernel
theorem dX12_steps_184 : decode cX12_steps 184 = .ok (.ifCond .eq 56, 3) := by decide +kernel
theorem dX12_steps_187 : decode cX12_steps 187 = .ok (.aload_n 0, 1) := by decide +kernel
theorem dX12_steps_188 : decode cX12_steps 188 = .ok (.iload 8, 2) := by decide +kernel
theorem dX12_steps_190 : decode cX12_steps 190 = .ok (.iload 4, 2) := by decide +kernel
theorem dX12_steps_192 : decode cX12_steps 192 = .ok (.iload_n 1, 1) := by decide +kernel
theorem dX12_steps_193 : decode cX12_steps 193 = .ok (.iload 6, 2) := by decide +kernel
theorem dX12_steps_195 : decode cX12_steps 195 = .ok (.invokevirtual 340, 3) := by decide +kernel
theorem dX12_steps_198 : decode cX12_steps 198 = .ok (.ifCond .ne 6, 3) := by decide +kernel
theorem dX12_steps_201 : decode cX12_steps 201 = .ok (.goto 39, 3) := by decide +kernel
theorem dX12_steps_204 : decode cX12_steps 204 = .ok (.aload_n 0, 1) := by decide +kernel
theorem dX12_steps_205 : decode cX12_steps 205 = .ok (.aload_n 0, 1) := by decide +kernel
theorem dX12_steps_206 : decode cX12_steps 206 = .ok (.getfield 59, 3) := by decide +kernel
theorem dX12_steps_209 : decode cX12_steps 209 = .ok (.iload 8, 2) := by decide +kernel
theorem dX12_steps_211 : decode cX12_steps 211 = .ok (.iaload, 1) := by decide +kernel
theorem dX12_steps_212 : decode cX12_steps 212 = .ok (.aload_n 0, 1) := by decide +kernel
theorem dX12_steps_213 : decode cX12_steps 213 = .ok (.getfield 62, 3) := by decide +kernel
theorem dX12_steps_216 : decode cX12_steps 216 = .ok (.iload 8, 2) := by decide +kernel
theorem dX12_steps_218 : decode cX12_steps 218 = .ok (.iaload, 1) := by decide +kernel
theorem dX12_steps_219 : decode cX12_steps 219 = .ok (.iload 4, 2) := by decide +kernel
theorem dX12_steps_221 : decode cX12_steps 221 = .ok (.iload_n 1, 1) := by decide +kernel
theorem dX12_steps_222 : decode cX12_steps 222 = .ok (.iload 6, 2) := by decide +kernel
theorem dX12_steps_224 : decode cX12_steps 224 = .ok (.invokevirtual 332, 3) := by decide +kernel
theorem dX12_steps_227 : decode cX12_steps 227 = .ok (.istore 9, 2) := by decide +kernel
theorem dX12_steps_229 : decode cX12_steps 229 = .ok (.iload 9, 2) := by decide +kernel
theorem dX12_steps_231 : decode cX12_steps 231 = .ok (.iload 7, 2) := by decide +kernel
theorem dX12_steps_233 : decode cX12_steps 233 = .ok (.if_icmp .le 7, 3) := by decide +kernel
theorem dX12_steps_236 : decode cX12_steps 236 = .ok (.iload 9, 2) := by decide +kernel
theorem dX12_steps_238 : decode cX12_steps 238 = .ok (.istore 7, 2) := by decide +kernel
theorem dX12_steps_240 : decode cX12_steps 240 = .ok (.iinc 8 1, 3) := by decide +kernel
theorem dX12_steps_243 : decode cX12_steps 243 = .ok (.goto (-75), 3) := by decide +kernel
theorem dX12_steps_246 : decode cX12_steps 246 = .ok (.iload 7, 2) := by decide +kernel
theorem dX12_steps_248 : decode cX12_steps 248 = .ok (.aload_n 0, 1) := by decide +kernel
theorem dX12_steps_249 : decode cX12_steps 249 = .ok (.getfield 104, 3) := by decide +kernel
theorem dX12_steps_252 : decode cX12_steps 252 = .ok (.iload 4, 2) := by decide +kernel
theorem dX12_steps_254 : decode cX12_steps 254 = .ok (.iaload, 1) := by decide +kernel
theorem dX12_steps_255 : decode cX12_steps 255 = .ok (.if_icmp .le 12, 3) := by decide +kernel
theorem dX12_steps_258 : decode cX12_steps 258 = .ok (.aload_n 0, 1) := by decide +kernel
theorem dX12_steps_259 : decode cX12_steps 259 = .ok (.getfield 104, 3) := by decide +kernel
theorem dX12_steps_262 : decode cX12_steps 262 = .ok (.iload 4, 2) := by decide +kernel
theorem dX12_steps_264 : decode cX12_steps 264 = .ok (.iaload, 1) := by decide +kernel
theorem dX12_steps_265 : decode cX12_steps 265 = .ok (.istore 7, 2) := by decide +kernel
theorem dX12_steps_267 : decode cX12_steps 267 = .ok (.iload 4, 2) := by decide +kernel
theorem dX12_steps_269 : decode cX12_steps 269 = .ok (.iconst 1, 1) := by decide +kernel
theorem dX12_steps_270 : decode cX12_steps 270 = .ok (.iadd, 1) := by decide +kernel
theorem dX12_steps_271 : decode cX12_steps 271 = .ok (.aload_n 0, 1) := by decide +kernel
theorem dX12_steps_272 : decode cX12_steps 272 = .ok (.getfield 307, 3) := by decide +kernel
theorem dX12_steps_275 : decode cX12_steps 275 = .ok (.if_icmp .ge 26, 3) := by decide +kernel
theorem dX12_steps_278 : decode cX12_steps 278 = .ok (.aload_n 0, 1) := by decide +kernel
theorem dX12_steps_279 : decode cX12_steps 279 = .ok (.getfield 140, 3) := by decide +kernel
theorem dX12_steps_282 : decode cX12_steps 282 = .ok (.iload 5, 2) := by decide +kernel
theorem dX12_steps_284 : decode cX12_steps 284 = .ok (.bipush 10, 2) := by decide +kernel
theorem dX12_steps_286 : decode cX12_steps 286 = .ok (.iadd, 1) := by decide +kernel
theorem dX12_steps_287 : decode cX12_steps 287 = .ok (.iaload, 1) := by decide +kernel
theorem dX12_steps_288 : decode cX12_steps 288 = .ok (.aload_n 0, 1) := by decide +kernel
theorem dX12_steps_289 : decode cX12_steps 289 = .ok (.getfield 98, 3) := by decide +kernel
theorem dX12_steps_292 : decode cX12_steps 292 = .ok (.iload 4, 2) := by decide +kernel
theorem dX12_steps_294 : decode cX12_steps 294 = .ok (.iconst 1, 1) := by decide +kernel
theorem dX12_steps_295 : decode cX12_steps 295 = .ok (.iadd, 1) := by decide +kernel
theorem dX12_steps_296 : decode cX12_steps 296 = .ok (.iaload, 1) := by decide +kernel
theorem dX12_steps_297 : decode cX12_steps 297 = .ok (.isub, 1) := by decide +kernel
theorem dX12_steps_298 : decode cX12_steps 298 = .ok (.goto 4, 3) := by decide +kernel
theorem dX12_steps_301 : decode cX12_steps 301 = .ok (.iconst 0, 1) := by decide +kernel
theorem dX12_steps_302 : decode cX12_steps 302 = .ok (.istore 8, 2) := by decide +kernel
theorem dX12_steps_304 : decode cX12_steps 304 = .ok (.aload_n 0, 1) := by decide +kernel
theorem dX12_steps_305 : decode cX12_steps 305 = .ok (.getfield 140, 3) := by decide +kernel
theorem dX12_steps_308 : decode cX12_steps 308 = .ok (.iload 5, 2) := by decide +kernel
theorem dX12_steps_310 : decode cX12_steps 310 = .ok (.iaload, 1) := by decide +kernel
theorem dX12_steps_311 : decode cX12_steps 311 = .ok (.iload 8, 2) := by decide +kernel
theorem dX12_steps_313 : decode cX12_steps 313 = .ok (.ifCond .le 8, 3) := by decide +kernel
theorem dX12_steps_316 : decode cX12_steps 316 = .ok (.iload 8, 2) := by decide +kernel
theorem dX12_steps_318 : decode cX12_steps 318 = .ok (.goto 4, 3) := by decide +kernel
theorem dX12_steps_321 : decode cX12_steps 321 = .ok (.iconst 0, 1) := by decide +kernel
theorem dX12_steps_322 : decode cX12_steps 322 = .ok (.isub, 1) := by decide +kernel
theorem dX12_steps_323 : decode cX12_steps 323 = .ok (.istore 9, 2) := by decide +kernel
theorem dX12_steps_325 : decode cX12_steps 325 = .ok (.aload_n 0, 1) := by decide +kernel
theorem dX12_steps_326 : decode cX12_steps 326 = .ok (.getfield 140, 3) := by decide +kernel
theorem dX12_steps_329 : decode cX12_steps 329 = .ok (.iload 5, 2) := by decide +kernel
theorem dX12_steps_331 : decode cX12_steps 331 = .ok (.iaload, 1) := by decide +kernel
theorem dX12_steps_332 : decode cX12_steps 332 = .ok (.aload_n 0, 1) := by decide +kernel
theorem dX12_steps_333 : decode cX12_steps 333 = .ok (.getfield 140, 3) := by decide +kernel
theorem dX12_steps_336 : decode cX12_steps 336 = .ok (.iload 5, 2) := by decide +kernel
theorem dX12_steps_338 : decode cX12_steps 338 = .ok (.iconst 1, 1) := by decide +kernel
theorem dX12_steps_339 : decode cX12_steps 339 = .ok (.iadd, 1) := by decide +kernel
theorem dX12_steps_340 : decode cX12_steps 340 = .ok (.iaload, 1) := by decide +kernel
theorem dX12_steps_341 : decode cX12_steps 341 = .ok (.iadd, 1) := by decide +kernel
theorem dX12_steps_342 : decode cX12_steps 342 = .ok (.istore 10, 2) := by decide +kernel
theorem dX12_steps_344 : decode cX12_steps 344 = .ok (.iconst 2, 1) := by decide +kernel
theorem dX12_steps_345 : decode cX12_steps 345 = .ok (.aload_n 0, 1) := by decide +kernel
theorem dX12_steps_346 : decode cX12_steps 346 = .ok (.getfield 140, 3) := by decide +kernel
theorem dX12_steps_349 : decode cX12_steps 349 = .ok (.iload 5, 2) := by decide +kernel
theorem dX12_steps_351 : decode cX12_steps 351 = .ok (.iconst 2, 1) := by decide +kernel
theorem dX12_steps_352 : decode cX12_steps 352 = .ok (.iadd, 1) := by decide +kernel
theorem dX12_steps_353 : decode cX12_steps 353 = .ok (.iaload, 1) := by decide +kernel
theorem dX12_steps_354 : decode cX12_steps 354 = .ok (.imul, 1) := by decide +kernel
theorem dX12_steps_355 : decode cX12_steps 355 = .ok (.iload 10, 2) := by decide +kernel
theorem dX12_steps_357 : decode cX12_steps 357 = .ok (.if_icmp .ge 17, 3) := by decide +kernel
theorem dX12_steps_360 : decode cX12_steps 360 = .ok (.iconst 2, 1) := by decide +kernel
theorem dX12_steps_361 : decode cX12_steps 361 = .ok (.aload_n 0, 1) := by decide +kernel
theorem dX12_steps_362 : decode cX12_steps 362 = .ok (.getfield 140, 3) := by decide +kernel
theorem dX12_steps_365 : decode cX12_steps 365 = .ok (.iload 5, 2) := by decide +kernel
theorem dX12_steps_367 : decode cX12_steps 367 = .ok (.iconst 2, 1) := by decide +kernel
theorem dX12_steps_368 : decode cX12_steps 368 = .ok (.iadd, 1) := by decide +kernel
theorem dX12_steps_369 : decode cX12_steps 369 = .ok (.iaload, 1) := by decide +kernel
theorem dX12_steps_370 : decode cX12_steps 370 = .ok (.imul, 1) := by decide +kernel
theorem dX12_steps_371 : decode cX12_steps 371 = .ok (.goto 5, 3) := by decide +kernel
theorem dX12_steps_374 : decode cX12_steps 374 = .ok (.iload 10, 2) := by decide +kernel
theorem dX12_steps_376 : decode cX12_steps 376 = .ok (.istore 11, 2) := by decide +kernel
theorem dX12_steps_378 : decode cX12_steps 378 = .ok (.iload 10, 2) := by decide +kernel
theorem dX12_steps_380 : decode cX12_steps 380 = .ok (.iload 11, 2) := by decide +kernel
theorem dX12_steps_382 : decode cX12_steps 382 = .ok (.isub, 1) := by decide +kernel
theorem dX12_steps_383 : decode cX12_steps 383 = .ok (.istore 10, 2) := by decide +kernel
theorem dX12_steps_385 : decode cX12_steps 385 = .ok (.iconst 3, 1) := by decide +kernel
theorem dX12_steps_386 : decode cX12_steps 386 = .ok (.iload 7, 2) := by decide +kernel
theorem dX12_steps_388 : decode cX12_steps 388 = .ok (.imul, 1) := by decide +kernel
theorem dX12_steps_389 : decode cX12_steps 389 = .ok (.iload 10, 2) := by decide +kernel
theorem dX12_steps_391 : decode cX12_steps 391 = .ok (.if_icmp .ge 10, 3) := by decide +kernel
theorem dX12_steps_394 : decode cX12_steps 394 = .ok (.iconst 3, 1) := by decide +kernel
theorem dX12_steps_395 : decode cX12_steps 395 = .ok (.iload 7, 2) := by decide +kernel
theorem dX12_steps_397 : decode cX12_steps 397 = .ok (.imul, 1) := by decide +kernel
theorem dX12_steps_398 : decode cX12_steps 398 = .ok (.goto 5, 3) := by decide +kernel
theorem dX12_steps_401 : decode cX12_steps 401 = .ok (.iload 10, 2) := by decide +kernel
theorem dX12_steps_403 : decode cX12_steps 403 = .ok (.istore 12, 2) := by decide +kernel
theorem dX12_steps_405 : decode cX12_steps 405 = .ok (.iload 10, 2) := by decide +kernel
theorem dX12_steps_407 : decode cX12_steps 407 = .ok (.iload 12, 2) := by decide +kernel
theorem dX12_steps_409 : decode cX12_steps 409 = .ok (.isub, 1) := by decide +kernel
theorem dX12_steps_410 : decode cX12_steps 410 = .ok (.istore 10, 2) := by decide +kernel
theorem dX12_steps_412 : decode cX12_steps 412 = .ok (.iload 10, 2) := by decide +kernel
theorem dX12_steps_414 : decode cX12_steps 414 = .ok (.aload_n 0, 1) := by decide +kernel
theorem dX12_steps_415 : decode cX12_steps 415 = .ok (.getfield 95, 3) := by decide +kernel
theorem dX12_steps_418 : decode cX12_steps 418 = .ok (.iload 4, 2) := by decide +kernel
theorem dX12_steps_420 : decode cX12_steps 420 = .ok (.iaload, 1) := by decide +kernel
theorem dX12_steps_421 : decode cX12_steps 421 = .ok (.if_icmp .le 16, 3) := by decide +kernel
theorem dX12_steps_424 : decode cX12_steps 424 = .ok (.iload 10, 2) := by decide +kernel
theorem dX12_steps_426 : decode cX12_steps 426 = .ok (.aload_n 0, 1) := by decide +kernel
theorem dX12_steps_427 : decode cX12_steps 427 = .ok (.getfield 95, 3) := by decide +kernel
theorem dX12_steps_430 : decode cX12_steps 430 = .ok (.iload 4, 2) := by decide +kernel
theorem dX12_steps_432 : decode cX12_steps 432 = .ok (.iaload, 1) := by decide +kernel
theorem dX12_steps_433 : decode cX12_steps 433 = .ok (.isub, 1) := by decide +kernel
theorem dX12_steps_434 : decode cX12_steps 434 = .ok (.goto 4, 3) := by decide +kernel
theorem dX12_steps_437 : decode cX12_steps 437 = .ok (.iconst 0, 1) := by decide +kernel
theorem dX12_steps_438 : decode cX12_steps 438 = .ok (.istore 13, 2) := by decide +kernel
theorem dX12_steps_440 : decode cX12_steps 440 = .ok (.iload 10, 2) := by decide +kernel
theorem dX12_steps_442 : decode cX12_steps 442 = .ok (.iload 13, 2) := by decide +kernel
theorem dX12_steps_444 : decode cX12_steps 444 = .ok (.isub, 1) := by decide +kernel
theorem dX12_steps_445 : decode cX12_steps 445 = .ok (.istore 10, 2) := by decide +kernel
theorem dX12_steps_447 : decode cX12_steps 447 = .ok (.aload_n 0, 1) := by decide +kernel
theorem dX12_steps_448 : decode cX12_steps 448 = .ok (.getfield 140, 3) := by decide +kernel
theorem dX12_steps_451 : decode cX12_steps 451 = .ok (.iload 5, 2) := by decide +kernel
theorem dX12_steps_453 : decode cX12_steps 453 = .ok (.iconst 3, 1) := by decide +kernel
theorem dX12_steps_454 : decode cX12_steps 454 = .ok (.iadd, 1) := by decide +kernel
theorem dX12_steps_455 : decode cX12_steps 455 = .ok (.iload 7, 2) := by decide +kernel
theorem dX12_steps_457 : decode cX12_steps 457 = .ok (.iastore, 1) := by decide +kernel
theorem dX12_steps_458 : decode cX12_steps 458 = .ok (.aload_n 0, 1) := by decide +kernel
theorem dX12_steps_459 : decode cX12_steps 459 = .ok (.getfield 140, 3) := by decide +kernel
theorem dX12_steps_462 : decode cX12_steps 462 = .ok (.iload 5, 2) := by decide +kernel
theorem dX12_steps_464 : decode cX12_steps 464 = .ok (.iconst 4, 1) := by decide +kernel
theorem dX12_steps_465 : decode cX12_steps 465 = .ok (.iadd, 1) := by decide +kernel
theorem dX12_steps_466 : decode cX12_steps 466 = .ok (.iload 9, 2) := by decide +kernel
theorem dX12_steps_468 : decode cX12_steps 468 = .ok (.iastore, 1) := by decide +kernel
theorem dX12_steps_469 : decode cX12_steps 469 = .ok (.aload_n 0, 1) := by decide +kernel
theorem dX12_steps_470 : decode cX12_steps 470 = .ok (.getfield 140, 3) := by decide +kernel
theorem dX12_steps_473 : decode cX12_steps 473 = .ok (.iload 5, 2) := by decide +kernel
theorem dX12_steps_475 : decode cX12_steps 475 = .ok (.iconst 5, 1) := by decide +kernel
theorem dX12_steps_476 : decode cX12_steps 476 = .ok (.iadd, 1) := by decide +kernel
theorem dX12_steps_477 : decode cX12_steps 477 = .ok (.iload 11, 2) := by decide +kernel
theorem dX12_steps_479 : decode cX12_steps 479 = .ok (.iastore, 1) := by decide +kernel
theorem dX12_steps_480 : decode cX12_steps 480 = .ok (.aload_n 0, 1) := by decide +kernel
theorem dX12_steps_481 : decode cX12_steps 481 = .ok (.getfield 140, 3) := by decide +kernel
theorem dX12_steps_484 : decode cX12_steps 484 = .ok (.iload 5, 2) := by decide +kernel
theorem dX12_steps_486 : decode cX12_steps 486 = .ok (.bipush 6, 2) := by decide +kernel
theorem dX12_steps_488 : decode cX12_steps 488 = .ok (.iadd, 1) := by decide +kernel
theorem dX12_steps_489 : decode cX12_steps 489 = .ok (.iload 11, 2) := by decide +kernel
theorem dX12_steps_491 : decode cX12_steps 491 = .ok (.aload_n 0, 1) := by decide +kernel
theorem dX12_steps_492 : decode cX12_steps 492 = .ok (.iload 9, 2) := by decide +kernel
theorem dX12_steps_494 : decode cX12_steps 494 = .ok (.invokevirtual 344, 3) := by decide +kernel
theorem dX12_steps_497 : decode cX12_steps 497 = .ok (.imul, 1) := by decide +kernel
theorem dX12_steps_498 : decode cX12_steps 498 = .ok (.iastore, 1) := by decide +kernel
theorem dX12_steps_499 : decode cX12_steps 499 = .ok (.aload_n 0, 1) := by decide +kernel
theorem dX12_steps_500 : decode cX12_steps 500 = .ok (.getfield 140, 3) := by decide +kernel
theorem dX12_steps_503 : decode cX12_steps 503 = .ok (.iload 5, 2) := by decide +kernel
theorem dX12_steps_505 : decode cX12_steps 505 = .ok (.bipush 7, 2) := by decide +kernel
theorem dX12_steps_507 : decode cX12_steps 507 = .ok (.iadd, 1) := by decide +kernel
theorem dX12_steps_508 : decode cX12_steps 508 = .ok (.iload 12, 2) := by decide +kernel
theorem dX12_steps_510 : decode cX12_steps 510 = .ok (.iastore, 1) := by decide +kernel
theorem dX12_steps_511 : decode cX12_steps 511 = .ok (.aload_n 0, 1) := by decide +kernel
theorem dX12_steps_512 : decode cX12_steps 512 = .ok (.getfield 140, 3) := by decide +kernel
theorem dX12_steps_515 : decode cX12_steps 515 = .ok (.iload 5, 2) := by decide +kernel
theorem dX12_steps_517 : decode cX12_steps 517 = .ok (.bipush 8, 2) := by decide +kernel
theorem dX12_steps_519 : decode cX12_steps 519 = .ok (.iadd, 1) := by decide +kernel
theorem dX12_steps_520 : decode cX12_steps 520 = .ok (.iload 13, 2) := by decide +kernel
theorem dX12_steps_522 : decode cX12_steps 522 = .ok (.iastore, 1) := by decide +kernel
theorem dX12_steps_523 : decode cX12_steps 523 = .ok (.aload_n 0, 1) := by decide +kernel
theorem dX12_steps_524 : decode cX12_steps 524 = .ok (.getfield 140, 3) := by decide +kernel
theorem dX12_steps_527 : decode cX12_steps 527 = .ok (.iload 5, 2) := by decide +kernel
theorem dX12_steps_529 : decode cX12_steps 529 = .ok (.bipush 9, 2) := by decide +kernel
theorem dX12_steps_531 : decode cX12_steps 531 = .ok (.iadd, 1) := by decide +kernel
theorem dX12_steps_532 : decode cX12_steps 532 = .ok (.iload 11, 2) := by decide +kernel
theorem dX12_steps_534 : decode cX12_steps 534 = .ok (.iload 12, 2) := by decide +kernel
theorem dX12_steps_536 : decode cX12_steps 536 = .ok (.iadd, 1) := by decide +kernel
theorem dX12_steps_537 : decode cX12_steps 537 = .ok (.iload 13, 2) := by decide +kernel
theorem dX12_steps_539 : decode cX12_steps 539 = .ok (.iadd, 1) := by decide +kernel
theorem dX12_steps_540 : decode cX12_steps 540 = .ok (.iastore, 1) := by decide +kernel
theorem dX12_steps_541 : decode cX12_steps 541 = .ok (.aload_n 0, 1) := by decide +kernel
theorem dX12_steps_542 : decode cX12_steps 542 = .ok (.getfield 161, 3) := by decide +kernel
theorem dX12_steps_545 : decode cX12_steps 545 = .ok (.iload 4, 2) := by decide +kernel
theorem dX12_steps_547 : decode cX12_steps 547 = .ok (.iload 10, 2) := by decide +kernel
theorem dX12_steps_549 : decode cX12_steps 549 = .ok (.iastore, 1) := by decide +kernel
theorem dX12_steps_550 : decode cX12_steps 550 = .ok (.iinc 4 1, 3) := by decide +kernel
theorem dX12_steps_553 : decode cX12_steps 553 = .ok (.goto (-430), 3) := by decide +kernel
theorem dX12_steps_556 : decode cX12_steps 556 = .ok (.iload_n 1, 1) := by decide +kernel
theorem dX12_steps_557 : decode cX12_steps 557 = .ok (.iconst 1, 1) := by decide +kernel
theorem dX12_steps_558 : decode cX12_steps 558 = .ok (.iadd, 1) := by decide +kernel
theorem dX12_steps_559 : decode cX12_steps 559 = .ok (.sipush 240, 3) := by decide +kernel
theorem dX12_steps_562 : decode cX12_steps 562 = .ok (.if_icmp .ge 45, 3) := by decide +kernel
theorem dX12_steps_565 : decode cX12_steps 565 = .ok (.iconst 0, 1) := by decide +kernel
theorem dX12_steps_566 : decode cX12_steps 566 = .ok (.istore 4, 2) := by decide +kernel
theorem dX12_steps_568 : decode cX12_steps 568 = .ok (.iload 4, 2) := by decide +kernel
theorem dX12_steps_570 : decode cX12_steps 570 = .ok (.aload_n 0, 1) := by decide +kernel
theorem dX12_steps_571 : decode cX12_steps 571 = .ok (.getfield 307, 3) := by decide +kernel
theorem dX12_steps_574 : decode cX12_steps 574 = .ok (.if_icmp .ge 33, 3) := by decide +kernel
theorem dX12_steps_577 : decode cX12_steps 577 = .ok (.aload_n 0, 1) := by decide +kernel
theorem dX12_steps_578 : decode cX12_steps 578 = .ok (.getfield 140, 3) := by decide +kernel
theorem dX12_steps_581 : decode cX12_steps 581 = .ok (.bipush 10, 2) := by decide +kernel
theorem dX12_steps_583 : decode cX12_steps 583 = .ok (.bipush 7, 2) := by decide +kernel
theorem dX12_steps_585 : decode cX12_steps 585 = .ok (.iload_n 1, 1) := by decide +kernel
theorem dX12_steps_586 : decode cX12_steps 586 = .ok (.iconst 1, 1) := by decide +kernel
theorem dX12_steps_587 : decode cX12_steps 587 = .ok (.iadd, 1) := by decide +kernel
theorem dX12_steps_588 : decode cX12_steps 588 = .ok (.imul, 1) := by decide +kernel
theorem dX12_steps_589 : decode cX12_steps 589 = .ok (.iload 4, 2) := by decide +kernel
theorem dX12_steps_591 : decode cX12_steps 591 = .ok (.iadd, 1) := by decide +kernel
theorem dX12_steps_592 : decode cX12_steps 592 = .ok (.imul, 1) := by decide +kernel
theorem dX12_steps_593 : decode cX12_steps 593 = .ok (.aload_n 0, 1) := by decide +kernel
theorem dX12_steps_594 : decode cX12_steps 594 = .ok (.getfield 161, 3) := by decide +kernel
theorem dX12_steps_597 : decode cX12_steps 597 = .ok (.iload 4, 2) := by decide +kernel
theorem dX12_steps_599 : decode cX12_steps 599 = .ok (.iaload, 1) := by decide +kernel
theorem dX12_steps_600 : decode cX12_steps 600 = .ok (.iastore, 1) := by decide +kernel
theorem dX12_steps_601 : decode cX12_steps 601 = .ok (.iinc 4 1, 3) := by decide +kernel
theorem dX12_steps_604 : decode cX12_steps 604 = .ok (.goto (-36), 3) := by decide +kernel
theorem dX12_steps_607 : decode cX12_steps 607 = .ok (.return_, 1) := by decide +kernel
theorem dX12_works_0 : decode cX12_works 0 = .ok (.aload_n 0, 1) := by decide +kernel
theorem dX12_works_1 : decode cX12_works 1 = .ok (.getfield 143, 3) := by decide +kernel
theorem dX12_works_4 : decode cX12_works 4 = .ok (.iload_n 1, 1) := by decide +kernel
theorem dX12_works_5 : decode cX12_works 5 = .ok (.if_icmp .ne 12, 3) := by decide +kernel
theorem dX12_works_8 : decode cX12_works 8 = .ok (.aload_n 0, 1) := by decide +kernel
theorem dX12_works_9 : decode cX12_works 9 = .ok (.getfield 146, 3) := by decide +kernel
theorem dX12_works_12 : decode cX12_works 12 = .ok (.iload_n 2, 1) := by decide +kernel
theorem dX12_works_13 : decode cX12_works 13 = .ok (.if_icmp .ne 4, 3) := by decide +kernel
theorem dX12_works_16 : decode cX12_works 16 = .ok (.return_, 1) := by decide +kernel
theorem dX12_works_17 : decode cX12_works 17 = .ok (.aload_n 0, 1) := by decide +kernel
theorem dX12_works_18 : decode cX12_works 18 = .ok (.iload_n 1, 1) := by decide +kernel
theorem dX12_works_19 : decode cX12_works 19 = .ok (.invokevirtual 347, 3) := by decide +kernel
theorem dX12_works_22 : decode cX12_works 22 = .ok (.aload_n 0, 1) := by decide +kernel
theorem dX12_works_23 : decode cX12_works 23 = .ok (.iload_n 2, 1) := by decide +kernel
theorem dX12_works_24 : decode cX12_works 24 = .ok (.invokevirtual 350, 3) := by decide +kernel
theorem dX12_works_27 : decode cX12_works 27 = .ok (.iconst 0, 1) := by decide +kernel
theorem dX12_works_28 : decode cX12_works 28 = .ok (.istore_n 3, 1) := by decide +kernel
theorem dX12_works_29 : decode cX12_works 29 = .ok (.iload_n 3, 1) := by decide +kernel
theorem dX12_works_30 : decode cX12_works 30 = .ok (.aload_n 0, 1) := by decide +kernel
theorem dX12_works_31 : decode cX12_works 31 = .ok (.getfield 307, 3) := by decide +kernel
theorem dX12_works_34 : decode cX12_works 34 = .ok (.if_icmp .ge 19, 3) := by decide +kernel
theorem dX12_works_37 : decode cX12_works 37 = .ok (.aload_n 0, 1) := by decide +kernel
theorem dX12_works_38 : decode cX12_works 38 = .ok (.getfield 140, 3) := by decide +kernel
theorem dX12_works_41 : decode cX12_works 41 = .ok (.bipush 10, 2) := by decide +kernel
theorem dX12_works_43 : decode cX12_works 43 = .ok (.iload_n 3, 1) := by decide +kernel
theorem dX12_works_44 : decode cX12_works 44 = .ok (.imul, 1) := by decide +kernel
theorem dX12_works_45 : decode cX12_works 45 = .ok (.iconst 0, 1) := by decide +kernel
theorem dX12_works_46 : decode cX12_works 46 = .ok (.iastore, 1) := by decide +kernel
theorem dX12_works_47 : decode cX12_works 47 = .ok (.iinc 3 1, 3) := by decide +kernel
theorem dX12_works_50 : decode cX12_works 50 = .ok (.goto (-21), 3) := by decide +kernel
theorem dX12_works_53 : decode cX12_works 53 = .ok (.iconst 0, 1) := by decide +kernel
theorem dX12_works_54 : decode cX12_works 54 = .ok (.istore_n 3, 1) := by decide +kernel
theorem dX12_works_55 : decode cX12_works 55 = .ok (.iload_n 3, 1) := by decide +kernel
theorem dX12_works_56 : decode cX12_works 56 = .ok (.sipush 240, 3) := by decide +kernel
theorem dX12_works_59 : decode cX12_works 59 = .ok (.if_icmp .ge 16, 3) := by decide +kernel
theorem dX12_works_62 : decode cX12_works 62 = .ok (.aload_n 0, 1) := by decide +kernel
theorem dX12_works_63 : decode cX12_works 63 = .ok (.iload_n 3, 1) := by decide +kernel
theorem dX12_works_64 : decode cX12_works 64 = .ok (.iconst (-1), 1) := by decide +kernel
theorem dX12_works_65 : decode cX12_works 65 = .ok (.iconst 0, 1) := by decide +kernel
theorem dX12_works_66 : decode cX12_works 66 = .ok (.invokevirtual 353, 3) := by decide +kernel
theorem dX12_works_69 : decode cX12_works 69 = .ok (.iinc 3 1, 3) := by decide +kernel
theorem dX12_works_72 : decode cX12_works 72 = .ok (.goto (-17), 3) := by decide +kernel
theorem dX12_works_75 : decode cX12_works 75 = .ok (.aload_n 0, 1) := by decide +kernel
theorem dX12_works_76 : decode cX12_works 76 = .ok (.iload_n 1, 1) := by decide +kernel
theorem dX12_works_77 : decode cX12_works 77 = .ok (.putfield 143, 3) := by decide +kernel
theorem dX12_works_80 : decode cX12_works 80 = .ok (.aload_n 0, 1) := by decide +kernel
theorem dX12_works_81 : decode cX12_works 81 = .ok (.iload_n 2, 1) := by decide +kernel
theorem dX12_works_82 : decode cX12_works 82 = .ok (.putfield 146, 3) := by decide +kernel
theorem dX12_works_85 : decode cX12_works 85 = .ok (.return_, 1) := by decide +kernel
theorem dX12_isKnown_0 : decode cX12_isKnown 0 = .ok (.iload_n 1, 1) := by decide +kernel
theorem dX12_isKnown_1 : decode cX12_isKnown 1 = .ok (.ifCond .lt 15, 3) := by decide +kernel
theorem dX12_isKnown_4 : decode cX12_isKnown 4 = .ok (.iload_n 1, 1) := by decide +kernel
theorem dX12_isKnown_5 : decode cX12_isKnown 5 = .ok (.aload_n 0, 1) := by decide +kernel
theorem dX12_isKnown_6 : decode cX12_isKnown 6 = .ok (.getfield 316, 3) := by decide +kernel
theorem dX12_isKnown_9 : decode cX12_isKnown 9 = .ok (.if_icmp .gt 7, 3) := by decide +kernel
theorem dX12_isKnown_12 : decode cX12_isKnown 12 = .ok (.iconst 1, 1) := by decide +kernel
theorem dX12_isKnown_13 : decode cX12_isKnown 13 = .ok (.goto 4, 3) := by decide +kernel
theorem dX12_isKnown_16 : decode cX12_isKnown 16 = .ok (.iconst 0, 1) := by decide +kernel
theorem dX12_isKnown_17 : decode cX12_isKnown 17 = .ok (.ireturn, 1) := by decide +kernel
theorem dX12_isEnd_0 : decode cX12_isEnd 0 = .ok (.iload_n 0, 1) := by decide +kernel
theorem dX12_isEnd_1 : decode cX12_isEnd 1 = .ok (.ifCond .lt 14, 3) := by decide +kernel
theorem dX12_isEnd_4 : decode cX12_isEnd 4 = .ok (.iload_n 0, 1) := by decide +kernel
theorem dX12_isEnd_5 : decode cX12_isEnd 5 = .ok (.sipush 240, 3) := by decide +kernel
theorem dX12_isEnd_8 : decode cX12_isEnd 8 = .ok (.if_icmp .gt 7, 3) := by decide +kernel
theorem dX12_isEnd_11 : decode cX12_isEnd 11 = .ok (.iconst 1, 1) := by decide +kernel
theorem dX12_isEnd_12 : decode cX12_isEnd 12 = .ok (.goto 4, 3) := by decide +kernel
theorem dX12_isEnd_15 : decode cX12_isEnd 15 = .ok (.iconst 0, 1) := by decide +kernel
theorem dX12_isEnd_16 : decode cX12_isEnd 16 = .ok (.ireturn, 1) := by decide +kernel
theorem dX12_at__0 : decode cX12_at_ 0 = .ok (.aload_n 0, 1) := by decide +kernel
theorem dX12_at__1 : decode cX12_at_ 1 = .ok (.iload_n 2, 1) := by decide +kernel
theorem dX12_at__2 : decode cX12_at_ 2 = .ok (.invokevirtual 319, 3) := by decide +kernel
theorem dX12_at__5 : decode cX12_at_ 5 = .ok (.ifCond .eq 34, 3) := by decide +kernel
theorem dX12_at__8 : decode cX12_at_ 8 = .ok (.iload_n 1, 1) := by decide +kernel
theorem dX12_at__9 : decode cX12_at_ 9 = .ok (.ifCond .lt 30, 3) := by decide +kernel
theorem dX12_at__12 : decode cX12_at_ 12 = .ok (.iload_n 1, 1) := by decide +kernel
theorem dX12_at__13 : decode cX12_at_ 13 = .ok (.sipush 240, 3) := by decide +kernel
theorem dX12_at__16 : decode cX12_at_ 16 = .ok (.if_icmp .ge 23, 3) := by decide +kernel
theorem dX12_at__19 : decode cX12_at_ 19 = .ok (.aload_n 0, 1) := by decide +kernel
theorem dX12_at__20 : decode cX12_at_ 20 = .ok (.iload_n 3, 1) := by decide +kernel
theorem dX12_at__21 : decode cX12_at_ 21 = .ok (.invokevirtual 357, 3) := by decide +kernel
theorem dX12_at__24 : decode cX12_at_ 24 = .ok (.ifCond .eq 15, 3) := by decide +kernel
theorem dX12_at__27 : decode cX12_at_ 27 = .ok (.iload 4, 2) := by decide +kernel
theorem dX12_at__29 : decode cX12_at_ 29 = .ok (.ifCond .lt 10, 3) := by decide +kernel
theorem dX12_at__32 : decode cX12_at_ 32 = .ok (.iload 4, 2) := by decide +kernel
theorem dX12_at__34 : decode cX12_at_ 34 = .ok (.bipush 9, 2) := by decide +kernel
theorem dX12_at__36 : decode cX12_at_ 36 = .ok (.if_icmp .le 7, 3) := by decide +kernel
theorem dX12_at__39 : decode cX12_at_ 39 = .ok (.ldc_w 360, 3) := by decide +kernel
theorem dX12_at__42 : decode cX12_at_ 42 = .ok (.ireturn, 1) := by decide +kernel
theorem dX12_at__43 : decode cX12_at_ 43 = .ok (.aload_n 0, 1) := by decide +kernel
theorem dX12_at__44 : decode cX12_at_ 44 = .ok (.iload_n 3, 1) := by decide +kernel
theorem dX12_at__45 : decode cX12_at_ 45 = .ok (.iconst (-1), 1) := by decide +kernel
theorem dX12_at__46 : decode cX12_at_ 46 = .ok (.invokevirtual 361, 3) := by decide +kernel
theorem dX12_at__49 : decode cX12_at_ 49 = .ok (.aload_n 0, 1) := by decide +kernel
theorem dX12_at__50 : decode cX12_at_ 50 = .ok (.getfield 140, 3) := by decide +kernel
theorem dX12_at__53 : decode cX12_at_ 53 = .ok (.bipush 10, 2) := by decide +kernel
theorem dX12_at__55 : decode cX12_at_ 55 = .ok (.bipush 7, 2) := by decide +kernel
theorem dX12_at__57 : decode cX12_at_ 57 = .ok (.iload_n 1, 1) := by decide +kernel
theorem dX12_at__58 : decode cX12_at_ 58 = .ok (.imul, 1) := by decide +kernel
theorem dX12_at__59 : decode cX12_at_ 59 = .ok (.iload_n 2, 1) := by decide +kernel
theorem dX12_at__60 : decode cX12_at_ 60 = .ok (.iadd, 1) := by decide +kernel
theorem dX12_at__61 : decode cX12_at_ 61 = .ok (.imul, 1) := by decide +kernel
theorem dX12_at__62 : decode cX12_at_ 62 = .ok (.iload 4, 2) := by decide +kernel
theorem dX12_at__64 : decode cX12_at_ 64 = .ok (.iadd, 1) := by decide +kernel
theorem dX12_at__65 : decode cX12_at_ 65 = .ok (.iaload, 1) := by decide +kernel
theorem dX12_at__66 : decode cX12_at_ 66 = .ok (.ireturn, 1) := by decide +kernel
theorem dX12_sea_0 : decode cX12_sea 0 = .ok (.iload_n 1, 1) := by decide +kernel
theorem dX12_sea_1 : decode cX12_sea 1 = .ok (.invokestatic 364, 3) := by decide +kernel
theorem dX12_sea_4 : decode cX12_sea 4 = .ok (.ifCond .eq 11, 3) := by decide +kernel
theorem dX12_sea_7 : decode cX12_sea 7 = .ok (.aload_n 0, 1) := by decide +kernel
theorem dX12_sea_8 : decode cX12_sea 8 = .ok (.iload_n 2, 1) := by decide +kernel
theorem dX12_sea_9 : decode cX12_sea 9 = .ok (.invokevirtual 357, 3) := by decide +kernel
theorem dX12_sea_12 : decode cX12_sea 12 = .ok (.ifCond .ne 5, 3) := by decide +kernel
theorem dX12_sea_15 : decode cX12_sea 15 = .ok (.iconst (-1), 1) := by decide +kernel
theorem dX12_sea_16 : decode cX12_sea 16 = .ok (.ireturn, 1) := by decide +kernel
theorem dX12_sea_17 : decode cX12_sea 17 = .ok (.aload_n 0, 1) := by decide +kernel
theorem dX12_sea_18 : decode cX12_sea 18 = .ok (.getfield 307, 3) := by decide +kernel
theorem dX12_sea_21 : decode cX12_sea 21 = .ok (.ifCond .ne 5, 3) := by decide +kernel
theorem dX12_sea_24 : decode cX12_sea 24 = .ok (.iconst 0, 1) := by decide +kernel
theorem dX12_sea_25 : decode cX12_sea 25 = .ok (.ireturn, 1) := by decide +kernel
theorem dX12_sea_26 : decode cX12_sea 26 = .ok (.aload_n 0, 1) := by decide +kernel
theorem dX12_sea_27 : decode cX12_sea 27 = .ok (.iload_n 2, 1) := by decide +kernel
theorem dX12_sea_28 : decode cX12_sea 28 = .ok (.iconst (-1), 1) := by decide +kernel
theorem dX12_sea_29 : decode cX12_sea 29 = .ok (.invokevirtual 361, 3) := by decide +kernel
theorem dX12_sea_32 : decode cX12_sea 32 = .ok (.iconst 0, 1) := by decide +kernel
theorem dX12_sea_33 : decode cX12_sea 33 = .ok (.istore_n 3, 1) := by decide +kernel
theorem dX12_sea_34 : decode cX12_sea 34 = .ok (.iconst 0, 1) := by decide +kernel
theorem dX12_sea_35 : decode cX12_sea 35 = .ok (.istore 4, 2) := by decide +kernel
theorem dX12_sea_37 : decode cX12_sea 37 = .ok (.iload 4, 2) := by decide +kernel
theorem dX12_sea_39 : decode cX12_sea 39 = .ok (.iload_n 1, 1) := by decide +kernel
theorem dX12_sea_40 : decode cX12_sea 40 = .ok (.if_icmp .ge 35, 3) := by decide +kernel
theorem dX12_sea_43 : decode cX12_sea 43 = .ok (.iload_n 3, 1) := by decide +kernel
theorem dX12_sea_44 : decode cX12_sea 44 = .ok (.aload_n 0, 1) := by decide +kernel
theorem dX12_sea_45 : decode cX12_sea 45 = .ok (.getfield 140, 3) := by decide +kernel
theorem dX12_sea_48 : decode cX12_sea 48 = .ok (.bipush 10, 2) := by decide +kernel
theorem dX12_sea_50 : decode cX12_sea 50 = .ok (.bipush 7, 2) := by decide +kernel
theorem dX12_sea_52 : decode cX12_sea 52 = .ok (.iload 4, 2) := by decide +kernel
theorem dX12_sea_54 : decode cX12_sea 54 = .ok (.imul, 1) := by decide +kernel
theorem dX12_sea_55 : decode cX12_sea 55 = .ok (.aload_n 0, 1) := by decide +kernel
theorem dX12_sea_56 : decode cX12_sea 56 = .ok (.getfield 307, 3) := by decide +kernel
theorem dX12_sea_59 : decode cX12_sea 59 = .ok (.iadd, 1) := by decide +kernel
theorem dX12_sea_60 : decode cX12_sea 60 = .ok (.iconst 1, 1) := by decide +kernel
theorem dX12_sea_61 : decode cX12_sea 61 = .ok (.isub, 1) := by decide +kernel
theorem dX12_sea_62 : decode cX12_sea 62 = .ok (.imul, 1) := by decide +kernel
theorem dX12_sea_63 : decode cX12_sea 63 = .ok (.bipush 9, 2) := by decide +kernel
theorem dX12_sea_65 : decode cX12_sea 65 = .ok (.iadd, 1) := by decide +kernel
theorem dX12_sea_66 : decode cX12_sea 66 = .ok (.iaload, 1) := by decide +kernel
theorem dX12_sea_67 : decode cX12_sea 67 = .ok (.iadd, 1) := by decide +kernel
theorem dX12_sea_68 : decode cX12_sea 68 = .ok (.istore_n 3, 1) := by decide +kernel
theorem dX12_sea_69 : decode cX12_sea 69 = .ok (.iinc 4 1, 3) := by decide +kernel
theorem dX12_sea_72 : decode cX12_sea 72 = .ok (.goto (-35), 3) := by decide +kernel
theorem dX12_sea_75 : decode cX12_sea 75 = .ok (.iload_n 3, 1) := by decide +kernel
theorem dX12_sea_76 : decode cX12_sea 76 = .ok (.ireturn, 1) := by decide +kernel
theorem dX12_breaks_0 : decode cX12_breaks 0 = .ok (.aload_n 0, 1) := by decide +kernel
theorem dX12_breaks_1 : decode cX12_breaks 1 = .ok (.getfield 55, 3) := by decide +kernel
theorem dX12_breaks_4 : decode cX12_breaks 4 = .ok (.iload_n 1, 1) := by decide +kernel
theorem dX12_breaks_5 : decode cX12_breaks 5 = .ok (.baload, 1) := by decide +kernel
theorem dX12_breaks_6 : decode cX12_breaks 6 = .ok (.ifCond .ne 40, 3) := by decide +kernel
theorem dX12_breaks_9 : decode cX12_breaks 9 = .ok (.aload_n 0, 1) := by decide +kernel
theorem dX12_breaks_10 : decode cX12_breaks 10 = .ok (.iload_n 1, 1) := by decide +kernel
theorem dX12_breaks_11 : decode cX12_breaks 11 = .ok (.iload_n 2, 1) := by decide +kernel
theorem dX12_breaks_12 : decode cX12_breaks 12 = .ok (.iload_n 3, 1) := by decide +kernel
theorem dX12_breaks_13 : decode cX12_breaks 13 = .ok (.iconst (-1), 1) := by decide +kernel
theorem dX12_breaks_14 : decode cX12_breaks 14 = .ok (.invokevirtual 340, 3) := by decide +kernel
theorem dX12_breaks_17 : decode cX12_breaks 17 = .ok (.ifCond .eq 29, 3) := by decide +kernel
theorem dX12_breaks_20 : decode cX12_breaks 20 = .ok (.aload_n 0, 1) := by decide +kernel
theorem dX12_breaks_21 : decode cX12_breaks 21 = .ok (.aload_n 0, 1) := by decide +kernel
theorem dX12_breaks_22 : decode cX12_breaks 22 = .ok (.getfield 59, 3) := by decide +kernel
theorem dX12_breaks_25 : decode cX12_breaks 25 = .ok (.iload_n 1, 1) := by decide +kernel
theorem dX12_breaks_26 : decode cX12_breaks 26 = .ok (.iaload, 1) := by decide +kernel
theorem dX12_breaks_27 : decode cX12_breaks 27 = .ok (.aload_n 0, 1) := by decide +kernel
theorem dX12_breaks_28 : decode cX12_breaks 28 = .ok (.getfield 62, 3) := by decide +kernel
theorem dX12_breaks_31 : decode cX12_breaks 31 = .ok (.iload_n 1, 1) := by decide +kernel
theorem dX12_breaks_32 : decode cX12_breaks 32 = .ok (.iaload, 1) := by decide +kernel
theorem dX12_breaks_33 : decode cX12_breaks 33 = .ok (.iload_n 2, 1) := by decide +kernel
theorem dX12_breaks_34 : decode cX12_breaks 34 = .ok (.iload_n 3, 1) := by decide +kernel
theorem dX12_breaks_35 : decode cX12_breaks 35 = .ok (.iconst (-1), 1) := by decide +kernel
theorem dX12_breaks_36 : decode cX12_breaks 36 = .ok (.invokevirtual 336, 3) := by decide +kernel
theorem dX12_breaks_39 : decode cX12_breaks 39 = .ok (.ifCond .ne 7, 3) := by decide +kernel
theorem dX12_breaks_42 : decode cX12_breaks 42 = .ok (.iconst 1, 1) := by decide +kernel
theorem dX12_breaks_43 : decode cX12_breaks 43 = .ok (.goto 4, 3) := by decide +kernel
theorem dX12_breaks_46 : decode cX12_breaks 46 = .ok (.iconst 0, 1) := by decide +kernel
theorem dX12_breaks_47 : decode cX12_breaks 47 = .ok (.ireturn, 1) := by decide +kernel
theorem dX12_broken_0 : decode cX12_broken 0 = .ok (.iload_n 1, 1) := by decide +kernel
theorem dX12_broken_1 : decode cX12_broken 1 = .ok (.ifCond .lt 22, 3) := by decide +kernel
theorem dX12_broken_4 : decode cX12_broken 4 = .ok (.iload_n 1, 1) := by decide +kernel
theorem dX12_broken_5 : decode cX12_broken 5 = .ok (.sipush 240, 3) := by decide +kernel
theorem dX12_broken_8 : decode cX12_broken 8 = .ok (.if_icmp .ge 15, 3) := by decide +kernel
theorem dX12_broken_11 : decode cX12_broken 11 = .ok (.aload_n 0, 1) := by decide +kernel
theorem dX12_broken_12 : decode cX12_broken 12 = .ok (.iload_n 2, 1) := by decide +kernel
theorem dX12_broken_13 : decode cX12_broken 13 = .ok (.invokevirtual 357, 3) := by decide +kernel
theorem dX12_broken_16 : decode cX12_broken 16 = .ok (.ifCond .eq 7, 3) := by decide +kernel
theorem dX12_broken_19 : decode cX12_broken 19 = .ok (.iload_n 3, 1) := by decide +kernel
theorem dX12_broken_20 : decode cX12_broken 20 = .ok (.ifCond .ge 5, 3) := by decide +kernel
theorem dX12_broken_23 : decode cX12_broken 23 = .ok (.iconst (-1), 1) := by decide +kernel
theorem dX12_broken_24 : decode cX12_broken 24 = .ok (.ireturn, 1) := by decide +kernel
theorem dX12_broken_25 : decode cX12_broken 25 = .ok (.aload_n 0, 1) := by decide +kernel
theorem dX12_broken_26 : decode cX12_broken 26 = .ok (.iload_n 2, 1) := by decide +kernel
theorem dX12_broken_27 : decode cX12_broken 27 = .ok (.iconst (-1), 1) := by decide +kernel
theorem dX12_broken_28 : decode cX12_broken 28 = .ok (.invokevirtual 361, 3) := by decide +kernel
theorem dX12_broken_31 : decode cX12_broken 31 = .ok (.iload_n 3, 1) := by decide +kernel
theorem dX12_broken_32 : decode cX12_broken 32 = .ok (.istore 4, 2) := by decide +kernel
theorem dX12_broken_34 : decode cX12_broken 34 = .ok (.iconst 0, 1) := by decide +kernel
theorem dX12_broken_35 : decode cX12_broken 35 = .ok (.istore 5, 2) := by decide +kernel
theorem dX12_broken_37 : decode cX12_broken 37 = .ok (.iload 5, 2) := by decide +kernel
theorem dX12_broken_39 : decode cX12_broken 39 = .ok (.aload_n 0, 1) := by decide +kernel
theorem dX12_broken_40 : decode cX12_broken 40 = .ok (.getfield 307, 3) := by decide +kernel
theorem dX12_broken_43 : decode cX12_broken 43 = .ok (.if_icmp .ge 59, 3) := by decide +kernel
theorem dX12_broken_46 : decode cX12_broken 46 = .ok (.iconst 0, 1) := by decide +kernel
theorem dX12_broken_47 : decode cX12_broken 47 = .ok (.istore 6, 2) := by decide +kernel
theorem dX12_broken_49 : decode cX12_broken 49 = .ok (.iload 6, 2) := by decide +kernel
theorem dX12_broken_51 : decode cX12_broken 51 = .ok (.aload_n 0, 1) := by decide +kernel
theorem dX12_broken_52 : decode cX12_broken 52 = .ok (.getfield 263, 3) := by decide +kernel
theorem dX12_broken_55 : decode cX12_broken 55 = .ok (.if_icmp .ge 41, 3) := by decide +kernel
theorem dX12_broken_58 : decode cX12_broken 58 = .ok (.aload_n 0, 1) := by decide +kernel
theorem dX12_broken_59 : decode cX12_broken 59 = .ok (.iload 6, 2) := by decide +kernel
theorem dX12_broken_61 : decode cX12_broken 61 = .ok (.iload 5, 2) := by decide +kernel
theorem dX12_broken_63 : decode cX12_broken 63 = .ok (.iload_n 1, 1) := by decide +kernel
theorem dX12_broken_64 : decode cX12_broken 64 = .ok (.invokevirtual 367, 3) := by decide +kernel
theorem dX12_broken_67 : decode cX12_broken 67 = .ok (.ifCond .ne 6, 3) := by decide +kernel
theorem dX12_broken_70 : decode cX12_broken 70 = .ok (.goto 20, 3) := by decide +kernel
theorem dX12_broken_73 : decode cX12_broken 73 = .ok (.iload 4, 2) := by decide +kernel
theorem dX12_broken_75 : decode cX12_broken 75 = .ok (.ifCond .ne 12, 3) := by decide +kernel
theorem dX12_broken_78 : decode cX12_broken 78 = .ok (.bipush 100, 2) := by decide +kernel
theorem dX12_broken_80 : decode cX12_broken 80 = .ok (.iload 5, 2) := by decide +kernel
theorem dX12_broken_82 : decode cX12_broken 82 = .ok (.imul, 1) := by decide +kernel
theorem dX12_broken_83 : decode cX12_broken 83 = .ok (.iload 6, 2) := by decide +kernel
theorem dX12_broken_85 : decode cX12_broken 85 = .ok (.iadd, 1) := by decide +kernel
theorem dX12_broken_86 : decode cX12_broken 86 = .ok (.ireturn, 1) := by decide +kernel
theorem dX12_broken_87 : decode cX12_broken 87 = .ok (.iinc 4 (-1), 3) := by decide +kernel
theorem dX12_broken_90 : decode cX12_broken 90 = .ok (.iinc 6 1, 3) := by decide +kernel
theorem dX12_broken_93 : decode cX12_broken 93 = .ok (.goto (-44), 3) := by decide +kernel
theorem dX12_broken_96 : decode cX12_broken 96 = .ok (.iinc 5 1, 3) := by decide +kernel
theorem dX12_broken_99 : decode cX12_broken 99 = .ok (.goto (-62), 3) := by decide +kernel
theorem dX12_broken_102 : decode cX12_broken 102 = .ok (.iconst (-1), 1) := by decide +kernel
theorem dX12_broken_103 : decode cX12_broken 103 = .ok (.ireturn, 1) := by decide +kernel
theorem dX12_first_0 : decode cX12_first 0 = .ok (.iload_n 1, 1) := by decide +kernel
theorem dX12_first_1 : decode cX12_first 1 = .ok (.invokestatic 364, 3) := by decide +kernel
theorem dX12_first_4 : decode cX12_first 4 = .ok (.ifCond .eq 18, 3) := by decide +kernel
theorem dX12_first_7 : decode cX12_first 7 = .ok (.iload_n 2, 1) := by decide +kernel
theorem dX12_first_8 : decode cX12_first 8 = .ok (.invokestatic 364, 3) := by decide +kernel
theorem dX12_first_11 : decode cX12_first 11 = .ok (.ifCond .eq 11, 3) := by decide +kernel
theorem dX12_first_14 : decode cX12_first 14 = .ok (.aload_n 0, 1) := by decide +kernel
theorem dX12_first_15 : decode cX12_first 15 = .ok (.iload_n 3, 1) := by decide +kernel
theorem dX12_first_16 : decode cX12_first 16 = .ok (.invokevirtual 357, 3) := by decide +kernel
theorem dX12_first_19 : decode cX12_first 19 = .ok (.ifCond .ne 5, 3) := by decide +kernel
theorem dX12_first_22 : decode cX12_first 22 = .ok (.iconst (-1), 1) := by decide +kernel
theorem dX12_first_23 : decode cX12_first 23 = .ok (.ireturn, 1) := by decide +kernel
theorem dX12_first_24 : decode cX12_first 24 = .ok (.aload_n 0, 1) := by decide +kernel
theorem dX12_first_25 : decode cX12_first 25 = .ok (.iload_n 3, 1) := by decide +kernel
theorem dX12_first_26 : decode cX12_first 26 = .ok (.iconst (-1), 1) := by decide +kernel
theorem dX12_first_27 : decode cX12_first 27 = .ok (.invokevirtual 361, 3) := by decide +kernel
theorem dX12_first_30 : decode cX12_first 30 = .ok (.iload_n 1, 1) := by decide +kernel
theorem dX12_first_31 : decode cX12_first 31 = .ok (.istore 4, 2) := by decide +kernel
theorem dX12_first_33 : decode cX12_first 33 = .ok (.iload 4, 2) := by decide +kernel
theorem dX12_first_35 : decode cX12_first 35 = .ok (.iload_n 2, 1) := by decide +kernel
theorem dX12_first_36 : decode cX12_first 36 = .ok (.if_icmp .ge 61, 3) := by decide +kernel
theorem dX12_first_39 : decode cX12_first 39 = .ok (.iconst 0, 1) := by decide +kernel
theorem dX12_first_40 : decode cX12_first 40 = .ok (.istore 5, 2) := by decide +kernel
theorem dX12_first_42 : decode cX12_first 42 = .ok (.iload 5, 2) := by decide +kernel
theorem dX12_first_44 : decode cX12_first 44 = .ok (.aload_n 0, 1) := by decide +kernel
theorem dX12_first_45 : decode cX12_first 45 = .ok (.getfield 307, 3) := by decide +kernel
theorem dX12_first_48 : decode cX12_first 48 = .ok (.if_icmp .ge 43, 3) := by decide +kernel
theorem dX12_first_51 : decode cX12_first 51 = .ok (.iconst 0, 1) := by decide +kernel
theorem dX12_first_52 : decode cX12_first 52 = .ok (.istore 6, 2) := by decide +kernel
theorem dX12_first_54 : decode cX12_first 54 = .ok (.iload 6, 2) := by decide +kernel
theorem dX12_first_56 : decode cX12_first 56 = .ok (.aload_n 0, 1) := by decide +kernel
theorem dX12_first_57 : decode cX12_first 57 = .ok (.getfield 263, 3) := by decide +kernel
theorem dX12_first_60 : decode cX12_first 60 = .ok (.if_icmp .ge 25, 3) := by decide +kernel
theorem dX12_first_63 : decode cX12_first 63 = .ok (.aload_n 0, 1) := by decide +kernel
theorem dX12_first_64 : decode cX12_first 64 = .ok (.iload 6, 2) := by decide +kernel
theorem dX12_first_66 : decode cX12_first 66 = .ok (.iload 5, 2) := by decide +kernel
theorem dX12_first_68 : decode cX12_first 68 = .ok (.iload 4, 2) := by decide +kernel
theorem dX12_first_70 : decode cX12_first 70 = .ok (.invokevirtual 367, 3) := by decide +kernel
theorem dX12_first_73 : decode cX12_first 73 = .ok (.ifCond .eq 6, 3) := by decide +kernel
theorem dX12_first_76 : decode cX12_first 76 = .ok (.iload 4, 2) := by decide +kernel
theorem dX12_first_78 : decode cX12_first 78 = .ok (.ireturn, 1) := by decide +kernel
theorem dX12_first_79 : decode cX12_first 79 = .ok (.iinc 6 1, 3) := by decide +kernel
theorem dX12_first_82 : decode cX12_first 82 = .ok (.goto (-28), 3) := by decide +kernel
theorem dX12_first_85 : decode cX12_first 85 = .ok (.iinc 5 1, 3) := by decide +kernel
theorem dX12_first_88 : decode cX12_first 88 = .ok (.goto (-46), 3) := by decide +kernel
theorem dX12_first_91 : decode cX12_first 91 = .ok (.iinc 4 1, 3) := by decide +kernel
theorem dX12_first_94 : decode cX12_first 94 = .ok (.goto (-61), 3) := by decide +kernel
theorem dX12_first_97 : decode cX12_first 97 = .ok (.iconst (-1), 1) := by decide +kernel
theorem dX12_first_98 : decode cX12_first 98 = .ok (.ireturn, 1) := by decide +kernel
theorem dX12_workOf_0 : decode cX12_workOf 0 = .ok (.aload_n 0, 1) := by decide +kernel
theorem dX12_workOf_1 : decode cX12_workOf 1 = .ok (.iload 4, 2) := by decide +kernel
theorem dX12_workOf_3 : decode cX12_workOf 3 = .ok (.iload 5, 2) := by decide +kernel
theorem dX12_workOf_5 : decode cX12_workOf 5 = .ok (.invokevirtual 361, 3) := by decide +kernel
theorem dX12_workOf_8 : decode cX12_workOf 8 = .ok (.iconst 0, 1) := by decide +kernel
theorem dX12_workOf_9 : decode cX12_workOf 9 = .ok (.istore 6, 2) := by decide +kernel
theorem dX12_workOf_11 : decode cX12_workOf 11 = .ok (.iload_n 2, 1) := by decide +kernel
theorem dX12_workOf_12 : decode cX12_workOf 12 = .ok (.istore 7, 2) := by decide +kernel
theorem dX12_workOf_14 : decode cX12_workOf 14 = .ok (.iload 7, 2) := by decide +kernel
theorem dX12_workOf_16 : decode cX12_workOf 16 = .ok (.iload_n 3, 1) := by decide +kernel
theorem dX12_workOf_17 : decode cX12_workOf 17 = .ok (.if_icmp .ge 32, 3) := by decide +kernel
theorem dX12_workOf_20 : decode cX12_workOf 20 = .ok (.iload 6, 2) := by decide +kernel
theorem dX12_workOf_22 : decode cX12_workOf 22 = .ok (.aload_n 0, 1) := by decide +kernel
theorem dX12_workOf_23 : decode cX12_workOf 23 = .ok (.getfield 140, 3) := by decide +kernel
theorem dX12_workOf_26 : decode cX12_workOf 26 = .ok (.bipush 10, 2) := by decide +kernel
theorem dX12_workOf_28 : decode cX12_workOf 28 = .ok (.bipush 7, 2) := by decide +kernel
theorem dX12_workOf_30 : decode cX12_workOf 30 = .ok (.iload 7, 2) := by decide +kernel
theorem dX12_workOf_32 : decode cX12_workOf 32 = .ok (.imul, 1) := by decide +kernel
theorem dX12_workOf_33 : decode cX12_workOf 33 = .ok (.iload_n 1, 1) := by decide +kernel
theorem dX12_workOf_34 : decode cX12_workOf 34 = .ok (.iadd, 1) := by decide +kernel
theorem dX12_workOf_35 : decode cX12_workOf 35 = .ok (.imul, 1) := by decide +kernel
theorem dX12_workOf_36 : decode cX12_workOf 36 = .ok (.bipush 6, 2) := by decide +kernel
theorem dX12_workOf_38 : decode cX12_workOf 38 = .ok (.iadd, 1) := by decide +kernel
theorem dX12_workOf_39 : decode cX12_workOf 39 = .ok (.iaload, 1) := by decide +kernel
theorem dX12_workOf_40 : decode cX12_workOf 40 = .ok (.iadd, 1) := by decide +kernel
theorem dX12_workOf_41 : decode cX12_workOf 41 = .ok (.istore 6, 2) := by decide +kernel
theorem dX12_workOf_43 : decode cX12_workOf 43 = .ok (.iinc 7 1, 3) := by decide +kernel
theorem dX12_workOf_46 : decode cX12_workOf 46 = .ok (.goto (-32), 3) := by decide +kernel
theorem dX12_workOf_49 : decode cX12_workOf 49 = .ok (.iload 6, 2) := by decide +kernel
theorem dX12_workOf_51 : decode cX12_workOf 51 = .ok (.ireturn, 1) := by decide +kernel
theorem dX12_loss_0 : decode cX12_loss 0 = .ok (.iload_n 1, 1) := by decide +kernel
theorem dX12_loss_1 : decode cX12_loss 1 = .ok (.ifCond .lt 43, 3) := by decide +kernel
theorem dX12_loss_4 : decode cX12_loss 4 = .ok (.iload_n 1, 1) := by decide +kernel
theorem dX12_loss_5 : decode cX12_loss 5 = .ok (.aload_n 0, 1) := by decide +kernel
theorem dX12_loss_6 : decode cX12_loss 6 = .ok (.getfield 322, 3) := by decide +kernel
theorem dX12_loss_9 : decode cX12_loss 9 = .ok (.if_icmp .ge 35, 3) := by decide +kernel
theorem dX12_loss_12 : decode cX12_loss 12 = .ok (.aload_n 0, 1) := by decide +kernel
theorem dX12_loss_13 : decode cX12_loss 13 = .ok (.iload_n 2, 1) := by decide +kernel
theorem dX12_loss_14 : decode cX12_loss 14 = .ok (.invokevirtual 319, 3) := by decide +kernel
theorem dX12_loss_17 : decode cX12_loss 17 = .ok (.ifCond .eq 27, 3) := by decide +kernel
theorem dX12_loss_20 : decode cX12_loss 20 = .ok (.iload_n 3, 1) := by decide +kernel
theorem dX12_loss_21 : decode cX12_loss 21 = .ok (.invokestatic 364, 3) := by decide +kernel
theorem dX12_loss_24 : decode cX12_loss 24 = .ok (.ifCond .eq 20, 3) := by decide +kernel
theorem dX12_loss_27 : decode cX12_loss 27 = .ok (.iload 4, 2) := by decide +kernel
theorem dX12_loss_29 : decode cX12_loss 29 = .ok (.invokestatic 364, 3) := by decide +kernel
theorem dX12_loss_32 : decode cX12_loss 32 = .ok (.ifCond .eq 12, 3) := by decide +kernel
theorem dX12_loss_35 : decode cX12_loss 35 = .ok (.aload_n 0, 1) := by decide +kernel
theorem dX12_loss_36 : decode cX12_loss 36 = .ok (.iload 5, 2) := by decide +kernel
theorem dX12_loss_38 : decode cX12_loss 38 = .ok (.invokevirtual 357, 3) := by decide +kernel
theorem dX12_loss_41 : decode cX12_loss 41 = .ok (.ifCond .ne 7, 3) := by decide +kernel
theorem dX12_loss_44 : decode cX12_loss 44 = .ok (.ldc_w 360, 3) := by decide +kernel
theorem dX12_loss_47 : decode cX12_loss 47 = .ok (.ireturn, 1) := by decide +kernel
theorem dX12_loss_48 : decode cX12_loss 48 = .ok (.aload_n 0, 1) := by decide +kernel
theorem dX12_loss_49 : decode cX12_loss 49 = .ok (.iload_n 2, 1) := by decide +kernel
theorem dX12_loss_50 : decode cX12_loss 50 = .ok (.iload_n 3, 1) := by decide +kernel
theorem dX12_loss_51 : decode cX12_loss 51 = .ok (.iload 4, 2) := by decide +kernel
theorem dX12_loss_53 : decode cX12_loss 53 = .ok (.iload 5, 2) := by decide +kernel
theorem dX12_loss_55 : decode cX12_loss 55 = .ok (.iload_n 1, 1) := by decide +kernel
theorem dX12_loss_56 : decode cX12_loss 56 = .ok (.invokevirtual 371, 3) := by decide +kernel
theorem dX12_loss_59 : decode cX12_loss 59 = .ok (.aload_n 0, 1) := by decide +kernel
theorem dX12_loss_60 : decode cX12_loss 60 = .ok (.iload_n 2, 1) := by decide +kernel
theorem dX12_loss_61 : decode cX12_loss 61 = .ok (.iload_n 3, 1) := by decide +kernel
theorem dX12_loss_62 : decode cX12_loss 62 = .ok (.iload 4, 2) := by decide +kernel
theorem dX12_loss_64 : decode cX12_loss 64 = .ok (.iload 5, 2) := by decide +kernel
theorem dX12_loss_66 : decode cX12_loss 66 = .ok (.iconst (-1), 1) := by decide +kernel
theorem dX12_loss_67 : decode cX12_loss 67 = .ok (.invokevirtual 371, 3) := by decide +kernel
theorem dX12_loss_70 : decode cX12_loss 70 = .ok (.isub, 1) := by decide +kernel
theorem dX12_loss_71 : decode cX12_loss 71 = .ok (.ireturn, 1) := by decide +kernel
theorem dX12_culprit_0 : decode cX12_culprit 0 = .ok (.aload_n 0, 1) := by decide +kernel
theorem dX12_culprit_1 : decode cX12_culprit 1 = .ok (.iload_n 1, 1) := by decide +kernel
theorem dX12_culprit_2 : decode cX12_culprit 2 = .ok (.invokevirtual 319, 3) := by decide +kernel
theorem dX12_culprit_5 : decode cX12_culprit 5 = .ok (.ifCond .eq 26, 3) := by decide +kernel
theorem dX12_culprit_8 : decode cX12_culprit 8 = .ok (.iload_n 2, 1) := by decide +kernel
theorem dX12_culprit_9 : decode cX12_culprit 9 = .ok (.invokestatic 364, 3) := by decide +kernel
theorem dX12_culprit_12 : decode cX12_culprit 12 = .ok (.ifCond .eq 19, 3) := by decide +kernel
theorem dX12_culprit_15 : decode cX12_culprit 15 = .ok (.iload_n 3, 1) := by decide +kernel
theorem dX12_culprit_16 : decode cX12_culprit 16 = .ok (.invokestatic 364, 3) := by decide +kernel
theorem dX12_culprit_19 : decode cX12_culprit 19 = .ok (.ifCond .eq 12, 3) := by decide +kernel
theorem dX12_culprit_22 : decode cX12_culprit 22 = .ok (.aload_n 0, 1) := by decide +kernel
theorem dX12_culprit_23 : decode cX12_culprit 23 = .ok (.iload 4, 2) := by decide +kernel
theorem dX12_culprit_25 : decode cX12_culprit 25 = .ok (.invokevirtual 357, 3) := by decide +kernel
theorem dX12_culprit_28 : decode cX12_culprit 28 = .ok (.ifCond .ne 5, 3) := by decide +kernel
theorem dX12_culprit_31 : decode cX12_culprit 31 = .ok (.iconst (-1), 1) := by decide +kernel
theorem dX12_culprit_32 : decode cX12_culprit 32 = .ok (.ireturn, 1) := by decide +kernel
theorem dX12_culprit_33 : decode cX12_culprit 33 = .ok (.aload_n 0, 1) := by decide +kernel
theorem dX12_culprit_34 : decode cX12_culprit 34 = .ok (.iload_n 1, 1) := by decide +kernel
theorem dX12_culprit_35 : decode cX12_culprit 35 = .ok (.iload_n 2, 1) := by decide +kernel
theorem dX12_culprit_36 : decode cX12_culprit 36 = .ok (.iload_n 3, 1) := by decide +kernel
theorem dX12_culprit_37 : decode cX12_culprit 37 = .ok (.iload 4, 2) := by decide +kernel
theorem dX12_culprit_39 : decode cX12_culprit 39 = .ok (.iconst (-1), 1) := by decide +kernel
theorem dX12_culprit_40 : decode cX12_culprit 40 = .ok (.invokevirtual 371, 3) := by decide +kernel
theorem dX12_culprit_43 : decode cX12_culprit 43 = .ok (.istore 5, 2) := by decide +kernel
theorem dX12_culprit_45 : decode cX12_culprit 45 = .ok (.iconst (-1), 1) := by decide +kernel
theorem dX12_culprit_46 : decode cX12_culprit 46 = .ok (.istore 6, 2) := by decide +kernel
theorem dX12_culprit_48 : decode cX12_culprit 48 = .ok (.iconst 0, 1) := by decide +kernel
theorem dX12_culprit_49 : decode cX12_culprit 49 = .ok (.istore 7, 2) := by decide +kernel
theorem dX12_culprit_51 : decode cX12_culprit 51 = .ok (.iconst 0, 1) := by decide +kernel
theorem dX12_culprit_52 : decode cX12_culprit 52 = .ok (.istore 8, 2) := by decide +kernel
theorem dX12_culprit_54 : decode cX12_culprit 54 = .ok (.iload 8, 2) := by decide +kernel
theorem dX12_culprit_56 : decode cX12_culprit 56 = .ok (.aload_n 0, 1) := by decide +kernel
theorem dX12_culprit_57 : decode cX12_culprit 57 = .ok (.getfield 322, 3) := by decide +kernel
theorem dX12_culprit_60 : decode cX12_culprit 60 = .ok (.if_icmp .ge 57, 3) := by decide +kernel
theorem dX12_culprit_63 : decode cX12_culprit 63 = .ok (.aload_n 0, 1) := by decide +kernel
theorem dX12_culprit_64 : decode cX12_culprit 64 = .ok (.getfield 122, 3) := by decide +kernel
theorem dX12_culprit_67 : decode cX12_culprit 67 = .ok (.iload 8, 2) := by decide +kernel
theorem dX12_culprit_69 : decode cX12_culprit 69 = .ok (.iaload, 1) := by decide +kernel
theorem dX12_culprit_70 : decode cX12_culprit 70 = .ok (.iload_n 1, 1) := by decide +kernel
theorem dX12_culprit_71 : decode cX12_culprit 71 = .ok (.if_icmp .ne 6, 3) := by decide +kernel
theorem dX12_culprit_74 : decode cX12_culprit 74 = .ok (.goto 37, 3) := by decide +kernel
theorem dX12_culprit_77 : decode cX12_culprit 77 = .ok (.aload_n 0, 1) := by decide +kernel
theorem dX12_culprit_78 : decode cX12_culprit 78 = .ok (.iload_n 1, 1) := by decide +kernel
theorem dX12_culprit_79 : decode cX12_culprit 79 = .ok (.iload_n 2, 1) := by decide +kernel
theorem dX12_culprit_80 : decode cX12_culprit 80 = .ok (.iload_n 3, 1) := by decide +kernel
theorem dX12_culprit_81 : decode cX12_culprit 81 = .ok (.iload 4, 2) := by decide +kernel
theorem dX12_culprit_83 : decode cX12_culprit 83 = .ok (.iload 8, 2) := by decide +kernel
theorem dX12_culprit_85 : decode cX12_culprit 85 = .ok (.invokevirtual 371, 3) := by decide +kernel
theorem dX12_culprit_88 : decode cX12_culprit 88 = .ok (.iload 5, 2) := by decide +kernel
theorem dX12_culprit_90 : decode cX12_culprit 90 = .ok (.isub, 1) := by decide +kernel
theorem dX12_culprit_91 : decode cX12_culprit 91 = .ok (.istore 9, 2) := by decide +kernel
theorem dX12_culprit_93 : decode cX12_culprit 93 = .ok (.iload 9, 2) := by decide +kernel
theorem dX12_culprit_95 : decode cX12_culprit 95 = .ok (.iload 7, 2) := by decide +kernel
theorem dX12_culprit_97 : decode cX12_culprit 97 = .ok (.if_icmp .gt 6, 3) := by decide +kernel
theorem dX12_culprit_100 : decode cX12_culprit 100 = .ok (.goto 11, 3) := by decide +kernel
theorem dX12_culprit_103 : decode cX12_culprit 103 = .ok (.iload 9, 2) := by decide +kernel
theorem dX12_culprit_105 : decode cX12_culprit 105 = .ok (.istore 7, 2) := by decide +kernel
theorem dX12_culprit_107 : decode cX12_culprit 107 = .ok (.iload 8, 2) := by decide +kernel
theorem dX12_culprit_109 : decode cX12_culprit 109 = .ok (.istore 6, 2) := by decide +kernel
theorem dX12_culprit_111 : decode cX12_culprit 111 = .ok (.iinc 8 1, 3) := by decide +kernel
theorem dX12_culprit_114 : decode cX12_culprit 114 = .ok (.goto (-60), 3) := by decide +kernel
theorem dX12_culprit_117 : decode cX12_culprit 117 = .ok (.iload 6, 2) := by decide +kernel
theorem dX12_culprit_119 : decode cX12_culprit 119 = .ok (.ireturn, 1) := by decide +kernel
theorem dX12_isGood_0 : decode cX12_isGood 0 = .ok (.iconst 0, 1) := by decide +kernel
theorem dX12_isGood_1 : decode cX12_isGood 1 = .ok (.istore_n 2, 1) := by decide +kernel
theorem dX12_isGood_2 : decode cX12_isGood 2 = .ok (.iload_n 2, 1) := by decide +kernel
theorem dX12_isGood_3 : decode cX12_isGood 3 = .ok (.aload_n 0, 1) := by decide +kernel
theorem dX12_isGood_4 : decode cX12_isGood 4 = .ok (.getfield 307, 3) := by decide +kernel
theorem dX12_isGood_7 : decode cX12_isGood 7 = .ok (.if_icmp .ge 37, 3) := by decide +kernel
theorem dX12_isGood_10 : decode cX12_isGood 10 = .ok (.iconst 0, 1) := by decide +kernel
theorem dX12_isGood_11 : decode cX12_isGood 11 = .ok (.istore_n 3, 1) := by decide +kernel
theorem dX12_isGood_12 : decode cX12_isGood 12 = .ok (.iload_n 3, 1) := by decide +kernel
theorem dX12_isGood_13 : decode cX12_isGood 13 = .ok (.aload_n 0, 1) := by decide +kernel
theorem dX12_isGood_14 : decode cX12_isGood 14 = .ok (.getfield 263, 3) := by decide +kernel
theorem dX12_isGood_17 : decode cX12_isGood 17 = .ok (.if_icmp .ge 21, 3) := by decide +kernel
theorem dX12_isGood_20 : decode cX12_isGood 20 = .ok (.aload_n 0, 1) := by decide +kernel
theorem dX12_isGood_21 : decode cX12_isGood 21 = .ok (.iload_n 3, 1) := by decide +kernel
theorem dX12_isGood_22 : decode cX12_isGood 22 = .ok (.iload_n 2, 1) := by decide +kernel
theorem dX12_isGood_23 : decode cX12_isGood 23 = .ok (.iload_n 1, 1) := by decide +kernel
theorem dX12_isGood_24 : decode cX12_isGood 24 = .ok (.invokevirtual 367, 3) := by decide +kernel
theorem dX12_isGood_27 : decode cX12_isGood 27 = .ok (.ifCond .eq 5, 3) := by decide +kernel
theorem dX12_isGood_30 : decode cX12_isGood 30 = .ok (.iconst 0, 1) := by decide +kernel
theorem dX12_isGood_31 : decode cX12_isGood 31 = .ok (.ireturn, 1) := by decide +kernel
theorem dX12_isGood_32 : decode cX12_isGood 32 = .ok (.iinc 3 1, 3) := by decide +kernel
theorem dX12_isGood_35 : decode cX12_isGood 35 = .ok (.goto (-23), 3) := by decide +kernel
theorem dX12_isGood_38 : decode cX12_isGood 38 = .ok (.iinc 2 1, 3) := by decide +kernel
theorem dX12_isGood_41 : decode cX12_isGood 41 = .ok (.goto (-39), 3) := by decide +kernel
theorem dX12_isGood_44 : decode cX12_isGood 44 = .ok (.iconst 1, 1) := by decide +kernel
theorem dX12_isGood_45 : decode cX12_isGood 45 = .ok (.ireturn, 1) := by decide +kernel
theorem dX12_plan_0 : decode cX12_plan 0 = .ok (.aload_n 0, 1) := by decide +kernel
theorem dX12_plan_1 : decode cX12_plan 1 = .ok (.iload_n 1, 1) := by decide +kernel
theorem dX12_plan_2 : decode cX12_plan 2 = .ok (.invokevirtual 319, 3) := by decide +kernel
theorem dX12_plan_5 : decode cX12_plan 5 = .ok (.ifCond .eq 37, 3) := by decide +kernel
theorem dX12_plan_8 : decode cX12_plan 8 = .ok (.iload_n 2, 1) := by decide +kernel
theorem dX12_plan_9 : decode cX12_plan 9 = .ok (.iconst 1, 1) := by decide +kernel
theorem dX12_plan_10 : decode cX12_plan 10 = .ok (.if_icmp .lt 32, 3) := by decide +kernel
theorem dX12_plan_13 : decode cX12_plan 13 = .ok (.iload_n 2, 1) := by decide +kernel
theorem dX12_plan_14 : decode cX12_plan 14 = .ok (.bipush 6, 2) := by decide +kernel
theorem dX12_plan_16 : decode cX12_plan 16 = .ok (.if_icmp .gt 26, 3) := by decide +kernel
theorem dX12_plan_19 : decode cX12_plan 19 = .ok (.aload_n 0, 1) := by decide +kernel
theorem dX12_plan_20 : decode cX12_plan 20 = .ok (.getfield 310, 3) := by decide +kernel
theorem dX12_plan_23 : decode cX12_plan 23 = .ok (.iload_n 2, 1) := by decide +kernel
theorem dX12_plan_24 : decode cX12_plan 24 = .ok (.iadd, 1) := by decide +kernel
theorem dX12_plan_25 : decode cX12_plan 25 = .ok (.sipush 240, 3) := by decide +kernel
theorem dX12_plan_28 : decode cX12_plan 28 = .ok (.if_icmp .gt 14, 3) := by decide +kernel
theorem dX12_plan_31 : decode cX12_plan 31 = .ok (.iload_n 3, 1) := by decide +kernel
theorem dX12_plan_32 : decode cX12_plan 32 = .ok (.ifCond .lt 10, 3) := by decide +kernel
theorem dX12_plan_35 : decode cX12_plan 35 = .ok (.iload_n 3, 1) := by decide +kernel
theorem dX12_plan_36 : decode cX12_plan 36 = .ok (.sipush 10000, 3) := by decide +kernel
theorem dX12_plan_39 : decode cX12_plan 39 = .ok (.if_icmp .le 6, 3) := by decide +kernel
theorem dX12_plan_42 : decode cX12_plan 42 = .ok (.bipush (-2), 2) := by decide +kernel
theorem dX12_plan_44 : decode cX12_plan 44 = .ok (.ireturn, 1) := by decide +kernel
theorem dX12_plan_45 : decode cX12_plan 45 = .ok (.aload_n 0, 1) := by decide +kernel
theorem dX12_plan_46 : decode cX12_plan 46 = .ok (.aload_n 0, 1) := by decide +kernel
theorem dX12_plan_47 : decode cX12_plan 47 = .ok (.getfield 316, 3) := by decide +kernel
theorem dX12_plan_50 : decode cX12_plan 50 = .ok (.iconst (-1), 1) := by decide +kernel
theorem dX12_plan_51 : decode cX12_plan 51 = .ok (.invokevirtual 361, 3) := by decide +kernel
theorem dX12_plan_54 : decode cX12_plan 54 = .ok (.aload_n 0, 1) := by decide +kernel
theorem dX12_plan_55 : decode cX12_plan 55 = .ok (.invokevirtual 278, 3) := by decide +kernel
theorem dX12_plan_58 : decode cX12_plan 58 = .ok (.iconst (-1), 1) := by decide +kernel
theorem dX12_plan_59 : decode cX12_plan 59 = .ok (.istore 4, 2) := by decide +kernel
theorem dX12_plan_61 : decode cX12_plan 61 = .ok (.iconst 0, 1) := by decide +kernel
theorem dX12_plan_62 : decode cX12_plan 62 = .ok (.istore 5, 2) := by decide +kernel
theorem dX12_plan_64 : decode cX12_plan 64 = .ok (.aload_n 0, 1) := by decide +kernel
theorem dX12_plan_65 : decode cX12_plan 65 = .ok (.getfield 164, 3) := by decide +kernel
theorem dX12_plan_68 : decode cX12_plan 68 = .ok (.iconst 0, 1) := by decide +kernel
theorem dX12_plan_69 : decode cX12_plan 69 = .ok (.iconst (-1), 1) := by decide +kernel
theorem dX12_plan_70 : decode cX12_plan 70 = .ok (.iastore, 1) := by decide +kernel
theorem dX12_plan_71 : decode cX12_plan 71 = .ok (.iload 5, 2) := by decide +kernel
theorem dX12_plan_73 : decode cX12_plan 73 = .ok (.ifCond .lt 248, 3) := by decide +kernel
theorem dX12_plan_76 : decode cX12_plan 76 = .ok (.aload_n 0, 1) := by decide +kernel
theorem dX12_plan_77 : decode cX12_plan 77 = .ok (.getfield 164, 3) := by decide +kernel
theorem dX12_plan_80 : decode cX12_plan 80 = .ok (.iload 5, 2) := by decide +kernel
theorem dX12_plan_82 : decode cX12_plan 82 = .ok (.dup2, 1) := by decide +kernel
theorem dX12_plan_83 : decode cX12_plan 83 = .ok (.iaload, 1) := by decide +kernel
theorem dX12_plan_84 : decode cX12_plan 84 = .ok (.iconst 1, 1) := by decide +kernel
theorem dX12_plan_85 : decode cX12_plan 85 = .ok (.iadd, 1) := by decide +kernel
theorem dX12_plan_86 : decode cX12_plan 86 = .ok (.iastore, 1) := by decide +kernel
theorem dX12_plan_87 : decode cX12_plan 87 = .ok (.aload_n 0, 1) := by decide +kernel
theorem dX12_plan_88 : decode cX12_plan 88 = .ok (.getfield 164, 3) := by decide +kernel
theorem dX12_plan_91 : decode cX12_plan 91 = .ok (.iload 5, 2) := by decide +kernel
theorem dX12_plan_93 : decode cX12_plan 93 = .ok (.iaload, 1) := by decide +kernel
theorem dX12_plan_94 : decode cX12_plan 94 = .ok (.aload_n 0, 1) := by decide +kernel
theorem dX12_plan_95 : decode cX12_plan 95 = .ok (.getfield 101, 3) := by decide +kernel
theorem dX12_plan_98 : decode cX12_plan 98 = .ok (.iload_n 1, 1) := by decide +kernel
theorem dX12_plan_99 : decode cX12_plan 99 = .ok (.iaload, 1) := by decide +kernel
theorem dX12_plan_100 : decode cX12_plan 100 = .ok (.if_icmp .le 9, 3) := by decide +kernel
theorem dX12_plan_103 : decode cX12_plan 103 = .ok (.iinc 5 (-1), 3) := by decide +kernel
theorem dX12_plan_106 : decode cX12_plan 106 = .ok (.goto (-35), 3) := by decide +kernel
theorem dX12_plan_109 : decode cX12_plan 109 = .ok (.aload_n 0, 1) := by decide +kernel
theorem dX12_plan_110 : decode cX12_plan 110 = .ok (.getfield 310, 3) := by decide +kernel
theorem dX12_plan_113 : decode cX12_plan 113 = .ok (.iload 5, 2) := by decide +kernel
theorem dX12_plan_115 : decode cX12_plan 115 = .ok (.iadd, 1) := by decide +kernel
theorem dX12_plan_116 : decode cX12_plan 116 = .ok (.istore 6, 2) := by decide +kernel
theorem dX12_plan_118 : decode cX12_plan 118 = .ok (.aload_n 0, 1) := by decide +kernel
theorem dX12_plan_119 : decode cX12_plan 119 = .ok (.iload 6, 2) := by decide +kernel
theorem dX12_plan_121 : decode cX12_plan 121 = .ok (.iload_n 1, 1) := by decide +kernel
theorem dX12_plan_122 : decode cX12_plan 122 = .ok (.aload_n 0, 1) := by decide +kernel
theorem dX12_plan_123 : decode cX12_plan 123 = .ok (.getfield 164, 3) := by decide +kernel
theorem dX12_plan_126 : decode cX12_plan 126 = .ok (.iload 5, 2) := by decide +kernel
theorem dX12_plan_128 : decode cX12_plan 128 = .ok (.iaload, 1) := by decide +kernel
theorem dX12_plan_129 : decode cX12_plan 129 = .ok (.invokevirtual 353, 3) := by decide +kernel
theorem dX12_plan_132 : decode cX12_plan 132 = .ok (.bipush 10, 2) := by decide +kernel
theorem dX12_plan_134 : decode cX12_plan 134 = .ok (.bipush 7, 2) := by decide +kernel
theorem dX12_plan_136 : decode cX12_plan 136 = .ok (.iload 6, 2) := by decide +kernel
theorem dX12_plan_138 : decode cX12_plan 138 = .ok (.imul, 1) := by decide +kernel
theorem dX12_plan_139 : decode cX12_plan 139 = .ok (.iload_n 1, 1) := by decide +kernel
theorem dX12_plan_140 : decode cX12_plan 140 = .ok (.iadd, 1) := by decide +kernel
theorem dX12_plan_141 : decode cX12_plan 141 = .ok (.imul, 1) := by decide +kernel
theorem dX12_plan_142 : decode cX12_plan 142 = .ok (.istore 7, 2) := by decide +kernel
theorem dX12_plan_144 : decode cX12_plan 144 = .ok (.aload_n 0, 1) := by decide +kernel
theorem dX12_plan_145 : decode cX12_plan 145 = .ok (.getfield 170, 3) := by decide +kernel
theorem dX12_plan_148 : decode cX12_plan 148 = .ok (.iload 5, 2) := by decide +kernel
theorem dX12_plan_150 : decode cX12_plan 150 = .ok (.iconst 1, 1) := by decide +kernel
theorem dX12_plan_151 : decode cX12_plan 151 = .ok (.iadd, 1) := by decide +kernel
theorem dX12_plan_152 : decode cX12_plan 152 = .ok (.aload_n 0, 1) := by decide +kernel
theorem dX12_plan_153 : decode cX12_plan 153 = .ok (.getfield 170, 3) := by decide +kernel
theorem dX12_plan_156 : decode cX12_plan 156 = .ok (.iload 5, 2) := by decide +kernel
