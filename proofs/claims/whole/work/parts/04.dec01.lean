theorem dX7_readFact_1 : decode cX7_readFact 1 = .ok (.getfield 27, 3) := by decide +kernel
theorem dX7_readFact_4 : decode cX7_readFact 4 = .ok (.getfield 96, 3) := by decide +kernel
theorem dX7_readFact_7 : decode cX7_readFact 7 = .ok (.bipush 8, 2) := by decide +kernel
theorem dX7_readFact_9 : decode cX7_readFact 9 = .ok (.if_icmp .lt 8, 3) := by decide +kernel
theorem dX7_readFact_12 : decode cX7_readFact 12 = .ok (.aload_n 0, 1) := by decide +kernel
theorem dX7_readFact_13 : decode cX7_readFact 13 = .ok (.iconst 5, 1) := by decide +kernel
theorem dX7_readFact_14 : decode cX7_readFact 14 = .ok (.invokevirtual 71, 3) := by decide +kernel
theorem dX7_readFact_17 : decode cX7_readFact 17 = .ok (.aload_n 0, 1) := by decide +kernel
theorem dX7_readFact_18 : decode cX7_readFact 18 = .ok (.getfield 23, 3) := by decide +kernel
theorem dX7_readFact_21 : decode cX7_readFact 21 = .ok (.invokevirtual 74, 3) := by decide +kernel
theorem dX7_readFact_24 : decode cX7_readFact 24 = .ok (.aload_n 0, 1) := by decide +kernel
theorem dX7_readFact_25 : decode cX7_readFact 25 = .ok (.bipush 11, 2) := by decide +kernel
theorem dX7_readFact_27 : decode cX7_readFact 27 = .ok (.invokevirtual 54, 3) := by decide +kernel
theorem dX7_readFact_30 : decode cX7_readFact 30 = .ok (.aload_n 0, 1) := by decide +kernel
theorem dX7_readFact_31 : decode cX7_readFact 31 = .ok (.getfield 23, 3) := by decide +kernel
theorem dX7_readFact_34 : decode cX7_readFact 34 = .ok (.getfield 77, 3) := by decide +kernel
theorem dX7_readFact_37 : decode cX7_readFact 37 = .ok (.lstore_n 1, 1) := by decide +kernel
theorem dX7_readFact_38 : decode cX7_readFact 38 = .ok (.aload_n 0, 1) := by decide +kernel
theorem dX7_readFact_39 : decode cX7_readFact 39 = .ok (.getfield 27, 3) := by decide +kernel
theorem dX7_readFact_42 : decode cX7_readFact 42 = .ok (.lload_n 1, 1) := by decide +kernel
theorem dX7_readFact_43 : decode cX7_readFact 43 = .ok (.invokevirtual 101, 3) := by decide +kernel
theorem dX7_readFact_46 : decode cX7_readFact 46 = .ok (.iconst (-1), 1) := by decide +kernel
theorem dX7_readFact_47 : decode cX7_readFact 47 = .ok (.if_icmp .eq 8, 3) := by decide +kernel
theorem dX7_readFact_50 : decode cX7_readFact 50 = .ok (.aload_n 0, 1) := by decide +kernel
theorem dX7_readFact_51 : decode cX7_readFact 51 = .ok (.iconst 3, 1) := by decide +kernel
theorem dX7_readFact_52 : decode cX7_readFact 52 = .ok (.invokevirtual 71, 3) := by decide +kernel
theorem dX7_readFact_55 : decode cX7_readFact 55 = .ok (.aload_n 0, 1) := by decide +kernel
theorem dX7_readFact_56 : decode cX7_readFact 56 = .ok (.getfield 23, 3) := by decide +kernel
theorem dX7_readFact_59 : decode cX7_readFact 59 = .ok (.invokevirtual 74, 3) := by decide +kernel
theorem dX7_readFact_62 : decode cX7_readFact 62 = .ok (.aload_n 0, 1) := by decide +kernel
theorem dX7_readFact_63 : decode cX7_readFact 63 = .ok (.iconst 0, 1) := by decide +kernel
theorem dX7_readFact_64 : decode cX7_readFact 64 = .ok (.invokevirtual 105, 3) := by decide +kernel
theorem dX7_readFact_67 : decode cX7_readFact 67 = .ok (.istore_n 3, 1) := by decide +kernel
theorem dX7_readFact_68 : decode cX7_readFact 68 = .ok (.aload_n 0, 1) := by decide +kernel
theorem dX7_readFact_69 : decode cX7_readFact 69 = .ok (.getfield 23, 3) := by decide +kernel
theorem dX7_readFact_72 : decode cX7_readFact 72 = .ok (.invokevirtual 74, 3) := by decide +kernel
theorem dX7_readFact_75 : decode cX7_readFact 75 = .ok (.aload_n 0, 1) := by decide +kernel
theorem dX7_readFact_76 : decode cX7_readFact 76 = .ok (.iconst 1, 1) := by decide +kernel
theorem dX7_readFact_77 : decode cX7_readFact 77 = .ok (.invokevirtual 109, 3) := by decide +kernel
theorem dX7_readFact_80 : decode cX7_readFact 80 = .ok (.aload_n 0, 1) := by decide +kernel
theorem dX7_readFact_81 : decode cX7_readFact 81 = .ok (.iload_n 3, 1) := by decide +kernel
theorem dX7_readFact_82 : decode cX7_readFact 82 = .ok (.invokevirtual 105, 3) := by decide +kernel
theorem dX7_readFact_85 : decode cX7_readFact 85 = .ok (.istore 4, 2) := by decide +kernel
theorem dX7_readFact_87 : decode cX7_readFact 87 = .ok (.aload_n 0, 1) := by decide +kernel
theorem dX7_readFact_88 : decode cX7_readFact 88 = .ok (.getfield 27, 3) := by decide +kernel
theorem dX7_readFact_91 : decode cX7_readFact 91 = .ok (.getfield 112, 3) := by decide +kernel
theorem dX7_readFact_94 : decode cX7_readFact 94 = .ok (.iload 4, 2) := by decide +kernel
theorem dX7_readFact_96 : decode cX7_readFact 96 = .ok (.iload_n 3, 1) := by decide +kernel
theorem dX7_readFact_97 : decode cX7_readFact 97 = .ok (.isub, 1) := by decide +kernel
theorem dX7_readFact_98 : decode cX7_readFact 98 = .ok (.iconst 1, 1) := by decide +kernel
theorem dX7_readFact_99 : decode cX7_readFact 99 = .ok (.iadd, 1) := by decide +kernel
theorem dX7_readFact_100 : decode cX7_readFact 100 = .ok (.imul, 1) := by decide +kernel
theorem dX7_readFact_101 : decode cX7_readFact 101 = .ok (.sipush 2000, 3) := by decide +kernel
theorem dX7_readFact_104 : decode cX7_readFact 104 = .ok (.if_icmp .le 8, 3) := by decide +kernel
theorem dX7_readFact_107 : decode cX7_readFact 107 = .ok (.aload_n 0, 1) := by decide +kernel
theorem dX7_readFact_108 : decode cX7_readFact 108 = .ok (.iconst 5, 1) := by decide +kernel
theorem dX7_readFact_109 : decode cX7_readFact 109 = .ok (.invokevirtual 71, 3) := by decide +kernel
theorem dX7_readFact_112 : decode cX7_readFact 112 = .ok (.aload_n 0, 1) := by decide +kernel
theorem dX7_readFact_113 : decode cX7_readFact 113 = .ok (.getfield 23, 3) := by decide +kernel
theorem dX7_readFact_116 : decode cX7_readFact 116 = .ok (.invokevirtual 74, 3) := by decide +kernel
theorem dX7_readFact_119 : decode cX7_readFact 119 = .ok (.aload_n 0, 1) := by decide +kernel
theorem dX7_readFact_120 : decode cX7_readFact 120 = .ok (.bipush 59, 2) := by decide +kernel
theorem dX7_readFact_122 : decode cX7_readFact 122 = .ok (.invokevirtual 109, 3) := by decide +kernel
theorem dX7_readFact_125 : decode cX7_readFact 125 = .ok (.aload_n 0, 1) := by decide +kernel
theorem dX7_readFact_126 : decode cX7_readFact 126 = .ok (.getfield 27, 3) := by decide +kernel
theorem dX7_readFact_129 : decode cX7_readFact 129 = .ok (.lload_n 1, 1) := by decide +kernel
theorem dX7_readFact_130 : decode cX7_readFact 130 = .ok (.iload_n 3, 1) := by decide +kernel
theorem dX7_readFact_131 : decode cX7_readFact 131 = .ok (.iload 4, 2) := by decide +kernel
theorem dX7_readFact_133 : decode cX7_readFact 133 = .ok (.invokevirtual 115, 3) := by decide +kernel
theorem dX7_readFact_136 : decode cX7_readFact 136 = .ok (.return_, 1) := by decide +kernel
theorem dX7_readClause_0 : decode cX7_readClause 0 = .ok (.aload_n 0, 1) := by decide +kernel
theorem dX7_readClause_1 : decode cX7_readClause 1 = .ok (.getfield 27, 3) := by decide +kernel
theorem dX7_readClause_4 : decode cX7_readClause 4 = .ok (.getfield 119, 3) := by decide +kernel
theorem dX7_readClause_7 : decode cX7_readClause 7 = .ok (.bipush 12, 2) := by decide +kernel
theorem dX7_readClause_9 : decode cX7_readClause 9 = .ok (.if_icmp .lt 8, 3) := by decide +kernel
theorem dX7_readClause_12 : decode cX7_readClause 12 = .ok (.aload_n 0, 1) := by decide +kernel
theorem dX7_readClause_13 : decode cX7_readClause 13 = .ok (.iconst 5, 1) := by decide +kernel
theorem dX7_readClause_14 : decode cX7_readClause 14 = .ok (.invokevirtual 71, 3) := by decide +kernel
theorem dX7_readClause_17 : decode cX7_readClause 17 = .ok (.aload_n 0, 1) := by decide +kernel
theorem dX7_readClause_18 : decode cX7_readClause 18 = .ok (.getfield 23, 3) := by decide +kernel
theorem dX7_readClause_21 : decode cX7_readClause 21 = .ok (.invokevirtual 74, 3) := by decide +kernel
theorem dX7_readClause_24 : decode cX7_readClause 24 = .ok (.aload_n 0, 1) := by decide +kernel
theorem dX7_readClause_25 : decode cX7_readClause 25 = .ok (.bipush 11, 2) := by decide +kernel
theorem dX7_readClause_27 : decode cX7_readClause 27 = .ok (.invokevirtual 54, 3) := by decide +kernel
theorem dX7_readClause_30 : decode cX7_readClause 30 = .ok (.aload_n 0, 1) := by decide +kernel
theorem dX7_readClause_31 : decode cX7_readClause 31 = .ok (.getfield 23, 3) := by decide +kernel
theorem dX7_readClause_34 : decode cX7_readClause 34 = .ok (.getfield 77, 3) := by decide +kernel
theorem dX7_readClause_37 : decode cX7_readClause 37 = .ok (.lstore_n 1, 1) := by decide +kernel
theorem dX7_readClause_38 : decode cX7_readClause 38 = .ok (.aload_n 0, 1) := by decide +kernel
theorem dX7_readClause_39 : decode cX7_readClause 39 = .ok (.getfield 27, 3) := by decide +kernel
theorem dX7_readClause_42 : decode cX7_readClause 42 = .ok (.lload_n 1, 1) := by decide +kernel
theorem dX7_readClause_43 : decode cX7_readClause 43 = .ok (.invokevirtual 122, 3) := by decide +kernel
theorem dX7_readClause_46 : decode cX7_readClause 46 = .ok (.ifCond .eq 8, 3) := by decide +kernel
theorem dX7_readClause_49 : decode cX7_readClause 49 = .ok (.aload_n 0, 1) := by decide +kernel
theorem dX7_readClause_50 : decode cX7_readClause 50 = .ok (.iconst 3, 1) := by decide +kernel
theorem dX7_readClause_51 : decode cX7_readClause 51 = .ok (.invokevirtual 71, 3) := by decide +kernel
theorem dX7_readClause_54 : decode cX7_readClause 54 = .ok (.aload_n 0, 1) := by decide +kernel
theorem dX7_readClause_55 : decode cX7_readClause 55 = .ok (.getfield 23, 3) := by decide +kernel
theorem dX7_readClause_58 : decode cX7_readClause 58 = .ok (.invokevirtual 74, 3) := by decide +kernel
theorem dX7_readClause_61 : decode cX7_readClause 61 = .ok (.aload_n 0, 1) := by decide +kernel
theorem dX7_readClause_62 : decode cX7_readClause 62 = .ok (.iconst 3, 1) := by decide +kernel
theorem dX7_readClause_63 : decode cX7_readClause 63 = .ok (.invokevirtual 109, 3) := by decide +kernel
theorem dX7_readClause_66 : decode cX7_readClause 66 = .ok (.aload_n 0, 1) := by decide +kernel
theorem dX7_readClause_67 : decode cX7_readClause 67 = .ok (.iconst 0, 1) := by decide +kernel
theorem dX7_readClause_68 : decode cX7_readClause 68 = .ok (.invokevirtual 105, 3) := by decide +kernel
theorem dX7_readClause_71 : decode cX7_readClause 71 = .ok (.istore_n 3, 1) := by decide +kernel
theorem dX7_readClause_72 : decode cX7_readClause 72 = .ok (.aload_n 0, 1) := by decide +kernel
theorem dX7_readClause_73 : decode cX7_readClause 73 = .ok (.getfield 23, 3) := by decide +kernel
theorem dX7_readClause_76 : decode cX7_readClause 76 = .ok (.invokevirtual 74, 3) := by decide +kernel
theorem dX7_readClause_79 : decode cX7_readClause 79 = .ok (.aload_n 0, 1) := by decide +kernel
theorem dX7_readClause_80 : decode cX7_readClause 80 = .ok (.getfield 23, 3) := by decide +kernel
theorem dX7_readClause_83 : decode cX7_readClause 83 = .ok (.getfield 44, 3) := by decide +kernel
theorem dX7_readClause_86 : decode cX7_readClause 86 = .ok (.iconst 4, 1) := by decide +kernel
theorem dX7_readClause_87 : decode cX7_readClause 87 = .ok (.if_icmp .ne 7, 3) := by decide +kernel
theorem dX7_readClause_90 : decode cX7_readClause 90 = .ok (.iconst 1, 1) := by decide +kernel
theorem dX7_readClause_91 : decode cX7_readClause 91 = .ok (.goto 4, 3) := by decide +kernel
theorem dX7_readClause_94 : decode cX7_readClause 94 = .ok (.iconst 0, 1) := by decide +kernel
theorem dX7_readClause_95 : decode cX7_readClause 95 = .ok (.istore 4, 2) := by decide +kernel
theorem dX7_readClause_97 : decode cX7_readClause 97 = .ok (.iload 4, 2) := by decide +kernel
theorem dX7_readClause_99 : decode cX7_readClause 99 = .ok (.ifCond .eq 10, 3) := by decide +kernel
theorem dX7_readClause_102 : decode cX7_readClause 102 = .ok (.aload_n 0, 1) := by decide +kernel
theorem dX7_readClause_103 : decode cX7_readClause 103 = .ok (.getfield 23, 3) := by decide +kernel
theorem dX7_readClause_106 : decode cX7_readClause 106 = .ok (.invokevirtual 74, 3) := by decide +kernel
theorem dX7_readClause_109 : decode cX7_readClause 109 = .ok (.aload_n 0, 1) := by decide +kernel
theorem dX7_readClause_110 : decode cX7_readClause 110 = .ok (.iconst 5, 1) := by decide +kernel
theorem dX7_readClause_111 : decode cX7_readClause 111 = .ok (.invokevirtual 109, 3) := by decide +kernel
theorem dX7_readClause_114 : decode cX7_readClause 114 = .ok (.new 126, 3) := by decide +kernel
theorem dX7_readClause_117 : decode cX7_readClause 117 = .ok (.dup, 1) := by decide +kernel
theorem dX7_readClause_118 : decode cX7_readClause 118 = .ok (.lload_n 1, 1) := by decide +kernel
theorem dX7_readClause_119 : decode cX7_readClause 119 = .ok (.iload_n 3, 1) := by decide +kernel
theorem dX7_readClause_120 : decode cX7_readClause 120 = .ok (.iload 4, 2) := by decide +kernel
theorem dX7_readClause_122 : decode cX7_readClause 122 = .ok (.aload_n 0, 1) := by decide +kernel
theorem dX7_readClause_123 : decode cX7_readClause 123 = .ok (.invokevirtual 128, 3) := by decide +kernel
theorem dX7_readClause_126 : decode cX7_readClause 126 = .ok (.invokespecial 132, 3) := by decide +kernel
theorem dX7_readClause_129 : decode cX7_readClause 129 = .ok (.astore 5, 2) := by decide +kernel
theorem dX7_readClause_131 : decode cX7_readClause 131 = .ok (.aload_n 0, 1) := by decide +kernel
theorem dX7_readClause_132 : decode cX7_readClause 132 = .ok (.bipush 59, 2) := by decide +kernel
theorem dX7_readClause_134 : decode cX7_readClause 134 = .ok (.invokevirtual 109, 3) := by decide +kernel
theorem dX7_readClause_137 : decode cX7_readClause 137 = .ok (.aload_n 0, 1) := by decide +kernel
theorem dX7_readClause_138 : decode cX7_readClause 138 = .ok (.aload 5, 2) := by decide +kernel
theorem dX7_readClause_140 : decode cX7_readClause 140 = .ok (.invokevirtual 135, 3) := by decide +kernel
theorem dX7_readClause_143 : decode cX7_readClause 143 = .ok (.aload_n 0, 1) := by decide +kernel
theorem dX7_readClause_144 : decode cX7_readClause 144 = .ok (.bipush 8, 2) := by decide +kernel
theorem dX7_readClause_146 : decode cX7_readClause 146 = .ok (.invokevirtual 109, 3) := by decide +kernel
theorem dX7_readClause_149 : decode cX7_readClause 149 = .ok (.aload_n 0, 1) := by decide +kernel
theorem dX7_readClause_150 : decode cX7_readClause 150 = .ok (.aload 5, 2) := by decide +kernel
theorem dX7_readClause_152 : decode cX7_readClause 152 = .ok (.invokevirtual 139, 3) := by decide +kernel
theorem dX7_readClause_155 : decode cX7_readClause 155 = .ok (.aload_n 0, 1) := by decide +kernel
theorem dX7_readClause_156 : decode cX7_readClause 156 = .ok (.bipush 59, 2) := by decide +kernel
theorem dX7_readClause_158 : decode cX7_readClause 158 = .ok (.invokevirtual 109, 3) := by decide +kernel
theorem dX7_readClause_161 : decode cX7_readClause 161 = .ok (.aload_n 0, 1) := by decide +kernel
theorem dX7_readClause_162 : decode cX7_readClause 162 = .ok (.getfield 27, 3) := by decide +kernel
theorem dX7_readClause_165 : decode cX7_readClause 165 = .ok (.aload 5, 2) := by decide +kernel
theorem dX7_readClause_167 : decode cX7_readClause 167 = .ok (.invokevirtual 142, 3) := by decide +kernel
theorem dX7_readClause_170 : decode cX7_readClause 170 = .ok (.return_, 1) := by decide +kernel
theorem dX7_readLinks_0 : decode cX7_readLinks 0 = .ok (.iconst 0, 1) := by decide +kernel
theorem dX7_readLinks_1 : decode cX7_readLinks 1 = .ok (.istore_n 2, 1) := by decide +kernel
theorem dX7_readLinks_2 : decode cX7_readLinks 2 = .ok (.iload_n 2, 1) := by decide +kernel
theorem dX7_readLinks_3 : decode cX7_readLinks 3 = .ok (.bipush 8, 2) := by decide +kernel
theorem dX7_readLinks_5 : decode cX7_readLinks 5 = .ok (.if_icmp .gt 30, 3) := by decide +kernel
theorem dX7_readLinks_8 : decode cX7_readLinks 8 = .ok (.aload_n 0, 1) := by decide +kernel
theorem dX7_readLinks_9 : decode cX7_readLinks 9 = .ok (.getfield 23, 3) := by decide +kernel
theorem dX7_readLinks_12 : decode cX7_readLinks 12 = .ok (.getfield 44, 3) := by decide +kernel
theorem dX7_readLinks_15 : decode cX7_readLinks 15 = .ok (.bipush 6, 2) := by decide +kernel
theorem dX7_readLinks_17 : decode cX7_readLinks 17 = .ok (.if_icmp .ne 18, 3) := by decide +kernel
theorem dX7_readLinks_20 : decode cX7_readLinks 20 = .ok (.aload_n 1, 1) := by decide +kernel
theorem dX7_readLinks_21 : decode cX7_readLinks 21 = .ok (.aload_n 0, 1) := by decide +kernel
theorem dX7_readLinks_22 : decode cX7_readLinks 22 = .ok (.aload_n 1, 1) := by decide +kernel
theorem dX7_readLinks_23 : decode cX7_readLinks 23 = .ok (.invokevirtual 145, 3) := by decide +kernel
theorem dX7_readLinks_26 : decode cX7_readLinks 26 = .ok (.invokevirtual 149, 3) := by decide +kernel
theorem dX7_readLinks_29 : decode cX7_readLinks 29 = .ok (.iinc 2 1, 3) := by decide +kernel
theorem dX7_readLinks_32 : decode cX7_readLinks 32 = .ok (.goto (-30), 3) := by decide +kernel
theorem dX7_readLinks_35 : decode cX7_readLinks 35 = .ok (.iconst 0, 1) := by decide +kernel
theorem dX7_readLinks_36 : decode cX7_readLinks 36 = .ok (.istore_n 2, 1) := by decide +kernel
theorem dX7_readLinks_37 : decode cX7_readLinks 37 = .ok (.iload_n 2, 1) := by decide +kernel
theorem dX7_readLinks_38 : decode cX7_readLinks 38 = .ok (.bipush 8, 2) := by decide +kernel
theorem dX7_readLinks_40 : decode cX7_readLinks 40 = .ok (.if_icmp .gt 30, 3) := by decide +kernel
theorem dX7_readLinks_43 : decode cX7_readLinks 43 = .ok (.aload_n 0, 1) := by decide +kernel
theorem dX7_readLinks_44 : decode cX7_readLinks 44 = .ok (.getfield 23, 3) := by decide +kernel
theorem dX7_readLinks_47 : decode cX7_readLinks 47 = .ok (.getfield 44, 3) := by decide +kernel
theorem dX7_readLinks_50 : decode cX7_readLinks 50 = .ok (.bipush 7, 2) := by decide +kernel
theorem dX7_readLinks_52 : decode cX7_readLinks 52 = .ok (.if_icmp .ne 18, 3) := by decide +kernel
theorem dX7_readLinks_55 : decode cX7_readLinks 55 = .ok (.aload_n 1, 1) := by decide +kernel
theorem dX7_readLinks_56 : decode cX7_readLinks 56 = .ok (.aload_n 0, 1) := by decide +kernel
theorem dX7_readLinks_57 : decode cX7_readLinks 57 = .ok (.aload_n 1, 1) := by decide +kernel
theorem dX7_readLinks_58 : decode cX7_readLinks 58 = .ok (.invokevirtual 145, 3) := by decide +kernel
theorem dX7_readLinks_61 : decode cX7_readLinks 61 = .ok (.invokevirtual 152, 3) := by decide +kernel
theorem dX7_readLinks_64 : decode cX7_readLinks 64 = .ok (.iinc 2 1, 3) := by decide +kernel
theorem dX7_readLinks_67 : decode cX7_readLinks 67 = .ok (.goto (-30), 3) := by decide +kernel
theorem dX7_readLinks_70 : decode cX7_readLinks 70 = .ok (.return_, 1) := by decide +kernel
theorem dX7_readLink_0 : decode cX7_readLink 0 = .ok (.aload_n 1, 1) := by decide +kernel
theorem dX7_readLink_1 : decode cX7_readLink 1 = .ok (.invokevirtual 155, 3) := by decide +kernel
theorem dX7_readLink_4 : decode cX7_readLink 4 = .ok (.ifCond .eq 8, 3) := by decide +kernel
theorem dX7_readLink_7 : decode cX7_readLink 7 = .ok (.aload_n 0, 1) := by decide +kernel
theorem dX7_readLink_8 : decode cX7_readLink 8 = .ok (.iconst 5, 1) := by decide +kernel
theorem dX7_readLink_9 : decode cX7_readLink 9 = .ok (.invokevirtual 71, 3) := by decide +kernel
theorem dX7_readLink_12 : decode cX7_readLink 12 = .ok (.aload_n 0, 1) := by decide +kernel
theorem dX7_readLink_13 : decode cX7_readLink 13 = .ok (.getfield 23, 3) := by decide +kernel
theorem dX7_readLink_16 : decode cX7_readLink 16 = .ok (.invokevirtual 74, 3) := by decide +kernel
theorem dX7_readLink_19 : decode cX7_readLink 19 = .ok (.aload_n 0, 1) := by decide +kernel
theorem dX7_readLink_20 : decode cX7_readLink 20 = .ok (.invokevirtual 159, 3) := by decide +kernel
theorem dX7_readLink_23 : decode cX7_readLink 23 = .ok (.istore_n 2, 1) := by decide +kernel
theorem dX7_readLink_24 : decode cX7_readLink 24 = .ok (.aload_n 0, 1) := by decide +kernel
theorem dX7_readLink_25 : decode cX7_readLink 25 = .ok (.bipush 59, 2) := by decide +kernel
theorem dX7_readLink_27 : decode cX7_readLink 27 = .ok (.invokevirtual 109, 3) := by decide +kernel
theorem dX7_readLink_30 : decode cX7_readLink 30 = .ok (.iload_n 2, 1) := by decide +kernel
theorem dX7_readLink_31 : decode cX7_readLink 31 = .ok (.ireturn, 1) := by decide +kernel
theorem dX7_readTarget_0 : decode cX7_readTarget 0 = .ok (.aload_n 0, 1) := by decide +kernel
theorem dX7_readTarget_1 : decode cX7_readTarget 1 = .ok (.bipush 11, 2) := by decide +kernel
theorem dX7_readTarget_3 : decode cX7_readTarget 3 = .ok (.invokevirtual 54, 3) := by decide +kernel
theorem dX7_readTarget_6 : decode cX7_readTarget 6 = .ok (.iconst 0, 1) := by decide +kernel
theorem dX7_readTarget_7 : decode cX7_readTarget 7 = .ok (.istore_n 1, 1) := by decide +kernel
theorem dX7_readTarget_8 : decode cX7_readTarget 8 = .ok (.iload_n 1, 1) := by decide +kernel
theorem dX7_readTarget_9 : decode cX7_readTarget 9 = .ok (.aload_n 0, 1) := by decide +kernel
theorem dX7_readTarget_10 : decode cX7_readTarget 10 = .ok (.getfield 90, 3) := by decide +kernel
theorem dX7_readTarget_13 : decode cX7_readTarget 13 = .ok (.if_icmp .ge 35, 3) := by decide +kernel
theorem dX7_readTarget_16 : decode cX7_readTarget 16 = .ok (.aload_n 0, 1) := by decide +kernel
theorem dX7_readTarget_17 : decode cX7_readTarget 17 = .ok (.getfield 31, 3) := by decide +kernel
theorem dX7_readTarget_20 : decode cX7_readTarget 20 = .ok (.iload_n 1, 1) := by decide +kernel
theorem dX7_readTarget_21 : decode cX7_readTarget 21 = .ok (.laload, 1) := by decide +kernel
theorem dX7_readTarget_22 : decode cX7_readTarget 22 = .ok (.aload_n 0, 1) := by decide +kernel
theorem dX7_readTarget_23 : decode cX7_readTarget 23 = .ok (.getfield 23, 3) := by decide +kernel
theorem dX7_readTarget_26 : decode cX7_readTarget 26 = .ok (.getfield 77, 3) := by decide +kernel
theorem dX7_readTarget_29 : decode cX7_readTarget 29 = .ok (.lcmp, 1) := by decide +kernel
theorem dX7_readTarget_30 : decode cX7_readTarget 30 = .ok (.ifCond .ne 12, 3) := by decide +kernel
theorem dX7_readTarget_33 : decode cX7_readTarget 33 = .ok (.aload_n 0, 1) := by decide +kernel
theorem dX7_readTarget_34 : decode cX7_readTarget 34 = .ok (.getfield 23, 3) := by decide +kernel
theorem dX7_readTarget_37 : decode cX7_readTarget 37 = .ok (.invokevirtual 74, 3) := by decide +kernel
theorem dX7_readTarget_40 : decode cX7_readTarget 40 = .ok (.iload_n 1, 1) := by decide +kernel
theorem dX7_readTarget_41 : decode cX7_readTarget 41 = .ok (.ireturn, 1) := by decide +kernel
theorem dX7_readTarget_42 : decode cX7_readTarget 42 = .ok (.iinc 1 1, 3) := by decide +kernel
theorem dX7_readTarget_45 : decode cX7_readTarget 45 = .ok (.goto (-37), 3) := by decide +kernel
theorem dX7_readTarget_48 : decode cX7_readTarget 48 = .ok (.aload_n 0, 1) := by decide +kernel
theorem dX7_readTarget_49 : decode cX7_readTarget 49 = .ok (.iconst 2, 1) := by decide +kernel
theorem dX7_readTarget_50 : decode cX7_readTarget 50 = .ok (.invokevirtual 71, 3) := by decide +kernel
theorem dX7_readTarget_53 : decode cX7_readTarget 53 = .ok (.iconst (-1), 1) := by decide +kernel
theorem dX7_readTarget_54 : decode cX7_readTarget 54 = .ok (.ireturn, 1) := by decide +kernel
theorem dX7_readItems_0 : decode cX7_readItems 0 = .ok (.iconst 0, 1) := by decide +kernel
theorem dX7_readItems_1 : decode cX7_readItems 1 = .ok (.istore_n 2, 1) := by decide +kernel
theorem dX7_readItems_2 : decode cX7_readItems 2 = .ok (.iload_n 2, 1) := by decide +kernel
theorem dX7_readItems_3 : decode cX7_readItems 3 = .ok (.bipush 20, 2) := by decide +kernel
theorem dX7_readItems_5 : decode cX7_readItems 5 = .ok (.if_icmp .gt 36, 3) := by decide +kernel
theorem dX7_readItems_8 : decode cX7_readItems 8 = .ok (.aload_n 0, 1) := by decide +kernel
theorem dX7_readItems_9 : decode cX7_readItems 9 = .ok (.invokevirtual 163, 3) := by decide +kernel
theorem dX7_readItems_12 : decode cX7_readItems 12 = .ok (.ifCond .eq 29, 3) := by decide +kernel
theorem dX7_readItems_15 : decode cX7_readItems 15 = .ok (.aload_n 1, 1) := by decide +kernel
theorem dX7_readItems_16 : decode cX7_readItems 16 = .ok (.invokevirtual 166, 3) := by decide +kernel
theorem dX7_readItems_19 : decode cX7_readItems 19 = .ok (.ifCond .eq 8, 3) := by decide +kernel
theorem dX7_readItems_22 : decode cX7_readItems 22 = .ok (.aload_n 0, 1) := by decide +kernel
theorem dX7_readItems_23 : decode cX7_readItems 23 = .ok (.iconst 5, 1) := by decide +kernel
theorem dX7_readItems_24 : decode cX7_readItems 24 = .ok (.invokevirtual 71, 3) := by decide +kernel
theorem dX7_readItems_27 : decode cX7_readItems 27 = .ok (.aload_n 1, 1) := by decide +kernel
theorem dX7_readItems_28 : decode cX7_readItems 28 = .ok (.aload_n 0, 1) := by decide +kernel
theorem dX7_readItems_29 : decode cX7_readItems 29 = .ok (.invokevirtual 169, 3) := by decide +kernel
theorem dX7_readItems_32 : decode cX7_readItems 32 = .ok (.invokevirtual 173, 3) := by decide +kernel
theorem dX7_readItems_35 : decode cX7_readItems 35 = .ok (.iinc 2 1, 3) := by decide +kernel
theorem dX7_readItems_38 : decode cX7_readItems 38 = .ok (.goto (-36), 3) := by decide +kernel
theorem dX7_readItems_41 : decode cX7_readItems 41 = .ok (.return_, 1) := by decide +kernel
theorem dX7_startsItem_0 : decode cX7_startsItem 0 = .ok (.aload_n 0, 1) := by decide +kernel
theorem dX7_startsItem_1 : decode cX7_startsItem 1 = .ok (.getfield 23, 3) := by decide +kernel
theorem dX7_startsItem_4 : decode cX7_startsItem 4 = .ok (.getfield 44, 3) := by decide +kernel
theorem dX7_startsItem_7 : decode cX7_startsItem 7 = .ok (.bipush 11, 2) := by decide +kernel
theorem dX7_startsItem_9 : decode cX7_startsItem 9 = .ok (.if_icmp .eq 39, 3) := by decide +kernel
theorem dX7_startsItem_12 : decode cX7_startsItem 12 = .ok (.aload_n 0, 1) := by decide +kernel
theorem dX7_startsItem_13 : decode cX7_startsItem 13 = .ok (.getfield 23, 3) := by decide +kernel
theorem dX7_startsItem_16 : decode cX7_startsItem 16 = .ok (.getfield 44, 3) := by decide +kernel
theorem dX7_startsItem_19 : decode cX7_startsItem 19 = .ok (.bipush 61, 2) := by decide +kernel
theorem dX7_startsItem_21 : decode cX7_startsItem 21 = .ok (.if_icmp .eq 27, 3) := by decide +kernel
theorem dX7_startsItem_24 : decode cX7_startsItem 24 = .ok (.aload_n 0, 1) := by decide +kernel
theorem dX7_startsItem_25 : decode cX7_startsItem 25 = .ok (.getfield 23, 3) := by decide +kernel
theorem dX7_startsItem_28 : decode cX7_startsItem 28 = .ok (.getfield 44, 3) := by decide +kernel
theorem dX7_startsItem_31 : decode cX7_startsItem 31 = .ok (.bipush 9, 2) := by decide +kernel
theorem dX7_startsItem_33 : decode cX7_startsItem 33 = .ok (.if_icmp .eq 15, 3) := by decide +kernel
theorem dX7_startsItem_36 : decode cX7_startsItem 36 = .ok (.aload_n 0, 1) := by decide +kernel
theorem dX7_startsItem_37 : decode cX7_startsItem 37 = .ok (.getfield 23, 3) := by decide +kernel
theorem dX7_startsItem_40 : decode cX7_startsItem 40 = .ok (.getfield 44, 3) := by decide +kernel
theorem dX7_startsItem_43 : decode cX7_startsItem 43 = .ok (.bipush 10, 2) := by decide +kernel
theorem dX7_startsItem_45 : decode cX7_startsItem 45 = .ok (.if_icmp .ne 7, 3) := by decide +kernel
theorem dX7_startsItem_48 : decode cX7_startsItem 48 = .ok (.iconst 1, 1) := by decide +kernel
theorem dX7_startsItem_49 : decode cX7_startsItem 49 = .ok (.goto 4, 3) := by decide +kernel
theorem dX7_startsItem_52 : decode cX7_startsItem 52 = .ok (.iconst 0, 1) := by decide +kernel
theorem dX7_startsItem_53 : decode cX7_startsItem 53 = .ok (.ireturn, 1) := by decide +kernel
theorem dX7_readItem_0 : decode cX7_readItem 0 = .ok (.aload_n 0, 1) := by decide +kernel
theorem dX7_readItem_1 : decode cX7_readItem 1 = .ok (.getfield 23, 3) := by decide +kernel
theorem dX7_readItem_4 : decode cX7_readItem 4 = .ok (.getfield 44, 3) := by decide +kernel
theorem dX7_readItem_7 : decode cX7_readItem 7 = .ok (.istore_n 1, 1) := by decide +kernel
theorem dX7_readItem_8 : decode cX7_readItem 8 = .ok (.aload_n 0, 1) := by decide +kernel
theorem dX7_readItem_9 : decode cX7_readItem 9 = .ok (.getfield 23, 3) := by decide +kernel
theorem dX7_readItem_12 : decode cX7_readItem 12 = .ok (.getfield 77, 3) := by decide +kernel
theorem dX7_readItem_15 : decode cX7_readItem 15 = .ok (.lstore_n 2, 1) := by decide +kernel
theorem dX7_readItem_16 : decode cX7_readItem 16 = .ok (.aload_n 0, 1) := by decide +kernel
theorem dX7_readItem_17 : decode cX7_readItem 17 = .ok (.getfield 23, 3) := by decide +kernel
theorem dX7_readItem_20 : decode cX7_readItem 20 = .ok (.invokevirtual 74, 3) := by decide +kernel
theorem dX7_readItem_23 : decode cX7_readItem 23 = .ok (.iload_n 1, 1) := by decide +kernel
theorem dX7_readItem_24 : decode cX7_readItem 24 = .ok (.bipush 11, 2) := by decide +kernel
theorem dX7_readItem_26 : decode cX7_readItem 26 = .ok (.if_icmp .ne 15, 3) := by decide +kernel
theorem dX7_readItem_29 : decode cX7_readItem 29 = .ok (.new 177, 3) := by decide +kernel
theorem dX7_readItem_32 : decode cX7_readItem 32 = .ok (.dup, 1) := by decide +kernel
theorem dX7_readItem_33 : decode cX7_readItem 33 = .ok (.iload_n 1, 1) := by decide +kernel
theorem dX7_readItem_34 : decode cX7_readItem 34 = .ok (.lload_n 2, 1) := by decide +kernel
theorem dX7_readItem_35 : decode cX7_readItem 35 = .ok (.iconst (-1), 1) := by decide +kernel
theorem dX7_readItem_36 : decode cX7_readItem 36 = .ok (.aconst_null, 1) := by decide +kernel
theorem dX7_readItem_37 : decode cX7_readItem 37 = .ok (.invokespecial 179, 3) := by decide +kernel
theorem dX7_readItem_40 : decode cX7_readItem 40 = .ok (.areturn, 1) := by decide +kernel
theorem dX7_readItem_41 : decode cX7_readItem 41 = .ok (.iload_n 1, 1) := by decide +kernel
theorem dX7_readItem_42 : decode cX7_readItem 42 = .ok (.bipush 9, 2) := by decide +kernel
theorem dX7_readItem_44 : decode cX7_readItem 44 = .ok (.if_icmp .ne 18, 3) := by decide +kernel
theorem dX7_readItem_47 : decode cX7_readItem 47 = .ok (.new 177, 3) := by decide +kernel
theorem dX7_readItem_50 : decode cX7_readItem 50 = .ok (.dup, 1) := by decide +kernel
theorem dX7_readItem_51 : decode cX7_readItem 51 = .ok (.iload_n 1, 1) := by decide +kernel
theorem dX7_readItem_52 : decode cX7_readItem 52 = .ok (.lload_n 2, 1) := by decide +kernel
theorem dX7_readItem_53 : decode cX7_readItem 53 = .ok (.aload_n 0, 1) := by decide +kernel
theorem dX7_readItem_54 : decode cX7_readItem 54 = .ok (.invokevirtual 159, 3) := by decide +kernel
theorem dX7_readItem_57 : decode cX7_readItem 57 = .ok (.aconst_null, 1) := by decide +kernel
theorem dX7_readItem_58 : decode cX7_readItem 58 = .ok (.invokespecial 179, 3) := by decide +kernel
theorem dX7_readItem_61 : decode cX7_readItem 61 = .ok (.areturn, 1) := by decide +kernel
theorem dX7_readItem_62 : decode cX7_readItem 62 = .ok (.new 177, 3) := by decide +kernel
theorem dX7_readItem_65 : decode cX7_readItem 65 = .ok (.dup, 1) := by decide +kernel
theorem dX7_readItem_66 : decode cX7_readItem 66 = .ok (.iload_n 1, 1) := by decide +kernel
theorem dX7_readItem_67 : decode cX7_readItem 67 = .ok (.lload_n 2, 1) := by decide +kernel
theorem dX7_readItem_68 : decode cX7_readItem 68 = .ok (.iconst (-1), 1) := by decide +kernel
theorem dX7_readItem_69 : decode cX7_readItem 69 = .ok (.aload_n 0, 1) := by decide +kernel
theorem dX7_readItem_70 : decode cX7_readItem 70 = .ok (.invokevirtual 128, 3) := by decide +kernel
theorem dX7_readItem_73 : decode cX7_readItem 73 = .ok (.invokespecial 179, 3) := by decide +kernel
theorem dX7_readItem_76 : decode cX7_readItem 76 = .ok (.areturn, 1) := by decide +kernel
theorem dX7_readFormula_0 : decode cX7_readFormula 0 = .ok (.aload_n 0, 1) := by decide +kernel
theorem dX7_readFormula_1 : decode cX7_readFormula 1 = .ok (.iconst 0, 1) := by decide +kernel
theorem dX7_readFormula_2 : decode cX7_readFormula 2 = .ok (.putfield 182, 3) := by decide +kernel
theorem dX7_readFormula_5 : decode cX7_readFormula 5 = .ok (.aload_n 0, 1) := by decide +kernel
theorem dX7_readFormula_6 : decode cX7_readFormula 6 = .ok (.iconst 0, 1) := by decide +kernel
theorem dX7_readFormula_7 : decode cX7_readFormula 7 = .ok (.invokevirtual 185, 3) := by decide +kernel
theorem dX7_readFormula_10 : decode cX7_readFormula 10 = .ok (.iconst 0, 1) := by decide +kernel
theorem dX7_readFormula_11 : decode cX7_readFormula 11 = .ok (.istore_n 1, 1) := by decide +kernel
theorem dX7_readFormula_12 : decode cX7_readFormula 12 = .ok (.iconst 1, 1) := by decide +kernel
theorem dX7_readFormula_13 : decode cX7_readFormula 13 = .ok (.istore_n 2, 1) := by decide +kernel
theorem dX7_readFormula_14 : decode cX7_readFormula 14 = .ok (.iconst 0, 1) := by decide +kernel
theorem dX7_readFormula_15 : decode cX7_readFormula 15 = .ok (.istore_n 3, 1) := by decide +kernel
theorem dX7_readFormula_16 : decode cX7_readFormula 16 = .ok (.iload_n 3, 1) := by decide +kernel
theorem dX7_readFormula_17 : decode cX7_readFormula 17 = .ok (.aload_n 0, 1) := by decide +kernel
theorem dX7_readFormula_18 : decode cX7_readFormula 18 = .ok (.getfield 23, 3) := by decide +kernel
theorem dX7_readFormula_21 : decode cX7_readFormula 21 = .ok (.getfield 83, 3) := by decide +kernel
theorem dX7_readFormula_24 : decode cX7_readFormula 24 = .ok (.if_icmp .ge 36, 3) := by decide +kernel
theorem dX7_readFormula_27 : decode cX7_readFormula 27 = .ok (.iload_n 2, 1) := by decide +kernel
theorem dX7_readFormula_28 : decode cX7_readFormula 28 = .ok (.ifCond .eq 32, 3) := by decide +kernel
theorem dX7_readFormula_31 : decode cX7_readFormula 31 = .ok (.aload_n 0, 1) := by decide +kernel
theorem dX7_readFormula_32 : decode cX7_readFormula 32 = .ok (.iload_n 1, 1) := by decide +kernel
theorem dX7_readFormula_33 : decode cX7_readFormula 33 = .ok (.invokevirtual 188, 3) := by decide +kernel
theorem dX7_readFormula_36 : decode cX7_readFormula 36 = .ok (.istore_n 1, 1) := by decide +kernel
theorem dX7_readFormula_37 : decode cX7_readFormula 37 = .ok (.aload_n 0, 1) := by decide +kernel
theorem dX7_readFormula_38 : decode cX7_readFormula 38 = .ok (.iload_n 1, 1) := by decide +kernel
theorem dX7_readFormula_39 : decode cX7_readFormula 39 = .ok (.invokevirtual 191, 3) := by decide +kernel
theorem dX7_readFormula_42 : decode cX7_readFormula 42 = .ok (.aload_n 0, 1) := by decide +kernel
theorem dX7_readFormula_43 : decode cX7_readFormula 43 = .ok (.iload_n 1, 1) := by decide +kernel
theorem dX7_readFormula_44 : decode cX7_readFormula 44 = .ok (.invokevirtual 194, 3) := by decide +kernel
theorem dX7_readFormula_47 : decode cX7_readFormula 47 = .ok (.istore_n 1, 1) := by decide +kernel
theorem dX7_readFormula_48 : decode cX7_readFormula 48 = .ok (.aload_n 0, 1) := by decide +kernel
theorem dX7_readFormula_49 : decode cX7_readFormula 49 = .ok (.iload_n 1, 1) := by decide +kernel
theorem dX7_readFormula_50 : decode cX7_readFormula 50 = .ok (.invokevirtual 197, 3) := by decide +kernel
theorem dX7_readFormula_53 : decode cX7_readFormula 53 = .ok (.istore_n 2, 1) := by decide +kernel
theorem dX7_readFormula_54 : decode cX7_readFormula 54 = .ok (.iinc 3 1, 3) := by decide +kernel
theorem dX7_readFormula_57 : decode cX7_readFormula 57 = .ok (.goto (-41), 3) := by decide +kernel
theorem dX7_readFormula_60 : decode cX7_readFormula 60 = .ok (.iload_n 1, 1) := by decide +kernel
theorem dX7_readFormula_61 : decode cX7_readFormula 61 = .ok (.ifCond .le 8, 3) := by decide +kernel
theorem dX7_readFormula_64 : decode cX7_readFormula 64 = .ok (.aload_n 0, 1) := by decide +kernel
theorem dX7_readFormula_65 : decode cX7_readFormula 65 = .ok (.iconst 1, 1) := by decide +kernel
theorem dX7_readFormula_66 : decode cX7_readFormula 66 = .ok (.invokevirtual 71, 3) := by decide +kernel
theorem dX7_readFormula_69 : decode cX7_readFormula 69 = .ok (.aload_n 0, 1) := by decide +kernel
theorem dX7_readFormula_70 : decode cX7_readFormula 70 = .ok (.aload_n 0, 1) := by decide +kernel
theorem dX7_readFormula_71 : decode cX7_readFormula 71 = .ok (.getfield 15, 3) := by decide +kernel
theorem dX7_readFormula_74 : decode cX7_readFormula 74 = .ok (.iconst 0, 1) := by decide +kernel
theorem dX7_readFormula_75 : decode cX7_readFormula 75 = .ok (.iaload, 1) := by decide +kernel
theorem dX7_readFormula_76 : decode cX7_readFormula 76 = .ok (.invokevirtual 200, 3) := by decide +kernel
theorem dX7_readFormula_79 : decode cX7_readFormula 79 = .ok (.new 203, 3) := by decide +kernel
theorem dX7_readFormula_82 : decode cX7_readFormula 82 = .ok (.dup, 1) := by decide +kernel
theorem dX7_readFormula_83 : decode cX7_readFormula 83 = .ok (.aload_n 0, 1) := by decide +kernel
theorem dX7_readFormula_84 : decode cX7_readFormula 84 = .ok (.getfield 35, 3) := by decide +kernel
theorem dX7_readFormula_87 : decode cX7_readFormula 87 = .ok (.aload_n 0, 1) := by decide +kernel
theorem dX7_readFormula_88 : decode cX7_readFormula 88 = .ok (.getfield 182, 3) := by decide +kernel
theorem dX7_readFormula_91 : decode cX7_readFormula 91 = .ok (.invokestatic 205, 3) := by decide +kernel
theorem dX7_readFormula_94 : decode cX7_readFormula 94 = .ok (.invokespecial 211, 3) := by decide +kernel
theorem dX7_readFormula_97 : decode cX7_readFormula 97 = .ok (.areturn, 1) := by decide +kernel
theorem dX7_readOpenings_0 : decode cX7_readOpenings 0 = .ok (.iload_n 1, 1) := by decide +kernel
theorem dX7_readOpenings_1 : decode cX7_readOpenings 1 = .ok (.istore_n 2, 1) := by decide +kernel
theorem dX7_readOpenings_2 : decode cX7_readOpenings 2 = .ok (.iconst 0, 1) := by decide +kernel
theorem dX7_readOpenings_3 : decode cX7_readOpenings 3 = .ok (.istore_n 3, 1) := by decide +kernel
theorem dX7_readOpenings_4 : decode cX7_readOpenings 4 = .ok (.iload_n 3, 1) := by decide +kernel
theorem dX7_readOpenings_5 : decode cX7_readOpenings 5 = .ok (.iconst 5, 1) := by decide +kernel
theorem dX7_readOpenings_6 : decode cX7_readOpenings 6 = .ok (.if_icmp .gt 46, 3) := by decide +kernel
theorem dX7_readOpenings_9 : decode cX7_readOpenings 9 = .ok (.aload_n 0, 1) := by decide +kernel
theorem dX7_readOpenings_10 : decode cX7_readOpenings 10 = .ok (.getfield 23, 3) := by decide +kernel
theorem dX7_readOpenings_13 : decode cX7_readOpenings 13 = .ok (.getfield 44, 3) := by decide +kernel
theorem dX7_readOpenings_16 : decode cX7_readOpenings 16 = .ok (.bipush 40, 2) := by decide +kernel
theorem dX7_readOpenings_18 : decode cX7_readOpenings 18 = .ok (.if_icmp .ne 34, 3) := by decide +kernel
theorem dX7_readOpenings_21 : decode cX7_readOpenings 21 = .ok (.iload_n 2, 1) := by decide +kernel
theorem dX7_readOpenings_22 : decode cX7_readOpenings 22 = .ok (.iconst 5, 1) := by decide +kernel
theorem dX7_readOpenings_23 : decode cX7_readOpenings 23 = .ok (.if_icmp .lt 8, 3) := by decide +kernel
theorem dX7_readOpenings_26 : decode cX7_readOpenings 26 = .ok (.aload_n 0, 1) := by decide +kernel
theorem dX7_readOpenings_27 : decode cX7_readOpenings 27 = .ok (.iconst 5, 1) := by decide +kernel
theorem dX7_readOpenings_28 : decode cX7_readOpenings 28 = .ok (.invokevirtual 71, 3) := by decide +kernel
theorem dX7_readOpenings_31 : decode cX7_readOpenings 31 = .ok (.iinc 2 1, 3) := by decide +kernel
theorem dX7_readOpenings_34 : decode cX7_readOpenings 34 = .ok (.aload_n 0, 1) := by decide +kernel
theorem dX7_readOpenings_35 : decode cX7_readOpenings 35 = .ok (.iload_n 2, 1) := by decide +kernel
theorem dX7_readOpenings_36 : decode cX7_readOpenings 36 = .ok (.invokevirtual 185, 3) := by decide +kernel
theorem dX7_readOpenings_39 : decode cX7_readOpenings 39 = .ok (.aload_n 0, 1) := by decide +kernel
theorem dX7_readOpenings_40 : decode cX7_readOpenings 40 = .ok (.getfield 23, 3) := by decide +kernel
theorem dX7_readOpenings_43 : decode cX7_readOpenings 43 = .ok (.invokevirtual 74, 3) := by decide +kernel
theorem dX7_readOpenings_46 : decode cX7_readOpenings 46 = .ok (.iinc 3 1, 3) := by decide +kernel
theorem dX7_readOpenings_49 : decode cX7_readOpenings 49 = .ok (.goto (-45), 3) := by decide +kernel
theorem dX7_readOpenings_52 : decode cX7_readOpenings 52 = .ok (.iload_n 2, 1) := by decide +kernel
theorem dX7_readOpenings_53 : decode cX7_readOpenings 53 = .ok (.ireturn, 1) := by decide +kernel
theorem dX7_readValue_0 : decode cX7_readValue 0 = .ok (.aload_n 0, 1) := by decide +kernel
theorem dX7_readValue_1 : decode cX7_readValue 1 = .ok (.getfield 23, 3) := by decide +kernel
theorem dX7_readValue_4 : decode cX7_readValue 4 = .ok (.getfield 44, 3) := by decide +kernel
theorem dX7_readValue_7 : decode cX7_readValue 7 = .ok (.bipush 11, 2) := by decide +kernel
theorem dX7_readValue_9 : decode cX7_readValue 9 = .ok (.if_icmp .ne 7, 3) := by decide +kernel
theorem dX7_readValue_12 : decode cX7_readValue 12 = .ok (.iconst 1, 1) := by decide +kernel
theorem dX7_readValue_13 : decode cX7_readValue 13 = .ok (.goto 4, 3) := by decide +kernel
theorem dX7_readValue_16 : decode cX7_readValue 16 = .ok (.iconst 0, 1) := by decide +kernel
theorem dX7_readValue_17 : decode cX7_readValue 17 = .ok (.istore_n 2, 1) := by decide +kernel
theorem dX7_readValue_18 : decode cX7_readValue 18 = .ok (.iload_n 2, 1) := by decide +kernel
theorem dX7_readValue_19 : decode cX7_readValue 19 = .ok (.ifCond .ne 20, 3) := by decide +kernel
theorem dX7_readValue_22 : decode cX7_readValue 22 = .ok (.aload_n 0, 1) := by decide +kernel
theorem dX7_readValue_23 : decode cX7_readValue 23 = .ok (.getfield 23, 3) := by decide +kernel
theorem dX7_readValue_26 : decode cX7_readValue 26 = .ok (.getfield 44, 3) := by decide +kernel
theorem dX7_readValue_29 : decode cX7_readValue 29 = .ok (.bipush 12, 2) := by decide +kernel
theorem dX7_readValue_31 : decode cX7_readValue 31 = .ok (.if_icmp .eq 8, 3) := by decide +kernel
theorem dX7_readValue_34 : decode cX7_readValue 34 = .ok (.aload_n 0, 1) := by decide +kernel
theorem dX7_readValue_35 : decode cX7_readValue 35 = .ok (.iconst 1, 1) := by decide +kernel
theorem dX7_readValue_36 : decode cX7_readValue 36 = .ok (.invokevirtual 71, 3) := by decide +kernel
theorem dX7_readValue_39 : decode cX7_readValue 39 = .ok (.iload_n 2, 1) := by decide +kernel
theorem dX7_readValue_40 : decode cX7_readValue 40 = .ok (.ifCond .eq 20, 3) := by decide +kernel
theorem dX7_readValue_43 : decode cX7_readValue 43 = .ok (.aload_n 0, 1) := by decide +kernel
theorem dX7_readValue_44 : decode cX7_readValue 44 = .ok (.getfield 27, 3) := by decide +kernel
theorem dX7_readValue_47 : decode cX7_readValue 47 = .ok (.aload_n 0, 1) := by decide +kernel
theorem dX7_readValue_48 : decode cX7_readValue 48 = .ok (.getfield 23, 3) := by decide +kernel
theorem dX7_readValue_51 : decode cX7_readValue 51 = .ok (.getfield 77, 3) := by decide +kernel
theorem dX7_readValue_54 : decode cX7_readValue 54 = .ok (.invokevirtual 101, 3) := by decide +kernel
theorem dX7_readValue_57 : decode cX7_readValue 57 = .ok (.goto 11, 3) := by decide +kernel
theorem dX7_readValue_60 : decode cX7_readValue 60 = .ok (.aload_n 0, 1) := by decide +kernel
theorem dX7_readValue_61 : decode cX7_readValue 61 = .ok (.getfield 23, 3) := by decide +kernel
theorem dX7_readValue_64 : decode cX7_readValue 64 = .ok (.getfield 77, 3) := by decide +kernel
theorem dX7_readValue_67 : decode cX7_readValue 67 = .ok (.l2i, 1) := by decide +kernel
theorem dX7_readValue_68 : decode cX7_readValue 68 = .ok (.istore_n 3, 1) := by decide +kernel
theorem dX7_readValue_69 : decode cX7_readValue 69 = .ok (.iload_n 3, 1) := by decide +kernel
theorem dX7_readValue_70 : decode cX7_readValue 70 = .ok (.iconst (-1), 1) := by decide +kernel
theorem dX7_readValue_71 : decode cX7_readValue 71 = .ok (.if_icmp .ne 8, 3) := by decide +kernel
theorem dX7_readValue_74 : decode cX7_readValue 74 = .ok (.aload_n 0, 1) := by decide +kernel
theorem dX7_readValue_75 : decode cX7_readValue 75 = .ok (.iconst 2, 1) := by decide +kernel
theorem dX7_readValue_76 : decode cX7_readValue 76 = .ok (.invokevirtual 71, 3) := by decide +kernel
theorem dX7_readValue_79 : decode cX7_readValue 79 = .ok (.iload_n 1, 1) := by decide +kernel
theorem dX7_readValue_80 : decode cX7_readValue 80 = .ok (.iconst 5, 1) := by decide +kernel
theorem dX7_readValue_81 : decode cX7_readValue 81 = .ok (.if_icmp .lt 8, 3) := by decide +kernel
theorem dX7_readValue_84 : decode cX7_readValue 84 = .ok (.aload_n 0, 1) := by decide +kernel
theorem dX7_readValue_85 : decode cX7_readValue 85 = .ok (.iconst 5, 1) := by decide +kernel
theorem dX7_readValue_86 : decode cX7_readValue 86 = .ok (.invokevirtual 71, 3) := by decide +kernel
theorem dX7_readValue_89 : decode cX7_readValue 89 = .ok (.aload_n 0, 1) := by decide +kernel
theorem dX7_readValue_90 : decode cX7_readValue 90 = .ok (.iload_n 2, 1) := by decide +kernel
theorem dX7_readValue_91 : decode cX7_readValue 91 = .ok (.ifCond .eq 7, 3) := by decide +kernel
theorem dX7_readValue_94 : decode cX7_readValue 94 = .ok (.iconst 2, 1) := by decide +kernel
theorem dX7_readValue_95 : decode cX7_readValue 95 = .ok (.goto 4, 3) := by decide +kernel
theorem dX7_readValue_98 : decode cX7_readValue 98 = .ok (.iconst 1, 1) := by decide +kernel
theorem dX7_readValue_99 : decode cX7_readValue 99 = .ok (.bipush 8, 2) := by decide +kernel
theorem dX7_readValue_101 : decode cX7_readValue 101 = .ok (.iload_n 3, 1) := by decide +kernel
theorem dX7_readValue_102 : decode cX7_readValue 102 = .ok (.imul, 1) := by decide +kernel
theorem dX7_readValue_103 : decode cX7_readValue 103 = .ok (.iadd, 1) := by decide +kernel
theorem dX7_readValue_104 : decode cX7_readValue 104 = .ok (.invokevirtual 200, 3) := by decide +kernel
theorem dX7_readValue_107 : decode cX7_readValue 107 = .ok (.aload_n 0, 1) := by decide +kernel
theorem dX7_readValue_108 : decode cX7_readValue 108 = .ok (.aload_n 0, 1) := by decide +kernel
theorem dX7_readValue_109 : decode cX7_readValue 109 = .ok (.getfield 9, 3) := by decide +kernel
theorem dX7_readValue_112 : decode cX7_readValue 112 = .ok (.iload_n 1, 1) := by decide +kernel
theorem dX7_readValue_113 : decode cX7_readValue 113 = .ok (.iaload, 1) := by decide +kernel
theorem dX7_readValue_114 : decode cX7_readValue 114 = .ok (.invokevirtual 200, 3) := by decide +kernel
theorem dX7_readValue_117 : decode cX7_readValue 117 = .ok (.aload_n 0, 1) := by decide +kernel
theorem dX7_readValue_118 : decode cX7_readValue 118 = .ok (.getfield 23, 3) := by decide +kernel
theorem dX7_readValue_121 : decode cX7_readValue 121 = .ok (.invokevirtual 74, 3) := by decide +kernel
theorem dX7_readValue_124 : decode cX7_readValue 124 = .ok (.return_, 1) := by decide +kernel
theorem dX7_readClosings_0 : decode cX7_readClosings 0 = .ok (.iload_n 1, 1) := by decide +kernel
theorem dX7_readClosings_1 : decode cX7_readClosings 1 = .ok (.istore_n 2, 1) := by decide +kernel
theorem dX7_readClosings_2 : decode cX7_readClosings 2 = .ok (.iconst 0, 1) := by decide +kernel
theorem dX7_readClosings_3 : decode cX7_readClosings 3 = .ok (.istore_n 3, 1) := by decide +kernel
theorem dX7_readClosings_4 : decode cX7_readClosings 4 = .ok (.iload_n 3, 1) := by decide +kernel
theorem dX7_readClosings_5 : decode cX7_readClosings 5 = .ok (.iconst 5, 1) := by decide +kernel
theorem dX7_readClosings_6 : decode cX7_readClosings 6 = .ok (.if_icmp .ge 55, 3) := by decide +kernel
theorem dX7_readClosings_9 : decode cX7_readClosings 9 = .ok (.iload_n 2, 1) := by decide +kernel
theorem dX7_readClosings_10 : decode cX7_readClosings 10 = .ok (.ifCond .le 51, 3) := by decide +kernel
theorem dX7_readClosings_13 : decode cX7_readClosings 13 = .ok (.aload_n 0, 1) := by decide +kernel
theorem dX7_readClosings_14 : decode cX7_readClosings 14 = .ok (.getfield 23, 3) := by decide +kernel
theorem dX7_readClosings_17 : decode cX7_readClosings 17 = .ok (.getfield 44, 3) := by decide +kernel
theorem dX7_readClosings_20 : decode cX7_readClosings 20 = .ok (.bipush 41, 2) := by decide +kernel
theorem dX7_readClosings_22 : decode cX7_readClosings 22 = .ok (.if_icmp .ne 39, 3) := by decide +kernel
theorem dX7_readClosings_25 : decode cX7_readClosings 25 = .ok (.aload_n 0, 1) := by decide +kernel
theorem dX7_readClosings_26 : decode cX7_readClosings 26 = .ok (.aload_n 0, 1) := by decide +kernel
theorem dX7_readClosings_27 : decode cX7_readClosings 27 = .ok (.getfield 15, 3) := by decide +kernel
theorem dX7_readClosings_30 : decode cX7_readClosings 30 = .ok (.iload_n 2, 1) := by decide +kernel
theorem dX7_readClosings_31 : decode cX7_readClosings 31 = .ok (.iaload, 1) := by decide +kernel
theorem dX7_readClosings_32 : decode cX7_readClosings 32 = .ok (.invokevirtual 200, 3) := by decide +kernel
theorem dX7_readClosings_35 : decode cX7_readClosings 35 = .ok (.iinc 2 (-1), 3) := by decide +kernel
theorem dX7_readClosings_38 : decode cX7_readClosings 38 = .ok (.aload_n 0, 1) := by decide +kernel
theorem dX7_readClosings_39 : decode cX7_readClosings 39 = .ok (.aload_n 0, 1) := by decide +kernel
theorem dX7_readClosings_40 : decode cX7_readClosings 40 = .ok (.getfield 9, 3) := by decide +kernel
theorem dX7_readClosings_43 : decode cX7_readClosings 43 = .ok (.iload_n 2, 1) := by decide +kernel
theorem dX7_readClosings_44 : decode cX7_readClosings 44 = .ok (.iaload, 1) := by decide +kernel
theorem dX7_readClosings_45 : decode cX7_readClosings 45 = .ok (.invokevirtual 200, 3) := by decide +kernel
theorem dX7_readClosings_48 : decode cX7_readClosings 48 = .ok (.aload_n 0, 1) := by decide +kernel
theorem dX7_readClosings_49 : decode cX7_readClosings 49 = .ok (.getfield 23, 3) := by decide +kernel
theorem dX7_readClosings_52 : decode cX7_readClosings 52 = .ok (.invokevirtual 74, 3) := by decide +kernel
theorem dX7_readClosings_55 : decode cX7_readClosings 55 = .ok (.iinc 3 1, 3) := by decide +kernel
theorem dX7_readClosings_58 : decode cX7_readClosings 58 = .ok (.goto (-54), 3) := by decide +kernel
theorem dX7_readClosings_61 : decode cX7_readClosings 61 = .ok (.iload_n 2, 1) := by decide +kernel
theorem dX7_readClosings_62 : decode cX7_readClosings 62 = .ok (.ireturn, 1) := by decide +kernel
theorem dX7_readOperator_0 : decode cX7_readOperator 0 = .ok (.aload_n 0, 1) := by decide +kernel
theorem dX7_readOperator_1 : decode cX7_readOperator 1 = .ok (.getfield 23, 3) := by decide +kernel
theorem dX7_readOperator_4 : decode cX7_readOperator 4 = .ok (.getfield 44, 3) := by decide +kernel
theorem dX7_readOperator_7 : decode cX7_readOperator 7 = .ok (.bipush 43, 2) := by decide +kernel
theorem dX7_readOperator_9 : decode cX7_readOperator 9 = .ok (.if_icmp .eq 15, 3) := by decide +kernel
theorem dX7_readOperator_12 : decode cX7_readOperator 12 = .ok (.aload_n 0, 1) := by decide +kernel
theorem dX7_readOperator_13 : decode cX7_readOperator 13 = .ok (.getfield 23, 3) := by decide +kernel
theorem dX7_readOperator_16 : decode cX7_readOperator 16 = .ok (.getfield 44, 3) := by decide +kernel
theorem dX7_readOperator_19 : decode cX7_readOperator 19 = .ok (.bipush 45, 2) := by decide +kernel
theorem dX7_readOperator_21 : decode cX7_readOperator 21 = .ok (.if_icmp .ne 7, 3) := by decide +kernel
theorem dX7_readOperator_24 : decode cX7_readOperator 24 = .ok (.iconst 1, 1) := by decide +kernel
theorem dX7_readOperator_25 : decode cX7_readOperator 25 = .ok (.goto 4, 3) := by decide +kernel
theorem dX7_readOperator_28 : decode cX7_readOperator 28 = .ok (.iconst 0, 1) := by decide +kernel
theorem dX7_readOperator_29 : decode cX7_readOperator 29 = .ok (.istore_n 2, 1) := by decide +kernel
theorem dX7_readOperator_30 : decode cX7_readOperator 30 = .ok (.aload_n 0, 1) := by decide +kernel
theorem dX7_readOperator_31 : decode cX7_readOperator 31 = .ok (.getfield 23, 3) := by decide +kernel
theorem dX7_readOperator_34 : decode cX7_readOperator 34 = .ok (.getfield 44, 3) := by decide +kernel
theorem dX7_readOperator_37 : decode cX7_readOperator 37 = .ok (.bipush 60, 2) := by decide +kernel
theorem dX7_readOperator_39 : decode cX7_readOperator 39 = .ok (.if_icmp .eq 15, 3) := by decide +kernel
theorem dX7_readOperator_42 : decode cX7_readOperator 42 = .ok (.aload_n 0, 1) := by decide +kernel
theorem dX7_readOperator_43 : decode cX7_readOperator 43 = .ok (.getfield 23, 3) := by decide +kernel
theorem dX7_readOperator_46 : decode cX7_readOperator 46 = .ok (.getfield 44, 3) := by decide +kernel
theorem dX7_readOperator_49 : decode cX7_readOperator 49 = .ok (.bipush 61, 2) := by decide +kernel
theorem dX7_readOperator_51 : decode cX7_readOperator 51 = .ok (.if_icmp .ne 7, 3) := by decide +kernel
theorem dX7_readOperator_54 : decode cX7_readOperator 54 = .ok (.iconst 1, 1) := by decide +kernel
theorem dX7_readOperator_55 : decode cX7_readOperator 55 = .ok (.goto 4, 3) := by decide +kernel
theorem dX7_readOperator_58 : decode cX7_readOperator 58 = .ok (.iconst 0, 1) := by decide +kernel
theorem dX7_readOperator_59 : decode cX7_readOperator 59 = .ok (.istore_n 3, 1) := by decide +kernel
theorem dX7_readOperator_60 : decode cX7_readOperator 60 = .ok (.iload_n 2, 1) := by decide +kernel
theorem dX7_readOperator_61 : decode cX7_readOperator 61 = .ok (.ifCond .eq 29, 3) := by decide +kernel
theorem dX7_readOperator_64 : decode cX7_readOperator 64 = .ok (.aload_n 0, 1) := by decide +kernel
theorem dX7_readOperator_65 : decode cX7_readOperator 65 = .ok (.getfield 9, 3) := by decide +kernel
theorem dX7_readOperator_68 : decode cX7_readOperator 68 = .ok (.iload_n 1, 1) := by decide +kernel
theorem dX7_readOperator_69 : decode cX7_readOperator 69 = .ok (.aload_n 0, 1) := by decide +kernel
theorem dX7_readOperator_70 : decode cX7_readOperator 70 = .ok (.getfield 23, 3) := by decide +kernel
theorem dX7_readOperator_73 : decode cX7_readOperator 73 = .ok (.getfield 44, 3) := by decide +kernel
theorem dX7_readOperator_76 : decode cX7_readOperator 76 = .ok (.bipush 43, 2) := by decide +kernel
theorem dX7_readOperator_78 : decode cX7_readOperator 78 = .ok (.if_icmp .ne 7, 3) := by decide +kernel
theorem dX7_readOperator_81 : decode cX7_readOperator 81 = .ok (.iconst 3, 1) := by decide +kernel
theorem dX7_readOperator_82 : decode cX7_readOperator 82 = .ok (.goto 4, 3) := by decide +kernel
theorem dX7_readOperator_85 : decode cX7_readOperator 85 = .ok (.iconst 4, 1) := by decide +kernel
theorem dX7_readOperator_86 : decode cX7_readOperator 86 = .ok (.iastore, 1) := by decide +kernel
theorem dX7_readOperator_87 : decode cX7_readOperator 87 = .ok (.goto 52, 3) := by decide +kernel
theorem dX7_readOperator_90 : decode cX7_readOperator 90 = .ok (.iload_n 3, 1) := by decide +kernel
theorem dX7_readOperator_91 : decode cX7_readOperator 91 = .ok (.ifCond .eq 46, 3) := by decide +kernel
theorem dX7_readOperator_94 : decode cX7_readOperator 94 = .ok (.aload_n 0, 1) := by decide +kernel
theorem dX7_readOperator_95 : decode cX7_readOperator 95 = .ok (.getfield 15, 3) := by decide +kernel
theorem dX7_readOperator_98 : decode cX7_readOperator 98 = .ok (.iload_n 1, 1) := by decide +kernel
theorem dX7_readOperator_99 : decode cX7_readOperator 99 = .ok (.iaload, 1) := by decide +kernel
theorem dX7_readOperator_100 : decode cX7_readOperator 100 = .ok (.ifCond .ne 37, 3) := by decide +kernel
theorem dX7_readOperator_103 : decode cX7_readOperator 103 = .ok (.aload_n 0, 1) := by decide +kernel
theorem dX7_readOperator_104 : decode cX7_readOperator 104 = .ok (.getfield 15, 3) := by decide +kernel
theorem dX7_readOperator_107 : decode cX7_readOperator 107 = .ok (.iload_n 1, 1) := by decide +kernel
theorem dX7_readOperator_108 : decode cX7_readOperator 108 = .ok (.aload_n 0, 1) := by decide +kernel
theorem dX7_readOperator_109 : decode cX7_readOperator 109 = .ok (.getfield 23, 3) := by decide +kernel
theorem dX7_readOperator_112 : decode cX7_readOperator 112 = .ok (.getfield 44, 3) := by decide +kernel
theorem dX7_readOperator_115 : decode cX7_readOperator 115 = .ok (.bipush 60, 2) := by decide +kernel
theorem dX7_readOperator_117 : decode cX7_readOperator 117 = .ok (.if_icmp .ne 7, 3) := by decide +kernel
theorem dX7_readOperator_120 : decode cX7_readOperator 120 = .ok (.iconst 5, 1) := by decide +kernel
theorem dX7_readOperator_121 : decode cX7_readOperator 121 = .ok (.goto 5, 3) := by decide +kernel
theorem dX7_readOperator_124 : decode cX7_readOperator 124 = .ok (.bipush 6, 2) := by decide +kernel
theorem dX7_readOperator_126 : decode cX7_readOperator 126 = .ok (.iastore, 1) := by decide +kernel
theorem dX7_readOperator_127 : decode cX7_readOperator 127 = .ok (.aload_n 0, 1) := by decide +kernel
theorem dX7_readOperator_128 : decode cX7_readOperator 128 = .ok (.getfield 9, 3) := by decide +kernel
theorem dX7_readOperator_131 : decode cX7_readOperator 131 = .ok (.iload_n 1, 1) := by decide +kernel
theorem dX7_readOperator_132 : decode cX7_readOperator 132 = .ok (.iconst 0, 1) := by decide +kernel
theorem dX7_readOperator_133 : decode cX7_readOperator 133 = .ok (.iastore, 1) := by decide +kernel
theorem dX7_readOperator_134 : decode cX7_readOperator 134 = .ok (.goto 5, 3) := by decide +kernel
theorem dX7_readOperator_137 : decode cX7_readOperator 137 = .ok (.iconst 0, 1) := by decide +kernel
theorem dX7_readOperator_138 : decode cX7_readOperator 138 = .ok (.ireturn, 1) := by decide +kernel
theorem dX7_readOperator_139 : decode cX7_readOperator 139 = .ok (.aload_n 0, 1) := by decide +kernel
theorem dX7_readOperator_140 : decode cX7_readOperator 140 = .ok (.getfield 23, 3) := by decide +kernel
theorem dX7_readOperator_143 : decode cX7_readOperator 143 = .ok (.invokevirtual 74, 3) := by decide +kernel
theorem dX7_readOperator_146 : decode cX7_readOperator 146 = .ok (.iconst 1, 1) := by decide +kernel
theorem dX7_readOperator_147 : decode cX7_readOperator 147 = .ok (.ireturn, 1) := by decide +kernel
theorem dX7_openLevel_0 : decode cX7_openLevel 0 = .ok (.aload_n 0, 1) := by decide +kernel
theorem dX7_openLevel_1 : decode cX7_openLevel 1 = .ok (.getfield 9, 3) := by decide +kernel
theorem dX7_openLevel_4 : decode cX7_openLevel 4 = .ok (.iload_n 1, 1) := by decide +kernel
theorem dX7_openLevel_5 : decode cX7_openLevel 5 = .ok (.iconst 0, 1) := by decide +kernel
theorem dX7_openLevel_6 : decode cX7_openLevel 6 = .ok (.iastore, 1) := by decide +kernel
theorem dX7_openLevel_7 : decode cX7_openLevel 7 = .ok (.aload_n 0, 1) := by decide +kernel
theorem dX7_openLevel_8 : decode cX7_openLevel 8 = .ok (.getfield 15, 3) := by decide +kernel
theorem dX7_openLevel_11 : decode cX7_openLevel 11 = .ok (.iload_n 1, 1) := by decide +kernel
theorem dX7_openLevel_12 : decode cX7_openLevel 12 = .ok (.iconst 0, 1) := by decide +kernel
theorem dX7_openLevel_13 : decode cX7_openLevel 13 = .ok (.iastore, 1) := by decide +kernel
theorem dX7_openLevel_14 : decode cX7_openLevel 14 = .ok (.return_, 1) := by decide +kernel
theorem dX7_addOperation_0 : decode cX7_addOperation 0 = .ok (.iload_n 1, 1) := by decide +kernel
theorem dX7_addOperation_1 : decode cX7_addOperation 1 = .ok (.ifCond .eq 35, 3) := by decide +kernel
theorem dX7_addOperation_4 : decode cX7_addOperation 4 = .ok (.aload_n 0, 1) := by decide +kernel
theorem dX7_addOperation_5 : decode cX7_addOperation 5 = .ok (.getfield 182, 3) := by decide +kernel
theorem dX7_addOperation_8 : decode cX7_addOperation 8 = .ok (.aload_n 0, 1) := by decide +kernel
theorem dX7_addOperation_9 : decode cX7_addOperation 9 = .ok (.getfield 35, 3) := by decide +kernel
theorem dX7_addOperation_12 : decode cX7_addOperation 12 = .ok (.arraylength, 1) := by decide +kernel
theorem dX7_addOperation_13 : decode cX7_addOperation 13 = .ok (.if_icmp .ge 23, 3) := by decide +kernel
theorem dX7_addOperation_16 : decode cX7_addOperation 16 = .ok (.aload_n 0, 1) := by decide +kernel
theorem dX7_addOperation_17 : decode cX7_addOperation 17 = .ok (.getfield 35, 3) := by decide +kernel
theorem dX7_addOperation_20 : decode cX7_addOperation 20 = .ok (.aload_n 0, 1) := by decide +kernel
theorem dX7_addOperation_21 : decode cX7_addOperation 21 = .ok (.getfield 182, 3) := by decide +kernel
theorem dX7_addOperation_24 : decode cX7_addOperation 24 = .ok (.iload_n 1, 1) := by decide +kernel
theorem dX7_addOperation_25 : decode cX7_addOperation 25 = .ok (.iastore, 1) := by decide +kernel
theorem dX7_addOperation_26 : decode cX7_addOperation 26 = .ok (.aload_n 0, 1) := by decide +kernel
theorem dX7_addOperation_27 : decode cX7_addOperation 27 = .ok (.dup, 1) := by decide +kernel
theorem dX7_addOperation_28 : decode cX7_addOperation 28 = .ok (.getfield 182, 3) := by decide +kernel
theorem dX7_addOperation_31 : decode cX7_addOperation 31 = .ok (.iconst 1, 1) := by decide +kernel
theorem dX7_addOperation_32 : decode cX7_addOperation 32 = .ok (.iadd, 1) := by decide +kernel
theorem dX7_addOperation_33 : decode cX7_addOperation 33 = .ok (.putfield 182, 3) := by decide +kernel
theorem dX7_addOperation_36 : decode cX7_addOperation 36 = .ok (.return_, 1) := by decide +kernel
theorem dX8_init_0 : decode cX8_init 0 = .ok (.aload_n 0, 1) := by decide +kernel
theorem dX8_init_1 : decode cX8_init 1 = .ok (.invokespecial 3, 3) := by decide +kernel
theorem dX8_init_4 : decode cX8_init 4 = .ok (.aload_n 0, 1) := by decide +kernel
theorem dX8_init_5 : decode cX8_init 5 = .ok (.new 9, 3) := by decide +kernel
theorem dX8_init_8 : decode cX8_init 8 = .ok (.dup, 1) := by decide +kernel
theorem dX8_init_9 : decode cX8_init 9 = .ok (.invokespecial 11, 3) := by decide +kernel
theorem dX8_init_12 : decode cX8_init 12 = .ok (.putfield 12, 3) := by decide +kernel
theorem dX8_init_15 : decode cX8_init 15 = .ok (.aload_n 0, 1) := by decide +kernel
theorem dX8_init_16 : decode cX8_init 16 = .ok (.new 18, 3) := by decide +kernel
theorem dX8_init_19 : decode cX8_init 19 = .ok (.dup, 1) := by decide +kernel
theorem dX8_init_20 : decode cX8_init 20 = .ok (.invokespecial 20, 3) := by decide +kernel
theorem dX8_init_23 : decode cX8_init 23 = .ok (.putfield 21, 3) := by decide +kernel
theorem dX8_init_26 : decode cX8_init 26 = .ok (.aload_n 0, 1) := by decide +kernel
theorem dX8_init_27 : decode cX8_init 27 = .ok (.new 18, 3) := by decide +kernel
theorem dX8_init_30 : decode cX8_init 30 = .ok (.dup, 1) := by decide +kernel
theorem dX8_init_31 : decode cX8_init 31 = .ok (.invokespecial 20, 3) := by decide +kernel
theorem dX8_init_34 : decode cX8_init 34 = .ok (.putfield 25, 3) := by decide +kernel
theorem dX8_init_37 : decode cX8_init 37 = .ok (.return_, 1) := by decide +kernel
theorem dX8_judgeWorlds_0 : decode cX8_judgeWorlds 0 = .ok (.aload_n 1, 1) := by decide +kernel
theorem dX8_judgeWorlds_1 : decode cX8_judgeWorlds 1 = .ok (.getfield 28, 3) := by decide +kernel
theorem dX8_judgeWorlds_4 : decode cX8_judgeWorlds 4 = .ok (.ifCond .eq 4, 3) := by decide +kernel
theorem dX8_judgeWorlds_7 : decode cX8_judgeWorlds 7 = .ok (.return_, 1) := by decide +kernel
theorem dX8_judgeWorlds_8 : decode cX8_judgeWorlds 8 = .ok (.aload_n 1, 1) := by decide +kernel
theorem dX8_judgeWorlds_9 : decode cX8_judgeWorlds 9 = .ok (.iconst 1, 1) := by decide +kernel
theorem dX8_judgeWorlds_10 : decode cX8_judgeWorlds 10 = .ok (.putfield 28, 3) := by decide +kernel
theorem dX8_judgeWorlds_13 : decode cX8_judgeWorlds 13 = .ok (.aload_n 1, 1) := by decide +kernel
theorem dX8_judgeWorlds_14 : decode cX8_judgeWorlds 14 = .ok (.getfield 34, 3) := by decide +kernel
theorem dX8_judgeWorlds_17 : decode cX8_judgeWorlds 17 = .ok (.iconst (-1), 1) := by decide +kernel
theorem dX8_judgeWorlds_18 : decode cX8_judgeWorlds 18 = .ok (.invokestatic 38, 3) := by decide +kernel
theorem dX8_judgeWorlds_21 : decode cX8_judgeWorlds 21 = .ok (.iconst 0, 1) := by decide +kernel
theorem dX8_judgeWorlds_22 : decode cX8_judgeWorlds 22 = .ok (.istore_n 2, 1) := by decide +kernel
theorem dX8_judgeWorlds_23 : decode cX8_judgeWorlds 23 = .ok (.iload_n 2, 1) := by decide +kernel
theorem dX8_judgeWorlds_24 : decode cX8_judgeWorlds 24 = .ok (.aload_n 1, 1) := by decide +kernel
theorem dX8_judgeWorlds_25 : decode cX8_judgeWorlds 25 = .ok (.getfield 44, 3) := by decide +kernel
theorem dX8_judgeWorlds_28 : decode cX8_judgeWorlds 28 = .ok (.if_icmp .ge 64, 3) := by decide +kernel
theorem dX8_judgeWorlds_31 : decode cX8_judgeWorlds 31 = .ok (.aload_n 0, 1) := by decide +kernel
theorem dX8_judgeWorlds_32 : decode cX8_judgeWorlds 32 = .ok (.getfield 12, 3) := by decide +kernel
theorem dX8_judgeWorlds_35 : decode cX8_judgeWorlds 35 = .ok (.aload_n 1, 1) := by decide +kernel
theorem dX8_judgeWorlds_36 : decode cX8_judgeWorlds 36 = .ok (.iload_n 2, 1) := by decide +kernel
theorem dX8_judgeWorlds_37 : decode cX8_judgeWorlds 37 = .ok (.invokevirtual 48, 3) := by decide +kernel
theorem dX8_judgeWorlds_40 : decode cX8_judgeWorlds 40 = .ok (.aload_n 0, 1) := by decide +kernel
theorem dX8_judgeWorlds_41 : decode cX8_judgeWorlds 41 = .ok (.getfield 21, 3) := by decide +kernel
theorem dX8_judgeWorlds_44 : decode cX8_judgeWorlds 44 = .ok (.aload_n 1, 1) := by decide +kernel
theorem dX8_judgeWorlds_45 : decode cX8_judgeWorlds 45 = .ok (.aload_n 0, 1) := by decide +kernel
theorem dX8_judgeWorlds_46 : decode cX8_judgeWorlds 46 = .ok (.getfield 12, 3) := by decide +kernel
theorem dX8_judgeWorlds_49 : decode cX8_judgeWorlds 49 = .ok (.invokevirtual 52, 3) := by decide +kernel
theorem dX8_judgeWorlds_52 : decode cX8_judgeWorlds 52 = .ok (.aload_n 0, 1) := by decide +kernel
theorem dX8_judgeWorlds_53 : decode cX8_judgeWorlds 53 = .ok (.getfield 21, 3) := by decide +kernel
theorem dX8_judgeWorlds_56 : decode cX8_judgeWorlds 56 = .ok (.getfield 56, 3) := by decide +kernel
theorem dX8_judgeWorlds_59 : decode cX8_judgeWorlds 59 = .ok (.istore_n 3, 1) := by decide +kernel
theorem dX8_judgeWorlds_60 : decode cX8_judgeWorlds 60 = .ok (.aload_n 1, 1) := by decide +kernel
theorem dX8_judgeWorlds_61 : decode cX8_judgeWorlds 61 = .ok (.getfield 59, 3) := by decide +kernel
theorem dX8_judgeWorlds_64 : decode cX8_judgeWorlds 64 = .ok (.iload_n 3, 1) := by decide +kernel
theorem dX8_judgeWorlds_65 : decode cX8_judgeWorlds 65 = .ok (.iaload, 1) := by decide +kernel
theorem dX8_judgeWorlds_66 : decode cX8_judgeWorlds 66 = .ok (.ifCond .ne 10, 3) := by decide +kernel
theorem dX8_judgeWorlds_69 : decode cX8_judgeWorlds 69 = .ok (.aload_n 1, 1) := by decide +kernel
theorem dX8_judgeWorlds_70 : decode cX8_judgeWorlds 70 = .ok (.getfield 34, 3) := by decide +kernel
theorem dX8_judgeWorlds_73 : decode cX8_judgeWorlds 73 = .ok (.iload_n 3, 1) := by decide +kernel
theorem dX8_judgeWorlds_74 : decode cX8_judgeWorlds 74 = .ok (.iload_n 2, 1) := by decide +kernel
theorem dX8_judgeWorlds_75 : decode cX8_judgeWorlds 75 = .ok (.iastore, 1) := by decide +kernel
theorem dX8_judgeWorlds_76 : decode cX8_judgeWorlds 76 = .ok (.aload_n 1, 1) := by decide +kernel
theorem dX8_judgeWorlds_77 : decode cX8_judgeWorlds 77 = .ok (.getfield 59, 3) := by decide +kernel
theorem dX8_judgeWorlds_80 : decode cX8_judgeWorlds 80 = .ok (.iload_n 3, 1) := by decide +kernel
theorem dX8_judgeWorlds_81 : decode cX8_judgeWorlds 81 = .ok (.dup2, 1) := by decide +kernel
theorem dX8_judgeWorlds_82 : decode cX8_judgeWorlds 82 = .ok (.iaload, 1) := by decide +kernel
theorem dX8_judgeWorlds_83 : decode cX8_judgeWorlds 83 = .ok (.iconst 1, 1) := by decide +kernel
theorem dX8_judgeWorlds_84 : decode cX8_judgeWorlds 84 = .ok (.iadd, 1) := by decide +kernel
theorem dX8_judgeWorlds_85 : decode cX8_judgeWorlds 85 = .ok (.iastore, 1) := by decide +kernel
theorem dX8_judgeWorlds_86 : decode cX8_judgeWorlds 86 = .ok (.iinc 2 1, 3) := by decide +kernel
theorem dX8_judgeWorlds_89 : decode cX8_judgeWorlds 89 = .ok (.goto (-66), 3) := by decide +kernel
theorem dX8_judgeWorlds_92 : decode cX8_judgeWorlds 92 = .ok (.return_, 1) := by decide +kernel
theorem dX8_compareWorlds_0 : decode cX8_compareWorlds 0 = .ok (.aload_n 0, 1) := by decide +kernel
theorem dX8_compareWorlds_1 : decode cX8_compareWorlds 1 = .ok (.getfield 62, 3) := by decide +kernel
theorem dX8_compareWorlds_4 : decode cX8_compareWorlds 4 = .ok (.aload_n 1, 1) := by decide +kernel
theorem dX8_compareWorlds_5 : decode cX8_compareWorlds 5 = .ok (.if_acmp .ne 20, 3) := by decide +kernel
theorem dX8_compareWorlds_8 : decode cX8_compareWorlds 8 = .ok (.aload_n 0, 1) := by decide +kernel
theorem dX8_compareWorlds_9 : decode cX8_compareWorlds 9 = .ok (.getfield 66, 3) := by decide +kernel
theorem dX8_compareWorlds_12 : decode cX8_compareWorlds 12 = .ok (.aload_n 2, 1) := by decide +kernel
theorem dX8_compareWorlds_13 : decode cX8_compareWorlds 13 = .ok (.if_acmp .ne 12, 3) := by decide +kernel
theorem dX8_compareWorlds_16 : decode cX8_compareWorlds 16 = .ok (.aload_n 0, 1) := by decide +kernel
theorem dX8_compareWorlds_17 : decode cX8_compareWorlds 17 = .ok (.getfield 69, 3) := by decide +kernel
theorem dX8_compareWorlds_20 : decode cX8_compareWorlds 20 = .ok (.iload_n 3, 1) := by decide +kernel
theorem dX8_compareWorlds_21 : decode cX8_compareWorlds 21 = .ok (.if_icmp .ne 4, 3) := by decide +kernel
theorem dX8_compareWorlds_24 : decode cX8_compareWorlds 24 = .ok (.return_, 1) := by decide +kernel
theorem dX8_compareWorlds_25 : decode cX8_compareWorlds 25 = .ok (.aload_n 0, 1) := by decide +kernel
theorem dX8_compareWorlds_26 : decode cX8_compareWorlds 26 = .ok (.aload_n 1, 1) := by decide +kernel
theorem dX8_compareWorlds_27 : decode cX8_compareWorlds 27 = .ok (.putfield 62, 3) := by decide +kernel
theorem dX8_compareWorlds_30 : decode cX8_compareWorlds 30 = .ok (.aload_n 0, 1) := by decide +kernel
theorem dX8_compareWorlds_31 : decode cX8_compareWorlds 31 = .ok (.aload_n 2, 1) := by decide +kernel
theorem dX8_compareWorlds_32 : decode cX8_compareWorlds 32 = .ok (.putfield 66, 3) := by decide +kernel
theorem dX8_compareWorlds_35 : decode cX8_compareWorlds 35 = .ok (.aload_n 0, 1) := by decide +kernel
theorem dX8_compareWorlds_36 : decode cX8_compareWorlds 36 = .ok (.iload_n 3, 1) := by decide +kernel
theorem dX8_compareWorlds_37 : decode cX8_compareWorlds 37 = .ok (.putfield 69, 3) := by decide +kernel
theorem dX8_compareWorlds_40 : decode cX8_compareWorlds 40 = .ok (.aload_n 0, 1) := by decide +kernel
theorem dX8_compareWorlds_41 : decode cX8_compareWorlds 41 = .ok (.iconst 0, 1) := by decide +kernel
theorem dX8_compareWorlds_42 : decode cX8_compareWorlds 42 = .ok (.putfield 72, 3) := by decide +kernel
theorem dX8_compareWorlds_45 : decode cX8_compareWorlds 45 = .ok (.aload_n 0, 1) := by decide +kernel
theorem dX8_compareWorlds_46 : decode cX8_compareWorlds 46 = .ok (.iconst (-1), 1) := by decide +kernel
theorem dX8_compareWorlds_47 : decode cX8_compareWorlds 47 = .ok (.putfield 75, 3) := by decide +kernel
theorem dX8_compareWorlds_50 : decode cX8_compareWorlds 50 = .ok (.iconst 0, 1) := by decide +kernel
theorem dX8_compareWorlds_51 : decode cX8_compareWorlds 51 = .ok (.istore 5, 2) := by decide +kernel
theorem dX8_compareWorlds_53 : decode cX8_compareWorlds 53 = .ok (.iload 5, 2) := by decide +kernel
theorem dX8_compareWorlds_55 : decode cX8_compareWorlds 55 = .ok (.aload_n 1, 1) := by decide +kernel
theorem dX8_compareWorlds_56 : decode cX8_compareWorlds 56 = .ok (.getfield 44, 3) := by decide +kernel
theorem dX8_compareWorlds_59 : decode cX8_compareWorlds 59 = .ok (.if_icmp .ge 93, 3) := by decide +kernel
theorem dX8_compareWorlds_62 : decode cX8_compareWorlds 62 = .ok (.aload_n 0, 1) := by decide +kernel
theorem dX8_compareWorlds_63 : decode cX8_compareWorlds 63 = .ok (.getfield 12, 3) := by decide +kernel
theorem dX8_compareWorlds_66 : decode cX8_compareWorlds 66 = .ok (.aload_n 1, 1) := by decide +kernel
theorem dX8_compareWorlds_67 : decode cX8_compareWorlds 67 = .ok (.iload 5, 2) := by decide +kernel
theorem dX8_compareWorlds_69 : decode cX8_compareWorlds 69 = .ok (.invokevirtual 48, 3) := by decide +kernel
theorem dX8_compareWorlds_72 : decode cX8_compareWorlds 72 = .ok (.aload_n 0, 1) := by decide +kernel
theorem dX8_compareWorlds_73 : decode cX8_compareWorlds 73 = .ok (.getfield 21, 3) := by decide +kernel
theorem dX8_compareWorlds_76 : decode cX8_compareWorlds 76 = .ok (.aload_n 1, 1) := by decide +kernel
theorem dX8_compareWorlds_77 : decode cX8_compareWorlds 77 = .ok (.aload_n 0, 1) := by decide +kernel
theorem dX8_compareWorlds_78 : decode cX8_compareWorlds 78 = .ok (.getfield 12, 3) := by decide +kernel
theorem dX8_compareWorlds_81 : decode cX8_compareWorlds 81 = .ok (.iload_n 3, 1) := by decide +kernel
theorem dX8_compareWorlds_82 : decode cX8_compareWorlds 82 = .ok (.aload 4, 2) := by decide +kernel
theorem dX8_compareWorlds_84 : decode cX8_compareWorlds 84 = .ok (.invokevirtual 78, 3) := by decide +kernel
theorem dX8_compareWorlds_87 : decode cX8_compareWorlds 87 = .ok (.aload_n 0, 1) := by decide +kernel
theorem dX8_compareWorlds_88 : decode cX8_compareWorlds 88 = .ok (.getfield 25, 3) := by decide +kernel
theorem dX8_compareWorlds_91 : decode cX8_compareWorlds 91 = .ok (.aload_n 2, 1) := by decide +kernel
theorem dX8_compareWorlds_92 : decode cX8_compareWorlds 92 = .ok (.aload_n 0, 1) := by decide +kernel
theorem dX8_compareWorlds_93 : decode cX8_compareWorlds 93 = .ok (.getfield 12, 3) := by decide +kernel
theorem dX8_compareWorlds_96 : decode cX8_compareWorlds 96 = .ok (.iload_n 3, 1) := by decide +kernel
theorem dX8_compareWorlds_97 : decode cX8_compareWorlds 97 = .ok (.aload 4, 2) := by decide +kernel
theorem dX8_compareWorlds_99 : decode cX8_compareWorlds 99 = .ok (.invokevirtual 78, 3) := by decide +kernel
theorem dX8_compareWorlds_102 : decode cX8_compareWorlds 102 = .ok (.aload_n 0, 1) := by decide +kernel
theorem dX8_compareWorlds_103 : decode cX8_compareWorlds 103 = .ok (.getfield 21, 3) := by decide +kernel
theorem dX8_compareWorlds_106 : decode cX8_compareWorlds 106 = .ok (.aload_n 0, 1) := by decide +kernel
theorem dX8_compareWorlds_107 : decode cX8_compareWorlds 107 = .ok (.getfield 25, 3) := by decide +kernel
theorem dX8_compareWorlds_110 : decode cX8_compareWorlds 110 = .ok (.invokevirtual 82, 3) := by decide +kernel
theorem dX8_compareWorlds_113 : decode cX8_compareWorlds 113 = .ok (.ifCond .ne 33, 3) := by decide +kernel
theorem dX8_compareWorlds_116 : decode cX8_compareWorlds 116 = .ok (.aload_n 0, 1) := by decide +kernel
theorem dX8_compareWorlds_117 : decode cX8_compareWorlds 117 = .ok (.aload_n 0, 1) := by decide +kernel
theorem dX8_compareWorlds_118 : decode cX8_compareWorlds 118 = .ok (.getfield 72, 3) := by decide +kernel
theorem dX8_compareWorlds_121 : decode cX8_compareWorlds 121 = .ok (.ifCond .ne 8, 3) := by decide +kernel
theorem dX8_compareWorlds_124 : decode cX8_compareWorlds 124 = .ok (.iload 5, 2) := by decide +kernel
theorem dX8_compareWorlds_126 : decode cX8_compareWorlds 126 = .ok (.goto 7, 3) := by decide +kernel
theorem dX8_compareWorlds_129 : decode cX8_compareWorlds 129 = .ok (.aload_n 0, 1) := by decide +kernel
theorem dX8_compareWorlds_130 : decode cX8_compareWorlds 130 = .ok (.getfield 75, 3) := by decide +kernel
theorem dX8_compareWorlds_133 : decode cX8_compareWorlds 133 = .ok (.putfield 75, 3) := by decide +kernel
theorem dX8_compareWorlds_136 : decode cX8_compareWorlds 136 = .ok (.aload_n 0, 1) := by decide +kernel
theorem dX8_compareWorlds_137 : decode cX8_compareWorlds 137 = .ok (.dup, 1) := by decide +kernel
theorem dX8_compareWorlds_138 : decode cX8_compareWorlds 138 = .ok (.getfield 72, 3) := by decide +kernel
theorem dX8_compareWorlds_141 : decode cX8_compareWorlds 141 = .ok (.iconst 1, 1) := by decide +kernel
theorem dX8_compareWorlds_142 : decode cX8_compareWorlds 142 = .ok (.iadd, 1) := by decide +kernel
theorem dX8_compareWorlds_143 : decode cX8_compareWorlds 143 = .ok (.putfield 72, 3) := by decide +kernel
theorem dX8_compareWorlds_146 : decode cX8_compareWorlds 146 = .ok (.iinc 5 1, 3) := by decide +kernel
theorem dX8_compareWorlds_149 : decode cX8_compareWorlds 149 = .ok (.goto (-96), 3) := by decide +kernel
theorem dX8_compareWorlds_152 : decode cX8_compareWorlds 152 = .ok (.return_, 1) := by decide +kernel
theorem dX8_forgetComparison_0 : decode cX8_forgetComparison 0 = .ok (.aload_n 0, 1) := by decide +kernel
theorem dX8_forgetComparison_1 : decode cX8_forgetComparison 1 = .ok (.aconst_null, 1) := by decide +kernel
theorem dX8_forgetComparison_2 : decode cX8_forgetComparison 2 = .ok (.putfield 62, 3) := by decide +kernel
theorem dX8_forgetComparison_5 : decode cX8_forgetComparison 5 = .ok (.aload_n 0, 1) := by decide +kernel
theorem dX8_forgetComparison_6 : decode cX8_forgetComparison 6 = .ok (.aconst_null, 1) := by decide +kernel
theorem dX8_forgetComparison_7 : decode cX8_forgetComparison 7 = .ok (.putfield 66, 3) := by decide +kernel
theorem dX8_forgetComparison_10 : decode cX8_forgetComparison 10 = .ok (.return_, 1) := by decide +kernel
theorem dX9_init_0 : decode cX9_init 0 = .ok (.aload_n 0, 1) := by decide +kernel
theorem dX9_init_1 : decode cX9_init 1 = .ok (.invokespecial 3, 3) := by decide +kernel
theorem dX9_init_4 : decode cX9_init 4 = .ok (.aload_n 0, 1) := by decide +kernel
theorem dX9_init_5 : decode cX9_init 5 = .ok (.bipush 11, 2) := by decide +kernel
theorem dX9_init_7 : decode cX9_init 7 = .ok (.newarray .long, 2) := by decide +kernel
theorem dX9_init_9 : decode cX9_init 9 = .ok (.putfield 11, 3) := by decide +kernel
theorem dX9_init_12 : decode cX9_init 12 = .ok (.aload_n 0, 1) := by decide +kernel
theorem dX9_init_13 : decode cX9_init 13 = .ok (.bipush 14, 2) := by decide +kernel
theorem dX9_init_15 : decode cX9_init 15 = .ok (.putfield 15, 3) := by decide +kernel
theorem dX9_init_18 : decode cX9_init 18 = .ok (.aload_n 0, 1) := by decide +kernel
theorem dX9_init_19 : decode cX9_init 19 = .ok (.aload_n 1, 1) := by decide +kernel
theorem dX9_init_20 : decode cX9_init 20 = .ok (.putfield 19, 3) := by decide +kernel
theorem dX9_init_23 : decode cX9_init 23 = .ok (.aload_n 0, 1) := by decide +kernel
theorem dX9_init_24 : decode cX9_init 24 = .ok (.iload_n 2, 1) := by decide +kernel
theorem dX9_init_25 : decode cX9_init 25 = .ok (.putfield 23, 3) := by decide +kernel
theorem dX9_init_28 : decode cX9_init 28 = .ok (.aload_n 0, 1) := by decide +kernel
theorem dX9_init_29 : decode cX9_init 29 = .ok (.iload_n 2, 1) := by decide +kernel
theorem dX9_init_30 : decode cX9_init 30 = .ok (.iconst 1, 1) := by decide +kernel
theorem dX9_init_31 : decode cX9_init 31 = .ok (.iadd, 1) := by decide +kernel
theorem dX9_init_32 : decode cX9_init 32 = .ok (.newarray .int, 2) := by decide +kernel
theorem dX9_init_34 : decode cX9_init 34 = .ok (.putfield 26, 3) := by decide +kernel
theorem dX9_init_37 : decode cX9_init 37 = .ok (.aload_n 0, 1) := by decide +kernel
theorem dX9_init_38 : decode cX9_init 38 = .ok (.iload_n 2, 1) := by decide +kernel
theorem dX9_init_39 : decode cX9_init 39 = .ok (.iconst 1, 1) := by decide +kernel
theorem dX9_init_40 : decode cX9_init 40 = .ok (.iadd, 1) := by decide +kernel
theorem dX9_init_41 : decode cX9_init 41 = .ok (.newarray .int, 2) := by decide +kernel
theorem dX9_init_43 : decode cX9_init 43 = .ok (.putfield 30, 3) := by decide +kernel
theorem dX9_init_46 : decode cX9_init 46 = .ok (.aload_n 0, 1) := by decide +kernel
theorem dX9_init_47 : decode cX9_init 47 = .ok (.iload_n 2, 1) := by decide +kernel
theorem dX9_init_48 : decode cX9_init 48 = .ok (.iconst 1, 1) := by decide +kernel
theorem dX9_init_49 : decode cX9_init 49 = .ok (.iadd, 1) := by decide +kernel
theorem dX9_init_50 : decode cX9_init 50 = .ok (.newarray .long, 2) := by decide +kernel
theorem dX9_init_52 : decode cX9_init 52 = .ok (.putfield 33, 3) := by decide +kernel
theorem dX9_init_55 : decode cX9_init 55 = .ok (.return_, 1) := by decide +kernel
theorem dX9_cutText_0 : decode cX9_cutText 0 = .ok (.aload_n 0, 1) := by decide +kernel
theorem dX9_cutText_1 : decode cX9_cutText 1 = .ok (.invokevirtual 36, 3) := by decide +kernel
theorem dX9_cutText_4 : decode cX9_cutText 4 = .ok (.iconst 0, 1) := by decide +kernel
theorem dX9_cutText_5 : decode cX9_cutText 5 = .ok (.istore_n 1, 1) := by decide +kernel
theorem dX9_cutText_6 : decode cX9_cutText 6 = .ok (.iconst 0, 1) := by decide +kernel
theorem dX9_cutText_7 : decode cX9_cutText 7 = .ok (.istore_n 2, 1) := by decide +kernel
theorem dX9_cutText_8 : decode cX9_cutText 8 = .ok (.iload_n 2, 1) := by decide +kernel
theorem dX9_cutText_9 : decode cX9_cutText 9 = .ok (.aload_n 0, 1) := by decide +kernel
theorem dX9_cutText_10 : decode cX9_cutText 10 = .ok (.getfield 23, 3) := by decide +kernel
theorem dX9_cutText_13 : decode cX9_cutText 13 = .ok (.if_icmp .ge 99, 3) := by decide +kernel
theorem dX9_cutText_16 : decode cX9_cutText 16 = .ok (.iload_n 1, 1) := by decide +kernel
theorem dX9_cutText_17 : decode cX9_cutText 17 = .ok (.aload_n 0, 1) := by decide +kernel
theorem dX9_cutText_18 : decode cX9_cutText 18 = .ok (.getfield 23, 3) := by decide +kernel
theorem dX9_cutText_21 : decode cX9_cutText 21 = .ok (.if_icmp .ge 91, 3) := by decide +kernel
theorem dX9_cutText_24 : decode cX9_cutText 24 = .ok (.aload_n 0, 1) := by decide +kernel
theorem dX9_cutText_25 : decode cX9_cutText 25 = .ok (.getfield 19, 3) := by decide +kernel
theorem dX9_cutText_28 : decode cX9_cutText 28 = .ok (.iload_n 1, 1) := by decide +kernel
theorem dX9_cutText_29 : decode cX9_cutText 29 = .ok (.baload, 1) := by decide +kernel
theorem dX9_cutText_30 : decode cX9_cutText 30 = .ok (.istore_n 3, 1) := by decide +kernel
theorem dX9_cutText_31 : decode cX9_cutText 31 = .ok (.iload_n 3, 1) := by decide +kernel
theorem dX9_cutText_32 : decode cX9_cutText 32 = .ok (.bipush 10, 2) := by decide +kernel
theorem dX9_cutText_34 : decode cX9_cutText 34 = .ok (.if_icmp .eq 9, 3) := by decide +kernel
theorem dX9_cutText_37 : decode cX9_cutText 37 = .ok (.iload_n 3, 1) := by decide +kernel
theorem dX9_cutText_38 : decode cX9_cutText 38 = .ok (.bipush 32, 2) := by decide +kernel
theorem dX9_cutText_40 : decode cX9_cutText 40 = .ok (.if_icmp .ne 9, 3) := by decide +kernel
theorem dX9_cutText_43 : decode cX9_cutText 43 = .ok (.iinc 1 1, 3) := by decide +kernel
theorem dX9_cutText_46 : decode cX9_cutText 46 = .ok (.goto 60, 3) := by decide +kernel
theorem dX9_cutText_49 : decode cX9_cutText 49 = .ok (.iload_n 3, 1) := by decide +kernel
theorem dX9_cutText_50 : decode cX9_cutText 50 = .ok (.invokestatic 39, 3) := by decide +kernel
theorem dX9_cutText_53 : decode cX9_cutText 53 = .ok (.ifCond .eq 12, 3) := by decide +kernel
theorem dX9_cutText_56 : decode cX9_cutText 56 = .ok (.aload_n 0, 1) := by decide +kernel
theorem dX9_cutText_57 : decode cX9_cutText 57 = .ok (.iload_n 1, 1) := by decide +kernel
theorem dX9_cutText_58 : decode cX9_cutText 58 = .ok (.invokevirtual 43, 3) := by decide +kernel
theorem dX9_cutText_61 : decode cX9_cutText 61 = .ok (.istore_n 1, 1) := by decide +kernel
theorem dX9_cutText_62 : decode cX9_cutText 62 = .ok (.goto 44, 3) := by decide +kernel
theorem dX9_cutText_65 : decode cX9_cutText 65 = .ok (.iload_n 3, 1) := by decide +kernel
theorem dX9_cutText_66 : decode cX9_cutText 66 = .ok (.invokestatic 47, 3) := by decide +kernel
theorem dX9_cutText_69 : decode cX9_cutText 69 = .ok (.ifCond .eq 12, 3) := by decide +kernel
theorem dX9_cutText_72 : decode cX9_cutText 72 = .ok (.aload_n 0, 1) := by decide +kernel
theorem dX9_cutText_73 : decode cX9_cutText 73 = .ok (.iload_n 1, 1) := by decide +kernel
theorem dX9_cutText_74 : decode cX9_cutText 74 = .ok (.invokevirtual 50, 3) := by decide +kernel
theorem dX9_cutText_77 : decode cX9_cutText 77 = .ok (.istore_n 1, 1) := by decide +kernel
theorem dX9_cutText_78 : decode cX9_cutText 78 = .ok (.goto 28, 3) := by decide +kernel
theorem dX9_cutText_81 : decode cX9_cutText 81 = .ok (.aload_n 0, 1) := by decide +kernel
theorem dX9_cutText_82 : decode cX9_cutText 82 = .ok (.ldc 53, 2) := by decide +kernel
theorem dX9_cutText_84 : decode cX9_cutText 84 = .ok (.iload_n 3, 1) := by decide +kernel
theorem dX9_cutText_85 : decode cX9_cutText 85 = .ok (.i2c, 1) := by decide +kernel
theorem dX9_cutText_86 : decode cX9_cutText 86 = .ok (.invokevirtual 55, 3) := by decide +kernel
theorem dX9_cutText_89 : decode cX9_cutText 89 = .ok (.ifCond .ge 8, 3) := by decide +kernel
theorem dX9_cutText_92 : decode cX9_cutText 92 = .ok (.bipush 13, 2) := by decide +kernel
theorem dX9_cutText_94 : decode cX9_cutText 94 = .ok (.goto 4, 3) := by decide +kernel
theorem dX9_cutText_97 : decode cX9_cutText 97 = .ok (.iload_n 3, 1) := by decide +kernel
theorem dX9_cutText_98 : decode cX9_cutText 98 = .ok (.iload_n 1, 1) := by decide +kernel
theorem dX9_cutText_99 : decode cX9_cutText 99 = .ok (.lconst 0, 1) := by decide +kernel
theorem dX9_cutText_100 : decode cX9_cutText 100 = .ok (.invokevirtual 60, 3) := by decide +kernel
theorem dX9_cutText_103 : decode cX9_cutText 103 = .ok (.iinc 1 1, 3) := by decide +kernel
theorem dX9_cutText_106 : decode cX9_cutText 106 = .ok (.iinc 2 1, 3) := by decide +kernel
theorem dX9_cutText_109 : decode cX9_cutText 109 = .ok (.goto (-101), 3) := by decide +kernel
theorem dX9_cutText_112 : decode cX9_cutText 112 = .ok (.aload_n 0, 1) := by decide +kernel
theorem dX9_cutText_113 : decode cX9_cutText 113 = .ok (.bipush 14, 2) := by decide +kernel
theorem dX9_cutText_115 : decode cX9_cutText 115 = .ok (.aload_n 0, 1) := by decide +kernel
theorem dX9_cutText_116 : decode cX9_cutText 116 = .ok (.getfield 23, 3) := by decide +kernel
theorem dX9_cutText_119 : decode cX9_cutText 119 = .ok (.lconst 0, 1) := by decide +kernel
theorem dX9_cutText_120 : decode cX9_cutText 120 = .ok (.invokevirtual 60, 3) := by decide +kernel
theorem dX9_cutText_123 : decode cX9_cutText 123 = .ok (.aload_n 0, 1) := by decide +kernel
theorem dX9_cutText_124 : decode cX9_cutText 124 = .ok (.invokevirtual 64, 3) := by decide +kernel
theorem dX9_cutText_127 : decode cX9_cutText 127 = .ok (.return_, 1) := by decide +kernel
theorem dX9_toNext_0 : decode cX9_toNext 0 = .ok (.aload_n 0, 1) := by decide +kernel
theorem dX9_toNext_1 : decode cX9_toNext 1 = .ok (.getfield 67, 3) := by decide +kernel
theorem dX9_toNext_4 : decode cX9_toNext 4 = .ok (.aload_n 0, 1) := by decide +kernel
theorem dX9_toNext_5 : decode cX9_toNext 5 = .ok (.getfield 70, 3) := by decide +kernel
theorem dX9_toNext_8 : decode cX9_toNext 8 = .ok (.if_icmp .ge 52, 3) := by decide +kernel
theorem dX9_toNext_11 : decode cX9_toNext 11 = .ok (.aload_n 0, 1) := by decide +kernel
theorem dX9_toNext_12 : decode cX9_toNext 12 = .ok (.aload_n 0, 1) := by decide +kernel
theorem dX9_toNext_13 : decode cX9_toNext 13 = .ok (.getfield 26, 3) := by decide +kernel
theorem dX9_toNext_16 : decode cX9_toNext 16 = .ok (.aload_n 0, 1) := by decide +kernel
theorem dX9_toNext_17 : decode cX9_toNext 17 = .ok (.getfield 67, 3) := by decide +kernel
theorem dX9_toNext_20 : decode cX9_toNext 20 = .ok (.iaload, 1) := by decide +kernel
theorem dX9_toNext_21 : decode cX9_toNext 21 = .ok (.putfield 15, 3) := by decide +kernel
theorem dX9_toNext_24 : decode cX9_toNext 24 = .ok (.aload_n 0, 1) := by decide +kernel
theorem dX9_toNext_25 : decode cX9_toNext 25 = .ok (.aload_n 0, 1) := by decide +kernel
theorem dX9_toNext_26 : decode cX9_toNext 26 = .ok (.getfield 30, 3) := by decide +kernel
theorem dX9_toNext_29 : decode cX9_toNext 29 = .ok (.aload_n 0, 1) := by decide +kernel
theorem dX9_toNext_30 : decode cX9_toNext 30 = .ok (.getfield 67, 3) := by decide +kernel
theorem dX9_toNext_33 : decode cX9_toNext 33 = .ok (.iaload, 1) := by decide +kernel
theorem dX9_toNext_34 : decode cX9_toNext 34 = .ok (.putfield 73, 3) := by decide +kernel
theorem dX9_toNext_37 : decode cX9_toNext 37 = .ok (.aload_n 0, 1) := by decide +kernel
theorem dX9_toNext_38 : decode cX9_toNext 38 = .ok (.aload_n 0, 1) := by decide +kernel
theorem dX9_toNext_39 : decode cX9_toNext 39 = .ok (.getfield 33, 3) := by decide +kernel
theorem dX9_toNext_42 : decode cX9_toNext 42 = .ok (.aload_n 0, 1) := by decide +kernel
theorem dX9_toNext_43 : decode cX9_toNext 43 = .ok (.getfield 67, 3) := by decide +kernel
theorem dX9_toNext_46 : decode cX9_toNext 46 = .ok (.laload, 1) := by decide +kernel
theorem dX9_toNext_47 : decode cX9_toNext 47 = .ok (.putfield 76, 3) := by decide +kernel
theorem dX9_toNext_50 : decode cX9_toNext 50 = .ok (.aload_n 0, 1) := by decide +kernel
theorem dX9_toNext_51 : decode cX9_toNext 51 = .ok (.dup, 1) := by decide +kernel
theorem dX9_toNext_52 : decode cX9_toNext 52 = .ok (.getfield 67, 3) := by decide +kernel
theorem dX9_toNext_55 : decode cX9_toNext 55 = .ok (.iconst 1, 1) := by decide +kernel
theorem dX9_toNext_56 : decode cX9_toNext 56 = .ok (.iadd, 1) := by decide +kernel
theorem dX9_toNext_57 : decode cX9_toNext 57 = .ok (.putfield 67, 3) := by decide +kernel
theorem dX9_toNext_60 : decode cX9_toNext 60 = .ok (.return_, 1) := by decide +kernel
theorem dX9_tellsClause_0 : decode cX9_tellsClause 0 = .ok (.iload_n 1, 1) := by decide +kernel
theorem dX9_tellsClause_1 : decode cX9_tellsClause 1 = .ok (.iconst 1, 1) := by decide +kernel
theorem dX9_tellsClause_2 : decode cX9_tellsClause 2 = .ok (.if_icmp .lt 38, 3) := by decide +kernel
theorem dX9_tellsClause_5 : decode cX9_tellsClause 5 = .ok (.iload_n 1, 1) := by decide +kernel
theorem dX9_tellsClause_6 : decode cX9_tellsClause 6 = .ok (.aload_n 0, 1) := by decide +kernel
theorem dX9_tellsClause_7 : decode cX9_tellsClause 7 = .ok (.getfield 70, 3) := by decide +kernel
theorem dX9_tellsClause_10 : decode cX9_tellsClause 10 = .ok (.if_icmp .ge 30, 3) := by decide +kernel
theorem dX9_tellsClause_13 : decode cX9_tellsClause 13 = .ok (.aload_n 0, 1) := by decide +kernel
theorem dX9_tellsClause_14 : decode cX9_tellsClause 14 = .ok (.getfield 26, 3) := by decide +kernel
theorem dX9_tellsClause_17 : decode cX9_tellsClause 17 = .ok (.iload_n 1, 1) := by decide +kernel
theorem dX9_tellsClause_18 : decode cX9_tellsClause 18 = .ok (.iaload, 1) := by decide +kernel
theorem dX9_tellsClause_19 : decode cX9_tellsClause 19 = .ok (.bipush 11, 2) := by decide +kernel
theorem dX9_tellsClause_21 : decode cX9_tellsClause 21 = .ok (.if_icmp .gt 19, 3) := by decide +kernel
theorem dX9_tellsClause_24 : decode cX9_tellsClause 24 = .ok (.aload_n 0, 1) := by decide +kernel
theorem dX9_tellsClause_25 : decode cX9_tellsClause 25 = .ok (.getfield 26, 3) := by decide +kernel
theorem dX9_tellsClause_28 : decode cX9_tellsClause 28 = .ok (.iload_n 1, 1) := by decide +kernel
theorem dX9_tellsClause_29 : decode cX9_tellsClause 29 = .ok (.iconst 1, 1) := by decide +kernel
theorem dX9_tellsClause_30 : decode cX9_tellsClause 30 = .ok (.isub, 1) := by decide +kernel
theorem dX9_tellsClause_31 : decode cX9_tellsClause 31 = .ok (.iaload, 1) := by decide +kernel
theorem dX9_tellsClause_32 : decode cX9_tellsClause 32 = .ok (.iconst 2, 1) := by decide +kernel
theorem dX9_tellsClause_33 : decode cX9_tellsClause 33 = .ok (.if_icmp .ne 7, 3) := by decide +kernel
theorem dX9_tellsClause_36 : decode cX9_tellsClause 36 = .ok (.iconst 1, 1) := by decide +kernel
theorem dX9_tellsClause_37 : decode cX9_tellsClause 37 = .ok (.goto 4, 3) := by decide +kernel
theorem dX9_tellsClause_40 : decode cX9_tellsClause 40 = .ok (.iconst 0, 1) := by decide +kernel
theorem dX9_tellsClause_41 : decode cX9_tellsClause 41 = .ok (.ireturn, 1) := by decide +kernel
theorem dX9_keep_0 : decode cX9_keep 0 = .ok (.aload_n 0, 1) := by decide +kernel
theorem dX9_keep_1 : decode cX9_keep 1 = .ok (.getfield 70, 3) := by decide +kernel
theorem dX9_keep_4 : decode cX9_keep 4 = .ok (.aload_n 0, 1) := by decide +kernel
theorem dX9_keep_5 : decode cX9_keep 5 = .ok (.getfield 26, 3) := by decide +kernel
theorem dX9_keep_8 : decode cX9_keep 8 = .ok (.arraylength, 1) := by decide +kernel
theorem dX9_keep_9 : decode cX9_keep 9 = .ok (.if_icmp .ge 43, 3) := by decide +kernel
theorem dX9_keep_12 : decode cX9_keep 12 = .ok (.aload_n 0, 1) := by decide +kernel
theorem dX9_keep_13 : decode cX9_keep 13 = .ok (.getfield 26, 3) := by decide +kernel
theorem dX9_keep_16 : decode cX9_keep 16 = .ok (.aload_n 0, 1) := by decide +kernel
theorem dX9_keep_17 : decode cX9_keep 17 = .ok (.getfield 70, 3) := by decide +kernel
theorem dX9_keep_20 : decode cX9_keep 20 = .ok (.iload_n 1, 1) := by decide +kernel
theorem dX9_keep_21 : decode cX9_keep 21 = .ok (.iastore, 1) := by decide +kernel
theorem dX9_keep_22 : decode cX9_keep 22 = .ok (.aload_n 0, 1) := by decide +kernel
theorem dX9_keep_23 : decode cX9_keep 23 = .ok (.getfield 30, 3) := by decide +kernel
theorem dX9_keep_26 : decode cX9_keep 26 = .ok (.aload_n 0, 1) := by decide +kernel
theorem dX9_keep_27 : decode cX9_keep 27 = .ok (.getfield 70, 3) := by decide +kernel
theorem dX9_keep_30 : decode cX9_keep 30 = .ok (.iload_n 2, 1) := by decide +kernel
theorem dX9_keep_31 : decode cX9_keep 31 = .ok (.iastore, 1) := by decide +kernel
theorem dX9_keep_32 : decode cX9_keep 32 = .ok (.aload_n 0, 1) := by decide +kernel
theorem dX9_keep_33 : decode cX9_keep 33 = .ok (.getfield 33, 3) := by decide +kernel
theorem dX9_keep_36 : decode cX9_keep 36 = .ok (.aload_n 0, 1) := by decide +kernel
theorem dX9_keep_37 : decode cX9_keep 37 = .ok (.getfield 70, 3) := by decide +kernel
theorem dX9_keep_40 : decode cX9_keep 40 = .ok (.lload_n 3, 1) := by decide +kernel
theorem dX9_keep_41 : decode cX9_keep 41 = .ok (.lastore, 1) := by decide +kernel
theorem dX9_keep_42 : decode cX9_keep 42 = .ok (.aload_n 0, 1) := by decide +kernel
theorem dX9_keep_43 : decode cX9_keep 43 = .ok (.dup, 1) := by decide +kernel
theorem dX9_keep_44 : decode cX9_keep 44 = .ok (.getfield 70, 3) := by decide +kernel
theorem dX9_keep_47 : decode cX9_keep 47 = .ok (.iconst 1, 1) := by decide +kernel
theorem dX9_keep_48 : decode cX9_keep 48 = .ok (.iadd, 1) := by decide +kernel
theorem dX9_keep_49 : decode cX9_keep 49 = .ok (.putfield 70, 3) := by decide +kernel
theorem dX9_keep_52 : decode cX9_keep 52 = .ok (.return_, 1) := by decide +kernel
theorem dX9_cutLetters_0 : decode cX9_cutLetters 0 = .ok (.lconst 0, 1) := by decide +kernel
theorem dX9_cutLetters_1 : decode cX9_cutLetters 1 = .ok (.lstore_n 2, 1) := by decide +kernel
theorem dX9_cutLetters_2 : decode cX9_cutLetters 2 = .ok (.iload_n 1, 1) := by decide +kernel
theorem dX9_cutLetters_3 : decode cX9_cutLetters 3 = .ok (.istore 4, 2) := by decide +kernel
theorem dX9_cutLetters_5 : decode cX9_cutLetters 5 = .ok (.iload 4, 2) := by decide +kernel
theorem dX9_cutLetters_7 : decode cX9_cutLetters 7 = .ok (.aload_n 0, 1) := by decide +kernel
theorem dX9_cutLetters_8 : decode cX9_cutLetters 8 = .ok (.getfield 23, 3) := by decide +kernel
theorem dX9_cutLetters_11 : decode cX9_cutLetters 11 = .ok (.if_icmp .ge 34, 3) := by decide +kernel
theorem dX9_cutLetters_14 : decode cX9_cutLetters 14 = .ok (.aload_n 0, 1) := by decide +kernel
theorem dX9_cutLetters_15 : decode cX9_cutLetters 15 = .ok (.getfield 19, 3) := by decide +kernel
theorem dX9_cutLetters_18 : decode cX9_cutLetters 18 = .ok (.iload 4, 2) := by decide +kernel
theorem dX9_cutLetters_20 : decode cX9_cutLetters 20 = .ok (.baload, 1) := by decide +kernel
theorem dX9_cutLetters_21 : decode cX9_cutLetters 21 = .ok (.invokestatic 39, 3) := by decide +kernel
theorem dX9_cutLetters_24 : decode cX9_cutLetters 24 = .ok (.ifCond .eq 21, 3) := by decide +kernel
theorem dX9_cutLetters_27 : decode cX9_cutLetters 27 = .ok (.lload_n 2, 1) := by decide +kernel
theorem dX9_cutLetters_28 : decode cX9_cutLetters 28 = .ok (.aload_n 0, 1) := by decide +kernel
theorem dX9_cutLetters_29 : decode cX9_cutLetters 29 = .ok (.getfield 19, 3) := by decide +kernel
theorem dX9_cutLetters_32 : decode cX9_cutLetters 32 = .ok (.iload 4, 2) := by decide +kernel
theorem dX9_cutLetters_34 : decode cX9_cutLetters 34 = .ok (.baload, 1) := by decide +kernel
theorem dX9_cutLetters_35 : decode cX9_cutLetters 35 = .ok (.invokestatic 80, 3) := by decide +kernel
theorem dX9_cutLetters_38 : decode cX9_cutLetters 38 = .ok (.lstore_n 2, 1) := by decide +kernel
theorem dX9_cutLetters_39 : decode cX9_cutLetters 39 = .ok (.iinc 4 1, 3) := by decide +kernel
theorem dX9_cutLetters_42 : decode cX9_cutLetters 42 = .ok (.goto (-37), 3) := by decide +kernel
theorem dX9_cutLetters_45 : decode cX9_cutLetters 45 = .ok (.aload_n 0, 1) := by decide +kernel
theorem dX9_cutLetters_46 : decode cX9_cutLetters 46 = .ok (.iload 4, 2) := by decide +kernel
theorem dX9_cutLetters_48 : decode cX9_cutLetters 48 = .ok (.iload_n 1, 1) := by decide +kernel
theorem dX9_cutLetters_49 : decode cX9_cutLetters 49 = .ok (.isub, 1) := by decide +kernel
theorem dX9_cutLetters_50 : decode cX9_cutLetters 50 = .ok (.bipush 10, 2) := by decide +kernel
theorem dX9_cutLetters_52 : decode cX9_cutLetters 52 = .ok (.if_icmp .le 8, 3) := by decide +kernel
theorem dX9_cutLetters_55 : decode cX9_cutLetters 55 = .ok (.bipush 13, 2) := by decide +kernel
theorem dX9_cutLetters_57 : decode cX9_cutLetters 57 = .ok (.goto 8, 3) := by decide +kernel
theorem dX9_cutLetters_60 : decode cX9_cutLetters 60 = .ok (.aload_n 0, 1) := by decide +kernel
theorem dX9_cutLetters_61 : decode cX9_cutLetters 61 = .ok (.lload_n 2, 1) := by decide +kernel
theorem dX9_cutLetters_62 : decode cX9_cutLetters 62 = .ok (.invokevirtual 84, 3) := by decide +kernel
theorem dX9_cutLetters_65 : decode cX9_cutLetters 65 = .ok (.iload_n 1, 1) := by decide +kernel
theorem dX9_cutLetters_66 : decode cX9_cutLetters 66 = .ok (.lload_n 2, 1) := by decide +kernel
theorem dX9_cutLetters_67 : decode cX9_cutLetters 67 = .ok (.invokevirtual 60, 3) := by decide +kernel
theorem dX9_cutLetters_70 : decode cX9_cutLetters 70 = .ok (.iload 4, 2) := by decide +kernel
theorem dX9_cutLetters_72 : decode cX9_cutLetters 72 = .ok (.ireturn, 1) := by decide +kernel
theorem dX9_cutDigits_0 : decode cX9_cutDigits 0 = .ok (.iconst 0, 1) := by decide +kernel
theorem dX9_cutDigits_1 : decode cX9_cutDigits 1 = .ok (.istore_n 2, 1) := by decide +kernel
theorem dX9_cutDigits_2 : decode cX9_cutDigits 2 = .ok (.iload_n 1, 1) := by decide +kernel
theorem dX9_cutDigits_3 : decode cX9_cutDigits 3 = .ok (.istore_n 3, 1) := by decide +kernel
theorem dX9_cutDigits_4 : decode cX9_cutDigits 4 = .ok (.iload_n 3, 1) := by decide +kernel
theorem dX9_cutDigits_5 : decode cX9_cutDigits 5 = .ok (.aload_n 0, 1) := by decide +kernel
theorem dX9_cutDigits_6 : decode cX9_cutDigits 6 = .ok (.getfield 23, 3) := by decide +kernel
theorem dX9_cutDigits_9 : decode cX9_cutDigits 9 = .ok (.if_icmp .ge 36, 3) := by decide +kernel
theorem dX9_cutDigits_12 : decode cX9_cutDigits 12 = .ok (.aload_n 0, 1) := by decide +kernel
theorem dX9_cutDigits_13 : decode cX9_cutDigits 13 = .ok (.getfield 19, 3) := by decide +kernel
theorem dX9_cutDigits_16 : decode cX9_cutDigits 16 = .ok (.iload_n 3, 1) := by decide +kernel
theorem dX9_cutDigits_17 : decode cX9_cutDigits 17 = .ok (.baload, 1) := by decide +kernel
theorem dX9_cutDigits_18 : decode cX9_cutDigits 18 = .ok (.invokestatic 47, 3) := by decide +kernel
theorem dX9_cutDigits_21 : decode cX9_cutDigits 21 = .ok (.ifCond .eq 24, 3) := by decide +kernel
theorem dX9_cutDigits_24 : decode cX9_cutDigits 24 = .ok (.iload_n 2, 1) := by decide +kernel
theorem dX9_cutDigits_25 : decode cX9_cutDigits 25 = .ok (.bipush 10, 2) := by decide +kernel
theorem dX9_cutDigits_27 : decode cX9_cutDigits 27 = .ok (.imul, 1) := by decide +kernel
theorem dX9_cutDigits_28 : decode cX9_cutDigits 28 = .ok (.aload_n 0, 1) := by decide +kernel
theorem dX9_cutDigits_29 : decode cX9_cutDigits 29 = .ok (.getfield 19, 3) := by decide +kernel
theorem dX9_cutDigits_32 : decode cX9_cutDigits 32 = .ok (.iload_n 3, 1) := by decide +kernel
theorem dX9_cutDigits_33 : decode cX9_cutDigits 33 = .ok (.baload, 1) := by decide +kernel
theorem dX9_cutDigits_34 : decode cX9_cutDigits 34 = .ok (.iadd, 1) := by decide +kernel
theorem dX9_cutDigits_35 : decode cX9_cutDigits 35 = .ok (.bipush 48, 2) := by decide +kernel
theorem dX9_cutDigits_37 : decode cX9_cutDigits 37 = .ok (.isub, 1) := by decide +kernel
theorem dX9_cutDigits_38 : decode cX9_cutDigits 38 = .ok (.istore_n 2, 1) := by decide +kernel
theorem dX9_cutDigits_39 : decode cX9_cutDigits 39 = .ok (.iinc 3 1, 3) := by decide +kernel
theorem dX9_cutDigits_42 : decode cX9_cutDigits 42 = .ok (.goto (-38), 3) := by decide +kernel
theorem dX9_cutDigits_45 : decode cX9_cutDigits 45 = .ok (.aload_n 0, 1) := by decide +kernel
theorem dX9_cutDigits_46 : decode cX9_cutDigits 46 = .ok (.iload_n 3, 1) := by decide +kernel
theorem dX9_cutDigits_47 : decode cX9_cutDigits 47 = .ok (.iload_n 1, 1) := by decide +kernel
theorem dX9_cutDigits_48 : decode cX9_cutDigits 48 = .ok (.isub, 1) := by decide +kernel
theorem dX9_cutDigits_49 : decode cX9_cutDigits 49 = .ok (.iconst 4, 1) := by decide +kernel
theorem dX9_cutDigits_50 : decode cX9_cutDigits 50 = .ok (.if_icmp .le 8, 3) := by decide +kernel
theorem dX9_cutDigits_53 : decode cX9_cutDigits 53 = .ok (.bipush 13, 2) := by decide +kernel
theorem dX9_cutDigits_55 : decode cX9_cutDigits 55 = .ok (.goto 5, 3) := by decide +kernel
theorem dX9_cutDigits_58 : decode cX9_cutDigits 58 = .ok (.bipush 12, 2) := by decide +kernel
theorem dX9_cutDigits_60 : decode cX9_cutDigits 60 = .ok (.iload_n 1, 1) := by decide +kernel
theorem dX9_cutDigits_61 : decode cX9_cutDigits 61 = .ok (.iload_n 2, 1) := by decide +kernel
theorem dX9_cutDigits_62 : decode cX9_cutDigits 62 = .ok (.i2l, 1) := by decide +kernel
theorem dX9_cutDigits_63 : decode cX9_cutDigits 63 = .ok (.invokevirtual 60, 3) := by decide +kernel
theorem dX9_cutDigits_66 : decode cX9_cutDigits 66 = .ok (.iload_n 3, 1) := by decide +kernel
theorem dX9_cutDigits_67 : decode cX9_cutDigits 67 = .ok (.ireturn, 1) := by decide +kernel
theorem dX9_kindOfWord_0 : decode cX9_kindOfWord 0 = .ok (.iconst 0, 1) := by decide +kernel
theorem dX9_kindOfWord_1 : decode cX9_kindOfWord 1 = .ok (.istore_n 3, 1) := by decide +kernel
theorem dX9_kindOfWord_2 : decode cX9_kindOfWord 2 = .ok (.iload_n 3, 1) := by decide +kernel
theorem dX9_kindOfWord_3 : decode cX9_kindOfWord 3 = .ok (.bipush 11, 2) := by decide +kernel
theorem dX9_kindOfWord_5 : decode cX9_kindOfWord 5 = .ok (.if_icmp .ge 22, 3) := by decide +kernel
theorem dX9_kindOfWord_8 : decode cX9_kindOfWord 8 = .ok (.aload_n 0, 1) := by decide +kernel
theorem dX9_kindOfWord_9 : decode cX9_kindOfWord 9 = .ok (.getfield 11, 3) := by decide +kernel
theorem dX9_kindOfWord_12 : decode cX9_kindOfWord 12 = .ok (.iload_n 3, 1) := by decide +kernel
theorem dX9_kindOfWord_13 : decode cX9_kindOfWord 13 = .ok (.laload, 1) := by decide +kernel
theorem dX9_kindOfWord_14 : decode cX9_kindOfWord 14 = .ok (.lload_n 1, 1) := by decide +kernel
theorem dX9_kindOfWord_15 : decode cX9_kindOfWord 15 = .ok (.lcmp, 1) := by decide +kernel
theorem dX9_kindOfWord_16 : decode cX9_kindOfWord 16 = .ok (.ifCond .ne 5, 3) := by decide +kernel
theorem dX9_kindOfWord_19 : decode cX9_kindOfWord 19 = .ok (.iload_n 3, 1) := by decide +kernel
theorem dX9_kindOfWord_20 : decode cX9_kindOfWord 20 = .ok (.ireturn, 1) := by decide +kernel
theorem dX9_kindOfWord_21 : decode cX9_kindOfWord 21 = .ok (.iinc 3 1, 3) := by decide +kernel
theorem dX9_kindOfWord_24 : decode cX9_kindOfWord 24 = .ok (.goto (-22), 3) := by decide +kernel
theorem dX9_kindOfWord_27 : decode cX9_kindOfWord 27 = .ok (.bipush 11, 2) := by decide +kernel
theorem dX9_kindOfWord_29 : decode cX9_kindOfWord 29 = .ok (.ireturn, 1) := by decide +kernel
theorem dX9_packReserved_0 : decode cX9_packReserved 0 = .ok (.lconst 0, 1) := by decide +kernel
theorem dX9_packReserved_1 : decode cX9_packReserved 1 = .ok (.lstore_n 1, 1) := by decide +kernel
theorem dX9_packReserved_2 : decode cX9_packReserved 2 = .ok (.iconst 0, 1) := by decide +kernel
theorem dX9_packReserved_3 : decode cX9_packReserved 3 = .ok (.istore_n 3, 1) := by decide +kernel
theorem dX9_packReserved_4 : decode cX9_packReserved 4 = .ok (.iconst 0, 1) := by decide +kernel
theorem dX9_packReserved_5 : decode cX9_packReserved 5 = .ok (.istore 4, 2) := by decide +kernel
theorem dX9_packReserved_7 : decode cX9_packReserved 7 = .ok (.iload 4, 2) := by decide +kernel
theorem dX9_packReserved_9 : decode cX9_packReserved 9 = .ok (.ldc 88, 2) := by decide +kernel
theorem dX9_packReserved_11 : decode cX9_packReserved 11 = .ok (.invokevirtual 90, 3) := by decide +kernel
theorem dX9_packReserved_14 : decode cX9_packReserved 14 = .ok (.if_icmp .ge 54, 3) := by decide +kernel
theorem dX9_packReserved_17 : decode cX9_packReserved 17 = .ok (.iload_n 3, 1) := by decide +kernel
theorem dX9_packReserved_18 : decode cX9_packReserved 18 = .ok (.bipush 11, 2) := by decide +kernel
theorem dX9_packReserved_20 : decode cX9_packReserved 20 = .ok (.if_icmp .ge 48, 3) := by decide +kernel
theorem dX9_packReserved_23 : decode cX9_packReserved 23 = .ok (.ldc 88, 2) := by decide +kernel
theorem dX9_packReserved_25 : decode cX9_packReserved 25 = .ok (.iload 4, 2) := by decide +kernel
theorem dX9_packReserved_27 : decode cX9_packReserved 27 = .ok (.invokevirtual 94, 3) := by decide +kernel
theorem dX9_packReserved_30 : decode cX9_packReserved 30 = .ok (.bipush 32, 2) := by decide +kernel
theorem dX9_packReserved_32 : decode cX9_packReserved 32 = .ok (.if_icmp .ne 18, 3) := by decide +kernel
theorem dX9_packReserved_35 : decode cX9_packReserved 35 = .ok (.aload_n 0, 1) := by decide +kernel
theorem dX9_packReserved_36 : decode cX9_packReserved 36 = .ok (.getfield 11, 3) := by decide +kernel
theorem dX9_packReserved_39 : decode cX9_packReserved 39 = .ok (.iload_n 3, 1) := by decide +kernel
theorem dX9_packReserved_40 : decode cX9_packReserved 40 = .ok (.lload_n 1, 1) := by decide +kernel
theorem dX9_packReserved_41 : decode cX9_packReserved 41 = .ok (.lastore, 1) := by decide +kernel
theorem dX9_packReserved_42 : decode cX9_packReserved 42 = .ok (.iinc 3 1, 3) := by decide +kernel
theorem dX9_packReserved_45 : decode cX9_packReserved 45 = .ok (.lconst 0, 1) := by decide +kernel
theorem dX9_packReserved_46 : decode cX9_packReserved 46 = .ok (.lstore_n 1, 1) := by decide +kernel
theorem dX9_packReserved_47 : decode cX9_packReserved 47 = .ok (.goto 15, 3) := by decide +kernel
theorem dX9_packReserved_50 : decode cX9_packReserved 50 = .ok (.lload_n 1, 1) := by decide +kernel
theorem dX9_packReserved_51 : decode cX9_packReserved 51 = .ok (.ldc 88, 2) := by decide +kernel
theorem dX9_packReserved_53 : decode cX9_packReserved 53 = .ok (.iload 4, 2) := by decide +kernel
theorem dX9_packReserved_55 : decode cX9_packReserved 55 = .ok (.invokevirtual 94, 3) := by decide +kernel
theorem dX9_packReserved_58 : decode cX9_packReserved 58 = .ok (.invokestatic 80, 3) := by decide +kernel
theorem dX9_packReserved_61 : decode cX9_packReserved 61 = .ok (.lstore_n 1, 1) := by decide +kernel
theorem dX9_packReserved_62 : decode cX9_packReserved 62 = .ok (.iinc 4 1, 3) := by decide +kernel
theorem dX9_packReserved_65 : decode cX9_packReserved 65 = .ok (.goto (-58), 3) := by decide +kernel
theorem dX9_packReserved_68 : decode cX9_packReserved 68 = .ok (.return_, 1) := by decide +kernel
theorem dX9_packLetter_0 : decode cX9_packLetter 0 = .ok (.lload_n 0, 1) := by decide +kernel
theorem dX9_packLetter_1 : decode cX9_packLetter 1 = .ok (.ldc2_w 98, 3) := by decide +kernel
theorem dX9_packLetter_4 : decode cX9_packLetter 4 = .ok (.lmul, 1) := by decide +kernel
theorem dX9_packLetter_5 : decode cX9_packLetter 5 = .ok (.iload_n 2, 1) := by decide +kernel
theorem dX9_packLetter_6 : decode cX9_packLetter 6 = .ok (.i2l, 1) := by decide +kernel
theorem dX9_packLetter_7 : decode cX9_packLetter 7 = .ok (.ladd, 1) := by decide +kernel
theorem dX9_packLetter_8 : decode cX9_packLetter 8 = .ok (.ldc2_w 100, 3) := by decide +kernel
theorem dX9_packLetter_11 : decode cX9_packLetter 11 = .ok (.lsub, 1) := by decide +kernel
theorem dX9_packLetter_12 : decode cX9_packLetter 12 = .ok (.lconst 1, 1) := by decide +kernel
theorem dX9_packLetter_13 : decode cX9_packLetter 13 = .ok (.ladd, 1) := by decide +kernel
theorem dX9_packLetter_14 : decode cX9_packLetter 14 = .ok (.lreturn, 1) := by decide +kernel
theorem dX9_isLetter_0 : decode cX9_isLetter 0 = .ok (.iload_n 0, 1) := by decide +kernel
theorem dX9_isLetter_1 : decode cX9_isLetter 1 = .ok (.bipush 97, 2) := by decide +kernel
theorem dX9_isLetter_3 : decode cX9_isLetter 3 = .ok (.if_icmp .lt 13, 3) := by decide +kernel
theorem dX9_isLetter_6 : decode cX9_isLetter 6 = .ok (.iload_n 0, 1) := by decide +kernel
theorem dX9_isLetter_7 : decode cX9_isLetter 7 = .ok (.bipush 122, 2) := by decide +kernel
theorem dX9_isLetter_9 : decode cX9_isLetter 9 = .ok (.if_icmp .gt 7, 3) := by decide +kernel
theorem dX9_isLetter_12 : decode cX9_isLetter 12 = .ok (.iconst 1, 1) := by decide +kernel
theorem dX9_isLetter_13 : decode cX9_isLetter 13 = .ok (.goto 4, 3) := by decide +kernel
theorem dX9_isLetter_16 : decode cX9_isLetter 16 = .ok (.iconst 0, 1) := by decide +kernel
theorem dX9_isLetter_17 : decode cX9_isLetter 17 = .ok (.ireturn, 1) := by decide +kernel
theorem dX9_isDigit_0 : decode cX9_isDigit 0 = .ok (.iload_n 0, 1) := by decide +kernel
theorem dX9_isDigit_1 : decode cX9_isDigit 1 = .ok (.bipush 48, 2) := by decide +kernel
theorem dX9_isDigit_3 : decode cX9_isDigit 3 = .ok (.if_icmp .lt 13, 3) := by decide +kernel
theorem dX9_isDigit_6 : decode cX9_isDigit 6 = .ok (.iload_n 0, 1) := by decide +kernel
theorem dX9_isDigit_7 : decode cX9_isDigit 7 = .ok (.bipush 57, 2) := by decide +kernel
theorem dX9_isDigit_9 : decode cX9_isDigit 9 = .ok (.if_icmp .gt 7, 3) := by decide +kernel
theorem dX9_isDigit_12 : decode cX9_isDigit 12 = .ok (.iconst 1, 1) := by decide +kernel
theorem dX9_isDigit_13 : decode cX9_isDigit 13 = .ok (.goto 4, 3) := by decide +kernel
theorem dX9_isDigit_16 : decode cX9_isDigit 16 = .ok (.iconst 0, 1) := by decide +kernel
theorem dX9_isDigit_17 : decode cX9_isDigit 17 = .ok (.ireturn, 1) := by decide +kernel
theorem dX10_init_0 : decode cX10_init 0 = .ok (.aload_n 0, 1) := by decide +kernel
theorem dX10_init_1 : decode cX10_init 1 = .ok (.invokespecial 1, 3) := by decide +kernel
theorem dX10_init_4 : decode cX10_init 4 = .ok (.aload_n 0, 1) := by decide +kernel
theorem dX10_init_5 : decode cX10_init 5 = .ok (.sipush 2400, 3) := by decide +kernel
theorem dX10_init_8 : decode cX10_init 8 = .ok (.newarray .byte, 2) := by decide +kernel
theorem dX10_init_10 : decode cX10_init 10 = .ok (.putfield 9, 3) := by decide +kernel
theorem dX10_init_13 : decode cX10_init 13 = .ok (.aload_n 0, 1) := by decide +kernel
theorem dX10_init_14 : decode cX10_init 14 = .ok (.bipush 6, 2) := by decide +kernel
theorem dX10_init_16 : decode cX10_init 16 = .ok (.anewarray 13, 3) := by decide +kernel
theorem dX10_init_19 : decode cX10_init 19 = .ok (.putfield 15, 3) := by decide +kernel
theorem dX10_init_22 : decode cX10_init 22 = .ok (.aload_n 0, 1) := by decide +kernel
theorem dX10_init_23 : decode cX10_init 23 = .ok (.new 19, 3) := by decide +kernel
theorem dX10_init_26 : decode cX10_init 26 = .ok (.dup, 1) := by decide +kernel
theorem dX10_init_27 : decode cX10_init 27 = .ok (.invokespecial 21, 3) := by decide +kernel
theorem dX10_init_30 : decode cX10_init 30 = .ok (.putfield 22, 3) := by decide +kernel
theorem dX10_init_33 : decode cX10_init 33 = .ok (.aload_n 0, 1) := by decide +kernel
theorem dX10_init_34 : decode cX10_init 34 = .ok (.new 26, 3) := by decide +kernel
theorem dX10_init_37 : decode cX10_init 37 = .ok (.dup, 1) := by decide +kernel
theorem dX10_init_38 : decode cX10_init 38 = .ok (.invokespecial 28, 3) := by decide +kernel
theorem dX10_init_41 : decode cX10_init 41 = .ok (.putfield 29, 3) := by decide +kernel
theorem dX10_init_44 : decode cX10_init 44 = .ok (.aload_n 0, 1) := by decide +kernel
theorem dX10_init_45 : decode cX10_init 45 = .ok (.new 33, 3) := by decide +kernel
theorem dX10_init_48 : decode cX10_init 48 = .ok (.dup, 1) := by decide +kernel
theorem dX10_init_49 : decode cX10_init 49 = .ok (.invokespecial 35, 3) := by decide +kernel
theorem dX10_init_52 : decode cX10_init 52 = .ok (.putfield 36, 3) := by decide +kernel
theorem dX10_init_55 : decode cX10_init 55 = .ok (.aload_n 0, 1) := by decide +kernel
theorem dX10_init_56 : decode cX10_init 56 = .ok (.new 40, 3) := by decide +kernel
theorem dX10_init_59 : decode cX10_init 59 = .ok (.dup, 1) := by decide +kernel
theorem dX10_init_60 : decode cX10_init 60 = .ok (.invokespecial 42, 3) := by decide +kernel
theorem dX10_init_63 : decode cX10_init 63 = .ok (.putfield 43, 3) := by decide +kernel
theorem dX10_init_66 : decode cX10_init 66 = .ok (.return_, 1) := by decide +kernel
theorem dX10_feed_0 : decode cX10_feed 0 = .ok (.aload_n 0, 1) := by decide +kernel
theorem dX10_feed_1 : decode cX10_feed 1 = .ok (.lload_n 1, 1) := by decide +kernel
theorem dX10_feed_2 : decode cX10_feed 2 = .ok (.invokevirtual 47, 3) := by decide +kernel
theorem dX10_feed_5 : decode cX10_feed 5 = .ok (.aload_n 0, 1) := by decide +kernel
theorem dX10_feed_6 : decode cX10_feed 6 = .ok (.lload_n 3, 1) := by decide +kernel
theorem dX10_feed_7 : decode cX10_feed 7 = .ok (.invokevirtual 47, 3) := by decide +kernel
theorem dX10_feed_10 : decode cX10_feed 10 = .ok (.aload_n 0, 1) := by decide +kernel
theorem dX10_feed_11 : decode cX10_feed 11 = .ok (.lload 5, 2) := by decide +kernel
theorem dX10_feed_13 : decode cX10_feed 13 = .ok (.invokevirtual 47, 3) := by decide +kernel
theorem dX10_feed_16 : decode cX10_feed 16 = .ok (.aload_n 0, 1) := by decide +kernel
theorem dX10_feed_17 : decode cX10_feed 17 = .ok (.getfield 51, 3) := by decide +kernel
theorem dX10_feed_20 : decode cX10_feed 20 = .ok (.ireturn, 1) := by decide +kernel
theorem dX10_edition_0 : decode cX10_edition 0 = .ok (.aload_n 0, 1) := by decide +kernel
theorem dX10_edition_1 : decode cX10_edition 1 = .ok (.getfield 51, 3) := by decide +kernel
theorem dX10_edition_4 : decode cX10_edition 4 = .ok (.istore_n 2, 1) := by decide +kernel
theorem dX10_edition_5 : decode cX10_edition 5 = .ok (.aload_n 0, 1) := by decide +kernel
theorem dX10_edition_6 : decode cX10_edition 6 = .ok (.iconst 0, 1) := by decide +kernel
theorem dX10_edition_7 : decode cX10_edition 7 = .ok (.putfield 51, 3) := by decide +kernel
theorem dX10_edition_10 : decode cX10_edition 10 = .ok (.iload_n 1, 1) := by decide +kernel
theorem dX10_edition_11 : decode cX10_edition 11 = .ok (.invokestatic 55, 3) := by decide +kernel
theorem dX10_edition_14 : decode cX10_edition 14 = .ok (.ifCond .eq 20, 3) := by decide +kernel
theorem dX10_edition_17 : decode cX10_edition 17 = .ok (.aload_n 0, 1) := by decide +kernel
theorem dX10_edition_18 : decode cX10_edition 18 = .ok (.getfield 59, 3) := by decide +kernel
theorem dX10_edition_21 : decode cX10_edition 21 = .ok (.bipush 6, 2) := by decide +kernel
theorem dX10_edition_23 : decode cX10_edition 23 = .ok (.if_icmp .ge 11, 3) := by decide +kernel
theorem dX10_edition_26 : decode cX10_edition 26 = .ok (.iload_n 1, 1) := by decide +kernel
theorem dX10_edition_27 : decode cX10_edition 27 = .ok (.aload_n 0, 1) := by decide +kernel
theorem dX10_edition_28 : decode cX10_edition 28 = .ok (.invokevirtual 62, 3) := by decide +kernel
theorem dX10_edition_31 : decode cX10_edition 31 = .ok (.if_icmp .gt 5, 3) := by decide +kernel
theorem dX10_edition_34 : decode cX10_edition 34 = .ok (.iconst (-1), 1) := by decide +kernel
theorem dX10_edition_35 : decode cX10_edition 35 = .ok (.ireturn, 1) := by decide +kernel
theorem dX10_edition_36 : decode cX10_edition 36 = .ok (.new 13, 3) := by decide +kernel
theorem dX10_edition_39 : decode cX10_edition 39 = .ok (.dup, 1) := by decide +kernel
theorem dX10_edition_40 : decode cX10_edition 40 = .ok (.aload_n 0, 1) := by decide +kernel
theorem dX10_edition_41 : decode cX10_edition 41 = .ok (.getfield 59, 3) := by decide +kernel
theorem dX10_edition_44 : decode cX10_edition 44 = .ok (.iload_n 1, 1) := by decide +kernel
theorem dX10_edition_45 : decode cX10_edition 45 = .ok (.invokespecial 66, 3) := by decide +kernel
theorem dX10_edition_48 : decode cX10_edition 48 = .ok (.astore_n 3, 1) := by decide +kernel
theorem dX10_edition_49 : decode cX10_edition 49 = .ok (.new 69, 3) := by decide +kernel
theorem dX10_edition_52 : decode cX10_edition 52 = .ok (.dup, 1) := by decide +kernel
theorem dX10_edition_53 : decode cX10_edition 53 = .ok (.aload_n 0, 1) := by decide +kernel
theorem dX10_edition_54 : decode cX10_edition 54 = .ok (.getfield 9, 3) := by decide +kernel
theorem dX10_edition_57 : decode cX10_edition 57 = .ok (.iload_n 2, 1) := by decide +kernel
theorem dX10_edition_58 : decode cX10_edition 58 = .ok (.aload_n 3, 1) := by decide +kernel
theorem dX10_edition_59 : decode cX10_edition 59 = .ok (.invokespecial 71, 3) := by decide +kernel
theorem dX10_edition_62 : decode cX10_edition 62 = .ok (.invokevirtual 74, 3) := by decide +kernel
theorem dX10_edition_65 : decode cX10_edition 65 = .ok (.istore 4, 2) := by decide +kernel
theorem dX10_edition_67 : decode cX10_edition 67 = .ok (.iload 4, 2) := by decide +kernel
theorem dX10_edition_69 : decode cX10_edition 69 = .ok (.ifCond .eq 6, 3) := by decide +kernel
theorem dX10_edition_72 : decode cX10_edition 72 = .ok (.iload 4, 2) := by decide +kernel
theorem dX10_edition_74 : decode cX10_edition 74 = .ok (.ireturn, 1) := by decide +kernel
theorem dX10_edition_75 : decode cX10_edition 75 = .ok (.aload_n 0, 1) := by decide +kernel
theorem dX10_edition_76 : decode cX10_edition 76 = .ok (.getfield 15, 3) := by decide +kernel
theorem dX10_edition_79 : decode cX10_edition 79 = .ok (.aload_n 0, 1) := by decide +kernel
theorem dX10_edition_80 : decode cX10_edition 80 = .ok (.getfield 59, 3) := by decide +kernel
theorem dX10_edition_83 : decode cX10_edition 83 = .ok (.aload_n 3, 1) := by decide +kernel
theorem dX10_edition_84 : decode cX10_edition 84 = .ok (.aastore, 1) := by decide +kernel
theorem dX10_edition_85 : decode cX10_edition 85 = .ok (.aload_n 0, 1) := by decide +kernel
theorem dX10_edition_86 : decode cX10_edition 86 = .ok (.dup, 1) := by decide +kernel
theorem dX10_edition_87 : decode cX10_edition 87 = .ok (.getfield 59, 3) := by decide +kernel
theorem dX10_edition_90 : decode cX10_edition 90 = .ok (.iconst 1, 1) := by decide +kernel
theorem dX10_edition_91 : decode cX10_edition 91 = .ok (.iadd, 1) := by decide +kernel
theorem dX10_edition_92 : decode cX10_edition 92 = .ok (.putfield 59, 3) := by decide +kernel
theorem dX10_edition_95 : decode cX10_edition 95 = .ok (.aload_n 0, 1) := by decide +kernel
theorem dX10_edition_96 : decode cX10_edition 96 = .ok (.aload_n 3, 1) := by decide +kernel
theorem dX10_edition_97 : decode cX10_edition 97 = .ok (.invokevirtual 77, 3) := by decide +kernel
theorem dX10_edition_100 : decode cX10_edition 100 = .ok (.iconst 0, 1) := by decide +kernel
theorem dX10_edition_101 : decode cX10_edition 101 = .ok (.ireturn, 1) := by decide +kernel
theorem dX10_take_0 : decode cX10_take 0 = .ok (.aload_n 0, 1) := by decide +kernel
theorem dX10_take_1 : decode cX10_take 1 = .ok (.iload_n 1, 1) := by decide +kernel
theorem dX10_take_2 : decode cX10_take 2 = .ok (.invokevirtual 81, 3) := by decide +kernel
theorem dX10_take_5 : decode cX10_take 5 = .ok (.astore_n 2, 1) := by decide +kernel
theorem dX10_take_6 : decode cX10_take 6 = .ok (.aload_n 2, 1) := by decide +kernel
theorem dX10_take_7 : decode cX10_take 7 = .ok (.ifnonnull 5, 3) := by decide +kernel
theorem dX10_take_10 : decode cX10_take 10 = .ok (.iconst 0, 1) := by decide +kernel
theorem dX10_take_11 : decode cX10_take 11 = .ok (.ireturn, 1) := by decide +kernel
theorem dX10_take_12 : decode cX10_take 12 = .ok (.aload_n 0, 1) := by decide +kernel
theorem dX10_take_13 : decode cX10_take 13 = .ok (.aload_n 2, 1) := by decide +kernel
theorem dX10_take_14 : decode cX10_take 14 = .ok (.invokevirtual 77, 3) := by decide +kernel
theorem dX10_take_17 : decode cX10_take 17 = .ok (.iconst 1, 1) := by decide +kernel
theorem dX10_take_18 : decode cX10_take 18 = .ok (.ireturn, 1) := by decide +kernel
theorem dX10_inForce_0 : decode cX10_inForce 0 = .ok (.iload_n 1, 1) := by decide +kernel
theorem dX10_inForce_1 : decode cX10_inForce 1 = .ok (.invokestatic 55, 3) := by decide +kernel
theorem dX10_inForce_4 : decode cX10_inForce 4 = .ok (.ifCond .ne 5, 3) := by decide +kernel
theorem dX10_inForce_7 : decode cX10_inForce 7 = .ok (.iconst (-1), 1) := by decide +kernel
theorem dX10_inForce_8 : decode cX10_inForce 8 = .ok (.ireturn, 1) := by decide +kernel
theorem dX10_inForce_9 : decode cX10_inForce 9 = .ok (.aload_n 0, 1) := by decide +kernel
theorem dX10_inForce_10 : decode cX10_inForce 10 = .ok (.getfield 59, 3) := by decide +kernel
theorem dX10_inForce_13 : decode cX10_inForce 13 = .ok (.iconst 1, 1) := by decide +kernel
theorem dX10_inForce_14 : decode cX10_inForce 14 = .ok (.isub, 1) := by decide +kernel
theorem dX10_inForce_15 : decode cX10_inForce 15 = .ok (.istore_n 2, 1) := by decide +kernel
theorem dX10_inForce_16 : decode cX10_inForce 16 = .ok (.iload_n 2, 1) := by decide +kernel
theorem dX10_inForce_17 : decode cX10_inForce 17 = .ok (.ifCond .lt 34, 3) := by decide +kernel
theorem dX10_inForce_20 : decode cX10_inForce 20 = .ok (.aload_n 0, 1) := by decide +kernel
theorem dX10_inForce_21 : decode cX10_inForce 21 = .ok (.iload_n 2, 1) := by decide +kernel
theorem dX10_inForce_22 : decode cX10_inForce 22 = .ok (.invokevirtual 81, 3) := by decide +kernel
theorem dX10_inForce_25 : decode cX10_inForce 25 = .ok (.astore_n 3, 1) := by decide +kernel
theorem dX10_inForce_26 : decode cX10_inForce 26 = .ok (.aload_n 3, 1) := by decide +kernel
theorem dX10_inForce_27 : decode cX10_inForce 27 = .ok (.ifnull 18, 3) := by decide +kernel
theorem dX10_inForce_30 : decode cX10_inForce 30 = .ok (.aload_n 3, 1) := by decide +kernel
theorem dX10_inForce_31 : decode cX10_inForce 31 = .ok (.getfield 85, 3) := by decide +kernel
theorem dX10_inForce_34 : decode cX10_inForce 34 = .ok (.iload_n 1, 1) := by decide +kernel
theorem dX10_inForce_35 : decode cX10_inForce 35 = .ok (.if_icmp .gt 10, 3) := by decide +kernel
theorem dX10_inForce_38 : decode cX10_inForce 38 = .ok (.aload_n 0, 1) := by decide +kernel
theorem dX10_inForce_39 : decode cX10_inForce 39 = .ok (.aload_n 3, 1) := by decide +kernel
theorem dX10_inForce_40 : decode cX10_inForce 40 = .ok (.invokevirtual 77, 3) := by decide +kernel
theorem dX10_inForce_43 : decode cX10_inForce 43 = .ok (.iload_n 2, 1) := by decide +kernel
theorem dX10_inForce_44 : decode cX10_inForce 44 = .ok (.ireturn, 1) := by decide +kernel
theorem dX10_inForce_45 : decode cX10_inForce 45 = .ok (.iinc 2 (-1), 3) := by decide +kernel
theorem dX10_inForce_48 : decode cX10_inForce 48 = .ok (.goto (-32), 3) := by decide +kernel
theorem dX10_inForce_51 : decode cX10_inForce 51 = .ok (.iconst (-1), 1) := by decide +kernel
theorem dX10_inForce_52 : decode cX10_inForce 52 = .ok (.ireturn, 1) := by decide +kernel
theorem dX10_fact_0 : decode cX10_fact 0 = .ok (.aload_n 0, 1) := by decide +kernel
theorem dX10_fact_1 : decode cX10_fact 1 = .ok (.getfield 88, 3) := by decide +kernel
theorem dX10_fact_4 : decode cX10_fact 4 = .ok (.ifnull 40, 3) := by decide +kernel
theorem dX10_fact_7 : decode cX10_fact 7 = .ok (.aload_n 0, 1) := by decide +kernel
theorem dX10_fact_8 : decode cX10_fact 8 = .ok (.getfield 88, 3) := by decide +kernel
theorem dX10_fact_11 : decode cX10_fact 11 = .ok (.iload_n 1, 1) := by decide +kernel
theorem dX10_fact_12 : decode cX10_fact 12 = .ok (.invokevirtual 92, 3) := by decide +kernel
theorem dX10_fact_15 : decode cX10_fact 15 = .ok (.ifCond .eq 29, 3) := by decide +kernel
theorem dX10_fact_18 : decode cX10_fact 18 = .ok (.iload_n 2, 1) := by decide +kernel
theorem dX10_fact_19 : decode cX10_fact 19 = .ok (.aload_n 0, 1) := by decide +kernel
theorem dX10_fact_20 : decode cX10_fact 20 = .ok (.getfield 88, 3) := by decide +kernel
theorem dX10_fact_23 : decode cX10_fact 23 = .ok (.getfield 95, 3) := by decide +kernel
theorem dX10_fact_26 : decode cX10_fact 26 = .ok (.iload_n 1, 1) := by decide +kernel
theorem dX10_fact_27 : decode cX10_fact 27 = .ok (.iaload, 1) := by decide +kernel
theorem dX10_fact_28 : decode cX10_fact 28 = .ok (.if_icmp .lt 16, 3) := by decide +kernel
theorem dX10_fact_31 : decode cX10_fact 31 = .ok (.iload_n 2, 1) := by decide +kernel
theorem dX10_fact_32 : decode cX10_fact 32 = .ok (.aload_n 0, 1) := by decide +kernel
theorem dX10_fact_33 : decode cX10_fact 33 = .ok (.getfield 88, 3) := by decide +kernel
theorem dX10_fact_36 : decode cX10_fact 36 = .ok (.getfield 99, 3) := by decide +kernel
theorem dX10_fact_39 : decode cX10_fact 39 = .ok (.iload_n 1, 1) := by decide +kernel
theorem dX10_fact_40 : decode cX10_fact 40 = .ok (.iaload, 1) := by decide +kernel
theorem dX10_fact_41 : decode cX10_fact 41 = .ok (.if_icmp .le 5, 3) := by decide +kernel
theorem dX10_fact_44 : decode cX10_fact 44 = .ok (.iconst 0, 1) := by decide +kernel
theorem dX10_fact_45 : decode cX10_fact 45 = .ok (.ireturn, 1) := by decide +kernel
theorem dX10_fact_46 : decode cX10_fact 46 = .ok (.aload_n 0, 1) := by decide +kernel
theorem dX10_fact_47 : decode cX10_fact 47 = .ok (.getfield 22, 3) := by decide +kernel
theorem dX10_fact_50 : decode cX10_fact 50 = .ok (.getfield 102, 3) := by decide +kernel
theorem dX10_fact_53 : decode cX10_fact 53 = .ok (.iload_n 1, 1) := by decide +kernel
theorem dX10_fact_54 : decode cX10_fact 54 = .ok (.iload_n 2, 1) := by decide +kernel
theorem dX10_fact_55 : decode cX10_fact 55 = .ok (.iastore, 1) := by decide +kernel
theorem dX10_fact_56 : decode cX10_fact 56 = .ok (.iconst 1, 1) := by decide +kernel
theorem dX10_fact_57 : decode cX10_fact 57 = .ok (.ireturn, 1) := by decide +kernel
theorem dX10_world_0 : decode cX10_world 0 = .ok (.aload_n 0, 1) := by decide +kernel
theorem dX10_world_1 : decode cX10_world 1 = .ok (.getfield 88, 3) := by decide +kernel
theorem dX10_world_4 : decode cX10_world 4 = .ok (.ifnull 18, 3) := by decide +kernel
theorem dX10_world_7 : decode cX10_world 7 = .ok (.iload_n 1, 1) := by decide +kernel
theorem dX10_world_8 : decode cX10_world 8 = .ok (.ifCond .lt 14, 3) := by decide +kernel
theorem dX10_world_11 : decode cX10_world 11 = .ok (.iload_n 1, 1) := by decide +kernel
theorem dX10_world_12 : decode cX10_world 12 = .ok (.aload_n 0, 1) := by decide +kernel
theorem dX10_world_13 : decode cX10_world 13 = .ok (.getfield 88, 3) := by decide +kernel
theorem dX10_world_16 : decode cX10_world 16 = .ok (.getfield 105, 3) := by decide +kernel
theorem dX10_world_19 : decode cX10_world 19 = .ok (.if_icmp .lt 5, 3) := by decide +kernel
theorem dX10_world_22 : decode cX10_world 22 = .ok (.iconst 0, 1) := by decide +kernel
theorem dX10_world_23 : decode cX10_world 23 = .ok (.ireturn, 1) := by decide +kernel
theorem dX10_world_24 : decode cX10_world 24 = .ok (.aload_n 0, 1) := by decide +kernel
theorem dX10_world_25 : decode cX10_world 25 = .ok (.getfield 22, 3) := by decide +kernel
theorem dX10_world_28 : decode cX10_world 28 = .ok (.aload_n 0, 1) := by decide +kernel
theorem dX10_world_29 : decode cX10_world 29 = .ok (.getfield 88, 3) := by decide +kernel
theorem dX10_world_32 : decode cX10_world 32 = .ok (.iload_n 1, 1) := by decide +kernel
theorem dX10_world_33 : decode cX10_world 33 = .ok (.invokevirtual 108, 3) := by decide +kernel
theorem dX10_world_36 : decode cX10_world 36 = .ok (.iconst 1, 1) := by decide +kernel
theorem dX10_world_37 : decode cX10_world 37 = .ok (.ireturn, 1) := by decide +kernel
theorem dX10_free_0 : decode cX10_free 0 = .ok (.iload_n 1, 1) := by decide +kernel
theorem dX10_free_1 : decode cX10_free 1 = .ok (.invokestatic 55, 3) := by decide +kernel
theorem dX10_free_4 : decode cX10_free 4 = .ok (.ifCond .ne 5, 3) := by decide +kernel
theorem dX10_free_7 : decode cX10_free 7 = .ok (.iconst 0, 1) := by decide +kernel
theorem dX10_free_8 : decode cX10_free 8 = .ok (.ireturn, 1) := by decide +kernel
theorem dX10_free_9 : decode cX10_free 9 = .ok (.iload_n 2, 1) := by decide +kernel
theorem dX10_free_10 : decode cX10_free 10 = .ok (.ifCond .eq 14, 3) := by decide +kernel
theorem dX10_free_13 : decode cX10_free 13 = .ok (.aload_n 0, 1) := by decide +kernel
theorem dX10_free_14 : decode cX10_free 14 = .ok (.getfield 29, 3) := by decide +kernel
theorem dX10_free_17 : decode cX10_free 17 = .ok (.iload_n 1, 1) := by decide +kernel
theorem dX10_free_18 : decode cX10_free 18 = .ok (.invokevirtual 112, 3) := by decide +kernel
theorem dX10_free_21 : decode cX10_free 21 = .ok (.goto 11, 3) := by decide +kernel
theorem dX10_free_24 : decode cX10_free 24 = .ok (.aload_n 0, 1) := by decide +kernel
theorem dX10_free_25 : decode cX10_free 25 = .ok (.getfield 29, 3) := by decide +kernel
theorem dX10_free_28 : decode cX10_free 28 = .ok (.iload_n 1, 1) := by decide +kernel
theorem dX10_free_29 : decode cX10_free 29 = .ok (.invokevirtual 115, 3) := by decide +kernel
theorem dX10_free_32 : decode cX10_free 32 = .ok (.istore_n 3, 1) := by decide +kernel
theorem dX10_free_33 : decode cX10_free 33 = .ok (.iload_n 3, 1) := by decide +kernel
theorem dX10_free_34 : decode cX10_free 34 = .ok (.ifCond .eq 10, 3) := by decide +kernel
theorem dX10_free_37 : decode cX10_free 37 = .ok (.aload_n 0, 1) := by decide +kernel
theorem dX10_free_38 : decode cX10_free 38 = .ok (.getfield 43, 3) := by decide +kernel
theorem dX10_free_41 : decode cX10_free 41 = .ok (.invokevirtual 118, 3) := by decide +kernel
theorem dX10_free_44 : decode cX10_free 44 = .ok (.iload_n 3, 1) := by decide +kernel
theorem dX10_free_45 : decode cX10_free 45 = .ok (.ireturn, 1) := by decide +kernel
theorem dX10_make_0 : decode cX10_make 0 = .ok (.aload_n 0, 1) := by decide +kernel
theorem dX10_make_1 : decode cX10_make 1 = .ok (.getfield 88, 3) := by decide +kernel
theorem dX10_make_4 : decode cX10_make 4 = .ok (.ifnull 10, 3) := by decide +kernel
theorem dX10_make_7 : decode cX10_make 7 = .ok (.iload_n 1, 1) := by decide +kernel
theorem dX10_make_8 : decode cX10_make 8 = .ok (.invokestatic 55, 3) := by decide +kernel
theorem dX10_make_11 : decode cX10_make 11 = .ok (.ifCond .ne 5, 3) := by decide +kernel
theorem dX10_make_14 : decode cX10_make 14 = .ok (.iconst (-1), 1) := by decide +kernel
theorem dX10_make_15 : decode cX10_make 15 = .ok (.ireturn, 1) := by decide +kernel
theorem dX10_make_16 : decode cX10_make 16 = .ok (.aload_n 0, 1) := by decide +kernel
theorem dX10_make_17 : decode cX10_make 17 = .ok (.iconst 1, 1) := by decide +kernel
theorem dX10_make_18 : decode cX10_make 18 = .ok (.putfield 121, 3) := by decide +kernel
theorem dX10_make_21 : decode cX10_make 21 = .ok (.aload_n 0, 1) := by decide +kernel
theorem dX10_make_22 : decode cX10_make 22 = .ok (.getfield 36, 3) := by decide +kernel
theorem dX10_make_25 : decode cX10_make 25 = .ok (.aload_n 0, 1) := by decide +kernel
theorem dX10_make_26 : decode cX10_make 26 = .ok (.getfield 88, 3) := by decide +kernel
theorem dX10_make_29 : decode cX10_make 29 = .ok (.aload_n 0, 1) := by decide +kernel
theorem dX10_make_30 : decode cX10_make 30 = .ok (.getfield 22, 3) := by decide +kernel
theorem dX10_make_33 : decode cX10_make 33 = .ok (.iload_n 1, 1) := by decide +kernel
theorem dX10_make_34 : decode cX10_make 34 = .ok (.aload_n 0, 1) := by decide +kernel
theorem dX10_make_35 : decode cX10_make 35 = .ok (.getfield 29, 3) := by decide +kernel
theorem dX10_make_38 : decode cX10_make 38 = .ok (.invokevirtual 125, 3) := by decide +kernel
theorem dX10_make_41 : decode cX10_make 41 = .ok (.aload_n 0, 1) := by decide +kernel
theorem dX10_make_42 : decode cX10_make 42 = .ok (.getfield 36, 3) := by decide +kernel
theorem dX10_make_45 : decode cX10_make 45 = .ok (.getfield 129, 3) := by decide +kernel
theorem dX10_make_48 : decode cX10_make 48 = .ok (.ireturn, 1) := by decide +kernel
theorem dX10_letter_0 : decode cX10_letter 0 = .ok (.aload_n 0, 1) := by decide +kernel
theorem dX10_letter_1 : decode cX10_letter 1 = .ok (.getfield 121, 3) := by decide +kernel
theorem dX10_letter_4 : decode cX10_letter 4 = .ok (.ifCond .ne 5, 3) := by decide +kernel
theorem dX10_letter_7 : decode cX10_letter 7 = .ok (.iconst (-1), 1) := by decide +kernel
theorem dX10_letter_8 : decode cX10_letter 8 = .ok (.ireturn, 1) := by decide +kernel
theorem dX10_letter_9 : decode cX10_letter 9 = .ok (.iload_n 1, 1) := by decide +kernel
theorem dX10_letter_10 : decode cX10_letter 10 = .ok (.tableswitch 62 0 3 #[30, 38, 46, 54], 30) := by decide +kernel
theorem dX10_letter_40 : decode cX10_letter 40 = .ok (.aload_n 0, 1) := by decide +kernel
theorem dX10_letter_41 : decode cX10_letter 41 = .ok (.getfield 36, 3) := by decide +kernel
theorem dX10_letter_44 : decode cX10_letter 44 = .ok (.getfield 132, 3) := by decide +kernel
theorem dX10_letter_47 : decode cX10_letter 47 = .ok (.ireturn, 1) := by decide +kernel
theorem dX10_letter_48 : decode cX10_letter 48 = .ok (.aload_n 0, 1) := by decide +kernel
theorem dX10_letter_49 : decode cX10_letter 49 = .ok (.getfield 36, 3) := by decide +kernel
theorem dX10_letter_52 : decode cX10_letter 52 = .ok (.getfield 135, 3) := by decide +kernel
theorem dX10_letter_55 : decode cX10_letter 55 = .ok (.ireturn, 1) := by decide +kernel
theorem dX10_letter_56 : decode cX10_letter 56 = .ok (.aload_n 0, 1) := by decide +kernel
theorem dX10_letter_57 : decode cX10_letter 57 = .ok (.getfield 36, 3) := by decide +kernel
theorem dX10_letter_60 : decode cX10_letter 60 = .ok (.getfield 138, 3) := by decide +kernel
theorem dX10_letter_63 : decode cX10_letter 63 = .ok (.ireturn, 1) := by decide +kernel
theorem dX10_letter_64 : decode cX10_letter 64 = .ok (.aload_n 0, 1) := by decide +kernel
theorem dX10_letter_65 : decode cX10_letter 65 = .ok (.getfield 36, 3) := by decide +kernel
theorem dX10_letter_68 : decode cX10_letter 68 = .ok (.getfield 141, 3) := by decide +kernel
theorem dX10_letter_71 : decode cX10_letter 71 = .ok (.ireturn, 1) := by decide +kernel
theorem dX10_letter_72 : decode cX10_letter 72 = .ok (.iconst (-1), 1) := by decide +kernel
theorem dX10_letter_73 : decode cX10_letter 73 = .ok (.ireturn, 1) := by decide +kernel
theorem dX10_out_0 : decode cX10_out 0 = .ok (.iload_n 1, 1) := by decide +kernel
theorem dX10_out_1 : decode cX10_out 1 = .ok (.ifCond .lt 14, 3) := by decide +kernel
theorem dX10_out_4 : decode cX10_out 4 = .ok (.iload_n 1, 1) := by decide +kernel
theorem dX10_out_5 : decode cX10_out 5 = .ok (.aload_n 0, 1) := by decide +kernel
theorem dX10_out_6 : decode cX10_out 6 = .ok (.getfield 36, 3) := by decide +kernel
theorem dX10_out_9 : decode cX10_out 9 = .ok (.getfield 132, 3) := by decide +kernel
theorem dX10_out_12 : decode cX10_out 12 = .ok (.if_icmp .lt 5, 3) := by decide +kernel
theorem dX10_out_15 : decode cX10_out 15 = .ok (.iconst (-1), 1) := by decide +kernel
theorem dX10_out_16 : decode cX10_out 16 = .ok (.ireturn, 1) := by decide +kernel
theorem dX10_out_17 : decode cX10_out 17 = .ok (.aload_n 0, 1) := by decide +kernel
theorem dX10_out_18 : decode cX10_out 18 = .ok (.getfield 36, 3) := by decide +kernel
theorem dX10_out_21 : decode cX10_out 21 = .ok (.getfield 144, 3) := by decide +kernel
theorem dX10_out_24 : decode cX10_out 24 = .ok (.iload_n 1, 1) := by decide +kernel
theorem dX10_out_25 : decode cX10_out 25 = .ok (.baload, 1) := by decide +kernel
theorem dX10_out_26 : decode cX10_out 26 = .ok (.ireturn, 1) := by decide +kernel
theorem dX10_part_0 : decode cX10_part 0 = .ok (.iload_n 1, 1) := by decide +kernel
theorem dX10_part_1 : decode cX10_part 1 = .ok (.iconst 1, 1) := by decide +kernel
theorem dX10_part_2 : decode cX10_part 2 = .ok (.if_icmp .lt 14, 3) := by decide +kernel
theorem dX10_part_5 : decode cX10_part 5 = .ok (.iload_n 1, 1) := by decide +kernel
theorem dX10_part_6 : decode cX10_part 6 = .ok (.aload_n 0, 1) := by decide +kernel
theorem dX10_part_7 : decode cX10_part 7 = .ok (.getfield 36, 3) := by decide +kernel
theorem dX10_part_10 : decode cX10_part 10 = .ok (.getfield 135, 3) := by decide +kernel
theorem dX10_part_13 : decode cX10_part 13 = .ok (.if_icmp .le 5, 3) := by decide +kernel
theorem dX10_part_16 : decode cX10_part 16 = .ok (.iconst (-1), 1) := by decide +kernel
theorem dX10_part_17 : decode cX10_part 17 = .ok (.ireturn, 1) := by decide +kernel
theorem dX10_part_18 : decode cX10_part 18 = .ok (.aload_n 0, 1) := by decide +kernel
theorem dX10_part_19 : decode cX10_part 19 = .ok (.getfield 36, 3) := by decide +kernel
theorem dX10_part_22 : decode cX10_part 22 = .ok (.getfield 147, 3) := by decide +kernel
theorem dX10_part_25 : decode cX10_part 25 = .ok (.iload_n 1, 1) := by decide +kernel
theorem dX10_part_26 : decode cX10_part 26 = .ok (.iconst 1, 1) := by decide +kernel
theorem dX10_part_27 : decode cX10_part 27 = .ok (.isub, 1) := by decide +kernel
theorem dX10_part_28 : decode cX10_part 28 = .ok (.iaload, 1) := by decide +kernel
theorem dX10_part_29 : decode cX10_part 29 = .ok (.ireturn, 1) := by decide +kernel
theorem dX10_working_0 : decode cX10_working 0 = .ok (.iload_n 1, 1) := by decide +kernel
theorem dX10_working_1 : decode cX10_working 1 = .ok (.invokestatic 55, 3) := by decide +kernel
theorem dX10_working_4 : decode cX10_working 4 = .ok (.ifCond .eq 15, 3) := by decide +kernel
theorem dX10_working_7 : decode cX10_working 7 = .ok (.iload_n 2, 1) := by decide +kernel
theorem dX10_working_8 : decode cX10_working 8 = .ok (.invokestatic 55, 3) := by decide +kernel
theorem dX10_working_11 : decode cX10_working 11 = .ok (.ifCond .eq 8, 3) := by decide +kernel
theorem dX10_working_14 : decode cX10_working 14 = .ok (.iload_n 1, 1) := by decide +kernel
theorem dX10_working_15 : decode cX10_working 15 = .ok (.iload_n 2, 1) := by decide +kernel
theorem dX10_working_16 : decode cX10_working 16 = .ok (.if_icmp .le 5, 3) := by decide +kernel
theorem dX10_working_19 : decode cX10_working 19 = .ok (.iconst (-1), 1) := by decide +kernel
theorem dX10_working_20 : decode cX10_working 20 = .ok (.ireturn, 1) := by decide +kernel
theorem dX10_working_21 : decode cX10_working 21 = .ok (.aload_n 0, 1) := by decide +kernel
theorem dX10_working_22 : decode cX10_working 22 = .ok (.getfield 29, 3) := by decide +kernel
theorem dX10_working_25 : decode cX10_working 25 = .ok (.iload_n 1, 1) := by decide +kernel
theorem dX10_working_26 : decode cX10_working 26 = .ok (.iload_n 2, 1) := by decide +kernel
theorem dX10_working_27 : decode cX10_working 27 = .ok (.invokevirtual 150, 3) := by decide +kernel
theorem dX10_working_30 : decode cX10_working 30 = .ok (.ireturn, 1) := by decide +kernel
theorem dX10_judge_0 : decode cX10_judge 0 = .ok (.aload_n 0, 1) := by decide +kernel
theorem dX10_judge_1 : decode cX10_judge 1 = .ok (.getfield 88, 3) := by decide +kernel
theorem dX10_judge_4 : decode cX10_judge 4 = .ok (.ifnull 22, 3) := by decide +kernel
theorem dX10_judge_7 : decode cX10_judge 7 = .ok (.iload_n 1, 1) := by decide +kernel
theorem dX10_judge_8 : decode cX10_judge 8 = .ok (.iconst 1, 1) := by decide +kernel
theorem dX10_judge_9 : decode cX10_judge 9 = .ok (.if_icmp .lt 17, 3) := by decide +kernel
theorem dX10_judge_12 : decode cX10_judge 12 = .ok (.iload_n 1, 1) := by decide +kernel
theorem dX10_judge_13 : decode cX10_judge 13 = .ok (.iconst 4, 1) := by decide +kernel
theorem dX10_judge_14 : decode cX10_judge 14 = .ok (.if_icmp .gt 12, 3) := by decide +kernel
theorem dX10_judge_17 : decode cX10_judge 17 = .ok (.iload_n 2, 1) := by decide +kernel
theorem dX10_judge_18 : decode cX10_judge 18 = .ok (.ifCond .lt 8, 3) := by decide +kernel
theorem dX10_judge_21 : decode cX10_judge 21 = .ok (.iload_n 2, 1) := by decide +kernel
theorem dX10_judge_22 : decode cX10_judge 22 = .ok (.iconst 1, 1) := by decide +kernel
theorem dX10_judge_23 : decode cX10_judge 23 = .ok (.if_icmp .le 5, 3) := by decide +kernel
theorem dX10_judge_26 : decode cX10_judge 26 = .ok (.iconst (-1), 1) := by decide +kernel
theorem dX10_judge_27 : decode cX10_judge 27 = .ok (.ireturn, 1) := by decide +kernel
theorem dX10_judge_28 : decode cX10_judge 28 = .ok (.aload_n 0, 1) := by decide +kernel
theorem dX10_judge_29 : decode cX10_judge 29 = .ok (.getfield 43, 3) := by decide +kernel
theorem dX10_judge_32 : decode cX10_judge 32 = .ok (.aload_n 0, 1) := by decide +kernel
theorem dX10_judge_33 : decode cX10_judge 33 = .ok (.getfield 88, 3) := by decide +kernel
theorem dX10_judge_36 : decode cX10_judge 36 = .ok (.invokevirtual 154, 3) := by decide +kernel
theorem dX10_judge_39 : decode cX10_judge 39 = .ok (.iload_n 2, 1) := by decide +kernel
theorem dX10_judge_40 : decode cX10_judge 40 = .ok (.ifCond .ne 15, 3) := by decide +kernel
theorem dX10_judge_43 : decode cX10_judge 43 = .ok (.aload_n 0, 1) := by decide +kernel
theorem dX10_judge_44 : decode cX10_judge 44 = .ok (.getfield 88, 3) := by decide +kernel
theorem dX10_judge_47 : decode cX10_judge 47 = .ok (.getfield 157, 3) := by decide +kernel
theorem dX10_judge_50 : decode cX10_judge 50 = .ok (.iload_n 1, 1) := by decide +kernel
theorem dX10_judge_51 : decode cX10_judge 51 = .ok (.iaload, 1) := by decide +kernel
theorem dX10_judge_52 : decode cX10_judge 52 = .ok (.goto 12, 3) := by decide +kernel
theorem dX10_judge_55 : decode cX10_judge 55 = .ok (.aload_n 0, 1) := by decide +kernel
theorem dX10_judge_56 : decode cX10_judge 56 = .ok (.getfield 88, 3) := by decide +kernel
theorem dX10_judge_59 : decode cX10_judge 59 = .ok (.getfield 160, 3) := by decide +kernel
theorem dX10_judge_62 : decode cX10_judge 62 = .ok (.iload_n 1, 1) := by decide +kernel
theorem dX10_judge_63 : decode cX10_judge 63 = .ok (.iaload, 1) := by decide +kernel
theorem dX10_judge_64 : decode cX10_judge 64 = .ok (.ireturn, 1) := by decide +kernel
theorem dX10_changed_0 : decode cX10_changed 0 = .ok (.aload_n 0, 1) := by decide +kernel
theorem dX10_changed_1 : decode cX10_changed 1 = .ok (.iload_n 1, 1) := by decide +kernel
theorem dX10_changed_2 : decode cX10_changed 2 = .ok (.invokevirtual 81, 3) := by decide +kernel
theorem dX10_changed_5 : decode cX10_changed 5 = .ok (.astore 5, 2) := by decide +kernel
theorem dX10_changed_7 : decode cX10_changed 7 = .ok (.aload_n 0, 1) := by decide +kernel
theorem dX10_changed_8 : decode cX10_changed 8 = .ok (.iload_n 2, 1) := by decide +kernel
theorem dX10_changed_9 : decode cX10_changed 9 = .ok (.invokevirtual 81, 3) := by decide +kernel
theorem dX10_changed_12 : decode cX10_changed 12 = .ok (.astore 6, 2) := by decide +kernel
theorem dX10_changed_14 : decode cX10_changed 14 = .ok (.aload 5, 2) := by decide +kernel
theorem dX10_changed_16 : decode cX10_changed 16 = .ok (.ifnull 26, 3) := by decide +kernel
theorem dX10_changed_19 : decode cX10_changed 19 = .ok (.aload 6, 2) := by decide +kernel
theorem dX10_changed_21 : decode cX10_changed 21 = .ok (.ifnull 21, 3) := by decide +kernel
theorem dX10_changed_24 : decode cX10_changed 24 = .ok (.iload_n 3, 1) := by decide +kernel
theorem dX10_changed_25 : decode cX10_changed 25 = .ok (.invokestatic 55, 3) := by decide +kernel
theorem dX10_changed_28 : decode cX10_changed 28 = .ok (.ifCond .eq 14, 3) := by decide +kernel
theorem dX10_changed_31 : decode cX10_changed 31 = .ok (.iload 4, 2) := by decide +kernel
