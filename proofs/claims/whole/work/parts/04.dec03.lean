theorem dX11_link_40 : decode cX11_link 40 = .ok (.iaload, 1) := by decide +kernel
theorem dX11_link_41 : decode cX11_link 41 = .ok (.iadd, 1) := by decide +kernel
theorem dX11_link_42 : decode cX11_link 42 = .ok (.iload_n 2, 1) := by decide +kernel
theorem dX11_link_43 : decode cX11_link 43 = .ok (.bastore, 1) := by decide +kernel
theorem dX11_link_44 : decode cX11_link 44 = .ok (.aload_n 0, 1) := by decide +kernel
theorem dX11_link_45 : decode cX11_link 45 = .ok (.getfield 93, 3) := by decide +kernel
theorem dX11_link_48 : decode cX11_link 48 = .ok (.bipush 8, 2) := by decide +kernel
theorem dX11_link_50 : decode cX11_link 50 = .ok (.iload_n 1, 1) := by decide +kernel
theorem dX11_link_51 : decode cX11_link 51 = .ok (.imul, 1) := by decide +kernel
theorem dX11_link_52 : decode cX11_link 52 = .ok (.aload_n 0, 1) := by decide +kernel
theorem dX11_link_53 : decode cX11_link 53 = .ok (.getfield 90, 3) := by decide +kernel
theorem dX11_link_56 : decode cX11_link 56 = .ok (.iload_n 1, 1) := by decide +kernel
theorem dX11_link_57 : decode cX11_link 57 = .ok (.iaload, 1) := by decide +kernel
theorem dX11_link_58 : decode cX11_link 58 = .ok (.iadd, 1) := by decide +kernel
theorem dX11_link_59 : decode cX11_link 59 = .ok (.aload_n 0, 1) := by decide +kernel
theorem dX11_link_60 : decode cX11_link 60 = .ok (.invokevirtual 267, 3) := by decide +kernel
theorem dX11_link_63 : decode cX11_link 63 = .ok (.iastore, 1) := by decide +kernel
theorem dX11_link_64 : decode cX11_link 64 = .ok (.aload_n 0, 1) := by decide +kernel
theorem dX11_link_65 : decode cX11_link 65 = .ok (.bipush 59, 2) := by decide +kernel
theorem dX11_link_67 : decode cX11_link 67 = .ok (.invokevirtual 248, 3) := by decide +kernel
theorem dX11_link_70 : decode cX11_link 70 = .ok (.aload_n 0, 1) := by decide +kernel
theorem dX11_link_71 : decode cX11_link 71 = .ok (.getfield 90, 3) := by decide +kernel
theorem dX11_link_74 : decode cX11_link 74 = .ok (.iload_n 1, 1) := by decide +kernel
theorem dX11_link_75 : decode cX11_link 75 = .ok (.dup2, 1) := by decide +kernel
theorem dX11_link_76 : decode cX11_link 76 = .ok (.iaload, 1) := by decide +kernel
theorem dX11_link_77 : decode cX11_link 77 = .ok (.iconst 1, 1) := by decide +kernel
theorem dX11_link_78 : decode cX11_link 78 = .ok (.iadd, 1) := by decide +kernel
theorem dX11_link_79 : decode cX11_link 79 = .ok (.iastore, 1) := by decide +kernel
theorem dX11_link_80 : decode cX11_link 80 = .ok (.return_, 1) := by decide +kernel
theorem dX11_isItem_0 : decode cX11_isItem 0 = .ok (.aload_n 0, 1) := by decide +kernel
theorem dX11_isItem_1 : decode cX11_isItem 1 = .ok (.invokevirtual 225, 3) := by decide +kernel
theorem dX11_isItem_4 : decode cX11_isItem 4 = .ok (.ifCond .ne 30, 3) := by decide +kernel
theorem dX11_isItem_7 : decode cX11_isItem 7 = .ok (.aload_n 0, 1) := by decide +kernel
theorem dX11_isItem_8 : decode cX11_isItem 8 = .ok (.bipush 61, 2) := by decide +kernel
theorem dX11_isItem_10 : decode cX11_isItem 10 = .ok (.invokevirtual 191, 3) := by decide +kernel
theorem dX11_isItem_13 : decode cX11_isItem 13 = .ok (.ifCond .ne 21, 3) := by decide +kernel
theorem dX11_isItem_16 : decode cX11_isItem 16 = .ok (.aload_n 0, 1) := by decide +kernel
theorem dX11_isItem_17 : decode cX11_isItem 17 = .ok (.bipush 9, 2) := by decide +kernel
theorem dX11_isItem_19 : decode cX11_isItem 19 = .ok (.invokevirtual 198, 3) := by decide +kernel
theorem dX11_isItem_22 : decode cX11_isItem 22 = .ok (.ifCond .ne 12, 3) := by decide +kernel
theorem dX11_isItem_25 : decode cX11_isItem 25 = .ok (.aload_n 0, 1) := by decide +kernel
theorem dX11_isItem_26 : decode cX11_isItem 26 = .ok (.bipush 10, 2) := by decide +kernel
theorem dX11_isItem_28 : decode cX11_isItem 28 = .ok (.invokevirtual 198, 3) := by decide +kernel
theorem dX11_isItem_31 : decode cX11_isItem 31 = .ok (.ifCond .eq 7, 3) := by decide +kernel
theorem dX11_isItem_34 : decode cX11_isItem 34 = .ok (.iconst 1, 1) := by decide +kernel
theorem dX11_isItem_35 : decode cX11_isItem 35 = .ok (.goto 4, 3) := by decide +kernel
theorem dX11_isItem_38 : decode cX11_isItem 38 = .ok (.iconst 0, 1) := by decide +kernel
theorem dX11_isItem_39 : decode cX11_isItem 39 = .ok (.ireturn, 1) := by decide +kernel
theorem dX11_item_0 : decode cX11_item 0 = .ok (.aload_n 0, 1) := by decide +kernel
theorem dX11_item_1 : decode cX11_item 1 = .ok (.getfield 99, 3) := by decide +kernel
theorem dX11_item_4 : decode cX11_item 4 = .ok (.iload_n 1, 1) := by decide +kernel
theorem dX11_item_5 : decode cX11_item 5 = .ok (.iaload, 1) := by decide +kernel
theorem dX11_item_6 : decode cX11_item 6 = .ok (.bipush 20, 2) := by decide +kernel
theorem dX11_item_8 : decode cX11_item 8 = .ok (.if_icmp .ne 9, 3) := by decide +kernel
theorem dX11_item_11 : decode cX11_item 11 = .ok (.aload_n 0, 1) := by decide +kernel
theorem dX11_item_12 : decode cX11_item 12 = .ok (.iconst 5, 1) := by decide +kernel
theorem dX11_item_13 : decode cX11_item 13 = .ok (.invokevirtual 194, 3) := by decide +kernel
theorem dX11_item_16 : decode cX11_item 16 = .ok (.return_, 1) := by decide +kernel
theorem dX11_item_17 : decode cX11_item 17 = .ok (.bipush 20, 2) := by decide +kernel
theorem dX11_item_19 : decode cX11_item 19 = .ok (.iload_n 1, 1) := by decide +kernel
theorem dX11_item_20 : decode cX11_item 20 = .ok (.imul, 1) := by decide +kernel
theorem dX11_item_21 : decode cX11_item 21 = .ok (.aload_n 0, 1) := by decide +kernel
theorem dX11_item_22 : decode cX11_item 22 = .ok (.getfield 99, 3) := by decide +kernel
theorem dX11_item_25 : decode cX11_item 25 = .ok (.iload_n 1, 1) := by decide +kernel
theorem dX11_item_26 : decode cX11_item 26 = .ok (.iaload, 1) := by decide +kernel
theorem dX11_item_27 : decode cX11_item 27 = .ok (.iadd, 1) := by decide +kernel
theorem dX11_item_28 : decode cX11_item 28 = .ok (.istore_n 2, 1) := by decide +kernel
theorem dX11_item_29 : decode cX11_item 29 = .ok (.aload_n 0, 1) := by decide +kernel
theorem dX11_item_30 : decode cX11_item 30 = .ok (.getfield 108, 3) := by decide +kernel
theorem dX11_item_33 : decode cX11_item 33 = .ok (.iload_n 2, 1) := by decide +kernel
theorem dX11_item_34 : decode cX11_item 34 = .ok (.aload_n 0, 1) := by decide +kernel
theorem dX11_item_35 : decode cX11_item 35 = .ok (.getfield 30, 3) := by decide +kernel
theorem dX11_item_38 : decode cX11_item 38 = .ok (.aload_n 0, 1) := by decide +kernel
theorem dX11_item_39 : decode cX11_item 39 = .ok (.getfield 185, 3) := by decide +kernel
theorem dX11_item_42 : decode cX11_item 42 = .ok (.laload, 1) := by decide +kernel
theorem dX11_item_43 : decode cX11_item 43 = .ok (.lastore, 1) := by decide +kernel
theorem dX11_item_44 : decode cX11_item 44 = .ok (.aload_n 0, 1) := by decide +kernel
theorem dX11_item_45 : decode cX11_item 45 = .ok (.getfield 102, 3) := by decide +kernel
theorem dX11_item_48 : decode cX11_item 48 = .ok (.iload_n 2, 1) := by decide +kernel
theorem dX11_item_49 : decode cX11_item 49 = .ok (.aload_n 0, 1) := by decide +kernel
theorem dX11_item_50 : decode cX11_item 50 = .ok (.invokevirtual 225, 3) := by decide +kernel
theorem dX11_item_53 : decode cX11_item 53 = .ok (.ifCond .eq 7, 3) := by decide +kernel
theorem dX11_item_56 : decode cX11_item 56 = .ok (.iconst 0, 1) := by decide +kernel
theorem dX11_item_57 : decode cX11_item 57 = .ok (.goto 30, 3) := by decide +kernel
theorem dX11_item_60 : decode cX11_item 60 = .ok (.aload_n 0, 1) := by decide +kernel
theorem dX11_item_61 : decode cX11_item 61 = .ok (.bipush 61, 2) := by decide +kernel
theorem dX11_item_63 : decode cX11_item 63 = .ok (.invokevirtual 191, 3) := by decide +kernel
theorem dX11_item_66 : decode cX11_item 66 = .ok (.ifCond .eq 7, 3) := by decide +kernel
theorem dX11_item_69 : decode cX11_item 69 = .ok (.iconst 1, 1) := by decide +kernel
theorem dX11_item_70 : decode cX11_item 70 = .ok (.goto 17, 3) := by decide +kernel
theorem dX11_item_73 : decode cX11_item 73 = .ok (.aload_n 0, 1) := by decide +kernel
theorem dX11_item_74 : decode cX11_item 74 = .ok (.bipush 9, 2) := by decide +kernel
theorem dX11_item_76 : decode cX11_item 76 = .ok (.invokevirtual 198, 3) := by decide +kernel
theorem dX11_item_79 : decode cX11_item 79 = .ok (.ifCond .eq 7, 3) := by decide +kernel
theorem dX11_item_82 : decode cX11_item 82 = .ok (.iconst 2, 1) := by decide +kernel
theorem dX11_item_83 : decode cX11_item 83 = .ok (.goto 4, 3) := by decide +kernel
theorem dX11_item_86 : decode cX11_item 86 = .ok (.iconst 3, 1) := by decide +kernel
theorem dX11_item_87 : decode cX11_item 87 = .ok (.iastore, 1) := by decide +kernel
theorem dX11_item_88 : decode cX11_item 88 = .ok (.aload_n 0, 1) := by decide +kernel
theorem dX11_item_89 : decode cX11_item 89 = .ok (.dup, 1) := by decide +kernel
theorem dX11_item_90 : decode cX11_item 90 = .ok (.getfield 185, 3) := by decide +kernel
theorem dX11_item_93 : decode cX11_item 93 = .ok (.iconst 1, 1) := by decide +kernel
theorem dX11_item_94 : decode cX11_item 94 = .ok (.iadd, 1) := by decide +kernel
theorem dX11_item_95 : decode cX11_item 95 = .ok (.putfield 185, 3) := by decide +kernel
theorem dX11_item_98 : decode cX11_item 98 = .ok (.aload_n 0, 1) := by decide +kernel
theorem dX11_item_99 : decode cX11_item 99 = .ok (.getfield 105, 3) := by decide +kernel
theorem dX11_item_102 : decode cX11_item 102 = .ok (.iload_n 2, 1) := by decide +kernel
theorem dX11_item_103 : decode cX11_item 103 = .ok (.aload_n 0, 1) := by decide +kernel
theorem dX11_item_104 : decode cX11_item 104 = .ok (.getfield 204, 3) := by decide +kernel
theorem dX11_item_107 : decode cX11_item 107 = .ok (.iastore, 1) := by decide +kernel
theorem dX11_item_108 : decode cX11_item 108 = .ok (.aload_n 0, 1) := by decide +kernel
theorem dX11_item_109 : decode cX11_item 109 = .ok (.getfield 102, 3) := by decide +kernel
theorem dX11_item_112 : decode cX11_item 112 = .ok (.iload_n 2, 1) := by decide +kernel
theorem dX11_item_113 : decode cX11_item 113 = .ok (.iaload, 1) := by decide +kernel
theorem dX11_item_114 : decode cX11_item 114 = .ok (.iconst 2, 1) := by decide +kernel
theorem dX11_item_115 : decode cX11_item 115 = .ok (.if_icmp .ne 16, 3) := by decide +kernel
theorem dX11_item_118 : decode cX11_item 118 = .ok (.aload_n 0, 1) := by decide +kernel
theorem dX11_item_119 : decode cX11_item 119 = .ok (.getfield 105, 3) := by decide +kernel
theorem dX11_item_122 : decode cX11_item 122 = .ok (.iload_n 2, 1) := by decide +kernel
theorem dX11_item_123 : decode cX11_item 123 = .ok (.aload_n 0, 1) := by decide +kernel
theorem dX11_item_124 : decode cX11_item 124 = .ok (.invokevirtual 267, 3) := by decide +kernel
theorem dX11_item_127 : decode cX11_item 127 = .ok (.iastore, 1) := by decide +kernel
theorem dX11_item_128 : decode cX11_item 128 = .ok (.goto 16, 3) := by decide +kernel
theorem dX11_item_131 : decode cX11_item 131 = .ok (.aload_n 0, 1) := by decide +kernel
theorem dX11_item_132 : decode cX11_item 132 = .ok (.getfield 102, 3) := by decide +kernel
theorem dX11_item_135 : decode cX11_item 135 = .ok (.iload_n 2, 1) := by decide +kernel
theorem dX11_item_136 : decode cX11_item 136 = .ok (.iaload, 1) := by decide +kernel
theorem dX11_item_137 : decode cX11_item 137 = .ok (.ifCond .le 7, 3) := by decide +kernel
theorem dX11_item_140 : decode cX11_item 140 = .ok (.aload_n 0, 1) := by decide +kernel
theorem dX11_item_141 : decode cX11_item 141 = .ok (.invokevirtual 254, 3) := by decide +kernel
theorem dX11_item_144 : decode cX11_item 144 = .ok (.aload_n 0, 1) := by decide +kernel
theorem dX11_item_145 : decode cX11_item 145 = .ok (.getfield 99, 3) := by decide +kernel
theorem dX11_item_148 : decode cX11_item 148 = .ok (.iload_n 1, 1) := by decide +kernel
theorem dX11_item_149 : decode cX11_item 149 = .ok (.dup2, 1) := by decide +kernel
theorem dX11_item_150 : decode cX11_item 150 = .ok (.iaload, 1) := by decide +kernel
theorem dX11_item_151 : decode cX11_item 151 = .ok (.iconst 1, 1) := by decide +kernel
theorem dX11_item_152 : decode cX11_item 152 = .ok (.iadd, 1) := by decide +kernel
theorem dX11_item_153 : decode cX11_item 153 = .ok (.iastore, 1) := by decide +kernel
theorem dX11_item_154 : decode cX11_item 154 = .ok (.return_, 1) := by decide +kernel
theorem dX11_expression_0 : decode cX11_expression 0 = .ok (.aload_n 0, 1) := by decide +kernel
theorem dX11_expression_1 : decode cX11_expression 1 = .ok (.iconst 0, 1) := by decide +kernel
theorem dX11_expression_2 : decode cX11_expression 2 = .ok (.putfield 271, 3) := by decide +kernel
theorem dX11_expression_5 : decode cX11_expression 5 = .ok (.aload_n 0, 1) := by decide +kernel
theorem dX11_expression_6 : decode cX11_expression 6 = .ok (.invokevirtual 274, 3) := by decide +kernel
theorem dX11_expression_9 : decode cX11_expression 9 = .ok (.iconst 1, 1) := by decide +kernel
theorem dX11_expression_10 : decode cX11_expression 10 = .ok (.istore_n 1, 1) := by decide +kernel
theorem dX11_expression_11 : decode cX11_expression 11 = .ok (.iload_n 1, 1) := by decide +kernel
theorem dX11_expression_12 : decode cX11_expression 12 = .ok (.ifCond .eq 33, 3) := by decide +kernel
theorem dX11_expression_15 : decode cX11_expression 15 = .ok (.aload_n 0, 1) := by decide +kernel
theorem dX11_expression_16 : decode cX11_expression 16 = .ok (.getfield 188, 3) := by decide +kernel
theorem dX11_expression_19 : decode cX11_expression 19 = .ok (.ifCond .ne 26, 3) := by decide +kernel
theorem dX11_expression_22 : decode cX11_expression 22 = .ok (.aload_n 0, 1) := by decide +kernel
theorem dX11_expression_23 : decode cX11_expression 23 = .ok (.invokevirtual 277, 3) := by decide +kernel
theorem dX11_expression_26 : decode cX11_expression 26 = .ok (.ifCond .ne 10, 3) := by decide +kernel
theorem dX11_expression_29 : decode cX11_expression 29 = .ok (.aload_n 0, 1) := by decide +kernel
theorem dX11_expression_30 : decode cX11_expression 30 = .ok (.invokevirtual 279, 3) := by decide +kernel
theorem dX11_expression_33 : decode cX11_expression 33 = .ok (.ifCond .eq 7, 3) := by decide +kernel
theorem dX11_expression_36 : decode cX11_expression 36 = .ok (.iconst 1, 1) := by decide +kernel
theorem dX11_expression_37 : decode cX11_expression 37 = .ok (.goto 4, 3) := by decide +kernel
theorem dX11_expression_40 : decode cX11_expression 40 = .ok (.iconst 0, 1) := by decide +kernel
theorem dX11_expression_41 : decode cX11_expression 41 = .ok (.istore_n 1, 1) := by decide +kernel
theorem dX11_expression_42 : decode cX11_expression 42 = .ok (.goto (-31), 3) := by decide +kernel
theorem dX11_expression_45 : decode cX11_expression 45 = .ok (.aload_n 0, 1) := by decide +kernel
theorem dX11_expression_46 : decode cX11_expression 46 = .ok (.iconst 0, 1) := by decide +kernel
theorem dX11_expression_47 : decode cX11_expression 47 = .ok (.iconst 0, 1) := by decide +kernel
theorem dX11_expression_48 : decode cX11_expression 48 = .ok (.invokevirtual 282, 3) := by decide +kernel
theorem dX11_expression_51 : decode cX11_expression 51 = .ok (.return_, 1) := by decide +kernel
theorem dX11_opens_0 : decode cX11_opens 0 = .ok (.aload_n 0, 1) := by decide +kernel
theorem dX11_opens_1 : decode cX11_opens 1 = .ok (.getfield 117, 3) := by decide +kernel
theorem dX11_opens_4 : decode cX11_opens 4 = .ok (.aload_n 0, 1) := by decide +kernel
theorem dX11_opens_5 : decode cX11_opens 5 = .ok (.getfield 271, 3) := by decide +kernel
theorem dX11_opens_8 : decode cX11_opens 8 = .ok (.iconst 0, 1) := by decide +kernel
theorem dX11_opens_9 : decode cX11_opens 9 = .ok (.iastore, 1) := by decide +kernel
theorem dX11_opens_10 : decode cX11_opens 10 = .ok (.aload_n 0, 1) := by decide +kernel
theorem dX11_opens_11 : decode cX11_opens 11 = .ok (.getfield 120, 3) := by decide +kernel
theorem dX11_opens_14 : decode cX11_opens 14 = .ok (.aload_n 0, 1) := by decide +kernel
theorem dX11_opens_15 : decode cX11_opens 15 = .ok (.getfield 271, 3) := by decide +kernel
theorem dX11_opens_18 : decode cX11_opens 18 = .ok (.iconst 0, 1) := by decide +kernel
theorem dX11_opens_19 : decode cX11_opens 19 = .ok (.iastore, 1) := by decide +kernel
theorem dX11_opens_20 : decode cX11_opens 20 = .ok (.return_, 1) := by decide +kernel
theorem dX11_part_0 : decode cX11_part 0 = .ok (.aload_n 0, 1) := by decide +kernel
theorem dX11_part_1 : decode cX11_part 1 = .ok (.getfield 188, 3) := by decide +kernel
theorem dX11_part_4 : decode cX11_part 4 = .ok (.ifCond .ne 40, 3) := by decide +kernel
theorem dX11_part_7 : decode cX11_part 7 = .ok (.aload_n 0, 1) := by decide +kernel
theorem dX11_part_8 : decode cX11_part 8 = .ok (.getfield 24, 3) := by decide +kernel
theorem dX11_part_11 : decode cX11_part 11 = .ok (.aload_n 0, 1) := by decide +kernel
theorem dX11_part_12 : decode cX11_part 12 = .ok (.getfield 185, 3) := by decide +kernel
theorem dX11_part_15 : decode cX11_part 15 = .ok (.iaload, 1) := by decide +kernel
theorem dX11_part_16 : decode cX11_part 16 = .ok (.iconst 2, 1) := by decide +kernel
theorem dX11_part_17 : decode cX11_part 17 = .ok (.if_icmp .eq 27, 3) := by decide +kernel
theorem dX11_part_20 : decode cX11_part 20 = .ok (.aload_n 0, 1) := by decide +kernel
theorem dX11_part_21 : decode cX11_part 21 = .ok (.bipush 40, 2) := by decide +kernel
theorem dX11_part_23 : decode cX11_part 23 = .ok (.invokevirtual 191, 3) := by decide +kernel
theorem dX11_part_26 : decode cX11_part 26 = .ok (.ifCond .ne 18, 3) := by decide +kernel
theorem dX11_part_29 : decode cX11_part 29 = .ok (.aload_n 0, 1) := by decide +kernel
theorem dX11_part_30 : decode cX11_part 30 = .ok (.invokevirtual 225, 3) := by decide +kernel
theorem dX11_part_33 : decode cX11_part 33 = .ok (.ifCond .ne 11, 3) := by decide +kernel
theorem dX11_part_36 : decode cX11_part 36 = .ok (.aload_n 0, 1) := by decide +kernel
theorem dX11_part_37 : decode cX11_part 37 = .ok (.iconst 1, 1) := by decide +kernel
theorem dX11_part_38 : decode cX11_part 38 = .ok (.invokevirtual 194, 3) := by decide +kernel
theorem dX11_part_41 : decode cX11_part 41 = .ok (.goto 47, 3) := by decide +kernel
theorem dX11_part_44 : decode cX11_part 44 = .ok (.aload_n 0, 1) := by decide +kernel
theorem dX11_part_45 : decode cX11_part 45 = .ok (.invokevirtual 225, 3) := by decide +kernel
theorem dX11_part_48 : decode cX11_part 48 = .ok (.ifCond .eq 27, 3) := by decide +kernel
theorem dX11_part_51 : decode cX11_part 51 = .ok (.aload_n 0, 1) := by decide +kernel
theorem dX11_part_52 : decode cX11_part 52 = .ok (.aload_n 0, 1) := by decide +kernel
theorem dX11_part_53 : decode cX11_part 53 = .ok (.getfield 30, 3) := by decide +kernel
theorem dX11_part_56 : decode cX11_part 56 = .ok (.aload_n 0, 1) := by decide +kernel
theorem dX11_part_57 : decode cX11_part 57 = .ok (.getfield 185, 3) := by decide +kernel
theorem dX11_part_60 : decode cX11_part 60 = .ok (.laload, 1) := by decide +kernel
theorem dX11_part_61 : decode cX11_part 61 = .ok (.invokevirtual 229, 3) := by decide +kernel
theorem dX11_part_64 : decode cX11_part 64 = .ok (.ifCond .ge 11, 3) := by decide +kernel
theorem dX11_part_67 : decode cX11_part 67 = .ok (.aload_n 0, 1) := by decide +kernel
theorem dX11_part_68 : decode cX11_part 68 = .ok (.iconst 2, 1) := by decide +kernel
theorem dX11_part_69 : decode cX11_part 69 = .ok (.invokevirtual 194, 3) := by decide +kernel
theorem dX11_part_72 : decode cX11_part 72 = .ok (.goto 16, 3) := by decide +kernel
theorem dX11_part_75 : decode cX11_part 75 = .ok (.aload_n 0, 1) := by decide +kernel
theorem dX11_part_76 : decode cX11_part 76 = .ok (.getfield 271, 3) := by decide +kernel
theorem dX11_part_79 : decode cX11_part 79 = .ok (.iconst 5, 1) := by decide +kernel
theorem dX11_part_80 : decode cX11_part 80 = .ok (.if_icmp .ne 8, 3) := by decide +kernel
theorem dX11_part_83 : decode cX11_part 83 = .ok (.aload_n 0, 1) := by decide +kernel
theorem dX11_part_84 : decode cX11_part 84 = .ok (.iconst 5, 1) := by decide +kernel
theorem dX11_part_85 : decode cX11_part 85 = .ok (.invokevirtual 194, 3) := by decide +kernel
theorem dX11_part_88 : decode cX11_part 88 = .ok (.aload_n 0, 1) := by decide +kernel
theorem dX11_part_89 : decode cX11_part 89 = .ok (.getfield 188, 3) := by decide +kernel
theorem dX11_part_92 : decode cX11_part 92 = .ok (.ifCond .le 5, 3) := by decide +kernel
theorem dX11_part_95 : decode cX11_part 95 = .ok (.iconst 0, 1) := by decide +kernel
theorem dX11_part_96 : decode cX11_part 96 = .ok (.ireturn, 1) := by decide +kernel
theorem dX11_part_97 : decode cX11_part 97 = .ok (.aload_n 0, 1) := by decide +kernel
theorem dX11_part_98 : decode cX11_part 98 = .ok (.bipush 40, 2) := by decide +kernel
theorem dX11_part_100 : decode cX11_part 100 = .ok (.invokevirtual 286, 3) := by decide +kernel
theorem dX11_part_103 : decode cX11_part 103 = .ok (.ifCond .eq 19, 3) := by decide +kernel
theorem dX11_part_106 : decode cX11_part 106 = .ok (.aload_n 0, 1) := by decide +kernel
theorem dX11_part_107 : decode cX11_part 107 = .ok (.dup, 1) := by decide +kernel
theorem dX11_part_108 : decode cX11_part 108 = .ok (.getfield 271, 3) := by decide +kernel
theorem dX11_part_111 : decode cX11_part 111 = .ok (.iconst 1, 1) := by decide +kernel
theorem dX11_part_112 : decode cX11_part 112 = .ok (.iadd, 1) := by decide +kernel
theorem dX11_part_113 : decode cX11_part 113 = .ok (.putfield 271, 3) := by decide +kernel
theorem dX11_part_116 : decode cX11_part 116 = .ok (.aload_n 0, 1) := by decide +kernel
theorem dX11_part_117 : decode cX11_part 117 = .ok (.invokevirtual 274, 3) := by decide +kernel
theorem dX11_part_120 : decode cX11_part 120 = .ok (.iconst 1, 1) := by decide +kernel
theorem dX11_part_121 : decode cX11_part 121 = .ok (.ireturn, 1) := by decide +kernel
theorem dX11_part_122 : decode cX11_part 122 = .ok (.aload_n 0, 1) := by decide +kernel
theorem dX11_part_123 : decode cX11_part 123 = .ok (.aload_n 0, 1) := by decide +kernel
theorem dX11_part_124 : decode cX11_part 124 = .ok (.getfield 24, 3) := by decide +kernel
theorem dX11_part_127 : decode cX11_part 127 = .ok (.aload_n 0, 1) := by decide +kernel
theorem dX11_part_128 : decode cX11_part 128 = .ok (.getfield 185, 3) := by decide +kernel
theorem dX11_part_131 : decode cX11_part 131 = .ok (.iaload, 1) := by decide +kernel
theorem dX11_part_132 : decode cX11_part 132 = .ok (.iconst 2, 1) := by decide +kernel
theorem dX11_part_133 : decode cX11_part 133 = .ok (.if_icmp .ne 7, 3) := by decide +kernel
theorem dX11_part_136 : decode cX11_part 136 = .ok (.iconst 1, 1) := by decide +kernel
theorem dX11_part_137 : decode cX11_part 137 = .ok (.goto 4, 3) := by decide +kernel
theorem dX11_part_140 : decode cX11_part 140 = .ok (.iconst 2, 1) := by decide +kernel
theorem dX11_part_141 : decode cX11_part 141 = .ok (.aload_n 0, 1) := by decide +kernel
theorem dX11_part_142 : decode cX11_part 142 = .ok (.getfield 24, 3) := by decide +kernel
theorem dX11_part_145 : decode cX11_part 145 = .ok (.aload_n 0, 1) := by decide +kernel
theorem dX11_part_146 : decode cX11_part 146 = .ok (.getfield 185, 3) := by decide +kernel
theorem dX11_part_149 : decode cX11_part 149 = .ok (.iaload, 1) := by decide +kernel
theorem dX11_part_150 : decode cX11_part 150 = .ok (.iconst 2, 1) := by decide +kernel
theorem dX11_part_151 : decode cX11_part 151 = .ok (.if_icmp .ne 16, 3) := by decide +kernel
theorem dX11_part_154 : decode cX11_part 154 = .ok (.aload_n 0, 1) := by decide +kernel
theorem dX11_part_155 : decode cX11_part 155 = .ok (.getfield 30, 3) := by decide +kernel
theorem dX11_part_158 : decode cX11_part 158 = .ok (.aload_n 0, 1) := by decide +kernel
theorem dX11_part_159 : decode cX11_part 159 = .ok (.getfield 185, 3) := by decide +kernel
theorem dX11_part_162 : decode cX11_part 162 = .ok (.laload, 1) := by decide +kernel
theorem dX11_part_163 : decode cX11_part 163 = .ok (.l2i, 1) := by decide +kernel
theorem dX11_part_164 : decode cX11_part 164 = .ok (.goto 16, 3) := by decide +kernel
theorem dX11_part_167 : decode cX11_part 167 = .ok (.aload_n 0, 1) := by decide +kernel
theorem dX11_part_168 : decode cX11_part 168 = .ok (.aload_n 0, 1) := by decide +kernel
theorem dX11_part_169 : decode cX11_part 169 = .ok (.getfield 30, 3) := by decide +kernel
theorem dX11_part_172 : decode cX11_part 172 = .ok (.aload_n 0, 1) := by decide +kernel
theorem dX11_part_173 : decode cX11_part 173 = .ok (.getfield 185, 3) := by decide +kernel
theorem dX11_part_176 : decode cX11_part 176 = .ok (.laload, 1) := by decide +kernel
theorem dX11_part_177 : decode cX11_part 177 = .ok (.invokevirtual 229, 3) := by decide +kernel
theorem dX11_part_180 : decode cX11_part 180 = .ok (.invokevirtual 282, 3) := by decide +kernel
theorem dX11_part_183 : decode cX11_part 183 = .ok (.aload_n 0, 1) := by decide +kernel
theorem dX11_part_184 : decode cX11_part 184 = .ok (.dup, 1) := by decide +kernel
theorem dX11_part_185 : decode cX11_part 185 = .ok (.getfield 185, 3) := by decide +kernel
theorem dX11_part_188 : decode cX11_part 188 = .ok (.iconst 1, 1) := by decide +kernel
theorem dX11_part_189 : decode cX11_part 189 = .ok (.iadd, 1) := by decide +kernel
theorem dX11_part_190 : decode cX11_part 190 = .ok (.putfield 185, 3) := by decide +kernel
theorem dX11_part_193 : decode cX11_part 193 = .ok (.iconst 0, 1) := by decide +kernel
theorem dX11_part_194 : decode cX11_part 194 = .ok (.ireturn, 1) := by decide +kernel
theorem dX11_goesOnBehind_0 : decode cX11_goesOnBehind 0 = .ok (.aload_n 0, 1) := by decide +kernel
theorem dX11_goesOnBehind_1 : decode cX11_goesOnBehind 1 = .ok (.getfield 188, 3) := by decide +kernel
theorem dX11_goesOnBehind_4 : decode cX11_goesOnBehind 4 = .ok (.ifCond .ne 203, 3) := by decide +kernel
theorem dX11_goesOnBehind_7 : decode cX11_goesOnBehind 7 = .ok (.aload_n 0, 1) := by decide +kernel
theorem dX11_goesOnBehind_8 : decode cX11_goesOnBehind 8 = .ok (.getfield 117, 3) := by decide +kernel
theorem dX11_goesOnBehind_11 : decode cX11_goesOnBehind 11 = .ok (.aload_n 0, 1) := by decide +kernel
theorem dX11_goesOnBehind_12 : decode cX11_goesOnBehind 12 = .ok (.getfield 271, 3) := by decide +kernel
theorem dX11_goesOnBehind_15 : decode cX11_goesOnBehind 15 = .ok (.iaload, 1) := by decide +kernel
theorem dX11_goesOnBehind_16 : decode cX11_goesOnBehind 16 = .ok (.ifCond .eq 27, 3) := by decide +kernel
theorem dX11_goesOnBehind_19 : decode cX11_goesOnBehind 19 = .ok (.aload_n 0, 1) := by decide +kernel
theorem dX11_goesOnBehind_20 : decode cX11_goesOnBehind 20 = .ok (.aload_n 0, 1) := by decide +kernel
theorem dX11_goesOnBehind_21 : decode cX11_goesOnBehind 21 = .ok (.getfield 117, 3) := by decide +kernel
theorem dX11_goesOnBehind_24 : decode cX11_goesOnBehind 24 = .ok (.aload_n 0, 1) := by decide +kernel
theorem dX11_goesOnBehind_25 : decode cX11_goesOnBehind 25 = .ok (.getfield 271, 3) := by decide +kernel
theorem dX11_goesOnBehind_28 : decode cX11_goesOnBehind 28 = .ok (.iaload, 1) := by decide +kernel
theorem dX11_goesOnBehind_29 : decode cX11_goesOnBehind 29 = .ok (.iconst 0, 1) := by decide +kernel
theorem dX11_goesOnBehind_30 : decode cX11_goesOnBehind 30 = .ok (.invokevirtual 282, 3) := by decide +kernel
theorem dX11_goesOnBehind_33 : decode cX11_goesOnBehind 33 = .ok (.aload_n 0, 1) := by decide +kernel
theorem dX11_goesOnBehind_34 : decode cX11_goesOnBehind 34 = .ok (.getfield 117, 3) := by decide +kernel
theorem dX11_goesOnBehind_37 : decode cX11_goesOnBehind 37 = .ok (.aload_n 0, 1) := by decide +kernel
theorem dX11_goesOnBehind_38 : decode cX11_goesOnBehind 38 = .ok (.getfield 271, 3) := by decide +kernel
theorem dX11_goesOnBehind_41 : decode cX11_goesOnBehind 41 = .ok (.iconst 0, 1) := by decide +kernel
theorem dX11_goesOnBehind_42 : decode cX11_goesOnBehind 42 = .ok (.iastore, 1) := by decide +kernel
theorem dX11_goesOnBehind_43 : decode cX11_goesOnBehind 43 = .ok (.aload_n 0, 1) := by decide +kernel
theorem dX11_goesOnBehind_44 : decode cX11_goesOnBehind 44 = .ok (.bipush 43, 2) := by decide +kernel
theorem dX11_goesOnBehind_46 : decode cX11_goesOnBehind 46 = .ok (.invokevirtual 191, 3) := by decide +kernel
theorem dX11_goesOnBehind_49 : decode cX11_goesOnBehind 49 = .ok (.ifCond .ne 12, 3) := by decide +kernel
theorem dX11_goesOnBehind_52 : decode cX11_goesOnBehind 52 = .ok (.aload_n 0, 1) := by decide +kernel
theorem dX11_goesOnBehind_53 : decode cX11_goesOnBehind 53 = .ok (.bipush 45, 2) := by decide +kernel
theorem dX11_goesOnBehind_55 : decode cX11_goesOnBehind 55 = .ok (.invokevirtual 191, 3) := by decide +kernel
theorem dX11_goesOnBehind_58 : decode cX11_goesOnBehind 58 = .ok (.ifCond .eq 38, 3) := by decide +kernel
theorem dX11_goesOnBehind_61 : decode cX11_goesOnBehind 61 = .ok (.aload_n 0, 1) := by decide +kernel
theorem dX11_goesOnBehind_62 : decode cX11_goesOnBehind 62 = .ok (.getfield 117, 3) := by decide +kernel
theorem dX11_goesOnBehind_65 : decode cX11_goesOnBehind 65 = .ok (.aload_n 0, 1) := by decide +kernel
theorem dX11_goesOnBehind_66 : decode cX11_goesOnBehind 66 = .ok (.getfield 271, 3) := by decide +kernel
theorem dX11_goesOnBehind_69 : decode cX11_goesOnBehind 69 = .ok (.aload_n 0, 1) := by decide +kernel
theorem dX11_goesOnBehind_70 : decode cX11_goesOnBehind 70 = .ok (.bipush 43, 2) := by decide +kernel
theorem dX11_goesOnBehind_72 : decode cX11_goesOnBehind 72 = .ok (.invokevirtual 191, 3) := by decide +kernel
theorem dX11_goesOnBehind_75 : decode cX11_goesOnBehind 75 = .ok (.ifCond .eq 7, 3) := by decide +kernel
theorem dX11_goesOnBehind_78 : decode cX11_goesOnBehind 78 = .ok (.iconst 3, 1) := by decide +kernel
theorem dX11_goesOnBehind_79 : decode cX11_goesOnBehind 79 = .ok (.goto 4, 3) := by decide +kernel
theorem dX11_goesOnBehind_82 : decode cX11_goesOnBehind 82 = .ok (.iconst 4, 1) := by decide +kernel
theorem dX11_goesOnBehind_83 : decode cX11_goesOnBehind 83 = .ok (.iastore, 1) := by decide +kernel
theorem dX11_goesOnBehind_84 : decode cX11_goesOnBehind 84 = .ok (.aload_n 0, 1) := by decide +kernel
theorem dX11_goesOnBehind_85 : decode cX11_goesOnBehind 85 = .ok (.dup, 1) := by decide +kernel
theorem dX11_goesOnBehind_86 : decode cX11_goesOnBehind 86 = .ok (.getfield 185, 3) := by decide +kernel
theorem dX11_goesOnBehind_89 : decode cX11_goesOnBehind 89 = .ok (.iconst 1, 1) := by decide +kernel
theorem dX11_goesOnBehind_90 : decode cX11_goesOnBehind 90 = .ok (.iadd, 1) := by decide +kernel
theorem dX11_goesOnBehind_91 : decode cX11_goesOnBehind 91 = .ok (.putfield 185, 3) := by decide +kernel
theorem dX11_goesOnBehind_94 : decode cX11_goesOnBehind 94 = .ok (.iconst 1, 1) := by decide +kernel
theorem dX11_goesOnBehind_95 : decode cX11_goesOnBehind 95 = .ok (.ireturn, 1) := by decide +kernel
theorem dX11_goesOnBehind_96 : decode cX11_goesOnBehind 96 = .ok (.aload_n 0, 1) := by decide +kernel
theorem dX11_goesOnBehind_97 : decode cX11_goesOnBehind 97 = .ok (.getfield 120, 3) := by decide +kernel
theorem dX11_goesOnBehind_100 : decode cX11_goesOnBehind 100 = .ok (.aload_n 0, 1) := by decide +kernel
theorem dX11_goesOnBehind_101 : decode cX11_goesOnBehind 101 = .ok (.getfield 271, 3) := by decide +kernel
theorem dX11_goesOnBehind_104 : decode cX11_goesOnBehind 104 = .ok (.iaload, 1) := by decide +kernel
theorem dX11_goesOnBehind_105 : decode cX11_goesOnBehind 105 = .ok (.ifCond .eq 20, 3) := by decide +kernel
theorem dX11_goesOnBehind_108 : decode cX11_goesOnBehind 108 = .ok (.aload_n 0, 1) := by decide +kernel
theorem dX11_goesOnBehind_109 : decode cX11_goesOnBehind 109 = .ok (.aload_n 0, 1) := by decide +kernel
theorem dX11_goesOnBehind_110 : decode cX11_goesOnBehind 110 = .ok (.getfield 120, 3) := by decide +kernel
theorem dX11_goesOnBehind_113 : decode cX11_goesOnBehind 113 = .ok (.aload_n 0, 1) := by decide +kernel
theorem dX11_goesOnBehind_114 : decode cX11_goesOnBehind 114 = .ok (.getfield 271, 3) := by decide +kernel
theorem dX11_goesOnBehind_117 : decode cX11_goesOnBehind 117 = .ok (.iaload, 1) := by decide +kernel
theorem dX11_goesOnBehind_118 : decode cX11_goesOnBehind 118 = .ok (.iconst 0, 1) := by decide +kernel
theorem dX11_goesOnBehind_119 : decode cX11_goesOnBehind 119 = .ok (.invokevirtual 282, 3) := by decide +kernel
theorem dX11_goesOnBehind_122 : decode cX11_goesOnBehind 122 = .ok (.goto 57, 3) := by decide +kernel
theorem dX11_goesOnBehind_125 : decode cX11_goesOnBehind 125 = .ok (.aload_n 0, 1) := by decide +kernel
theorem dX11_goesOnBehind_126 : decode cX11_goesOnBehind 126 = .ok (.bipush 60, 2) := by decide +kernel
theorem dX11_goesOnBehind_128 : decode cX11_goesOnBehind 128 = .ok (.invokevirtual 191, 3) := by decide +kernel
theorem dX11_goesOnBehind_131 : decode cX11_goesOnBehind 131 = .ok (.ifCond .ne 12, 3) := by decide +kernel
theorem dX11_goesOnBehind_134 : decode cX11_goesOnBehind 134 = .ok (.aload_n 0, 1) := by decide +kernel
theorem dX11_goesOnBehind_135 : decode cX11_goesOnBehind 135 = .ok (.bipush 61, 2) := by decide +kernel
theorem dX11_goesOnBehind_137 : decode cX11_goesOnBehind 137 = .ok (.invokevirtual 191, 3) := by decide +kernel
theorem dX11_goesOnBehind_140 : decode cX11_goesOnBehind 140 = .ok (.ifCond .eq 39, 3) := by decide +kernel
theorem dX11_goesOnBehind_143 : decode cX11_goesOnBehind 143 = .ok (.aload_n 0, 1) := by decide +kernel
theorem dX11_goesOnBehind_144 : decode cX11_goesOnBehind 144 = .ok (.getfield 120, 3) := by decide +kernel
theorem dX11_goesOnBehind_147 : decode cX11_goesOnBehind 147 = .ok (.aload_n 0, 1) := by decide +kernel
theorem dX11_goesOnBehind_148 : decode cX11_goesOnBehind 148 = .ok (.getfield 271, 3) := by decide +kernel
theorem dX11_goesOnBehind_151 : decode cX11_goesOnBehind 151 = .ok (.aload_n 0, 1) := by decide +kernel
theorem dX11_goesOnBehind_152 : decode cX11_goesOnBehind 152 = .ok (.bipush 60, 2) := by decide +kernel
theorem dX11_goesOnBehind_154 : decode cX11_goesOnBehind 154 = .ok (.invokevirtual 191, 3) := by decide +kernel
theorem dX11_goesOnBehind_157 : decode cX11_goesOnBehind 157 = .ok (.ifCond .eq 7, 3) := by decide +kernel
theorem dX11_goesOnBehind_160 : decode cX11_goesOnBehind 160 = .ok (.iconst 5, 1) := by decide +kernel
theorem dX11_goesOnBehind_161 : decode cX11_goesOnBehind 161 = .ok (.goto 5, 3) := by decide +kernel
theorem dX11_goesOnBehind_164 : decode cX11_goesOnBehind 164 = .ok (.bipush 6, 2) := by decide +kernel
theorem dX11_goesOnBehind_166 : decode cX11_goesOnBehind 166 = .ok (.iastore, 1) := by decide +kernel
theorem dX11_goesOnBehind_167 : decode cX11_goesOnBehind 167 = .ok (.aload_n 0, 1) := by decide +kernel
theorem dX11_goesOnBehind_168 : decode cX11_goesOnBehind 168 = .ok (.dup, 1) := by decide +kernel
theorem dX11_goesOnBehind_169 : decode cX11_goesOnBehind 169 = .ok (.getfield 185, 3) := by decide +kernel
theorem dX11_goesOnBehind_172 : decode cX11_goesOnBehind 172 = .ok (.iconst 1, 1) := by decide +kernel
theorem dX11_goesOnBehind_173 : decode cX11_goesOnBehind 173 = .ok (.iadd, 1) := by decide +kernel
theorem dX11_goesOnBehind_174 : decode cX11_goesOnBehind 174 = .ok (.putfield 185, 3) := by decide +kernel
theorem dX11_goesOnBehind_177 : decode cX11_goesOnBehind 177 = .ok (.iconst 1, 1) := by decide +kernel
theorem dX11_goesOnBehind_178 : decode cX11_goesOnBehind 178 = .ok (.ireturn, 1) := by decide +kernel
theorem dX11_goesOnBehind_179 : decode cX11_goesOnBehind 179 = .ok (.aload_n 0, 1) := by decide +kernel
theorem dX11_goesOnBehind_180 : decode cX11_goesOnBehind 180 = .ok (.getfield 271, 3) := by decide +kernel
theorem dX11_goesOnBehind_183 : decode cX11_goesOnBehind 183 = .ok (.ifCond .ne 5, 3) := by decide +kernel
theorem dX11_goesOnBehind_186 : decode cX11_goesOnBehind 186 = .ok (.iconst 0, 1) := by decide +kernel
theorem dX11_goesOnBehind_187 : decode cX11_goesOnBehind 187 = .ok (.ireturn, 1) := by decide +kernel
theorem dX11_goesOnBehind_188 : decode cX11_goesOnBehind 188 = .ok (.aload_n 0, 1) := by decide +kernel
theorem dX11_goesOnBehind_189 : decode cX11_goesOnBehind 189 = .ok (.bipush 41, 2) := by decide +kernel
theorem dX11_goesOnBehind_191 : decode cX11_goesOnBehind 191 = .ok (.invokevirtual 248, 3) := by decide +kernel
theorem dX11_goesOnBehind_194 : decode cX11_goesOnBehind 194 = .ok (.aload_n 0, 1) := by decide +kernel
theorem dX11_goesOnBehind_195 : decode cX11_goesOnBehind 195 = .ok (.dup, 1) := by decide +kernel
theorem dX11_goesOnBehind_196 : decode cX11_goesOnBehind 196 = .ok (.getfield 271, 3) := by decide +kernel
theorem dX11_goesOnBehind_199 : decode cX11_goesOnBehind 199 = .ok (.iconst 1, 1) := by decide +kernel
theorem dX11_goesOnBehind_200 : decode cX11_goesOnBehind 200 = .ok (.isub, 1) := by decide +kernel
theorem dX11_goesOnBehind_201 : decode cX11_goesOnBehind 201 = .ok (.putfield 271, 3) := by decide +kernel
theorem dX11_goesOnBehind_204 : decode cX11_goesOnBehind 204 = .ok (.goto (-204), 3) := by decide +kernel
theorem dX11_goesOnBehind_207 : decode cX11_goesOnBehind 207 = .ok (.iconst 0, 1) := by decide +kernel
theorem dX11_goesOnBehind_208 : decode cX11_goesOnBehind 208 = .ok (.ireturn, 1) := by decide +kernel
theorem dX11_keeps_0 : decode cX11_keeps 0 = .ok (.aload_n 0, 1) := by decide +kernel
theorem dX11_keeps_1 : decode cX11_keeps 1 = .ok (.getfield 62, 3) := by decide +kernel
theorem dX11_keeps_4 : decode cX11_keeps 4 = .ok (.iload_n 1, 1) := by decide +kernel
theorem dX11_keeps_5 : decode cX11_keeps 5 = .ok (.aload_n 0, 1) := by decide +kernel
theorem dX11_keeps_6 : decode cX11_keeps 6 = .ok (.getfield 62, 3) := by decide +kernel
theorem dX11_keeps_9 : decode cX11_keeps 9 = .ok (.bipush 6, 2) := by decide +kernel
theorem dX11_keeps_11 : decode cX11_keeps 11 = .ok (.iaload, 1) := by decide +kernel
theorem dX11_keeps_12 : decode cX11_keeps 12 = .ok (.iastore, 1) := by decide +kernel
theorem dX11_keeps_13 : decode cX11_keeps 13 = .ok (.aload_n 0, 1) := by decide +kernel
theorem dX11_keeps_14 : decode cX11_keeps 14 = .ok (.getfield 74, 3) := by decide +kernel
theorem dX11_keeps_17 : decode cX11_keeps 17 = .ok (.iload_n 1, 1) := by decide +kernel
theorem dX11_keeps_18 : decode cX11_keeps 18 = .ok (.aload_n 0, 1) := by decide +kernel
theorem dX11_keeps_19 : decode cX11_keeps 19 = .ok (.getfield 74, 3) := by decide +kernel
theorem dX11_keeps_22 : decode cX11_keeps 22 = .ok (.bipush 6, 2) := by decide +kernel
theorem dX11_keeps_24 : decode cX11_keeps 24 = .ok (.iaload, 1) := by decide +kernel
theorem dX11_keeps_25 : decode cX11_keeps 25 = .ok (.iastore, 1) := by decide +kernel
theorem dX11_keeps_26 : decode cX11_keeps 26 = .ok (.iconst 0, 1) := by decide +kernel
theorem dX11_keeps_27 : decode cX11_keeps 27 = .ok (.istore_n 2, 1) := by decide +kernel
theorem dX11_keeps_28 : decode cX11_keeps 28 = .ok (.iload_n 2, 1) := by decide +kernel
theorem dX11_keeps_29 : decode cX11_keeps 29 = .ok (.bipush 8, 2) := by decide +kernel
theorem dX11_keeps_31 : decode cX11_keeps 31 = .ok (.if_icmp .ge 69, 3) := by decide +kernel
theorem dX11_keeps_34 : decode cX11_keeps 34 = .ok (.aload_n 0, 1) := by decide +kernel
theorem dX11_keeps_35 : decode cX11_keeps 35 = .ok (.getfield 65, 3) := by decide +kernel
theorem dX11_keeps_38 : decode cX11_keeps 38 = .ok (.bipush 8, 2) := by decide +kernel
theorem dX11_keeps_40 : decode cX11_keeps 40 = .ok (.iload_n 1, 1) := by decide +kernel
theorem dX11_keeps_41 : decode cX11_keeps 41 = .ok (.imul, 1) := by decide +kernel
theorem dX11_keeps_42 : decode cX11_keeps 42 = .ok (.iload_n 2, 1) := by decide +kernel
theorem dX11_keeps_43 : decode cX11_keeps 43 = .ok (.iadd, 1) := by decide +kernel
theorem dX11_keeps_44 : decode cX11_keeps 44 = .ok (.aload_n 0, 1) := by decide +kernel
theorem dX11_keeps_45 : decode cX11_keeps 45 = .ok (.getfield 65, 3) := by decide +kernel
theorem dX11_keeps_48 : decode cX11_keeps 48 = .ok (.bipush 48, 2) := by decide +kernel
theorem dX11_keeps_50 : decode cX11_keeps 50 = .ok (.iload_n 2, 1) := by decide +kernel
theorem dX11_keeps_51 : decode cX11_keeps 51 = .ok (.iadd, 1) := by decide +kernel
theorem dX11_keeps_52 : decode cX11_keeps 52 = .ok (.laload, 1) := by decide +kernel
theorem dX11_keeps_53 : decode cX11_keeps 53 = .ok (.lastore, 1) := by decide +kernel
theorem dX11_keeps_54 : decode cX11_keeps 54 = .ok (.aload_n 0, 1) := by decide +kernel
theorem dX11_keeps_55 : decode cX11_keeps 55 = .ok (.getfield 68, 3) := by decide +kernel
theorem dX11_keeps_58 : decode cX11_keeps 58 = .ok (.bipush 8, 2) := by decide +kernel
theorem dX11_keeps_60 : decode cX11_keeps 60 = .ok (.iload_n 1, 1) := by decide +kernel
theorem dX11_keeps_61 : decode cX11_keeps 61 = .ok (.imul, 1) := by decide +kernel
theorem dX11_keeps_62 : decode cX11_keeps 62 = .ok (.iload_n 2, 1) := by decide +kernel
theorem dX11_keeps_63 : decode cX11_keeps 63 = .ok (.iadd, 1) := by decide +kernel
theorem dX11_keeps_64 : decode cX11_keeps 64 = .ok (.aload_n 0, 1) := by decide +kernel
theorem dX11_keeps_65 : decode cX11_keeps 65 = .ok (.getfield 68, 3) := by decide +kernel
theorem dX11_keeps_68 : decode cX11_keeps 68 = .ok (.bipush 48, 2) := by decide +kernel
theorem dX11_keeps_70 : decode cX11_keeps 70 = .ok (.iload_n 2, 1) := by decide +kernel
theorem dX11_keeps_71 : decode cX11_keeps 71 = .ok (.iadd, 1) := by decide +kernel
theorem dX11_keeps_72 : decode cX11_keeps 72 = .ok (.iaload, 1) := by decide +kernel
theorem dX11_keeps_73 : decode cX11_keeps 73 = .ok (.iastore, 1) := by decide +kernel
theorem dX11_keeps_74 : decode cX11_keeps 74 = .ok (.aload_n 0, 1) := by decide +kernel
theorem dX11_keeps_75 : decode cX11_keeps 75 = .ok (.getfield 71, 3) := by decide +kernel
theorem dX11_keeps_78 : decode cX11_keeps 78 = .ok (.bipush 8, 2) := by decide +kernel
theorem dX11_keeps_80 : decode cX11_keeps 80 = .ok (.iload_n 1, 1) := by decide +kernel
theorem dX11_keeps_81 : decode cX11_keeps 81 = .ok (.imul, 1) := by decide +kernel
theorem dX11_keeps_82 : decode cX11_keeps 82 = .ok (.iload_n 2, 1) := by decide +kernel
theorem dX11_keeps_83 : decode cX11_keeps 83 = .ok (.iadd, 1) := by decide +kernel
theorem dX11_keeps_84 : decode cX11_keeps 84 = .ok (.aload_n 0, 1) := by decide +kernel
theorem dX11_keeps_85 : decode cX11_keeps 85 = .ok (.getfield 71, 3) := by decide +kernel
theorem dX11_keeps_88 : decode cX11_keeps 88 = .ok (.bipush 48, 2) := by decide +kernel
theorem dX11_keeps_90 : decode cX11_keeps 90 = .ok (.iload_n 2, 1) := by decide +kernel
theorem dX11_keeps_91 : decode cX11_keeps 91 = .ok (.iadd, 1) := by decide +kernel
theorem dX11_keeps_92 : decode cX11_keeps 92 = .ok (.iaload, 1) := by decide +kernel
theorem dX11_keeps_93 : decode cX11_keeps 93 = .ok (.iastore, 1) := by decide +kernel
theorem dX11_keeps_94 : decode cX11_keeps 94 = .ok (.iinc 2 1, 3) := by decide +kernel
theorem dX11_keeps_97 : decode cX11_keeps 97 = .ok (.goto (-69), 3) := by decide +kernel
theorem dX11_keeps_100 : decode cX11_keeps 100 = .ok (.iconst 0, 1) := by decide +kernel
theorem dX11_keeps_101 : decode cX11_keeps 101 = .ok (.istore_n 2, 1) := by decide +kernel
theorem dX11_keeps_102 : decode cX11_keeps 102 = .ok (.iload_n 2, 1) := by decide +kernel
theorem dX11_keeps_103 : decode cX11_keeps 103 = .ok (.bipush 12, 2) := by decide +kernel
theorem dX11_keeps_105 : decode cX11_keeps 105 = .ok (.if_icmp .ge 87, 3) := by decide +kernel
theorem dX11_keeps_108 : decode cX11_keeps 108 = .ok (.bipush 12, 2) := by decide +kernel
theorem dX11_keeps_110 : decode cX11_keeps 110 = .ok (.iload_n 1, 1) := by decide +kernel
theorem dX11_keeps_111 : decode cX11_keeps 111 = .ok (.imul, 1) := by decide +kernel
theorem dX11_keeps_112 : decode cX11_keeps 112 = .ok (.iload_n 2, 1) := by decide +kernel
theorem dX11_keeps_113 : decode cX11_keeps 113 = .ok (.iadd, 1) := by decide +kernel
theorem dX11_keeps_114 : decode cX11_keeps 114 = .ok (.istore_n 3, 1) := by decide +kernel
theorem dX11_keeps_115 : decode cX11_keeps 115 = .ok (.bipush 72, 2) := by decide +kernel
theorem dX11_keeps_117 : decode cX11_keeps 117 = .ok (.iload_n 2, 1) := by decide +kernel
theorem dX11_keeps_118 : decode cX11_keeps 118 = .ok (.iadd, 1) := by decide +kernel
theorem dX11_keeps_119 : decode cX11_keeps 119 = .ok (.istore 4, 2) := by decide +kernel
theorem dX11_keeps_121 : decode cX11_keeps 121 = .ok (.aload_n 0, 1) := by decide +kernel
theorem dX11_keeps_122 : decode cX11_keeps 122 = .ok (.getfield 80, 3) := by decide +kernel
theorem dX11_keeps_125 : decode cX11_keeps 125 = .ok (.iload_n 3, 1) := by decide +kernel
theorem dX11_keeps_126 : decode cX11_keeps 126 = .ok (.aload_n 0, 1) := by decide +kernel
theorem dX11_keeps_127 : decode cX11_keeps 127 = .ok (.getfield 80, 3) := by decide +kernel
theorem dX11_keeps_130 : decode cX11_keeps 130 = .ok (.iload 4, 2) := by decide +kernel
theorem dX11_keeps_132 : decode cX11_keeps 132 = .ok (.iaload, 1) := by decide +kernel
theorem dX11_keeps_133 : decode cX11_keeps 133 = .ok (.iastore, 1) := by decide +kernel
theorem dX11_keeps_134 : decode cX11_keeps 134 = .ok (.aload_n 0, 1) := by decide +kernel
theorem dX11_keeps_135 : decode cX11_keeps 135 = .ok (.getfield 83, 3) := by decide +kernel
theorem dX11_keeps_138 : decode cX11_keeps 138 = .ok (.iload_n 3, 1) := by decide +kernel
theorem dX11_keeps_139 : decode cX11_keeps 139 = .ok (.aload_n 0, 1) := by decide +kernel
theorem dX11_keeps_140 : decode cX11_keeps 140 = .ok (.getfield 83, 3) := by decide +kernel
theorem dX11_keeps_143 : decode cX11_keeps 143 = .ok (.iload 4, 2) := by decide +kernel
theorem dX11_keeps_145 : decode cX11_keeps 145 = .ok (.baload, 1) := by decide +kernel
theorem dX11_keeps_146 : decode cX11_keeps 146 = .ok (.bastore, 1) := by decide +kernel
theorem dX11_keeps_147 : decode cX11_keeps 147 = .ok (.aload_n 0, 1) := by decide +kernel
theorem dX11_keeps_148 : decode cX11_keeps 148 = .ok (.getfield 87, 3) := by decide +kernel
theorem dX11_keeps_151 : decode cX11_keeps 151 = .ok (.iload_n 3, 1) := by decide +kernel
theorem dX11_keeps_152 : decode cX11_keeps 152 = .ok (.aload_n 0, 1) := by decide +kernel
theorem dX11_keeps_153 : decode cX11_keeps 153 = .ok (.getfield 87, 3) := by decide +kernel
theorem dX11_keeps_156 : decode cX11_keeps 156 = .ok (.iload 4, 2) := by decide +kernel
theorem dX11_keeps_158 : decode cX11_keeps 158 = .ok (.iaload, 1) := by decide +kernel
theorem dX11_keeps_159 : decode cX11_keeps 159 = .ok (.iastore, 1) := by decide +kernel
theorem dX11_keeps_160 : decode cX11_keeps 160 = .ok (.aload_n 0, 1) := by decide +kernel
theorem dX11_keeps_161 : decode cX11_keeps 161 = .ok (.getfield 90, 3) := by decide +kernel
theorem dX11_keeps_164 : decode cX11_keeps 164 = .ok (.iload_n 3, 1) := by decide +kernel
theorem dX11_keeps_165 : decode cX11_keeps 165 = .ok (.aload_n 0, 1) := by decide +kernel
theorem dX11_keeps_166 : decode cX11_keeps 166 = .ok (.getfield 90, 3) := by decide +kernel
theorem dX11_keeps_169 : decode cX11_keeps 169 = .ok (.iload 4, 2) := by decide +kernel
theorem dX11_keeps_171 : decode cX11_keeps 171 = .ok (.iaload, 1) := by decide +kernel
theorem dX11_keeps_172 : decode cX11_keeps 172 = .ok (.iastore, 1) := by decide +kernel
theorem dX11_keeps_173 : decode cX11_keeps 173 = .ok (.aload_n 0, 1) := by decide +kernel
theorem dX11_keeps_174 : decode cX11_keeps 174 = .ok (.getfield 99, 3) := by decide +kernel
theorem dX11_keeps_177 : decode cX11_keeps 177 = .ok (.iload_n 3, 1) := by decide +kernel
theorem dX11_keeps_178 : decode cX11_keeps 178 = .ok (.aload_n 0, 1) := by decide +kernel
theorem dX11_keeps_179 : decode cX11_keeps 179 = .ok (.getfield 99, 3) := by decide +kernel
theorem dX11_keeps_182 : decode cX11_keeps 182 = .ok (.iload 4, 2) := by decide +kernel
theorem dX11_keeps_184 : decode cX11_keeps 184 = .ok (.iaload, 1) := by decide +kernel
theorem dX11_keeps_185 : decode cX11_keeps 185 = .ok (.iastore, 1) := by decide +kernel
theorem dX11_keeps_186 : decode cX11_keeps 186 = .ok (.iinc 2 1, 3) := by decide +kernel
theorem dX11_keeps_189 : decode cX11_keeps 189 = .ok (.goto (-87), 3) := by decide +kernel
theorem dX11_keeps_192 : decode cX11_keeps 192 = .ok (.iconst 0, 1) := by decide +kernel
theorem dX11_keeps_193 : decode cX11_keeps 193 = .ok (.istore_n 2, 1) := by decide +kernel
theorem dX11_keeps_194 : decode cX11_keeps 194 = .ok (.iload_n 2, 1) := by decide +kernel
theorem dX11_keeps_195 : decode cX11_keeps 195 = .ok (.bipush 96, 2) := by decide +kernel
theorem dX11_keeps_197 : decode cX11_keeps 197 = .ok (.if_icmp .ge 51, 3) := by decide +kernel
theorem dX11_keeps_200 : decode cX11_keeps 200 = .ok (.aload_n 0, 1) := by decide +kernel
theorem dX11_keeps_201 : decode cX11_keeps 201 = .ok (.getfield 93, 3) := by decide +kernel
theorem dX11_keeps_204 : decode cX11_keeps 204 = .ok (.bipush 96, 2) := by decide +kernel
theorem dX11_keeps_206 : decode cX11_keeps 206 = .ok (.iload_n 1, 1) := by decide +kernel
theorem dX11_keeps_207 : decode cX11_keeps 207 = .ok (.imul, 1) := by decide +kernel
theorem dX11_keeps_208 : decode cX11_keeps 208 = .ok (.iload_n 2, 1) := by decide +kernel
theorem dX11_keeps_209 : decode cX11_keeps 209 = .ok (.iadd, 1) := by decide +kernel
theorem dX11_keeps_210 : decode cX11_keeps 210 = .ok (.aload_n 0, 1) := by decide +kernel
theorem dX11_keeps_211 : decode cX11_keeps 211 = .ok (.getfield 93, 3) := by decide +kernel
theorem dX11_keeps_214 : decode cX11_keeps 214 = .ok (.sipush 576, 3) := by decide +kernel
theorem dX11_keeps_217 : decode cX11_keeps 217 = .ok (.iload_n 2, 1) := by decide +kernel
theorem dX11_keeps_218 : decode cX11_keeps 218 = .ok (.iadd, 1) := by decide +kernel
theorem dX11_keeps_219 : decode cX11_keeps 219 = .ok (.iaload, 1) := by decide +kernel
theorem dX11_keeps_220 : decode cX11_keeps 220 = .ok (.iastore, 1) := by decide +kernel
theorem dX11_keeps_221 : decode cX11_keeps 221 = .ok (.aload_n 0, 1) := by decide +kernel
theorem dX11_keeps_222 : decode cX11_keeps 222 = .ok (.getfield 96, 3) := by decide +kernel
theorem dX11_keeps_225 : decode cX11_keeps 225 = .ok (.bipush 96, 2) := by decide +kernel
theorem dX11_keeps_227 : decode cX11_keeps 227 = .ok (.iload_n 1, 1) := by decide +kernel
theorem dX11_keeps_228 : decode cX11_keeps 228 = .ok (.imul, 1) := by decide +kernel
theorem dX11_keeps_229 : decode cX11_keeps 229 = .ok (.iload_n 2, 1) := by decide +kernel
theorem dX11_keeps_230 : decode cX11_keeps 230 = .ok (.iadd, 1) := by decide +kernel
theorem dX11_keeps_231 : decode cX11_keeps 231 = .ok (.aload_n 0, 1) := by decide +kernel
theorem dX11_keeps_232 : decode cX11_keeps 232 = .ok (.getfield 96, 3) := by decide +kernel
theorem dX11_keeps_235 : decode cX11_keeps 235 = .ok (.sipush 576, 3) := by decide +kernel
theorem dX11_keeps_238 : decode cX11_keeps 238 = .ok (.iload_n 2, 1) := by decide +kernel
theorem dX11_keeps_239 : decode cX11_keeps 239 = .ok (.iadd, 1) := by decide +kernel
theorem dX11_keeps_240 : decode cX11_keeps 240 = .ok (.baload, 1) := by decide +kernel
theorem dX11_keeps_241 : decode cX11_keeps 241 = .ok (.bastore, 1) := by decide +kernel
theorem dX11_keeps_242 : decode cX11_keeps 242 = .ok (.iinc 2 1, 3) := by decide +kernel
theorem dX11_keeps_245 : decode cX11_keeps 245 = .ok (.goto (-51), 3) := by decide +kernel
theorem dX11_keeps_248 : decode cX11_keeps 248 = .ok (.iconst 0, 1) := by decide +kernel
theorem dX11_keeps_249 : decode cX11_keeps 249 = .ok (.istore_n 2, 1) := by decide +kernel
theorem dX11_keeps_250 : decode cX11_keeps 250 = .ok (.iload_n 2, 1) := by decide +kernel
theorem dX11_keeps_251 : decode cX11_keeps 251 = .ok (.sipush 240, 3) := by decide +kernel
theorem dX11_keeps_254 : decode cX11_keeps 254 = .ok (.if_icmp .ge 75, 3) := by decide +kernel
theorem dX11_keeps_257 : decode cX11_keeps 257 = .ok (.aload_n 0, 1) := by decide +kernel
theorem dX11_keeps_258 : decode cX11_keeps 258 = .ok (.getfield 102, 3) := by decide +kernel
theorem dX11_keeps_261 : decode cX11_keeps 261 = .ok (.sipush 240, 3) := by decide +kernel
theorem dX11_keeps_264 : decode cX11_keeps 264 = .ok (.iload_n 1, 1) := by decide +kernel
theorem dX11_keeps_265 : decode cX11_keeps 265 = .ok (.imul, 1) := by decide +kernel
theorem dX11_keeps_266 : decode cX11_keeps 266 = .ok (.iload_n 2, 1) := by decide +kernel
theorem dX11_keeps_267 : decode cX11_keeps 267 = .ok (.iadd, 1) := by decide +kernel
theorem dX11_keeps_268 : decode cX11_keeps 268 = .ok (.aload_n 0, 1) := by decide +kernel
theorem dX11_keeps_269 : decode cX11_keeps 269 = .ok (.getfield 102, 3) := by decide +kernel
theorem dX11_keeps_272 : decode cX11_keeps 272 = .ok (.sipush 1440, 3) := by decide +kernel
theorem dX11_keeps_275 : decode cX11_keeps 275 = .ok (.iload_n 2, 1) := by decide +kernel
theorem dX11_keeps_276 : decode cX11_keeps 276 = .ok (.iadd, 1) := by decide +kernel
theorem dX11_keeps_277 : decode cX11_keeps 277 = .ok (.iaload, 1) := by decide +kernel
theorem dX11_keeps_278 : decode cX11_keeps 278 = .ok (.iastore, 1) := by decide +kernel
theorem dX11_keeps_279 : decode cX11_keeps 279 = .ok (.aload_n 0, 1) := by decide +kernel
theorem dX11_keeps_280 : decode cX11_keeps 280 = .ok (.getfield 105, 3) := by decide +kernel
theorem dX11_keeps_283 : decode cX11_keeps 283 = .ok (.sipush 240, 3) := by decide +kernel
theorem dX11_keeps_286 : decode cX11_keeps 286 = .ok (.iload_n 1, 1) := by decide +kernel
theorem dX11_keeps_287 : decode cX11_keeps 287 = .ok (.imul, 1) := by decide +kernel
theorem dX11_keeps_288 : decode cX11_keeps 288 = .ok (.iload_n 2, 1) := by decide +kernel
theorem dX11_keeps_289 : decode cX11_keeps 289 = .ok (.iadd, 1) := by decide +kernel
theorem dX11_keeps_290 : decode cX11_keeps 290 = .ok (.aload_n 0, 1) := by decide +kernel
theorem dX11_keeps_291 : decode cX11_keeps 291 = .ok (.getfield 105, 3) := by decide +kernel
theorem dX11_keeps_294 : decode cX11_keeps 294 = .ok (.sipush 1440, 3) := by decide +kernel
theorem dX11_keeps_297 : decode cX11_keeps 297 = .ok (.iload_n 2, 1) := by decide +kernel
theorem dX11_keeps_298 : decode cX11_keeps 298 = .ok (.iadd, 1) := by decide +kernel
theorem dX11_keeps_299 : decode cX11_keeps 299 = .ok (.iaload, 1) := by decide +kernel
theorem dX11_keeps_300 : decode cX11_keeps 300 = .ok (.iastore, 1) := by decide +kernel
theorem dX11_keeps_301 : decode cX11_keeps 301 = .ok (.aload_n 0, 1) := by decide +kernel
theorem dX11_keeps_302 : decode cX11_keeps 302 = .ok (.getfield 108, 3) := by decide +kernel
theorem dX11_keeps_305 : decode cX11_keeps 305 = .ok (.sipush 240, 3) := by decide +kernel
theorem dX11_keeps_308 : decode cX11_keeps 308 = .ok (.iload_n 1, 1) := by decide +kernel
theorem dX11_keeps_309 : decode cX11_keeps 309 = .ok (.imul, 1) := by decide +kernel
theorem dX11_keeps_310 : decode cX11_keeps 310 = .ok (.iload_n 2, 1) := by decide +kernel
theorem dX11_keeps_311 : decode cX11_keeps 311 = .ok (.iadd, 1) := by decide +kernel
theorem dX11_keeps_312 : decode cX11_keeps 312 = .ok (.aload_n 0, 1) := by decide +kernel
theorem dX11_keeps_313 : decode cX11_keeps 313 = .ok (.getfield 108, 3) := by decide +kernel
theorem dX11_keeps_316 : decode cX11_keeps 316 = .ok (.sipush 1440, 3) := by decide +kernel
theorem dX11_keeps_319 : decode cX11_keeps 319 = .ok (.iload_n 2, 1) := by decide +kernel
theorem dX11_keeps_320 : decode cX11_keeps 320 = .ok (.iadd, 1) := by decide +kernel
theorem dX11_keeps_321 : decode cX11_keeps 321 = .ok (.laload, 1) := by decide +kernel
theorem dX11_keeps_322 : decode cX11_keeps 322 = .ok (.lastore, 1) := by decide +kernel
theorem dX11_keeps_323 : decode cX11_keeps 323 = .ok (.iinc 2 1, 3) := by decide +kernel
theorem dX11_keeps_326 : decode cX11_keeps 326 = .ok (.goto (-76), 3) := by decide +kernel
theorem dX11_keeps_329 : decode cX11_keeps 329 = .ok (.iconst 0, 1) := by decide +kernel
theorem dX11_keeps_330 : decode cX11_keeps 330 = .ok (.istore_n 2, 1) := by decide +kernel
theorem dX11_keeps_331 : decode cX11_keeps 331 = .ok (.iload_n 2, 1) := by decide +kernel
theorem dX11_keeps_332 : decode cX11_keeps 332 = .ok (.aload_n 0, 1) := by decide +kernel
theorem dX11_keeps_333 : decode cX11_keeps 333 = .ok (.getfield 204, 3) := by decide +kernel
theorem dX11_keeps_336 : decode cX11_keeps 336 = .ok (.if_icmp .ge 53, 3) := by decide +kernel
theorem dX11_keeps_339 : decode cX11_keeps 339 = .ok (.aload_n 0, 1) := by decide +kernel
theorem dX11_keeps_340 : decode cX11_keeps 340 = .ok (.getfield 111, 3) := by decide +kernel
theorem dX11_keeps_343 : decode cX11_keeps 343 = .ok (.sipush 2600, 3) := by decide +kernel
theorem dX11_keeps_346 : decode cX11_keeps 346 = .ok (.iload_n 1, 1) := by decide +kernel
theorem dX11_keeps_347 : decode cX11_keeps 347 = .ok (.imul, 1) := by decide +kernel
theorem dX11_keeps_348 : decode cX11_keeps 348 = .ok (.iload_n 2, 1) := by decide +kernel
theorem dX11_keeps_349 : decode cX11_keeps 349 = .ok (.iadd, 1) := by decide +kernel
theorem dX11_keeps_350 : decode cX11_keeps 350 = .ok (.aload_n 0, 1) := by decide +kernel
theorem dX11_keeps_351 : decode cX11_keeps 351 = .ok (.getfield 111, 3) := by decide +kernel
theorem dX11_keeps_354 : decode cX11_keeps 354 = .ok (.sipush 15600, 3) := by decide +kernel
theorem dX11_keeps_357 : decode cX11_keeps 357 = .ok (.iload_n 2, 1) := by decide +kernel
theorem dX11_keeps_358 : decode cX11_keeps 358 = .ok (.iadd, 1) := by decide +kernel
theorem dX11_keeps_359 : decode cX11_keeps 359 = .ok (.iaload, 1) := by decide +kernel
theorem dX11_keeps_360 : decode cX11_keeps 360 = .ok (.iastore, 1) := by decide +kernel
theorem dX11_keeps_361 : decode cX11_keeps 361 = .ok (.aload_n 0, 1) := by decide +kernel
theorem dX11_keeps_362 : decode cX11_keeps 362 = .ok (.getfield 114, 3) := by decide +kernel
theorem dX11_keeps_365 : decode cX11_keeps 365 = .ok (.sipush 2600, 3) := by decide +kernel
theorem dX11_keeps_368 : decode cX11_keeps 368 = .ok (.iload_n 1, 1) := by decide +kernel
theorem dX11_keeps_369 : decode cX11_keeps 369 = .ok (.imul, 1) := by decide +kernel
theorem dX11_keeps_370 : decode cX11_keeps 370 = .ok (.iload_n 2, 1) := by decide +kernel
theorem dX11_keeps_371 : decode cX11_keeps 371 = .ok (.iadd, 1) := by decide +kernel
theorem dX11_keeps_372 : decode cX11_keeps 372 = .ok (.aload_n 0, 1) := by decide +kernel
theorem dX11_keeps_373 : decode cX11_keeps 373 = .ok (.getfield 114, 3) := by decide +kernel
theorem dX11_keeps_376 : decode cX11_keeps 376 = .ok (.sipush 15600, 3) := by decide +kernel
theorem dX11_keeps_379 : decode cX11_keeps 379 = .ok (.iload_n 2, 1) := by decide +kernel
theorem dX11_keeps_380 : decode cX11_keeps 380 = .ok (.iadd, 1) := by decide +kernel
theorem dX11_keeps_381 : decode cX11_keeps 381 = .ok (.iaload, 1) := by decide +kernel
theorem dX11_keeps_382 : decode cX11_keeps 382 = .ok (.iastore, 1) := by decide +kernel
theorem dX11_keeps_383 : decode cX11_keeps 383 = .ok (.iinc 2 1, 3) := by decide +kernel
theorem dX11_keeps_386 : decode cX11_keeps 386 = .ok (.goto (-55), 3) := by decide +kernel
theorem dX11_keeps_389 : decode cX11_keeps 389 = .ok (.return_, 1) := by decide +kernel
theorem dX11_takes_0 : decode cX11_takes 0 = .ok (.aload_n 0, 1) := by decide +kernel
theorem dX11_takes_1 : decode cX11_takes 1 = .ok (.iload_n 1, 1) := by decide +kernel
theorem dX11_takes_2 : decode cX11_takes 2 = .ok (.putfield 159, 3) := by decide +kernel
theorem dX11_takes_5 : decode cX11_takes 5 = .ok (.iconst 0, 1) := by decide +kernel
theorem dX11_takes_6 : decode cX11_takes 6 = .ok (.istore_n 2, 1) := by decide +kernel
theorem dX11_takes_7 : decode cX11_takes 7 = .ok (.iload_n 2, 1) := by decide +kernel
theorem dX11_takes_8 : decode cX11_takes 8 = .ok (.aload_n 0, 1) := by decide +kernel
theorem dX11_takes_9 : decode cX11_takes 9 = .ok (.getfield 62, 3) := by decide +kernel
theorem dX11_takes_12 : decode cX11_takes 12 = .ok (.iload_n 1, 1) := by decide +kernel
theorem dX11_takes_13 : decode cX11_takes 13 = .ok (.iaload, 1) := by decide +kernel
theorem dX11_takes_14 : decode cX11_takes 14 = .ok (.if_icmp .ge 26, 3) := by decide +kernel
theorem dX11_takes_17 : decode cX11_takes 17 = .ok (.aload_n 0, 1) := by decide +kernel
theorem dX11_takes_18 : decode cX11_takes 18 = .ok (.getfield 123, 3) := by decide +kernel
theorem dX11_takes_21 : decode cX11_takes 21 = .ok (.iload_n 2, 1) := by decide +kernel
theorem dX11_takes_22 : decode cX11_takes 22 = .ok (.aload_n 0, 1) := by decide +kernel
theorem dX11_takes_23 : decode cX11_takes 23 = .ok (.getfield 68, 3) := by decide +kernel
theorem dX11_takes_26 : decode cX11_takes 26 = .ok (.bipush 8, 2) := by decide +kernel
theorem dX11_takes_28 : decode cX11_takes 28 = .ok (.iload_n 1, 1) := by decide +kernel
theorem dX11_takes_29 : decode cX11_takes 29 = .ok (.imul, 1) := by decide +kernel
theorem dX11_takes_30 : decode cX11_takes 30 = .ok (.iload_n 2, 1) := by decide +kernel
theorem dX11_takes_31 : decode cX11_takes 31 = .ok (.iadd, 1) := by decide +kernel
theorem dX11_takes_32 : decode cX11_takes 32 = .ok (.iaload, 1) := by decide +kernel
theorem dX11_takes_33 : decode cX11_takes 33 = .ok (.iastore, 1) := by decide +kernel
theorem dX11_takes_34 : decode cX11_takes 34 = .ok (.iinc 2 1, 3) := by decide +kernel
theorem dX11_takes_37 : decode cX11_takes 37 = .ok (.goto (-30), 3) := by decide +kernel
theorem dX11_takes_40 : decode cX11_takes 40 = .ok (.return_, 1) := by decide +kernel
theorem dX11_take_0 : decode cX11_take 0 = .ok (.aload_n 0, 1) := by decide +kernel
theorem dX11_take_1 : decode cX11_take 1 = .ok (.iconst 0, 1) := by decide +kernel
theorem dX11_take_2 : decode cX11_take 2 = .ok (.putfield 1, 3) := by decide +kernel
theorem dX11_take_5 : decode cX11_take 5 = .ok (.iload_n 1, 1) := by decide +kernel
theorem dX11_take_6 : decode cX11_take 6 = .ok (.ifCond .lt 11, 3) := by decide +kernel
theorem dX11_take_9 : decode cX11_take 9 = .ok (.iload_n 1, 1) := by decide +kernel
theorem dX11_take_10 : decode cX11_take 10 = .ok (.aload_n 0, 1) := by decide +kernel
theorem dX11_take_11 : decode cX11_take 11 = .ok (.getfield 207, 3) := by decide +kernel
theorem dX11_take_14 : decode cX11_take 14 = .ok (.if_icmp .lt 5, 3) := by decide +kernel
theorem dX11_take_17 : decode cX11_take 17 = .ok (.iconst 0, 1) := by decide +kernel
theorem dX11_take_18 : decode cX11_take 18 = .ok (.ireturn, 1) := by decide +kernel
theorem dX11_take_19 : decode cX11_take 19 = .ok (.aload_n 0, 1) := by decide +kernel
theorem dX11_take_20 : decode cX11_take 20 = .ok (.iload_n 1, 1) := by decide +kernel
theorem dX11_take_21 : decode cX11_take 21 = .ok (.invokevirtual 222, 3) := by decide +kernel
theorem dX11_take_24 : decode cX11_take 24 = .ok (.iconst 1, 1) := by decide +kernel
theorem dX11_take_25 : decode cX11_take 25 = .ok (.ireturn, 1) := by decide +kernel
theorem dX11_inForce_0 : decode cX11_inForce 0 = .ok (.aload_n 0, 1) := by decide +kernel
theorem dX11_inForce_1 : decode cX11_inForce 1 = .ok (.iconst 0, 1) := by decide +kernel
theorem dX11_inForce_2 : decode cX11_inForce 2 = .ok (.putfield 1, 3) := by decide +kernel
theorem dX11_inForce_5 : decode cX11_inForce 5 = .ok (.iconst (-1), 1) := by decide +kernel
theorem dX11_inForce_6 : decode cX11_inForce 6 = .ok (.istore_n 2, 1) := by decide +kernel
theorem dX11_inForce_7 : decode cX11_inForce 7 = .ok (.iconst 0, 1) := by decide +kernel
theorem dX11_inForce_8 : decode cX11_inForce 8 = .ok (.istore_n 3, 1) := by decide +kernel
theorem dX11_inForce_9 : decode cX11_inForce 9 = .ok (.iload_n 3, 1) := by decide +kernel
theorem dX11_inForce_10 : decode cX11_inForce 10 = .ok (.aload_n 0, 1) := by decide +kernel
theorem dX11_inForce_11 : decode cX11_inForce 11 = .ok (.getfield 207, 3) := by decide +kernel
theorem dX11_inForce_14 : decode cX11_inForce 14 = .ok (.if_icmp .ge 36, 3) := by decide +kernel
theorem dX11_inForce_17 : decode cX11_inForce 17 = .ok (.iload_n 1, 1) := by decide +kernel
theorem dX11_inForce_18 : decode cX11_inForce 18 = .ok (.ifCond .lt 32, 3) := by decide +kernel
theorem dX11_inForce_21 : decode cX11_inForce 21 = .ok (.iload_n 1, 1) := by decide +kernel
theorem dX11_inForce_22 : decode cX11_inForce 22 = .ok (.sipush 9999, 3) := by decide +kernel
theorem dX11_inForce_25 : decode cX11_inForce 25 = .ok (.if_icmp .gt 25, 3) := by decide +kernel
theorem dX11_inForce_28 : decode cX11_inForce 28 = .ok (.aload_n 0, 1) := by decide +kernel
theorem dX11_inForce_29 : decode cX11_inForce 29 = .ok (.getfield 59, 3) := by decide +kernel
theorem dX11_inForce_32 : decode cX11_inForce 32 = .ok (.iload_n 3, 1) := by decide +kernel
theorem dX11_inForce_33 : decode cX11_inForce 33 = .ok (.iaload, 1) := by decide +kernel
theorem dX11_inForce_34 : decode cX11_inForce 34 = .ok (.iload_n 1, 1) := by decide +kernel
theorem dX11_inForce_35 : decode cX11_inForce 35 = .ok (.if_icmp .gt 7, 3) := by decide +kernel
theorem dX11_inForce_38 : decode cX11_inForce 38 = .ok (.iload_n 3, 1) := by decide +kernel
theorem dX11_inForce_39 : decode cX11_inForce 39 = .ok (.goto 4, 3) := by decide +kernel
theorem dX11_inForce_42 : decode cX11_inForce 42 = .ok (.iload_n 2, 1) := by decide +kernel
theorem dX11_inForce_43 : decode cX11_inForce 43 = .ok (.istore_n 2, 1) := by decide +kernel
theorem dX11_inForce_44 : decode cX11_inForce 44 = .ok (.iinc 3 1, 3) := by decide +kernel
theorem dX11_inForce_47 : decode cX11_inForce 47 = .ok (.goto (-38), 3) := by decide +kernel
theorem dX11_inForce_50 : decode cX11_inForce 50 = .ok (.iload_n 2, 1) := by decide +kernel
theorem dX11_inForce_51 : decode cX11_inForce 51 = .ok (.ifCond .lt 8, 3) := by decide +kernel
theorem dX11_inForce_54 : decode cX11_inForce 54 = .ok (.aload_n 0, 1) := by decide +kernel
theorem dX11_inForce_55 : decode cX11_inForce 55 = .ok (.iload_n 2, 1) := by decide +kernel
theorem dX11_inForce_56 : decode cX11_inForce 56 = .ok (.invokevirtual 222, 3) := by decide +kernel
theorem dX11_inForce_59 : decode cX11_inForce 59 = .ok (.iload_n 2, 1) := by decide +kernel
theorem dX11_inForce_60 : decode cX11_inForce 60 = .ok (.ireturn, 1) := by decide +kernel
theorem dX11_fact_0 : decode cX11_fact 0 = .ok (.aload_n 0, 1) := by decide +kernel
theorem dX11_fact_1 : decode cX11_fact 1 = .ok (.iconst 0, 1) := by decide +kernel
theorem dX11_fact_2 : decode cX11_fact 2 = .ok (.putfield 1, 3) := by decide +kernel
theorem dX11_fact_5 : decode cX11_fact 5 = .ok (.aload_n 0, 1) := by decide +kernel
theorem dX11_fact_6 : decode cX11_fact 6 = .ok (.getfield 159, 3) := by decide +kernel
theorem dX11_fact_9 : decode cX11_fact 9 = .ok (.ifCond .lt 56, 3) := by decide +kernel
theorem dX11_fact_12 : decode cX11_fact 12 = .ok (.iload_n 1, 1) := by decide +kernel
theorem dX11_fact_13 : decode cX11_fact 13 = .ok (.ifCond .lt 52, 3) := by decide +kernel
theorem dX11_fact_16 : decode cX11_fact 16 = .ok (.iload_n 1, 1) := by decide +kernel
theorem dX11_fact_17 : decode cX11_fact 17 = .ok (.aload_n 0, 1) := by decide +kernel
theorem dX11_fact_18 : decode cX11_fact 18 = .ok (.getfield 62, 3) := by decide +kernel
theorem dX11_fact_21 : decode cX11_fact 21 = .ok (.aload_n 0, 1) := by decide +kernel
theorem dX11_fact_22 : decode cX11_fact 22 = .ok (.getfield 159, 3) := by decide +kernel
theorem dX11_fact_25 : decode cX11_fact 25 = .ok (.iaload, 1) := by decide +kernel
theorem dX11_fact_26 : decode cX11_fact 26 = .ok (.if_icmp .ge 39, 3) := by decide +kernel
theorem dX11_fact_29 : decode cX11_fact 29 = .ok (.iload_n 2, 1) := by decide +kernel
theorem dX11_fact_30 : decode cX11_fact 30 = .ok (.aload_n 0, 1) := by decide +kernel
theorem dX11_fact_31 : decode cX11_fact 31 = .ok (.getfield 68, 3) := by decide +kernel
theorem dX11_fact_34 : decode cX11_fact 34 = .ok (.bipush 8, 2) := by decide +kernel
theorem dX11_fact_36 : decode cX11_fact 36 = .ok (.aload_n 0, 1) := by decide +kernel
theorem dX11_fact_37 : decode cX11_fact 37 = .ok (.getfield 159, 3) := by decide +kernel
theorem dX11_fact_40 : decode cX11_fact 40 = .ok (.imul, 1) := by decide +kernel
theorem dX11_fact_41 : decode cX11_fact 41 = .ok (.iload_n 1, 1) := by decide +kernel
theorem dX11_fact_42 : decode cX11_fact 42 = .ok (.iadd, 1) := by decide +kernel
theorem dX11_fact_43 : decode cX11_fact 43 = .ok (.iaload, 1) := by decide +kernel
theorem dX11_fact_44 : decode cX11_fact 44 = .ok (.if_icmp .lt 21, 3) := by decide +kernel
theorem dX11_fact_47 : decode cX11_fact 47 = .ok (.iload_n 2, 1) := by decide +kernel
theorem dX11_fact_48 : decode cX11_fact 48 = .ok (.aload_n 0, 1) := by decide +kernel
theorem dX11_fact_49 : decode cX11_fact 49 = .ok (.getfield 71, 3) := by decide +kernel
theorem dX11_fact_52 : decode cX11_fact 52 = .ok (.bipush 8, 2) := by decide +kernel
theorem dX11_fact_54 : decode cX11_fact 54 = .ok (.aload_n 0, 1) := by decide +kernel
theorem dX11_fact_55 : decode cX11_fact 55 = .ok (.getfield 159, 3) := by decide +kernel
theorem dX11_fact_58 : decode cX11_fact 58 = .ok (.imul, 1) := by decide +kernel
theorem dX11_fact_59 : decode cX11_fact 59 = .ok (.iload_n 1, 1) := by decide +kernel
theorem dX11_fact_60 : decode cX11_fact 60 = .ok (.iadd, 1) := by decide +kernel
theorem dX11_fact_61 : decode cX11_fact 61 = .ok (.iaload, 1) := by decide +kernel
theorem dX11_fact_62 : decode cX11_fact 62 = .ok (.if_icmp .le 5, 3) := by decide +kernel
theorem dX11_fact_65 : decode cX11_fact 65 = .ok (.iconst 0, 1) := by decide +kernel
theorem dX11_fact_66 : decode cX11_fact 66 = .ok (.ireturn, 1) := by decide +kernel
theorem dX11_fact_67 : decode cX11_fact 67 = .ok (.aload_n 0, 1) := by decide +kernel
theorem dX11_fact_68 : decode cX11_fact 68 = .ok (.getfield 123, 3) := by decide +kernel
theorem dX11_fact_71 : decode cX11_fact 71 = .ok (.iload_n 1, 1) := by decide +kernel
theorem dX11_fact_72 : decode cX11_fact 72 = .ok (.iload_n 2, 1) := by decide +kernel
theorem dX11_fact_73 : decode cX11_fact 73 = .ok (.iastore, 1) := by decide +kernel
theorem dX11_fact_74 : decode cX11_fact 74 = .ok (.iconst 1, 1) := by decide +kernel
theorem dX11_fact_75 : decode cX11_fact 75 = .ok (.ireturn, 1) := by decide +kernel
theorem dX11_comes_0 : decode cX11_comes 0 = .ok (.iload_n 2, 1) := by decide +kernel
theorem dX11_comes_1 : decode cX11_comes 1 = .ok (.istore_n 3, 1) := by decide +kernel
theorem dX11_comes_2 : decode cX11_comes 2 = .ok (.aload_n 0, 1) := by decide +kernel
theorem dX11_comes_3 : decode cX11_comes 3 = .ok (.getfield 62, 3) := by decide +kernel
theorem dX11_comes_6 : decode cX11_comes 6 = .ok (.iload_n 1, 1) := by decide +kernel
theorem dX11_comes_7 : decode cX11_comes 7 = .ok (.iaload, 1) := by decide +kernel
theorem dX11_comes_8 : decode cX11_comes 8 = .ok (.iconst 1, 1) := by decide +kernel
theorem dX11_comes_9 : decode cX11_comes 9 = .ok (.isub, 1) := by decide +kernel
theorem dX11_comes_10 : decode cX11_comes 10 = .ok (.istore 4, 2) := by decide +kernel
theorem dX11_comes_12 : decode cX11_comes 12 = .ok (.iload 4, 2) := by decide +kernel
theorem dX11_comes_14 : decode cX11_comes 14 = .ok (.ifCond .lt 67, 3) := by decide +kernel
theorem dX11_comes_17 : decode cX11_comes 17 = .ok (.aload_n 0, 1) := by decide +kernel
theorem dX11_comes_18 : decode cX11_comes 18 = .ok (.getfield 71, 3) := by decide +kernel
theorem dX11_comes_21 : decode cX11_comes 21 = .ok (.bipush 8, 2) := by decide +kernel
theorem dX11_comes_23 : decode cX11_comes 23 = .ok (.iload_n 1, 1) := by decide +kernel
theorem dX11_comes_24 : decode cX11_comes 24 = .ok (.imul, 1) := by decide +kernel
theorem dX11_comes_25 : decode cX11_comes 25 = .ok (.iload 4, 2) := by decide +kernel
theorem dX11_comes_27 : decode cX11_comes 27 = .ok (.iadd, 1) := by decide +kernel
theorem dX11_comes_28 : decode cX11_comes 28 = .ok (.iaload, 1) := by decide +kernel
theorem dX11_comes_29 : decode cX11_comes 29 = .ok (.aload_n 0, 1) := by decide +kernel
theorem dX11_comes_30 : decode cX11_comes 30 = .ok (.getfield 68, 3) := by decide +kernel
theorem dX11_comes_33 : decode cX11_comes 33 = .ok (.bipush 8, 2) := by decide +kernel
theorem dX11_comes_35 : decode cX11_comes 35 = .ok (.iload_n 1, 1) := by decide +kernel
theorem dX11_comes_36 : decode cX11_comes 36 = .ok (.imul, 1) := by decide +kernel
theorem dX11_comes_37 : decode cX11_comes 37 = .ok (.iload 4, 2) := by decide +kernel
theorem dX11_comes_39 : decode cX11_comes 39 = .ok (.iadd, 1) := by decide +kernel
theorem dX11_comes_40 : decode cX11_comes 40 = .ok (.iaload, 1) := by decide +kernel
theorem dX11_comes_41 : decode cX11_comes 41 = .ok (.isub, 1) := by decide +kernel
theorem dX11_comes_42 : decode cX11_comes 42 = .ok (.iconst 1, 1) := by decide +kernel
theorem dX11_comes_43 : decode cX11_comes 43 = .ok (.iadd, 1) := by decide +kernel
theorem dX11_comes_44 : decode cX11_comes 44 = .ok (.istore 5, 2) := by decide +kernel
theorem dX11_comes_46 : decode cX11_comes 46 = .ok (.aload_n 0, 1) := by decide +kernel
theorem dX11_comes_47 : decode cX11_comes 47 = .ok (.getfield 123, 3) := by decide +kernel
theorem dX11_comes_50 : decode cX11_comes 50 = .ok (.iload 4, 2) := by decide +kernel
theorem dX11_comes_52 : decode cX11_comes 52 = .ok (.aload_n 0, 1) := by decide +kernel
theorem dX11_comes_53 : decode cX11_comes 53 = .ok (.getfield 68, 3) := by decide +kernel
theorem dX11_comes_56 : decode cX11_comes 56 = .ok (.bipush 8, 2) := by decide +kernel
theorem dX11_comes_58 : decode cX11_comes 58 = .ok (.iload_n 1, 1) := by decide +kernel
theorem dX11_comes_59 : decode cX11_comes 59 = .ok (.imul, 1) := by decide +kernel
theorem dX11_comes_60 : decode cX11_comes 60 = .ok (.iload 4, 2) := by decide +kernel
theorem dX11_comes_62 : decode cX11_comes 62 = .ok (.iadd, 1) := by decide +kernel
theorem dX11_comes_63 : decode cX11_comes 63 = .ok (.iaload, 1) := by decide +kernel
theorem dX11_comes_64 : decode cX11_comes 64 = .ok (.iload_n 3, 1) := by decide +kernel
theorem dX11_comes_65 : decode cX11_comes 65 = .ok (.iload 5, 2) := by decide +kernel
theorem dX11_comes_67 : decode cX11_comes 67 = .ok (.irem, 1) := by decide +kernel
theorem dX11_comes_68 : decode cX11_comes 68 = .ok (.iadd, 1) := by decide +kernel
theorem dX11_comes_69 : decode cX11_comes 69 = .ok (.iastore, 1) := by decide +kernel
theorem dX11_comes_70 : decode cX11_comes 70 = .ok (.iload_n 3, 1) := by decide +kernel
theorem dX11_comes_71 : decode cX11_comes 71 = .ok (.iload 5, 2) := by decide +kernel
theorem dX11_comes_73 : decode cX11_comes 73 = .ok (.idiv, 1) := by decide +kernel
theorem dX11_comes_74 : decode cX11_comes 74 = .ok (.istore_n 3, 1) := by decide +kernel
theorem dX11_comes_75 : decode cX11_comes 75 = .ok (.iinc 4 (-1), 3) := by decide +kernel
theorem dX11_comes_78 : decode cX11_comes 78 = .ok (.goto (-66), 3) := by decide +kernel
theorem dX11_comes_81 : decode cX11_comes 81 = .ok (.return_, 1) := by decide +kernel
theorem dX11_worldNow_0 : decode cX11_worldNow 0 = .ok (.iconst 0, 1) := by decide +kernel
theorem dX11_worldNow_1 : decode cX11_worldNow 1 = .ok (.istore_n 1, 1) := by decide +kernel
theorem dX11_worldNow_2 : decode cX11_worldNow 2 = .ok (.bipush 8, 2) := by decide +kernel
theorem dX11_worldNow_4 : decode cX11_worldNow 4 = .ok (.aload_n 0, 1) := by decide +kernel
theorem dX11_worldNow_5 : decode cX11_worldNow 5 = .ok (.getfield 159, 3) := by decide +kernel
theorem dX11_worldNow_8 : decode cX11_worldNow 8 = .ok (.imul, 1) := by decide +kernel
theorem dX11_worldNow_9 : decode cX11_worldNow 9 = .ok (.istore_n 2, 1) := by decide +kernel
theorem dX11_worldNow_10 : decode cX11_worldNow 10 = .ok (.iload_n 2, 1) := by decide +kernel
theorem dX11_worldNow_11 : decode cX11_worldNow 11 = .ok (.bipush 8, 2) := by decide +kernel
theorem dX11_worldNow_13 : decode cX11_worldNow 13 = .ok (.aload_n 0, 1) := by decide +kernel
theorem dX11_worldNow_14 : decode cX11_worldNow 14 = .ok (.getfield 159, 3) := by decide +kernel
theorem dX11_worldNow_17 : decode cX11_worldNow 17 = .ok (.imul, 1) := by decide +kernel
theorem dX11_worldNow_18 : decode cX11_worldNow 18 = .ok (.aload_n 0, 1) := by decide +kernel
theorem dX11_worldNow_19 : decode cX11_worldNow 19 = .ok (.getfield 62, 3) := by decide +kernel
theorem dX11_worldNow_22 : decode cX11_worldNow 22 = .ok (.aload_n 0, 1) := by decide +kernel
theorem dX11_worldNow_23 : decode cX11_worldNow 23 = .ok (.getfield 159, 3) := by decide +kernel
theorem dX11_worldNow_26 : decode cX11_worldNow 26 = .ok (.iaload, 1) := by decide +kernel
theorem dX11_worldNow_27 : decode cX11_worldNow 27 = .ok (.iadd, 1) := by decide +kernel
theorem dX11_worldNow_28 : decode cX11_worldNow 28 = .ok (.if_icmp .ge 49, 3) := by decide +kernel
theorem dX11_worldNow_31 : decode cX11_worldNow 31 = .ok (.iload_n 1, 1) := by decide +kernel
theorem dX11_worldNow_32 : decode cX11_worldNow 32 = .ok (.aload_n 0, 1) := by decide +kernel
theorem dX11_worldNow_33 : decode cX11_worldNow 33 = .ok (.getfield 71, 3) := by decide +kernel
theorem dX11_worldNow_36 : decode cX11_worldNow 36 = .ok (.iload_n 2, 1) := by decide +kernel
theorem dX11_worldNow_37 : decode cX11_worldNow 37 = .ok (.iaload, 1) := by decide +kernel
theorem dX11_worldNow_38 : decode cX11_worldNow 38 = .ok (.aload_n 0, 1) := by decide +kernel
theorem dX11_worldNow_39 : decode cX11_worldNow 39 = .ok (.getfield 68, 3) := by decide +kernel
theorem dX11_worldNow_42 : decode cX11_worldNow 42 = .ok (.iload_n 2, 1) := by decide +kernel
theorem dX11_worldNow_43 : decode cX11_worldNow 43 = .ok (.iaload, 1) := by decide +kernel
theorem dX11_worldNow_44 : decode cX11_worldNow 44 = .ok (.isub, 1) := by decide +kernel
theorem dX11_worldNow_45 : decode cX11_worldNow 45 = .ok (.iconst 1, 1) := by decide +kernel
theorem dX11_worldNow_46 : decode cX11_worldNow 46 = .ok (.iadd, 1) := by decide +kernel
theorem dX11_worldNow_47 : decode cX11_worldNow 47 = .ok (.imul, 1) := by decide +kernel
theorem dX11_worldNow_48 : decode cX11_worldNow 48 = .ok (.aload_n 0, 1) := by decide +kernel
theorem dX11_worldNow_49 : decode cX11_worldNow 49 = .ok (.getfield 123, 3) := by decide +kernel
theorem dX11_worldNow_52 : decode cX11_worldNow 52 = .ok (.iload_n 2, 1) := by decide +kernel
theorem dX11_worldNow_53 : decode cX11_worldNow 53 = .ok (.bipush 8, 2) := by decide +kernel
theorem dX11_worldNow_55 : decode cX11_worldNow 55 = .ok (.aload_n 0, 1) := by decide +kernel
theorem dX11_worldNow_56 : decode cX11_worldNow 56 = .ok (.getfield 159, 3) := by decide +kernel
theorem dX11_worldNow_59 : decode cX11_worldNow 59 = .ok (.imul, 1) := by decide +kernel
theorem dX11_worldNow_60 : decode cX11_worldNow 60 = .ok (.isub, 1) := by decide +kernel
theorem dX11_worldNow_61 : decode cX11_worldNow 61 = .ok (.iaload, 1) := by decide +kernel
theorem dX11_worldNow_62 : decode cX11_worldNow 62 = .ok (.iadd, 1) := by decide +kernel
theorem dX11_worldNow_63 : decode cX11_worldNow 63 = .ok (.aload_n 0, 1) := by decide +kernel
theorem dX11_worldNow_64 : decode cX11_worldNow 64 = .ok (.getfield 68, 3) := by decide +kernel
theorem dX11_worldNow_67 : decode cX11_worldNow 67 = .ok (.iload_n 2, 1) := by decide +kernel
theorem dX11_worldNow_68 : decode cX11_worldNow 68 = .ok (.iaload, 1) := by decide +kernel
theorem dX11_worldNow_69 : decode cX11_worldNow 69 = .ok (.isub, 1) := by decide +kernel
theorem dX11_worldNow_70 : decode cX11_worldNow 70 = .ok (.istore_n 1, 1) := by decide +kernel
theorem dX11_worldNow_71 : decode cX11_worldNow 71 = .ok (.iinc 2 1, 3) := by decide +kernel
theorem dX11_worldNow_74 : decode cX11_worldNow 74 = .ok (.goto (-64), 3) := by decide +kernel
theorem dX11_worldNow_77 : decode cX11_worldNow 77 = .ok (.iload_n 1, 1) := by decide +kernel
theorem dX11_worldNow_78 : decode cX11_worldNow 78 = .ok (.ireturn, 1) := by decide +kernel
theorem dX11_world_0 : decode cX11_world 0 = .ok (.aload_n 0, 1) := by decide +kernel
theorem dX11_world_1 : decode cX11_world 1 = .ok (.iconst 0, 1) := by decide +kernel
theorem dX11_world_2 : decode cX11_world 2 = .ok (.putfield 1, 3) := by decide +kernel
theorem dX11_world_5 : decode cX11_world 5 = .ok (.aload_n 0, 1) := by decide +kernel
theorem dX11_world_6 : decode cX11_world 6 = .ok (.getfield 159, 3) := by decide +kernel
theorem dX11_world_9 : decode cX11_world 9 = .ok (.ifCond .lt 21, 3) := by decide +kernel
theorem dX11_world_12 : decode cX11_world 12 = .ok (.iload_n 1, 1) := by decide +kernel
theorem dX11_world_13 : decode cX11_world 13 = .ok (.ifCond .lt 17, 3) := by decide +kernel
theorem dX11_world_16 : decode cX11_world 16 = .ok (.iload_n 1, 1) := by decide +kernel
theorem dX11_world_17 : decode cX11_world 17 = .ok (.i2l, 1) := by decide +kernel
theorem dX11_world_18 : decode cX11_world 18 = .ok (.aload_n 0, 1) := by decide +kernel
theorem dX11_world_19 : decode cX11_world 19 = .ok (.aload_n 0, 1) := by decide +kernel
theorem dX11_world_20 : decode cX11_world 20 = .ok (.getfield 159, 3) := by decide +kernel
theorem dX11_world_23 : decode cX11_world 23 = .ok (.invokevirtual 242, 3) := by decide +kernel
theorem dX11_world_26 : decode cX11_world 26 = .ok (.lcmp, 1) := by decide +kernel
theorem dX11_world_27 : decode cX11_world 27 = .ok (.ifCond .lt 5, 3) := by decide +kernel
theorem dX11_world_30 : decode cX11_world 30 = .ok (.iconst 0, 1) := by decide +kernel
theorem dX11_world_31 : decode cX11_world 31 = .ok (.ireturn, 1) := by decide +kernel
theorem dX11_world_32 : decode cX11_world 32 = .ok (.aload_n 0, 1) := by decide +kernel
theorem dX11_world_33 : decode cX11_world 33 = .ok (.aload_n 0, 1) := by decide +kernel
theorem dX11_world_34 : decode cX11_world 34 = .ok (.getfield 159, 3) := by decide +kernel
theorem dX11_world_37 : decode cX11_world 37 = .ok (.iload_n 1, 1) := by decide +kernel
theorem dX11_world_38 : decode cX11_world 38 = .ok (.invokevirtual 289, 3) := by decide +kernel
theorem dX11_world_41 : decode cX11_world 41 = .ok (.iconst 1, 1) := by decide +kernel
theorem dX11_world_42 : decode cX11_world 42 = .ok (.ireturn, 1) := by decide +kernel
theorem dX11_free_0 : decode cX11_free 0 = .ok (.aload_n 0, 1) := by decide +kernel
theorem dX11_free_1 : decode cX11_free 1 = .ok (.iconst 0, 1) := by decide +kernel
theorem dX11_free_2 : decode cX11_free 2 = .ok (.putfield 1, 3) := by decide +kernel
theorem dX11_free_5 : decode cX11_free 5 = .ok (.iload_n 1, 1) := by decide +kernel
theorem dX11_free_6 : decode cX11_free 6 = .ok (.ifCond .lt 33, 3) := by decide +kernel
theorem dX11_free_9 : decode cX11_free 9 = .ok (.iload_n 1, 1) := by decide +kernel
theorem dX11_free_10 : decode cX11_free 10 = .ok (.sipush 9999, 3) := by decide +kernel
theorem dX11_free_13 : decode cX11_free 13 = .ok (.if_icmp .gt 26, 3) := by decide +kernel
theorem dX11_free_16 : decode cX11_free 16 = .ok (.aload_n 0, 1) := by decide +kernel
theorem dX11_free_17 : decode cX11_free 17 = .ok (.getfield 126, 3) := by decide +kernel
theorem dX11_free_20 : decode cX11_free 20 = .ok (.iload_n 1, 1) := by decide +kernel
theorem dX11_free_21 : decode cX11_free 21 = .ok (.baload, 1) := by decide +kernel
theorem dX11_free_22 : decode cX11_free 22 = .ok (.iload_n 2, 1) := by decide +kernel
theorem dX11_free_23 : decode cX11_free 23 = .ok (.if_icmp .eq 16, 3) := by decide +kernel
theorem dX11_free_26 : decode cX11_free 26 = .ok (.iload_n 2, 1) := by decide +kernel
theorem dX11_free_27 : decode cX11_free 27 = .ok (.ifCond .eq 14, 3) := by decide +kernel
theorem dX11_free_30 : decode cX11_free 30 = .ok (.aload_n 0, 1) := by decide +kernel
theorem dX11_free_31 : decode cX11_free 31 = .ok (.getfield 292, 3) := by decide +kernel
theorem dX11_free_34 : decode cX11_free 34 = .ok (.bipush 40, 2) := by decide +kernel
theorem dX11_free_36 : decode cX11_free 36 = .ok (.if_icmp .ne 5, 3) := by decide +kernel
theorem dX11_free_39 : decode cX11_free 39 = .ok (.iconst 0, 1) := by decide +kernel
theorem dX11_free_40 : decode cX11_free 40 = .ok (.ireturn, 1) := by decide +kernel
theorem dX11_free_41 : decode cX11_free 41 = .ok (.aload_n 0, 1) := by decide +kernel
theorem dX11_free_42 : decode cX11_free 42 = .ok (.getfield 126, 3) := by decide +kernel
theorem dX11_free_45 : decode cX11_free 45 = .ok (.iload_n 1, 1) := by decide +kernel
theorem dX11_free_46 : decode cX11_free 46 = .ok (.iload_n 2, 1) := by decide +kernel
theorem dX11_free_47 : decode cX11_free 47 = .ok (.bastore, 1) := by decide +kernel
theorem dX11_free_48 : decode cX11_free 48 = .ok (.aload_n 0, 1) := by decide +kernel
theorem dX11_free_49 : decode cX11_free 49 = .ok (.dup, 1) := by decide +kernel
theorem dX11_free_50 : decode cX11_free 50 = .ok (.getfield 292, 3) := by decide +kernel
theorem dX11_free_53 : decode cX11_free 53 = .ok (.iload_n 2, 1) := by decide +kernel
theorem dX11_free_54 : decode cX11_free 54 = .ok (.ifCond .eq 7, 3) := by decide +kernel
theorem dX11_free_57 : decode cX11_free 57 = .ok (.iconst 1, 1) := by decide +kernel
theorem dX11_free_58 : decode cX11_free 58 = .ok (.goto 4, 3) := by decide +kernel
theorem dX11_free_61 : decode cX11_free 61 = .ok (.iconst (-1), 1) := by decide +kernel
theorem dX11_free_62 : decode cX11_free 62 = .ok (.iadd, 1) := by decide +kernel
theorem dX11_free_63 : decode cX11_free 63 = .ok (.putfield 292, 3) := by decide +kernel
theorem dX11_free_66 : decode cX11_free 66 = .ok (.iconst 1, 1) := by decide +kernel
theorem dX11_free_67 : decode cX11_free 67 = .ok (.ireturn, 1) := by decide +kernel
theorem dX11_isWorking_0 : decode cX11_isWorking 0 = .ok (.iload_n 1, 1) := by decide +kernel
theorem dX11_isWorking_1 : decode cX11_isWorking 1 = .ok (.bipush 7, 2) := by decide +kernel
theorem dX11_isWorking_3 : decode cX11_isWorking 3 = .ok (.irem, 1) := by decide +kernel
theorem dX11_isWorking_4 : decode cX11_isWorking 4 = .ok (.iconst 5, 1) := by decide +kernel
theorem dX11_isWorking_5 : decode cX11_isWorking 5 = .ok (.if_icmp .ge 16, 3) := by decide +kernel
theorem dX11_isWorking_8 : decode cX11_isWorking 8 = .ok (.aload_n 0, 1) := by decide +kernel
theorem dX11_isWorking_9 : decode cX11_isWorking 9 = .ok (.getfield 126, 3) := by decide +kernel
theorem dX11_isWorking_12 : decode cX11_isWorking 12 = .ok (.iload_n 1, 1) := by decide +kernel
theorem dX11_isWorking_13 : decode cX11_isWorking 13 = .ok (.baload, 1) := by decide +kernel
theorem dX11_isWorking_14 : decode cX11_isWorking 14 = .ok (.ifCond .ne 7, 3) := by decide +kernel
theorem dX11_isWorking_17 : decode cX11_isWorking 17 = .ok (.iconst 1, 1) := by decide +kernel
theorem dX11_isWorking_18 : decode cX11_isWorking 18 = .ok (.goto 4, 3) := by decide +kernel
theorem dX11_isWorking_21 : decode cX11_isWorking 21 = .ok (.iconst 0, 1) := by decide +kernel
theorem dX11_isWorking_22 : decode cX11_isWorking 22 = .ok (.ireturn, 1) := by decide +kernel
theorem dX11_workingIn_0 : decode cX11_workingIn 0 = .ok (.iconst 0, 1) := by decide +kernel
theorem dX11_workingIn_1 : decode cX11_workingIn 1 = .ok (.istore_n 3, 1) := by decide +kernel
theorem dX11_workingIn_2 : decode cX11_workingIn 2 = .ok (.iload_n 1, 1) := by decide +kernel
theorem dX11_workingIn_3 : decode cX11_workingIn 3 = .ok (.iconst 1, 1) := by decide +kernel
theorem dX11_workingIn_4 : decode cX11_workingIn 4 = .ok (.iadd, 1) := by decide +kernel
theorem dX11_workingIn_5 : decode cX11_workingIn 5 = .ok (.istore 4, 2) := by decide +kernel
theorem dX11_workingIn_7 : decode cX11_workingIn 7 = .ok (.iload 4, 2) := by decide +kernel
theorem dX11_workingIn_9 : decode cX11_workingIn 9 = .ok (.iload_n 2, 1) := by decide +kernel
theorem dX11_workingIn_10 : decode cX11_workingIn 10 = .ok (.if_icmp .gt 26, 3) := by decide +kernel
theorem dX11_workingIn_13 : decode cX11_workingIn 13 = .ok (.iload_n 3, 1) := by decide +kernel
theorem dX11_workingIn_14 : decode cX11_workingIn 14 = .ok (.aload_n 0, 1) := by decide +kernel
theorem dX11_workingIn_15 : decode cX11_workingIn 15 = .ok (.iload 4, 2) := by decide +kernel
theorem dX11_workingIn_17 : decode cX11_workingIn 17 = .ok (.invokevirtual 295, 3) := by decide +kernel
theorem dX11_workingIn_20 : decode cX11_workingIn 20 = .ok (.ifCond .eq 7, 3) := by decide +kernel
theorem dX11_workingIn_23 : decode cX11_workingIn 23 = .ok (.iconst 1, 1) := by decide +kernel
theorem dX11_workingIn_24 : decode cX11_workingIn 24 = .ok (.goto 4, 3) := by decide +kernel
theorem dX11_workingIn_27 : decode cX11_workingIn 27 = .ok (.iconst 0, 1) := by decide +kernel
theorem dX11_workingIn_28 : decode cX11_workingIn 28 = .ok (.iadd, 1) := by decide +kernel
theorem dX11_workingIn_29 : decode cX11_workingIn 29 = .ok (.istore_n 3, 1) := by decide +kernel
theorem dX11_workingIn_30 : decode cX11_workingIn 30 = .ok (.iinc 4 1, 3) := by decide +kernel
theorem dX11_workingIn_33 : decode cX11_workingIn 33 = .ok (.goto (-26), 3) := by decide +kernel
theorem dX11_workingIn_36 : decode cX11_workingIn 36 = .ok (.iload_n 3, 1) := by decide +kernel
theorem dX11_workingIn_37 : decode cX11_workingIn 37 = .ok (.ireturn, 1) := by decide +kernel
theorem dX11_working_0 : decode cX11_working 0 = .ok (.aload_n 0, 1) := by decide +kernel
theorem dX11_working_1 : decode cX11_working 1 = .ok (.iconst 0, 1) := by decide +kernel
theorem dX11_working_2 : decode cX11_working 2 = .ok (.putfield 1, 3) := by decide +kernel
theorem dX11_working_5 : decode cX11_working 5 = .ok (.iload_n 1, 1) := by decide +kernel
theorem dX11_working_6 : decode cX11_working 6 = .ok (.ifCond .lt 15, 3) := by decide +kernel
theorem dX11_working_9 : decode cX11_working 9 = .ok (.iload_n 2, 1) := by decide +kernel
theorem dX11_working_10 : decode cX11_working 10 = .ok (.sipush 9999, 3) := by decide +kernel
theorem dX11_working_13 : decode cX11_working 13 = .ok (.if_icmp .gt 8, 3) := by decide +kernel
theorem dX11_working_16 : decode cX11_working 16 = .ok (.iload_n 1, 1) := by decide +kernel
theorem dX11_working_17 : decode cX11_working 17 = .ok (.iload_n 2, 1) := by decide +kernel
theorem dX11_working_18 : decode cX11_working 18 = .ok (.if_icmp .le 7, 3) := by decide +kernel
theorem dX11_working_21 : decode cX11_working 21 = .ok (.iconst (-1), 1) := by decide +kernel
theorem dX11_working_22 : decode cX11_working 22 = .ok (.goto 9, 3) := by decide +kernel
theorem dX11_working_25 : decode cX11_working 25 = .ok (.aload_n 0, 1) := by decide +kernel
theorem dX11_working_26 : decode cX11_working 26 = .ok (.iload_n 1, 1) := by decide +kernel
theorem dX11_working_27 : decode cX11_working 27 = .ok (.iload_n 2, 1) := by decide +kernel
theorem dX11_working_28 : decode cX11_working 28 = .ok (.invokevirtual 298, 3) := by decide +kernel
theorem dX11_working_31 : decode cX11_working 31 = .ok (.ireturn, 1) := by decide +kernel
theorem dX11_findBehind_0 : decode cX11_findBehind 0 = .ok (.aload_n 0, 1) := by decide +kernel
theorem dX11_findBehind_1 : decode cX11_findBehind 1 = .ok (.iconst 0, 1) := by decide +kernel
theorem dX11_findBehind_2 : decode cX11_findBehind 2 = .ok (.putfield 301, 3) := by decide +kernel
theorem dX11_findBehind_5 : decode cX11_findBehind 5 = .ok (.iload_n 1, 1) := by decide +kernel
theorem dX11_findBehind_6 : decode cX11_findBehind 6 = .ok (.iconst 1, 1) := by decide +kernel
theorem dX11_findBehind_7 : decode cX11_findBehind 7 = .ok (.iadd, 1) := by decide +kernel
theorem dX11_findBehind_8 : decode cX11_findBehind 8 = .ok (.istore_n 2, 1) := by decide +kernel
theorem dX11_findBehind_9 : decode cX11_findBehind 9 = .ok (.iload_n 2, 1) := by decide +kernel
theorem dX11_findBehind_10 : decode cX11_findBehind 10 = .ok (.sipush 9999, 3) := by decide +kernel
theorem dX11_findBehind_13 : decode cX11_findBehind 13 = .ok (.if_icmp .gt 37, 3) := by decide +kernel
theorem dX11_findBehind_16 : decode cX11_findBehind 16 = .ok (.aload_n 0, 1) := by decide +kernel
theorem dX11_findBehind_17 : decode cX11_findBehind 17 = .ok (.iload_n 2, 1) := by decide +kernel
theorem dX11_findBehind_18 : decode cX11_findBehind 18 = .ok (.invokevirtual 295, 3) := by decide +kernel
theorem dX11_findBehind_21 : decode cX11_findBehind 21 = .ok (.ifCond .eq 23, 3) := by decide +kernel
theorem dX11_findBehind_24 : decode cX11_findBehind 24 = .ok (.aload_n 0, 1) := by decide +kernel
theorem dX11_findBehind_25 : decode cX11_findBehind 25 = .ok (.getfield 129, 3) := by decide +kernel
theorem dX11_findBehind_28 : decode cX11_findBehind 28 = .ok (.aload_n 0, 1) := by decide +kernel
theorem dX11_findBehind_29 : decode cX11_findBehind 29 = .ok (.getfield 301, 3) := by decide +kernel
theorem dX11_findBehind_32 : decode cX11_findBehind 32 = .ok (.iload_n 2, 1) := by decide +kernel
theorem dX11_findBehind_33 : decode cX11_findBehind 33 = .ok (.iastore, 1) := by decide +kernel
theorem dX11_findBehind_34 : decode cX11_findBehind 34 = .ok (.aload_n 0, 1) := by decide +kernel
theorem dX11_findBehind_35 : decode cX11_findBehind 35 = .ok (.dup, 1) := by decide +kernel
theorem dX11_findBehind_36 : decode cX11_findBehind 36 = .ok (.getfield 301, 3) := by decide +kernel
theorem dX11_findBehind_39 : decode cX11_findBehind 39 = .ok (.iconst 1, 1) := by decide +kernel
theorem dX11_findBehind_40 : decode cX11_findBehind 40 = .ok (.iadd, 1) := by decide +kernel
theorem dX11_findBehind_41 : decode cX11_findBehind 41 = .ok (.putfield 301, 3) := by decide +kernel
theorem dX11_findBehind_44 : decode cX11_findBehind 44 = .ok (.iinc 2 1, 3) := by decide +kernel
theorem dX11_findBehind_47 : decode cX11_findBehind 47 = .ok (.goto (-38), 3) := by decide +kernel
theorem dX11_findBehind_50 : decode cX11_findBehind 50 = .ok (.return_, 1) := by decide +kernel
theorem dX11_dayOf_0 : decode cX11_dayOf 0 = .ok (.iload_n 2, 1) := by decide +kernel
theorem dX11_dayOf_1 : decode cX11_dayOf 1 = .ok (.iconst 1, 1) := by decide +kernel
theorem dX11_dayOf_2 : decode cX11_dayOf 2 = .ok (.if_icmp .ge 7, 3) := by decide +kernel
theorem dX11_dayOf_5 : decode cX11_dayOf 5 = .ok (.iload_n 1, 1) := by decide +kernel
theorem dX11_dayOf_6 : decode cX11_dayOf 6 = .ok (.goto 25, 3) := by decide +kernel
theorem dX11_dayOf_9 : decode cX11_dayOf 9 = .ok (.iload_n 2, 1) := by decide +kernel
theorem dX11_dayOf_10 : decode cX11_dayOf 10 = .ok (.aload_n 0, 1) := by decide +kernel
theorem dX11_dayOf_11 : decode cX11_dayOf 11 = .ok (.getfield 301, 3) := by decide +kernel
theorem dX11_dayOf_14 : decode cX11_dayOf 14 = .ok (.if_icmp .le 9, 3) := by decide +kernel
theorem dX11_dayOf_17 : decode cX11_dayOf 17 = .ok (.sipush 9999, 3) := by decide +kernel
theorem dX11_dayOf_20 : decode cX11_dayOf 20 = .ok (.goto 11, 3) := by decide +kernel
theorem dX11_dayOf_23 : decode cX11_dayOf 23 = .ok (.aload_n 0, 1) := by decide +kernel
theorem dX11_dayOf_24 : decode cX11_dayOf 24 = .ok (.getfield 129, 3) := by decide +kernel
theorem dX11_dayOf_27 : decode cX11_dayOf 27 = .ok (.iload_n 2, 1) := by decide +kernel
theorem dX11_dayOf_28 : decode cX11_dayOf 28 = .ok (.iconst 1, 1) := by decide +kernel
theorem dX11_dayOf_29 : decode cX11_dayOf 29 = .ok (.isub, 1) := by decide +kernel
theorem dX11_dayOf_30 : decode cX11_dayOf 30 = .ok (.iaload, 1) := by decide +kernel
theorem dX11_dayOf_31 : decode cX11_dayOf 31 = .ok (.ireturn, 1) := by decide +kernel
theorem dX11_worth_0 : decode cX11_worth 0 = .ok (.sipush 2600, 3) := by decide +kernel
theorem dX11_worth_3 : decode cX11_worth 3 = .ok (.iload_n 1, 1) := by decide +kernel
theorem dX11_worth_4 : decode cX11_worth 4 = .ok (.imul, 1) := by decide +kernel
theorem dX11_worth_5 : decode cX11_worth 5 = .ok (.iload_n 2, 1) := by decide +kernel
theorem dX11_worth_6 : decode cX11_worth 6 = .ok (.iadd, 1) := by decide +kernel
theorem dX11_worth_7 : decode cX11_worth 7 = .ok (.istore_n 3, 1) := by decide +kernel
theorem dX11_worth_8 : decode cX11_worth 8 = .ok (.iconst 0, 1) := by decide +kernel
theorem dX11_worth_9 : decode cX11_worth 9 = .ok (.istore 4, 2) := by decide +kernel
theorem dX11_worth_11 : decode cX11_worth 11 = .ok (.aload_n 0, 1) := by decide +kernel
theorem dX11_worth_12 : decode cX11_worth 12 = .ok (.getfield 111, 3) := by decide +kernel
theorem dX11_worth_15 : decode cX11_worth 15 = .ok (.iload_n 3, 1) := by decide +kernel
theorem dX11_worth_16 : decode cX11_worth 16 = .ok (.iaload, 1) := by decide +kernel
theorem dX11_worth_17 : decode cX11_worth 17 = .ok (.ifCond .eq 161, 3) := by decide +kernel
theorem dX11_worth_20 : decode cX11_worth 20 = .ok (.aload_n 0, 1) := by decide +kernel
theorem dX11_worth_21 : decode cX11_worth 21 = .ok (.getfield 111, 3) := by decide +kernel
theorem dX11_worth_24 : decode cX11_worth 24 = .ok (.iload_n 3, 1) := by decide +kernel
theorem dX11_worth_25 : decode cX11_worth 25 = .ok (.iaload, 1) := by decide +kernel
theorem dX11_worth_26 : decode cX11_worth 26 = .ok (.istore 5, 2) := by decide +kernel
theorem dX11_worth_28 : decode cX11_worth 28 = .ok (.iload 5, 2) := by decide +kernel
theorem dX11_worth_30 : decode cX11_worth 30 = .ok (.iconst 1, 1) := by decide +kernel
theorem dX11_worth_31 : decode cX11_worth 31 = .ok (.if_icmp .eq 9, 3) := by decide +kernel
theorem dX11_worth_34 : decode cX11_worth 34 = .ok (.iload 5, 2) := by decide +kernel
theorem dX11_worth_36 : decode cX11_worth 36 = .ok (.iconst 2, 1) := by decide +kernel
theorem dX11_worth_37 : decode cX11_worth 37 = .ok (.if_icmp .ne 42, 3) := by decide +kernel
theorem dX11_worth_40 : decode cX11_worth 40 = .ok (.aload_n 0, 1) := by decide +kernel
theorem dX11_worth_41 : decode cX11_worth 41 = .ok (.getfield 132, 3) := by decide +kernel
theorem dX11_worth_44 : decode cX11_worth 44 = .ok (.iload 4, 2) := by decide +kernel
theorem dX11_worth_46 : decode cX11_worth 46 = .ok (.iload 5, 2) := by decide +kernel
theorem dX11_worth_48 : decode cX11_worth 48 = .ok (.iconst 1, 1) := by decide +kernel
theorem dX11_worth_49 : decode cX11_worth 49 = .ok (.if_icmp .ne 12, 3) := by decide +kernel
theorem dX11_worth_52 : decode cX11_worth 52 = .ok (.aload_n 0, 1) := by decide +kernel
theorem dX11_worth_53 : decode cX11_worth 53 = .ok (.getfield 114, 3) := by decide +kernel
theorem dX11_worth_56 : decode cX11_worth 56 = .ok (.iload_n 3, 1) := by decide +kernel
theorem dX11_worth_57 : decode cX11_worth 57 = .ok (.iaload, 1) := by decide +kernel
theorem dX11_worth_58 : decode cX11_worth 58 = .ok (.goto 14, 3) := by decide +kernel
theorem dX11_worth_61 : decode cX11_worth 61 = .ok (.aload_n 0, 1) := by decide +kernel
theorem dX11_worth_62 : decode cX11_worth 62 = .ok (.getfield 123, 3) := by decide +kernel
theorem dX11_worth_65 : decode cX11_worth 65 = .ok (.aload_n 0, 1) := by decide +kernel
theorem dX11_worth_66 : decode cX11_worth 66 = .ok (.getfield 114, 3) := by decide +kernel
theorem dX11_worth_69 : decode cX11_worth 69 = .ok (.iload_n 3, 1) := by decide +kernel
theorem dX11_worth_70 : decode cX11_worth 70 = .ok (.iaload, 1) := by decide +kernel
theorem dX11_worth_71 : decode cX11_worth 71 = .ok (.iaload, 1) := by decide +kernel
theorem dX11_worth_72 : decode cX11_worth 72 = .ok (.iastore, 1) := by decide +kernel
theorem dX11_worth_73 : decode cX11_worth 73 = .ok (.iinc 4 1, 3) := by decide +kernel
theorem dX11_worth_76 : decode cX11_worth 76 = .ok (.goto 96, 3) := by decide +kernel
theorem dX11_worth_79 : decode cX11_worth 79 = .ok (.iinc 4 (-1), 3) := by decide +kernel
theorem dX11_worth_82 : decode cX11_worth 82 = .ok (.aload_n 0, 1) := by decide +kernel
theorem dX11_worth_83 : decode cX11_worth 83 = .ok (.getfield 132, 3) := by decide +kernel
theorem dX11_worth_86 : decode cX11_worth 86 = .ok (.iload 4, 2) := by decide +kernel
theorem dX11_worth_88 : decode cX11_worth 88 = .ok (.iaload, 1) := by decide +kernel
theorem dX11_worth_89 : decode cX11_worth 89 = .ok (.istore 6, 2) := by decide +kernel
theorem dX11_worth_91 : decode cX11_worth 91 = .ok (.aload_n 0, 1) := by decide +kernel
theorem dX11_worth_92 : decode cX11_worth 92 = .ok (.getfield 132, 3) := by decide +kernel
theorem dX11_worth_95 : decode cX11_worth 95 = .ok (.iload 4, 2) := by decide +kernel
theorem dX11_worth_97 : decode cX11_worth 97 = .ok (.iconst 1, 1) := by decide +kernel
theorem dX11_worth_98 : decode cX11_worth 98 = .ok (.isub, 1) := by decide +kernel
theorem dX11_worth_99 : decode cX11_worth 99 = .ok (.iaload, 1) := by decide +kernel
theorem dX11_worth_100 : decode cX11_worth 100 = .ok (.istore 7, 2) := by decide +kernel
theorem dX11_worth_102 : decode cX11_worth 102 = .ok (.aload_n 0, 1) := by decide +kernel
theorem dX11_worth_103 : decode cX11_worth 103 = .ok (.getfield 132, 3) := by decide +kernel
theorem dX11_worth_106 : decode cX11_worth 106 = .ok (.iload 4, 2) := by decide +kernel
theorem dX11_worth_108 : decode cX11_worth 108 = .ok (.iconst 1, 1) := by decide +kernel
theorem dX11_worth_109 : decode cX11_worth 109 = .ok (.isub, 1) := by decide +kernel
theorem dX11_worth_110 : decode cX11_worth 110 = .ok (.iload 5, 2) := by decide +kernel
theorem dX11_worth_112 : decode cX11_worth 112 = .ok (.iconst 3, 1) := by decide +kernel
theorem dX11_worth_113 : decode cX11_worth 113 = .ok (.if_icmp .ne 11, 3) := by decide +kernel
theorem dX11_worth_116 : decode cX11_worth 116 = .ok (.iload 7, 2) := by decide +kernel
theorem dX11_worth_118 : decode cX11_worth 118 = .ok (.iload 6, 2) := by decide +kernel
theorem dX11_worth_120 : decode cX11_worth 120 = .ok (.iadd, 1) := by decide +kernel
theorem dX11_worth_121 : decode cX11_worth 121 = .ok (.goto 50, 3) := by decide +kernel
theorem dX11_worth_124 : decode cX11_worth 124 = .ok (.iload 5, 2) := by decide +kernel
theorem dX11_worth_126 : decode cX11_worth 126 = .ok (.iconst 4, 1) := by decide +kernel
theorem dX11_worth_127 : decode cX11_worth 127 = .ok (.if_icmp .ne 11, 3) := by decide +kernel
theorem dX11_worth_130 : decode cX11_worth 130 = .ok (.iload 7, 2) := by decide +kernel
theorem dX11_worth_132 : decode cX11_worth 132 = .ok (.iload 6, 2) := by decide +kernel
theorem dX11_worth_134 : decode cX11_worth 134 = .ok (.isub, 1) := by decide +kernel
theorem dX11_worth_135 : decode cX11_worth 135 = .ok (.goto 36, 3) := by decide +kernel
theorem dX11_worth_138 : decode cX11_worth 138 = .ok (.iload 5, 2) := by decide +kernel
theorem dX11_worth_140 : decode cX11_worth 140 = .ok (.iconst 5, 1) := by decide +kernel
theorem dX11_worth_141 : decode cX11_worth 141 = .ok (.if_icmp .ne 18, 3) := by decide +kernel
theorem dX11_worth_144 : decode cX11_worth 144 = .ok (.iload 7, 2) := by decide +kernel
theorem dX11_worth_146 : decode cX11_worth 146 = .ok (.iload 6, 2) := by decide +kernel
theorem dX11_worth_148 : decode cX11_worth 148 = .ok (.if_icmp .ge 7, 3) := by decide +kernel
theorem dX11_worth_151 : decode cX11_worth 151 = .ok (.iconst 1, 1) := by decide +kernel
theorem dX11_worth_152 : decode cX11_worth 152 = .ok (.goto 19, 3) := by decide +kernel
theorem dX11_worth_155 : decode cX11_worth 155 = .ok (.iconst 0, 1) := by decide +kernel
theorem dX11_worth_156 : decode cX11_worth 156 = .ok (.goto 15, 3) := by decide +kernel
theorem dX11_worth_159 : decode cX11_worth 159 = .ok (.iload 7, 2) := by decide +kernel
theorem dX11_worth_161 : decode cX11_worth 161 = .ok (.iload 6, 2) := by decide +kernel
theorem dX11_worth_163 : decode cX11_worth 163 = .ok (.if_icmp .ne 7, 3) := by decide +kernel
theorem dX11_worth_166 : decode cX11_worth 166 = .ok (.iconst 1, 1) := by decide +kernel
theorem dX11_worth_167 : decode cX11_worth 167 = .ok (.goto 4, 3) := by decide +kernel
theorem dX11_worth_170 : decode cX11_worth 170 = .ok (.iconst 0, 1) := by decide +kernel
theorem dX11_worth_171 : decode cX11_worth 171 = .ok (.iastore, 1) := by decide +kernel
theorem dX11_worth_172 : decode cX11_worth 172 = .ok (.iinc 3 1, 3) := by decide +kernel
theorem dX11_worth_175 : decode cX11_worth 175 = .ok (.goto (-164), 3) := by decide +kernel
theorem dX11_worth_178 : decode cX11_worth 178 = .ok (.aload_n 0, 1) := by decide +kernel
theorem dX11_worth_179 : decode cX11_worth 179 = .ok (.getfield 132, 3) := by decide +kernel
theorem dX11_worth_182 : decode cX11_worth 182 = .ok (.iconst 0, 1) := by decide +kernel
theorem dX11_worth_183 : decode cX11_worth 183 = .ok (.iaload, 1) := by decide +kernel
theorem dX11_worth_184 : decode cX11_worth 184 = .ok (.ireturn, 1) := by decide +kernel
theorem dX11_gathers_0 : decode cX11_gathers 0 = .ok (.iconst 0, 1) := by decide +kernel
theorem dX11_gathers_1 : decode cX11_gathers 1 = .ok (.istore_n 2, 1) := by decide +kernel
theorem dX11_gathers_2 : decode cX11_gathers 2 = .ok (.iload_n 2, 1) := by decide +kernel
theorem dX11_gathers_3 : decode cX11_gathers 3 = .ok (.bipush 12, 2) := by decide +kernel
theorem dX11_gathers_5 : decode cX11_gathers 5 = .ok (.if_icmp .ge 49, 3) := by decide +kernel
theorem dX11_gathers_8 : decode cX11_gathers 8 = .ok (.aload_n 0, 1) := by decide +kernel
theorem dX11_gathers_9 : decode cX11_gathers 9 = .ok (.getfield 135, 3) := by decide +kernel
theorem dX11_gathers_12 : decode cX11_gathers 12 = .ok (.iload_n 2, 1) := by decide +kernel
theorem dX11_gathers_13 : decode cX11_gathers 13 = .ok (.iload_n 2, 1) := by decide +kernel
theorem dX11_gathers_14 : decode cX11_gathers 14 = .ok (.aload_n 0, 1) := by decide +kernel
theorem dX11_gathers_15 : decode cX11_gathers 15 = .ok (.getfield 74, 3) := by decide +kernel
theorem dX11_gathers_18 : decode cX11_gathers 18 = .ok (.iload_n 1, 1) := by decide +kernel
theorem dX11_gathers_19 : decode cX11_gathers 19 = .ok (.iaload, 1) := by decide +kernel
theorem dX11_gathers_20 : decode cX11_gathers 20 = .ok (.if_icmp .ge 26, 3) := by decide +kernel
theorem dX11_gathers_23 : decode cX11_gathers 23 = .ok (.aload_n 0, 1) := by decide +kernel
theorem dX11_gathers_24 : decode cX11_gathers 24 = .ok (.iload_n 1, 1) := by decide +kernel
theorem dX11_gathers_25 : decode cX11_gathers 25 = .ok (.aload_n 0, 1) := by decide +kernel
theorem dX11_gathers_26 : decode cX11_gathers 26 = .ok (.getfield 87, 3) := by decide +kernel
theorem dX11_gathers_29 : decode cX11_gathers 29 = .ok (.bipush 12, 2) := by decide +kernel
theorem dX11_gathers_31 : decode cX11_gathers 31 = .ok (.iload_n 1, 1) := by decide +kernel
theorem dX11_gathers_32 : decode cX11_gathers 32 = .ok (.imul, 1) := by decide +kernel
theorem dX11_gathers_33 : decode cX11_gathers 33 = .ok (.iload_n 2, 1) := by decide +kernel
theorem dX11_gathers_34 : decode cX11_gathers 34 = .ok (.iadd, 1) := by decide +kernel
theorem dX11_gathers_35 : decode cX11_gathers 35 = .ok (.iaload, 1) := by decide +kernel
theorem dX11_gathers_36 : decode cX11_gathers 36 = .ok (.invokevirtual 304, 3) := by decide +kernel
theorem dX11_gathers_39 : decode cX11_gathers 39 = .ok (.ifCond .eq 7, 3) := by decide +kernel
theorem dX11_gathers_42 : decode cX11_gathers 42 = .ok (.iconst 1, 1) := by decide +kernel
theorem dX11_gathers_43 : decode cX11_gathers 43 = .ok (.goto 4, 3) := by decide +kernel
theorem dX11_gathers_46 : decode cX11_gathers 46 = .ok (.iconst 0, 1) := by decide +kernel
theorem dX11_gathers_47 : decode cX11_gathers 47 = .ok (.bastore, 1) := by decide +kernel
theorem dX11_gathers_48 : decode cX11_gathers 48 = .ok (.iinc 2 1, 3) := by decide +kernel
theorem dX11_gathers_51 : decode cX11_gathers 51 = .ok (.goto (-49), 3) := by decide +kernel
theorem dX11_gathers_54 : decode cX11_gathers 54 = .ok (.iconst 1, 1) := by decide +kernel
theorem dX11_gathers_55 : decode cX11_gathers 55 = .ok (.istore_n 2, 1) := by decide +kernel
theorem dX11_gathers_56 : decode cX11_gathers 56 = .ok (.iload_n 2, 1) := by decide +kernel
theorem dX11_gathers_57 : decode cX11_gathers 57 = .ok (.ifCond .eq 118, 3) := by decide +kernel
theorem dX11_gathers_60 : decode cX11_gathers 60 = .ok (.iconst 0, 1) := by decide +kernel
theorem dX11_gathers_61 : decode cX11_gathers 61 = .ok (.istore_n 2, 1) := by decide +kernel
theorem dX11_gathers_62 : decode cX11_gathers 62 = .ok (.iconst 0, 1) := by decide +kernel
theorem dX11_gathers_63 : decode cX11_gathers 63 = .ok (.istore_n 3, 1) := by decide +kernel
theorem dX11_gathers_64 : decode cX11_gathers 64 = .ok (.iload_n 3, 1) := by decide +kernel
theorem dX11_gathers_65 : decode cX11_gathers 65 = .ok (.aload_n 0, 1) := by decide +kernel
theorem dX11_gathers_66 : decode cX11_gathers 66 = .ok (.getfield 74, 3) := by decide +kernel
theorem dX11_gathers_69 : decode cX11_gathers 69 = .ok (.iload_n 1, 1) := by decide +kernel
theorem dX11_gathers_70 : decode cX11_gathers 70 = .ok (.iaload, 1) := by decide +kernel
theorem dX11_gathers_71 : decode cX11_gathers 71 = .ok (.if_icmp .ge 101, 3) := by decide +kernel
theorem dX11_gathers_74 : decode cX11_gathers 74 = .ok (.bipush 8, 2) := by decide +kernel
theorem dX11_gathers_76 : decode cX11_gathers 76 = .ok (.bipush 12, 2) := by decide +kernel
theorem dX11_gathers_78 : decode cX11_gathers 78 = .ok (.iload_n 1, 1) := by decide +kernel
theorem dX11_gathers_79 : decode cX11_gathers 79 = .ok (.imul, 1) := by decide +kernel
theorem dX11_gathers_80 : decode cX11_gathers 80 = .ok (.iload_n 3, 1) := by decide +kernel
theorem dX11_gathers_81 : decode cX11_gathers 81 = .ok (.iadd, 1) := by decide +kernel
theorem dX11_gathers_82 : decode cX11_gathers 82 = .ok (.imul, 1) := by decide +kernel
theorem dX11_gathers_83 : decode cX11_gathers 83 = .ok (.istore 4, 2) := by decide +kernel
theorem dX11_gathers_85 : decode cX11_gathers 85 = .ok (.iload 4, 2) := by decide +kernel
theorem dX11_gathers_87 : decode cX11_gathers 87 = .ok (.bipush 8, 2) := by decide +kernel
theorem dX11_gathers_89 : decode cX11_gathers 89 = .ok (.bipush 12, 2) := by decide +kernel
theorem dX11_gathers_91 : decode cX11_gathers 91 = .ok (.iload_n 1, 1) := by decide +kernel
theorem dX11_gathers_92 : decode cX11_gathers 92 = .ok (.imul, 1) := by decide +kernel
theorem dX11_gathers_93 : decode cX11_gathers 93 = .ok (.iload_n 3, 1) := by decide +kernel
theorem dX11_gathers_94 : decode cX11_gathers 94 = .ok (.iadd, 1) := by decide +kernel
theorem dX11_gathers_95 : decode cX11_gathers 95 = .ok (.imul, 1) := by decide +kernel
theorem dX11_gathers_96 : decode cX11_gathers 96 = .ok (.aload_n 0, 1) := by decide +kernel
theorem dX11_gathers_97 : decode cX11_gathers 97 = .ok (.getfield 90, 3) := by decide +kernel
theorem dX11_gathers_100 : decode cX11_gathers 100 = .ok (.bipush 12, 2) := by decide +kernel
theorem dX11_gathers_102 : decode cX11_gathers 102 = .ok (.iload_n 1, 1) := by decide +kernel
theorem dX11_gathers_103 : decode cX11_gathers 103 = .ok (.imul, 1) := by decide +kernel
theorem dX11_gathers_104 : decode cX11_gathers 104 = .ok (.iload_n 3, 1) := by decide +kernel
theorem dX11_gathers_105 : decode cX11_gathers 105 = .ok (.iadd, 1) := by decide +kernel
theorem dX11_gathers_106 : decode cX11_gathers 106 = .ok (.iaload, 1) := by decide +kernel
theorem dX11_gathers_107 : decode cX11_gathers 107 = .ok (.iadd, 1) := by decide +kernel
theorem dX11_gathers_108 : decode cX11_gathers 108 = .ok (.if_icmp .ge 58, 3) := by decide +kernel
theorem dX11_gathers_111 : decode cX11_gathers 111 = .ok (.aload_n 0, 1) := by decide +kernel
theorem dX11_gathers_112 : decode cX11_gathers 112 = .ok (.getfield 135, 3) := by decide +kernel
theorem dX11_gathers_115 : decode cX11_gathers 115 = .ok (.iload_n 3, 1) := by decide +kernel
theorem dX11_gathers_116 : decode cX11_gathers 116 = .ok (.baload, 1) := by decide +kernel
theorem dX11_gathers_117 : decode cX11_gathers 117 = .ok (.ifCond .eq 49, 3) := by decide +kernel
theorem dX11_gathers_120 : decode cX11_gathers 120 = .ok (.aload_n 0, 1) := by decide +kernel
theorem dX11_gathers_121 : decode cX11_gathers 121 = .ok (.getfield 96, 3) := by decide +kernel
theorem dX11_gathers_124 : decode cX11_gathers 124 = .ok (.iload 4, 2) := by decide +kernel
theorem dX11_gathers_126 : decode cX11_gathers 126 = .ok (.baload, 1) := by decide +kernel
theorem dX11_gathers_127 : decode cX11_gathers 127 = .ok (.ifCond .ne 33, 3) := by decide +kernel
theorem dX11_gathers_130 : decode cX11_gathers 130 = .ok (.aload_n 0, 1) := by decide +kernel
theorem dX11_gathers_131 : decode cX11_gathers 131 = .ok (.getfield 135, 3) := by decide +kernel
theorem dX11_gathers_134 : decode cX11_gathers 134 = .ok (.aload_n 0, 1) := by decide +kernel
theorem dX11_gathers_135 : decode cX11_gathers 135 = .ok (.getfield 93, 3) := by decide +kernel
theorem dX11_gathers_138 : decode cX11_gathers 138 = .ok (.iload 4, 2) := by decide +kernel
theorem dX11_gathers_140 : decode cX11_gathers 140 = .ok (.iaload, 1) := by decide +kernel
theorem dX11_gathers_141 : decode cX11_gathers 141 = .ok (.baload, 1) := by decide +kernel
theorem dX11_gathers_142 : decode cX11_gathers 142 = .ok (.ifCond .ne 18, 3) := by decide +kernel
theorem dX11_gathers_145 : decode cX11_gathers 145 = .ok (.aload_n 0, 1) := by decide +kernel
theorem dX11_gathers_146 : decode cX11_gathers 146 = .ok (.getfield 135, 3) := by decide +kernel
theorem dX11_gathers_149 : decode cX11_gathers 149 = .ok (.aload_n 0, 1) := by decide +kernel
theorem dX11_gathers_150 : decode cX11_gathers 150 = .ok (.getfield 93, 3) := by decide +kernel
theorem dX11_gathers_153 : decode cX11_gathers 153 = .ok (.iload 4, 2) := by decide +kernel
theorem dX11_gathers_155 : decode cX11_gathers 155 = .ok (.iaload, 1) := by decide +kernel
theorem dX11_gathers_156 : decode cX11_gathers 156 = .ok (.iconst 1, 1) := by decide +kernel
theorem dX11_gathers_157 : decode cX11_gathers 157 = .ok (.bastore, 1) := by decide +kernel
theorem dX11_gathers_158 : decode cX11_gathers 158 = .ok (.iconst 1, 1) := by decide +kernel
theorem dX11_gathers_159 : decode cX11_gathers 159 = .ok (.istore_n 2, 1) := by decide +kernel
theorem dX11_gathers_160 : decode cX11_gathers 160 = .ok (.iinc 4 1, 3) := by decide +kernel
theorem dX11_gathers_163 : decode cX11_gathers 163 = .ok (.goto (-78), 3) := by decide +kernel
theorem dX11_gathers_166 : decode cX11_gathers 166 = .ok (.iinc 3 1, 3) := by decide +kernel
theorem dX11_gathers_169 : decode cX11_gathers 169 = .ok (.goto (-105), 3) := by decide +kernel
theorem dX11_gathers_172 : decode cX11_gathers 172 = .ok (.goto (-116), 3) := by decide +kernel
theorem dX11_gathers_175 : decode cX11_gathers 175 = .ok (.return_, 1) := by decide +kernel
theorem dX11_quarrels_0 : decode cX11_quarrels 0 = .ok (.aload_n 0, 1) := by decide +kernel
theorem dX11_quarrels_1 : decode cX11_quarrels 1 = .ok (.iconst 0, 1) := by decide +kernel
theorem dX11_quarrels_2 : decode cX11_quarrels 2 = .ok (.putfield 307, 3) := by decide +kernel
theorem dX11_quarrels_5 : decode cX11_quarrels 5 = .ok (.aload_n 0, 1) := by decide +kernel
theorem dX11_quarrels_6 : decode cX11_quarrels 6 = .ok (.iconst (-1), 1) := by decide +kernel
theorem dX11_quarrels_7 : decode cX11_quarrels 7 = .ok (.putfield 310, 3) := by decide +kernel
theorem dX11_quarrels_10 : decode cX11_quarrels 10 = .ok (.aload_n 0, 1) := by decide +kernel
theorem dX11_quarrels_11 : decode cX11_quarrels 11 = .ok (.iconst (-1), 1) := by decide +kernel
theorem dX11_quarrels_12 : decode cX11_quarrels 12 = .ok (.putfield 313, 3) := by decide +kernel
theorem dX11_quarrels_15 : decode cX11_quarrels 15 = .ok (.iconst 0, 1) := by decide +kernel
theorem dX11_quarrels_16 : decode cX11_quarrels 16 = .ok (.istore_n 2, 1) := by decide +kernel
theorem dX11_quarrels_17 : decode cX11_quarrels 17 = .ok (.iconst 0, 1) := by decide +kernel
theorem dX11_quarrels_18 : decode cX11_quarrels 18 = .ok (.istore_n 3, 1) := by decide +kernel
theorem dX11_quarrels_19 : decode cX11_quarrels 19 = .ok (.iload_n 3, 1) := by decide +kernel
theorem dX11_quarrels_20 : decode cX11_quarrels 20 = .ok (.aload_n 0, 1) := by decide +kernel
theorem dX11_quarrels_21 : decode cX11_quarrels 21 = .ok (.getfield 74, 3) := by decide +kernel
theorem dX11_quarrels_24 : decode cX11_quarrels 24 = .ok (.iload_n 1, 1) := by decide +kernel
theorem dX11_quarrels_25 : decode cX11_quarrels 25 = .ok (.iaload, 1) := by decide +kernel
theorem dX11_quarrels_26 : decode cX11_quarrels 26 = .ok (.if_icmp .ge 68, 3) := by decide +kernel
theorem dX11_quarrels_29 : decode cX11_quarrels 29 = .ok (.iload_n 2, 1) := by decide +kernel
theorem dX11_quarrels_30 : decode cX11_quarrels 30 = .ok (.ifCond .ne 12, 3) := by decide +kernel
theorem dX11_quarrels_33 : decode cX11_quarrels 33 = .ok (.aload_n 0, 1) := by decide +kernel
theorem dX11_quarrels_34 : decode cX11_quarrels 34 = .ok (.getfield 135, 3) := by decide +kernel
theorem dX11_quarrels_37 : decode cX11_quarrels 37 = .ok (.iload_n 3, 1) := by decide +kernel
theorem dX11_quarrels_38 : decode cX11_quarrels 38 = .ok (.baload, 1) := by decide +kernel
theorem dX11_quarrels_39 : decode cX11_quarrels 39 = .ok (.ifCond .eq 7, 3) := by decide +kernel
theorem dX11_quarrels_42 : decode cX11_quarrels 42 = .ok (.iconst 1, 1) := by decide +kernel
theorem dX11_quarrels_43 : decode cX11_quarrels 43 = .ok (.goto 4, 3) := by decide +kernel
theorem dX11_quarrels_46 : decode cX11_quarrels 46 = .ok (.iconst 0, 1) := by decide +kernel
theorem dX11_quarrels_47 : decode cX11_quarrels 47 = .ok (.istore_n 2, 1) := by decide +kernel
theorem dX11_quarrels_48 : decode cX11_quarrels 48 = .ok (.aload_n 0, 1) := by decide +kernel
theorem dX11_quarrels_49 : decode cX11_quarrels 49 = .ok (.getfield 307, 3) := by decide +kernel
theorem dX11_quarrels_52 : decode cX11_quarrels 52 = .ok (.ifCond .ne 36, 3) := by decide +kernel
theorem dX11_quarrels_55 : decode cX11_quarrels 55 = .ok (.aload_n 0, 1) := by decide +kernel
theorem dX11_quarrels_56 : decode cX11_quarrels 56 = .ok (.getfield 83, 3) := by decide +kernel
theorem dX11_quarrels_59 : decode cX11_quarrels 59 = .ok (.bipush 12, 2) := by decide +kernel
theorem dX11_quarrels_61 : decode cX11_quarrels 61 = .ok (.iload_n 1, 1) := by decide +kernel
theorem dX11_quarrels_62 : decode cX11_quarrels 62 = .ok (.imul, 1) := by decide +kernel
theorem dX11_quarrels_63 : decode cX11_quarrels 63 = .ok (.iload_n 3, 1) := by decide +kernel
theorem dX11_quarrels_64 : decode cX11_quarrels 64 = .ok (.iadd, 1) := by decide +kernel
theorem dX11_quarrels_65 : decode cX11_quarrels 65 = .ok (.baload, 1) := by decide +kernel
theorem dX11_quarrels_66 : decode cX11_quarrels 66 = .ok (.ifCond .eq 22, 3) := by decide +kernel
theorem dX11_quarrels_69 : decode cX11_quarrels 69 = .ok (.aload_n 0, 1) := by decide +kernel
theorem dX11_quarrels_70 : decode cX11_quarrels 70 = .ok (.getfield 135, 3) := by decide +kernel
theorem dX11_quarrels_73 : decode cX11_quarrels 73 = .ok (.iload_n 3, 1) := by decide +kernel
theorem dX11_quarrels_74 : decode cX11_quarrels 74 = .ok (.baload, 1) := by decide +kernel
theorem dX11_quarrels_75 : decode cX11_quarrels 75 = .ok (.ifCond .ne 13, 3) := by decide +kernel
theorem dX11_quarrels_78 : decode cX11_quarrels 78 = .ok (.aload_n 0, 1) := by decide +kernel
theorem dX11_quarrels_79 : decode cX11_quarrels 79 = .ok (.iconst 1, 1) := by decide +kernel
theorem dX11_quarrels_80 : decode cX11_quarrels 80 = .ok (.putfield 307, 3) := by decide +kernel
theorem dX11_quarrels_83 : decode cX11_quarrels 83 = .ok (.aload_n 0, 1) := by decide +kernel
theorem dX11_quarrels_84 : decode cX11_quarrels 84 = .ok (.iload_n 3, 1) := by decide +kernel
theorem dX11_quarrels_85 : decode cX11_quarrels 85 = .ok (.putfield 310, 3) := by decide +kernel
theorem dX11_quarrels_88 : decode cX11_quarrels 88 = .ok (.iinc 3 1, 3) := by decide +kernel
theorem dX11_quarrels_91 : decode cX11_quarrels 91 = .ok (.goto (-72), 3) := by decide +kernel
theorem dX11_quarrels_94 : decode cX11_quarrels 94 = .ok (.iconst 0, 1) := by decide +kernel
theorem dX11_quarrels_95 : decode cX11_quarrels 95 = .ok (.istore_n 3, 1) := by decide +kernel
theorem dX11_quarrels_96 : decode cX11_quarrels 96 = .ok (.iload_n 3, 1) := by decide +kernel
theorem dX11_quarrels_97 : decode cX11_quarrels 97 = .ok (.aload_n 0, 1) := by decide +kernel
theorem dX11_quarrels_98 : decode cX11_quarrels 98 = .ok (.getfield 74, 3) := by decide +kernel
theorem dX11_quarrels_101 : decode cX11_quarrels 101 = .ok (.iload_n 1, 1) := by decide +kernel
theorem dX11_quarrels_102 : decode cX11_quarrels 102 = .ok (.iaload, 1) := by decide +kernel
theorem dX11_quarrels_103 : decode cX11_quarrels 103 = .ok (.if_icmp .ge 22, 3) := by decide +kernel
theorem dX11_quarrels_106 : decode cX11_quarrels 106 = .ok (.aload_n 0, 1) := by decide +kernel
theorem dX11_quarrels_107 : decode cX11_quarrels 107 = .ok (.getfield 307, 3) := by decide +kernel
theorem dX11_quarrels_110 : decode cX11_quarrels 110 = .ok (.ifCond .ne 15, 3) := by decide +kernel
theorem dX11_quarrels_113 : decode cX11_quarrels 113 = .ok (.aload_n 0, 1) := by decide +kernel
theorem dX11_quarrels_114 : decode cX11_quarrels 114 = .ok (.iload_n 1, 1) := by decide +kernel
theorem dX11_quarrels_115 : decode cX11_quarrels 115 = .ok (.iload_n 3, 1) := by decide +kernel
theorem dX11_quarrels_116 : decode cX11_quarrels 116 = .ok (.invokevirtual 316, 3) := by decide +kernel
theorem dX11_quarrels_119 : decode cX11_quarrels 119 = .ok (.iinc 3 1, 3) := by decide +kernel
theorem dX11_quarrels_122 : decode cX11_quarrels 122 = .ok (.goto (-26), 3) := by decide +kernel
theorem dX11_quarrels_125 : decode cX11_quarrels 125 = .ok (.iconst 0, 1) := by decide +kernel
theorem dX11_quarrels_126 : decode cX11_quarrels 126 = .ok (.istore_n 3, 1) := by decide +kernel
theorem dX11_quarrels_127 : decode cX11_quarrels 127 = .ok (.iload_n 3, 1) := by decide +kernel
theorem dX11_quarrels_128 : decode cX11_quarrels 128 = .ok (.aload_n 0, 1) := by decide +kernel
theorem dX11_quarrels_129 : decode cX11_quarrels 129 = .ok (.getfield 74, 3) := by decide +kernel
theorem dX11_quarrels_132 : decode cX11_quarrels 132 = .ok (.iload_n 1, 1) := by decide +kernel
theorem dX11_quarrels_133 : decode cX11_quarrels 133 = .ok (.iaload, 1) := by decide +kernel
theorem dX11_quarrels_134 : decode cX11_quarrels 134 = .ok (.if_icmp .ge 22, 3) := by decide +kernel
theorem dX11_quarrels_137 : decode cX11_quarrels 137 = .ok (.aload_n 0, 1) := by decide +kernel
theorem dX11_quarrels_138 : decode cX11_quarrels 138 = .ok (.getfield 307, 3) := by decide +kernel
theorem dX11_quarrels_141 : decode cX11_quarrels 141 = .ok (.ifCond .ne 15, 3) := by decide +kernel
theorem dX11_quarrels_144 : decode cX11_quarrels 144 = .ok (.aload_n 0, 1) := by decide +kernel
theorem dX11_quarrels_145 : decode cX11_quarrels 145 = .ok (.iload_n 1, 1) := by decide +kernel
theorem dX11_quarrels_146 : decode cX11_quarrels 146 = .ok (.iload_n 3, 1) := by decide +kernel
theorem dX11_quarrels_147 : decode cX11_quarrels 147 = .ok (.invokevirtual 319, 3) := by decide +kernel
theorem dX11_quarrels_150 : decode cX11_quarrels 150 = .ok (.iinc 3 1, 3) := by decide +kernel
theorem dX11_quarrels_153 : decode cX11_quarrels 153 = .ok (.goto (-26), 3) := by decide +kernel
theorem dX11_quarrels_156 : decode cX11_quarrels 156 = .ok (.aload_n 0, 1) := by decide +kernel
theorem dX11_quarrels_157 : decode cX11_quarrels 157 = .ok (.aload_n 0, 1) := by decide +kernel
theorem dX11_quarrels_158 : decode cX11_quarrels 158 = .ok (.getfield 307, 3) := by decide +kernel
theorem dX11_quarrels_161 : decode cX11_quarrels 161 = .ok (.ifCond .ne 11, 3) := by decide +kernel
theorem dX11_quarrels_164 : decode cX11_quarrels 164 = .ok (.iload_n 2, 1) := by decide +kernel
theorem dX11_quarrels_165 : decode cX11_quarrels 165 = .ok (.ifCond .ne 7, 3) := by decide +kernel
theorem dX11_quarrels_168 : decode cX11_quarrels 168 = .ok (.iconst 4, 1) := by decide +kernel
theorem dX11_quarrels_169 : decode cX11_quarrels 169 = .ok (.goto 7, 3) := by decide +kernel
theorem dX11_quarrels_172 : decode cX11_quarrels 172 = .ok (.aload_n 0, 1) := by decide +kernel
theorem dX11_quarrels_173 : decode cX11_quarrels 173 = .ok (.getfield 307, 3) := by decide +kernel
theorem dX11_quarrels_176 : decode cX11_quarrels 176 = .ok (.putfield 307, 3) := by decide +kernel
theorem dX11_quarrels_179 : decode cX11_quarrels 179 = .ok (.return_, 1) := by decide +kernel
theorem dX11_barsOf_0 : decode cX11_barsOf 0 = .ok (.bipush 12, 2) := by decide +kernel
theorem dX11_barsOf_2 : decode cX11_barsOf 2 = .ok (.iload_n 1, 1) := by decide +kernel
theorem dX11_barsOf_3 : decode cX11_barsOf 3 = .ok (.imul, 1) := by decide +kernel
theorem dX11_barsOf_4 : decode cX11_barsOf 4 = .ok (.iload_n 2, 1) := by decide +kernel
theorem dX11_barsOf_5 : decode cX11_barsOf 5 = .ok (.iadd, 1) := by decide +kernel
theorem dX11_barsOf_6 : decode cX11_barsOf 6 = .ok (.istore_n 3, 1) := by decide +kernel
theorem dX11_barsOf_7 : decode cX11_barsOf 7 = .ok (.bipush 8, 2) := by decide +kernel
theorem dX11_barsOf_9 : decode cX11_barsOf 9 = .ok (.iload_n 3, 1) := by decide +kernel
theorem dX11_barsOf_10 : decode cX11_barsOf 10 = .ok (.imul, 1) := by decide +kernel
theorem dX11_barsOf_11 : decode cX11_barsOf 11 = .ok (.istore 4, 2) := by decide +kernel
theorem dX11_barsOf_13 : decode cX11_barsOf 13 = .ok (.iload 4, 2) := by decide +kernel
theorem dX11_barsOf_15 : decode cX11_barsOf 15 = .ok (.bipush 8, 2) := by decide +kernel
theorem dX11_barsOf_17 : decode cX11_barsOf 17 = .ok (.iload_n 3, 1) := by decide +kernel
theorem dX11_barsOf_18 : decode cX11_barsOf 18 = .ok (.imul, 1) := by decide +kernel
theorem dX11_barsOf_19 : decode cX11_barsOf 19 = .ok (.aload_n 0, 1) := by decide +kernel
theorem dX11_barsOf_20 : decode cX11_barsOf 20 = .ok (.getfield 90, 3) := by decide +kernel
theorem dX11_barsOf_23 : decode cX11_barsOf 23 = .ok (.iload_n 3, 1) := by decide +kernel
theorem dX11_barsOf_24 : decode cX11_barsOf 24 = .ok (.iaload, 1) := by decide +kernel
theorem dX11_barsOf_25 : decode cX11_barsOf 25 = .ok (.iadd, 1) := by decide +kernel
theorem dX11_barsOf_26 : decode cX11_barsOf 26 = .ok (.if_icmp .ge 82, 3) := by decide +kernel
theorem dX11_barsOf_29 : decode cX11_barsOf 29 = .ok (.aload_n 0, 1) := by decide +kernel
theorem dX11_barsOf_30 : decode cX11_barsOf 30 = .ok (.getfield 135, 3) := by decide +kernel
theorem dX11_barsOf_33 : decode cX11_barsOf 33 = .ok (.iload_n 2, 1) := by decide +kernel
theorem dX11_barsOf_34 : decode cX11_barsOf 34 = .ok (.baload, 1) := by decide +kernel
theorem dX11_barsOf_35 : decode cX11_barsOf 35 = .ok (.ifCond .eq 73, 3) := by decide +kernel
theorem dX11_barsOf_38 : decode cX11_barsOf 38 = .ok (.aload_n 0, 1) := by decide +kernel
theorem dX11_barsOf_39 : decode cX11_barsOf 39 = .ok (.getfield 307, 3) := by decide +kernel
theorem dX11_barsOf_42 : decode cX11_barsOf 42 = .ok (.ifCond .ne 66, 3) := by decide +kernel
theorem dX11_barsOf_45 : decode cX11_barsOf 45 = .ok (.aload_n 0, 1) := by decide +kernel
theorem dX11_barsOf_46 : decode cX11_barsOf 46 = .ok (.getfield 96, 3) := by decide +kernel
theorem dX11_barsOf_49 : decode cX11_barsOf 49 = .ok (.iload 4, 2) := by decide +kernel
theorem dX11_barsOf_51 : decode cX11_barsOf 51 = .ok (.baload, 1) := by decide +kernel
theorem dX11_barsOf_52 : decode cX11_barsOf 52 = .ok (.ifCond .eq 50, 3) := by decide +kernel
theorem dX11_barsOf_55 : decode cX11_barsOf 55 = .ok (.aload_n 0, 1) := by decide +kernel
theorem dX11_barsOf_56 : decode cX11_barsOf 56 = .ok (.getfield 93, 3) := by decide +kernel
theorem dX11_barsOf_59 : decode cX11_barsOf 59 = .ok (.iload 4, 2) := by decide +kernel
theorem dX11_barsOf_61 : decode cX11_barsOf 61 = .ok (.iaload, 1) := by decide +kernel
theorem dX11_barsOf_62 : decode cX11_barsOf 62 = .ok (.iload_n 2, 1) := by decide +kernel
theorem dX11_barsOf_63 : decode cX11_barsOf 63 = .ok (.if_icmp .eq 39, 3) := by decide +kernel
theorem dX11_barsOf_66 : decode cX11_barsOf 66 = .ok (.aload_n 0, 1) := by decide +kernel
theorem dX11_barsOf_67 : decode cX11_barsOf 67 = .ok (.getfield 135, 3) := by decide +kernel
theorem dX11_barsOf_70 : decode cX11_barsOf 70 = .ok (.aload_n 0, 1) := by decide +kernel
theorem dX11_barsOf_71 : decode cX11_barsOf 71 = .ok (.getfield 93, 3) := by decide +kernel
theorem dX11_barsOf_74 : decode cX11_barsOf 74 = .ok (.iload 4, 2) := by decide +kernel
theorem dX11_barsOf_76 : decode cX11_barsOf 76 = .ok (.iaload, 1) := by decide +kernel
theorem dX11_barsOf_77 : decode cX11_barsOf 77 = .ok (.baload, 1) := by decide +kernel
theorem dX11_barsOf_78 : decode cX11_barsOf 78 = .ok (.ifCond .eq 24, 3) := by decide +kernel
theorem dX11_barsOf_81 : decode cX11_barsOf 81 = .ok (.aload_n 0, 1) := by decide +kernel
theorem dX11_barsOf_82 : decode cX11_barsOf 82 = .ok (.iconst 2, 1) := by decide +kernel
theorem dX11_barsOf_83 : decode cX11_barsOf 83 = .ok (.putfield 307, 3) := by decide +kernel
theorem dX11_barsOf_86 : decode cX11_barsOf 86 = .ok (.aload_n 0, 1) := by decide +kernel
theorem dX11_barsOf_87 : decode cX11_barsOf 87 = .ok (.iload_n 2, 1) := by decide +kernel
theorem dX11_barsOf_88 : decode cX11_barsOf 88 = .ok (.putfield 310, 3) := by decide +kernel
theorem dX11_barsOf_91 : decode cX11_barsOf 91 = .ok (.aload_n 0, 1) := by decide +kernel
theorem dX11_barsOf_92 : decode cX11_barsOf 92 = .ok (.aload_n 0, 1) := by decide +kernel
theorem dX11_barsOf_93 : decode cX11_barsOf 93 = .ok (.getfield 93, 3) := by decide +kernel
theorem dX11_barsOf_96 : decode cX11_barsOf 96 = .ok (.iload 4, 2) := by decide +kernel
theorem dX11_barsOf_98 : decode cX11_barsOf 98 = .ok (.iaload, 1) := by decide +kernel
theorem dX11_barsOf_99 : decode cX11_barsOf 99 = .ok (.putfield 313, 3) := by decide +kernel
theorem dX11_barsOf_102 : decode cX11_barsOf 102 = .ok (.iinc 4 1, 3) := by decide +kernel
theorem dX11_barsOf_105 : decode cX11_barsOf 105 = .ok (.goto (-92), 3) := by decide +kernel
theorem dX11_barsOf_108 : decode cX11_barsOf 108 = .ok (.return_, 1) := by decide +kernel
theorem dX11_refsOf_0 : decode cX11_refsOf 0 = .ok (.bipush 12, 2) := by decide +kernel
theorem dX11_refsOf_2 : decode cX11_refsOf 2 = .ok (.iload_n 1, 1) := by decide +kernel
theorem dX11_refsOf_3 : decode cX11_refsOf 3 = .ok (.imul, 1) := by decide +kernel
theorem dX11_refsOf_4 : decode cX11_refsOf 4 = .ok (.iload_n 2, 1) := by decide +kernel
theorem dX11_refsOf_5 : decode cX11_refsOf 5 = .ok (.iadd, 1) := by decide +kernel
theorem dX11_refsOf_6 : decode cX11_refsOf 6 = .ok (.istore_n 3, 1) := by decide +kernel
theorem dX11_refsOf_7 : decode cX11_refsOf 7 = .ok (.bipush 20, 2) := by decide +kernel
theorem dX11_refsOf_9 : decode cX11_refsOf 9 = .ok (.iload_n 3, 1) := by decide +kernel
theorem dX11_refsOf_10 : decode cX11_refsOf 10 = .ok (.imul, 1) := by decide +kernel
theorem dX11_refsOf_11 : decode cX11_refsOf 11 = .ok (.istore 4, 2) := by decide +kernel
theorem dX11_refsOf_13 : decode cX11_refsOf 13 = .ok (.iload 4, 2) := by decide +kernel
theorem dX11_refsOf_15 : decode cX11_refsOf 15 = .ok (.bipush 20, 2) := by decide +kernel
theorem dX11_refsOf_17 : decode cX11_refsOf 17 = .ok (.iload_n 3, 1) := by decide +kernel
theorem dX11_refsOf_18 : decode cX11_refsOf 18 = .ok (.imul, 1) := by decide +kernel
theorem dX11_refsOf_19 : decode cX11_refsOf 19 = .ok (.aload_n 0, 1) := by decide +kernel
theorem dX11_refsOf_20 : decode cX11_refsOf 20 = .ok (.getfield 99, 3) := by decide +kernel
theorem dX11_refsOf_23 : decode cX11_refsOf 23 = .ok (.iload_n 3, 1) := by decide +kernel
theorem dX11_refsOf_24 : decode cX11_refsOf 24 = .ok (.iaload, 1) := by decide +kernel
theorem dX11_refsOf_25 : decode cX11_refsOf 25 = .ok (.iadd, 1) := by decide +kernel
theorem dX11_refsOf_26 : decode cX11_refsOf 26 = .ok (.if_icmp .ge 72, 3) := by decide +kernel
theorem dX11_refsOf_29 : decode cX11_refsOf 29 = .ok (.aload_n 0, 1) := by decide +kernel
theorem dX11_refsOf_30 : decode cX11_refsOf 30 = .ok (.getfield 135, 3) := by decide +kernel
theorem dX11_refsOf_33 : decode cX11_refsOf 33 = .ok (.iload_n 2, 1) := by decide +kernel
theorem dX11_refsOf_34 : decode cX11_refsOf 34 = .ok (.baload, 1) := by decide +kernel
theorem dX11_refsOf_35 : decode cX11_refsOf 35 = .ok (.ifCond .eq 63, 3) := by decide +kernel
theorem dX11_refsOf_38 : decode cX11_refsOf 38 = .ok (.aload_n 0, 1) := by decide +kernel
theorem dX11_refsOf_39 : decode cX11_refsOf 39 = .ok (.getfield 307, 3) := by decide +kernel
theorem dX11_refsOf_42 : decode cX11_refsOf 42 = .ok (.ifCond .ne 56, 3) := by decide +kernel
theorem dX11_refsOf_45 : decode cX11_refsOf 45 = .ok (.aload_n 0, 1) := by decide +kernel
theorem dX11_refsOf_46 : decode cX11_refsOf 46 = .ok (.getfield 102, 3) := by decide +kernel
theorem dX11_refsOf_49 : decode cX11_refsOf 49 = .ok (.iload 4, 2) := by decide +kernel
theorem dX11_refsOf_51 : decode cX11_refsOf 51 = .ok (.iaload, 1) := by decide +kernel
theorem dX11_refsOf_52 : decode cX11_refsOf 52 = .ok (.iconst 2, 1) := by decide +kernel
theorem dX11_refsOf_53 : decode cX11_refsOf 53 = .ok (.if_icmp .ne 39, 3) := by decide +kernel
theorem dX11_refsOf_56 : decode cX11_refsOf 56 = .ok (.aload_n 0, 1) := by decide +kernel
theorem dX11_refsOf_57 : decode cX11_refsOf 57 = .ok (.getfield 135, 3) := by decide +kernel
theorem dX11_refsOf_60 : decode cX11_refsOf 60 = .ok (.aload_n 0, 1) := by decide +kernel
theorem dX11_refsOf_61 : decode cX11_refsOf 61 = .ok (.getfield 105, 3) := by decide +kernel
theorem dX11_refsOf_64 : decode cX11_refsOf 64 = .ok (.iload 4, 2) := by decide +kernel
theorem dX11_refsOf_66 : decode cX11_refsOf 66 = .ok (.iaload, 1) := by decide +kernel
theorem dX11_refsOf_67 : decode cX11_refsOf 67 = .ok (.baload, 1) := by decide +kernel
theorem dX11_refsOf_68 : decode cX11_refsOf 68 = .ok (.ifCond .ne 24, 3) := by decide +kernel
theorem dX11_refsOf_71 : decode cX11_refsOf 71 = .ok (.aload_n 0, 1) := by decide +kernel
theorem dX11_refsOf_72 : decode cX11_refsOf 72 = .ok (.iconst 3, 1) := by decide +kernel
theorem dX11_refsOf_73 : decode cX11_refsOf 73 = .ok (.putfield 307, 3) := by decide +kernel
theorem dX11_refsOf_76 : decode cX11_refsOf 76 = .ok (.aload_n 0, 1) := by decide +kernel
theorem dX11_refsOf_77 : decode cX11_refsOf 77 = .ok (.iload_n 2, 1) := by decide +kernel
theorem dX11_refsOf_78 : decode cX11_refsOf 78 = .ok (.putfield 310, 3) := by decide +kernel
theorem dX11_refsOf_81 : decode cX11_refsOf 81 = .ok (.aload_n 0, 1) := by decide +kernel
theorem dX11_refsOf_82 : decode cX11_refsOf 82 = .ok (.aload_n 0, 1) := by decide +kernel
theorem dX11_refsOf_83 : decode cX11_refsOf 83 = .ok (.getfield 105, 3) := by decide +kernel
theorem dX11_refsOf_86 : decode cX11_refsOf 86 = .ok (.iload 4, 2) := by decide +kernel
theorem dX11_refsOf_88 : decode cX11_refsOf 88 = .ok (.iaload, 1) := by decide +kernel
theorem dX11_refsOf_89 : decode cX11_refsOf 89 = .ok (.putfield 313, 3) := by decide +kernel
theorem dX11_refsOf_92 : decode cX11_refsOf 92 = .ok (.iinc 4 1, 3) := by decide +kernel
theorem dX11_refsOf_95 : decode cX11_refsOf 95 = .ok (.goto (-82), 3) := by decide +kernel
theorem dX11_refsOf_98 : decode cX11_refsOf 98 = .ok (.return_, 1) := by decide +kernel
theorem dX11_orders_0 : decode cX11_orders 0 = .ok (.aload_n 0, 1) := by decide +kernel
theorem dX11_orders_1 : decode cX11_orders 1 = .ok (.iconst 0, 1) := by decide +kernel
theorem dX11_orders_2 : decode cX11_orders 2 = .ok (.putfield 322, 3) := by decide +kernel
theorem dX11_orders_5 : decode cX11_orders 5 = .ok (.iconst 0, 1) := by decide +kernel
theorem dX11_orders_6 : decode cX11_orders 6 = .ok (.istore_n 2, 1) := by decide +kernel
theorem dX11_orders_7 : decode cX11_orders 7 = .ok (.iload_n 2, 1) := by decide +kernel
theorem dX11_orders_8 : decode cX11_orders 8 = .ok (.bipush 100, 2) := by decide +kernel
theorem dX11_orders_10 : decode cX11_orders 10 = .ok (.if_icmp .ge 71, 3) := by decide +kernel
theorem dX11_orders_13 : decode cX11_orders 13 = .ok (.iconst 0, 1) := by decide +kernel
theorem dX11_orders_14 : decode cX11_orders 14 = .ok (.istore_n 3, 1) := by decide +kernel
theorem dX11_orders_15 : decode cX11_orders 15 = .ok (.iload_n 3, 1) := by decide +kernel
theorem dX11_orders_16 : decode cX11_orders 16 = .ok (.aload_n 0, 1) := by decide +kernel
theorem dX11_orders_17 : decode cX11_orders 17 = .ok (.getfield 74, 3) := by decide +kernel
theorem dX11_orders_20 : decode cX11_orders 20 = .ok (.iload_n 1, 1) := by decide +kernel
theorem dX11_orders_21 : decode cX11_orders 21 = .ok (.iaload, 1) := by decide +kernel
theorem dX11_orders_22 : decode cX11_orders 22 = .ok (.if_icmp .ge 53, 3) := by decide +kernel
theorem dX11_orders_25 : decode cX11_orders 25 = .ok (.aload_n 0, 1) := by decide +kernel
theorem dX11_orders_26 : decode cX11_orders 26 = .ok (.getfield 135, 3) := by decide +kernel
theorem dX11_orders_29 : decode cX11_orders 29 = .ok (.iload_n 3, 1) := by decide +kernel
theorem dX11_orders_30 : decode cX11_orders 30 = .ok (.baload, 1) := by decide +kernel
theorem dX11_orders_31 : decode cX11_orders 31 = .ok (.ifCond .eq 38, 3) := by decide +kernel
theorem dX11_orders_34 : decode cX11_orders 34 = .ok (.aload_n 0, 1) := by decide +kernel
theorem dX11_orders_35 : decode cX11_orders 35 = .ok (.getfield 80, 3) := by decide +kernel
theorem dX11_orders_38 : decode cX11_orders 38 = .ok (.bipush 12, 2) := by decide +kernel
theorem dX11_orders_40 : decode cX11_orders 40 = .ok (.iload_n 1, 1) := by decide +kernel
theorem dX11_orders_41 : decode cX11_orders 41 = .ok (.imul, 1) := by decide +kernel
theorem dX11_orders_42 : decode cX11_orders 42 = .ok (.iload_n 3, 1) := by decide +kernel
theorem dX11_orders_43 : decode cX11_orders 43 = .ok (.iadd, 1) := by decide +kernel
theorem dX11_orders_44 : decode cX11_orders 44 = .ok (.iaload, 1) := by decide +kernel
theorem dX11_orders_45 : decode cX11_orders 45 = .ok (.iload_n 2, 1) := by decide +kernel
theorem dX11_orders_46 : decode cX11_orders 46 = .ok (.if_icmp .ne 23, 3) := by decide +kernel
theorem dX11_orders_49 : decode cX11_orders 49 = .ok (.aload_n 0, 1) := by decide +kernel
theorem dX11_orders_50 : decode cX11_orders 50 = .ok (.getfield 138, 3) := by decide +kernel
theorem dX11_orders_53 : decode cX11_orders 53 = .ok (.aload_n 0, 1) := by decide +kernel
theorem dX11_orders_54 : decode cX11_orders 54 = .ok (.getfield 322, 3) := by decide +kernel
theorem dX11_orders_57 : decode cX11_orders 57 = .ok (.iload_n 3, 1) := by decide +kernel
theorem dX11_orders_58 : decode cX11_orders 58 = .ok (.iastore, 1) := by decide +kernel
theorem dX11_orders_59 : decode cX11_orders 59 = .ok (.aload_n 0, 1) := by decide +kernel
theorem dX11_orders_60 : decode cX11_orders 60 = .ok (.dup, 1) := by decide +kernel
theorem dX11_orders_61 : decode cX11_orders 61 = .ok (.getfield 322, 3) := by decide +kernel
theorem dX11_orders_64 : decode cX11_orders 64 = .ok (.iconst 1, 1) := by decide +kernel
