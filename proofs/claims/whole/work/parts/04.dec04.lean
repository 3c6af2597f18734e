theorem dX11_orders_65 : decode cX11_orders 65 = .ok (.iadd, 1) := by decide +kernel
theorem dX11_orders_66 : decode cX11_orders 66 = .ok (.putfield 322, 3) := by decide +kernel
theorem dX11_orders_69 : decode cX11_orders 69 = .ok (.iinc 3 1, 3) := by decide +kernel
theorem dX11_orders_72 : decode cX11_orders 72 = .ok (.goto (-57), 3) := by decide +kernel
theorem dX11_orders_75 : decode cX11_orders 75 = .ok (.iinc 2 1, 3) := by decide +kernel
theorem dX11_orders_78 : decode cX11_orders 78 = .ok (.goto (-71), 3) := by decide +kernel
theorem dX11_orders_81 : decode cX11_orders 81 = .ok (.return_, 1) := by decide +kernel
theorem dX11_partOf_0 : decode cX11_partOf 0 = .ok (.iconst 0, 1) := by decide +kernel
theorem dX11_partOf_1 : decode cX11_partOf 1 = .ok (.istore_n 2, 1) := by decide +kernel
theorem dX11_partOf_2 : decode cX11_partOf 2 = .ok (.aload_n 0, 1) := by decide +kernel
theorem dX11_partOf_3 : decode cX11_partOf 3 = .ok (.getfield 138, 3) := by decide +kernel
theorem dX11_partOf_6 : decode cX11_partOf 6 = .ok (.iload_n 2, 1) := by decide +kernel
theorem dX11_partOf_7 : decode cX11_partOf 7 = .ok (.iaload, 1) := by decide +kernel
theorem dX11_partOf_8 : decode cX11_partOf 8 = .ok (.iload_n 1, 1) := by decide +kernel
theorem dX11_partOf_9 : decode cX11_partOf 9 = .ok (.if_icmp .eq 9, 3) := by decide +kernel
theorem dX11_partOf_12 : decode cX11_partOf 12 = .ok (.iinc 2 1, 3) := by decide +kernel
theorem dX11_partOf_15 : decode cX11_partOf 15 = .ok (.goto (-13), 3) := by decide +kernel
theorem dX11_partOf_18 : decode cX11_partOf 18 = .ok (.iload_n 2, 1) := by decide +kernel
theorem dX11_partOf_19 : decode cX11_partOf 19 = .ok (.iconst 1, 1) := by decide +kernel
theorem dX11_partOf_20 : decode cX11_partOf 20 = .ok (.iadd, 1) := by decide +kernel
theorem dX11_partOf_21 : decode cX11_partOf 21 = .ok (.ireturn, 1) := by decide +kernel
theorem dX11_put_0 : decode cX11_put 0 = .ok (.aload_n 0, 1) := by decide +kernel
theorem dX11_put_1 : decode cX11_put 1 = .ok (.getfield 141, 3) := by decide +kernel
theorem dX11_put_4 : decode cX11_put 4 = .ok (.aload_n 0, 1) := by decide +kernel
theorem dX11_put_5 : decode cX11_put 5 = .ok (.getfield 325, 3) := by decide +kernel
theorem dX11_put_8 : decode cX11_put 8 = .ok (.iload_n 1, 1) := by decide +kernel
theorem dX11_put_9 : decode cX11_put 9 = .ok (.iastore, 1) := by decide +kernel
theorem dX11_put_10 : decode cX11_put 10 = .ok (.aload_n 0, 1) := by decide +kernel
theorem dX11_put_11 : decode cX11_put 11 = .ok (.dup, 1) := by decide +kernel
theorem dX11_put_12 : decode cX11_put 12 = .ok (.getfield 325, 3) := by decide +kernel
theorem dX11_put_15 : decode cX11_put 15 = .ok (.iconst 1, 1) := by decide +kernel
theorem dX11_put_16 : decode cX11_put 16 = .ok (.iadd, 1) := by decide +kernel
theorem dX11_put_17 : decode cX11_put 17 = .ok (.putfield 325, 3) := by decide +kernel
theorem dX11_put_20 : decode cX11_put 20 = .ok (.return_, 1) := by decide +kernel
theorem dX11_blank_0 : decode cX11_blank 0 = .ok (.aload_n 0, 1) := by decide +kernel
theorem dX11_blank_1 : decode cX11_blank 1 = .ok (.getfield 325, 3) := by decide +kernel
theorem dX11_blank_4 : decode cX11_blank 4 = .ok (.ifCond .le 9, 3) := by decide +kernel
theorem dX11_blank_7 : decode cX11_blank 7 = .ok (.aload_n 0, 1) := by decide +kernel
theorem dX11_blank_8 : decode cX11_blank 8 = .ok (.bipush 32, 2) := by decide +kernel
theorem dX11_blank_10 : decode cX11_blank 10 = .ok (.invokevirtual 328, 3) := by decide +kernel
theorem dX11_blank_13 : decode cX11_blank 13 = .ok (.return_, 1) := by decide +kernel
theorem dX11_prints_0 : decode cX11_prints 0 = .ok (.aload_n 0, 1) := by decide +kernel
theorem dX11_prints_1 : decode cX11_prints 1 = .ok (.invokevirtual 331, 3) := by decide +kernel
theorem dX11_prints_4 : decode cX11_prints 4 = .ok (.iload_n 1, 1) := by decide +kernel
theorem dX11_prints_5 : decode cX11_prints 5 = .ok (.ifCond .ge 9, 3) := by decide +kernel
theorem dX11_prints_8 : decode cX11_prints 8 = .ok (.iload_n 1, 1) := by decide +kernel
theorem dX11_prints_9 : decode cX11_prints 9 = .ok (.i2l, 1) := by decide +kernel
theorem dX11_prints_10 : decode cX11_prints 10 = .ok (.lneg, 1) := by decide +kernel
theorem dX11_prints_11 : decode cX11_prints 11 = .ok (.goto 5, 3) := by decide +kernel
theorem dX11_prints_14 : decode cX11_prints 14 = .ok (.iload_n 1, 1) := by decide +kernel
theorem dX11_prints_15 : decode cX11_prints 15 = .ok (.i2l, 1) := by decide +kernel
theorem dX11_prints_16 : decode cX11_prints 16 = .ok (.lstore_n 2, 1) := by decide +kernel
theorem dX11_prints_17 : decode cX11_prints 17 = .ok (.iload_n 1, 1) := by decide +kernel
theorem dX11_prints_18 : decode cX11_prints 18 = .ok (.ifCond .ge 9, 3) := by decide +kernel
theorem dX11_prints_21 : decode cX11_prints 21 = .ok (.aload_n 0, 1) := by decide +kernel
theorem dX11_prints_22 : decode cX11_prints 22 = .ok (.bipush 45, 2) := by decide +kernel
theorem dX11_prints_24 : decode cX11_prints 24 = .ok (.invokevirtual 328, 3) := by decide +kernel
theorem dX11_prints_27 : decode cX11_prints 27 = .ok (.lconst 1, 1) := by decide +kernel
theorem dX11_prints_28 : decode cX11_prints 28 = .ok (.lstore 4, 2) := by decide +kernel
theorem dX11_prints_30 : decode cX11_prints 30 = .ok (.lload_n 2, 1) := by decide +kernel
theorem dX11_prints_31 : decode cX11_prints 31 = .ok (.lload 4, 2) := by decide +kernel
theorem dX11_prints_33 : decode cX11_prints 33 = .ok (.ldiv, 1) := by decide +kernel
theorem dX11_prints_34 : decode cX11_prints 34 = .ok (.ldc2_w 334, 3) := by decide +kernel
theorem dX11_prints_37 : decode cX11_prints 37 = .ok (.lcmp, 1) := by decide +kernel
theorem dX11_prints_38 : decode cX11_prints 38 = .ok (.ifCond .le 14, 3) := by decide +kernel
theorem dX11_prints_41 : decode cX11_prints 41 = .ok (.lload 4, 2) := by decide +kernel
theorem dX11_prints_43 : decode cX11_prints 43 = .ok (.ldc2_w 178, 3) := by decide +kernel
theorem dX11_prints_46 : decode cX11_prints 46 = .ok (.lmul, 1) := by decide +kernel
theorem dX11_prints_47 : decode cX11_prints 47 = .ok (.lstore 4, 2) := by decide +kernel
theorem dX11_prints_49 : decode cX11_prints 49 = .ok (.goto (-19), 3) := by decide +kernel
theorem dX11_prints_52 : decode cX11_prints 52 = .ok (.lload 4, 2) := by decide +kernel
theorem dX11_prints_54 : decode cX11_prints 54 = .ok (.lconst 0, 1) := by decide +kernel
theorem dX11_prints_55 : decode cX11_prints 55 = .ok (.lcmp, 1) := by decide +kernel
theorem dX11_prints_56 : decode cX11_prints 56 = .ok (.ifCond .le 31, 3) := by decide +kernel
theorem dX11_prints_59 : decode cX11_prints 59 = .ok (.aload_n 0, 1) := by decide +kernel
theorem dX11_prints_60 : decode cX11_prints 60 = .ok (.ldc2_w 180, 3) := by decide +kernel
theorem dX11_prints_63 : decode cX11_prints 63 = .ok (.lload_n 2, 1) := by decide +kernel
theorem dX11_prints_64 : decode cX11_prints 64 = .ok (.lload 4, 2) := by decide +kernel
theorem dX11_prints_66 : decode cX11_prints 66 = .ok (.ldiv, 1) := by decide +kernel
theorem dX11_prints_67 : decode cX11_prints 67 = .ok (.ldc2_w 178, 3) := by decide +kernel
theorem dX11_prints_70 : decode cX11_prints 70 = .ok (.lrem, 1) := by decide +kernel
theorem dX11_prints_71 : decode cX11_prints 71 = .ok (.ladd, 1) := by decide +kernel
theorem dX11_prints_72 : decode cX11_prints 72 = .ok (.l2i, 1) := by decide +kernel
theorem dX11_prints_73 : decode cX11_prints 73 = .ok (.invokevirtual 328, 3) := by decide +kernel
theorem dX11_prints_76 : decode cX11_prints 76 = .ok (.lload 4, 2) := by decide +kernel
theorem dX11_prints_78 : decode cX11_prints 78 = .ok (.ldc2_w 178, 3) := by decide +kernel
theorem dX11_prints_81 : decode cX11_prints 81 = .ok (.ldiv, 1) := by decide +kernel
theorem dX11_prints_82 : decode cX11_prints 82 = .ok (.lstore 4, 2) := by decide +kernel
theorem dX11_prints_84 : decode cX11_prints 84 = .ok (.goto (-32), 3) := by decide +kernel
theorem dX11_prints_87 : decode cX11_prints 87 = .ok (.return_, 1) := by decide +kernel
theorem dX11_printsWord_0 : decode cX11_printsWord 0 = .ok (.aload_n 0, 1) := by decide +kernel
theorem dX11_printsWord_1 : decode cX11_printsWord 1 = .ok (.invokevirtual 331, 3) := by decide +kernel
theorem dX11_printsWord_4 : decode cX11_printsWord 4 = .ok (.lconst 1, 1) := by decide +kernel
theorem dX11_printsWord_5 : decode cX11_printsWord 5 = .ok (.lstore_n 3, 1) := by decide +kernel
theorem dX11_printsWord_6 : decode cX11_printsWord 6 = .ok (.lload_n 1, 1) := by decide +kernel
theorem dX11_printsWord_7 : decode cX11_printsWord 7 = .ok (.lload_n 3, 1) := by decide +kernel
theorem dX11_printsWord_8 : decode cX11_printsWord 8 = .ok (.ldiv, 1) := by decide +kernel
theorem dX11_printsWord_9 : decode cX11_printsWord 9 = .ok (.ldc2_w 169, 3) := by decide +kernel
theorem dX11_printsWord_12 : decode cX11_printsWord 12 = .ok (.lcmp, 1) := by decide +kernel
theorem dX11_printsWord_13 : decode cX11_printsWord 13 = .ok (.ifCond .lt 12, 3) := by decide +kernel
theorem dX11_printsWord_16 : decode cX11_printsWord 16 = .ok (.lload_n 3, 1) := by decide +kernel
theorem dX11_printsWord_17 : decode cX11_printsWord 17 = .ok (.ldc2_w 169, 3) := by decide +kernel
theorem dX11_printsWord_20 : decode cX11_printsWord 20 = .ok (.lmul, 1) := by decide +kernel
theorem dX11_printsWord_21 : decode cX11_printsWord 21 = .ok (.lstore_n 3, 1) := by decide +kernel
theorem dX11_printsWord_22 : decode cX11_printsWord 22 = .ok (.goto (-16), 3) := by decide +kernel
theorem dX11_printsWord_25 : decode cX11_printsWord 25 = .ok (.lload_n 3, 1) := by decide +kernel
theorem dX11_printsWord_26 : decode cX11_printsWord 26 = .ok (.lconst 0, 1) := by decide +kernel
theorem dX11_printsWord_27 : decode cX11_printsWord 27 = .ok (.lcmp, 1) := by decide +kernel
theorem dX11_printsWord_28 : decode cX11_printsWord 28 = .ok (.ifCond .le 28, 3) := by decide +kernel
theorem dX11_printsWord_31 : decode cX11_printsWord 31 = .ok (.aload_n 0, 1) := by decide +kernel
theorem dX11_printsWord_32 : decode cX11_printsWord 32 = .ok (.ldc2_w 336, 3) := by decide +kernel
theorem dX11_printsWord_35 : decode cX11_printsWord 35 = .ok (.lload_n 1, 1) := by decide +kernel
theorem dX11_printsWord_36 : decode cX11_printsWord 36 = .ok (.lload_n 3, 1) := by decide +kernel
theorem dX11_printsWord_37 : decode cX11_printsWord 37 = .ok (.ldiv, 1) := by decide +kernel
theorem dX11_printsWord_38 : decode cX11_printsWord 38 = .ok (.ldc2_w 169, 3) := by decide +kernel
theorem dX11_printsWord_41 : decode cX11_printsWord 41 = .ok (.lrem, 1) := by decide +kernel
theorem dX11_printsWord_42 : decode cX11_printsWord 42 = .ok (.ladd, 1) := by decide +kernel
theorem dX11_printsWord_43 : decode cX11_printsWord 43 = .ok (.l2i, 1) := by decide +kernel
theorem dX11_printsWord_44 : decode cX11_printsWord 44 = .ok (.invokevirtual 328, 3) := by decide +kernel
theorem dX11_printsWord_47 : decode cX11_printsWord 47 = .ok (.lload_n 3, 1) := by decide +kernel
theorem dX11_printsWord_48 : decode cX11_printsWord 48 = .ok (.ldc2_w 169, 3) := by decide +kernel
theorem dX11_printsWord_51 : decode cX11_printsWord 51 = .ok (.ldiv, 1) := by decide +kernel
theorem dX11_printsWord_52 : decode cX11_printsWord 52 = .ok (.lstore_n 3, 1) := by decide +kernel
theorem dX11_printsWord_53 : decode cX11_printsWord 53 = .ok (.goto (-28), 3) := by decide +kernel
theorem dX11_printsWord_56 : decode cX11_printsWord 56 = .ok (.return_, 1) := by decide +kernel
theorem dX11_printsPart_0 : decode cX11_printsPart 0 = .ok (.aload_n 0, 1) := by decide +kernel
theorem dX11_printsPart_1 : decode cX11_printsPart 1 = .ok (.getfield 138, 3) := by decide +kernel
theorem dX11_printsPart_4 : decode cX11_printsPart 4 = .ok (.iload_n 2, 1) := by decide +kernel
theorem dX11_printsPart_5 : decode cX11_printsPart 5 = .ok (.iaload, 1) := by decide +kernel
theorem dX11_printsPart_6 : decode cX11_printsPart 6 = .ok (.istore 4, 2) := by decide +kernel
theorem dX11_printsPart_8 : decode cX11_printsPart 8 = .ok (.aload_n 0, 1) := by decide +kernel
theorem dX11_printsPart_9 : decode cX11_printsPart 9 = .ok (.iload_n 2, 1) := by decide +kernel
theorem dX11_printsPart_10 : decode cX11_printsPart 10 = .ok (.iconst 1, 1) := by decide +kernel
theorem dX11_printsPart_11 : decode cX11_printsPart 11 = .ok (.iadd, 1) := by decide +kernel
theorem dX11_printsPart_12 : decode cX11_printsPart 12 = .ok (.invokevirtual 338, 3) := by decide +kernel
theorem dX11_printsPart_15 : decode cX11_printsPart 15 = .ok (.bipush 20, 2) := by decide +kernel
theorem dX11_printsPart_17 : decode cX11_printsPart 17 = .ok (.bipush 12, 2) := by decide +kernel
theorem dX11_printsPart_19 : decode cX11_printsPart 19 = .ok (.iload_n 1, 1) := by decide +kernel
theorem dX11_printsPart_20 : decode cX11_printsPart 20 = .ok (.imul, 1) := by decide +kernel
theorem dX11_printsPart_21 : decode cX11_printsPart 21 = .ok (.iload 4, 2) := by decide +kernel
theorem dX11_printsPart_23 : decode cX11_printsPart 23 = .ok (.iadd, 1) := by decide +kernel
theorem dX11_printsPart_24 : decode cX11_printsPart 24 = .ok (.imul, 1) := by decide +kernel
theorem dX11_printsPart_25 : decode cX11_printsPart 25 = .ok (.istore 5, 2) := by decide +kernel
theorem dX11_printsPart_27 : decode cX11_printsPart 27 = .ok (.iload 5, 2) := by decide +kernel
theorem dX11_printsPart_29 : decode cX11_printsPart 29 = .ok (.bipush 20, 2) := by decide +kernel
theorem dX11_printsPart_31 : decode cX11_printsPart 31 = .ok (.bipush 12, 2) := by decide +kernel
theorem dX11_printsPart_33 : decode cX11_printsPart 33 = .ok (.iload_n 1, 1) := by decide +kernel
theorem dX11_printsPart_34 : decode cX11_printsPart 34 = .ok (.imul, 1) := by decide +kernel
theorem dX11_printsPart_35 : decode cX11_printsPart 35 = .ok (.iload 4, 2) := by decide +kernel
theorem dX11_printsPart_37 : decode cX11_printsPart 37 = .ok (.iadd, 1) := by decide +kernel
theorem dX11_printsPart_38 : decode cX11_printsPart 38 = .ok (.imul, 1) := by decide +kernel
theorem dX11_printsPart_39 : decode cX11_printsPart 39 = .ok (.aload_n 0, 1) := by decide +kernel
theorem dX11_printsPart_40 : decode cX11_printsPart 40 = .ok (.getfield 99, 3) := by decide +kernel
theorem dX11_printsPart_43 : decode cX11_printsPart 43 = .ok (.bipush 12, 2) := by decide +kernel
theorem dX11_printsPart_45 : decode cX11_printsPart 45 = .ok (.iload_n 1, 1) := by decide +kernel
theorem dX11_printsPart_46 : decode cX11_printsPart 46 = .ok (.imul, 1) := by decide +kernel
theorem dX11_printsPart_47 : decode cX11_printsPart 47 = .ok (.iload 4, 2) := by decide +kernel
theorem dX11_printsPart_49 : decode cX11_printsPart 49 = .ok (.iadd, 1) := by decide +kernel
theorem dX11_printsPart_50 : decode cX11_printsPart 50 = .ok (.iaload, 1) := by decide +kernel
theorem dX11_printsPart_51 : decode cX11_printsPart 51 = .ok (.iadd, 1) := by decide +kernel
theorem dX11_printsPart_52 : decode cX11_printsPart 52 = .ok (.if_icmp .ge 103, 3) := by decide +kernel
theorem dX11_printsPart_55 : decode cX11_printsPart 55 = .ok (.aload_n 0, 1) := by decide +kernel
theorem dX11_printsPart_56 : decode cX11_printsPart 56 = .ok (.getfield 102, 3) := by decide +kernel
theorem dX11_printsPart_59 : decode cX11_printsPart 59 = .ok (.iload 5, 2) := by decide +kernel
theorem dX11_printsPart_61 : decode cX11_printsPart 61 = .ok (.iaload, 1) := by decide +kernel
theorem dX11_printsPart_62 : decode cX11_printsPart 62 = .ok (.ifCond .ne 17, 3) := by decide +kernel
theorem dX11_printsPart_65 : decode cX11_printsPart 65 = .ok (.aload_n 0, 1) := by decide +kernel
theorem dX11_printsPart_66 : decode cX11_printsPart 66 = .ok (.aload_n 0, 1) := by decide +kernel
theorem dX11_printsPart_67 : decode cX11_printsPart 67 = .ok (.getfield 108, 3) := by decide +kernel
theorem dX11_printsPart_70 : decode cX11_printsPart 70 = .ok (.iload 5, 2) := by decide +kernel
theorem dX11_printsPart_72 : decode cX11_printsPart 72 = .ok (.laload, 1) := by decide +kernel
theorem dX11_printsPart_73 : decode cX11_printsPart 73 = .ok (.invokevirtual 341, 3) := by decide +kernel
theorem dX11_printsPart_76 : decode cX11_printsPart 76 = .ok (.goto 73, 3) := by decide +kernel
theorem dX11_printsPart_79 : decode cX11_printsPart 79 = .ok (.aload_n 0, 1) := by decide +kernel
theorem dX11_printsPart_80 : decode cX11_printsPart 80 = .ok (.getfield 102, 3) := by decide +kernel
theorem dX11_printsPart_83 : decode cX11_printsPart 83 = .ok (.iload 5, 2) := by decide +kernel
theorem dX11_printsPart_85 : decode cX11_printsPart 85 = .ok (.iaload, 1) := by decide +kernel
theorem dX11_printsPart_86 : decode cX11_printsPart 86 = .ok (.iconst 2, 1) := by decide +kernel
theorem dX11_printsPart_87 : decode cX11_printsPart 87 = .ok (.if_icmp .ne 21, 3) := by decide +kernel
theorem dX11_printsPart_90 : decode cX11_printsPart 90 = .ok (.aload_n 0, 1) := by decide +kernel
theorem dX11_printsPart_91 : decode cX11_printsPart 91 = .ok (.aload_n 0, 1) := by decide +kernel
theorem dX11_printsPart_92 : decode cX11_printsPart 92 = .ok (.aload_n 0, 1) := by decide +kernel
theorem dX11_printsPart_93 : decode cX11_printsPart 93 = .ok (.getfield 105, 3) := by decide +kernel
theorem dX11_printsPart_96 : decode cX11_printsPart 96 = .ok (.iload 5, 2) := by decide +kernel
theorem dX11_printsPart_98 : decode cX11_printsPart 98 = .ok (.iaload, 1) := by decide +kernel
theorem dX11_printsPart_99 : decode cX11_printsPart 99 = .ok (.invokevirtual 344, 3) := by decide +kernel
theorem dX11_printsPart_102 : decode cX11_printsPart 102 = .ok (.invokevirtual 338, 3) := by decide +kernel
theorem dX11_printsPart_105 : decode cX11_printsPart 105 = .ok (.goto 44, 3) := by decide +kernel
theorem dX11_printsPart_108 : decode cX11_printsPart 108 = .ok (.aload_n 0, 1) := by decide +kernel
theorem dX11_printsPart_109 : decode cX11_printsPart 109 = .ok (.iload_n 1, 1) := by decide +kernel
theorem dX11_printsPart_110 : decode cX11_printsPart 110 = .ok (.aload_n 0, 1) := by decide +kernel
theorem dX11_printsPart_111 : decode cX11_printsPart 111 = .ok (.getfield 105, 3) := by decide +kernel
theorem dX11_printsPart_114 : decode cX11_printsPart 114 = .ok (.iload 5, 2) := by decide +kernel
theorem dX11_printsPart_116 : decode cX11_printsPart 116 = .ok (.iaload, 1) := by decide +kernel
theorem dX11_printsPart_117 : decode cX11_printsPart 117 = .ok (.invokevirtual 304, 3) := by decide +kernel
theorem dX11_printsPart_120 : decode cX11_printsPart 120 = .ok (.istore 6, 2) := by decide +kernel
theorem dX11_printsPart_122 : decode cX11_printsPart 122 = .ok (.aload_n 0, 1) := by decide +kernel
theorem dX11_printsPart_123 : decode cX11_printsPart 123 = .ok (.aload_n 0, 1) := by decide +kernel
theorem dX11_printsPart_124 : decode cX11_printsPart 124 = .ok (.getfield 102, 3) := by decide +kernel
theorem dX11_printsPart_127 : decode cX11_printsPart 127 = .ok (.iload 5, 2) := by decide +kernel
theorem dX11_printsPart_129 : decode cX11_printsPart 129 = .ok (.iaload, 1) := by decide +kernel
theorem dX11_printsPart_130 : decode cX11_printsPart 130 = .ok (.iconst 1, 1) := by decide +kernel
theorem dX11_printsPart_131 : decode cX11_printsPart 131 = .ok (.if_icmp .ne 8, 3) := by decide +kernel
theorem dX11_printsPart_134 : decode cX11_printsPart 134 = .ok (.iload 6, 2) := by decide +kernel
theorem dX11_printsPart_136 : decode cX11_printsPart 136 = .ok (.goto 10, 3) := by decide +kernel
theorem dX11_printsPart_139 : decode cX11_printsPart 139 = .ok (.aload_n 0, 1) := by decide +kernel
theorem dX11_printsPart_140 : decode cX11_printsPart 140 = .ok (.iload_n 3, 1) := by decide +kernel
theorem dX11_printsPart_141 : decode cX11_printsPart 141 = .ok (.iload 6, 2) := by decide +kernel
theorem dX11_printsPart_143 : decode cX11_printsPart 143 = .ok (.invokevirtual 347, 3) := by decide +kernel
theorem dX11_printsPart_146 : decode cX11_printsPart 146 = .ok (.invokevirtual 338, 3) := by decide +kernel
theorem dX11_printsPart_149 : decode cX11_printsPart 149 = .ok (.iinc 5 1, 3) := by decide +kernel
theorem dX11_printsPart_152 : decode cX11_printsPart 152 = .ok (.goto (-125), 3) := by decide +kernel
theorem dX11_printsPart_155 : decode cX11_printsPart 155 = .ok (.return_, 1) := by decide +kernel
theorem dX11_makes_0 : decode cX11_makes 0 = .ok (.aload_n 0, 1) := by decide +kernel
theorem dX11_makes_1 : decode cX11_makes 1 = .ok (.iload_n 1, 1) := by decide +kernel
theorem dX11_makes_2 : decode cX11_makes 2 = .ok (.invokevirtual 350, 3) := by decide +kernel
theorem dX11_makes_5 : decode cX11_makes 5 = .ok (.aload_n 0, 1) := by decide +kernel
theorem dX11_makes_6 : decode cX11_makes 6 = .ok (.iload_n 1, 1) := by decide +kernel
theorem dX11_makes_7 : decode cX11_makes 7 = .ok (.invokevirtual 353, 3) := by decide +kernel
theorem dX11_makes_10 : decode cX11_makes 10 = .ok (.aload_n 0, 1) := by decide +kernel
theorem dX11_makes_11 : decode cX11_makes 11 = .ok (.iconst 0, 1) := by decide +kernel
theorem dX11_makes_12 : decode cX11_makes 12 = .ok (.putfield 325, 3) := by decide +kernel
theorem dX11_makes_15 : decode cX11_makes 15 = .ok (.aload_n 0, 1) := by decide +kernel
theorem dX11_makes_16 : decode cX11_makes 16 = .ok (.iconst 0, 1) := by decide +kernel
theorem dX11_makes_17 : decode cX11_makes 17 = .ok (.putfield 322, 3) := by decide +kernel
theorem dX11_makes_20 : decode cX11_makes 20 = .ok (.aload_n 0, 1) := by decide +kernel
theorem dX11_makes_21 : decode cX11_makes 21 = .ok (.getfield 307, 3) := by decide +kernel
theorem dX11_makes_24 : decode cX11_makes 24 = .ok (.ifCond .ne 31, 3) := by decide +kernel
theorem dX11_makes_27 : decode cX11_makes 27 = .ok (.aload_n 0, 1) := by decide +kernel
theorem dX11_makes_28 : decode cX11_makes 28 = .ok (.iload_n 1, 1) := by decide +kernel
theorem dX11_makes_29 : decode cX11_makes 29 = .ok (.invokevirtual 356, 3) := by decide +kernel
theorem dX11_makes_32 : decode cX11_makes 32 = .ok (.iconst 0, 1) := by decide +kernel
theorem dX11_makes_33 : decode cX11_makes 33 = .ok (.istore_n 3, 1) := by decide +kernel
theorem dX11_makes_34 : decode cX11_makes 34 = .ok (.iload_n 3, 1) := by decide +kernel
theorem dX11_makes_35 : decode cX11_makes 35 = .ok (.aload_n 0, 1) := by decide +kernel
theorem dX11_makes_36 : decode cX11_makes 36 = .ok (.getfield 322, 3) := by decide +kernel
theorem dX11_makes_39 : decode cX11_makes 39 = .ok (.if_icmp .ge 16, 3) := by decide +kernel
theorem dX11_makes_42 : decode cX11_makes 42 = .ok (.aload_n 0, 1) := by decide +kernel
theorem dX11_makes_43 : decode cX11_makes 43 = .ok (.iload_n 1, 1) := by decide +kernel
theorem dX11_makes_44 : decode cX11_makes 44 = .ok (.iload_n 3, 1) := by decide +kernel
theorem dX11_makes_45 : decode cX11_makes 45 = .ok (.iload_n 2, 1) := by decide +kernel
theorem dX11_makes_46 : decode cX11_makes 46 = .ok (.invokevirtual 359, 3) := by decide +kernel
theorem dX11_makes_49 : decode cX11_makes 49 = .ok (.iinc 3 1, 3) := by decide +kernel
theorem dX11_makes_52 : decode cX11_makes 52 = .ok (.goto (-18), 3) := by decide +kernel
theorem dX11_makes_55 : decode cX11_makes 55 = .ok (.return_, 1) := by decide +kernel
theorem dX11_make_0 : decode cX11_make 0 = .ok (.aload_n 0, 1) := by decide +kernel
theorem dX11_make_1 : decode cX11_make 1 = .ok (.iconst 0, 1) := by decide +kernel
theorem dX11_make_2 : decode cX11_make 2 = .ok (.putfield 1, 3) := by decide +kernel
theorem dX11_make_5 : decode cX11_make 5 = .ok (.aload_n 0, 1) := by decide +kernel
theorem dX11_make_6 : decode cX11_make 6 = .ok (.getfield 159, 3) := by decide +kernel
theorem dX11_make_9 : decode cX11_make 9 = .ok (.ifCond .lt 14, 3) := by decide +kernel
theorem dX11_make_12 : decode cX11_make 12 = .ok (.iload_n 1, 1) := by decide +kernel
theorem dX11_make_13 : decode cX11_make 13 = .ok (.ifCond .lt 10, 3) := by decide +kernel
theorem dX11_make_16 : decode cX11_make 16 = .ok (.iload_n 1, 1) := by decide +kernel
theorem dX11_make_17 : decode cX11_make 17 = .ok (.sipush 9999, 3) := by decide +kernel
theorem dX11_make_20 : decode cX11_make 20 = .ok (.if_icmp .le 5, 3) := by decide +kernel
theorem dX11_make_23 : decode cX11_make 23 = .ok (.iconst (-1), 1) := by decide +kernel
theorem dX11_make_24 : decode cX11_make 24 = .ok (.ireturn, 1) := by decide +kernel
theorem dX11_make_25 : decode cX11_make 25 = .ok (.aload_n 0, 1) := by decide +kernel
theorem dX11_make_26 : decode cX11_make 26 = .ok (.iload_n 1, 1) := by decide +kernel
theorem dX11_make_27 : decode cX11_make 27 = .ok (.invokevirtual 363, 3) := by decide +kernel
theorem dX11_make_30 : decode cX11_make 30 = .ok (.aload_n 0, 1) := by decide +kernel
theorem dX11_make_31 : decode cX11_make 31 = .ok (.aload_n 0, 1) := by decide +kernel
theorem dX11_make_32 : decode cX11_make 32 = .ok (.getfield 159, 3) := by decide +kernel
theorem dX11_make_35 : decode cX11_make 35 = .ok (.iload_n 1, 1) := by decide +kernel
theorem dX11_make_36 : decode cX11_make 36 = .ok (.invokevirtual 366, 3) := by decide +kernel
theorem dX11_make_39 : decode cX11_make 39 = .ok (.aload_n 0, 1) := by decide +kernel
theorem dX11_make_40 : decode cX11_make 40 = .ok (.aload_n 0, 1) := by decide +kernel
theorem dX11_make_41 : decode cX11_make 41 = .ok (.getfield 307, 3) := by decide +kernel
theorem dX11_make_44 : decode cX11_make 44 = .ok (.putfield 156, 3) := by decide +kernel
theorem dX11_make_47 : decode cX11_make 47 = .ok (.aload_n 0, 1) := by decide +kernel
theorem dX11_make_48 : decode cX11_make 48 = .ok (.aload_n 0, 1) := by decide +kernel
theorem dX11_make_49 : decode cX11_make 49 = .ok (.getfield 310, 3) := by decide +kernel
theorem dX11_make_52 : decode cX11_make 52 = .ok (.putfield 369, 3) := by decide +kernel
theorem dX11_make_55 : decode cX11_make 55 = .ok (.aload_n 0, 1) := by decide +kernel
theorem dX11_make_56 : decode cX11_make 56 = .ok (.aload_n 0, 1) := by decide +kernel
theorem dX11_make_57 : decode cX11_make 57 = .ok (.getfield 313, 3) := by decide +kernel
theorem dX11_make_60 : decode cX11_make 60 = .ok (.putfield 372, 3) := by decide +kernel
theorem dX11_make_63 : decode cX11_make 63 = .ok (.aload_n 0, 1) := by decide +kernel
theorem dX11_make_64 : decode cX11_make 64 = .ok (.aload_n 0, 1) := by decide +kernel
theorem dX11_make_65 : decode cX11_make 65 = .ok (.getfield 325, 3) := by decide +kernel
theorem dX11_make_68 : decode cX11_make 68 = .ok (.putfield 375, 3) := by decide +kernel
theorem dX11_make_71 : decode cX11_make 71 = .ok (.aload_n 0, 1) := by decide +kernel
theorem dX11_make_72 : decode cX11_make 72 = .ok (.aload_n 0, 1) := by decide +kernel
theorem dX11_make_73 : decode cX11_make 73 = .ok (.getfield 322, 3) := by decide +kernel
theorem dX11_make_76 : decode cX11_make 76 = .ok (.putfield 378, 3) := by decide +kernel
theorem dX11_make_79 : decode cX11_make 79 = .ok (.iconst 0, 1) := by decide +kernel
theorem dX11_make_80 : decode cX11_make 80 = .ok (.istore_n 2, 1) := by decide +kernel
theorem dX11_make_81 : decode cX11_make 81 = .ok (.iload_n 2, 1) := by decide +kernel
theorem dX11_make_82 : decode cX11_make 82 = .ok (.aload_n 0, 1) := by decide +kernel
theorem dX11_make_83 : decode cX11_make 83 = .ok (.getfield 325, 3) := by decide +kernel
theorem dX11_make_86 : decode cX11_make 86 = .ok (.if_icmp .ge 21, 3) := by decide +kernel
theorem dX11_make_89 : decode cX11_make 89 = .ok (.aload_n 0, 1) := by decide +kernel
theorem dX11_make_90 : decode cX11_make 90 = .ok (.getfield 144, 3) := by decide +kernel
theorem dX11_make_93 : decode cX11_make 93 = .ok (.iload_n 2, 1) := by decide +kernel
theorem dX11_make_94 : decode cX11_make 94 = .ok (.aload_n 0, 1) := by decide +kernel
theorem dX11_make_95 : decode cX11_make 95 = .ok (.getfield 141, 3) := by decide +kernel
theorem dX11_make_98 : decode cX11_make 98 = .ok (.iload_n 2, 1) := by decide +kernel
theorem dX11_make_99 : decode cX11_make 99 = .ok (.iaload, 1) := by decide +kernel
theorem dX11_make_100 : decode cX11_make 100 = .ok (.iastore, 1) := by decide +kernel
theorem dX11_make_101 : decode cX11_make 101 = .ok (.iinc 2 1, 3) := by decide +kernel
theorem dX11_make_104 : decode cX11_make 104 = .ok (.goto (-23), 3) := by decide +kernel
theorem dX11_make_107 : decode cX11_make 107 = .ok (.iconst 0, 1) := by decide +kernel
theorem dX11_make_108 : decode cX11_make 108 = .ok (.istore_n 2, 1) := by decide +kernel
theorem dX11_make_109 : decode cX11_make 109 = .ok (.iload_n 2, 1) := by decide +kernel
theorem dX11_make_110 : decode cX11_make 110 = .ok (.aload_n 0, 1) := by decide +kernel
theorem dX11_make_111 : decode cX11_make 111 = .ok (.getfield 322, 3) := by decide +kernel
theorem dX11_make_114 : decode cX11_make 114 = .ok (.if_icmp .ge 21, 3) := by decide +kernel
theorem dX11_make_117 : decode cX11_make 117 = .ok (.aload_n 0, 1) := by decide +kernel
theorem dX11_make_118 : decode cX11_make 118 = .ok (.getfield 147, 3) := by decide +kernel
theorem dX11_make_121 : decode cX11_make 121 = .ok (.iload_n 2, 1) := by decide +kernel
theorem dX11_make_122 : decode cX11_make 122 = .ok (.aload_n 0, 1) := by decide +kernel
theorem dX11_make_123 : decode cX11_make 123 = .ok (.getfield 138, 3) := by decide +kernel
theorem dX11_make_126 : decode cX11_make 126 = .ok (.iload_n 2, 1) := by decide +kernel
theorem dX11_make_127 : decode cX11_make 127 = .ok (.iaload, 1) := by decide +kernel
theorem dX11_make_128 : decode cX11_make 128 = .ok (.iastore, 1) := by decide +kernel
theorem dX11_make_129 : decode cX11_make 129 = .ok (.iinc 2 1, 3) := by decide +kernel
theorem dX11_make_132 : decode cX11_make 132 = .ok (.goto (-23), 3) := by decide +kernel
theorem dX11_make_135 : decode cX11_make 135 = .ok (.aload_n 0, 1) := by decide +kernel
theorem dX11_make_136 : decode cX11_make 136 = .ok (.getfield 156, 3) := by decide +kernel
theorem dX11_make_139 : decode cX11_make 139 = .ok (.ireturn, 1) := by decide +kernel
theorem dX11_letter_0 : decode cX11_letter 0 = .ok (.aload_n 0, 1) := by decide +kernel
theorem dX11_letter_1 : decode cX11_letter 1 = .ok (.iconst 0, 1) := by decide +kernel
theorem dX11_letter_2 : decode cX11_letter 2 = .ok (.putfield 1, 3) := by decide +kernel
theorem dX11_letter_5 : decode cX11_letter 5 = .ok (.aload_n 0, 1) := by decide +kernel
theorem dX11_letter_6 : decode cX11_letter 6 = .ok (.getfield 156, 3) := by decide +kernel
theorem dX11_letter_9 : decode cX11_letter 9 = .ok (.ifCond .ge 5, 3) := by decide +kernel
theorem dX11_letter_12 : decode cX11_letter 12 = .ok (.iconst (-1), 1) := by decide +kernel
theorem dX11_letter_13 : decode cX11_letter 13 = .ok (.ireturn, 1) := by decide +kernel
theorem dX11_letter_14 : decode cX11_letter 14 = .ok (.iload_n 1, 1) := by decide +kernel
theorem dX11_letter_15 : decode cX11_letter 15 = .ok (.ifCond .ne 10, 3) := by decide +kernel
theorem dX11_letter_18 : decode cX11_letter 18 = .ok (.aload_n 0, 1) := by decide +kernel
theorem dX11_letter_19 : decode cX11_letter 19 = .ok (.getfield 375, 3) := by decide +kernel
theorem dX11_letter_22 : decode cX11_letter 22 = .ok (.goto 40, 3) := by decide +kernel
theorem dX11_letter_25 : decode cX11_letter 25 = .ok (.iload_n 1, 1) := by decide +kernel
theorem dX11_letter_26 : decode cX11_letter 26 = .ok (.iconst 1, 1) := by decide +kernel
theorem dX11_letter_27 : decode cX11_letter 27 = .ok (.if_icmp .ne 10, 3) := by decide +kernel
theorem dX11_letter_30 : decode cX11_letter 30 = .ok (.aload_n 0, 1) := by decide +kernel
theorem dX11_letter_31 : decode cX11_letter 31 = .ok (.getfield 378, 3) := by decide +kernel
theorem dX11_letter_34 : decode cX11_letter 34 = .ok (.goto 28, 3) := by decide +kernel
theorem dX11_letter_37 : decode cX11_letter 37 = .ok (.iload_n 1, 1) := by decide +kernel
theorem dX11_letter_38 : decode cX11_letter 38 = .ok (.iconst 2, 1) := by decide +kernel
theorem dX11_letter_39 : decode cX11_letter 39 = .ok (.if_icmp .ne 10, 3) := by decide +kernel
theorem dX11_letter_42 : decode cX11_letter 42 = .ok (.aload_n 0, 1) := by decide +kernel
theorem dX11_letter_43 : decode cX11_letter 43 = .ok (.getfield 369, 3) := by decide +kernel
theorem dX11_letter_46 : decode cX11_letter 46 = .ok (.goto 16, 3) := by decide +kernel
theorem dX11_letter_49 : decode cX11_letter 49 = .ok (.iload_n 1, 1) := by decide +kernel
theorem dX11_letter_50 : decode cX11_letter 50 = .ok (.iconst 3, 1) := by decide +kernel
theorem dX11_letter_51 : decode cX11_letter 51 = .ok (.if_icmp .ne 10, 3) := by decide +kernel
theorem dX11_letter_54 : decode cX11_letter 54 = .ok (.aload_n 0, 1) := by decide +kernel
theorem dX11_letter_55 : decode cX11_letter 55 = .ok (.getfield 372, 3) := by decide +kernel
theorem dX11_letter_58 : decode cX11_letter 58 = .ok (.goto 4, 3) := by decide +kernel
theorem dX11_letter_61 : decode cX11_letter 61 = .ok (.iconst (-1), 1) := by decide +kernel
theorem dX11_letter_62 : decode cX11_letter 62 = .ok (.ireturn, 1) := by decide +kernel
theorem dX11_out_0 : decode cX11_out 0 = .ok (.aload_n 0, 1) := by decide +kernel
theorem dX11_out_1 : decode cX11_out 1 = .ok (.iconst 0, 1) := by decide +kernel
theorem dX11_out_2 : decode cX11_out 2 = .ok (.putfield 1, 3) := by decide +kernel
theorem dX11_out_5 : decode cX11_out 5 = .ok (.aload_n 0, 1) := by decide +kernel
theorem dX11_out_6 : decode cX11_out 6 = .ok (.getfield 156, 3) := by decide +kernel
theorem dX11_out_9 : decode cX11_out 9 = .ok (.ifCond .lt 15, 3) := by decide +kernel
theorem dX11_out_12 : decode cX11_out 12 = .ok (.iload_n 1, 1) := by decide +kernel
theorem dX11_out_13 : decode cX11_out 13 = .ok (.ifCond .lt 11, 3) := by decide +kernel
theorem dX11_out_16 : decode cX11_out 16 = .ok (.iload_n 1, 1) := by decide +kernel
theorem dX11_out_17 : decode cX11_out 17 = .ok (.aload_n 0, 1) := by decide +kernel
theorem dX11_out_18 : decode cX11_out 18 = .ok (.getfield 375, 3) := by decide +kernel
theorem dX11_out_21 : decode cX11_out 21 = .ok (.if_icmp .lt 7, 3) := by decide +kernel
theorem dX11_out_24 : decode cX11_out 24 = .ok (.iconst (-1), 1) := by decide +kernel
theorem dX11_out_25 : decode cX11_out 25 = .ok (.goto 9, 3) := by decide +kernel
theorem dX11_out_28 : decode cX11_out 28 = .ok (.aload_n 0, 1) := by decide +kernel
theorem dX11_out_29 : decode cX11_out 29 = .ok (.getfield 144, 3) := by decide +kernel
theorem dX11_out_32 : decode cX11_out 32 = .ok (.iload_n 1, 1) := by decide +kernel
theorem dX11_out_33 : decode cX11_out 33 = .ok (.iaload, 1) := by decide +kernel
theorem dX11_out_34 : decode cX11_out 34 = .ok (.ireturn, 1) := by decide +kernel
theorem dX11_part__0 : decode cX11_part_ 0 = .ok (.aload_n 0, 1) := by decide +kernel
theorem dX11_part__1 : decode cX11_part_ 1 = .ok (.iconst 0, 1) := by decide +kernel
theorem dX11_part__2 : decode cX11_part_ 2 = .ok (.putfield 1, 3) := by decide +kernel
theorem dX11_part__5 : decode cX11_part_ 5 = .ok (.aload_n 0, 1) := by decide +kernel
theorem dX11_part__6 : decode cX11_part_ 6 = .ok (.getfield 156, 3) := by decide +kernel
theorem dX11_part__9 : decode cX11_part_ 9 = .ok (.ifCond .lt 16, 3) := by decide +kernel
theorem dX11_part__12 : decode cX11_part_ 12 = .ok (.iload_n 1, 1) := by decide +kernel
theorem dX11_part__13 : decode cX11_part_ 13 = .ok (.iconst 1, 1) := by decide +kernel
theorem dX11_part__14 : decode cX11_part_ 14 = .ok (.if_icmp .lt 11, 3) := by decide +kernel
theorem dX11_part__17 : decode cX11_part_ 17 = .ok (.iload_n 1, 1) := by decide +kernel
theorem dX11_part__18 : decode cX11_part_ 18 = .ok (.aload_n 0, 1) := by decide +kernel
theorem dX11_part__19 : decode cX11_part_ 19 = .ok (.getfield 378, 3) := by decide +kernel
theorem dX11_part__22 : decode cX11_part_ 22 = .ok (.if_icmp .le 7, 3) := by decide +kernel
theorem dX11_part__25 : decode cX11_part_ 25 = .ok (.iconst (-1), 1) := by decide +kernel
theorem dX11_part__26 : decode cX11_part_ 26 = .ok (.goto 11, 3) := by decide +kernel
theorem dX11_part__29 : decode cX11_part_ 29 = .ok (.aload_n 0, 1) := by decide +kernel
theorem dX11_part__30 : decode cX11_part_ 30 = .ok (.getfield 147, 3) := by decide +kernel
theorem dX11_part__33 : decode cX11_part_ 33 = .ok (.iload_n 1, 1) := by decide +kernel
theorem dX11_part__34 : decode cX11_part_ 34 = .ok (.iconst 1, 1) := by decide +kernel
theorem dX11_part__35 : decode cX11_part_ 35 = .ok (.isub, 1) := by decide +kernel
theorem dX11_part__36 : decode cX11_part_ 36 = .ok (.iaload, 1) := by decide +kernel
theorem dX11_part__37 : decode cX11_part_ 37 = .ok (.ireturn, 1) := by decide +kernel
theorem dX11_keepsFacts_0 : decode cX11_keepsFacts 0 = .ok (.iconst 0, 1) := by decide +kernel
theorem dX11_keepsFacts_1 : decode cX11_keepsFacts 1 = .ok (.istore_n 2, 1) := by decide +kernel
theorem dX11_keepsFacts_2 : decode cX11_keepsFacts 2 = .ok (.iload_n 2, 1) := by decide +kernel
theorem dX11_keepsFacts_3 : decode cX11_keepsFacts 3 = .ok (.bipush 8, 2) := by decide +kernel
theorem dX11_keepsFacts_5 : decode cX11_keepsFacts 5 = .ok (.if_icmp .ge 40, 3) := by decide +kernel
theorem dX11_keepsFacts_8 : decode cX11_keepsFacts 8 = .ok (.iload_n 1, 1) := by decide +kernel
theorem dX11_keepsFacts_9 : decode cX11_keepsFacts 9 = .ok (.ifCond .eq 18, 3) := by decide +kernel
theorem dX11_keepsFacts_12 : decode cX11_keepsFacts 12 = .ok (.aload_n 0, 1) := by decide +kernel
theorem dX11_keepsFacts_13 : decode cX11_keepsFacts 13 = .ok (.getfield 123, 3) := by decide +kernel
theorem dX11_keepsFacts_16 : decode cX11_keepsFacts 16 = .ok (.iload_n 2, 1) := by decide +kernel
theorem dX11_keepsFacts_17 : decode cX11_keepsFacts 17 = .ok (.aload_n 0, 1) := by decide +kernel
theorem dX11_keepsFacts_18 : decode cX11_keepsFacts 18 = .ok (.getfield 150, 3) := by decide +kernel
theorem dX11_keepsFacts_21 : decode cX11_keepsFacts 21 = .ok (.iload_n 2, 1) := by decide +kernel
theorem dX11_keepsFacts_22 : decode cX11_keepsFacts 22 = .ok (.iaload, 1) := by decide +kernel
theorem dX11_keepsFacts_23 : decode cX11_keepsFacts 23 = .ok (.iastore, 1) := by decide +kernel
theorem dX11_keepsFacts_24 : decode cX11_keepsFacts 24 = .ok (.goto 15, 3) := by decide +kernel
theorem dX11_keepsFacts_27 : decode cX11_keepsFacts 27 = .ok (.aload_n 0, 1) := by decide +kernel
theorem dX11_keepsFacts_28 : decode cX11_keepsFacts 28 = .ok (.getfield 150, 3) := by decide +kernel
theorem dX11_keepsFacts_31 : decode cX11_keepsFacts 31 = .ok (.iload_n 2, 1) := by decide +kernel
theorem dX11_keepsFacts_32 : decode cX11_keepsFacts 32 = .ok (.aload_n 0, 1) := by decide +kernel
theorem dX11_keepsFacts_33 : decode cX11_keepsFacts 33 = .ok (.getfield 123, 3) := by decide +kernel
theorem dX11_keepsFacts_36 : decode cX11_keepsFacts 36 = .ok (.iload_n 2, 1) := by decide +kernel
theorem dX11_keepsFacts_37 : decode cX11_keepsFacts 37 = .ok (.iaload, 1) := by decide +kernel
theorem dX11_keepsFacts_38 : decode cX11_keepsFacts 38 = .ok (.iastore, 1) := by decide +kernel
theorem dX11_keepsFacts_39 : decode cX11_keepsFacts 39 = .ok (.iinc 2 1, 3) := by decide +kernel
theorem dX11_keepsFacts_42 : decode cX11_keepsFacts 42 = .ok (.goto (-40), 3) := by decide +kernel
theorem dX11_keepsFacts_45 : decode cX11_keepsFacts 45 = .ok (.return_, 1) := by decide +kernel
theorem dX11_judge_0 : decode cX11_judge 0 = .ok (.aload_n 0, 1) := by decide +kernel
theorem dX11_judge_1 : decode cX11_judge 1 = .ok (.iconst 0, 1) := by decide +kernel
theorem dX11_judge_2 : decode cX11_judge 2 = .ok (.putfield 1, 3) := by decide +kernel
theorem dX11_judge_5 : decode cX11_judge 5 = .ok (.aload_n 0, 1) := by decide +kernel
theorem dX11_judge_6 : decode cX11_judge 6 = .ok (.getfield 159, 3) := by decide +kernel
theorem dX11_judge_9 : decode cX11_judge 9 = .ok (.ifCond .lt 22, 3) := by decide +kernel
theorem dX11_judge_12 : decode cX11_judge 12 = .ok (.iload_n 1, 1) := by decide +kernel
theorem dX11_judge_13 : decode cX11_judge 13 = .ok (.iconst 1, 1) := by decide +kernel
theorem dX11_judge_14 : decode cX11_judge 14 = .ok (.if_icmp .lt 17, 3) := by decide +kernel
theorem dX11_judge_17 : decode cX11_judge 17 = .ok (.iload_n 1, 1) := by decide +kernel
theorem dX11_judge_18 : decode cX11_judge 18 = .ok (.iconst 4, 1) := by decide +kernel
theorem dX11_judge_19 : decode cX11_judge 19 = .ok (.if_icmp .gt 12, 3) := by decide +kernel
theorem dX11_judge_22 : decode cX11_judge 22 = .ok (.iload_n 2, 1) := by decide +kernel
theorem dX11_judge_23 : decode cX11_judge 23 = .ok (.ifCond .lt 8, 3) := by decide +kernel
theorem dX11_judge_26 : decode cX11_judge 26 = .ok (.iload_n 2, 1) := by decide +kernel
theorem dX11_judge_27 : decode cX11_judge 27 = .ok (.iconst 1, 1) := by decide +kernel
theorem dX11_judge_28 : decode cX11_judge 28 = .ok (.if_icmp .le 5, 3) := by decide +kernel
theorem dX11_judge_31 : decode cX11_judge 31 = .ok (.iconst (-1), 1) := by decide +kernel
theorem dX11_judge_32 : decode cX11_judge 32 = .ok (.ireturn, 1) := by decide +kernel
theorem dX11_judge_33 : decode cX11_judge 33 = .ok (.aload_n 0, 1) := by decide +kernel
theorem dX11_judge_34 : decode cX11_judge 34 = .ok (.iconst 0, 1) := by decide +kernel
theorem dX11_judge_35 : decode cX11_judge 35 = .ok (.invokevirtual 381, 3) := by decide +kernel
theorem dX11_judge_38 : decode cX11_judge 38 = .ok (.iconst 0, 1) := by decide +kernel
theorem dX11_judge_39 : decode cX11_judge 39 = .ok (.istore_n 3, 1) := by decide +kernel
theorem dX11_judge_40 : decode cX11_judge 40 = .ok (.iconst (-1), 1) := by decide +kernel
theorem dX11_judge_41 : decode cX11_judge 41 = .ok (.istore 4, 2) := by decide +kernel
theorem dX11_judge_43 : decode cX11_judge 43 = .ok (.iconst 0, 1) := by decide +kernel
theorem dX11_judge_44 : decode cX11_judge 44 = .ok (.istore 5, 2) := by decide +kernel
theorem dX11_judge_46 : decode cX11_judge 46 = .ok (.iload 5, 2) := by decide +kernel
theorem dX11_judge_48 : decode cX11_judge 48 = .ok (.i2l, 1) := by decide +kernel
theorem dX11_judge_49 : decode cX11_judge 49 = .ok (.aload_n 0, 1) := by decide +kernel
theorem dX11_judge_50 : decode cX11_judge 50 = .ok (.aload_n 0, 1) := by decide +kernel
theorem dX11_judge_51 : decode cX11_judge 51 = .ok (.getfield 159, 3) := by decide +kernel
theorem dX11_judge_54 : decode cX11_judge 54 = .ok (.invokevirtual 242, 3) := by decide +kernel
theorem dX11_judge_57 : decode cX11_judge 57 = .ok (.lcmp, 1) := by decide +kernel
theorem dX11_judge_58 : decode cX11_judge 58 = .ok (.ifCond .ge 60, 3) := by decide +kernel
theorem dX11_judge_61 : decode cX11_judge 61 = .ok (.aload_n 0, 1) := by decide +kernel
theorem dX11_judge_62 : decode cX11_judge 62 = .ok (.aload_n 0, 1) := by decide +kernel
theorem dX11_judge_63 : decode cX11_judge 63 = .ok (.getfield 159, 3) := by decide +kernel
theorem dX11_judge_66 : decode cX11_judge 66 = .ok (.iload 5, 2) := by decide +kernel
theorem dX11_judge_68 : decode cX11_judge 68 = .ok (.invokevirtual 289, 3) := by decide +kernel
theorem dX11_judge_71 : decode cX11_judge 71 = .ok (.aload_n 0, 1) := by decide +kernel
theorem dX11_judge_72 : decode cX11_judge 72 = .ok (.aload_n 0, 1) := by decide +kernel
theorem dX11_judge_73 : decode cX11_judge 73 = .ok (.getfield 159, 3) := by decide +kernel
theorem dX11_judge_76 : decode cX11_judge 76 = .ok (.invokevirtual 350, 3) := by decide +kernel
theorem dX11_judge_79 : decode cX11_judge 79 = .ok (.aload_n 0, 1) := by decide +kernel
theorem dX11_judge_80 : decode cX11_judge 80 = .ok (.aload_n 0, 1) := by decide +kernel
theorem dX11_judge_81 : decode cX11_judge 81 = .ok (.getfield 159, 3) := by decide +kernel
theorem dX11_judge_84 : decode cX11_judge 84 = .ok (.invokevirtual 353, 3) := by decide +kernel
theorem dX11_judge_87 : decode cX11_judge 87 = .ok (.aload_n 0, 1) := by decide +kernel
theorem dX11_judge_88 : decode cX11_judge 88 = .ok (.getfield 307, 3) := by decide +kernel
theorem dX11_judge_91 : decode cX11_judge 91 = .ok (.iload_n 1, 1) := by decide +kernel
theorem dX11_judge_92 : decode cX11_judge 92 = .ok (.if_icmp .ne 20, 3) := by decide +kernel
theorem dX11_judge_95 : decode cX11_judge 95 = .ok (.iinc 3 1, 3) := by decide +kernel
theorem dX11_judge_98 : decode cX11_judge 98 = .ok (.iload 4, 2) := by decide +kernel
theorem dX11_judge_100 : decode cX11_judge 100 = .ok (.ifCond .ge 8, 3) := by decide +kernel
theorem dX11_judge_103 : decode cX11_judge 103 = .ok (.iload 5, 2) := by decide +kernel
theorem dX11_judge_105 : decode cX11_judge 105 = .ok (.goto 5, 3) := by decide +kernel
theorem dX11_judge_108 : decode cX11_judge 108 = .ok (.iload 4, 2) := by decide +kernel
theorem dX11_judge_110 : decode cX11_judge 110 = .ok (.istore 4, 2) := by decide +kernel
theorem dX11_judge_112 : decode cX11_judge 112 = .ok (.iinc 5 1, 3) := by decide +kernel
theorem dX11_judge_115 : decode cX11_judge 115 = .ok (.goto (-69), 3) := by decide +kernel
theorem dX11_judge_118 : decode cX11_judge 118 = .ok (.aload_n 0, 1) := by decide +kernel
theorem dX11_judge_119 : decode cX11_judge 119 = .ok (.iconst 1, 1) := by decide +kernel
theorem dX11_judge_120 : decode cX11_judge 120 = .ok (.invokevirtual 381, 3) := by decide +kernel
theorem dX11_judge_123 : decode cX11_judge 123 = .ok (.iload_n 2, 1) := by decide +kernel
theorem dX11_judge_124 : decode cX11_judge 124 = .ok (.ifCond .ne 7, 3) := by decide +kernel
theorem dX11_judge_127 : decode cX11_judge 127 = .ok (.iload_n 3, 1) := by decide +kernel
theorem dX11_judge_128 : decode cX11_judge 128 = .ok (.goto 5, 3) := by decide +kernel
theorem dX11_judge_131 : decode cX11_judge 131 = .ok (.iload 4, 2) := by decide +kernel
theorem dX11_judge_133 : decode cX11_judge 133 = .ok (.ireturn, 1) := by decide +kernel
theorem dX11_haveSameFacts_0 : decode cX11_haveSameFacts 0 = .ok (.aload_n 0, 1) := by decide +kernel
theorem dX11_haveSameFacts_1 : decode cX11_haveSameFacts 1 = .ok (.getfield 62, 3) := by decide +kernel
theorem dX11_haveSameFacts_4 : decode cX11_haveSameFacts 4 = .ok (.iload_n 1, 1) := by decide +kernel
theorem dX11_haveSameFacts_5 : decode cX11_haveSameFacts 5 = .ok (.iaload, 1) := by decide +kernel
theorem dX11_haveSameFacts_6 : decode cX11_haveSameFacts 6 = .ok (.aload_n 0, 1) := by decide +kernel
theorem dX11_haveSameFacts_7 : decode cX11_haveSameFacts 7 = .ok (.getfield 62, 3) := by decide +kernel
theorem dX11_haveSameFacts_10 : decode cX11_haveSameFacts 10 = .ok (.iload_n 2, 1) := by decide +kernel
theorem dX11_haveSameFacts_11 : decode cX11_haveSameFacts 11 = .ok (.iaload, 1) := by decide +kernel
theorem dX11_haveSameFacts_12 : decode cX11_haveSameFacts 12 = .ok (.if_icmp .ne 7, 3) := by decide +kernel
theorem dX11_haveSameFacts_15 : decode cX11_haveSameFacts 15 = .ok (.iconst 1, 1) := by decide +kernel
theorem dX11_haveSameFacts_16 : decode cX11_haveSameFacts 16 = .ok (.goto 4, 3) := by decide +kernel
theorem dX11_haveSameFacts_19 : decode cX11_haveSameFacts 19 = .ok (.iconst 0, 1) := by decide +kernel
theorem dX11_haveSameFacts_20 : decode cX11_haveSameFacts 20 = .ok (.istore_n 3, 1) := by decide +kernel
theorem dX11_haveSameFacts_21 : decode cX11_haveSameFacts 21 = .ok (.iconst 0, 1) := by decide +kernel
theorem dX11_haveSameFacts_22 : decode cX11_haveSameFacts 22 = .ok (.istore 4, 2) := by decide +kernel
theorem dX11_haveSameFacts_24 : decode cX11_haveSameFacts 24 = .ok (.iload 4, 2) := by decide +kernel
theorem dX11_haveSameFacts_26 : decode cX11_haveSameFacts 26 = .ok (.aload_n 0, 1) := by decide +kernel
theorem dX11_haveSameFacts_27 : decode cX11_haveSameFacts 27 = .ok (.getfield 62, 3) := by decide +kernel
theorem dX11_haveSameFacts_30 : decode cX11_haveSameFacts 30 = .ok (.iload_n 1, 1) := by decide +kernel
theorem dX11_haveSameFacts_31 : decode cX11_haveSameFacts 31 = .ok (.iaload, 1) := by decide +kernel
theorem dX11_haveSameFacts_32 : decode cX11_haveSameFacts 32 = .ok (.if_icmp .ge 101, 3) := by decide +kernel
theorem dX11_haveSameFacts_35 : decode cX11_haveSameFacts 35 = .ok (.iload_n 3, 1) := by decide +kernel
theorem dX11_haveSameFacts_36 : decode cX11_haveSameFacts 36 = .ok (.ifCond .eq 97, 3) := by decide +kernel
theorem dX11_haveSameFacts_39 : decode cX11_haveSameFacts 39 = .ok (.aload_n 0, 1) := by decide +kernel
theorem dX11_haveSameFacts_40 : decode cX11_haveSameFacts 40 = .ok (.getfield 65, 3) := by decide +kernel
theorem dX11_haveSameFacts_43 : decode cX11_haveSameFacts 43 = .ok (.bipush 8, 2) := by decide +kernel
theorem dX11_haveSameFacts_45 : decode cX11_haveSameFacts 45 = .ok (.iload_n 1, 1) := by decide +kernel
theorem dX11_haveSameFacts_46 : decode cX11_haveSameFacts 46 = .ok (.imul, 1) := by decide +kernel
theorem dX11_haveSameFacts_47 : decode cX11_haveSameFacts 47 = .ok (.iload 4, 2) := by decide +kernel
theorem dX11_haveSameFacts_49 : decode cX11_haveSameFacts 49 = .ok (.iadd, 1) := by decide +kernel
theorem dX11_haveSameFacts_50 : decode cX11_haveSameFacts 50 = .ok (.laload, 1) := by decide +kernel
theorem dX11_haveSameFacts_51 : decode cX11_haveSameFacts 51 = .ok (.aload_n 0, 1) := by decide +kernel
theorem dX11_haveSameFacts_52 : decode cX11_haveSameFacts 52 = .ok (.getfield 65, 3) := by decide +kernel
theorem dX11_haveSameFacts_55 : decode cX11_haveSameFacts 55 = .ok (.bipush 8, 2) := by decide +kernel
theorem dX11_haveSameFacts_57 : decode cX11_haveSameFacts 57 = .ok (.iload_n 2, 1) := by decide +kernel
theorem dX11_haveSameFacts_58 : decode cX11_haveSameFacts 58 = .ok (.imul, 1) := by decide +kernel
theorem dX11_haveSameFacts_59 : decode cX11_haveSameFacts 59 = .ok (.iload 4, 2) := by decide +kernel
theorem dX11_haveSameFacts_61 : decode cX11_haveSameFacts 61 = .ok (.iadd, 1) := by decide +kernel
theorem dX11_haveSameFacts_62 : decode cX11_haveSameFacts 62 = .ok (.laload, 1) := by decide +kernel
theorem dX11_haveSameFacts_63 : decode cX11_haveSameFacts 63 = .ok (.lcmp, 1) := by decide +kernel
theorem dX11_haveSameFacts_64 : decode cX11_haveSameFacts 64 = .ok (.ifCond .ne 61, 3) := by decide +kernel
theorem dX11_haveSameFacts_67 : decode cX11_haveSameFacts 67 = .ok (.aload_n 0, 1) := by decide +kernel
theorem dX11_haveSameFacts_68 : decode cX11_haveSameFacts 68 = .ok (.getfield 68, 3) := by decide +kernel
theorem dX11_haveSameFacts_71 : decode cX11_haveSameFacts 71 = .ok (.bipush 8, 2) := by decide +kernel
theorem dX11_haveSameFacts_73 : decode cX11_haveSameFacts 73 = .ok (.iload_n 1, 1) := by decide +kernel
theorem dX11_haveSameFacts_74 : decode cX11_haveSameFacts 74 = .ok (.imul, 1) := by decide +kernel
theorem dX11_haveSameFacts_75 : decode cX11_haveSameFacts 75 = .ok (.iload 4, 2) := by decide +kernel
theorem dX11_haveSameFacts_77 : decode cX11_haveSameFacts 77 = .ok (.iadd, 1) := by decide +kernel
theorem dX11_haveSameFacts_78 : decode cX11_haveSameFacts 78 = .ok (.iaload, 1) := by decide +kernel
theorem dX11_haveSameFacts_79 : decode cX11_haveSameFacts 79 = .ok (.aload_n 0, 1) := by decide +kernel
theorem dX11_haveSameFacts_80 : decode cX11_haveSameFacts 80 = .ok (.getfield 68, 3) := by decide +kernel
theorem dX11_haveSameFacts_83 : decode cX11_haveSameFacts 83 = .ok (.bipush 8, 2) := by decide +kernel
theorem dX11_haveSameFacts_85 : decode cX11_haveSameFacts 85 = .ok (.iload_n 2, 1) := by decide +kernel
theorem dX11_haveSameFacts_86 : decode cX11_haveSameFacts 86 = .ok (.imul, 1) := by decide +kernel
theorem dX11_haveSameFacts_87 : decode cX11_haveSameFacts 87 = .ok (.iload 4, 2) := by decide +kernel
theorem dX11_haveSameFacts_89 : decode cX11_haveSameFacts 89 = .ok (.iadd, 1) := by decide +kernel
theorem dX11_haveSameFacts_90 : decode cX11_haveSameFacts 90 = .ok (.iaload, 1) := by decide +kernel
theorem dX11_haveSameFacts_91 : decode cX11_haveSameFacts 91 = .ok (.if_icmp .ne 34, 3) := by decide +kernel
theorem dX11_haveSameFacts_94 : decode cX11_haveSameFacts 94 = .ok (.aload_n 0, 1) := by decide +kernel
theorem dX11_haveSameFacts_95 : decode cX11_haveSameFacts 95 = .ok (.getfield 71, 3) := by decide +kernel
theorem dX11_haveSameFacts_98 : decode cX11_haveSameFacts 98 = .ok (.bipush 8, 2) := by decide +kernel
theorem dX11_haveSameFacts_100 : decode cX11_haveSameFacts 100 = .ok (.iload_n 1, 1) := by decide +kernel
theorem dX11_haveSameFacts_101 : decode cX11_haveSameFacts 101 = .ok (.imul, 1) := by decide +kernel
theorem dX11_haveSameFacts_102 : decode cX11_haveSameFacts 102 = .ok (.iload 4, 2) := by decide +kernel
theorem dX11_haveSameFacts_104 : decode cX11_haveSameFacts 104 = .ok (.iadd, 1) := by decide +kernel
theorem dX11_haveSameFacts_105 : decode cX11_haveSameFacts 105 = .ok (.iaload, 1) := by decide +kernel
theorem dX11_haveSameFacts_106 : decode cX11_haveSameFacts 106 = .ok (.aload_n 0, 1) := by decide +kernel
theorem dX11_haveSameFacts_107 : decode cX11_haveSameFacts 107 = .ok (.getfield 71, 3) := by decide +kernel
theorem dX11_haveSameFacts_110 : decode cX11_haveSameFacts 110 = .ok (.bipush 8, 2) := by decide +kernel
theorem dX11_haveSameFacts_112 : decode cX11_haveSameFacts 112 = .ok (.iload_n 2, 1) := by decide +kernel
theorem dX11_haveSameFacts_113 : decode cX11_haveSameFacts 113 = .ok (.imul, 1) := by decide +kernel
theorem dX11_haveSameFacts_114 : decode cX11_haveSameFacts 114 = .ok (.iload 4, 2) := by decide +kernel
theorem dX11_haveSameFacts_116 : decode cX11_haveSameFacts 116 = .ok (.iadd, 1) := by decide +kernel
theorem dX11_haveSameFacts_117 : decode cX11_haveSameFacts 117 = .ok (.iaload, 1) := by decide +kernel
theorem dX11_haveSameFacts_118 : decode cX11_haveSameFacts 118 = .ok (.if_icmp .ne 7, 3) := by decide +kernel
theorem dX11_haveSameFacts_121 : decode cX11_haveSameFacts 121 = .ok (.iconst 1, 1) := by decide +kernel
theorem dX11_haveSameFacts_122 : decode cX11_haveSameFacts 122 = .ok (.goto 4, 3) := by decide +kernel
theorem dX11_haveSameFacts_125 : decode cX11_haveSameFacts 125 = .ok (.iconst 0, 1) := by decide +kernel
theorem dX11_haveSameFacts_126 : decode cX11_haveSameFacts 126 = .ok (.istore_n 3, 1) := by decide +kernel
theorem dX11_haveSameFacts_127 : decode cX11_haveSameFacts 127 = .ok (.iinc 4 1, 3) := by decide +kernel
theorem dX11_haveSameFacts_130 : decode cX11_haveSameFacts 130 = .ok (.goto (-106), 3) := by decide +kernel
theorem dX11_haveSameFacts_133 : decode cX11_haveSameFacts 133 = .ok (.iload_n 3, 1) := by decide +kernel
theorem dX11_haveSameFacts_134 : decode cX11_haveSameFacts 134 = .ok (.ireturn, 1) := by decide +kernel
theorem dX11_areAlike_0 : decode cX11_areAlike 0 = .ok (.aload_n 0, 1) := by decide +kernel
theorem dX11_areAlike_1 : decode cX11_areAlike 1 = .ok (.iload_n 1, 1) := by decide +kernel
theorem dX11_areAlike_2 : decode cX11_areAlike 2 = .ok (.iload_n 3, 1) := by decide +kernel
theorem dX11_areAlike_3 : decode cX11_areAlike 3 = .ok (.invokevirtual 366, 3) := by decide +kernel
theorem dX11_areAlike_6 : decode cX11_areAlike 6 = .ok (.aload_n 0, 1) := by decide +kernel
theorem dX11_areAlike_7 : decode cX11_areAlike 7 = .ok (.getfield 307, 3) := by decide +kernel
theorem dX11_areAlike_10 : decode cX11_areAlike 10 = .ok (.istore 4, 2) := by decide +kernel
theorem dX11_areAlike_12 : decode cX11_areAlike 12 = .ok (.aload_n 0, 1) := by decide +kernel
theorem dX11_areAlike_13 : decode cX11_areAlike 13 = .ok (.getfield 310, 3) := by decide +kernel
theorem dX11_areAlike_16 : decode cX11_areAlike 16 = .ok (.istore 5, 2) := by decide +kernel
theorem dX11_areAlike_18 : decode cX11_areAlike 18 = .ok (.aload_n 0, 1) := by decide +kernel
theorem dX11_areAlike_19 : decode cX11_areAlike 19 = .ok (.getfield 313, 3) := by decide +kernel
theorem dX11_areAlike_22 : decode cX11_areAlike 22 = .ok (.istore 6, 2) := by decide +kernel
theorem dX11_areAlike_24 : decode cX11_areAlike 24 = .ok (.aload_n 0, 1) := by decide +kernel
theorem dX11_areAlike_25 : decode cX11_areAlike 25 = .ok (.getfield 325, 3) := by decide +kernel
theorem dX11_areAlike_28 : decode cX11_areAlike 28 = .ok (.istore 7, 2) := by decide +kernel
theorem dX11_areAlike_30 : decode cX11_areAlike 30 = .ok (.iconst 0, 1) := by decide +kernel
theorem dX11_areAlike_31 : decode cX11_areAlike 31 = .ok (.istore 8, 2) := by decide +kernel
theorem dX11_areAlike_33 : decode cX11_areAlike 33 = .ok (.iload 8, 2) := by decide +kernel
theorem dX11_areAlike_35 : decode cX11_areAlike 35 = .ok (.iload 7, 2) := by decide +kernel
theorem dX11_areAlike_37 : decode cX11_areAlike 37 = .ok (.if_icmp .ge 23, 3) := by decide +kernel
theorem dX11_areAlike_40 : decode cX11_areAlike 40 = .ok (.aload_n 0, 1) := by decide +kernel
theorem dX11_areAlike_41 : decode cX11_areAlike 41 = .ok (.getfield 153, 3) := by decide +kernel
theorem dX11_areAlike_44 : decode cX11_areAlike 44 = .ok (.iload 8, 2) := by decide +kernel
theorem dX11_areAlike_46 : decode cX11_areAlike 46 = .ok (.aload_n 0, 1) := by decide +kernel
theorem dX11_areAlike_47 : decode cX11_areAlike 47 = .ok (.getfield 141, 3) := by decide +kernel
theorem dX11_areAlike_50 : decode cX11_areAlike 50 = .ok (.iload 8, 2) := by decide +kernel
theorem dX11_areAlike_52 : decode cX11_areAlike 52 = .ok (.iaload, 1) := by decide +kernel
theorem dX11_areAlike_53 : decode cX11_areAlike 53 = .ok (.iastore, 1) := by decide +kernel
theorem dX11_areAlike_54 : decode cX11_areAlike 54 = .ok (.iinc 8 1, 3) := by decide +kernel
theorem dX11_areAlike_57 : decode cX11_areAlike 57 = .ok (.goto (-24), 3) := by decide +kernel
theorem dX11_areAlike_60 : decode cX11_areAlike 60 = .ok (.aload_n 0, 1) := by decide +kernel
theorem dX11_areAlike_61 : decode cX11_areAlike 61 = .ok (.iload_n 2, 1) := by decide +kernel
theorem dX11_areAlike_62 : decode cX11_areAlike 62 = .ok (.iload_n 3, 1) := by decide +kernel
theorem dX11_areAlike_63 : decode cX11_areAlike 63 = .ok (.invokevirtual 366, 3) := by decide +kernel
theorem dX11_areAlike_66 : decode cX11_areAlike 66 = .ok (.iload 4, 2) := by decide +kernel
theorem dX11_areAlike_68 : decode cX11_areAlike 68 = .ok (.aload_n 0, 1) := by decide +kernel
theorem dX11_areAlike_69 : decode cX11_areAlike 69 = .ok (.getfield 307, 3) := by decide +kernel
theorem dX11_areAlike_72 : decode cX11_areAlike 72 = .ok (.if_icmp .ne 34, 3) := by decide +kernel
theorem dX11_areAlike_75 : decode cX11_areAlike 75 = .ok (.iload 5, 2) := by decide +kernel
theorem dX11_areAlike_77 : decode cX11_areAlike 77 = .ok (.aload_n 0, 1) := by decide +kernel
theorem dX11_areAlike_78 : decode cX11_areAlike 78 = .ok (.getfield 310, 3) := by decide +kernel
theorem dX11_areAlike_81 : decode cX11_areAlike 81 = .ok (.if_icmp .ne 25, 3) := by decide +kernel
theorem dX11_areAlike_84 : decode cX11_areAlike 84 = .ok (.iload 6, 2) := by decide +kernel
theorem dX11_areAlike_86 : decode cX11_areAlike 86 = .ok (.aload_n 0, 1) := by decide +kernel
theorem dX11_areAlike_87 : decode cX11_areAlike 87 = .ok (.getfield 313, 3) := by decide +kernel
theorem dX11_areAlike_90 : decode cX11_areAlike 90 = .ok (.if_icmp .ne 16, 3) := by decide +kernel
theorem dX11_areAlike_93 : decode cX11_areAlike 93 = .ok (.iload 7, 2) := by decide +kernel
theorem dX11_areAlike_95 : decode cX11_areAlike 95 = .ok (.aload_n 0, 1) := by decide +kernel
theorem dX11_areAlike_96 : decode cX11_areAlike 96 = .ok (.getfield 325, 3) := by decide +kernel
theorem dX11_areAlike_99 : decode cX11_areAlike 99 = .ok (.if_icmp .ne 7, 3) := by decide +kernel
theorem dX11_areAlike_102 : decode cX11_areAlike 102 = .ok (.iconst 1, 1) := by decide +kernel
theorem dX11_areAlike_103 : decode cX11_areAlike 103 = .ok (.goto 4, 3) := by decide +kernel
theorem dX11_areAlike_106 : decode cX11_areAlike 106 = .ok (.iconst 0, 1) := by decide +kernel
theorem dX11_areAlike_107 : decode cX11_areAlike 107 = .ok (.istore 8, 2) := by decide +kernel
theorem dX11_areAlike_109 : decode cX11_areAlike 109 = .ok (.iconst 0, 1) := by decide +kernel
theorem dX11_areAlike_110 : decode cX11_areAlike 110 = .ok (.istore 9, 2) := by decide +kernel
theorem dX11_areAlike_112 : decode cX11_areAlike 112 = .ok (.iload 9, 2) := by decide +kernel
theorem dX11_areAlike_114 : decode cX11_areAlike 114 = .ok (.iload 7, 2) := by decide +kernel
theorem dX11_areAlike_116 : decode cX11_areAlike 116 = .ok (.if_icmp .ge 38, 3) := by decide +kernel
theorem dX11_areAlike_119 : decode cX11_areAlike 119 = .ok (.iload 8, 2) := by decide +kernel
theorem dX11_areAlike_121 : decode cX11_areAlike 121 = .ok (.ifCond .eq 33, 3) := by decide +kernel
theorem dX11_areAlike_124 : decode cX11_areAlike 124 = .ok (.aload_n 0, 1) := by decide +kernel
theorem dX11_areAlike_125 : decode cX11_areAlike 125 = .ok (.getfield 153, 3) := by decide +kernel
theorem dX11_areAlike_128 : decode cX11_areAlike 128 = .ok (.iload 9, 2) := by decide +kernel
theorem dX11_areAlike_130 : decode cX11_areAlike 130 = .ok (.iaload, 1) := by decide +kernel
theorem dX11_areAlike_131 : decode cX11_areAlike 131 = .ok (.aload_n 0, 1) := by decide +kernel
theorem dX11_areAlike_132 : decode cX11_areAlike 132 = .ok (.getfield 141, 3) := by decide +kernel
theorem dX11_areAlike_135 : decode cX11_areAlike 135 = .ok (.iload 9, 2) := by decide +kernel
theorem dX11_areAlike_137 : decode cX11_areAlike 137 = .ok (.iaload, 1) := by decide +kernel
theorem dX11_areAlike_138 : decode cX11_areAlike 138 = .ok (.if_icmp .ne 7, 3) := by decide +kernel
theorem dX11_areAlike_141 : decode cX11_areAlike 141 = .ok (.iconst 1, 1) := by decide +kernel
theorem dX11_areAlike_142 : decode cX11_areAlike 142 = .ok (.goto 4, 3) := by decide +kernel
theorem dX11_areAlike_145 : decode cX11_areAlike 145 = .ok (.iconst 0, 1) := by decide +kernel
theorem dX11_areAlike_146 : decode cX11_areAlike 146 = .ok (.istore 8, 2) := by decide +kernel
theorem dX11_areAlike_148 : decode cX11_areAlike 148 = .ok (.iinc 9 1, 3) := by decide +kernel
theorem dX11_areAlike_151 : decode cX11_areAlike 151 = .ok (.goto (-39), 3) := by decide +kernel
theorem dX11_areAlike_154 : decode cX11_areAlike 154 = .ok (.iload 8, 2) := by decide +kernel
theorem dX11_areAlike_156 : decode cX11_areAlike 156 = .ok (.ireturn, 1) := by decide +kernel
theorem dX11_changed_0 : decode cX11_changed 0 = .ok (.aload_n 0, 1) := by decide +kernel
theorem dX11_changed_1 : decode cX11_changed 1 = .ok (.iconst 0, 1) := by decide +kernel
theorem dX11_changed_2 : decode cX11_changed 2 = .ok (.putfield 1, 3) := by decide +kernel
theorem dX11_changed_5 : decode cX11_changed 5 = .ok (.iload_n 1, 1) := by decide +kernel
theorem dX11_changed_6 : decode cX11_changed 6 = .ok (.ifCond .lt 45, 3) := by decide +kernel
theorem dX11_changed_9 : decode cX11_changed 9 = .ok (.iload_n 1, 1) := by decide +kernel
theorem dX11_changed_10 : decode cX11_changed 10 = .ok (.aload_n 0, 1) := by decide +kernel
theorem dX11_changed_11 : decode cX11_changed 11 = .ok (.getfield 207, 3) := by decide +kernel
theorem dX11_changed_14 : decode cX11_changed 14 = .ok (.if_icmp .ge 37, 3) := by decide +kernel
theorem dX11_changed_17 : decode cX11_changed 17 = .ok (.iload_n 2, 1) := by decide +kernel
theorem dX11_changed_18 : decode cX11_changed 18 = .ok (.ifCond .lt 33, 3) := by decide +kernel
theorem dX11_changed_21 : decode cX11_changed 21 = .ok (.iload_n 2, 1) := by decide +kernel
theorem dX11_changed_22 : decode cX11_changed 22 = .ok (.aload_n 0, 1) := by decide +kernel
theorem dX11_changed_23 : decode cX11_changed 23 = .ok (.getfield 207, 3) := by decide +kernel
theorem dX11_changed_26 : decode cX11_changed 26 = .ok (.if_icmp .ge 25, 3) := by decide +kernel
theorem dX11_changed_29 : decode cX11_changed 29 = .ok (.iload_n 3, 1) := by decide +kernel
theorem dX11_changed_30 : decode cX11_changed 30 = .ok (.ifCond .lt 21, 3) := by decide +kernel
theorem dX11_changed_33 : decode cX11_changed 33 = .ok (.iload_n 3, 1) := by decide +kernel
theorem dX11_changed_34 : decode cX11_changed 34 = .ok (.sipush 9999, 3) := by decide +kernel
theorem dX11_changed_37 : decode cX11_changed 37 = .ok (.if_icmp .gt 14, 3) := by decide +kernel
theorem dX11_changed_40 : decode cX11_changed 40 = .ok (.iload 4, 2) := by decide +kernel
theorem dX11_changed_42 : decode cX11_changed 42 = .ok (.ifCond .lt 9, 3) := by decide +kernel
theorem dX11_changed_45 : decode cX11_changed 45 = .ok (.iload 4, 2) := by decide +kernel
theorem dX11_changed_47 : decode cX11_changed 47 = .ok (.iconst 1, 1) := by decide +kernel
theorem dX11_changed_48 : decode cX11_changed 48 = .ok (.if_icmp .le 5, 3) := by decide +kernel
theorem dX11_changed_51 : decode cX11_changed 51 = .ok (.iconst (-1), 1) := by decide +kernel
theorem dX11_changed_52 : decode cX11_changed 52 = .ok (.ireturn, 1) := by decide +kernel
theorem dX11_changed_53 : decode cX11_changed 53 = .ok (.aload_n 0, 1) := by decide +kernel
theorem dX11_changed_54 : decode cX11_changed 54 = .ok (.iload_n 1, 1) := by decide +kernel
theorem dX11_changed_55 : decode cX11_changed 55 = .ok (.iload_n 2, 1) := by decide +kernel
theorem dX11_changed_56 : decode cX11_changed 56 = .ok (.invokevirtual 385, 3) := by decide +kernel
theorem dX11_changed_59 : decode cX11_changed 59 = .ok (.ifCond .ne 6, 3) := by decide +kernel
theorem dX11_changed_62 : decode cX11_changed 62 = .ok (.bipush (-2), 2) := by decide +kernel
theorem dX11_changed_64 : decode cX11_changed 64 = .ok (.ireturn, 1) := by decide +kernel
theorem dX11_changed_65 : decode cX11_changed 65 = .ok (.aload_n 0, 1) := by decide +kernel
theorem dX11_changed_66 : decode cX11_changed 66 = .ok (.iconst 0, 1) := by decide +kernel
theorem dX11_changed_67 : decode cX11_changed 67 = .ok (.invokevirtual 381, 3) := by decide +kernel
theorem dX11_changed_70 : decode cX11_changed 70 = .ok (.aload_n 0, 1) := by decide +kernel
theorem dX11_changed_71 : decode cX11_changed 71 = .ok (.iload_n 3, 1) := by decide +kernel
theorem dX11_changed_72 : decode cX11_changed 72 = .ok (.invokevirtual 363, 3) := by decide +kernel
theorem dX11_changed_75 : decode cX11_changed 75 = .ok (.iconst 0, 1) := by decide +kernel
theorem dX11_changed_76 : decode cX11_changed 76 = .ok (.istore 5, 2) := by decide +kernel
theorem dX11_changed_78 : decode cX11_changed 78 = .ok (.iconst (-1), 1) := by decide +kernel
theorem dX11_changed_79 : decode cX11_changed 79 = .ok (.istore 6, 2) := by decide +kernel
theorem dX11_changed_81 : decode cX11_changed 81 = .ok (.iconst 0, 1) := by decide +kernel
theorem dX11_changed_82 : decode cX11_changed 82 = .ok (.istore 7, 2) := by decide +kernel
theorem dX11_changed_84 : decode cX11_changed 84 = .ok (.iload 7, 2) := by decide +kernel
theorem dX11_changed_86 : decode cX11_changed 86 = .ok (.i2l, 1) := by decide +kernel
theorem dX11_changed_87 : decode cX11_changed 87 = .ok (.aload_n 0, 1) := by decide +kernel
theorem dX11_changed_88 : decode cX11_changed 88 = .ok (.iload_n 1, 1) := by decide +kernel
theorem dX11_changed_89 : decode cX11_changed 89 = .ok (.invokevirtual 242, 3) := by decide +kernel
theorem dX11_changed_92 : decode cX11_changed 92 = .ok (.lcmp, 1) := by decide +kernel
theorem dX11_changed_93 : decode cX11_changed 93 = .ok (.ifCond .ge 43, 3) := by decide +kernel
theorem dX11_changed_96 : decode cX11_changed 96 = .ok (.aload_n 0, 1) := by decide +kernel
theorem dX11_changed_97 : decode cX11_changed 97 = .ok (.iload_n 1, 1) := by decide +kernel
theorem dX11_changed_98 : decode cX11_changed 98 = .ok (.iload 7, 2) := by decide +kernel
theorem dX11_changed_100 : decode cX11_changed 100 = .ok (.invokevirtual 289, 3) := by decide +kernel
theorem dX11_changed_103 : decode cX11_changed 103 = .ok (.aload_n 0, 1) := by decide +kernel
theorem dX11_changed_104 : decode cX11_changed 104 = .ok (.iload_n 1, 1) := by decide +kernel
theorem dX11_changed_105 : decode cX11_changed 105 = .ok (.iload_n 2, 1) := by decide +kernel
theorem dX11_changed_106 : decode cX11_changed 106 = .ok (.iload_n 3, 1) := by decide +kernel
theorem dX11_changed_107 : decode cX11_changed 107 = .ok (.invokevirtual 389, 3) := by decide +kernel
theorem dX11_changed_110 : decode cX11_changed 110 = .ok (.ifCond .ne 20, 3) := by decide +kernel
theorem dX11_changed_113 : decode cX11_changed 113 = .ok (.iinc 5 1, 3) := by decide +kernel
theorem dX11_changed_116 : decode cX11_changed 116 = .ok (.iload 6, 2) := by decide +kernel
theorem dX11_changed_118 : decode cX11_changed 118 = .ok (.ifCond .ge 8, 3) := by decide +kernel
theorem dX11_changed_121 : decode cX11_changed 121 = .ok (.iload 7, 2) := by decide +kernel
theorem dX11_changed_123 : decode cX11_changed 123 = .ok (.goto 5, 3) := by decide +kernel
theorem dX11_changed_126 : decode cX11_changed 126 = .ok (.iload 6, 2) := by decide +kernel
theorem dX11_changed_128 : decode cX11_changed 128 = .ok (.istore 6, 2) := by decide +kernel
theorem dX11_changed_130 : decode cX11_changed 130 = .ok (.iinc 7 1, 3) := by decide +kernel
theorem dX11_changed_133 : decode cX11_changed 133 = .ok (.goto (-49), 3) := by decide +kernel
theorem dX11_changed_136 : decode cX11_changed 136 = .ok (.aload_n 0, 1) := by decide +kernel
theorem dX11_changed_137 : decode cX11_changed 137 = .ok (.iconst 1, 1) := by decide +kernel
theorem dX11_changed_138 : decode cX11_changed 138 = .ok (.invokevirtual 381, 3) := by decide +kernel
theorem dX11_changed_141 : decode cX11_changed 141 = .ok (.iload 4, 2) := by decide +kernel
theorem dX11_changed_143 : decode cX11_changed 143 = .ok (.ifCond .ne 8, 3) := by decide +kernel
theorem dX11_changed_146 : decode cX11_changed 146 = .ok (.iload 5, 2) := by decide +kernel
theorem dX11_changed_148 : decode cX11_changed 148 = .ok (.goto 5, 3) := by decide +kernel
theorem dX11_changed_151 : decode cX11_changed 151 = .ok (.iload 6, 2) := by decide +kernel
theorem dX11_changed_153 : decode cX11_changed 153 = .ok (.ireturn, 1) := by decide +kernel
theorem dX11_look_0 : decode cX11_look 0 = .ok (.aload_n 0, 1) := by decide +kernel
theorem dX11_look_1 : decode cX11_look 1 = .ok (.iconst 0, 1) := by decide +kernel
theorem dX11_look_2 : decode cX11_look 2 = .ok (.putfield 1, 3) := by decide +kernel
theorem dX11_look_5 : decode cX11_look 5 = .ok (.aload_n 0, 1) := by decide +kernel
theorem dX11_look_6 : decode cX11_look 6 = .ok (.getfield 159, 3) := by decide +kernel
theorem dX11_look_9 : decode cX11_look 9 = .ok (.ifCond .ge 5, 3) := by decide +kernel
theorem dX11_look_12 : decode cX11_look 12 = .ok (.iconst (-1), 1) := by decide +kernel
theorem dX11_look_13 : decode cX11_look 13 = .ok (.ireturn, 1) := by decide +kernel
theorem dX11_look_14 : decode cX11_look 14 = .ok (.iload_n 1, 1) := by decide +kernel
theorem dX11_look_15 : decode cX11_look 15 = .ok (.ifCond .ne 10, 3) := by decide +kernel
theorem dX11_look_18 : decode cX11_look 18 = .ok (.aload_n 0, 1) := by decide +kernel
theorem dX11_look_19 : decode cX11_look 19 = .ok (.getfield 159, 3) := by decide +kernel
theorem dX11_look_22 : decode cX11_look 22 = .ok (.goto 84, 3) := by decide +kernel
theorem dX11_look_25 : decode cX11_look 25 = .ok (.iload_n 1, 1) := by decide +kernel
theorem dX11_look_26 : decode cX11_look 26 = .ok (.iconst 1, 1) := by decide +kernel
theorem dX11_look_27 : decode cX11_look 27 = .ok (.if_icmp .ne 15, 3) := by decide +kernel
theorem dX11_look_30 : decode cX11_look 30 = .ok (.aload_n 0, 1) := by decide +kernel
theorem dX11_look_31 : decode cX11_look 31 = .ok (.getfield 62, 3) := by decide +kernel
theorem dX11_look_34 : decode cX11_look 34 = .ok (.aload_n 0, 1) := by decide +kernel
theorem dX11_look_35 : decode cX11_look 35 = .ok (.getfield 159, 3) := by decide +kernel
theorem dX11_look_38 : decode cX11_look 38 = .ok (.iaload, 1) := by decide +kernel
theorem dX11_look_39 : decode cX11_look 39 = .ok (.goto 67, 3) := by decide +kernel
theorem dX11_look_42 : decode cX11_look 42 = .ok (.iload_n 1, 1) := by decide +kernel
theorem dX11_look_43 : decode cX11_look 43 = .ok (.iconst 2, 1) := by decide +kernel
theorem dX11_look_44 : decode cX11_look 44 = .ok (.if_icmp .ne 15, 3) := by decide +kernel
theorem dX11_look_47 : decode cX11_look 47 = .ok (.aload_n 0, 1) := by decide +kernel
theorem dX11_look_48 : decode cX11_look 48 = .ok (.getfield 74, 3) := by decide +kernel
theorem dX11_look_51 : decode cX11_look 51 = .ok (.aload_n 0, 1) := by decide +kernel
theorem dX11_look_52 : decode cX11_look 52 = .ok (.getfield 159, 3) := by decide +kernel
theorem dX11_look_55 : decode cX11_look 55 = .ok (.iaload, 1) := by decide +kernel
theorem dX11_look_56 : decode cX11_look 56 = .ok (.goto 50, 3) := by decide +kernel
theorem dX11_look_59 : decode cX11_look 59 = .ok (.iload_n 1, 1) := by decide +kernel
theorem dX11_look_60 : decode cX11_look 60 = .ok (.iconst 3, 1) := by decide +kernel
theorem dX11_look_61 : decode cX11_look 61 = .ok (.if_icmp .ne 15, 3) := by decide +kernel
theorem dX11_look_64 : decode cX11_look 64 = .ok (.aload_n 0, 1) := by decide +kernel
theorem dX11_look_65 : decode cX11_look 65 = .ok (.aload_n 0, 1) := by decide +kernel
theorem dX11_look_66 : decode cX11_look 66 = .ok (.getfield 159, 3) := by decide +kernel
theorem dX11_look_69 : decode cX11_look 69 = .ok (.invokevirtual 242, 3) := by decide +kernel
theorem dX11_look_72 : decode cX11_look 72 = .ok (.l2i, 1) := by decide +kernel
theorem dX11_look_73 : decode cX11_look 73 = .ok (.goto 33, 3) := by decide +kernel
theorem dX11_look_76 : decode cX11_look 76 = .ok (.iload_n 1, 1) := by decide +kernel
theorem dX11_look_77 : decode cX11_look 77 = .ok (.iconst 4, 1) := by decide +kernel
theorem dX11_look_78 : decode cX11_look 78 = .ok (.if_icmp .ne 15, 3) := by decide +kernel
theorem dX11_look_81 : decode cX11_look 81 = .ok (.aload_n 0, 1) := by decide +kernel
theorem dX11_look_82 : decode cX11_look 82 = .ok (.getfield 59, 3) := by decide +kernel
theorem dX11_look_85 : decode cX11_look 85 = .ok (.aload_n 0, 1) := by decide +kernel
theorem dX11_look_86 : decode cX11_look 86 = .ok (.getfield 159, 3) := by decide +kernel
theorem dX11_look_89 : decode cX11_look 89 = .ok (.iaload, 1) := by decide +kernel
theorem dX11_look_90 : decode cX11_look 90 = .ok (.goto 16, 3) := by decide +kernel
theorem dX11_look_93 : decode cX11_look 93 = .ok (.iload_n 1, 1) := by decide +kernel
theorem dX11_look_94 : decode cX11_look 94 = .ok (.iconst 5, 1) := by decide +kernel
theorem dX11_look_95 : decode cX11_look 95 = .ok (.if_icmp .ne 10, 3) := by decide +kernel
theorem dX11_look_98 : decode cX11_look 98 = .ok (.aload_n 0, 1) := by decide +kernel
theorem dX11_look_99 : decode cX11_look 99 = .ok (.invokevirtual 393, 3) := by decide +kernel
theorem dX11_look_102 : decode cX11_look 102 = .ok (.goto 4, 3) := by decide +kernel
theorem dX11_look_105 : decode cX11_look 105 = .ok (.iconst (-1), 1) := by decide +kernel
theorem dX11_look_106 : decode cX11_look 106 = .ok (.ireturn, 1) := by decide +kernel
theorem dX11_told_0 : decode cX11_told 0 = .ok (.aload_n 0, 1) := by decide +kernel
theorem dX11_told_1 : decode cX11_told 1 = .ok (.aload_n 0, 1) := by decide +kernel
theorem dX11_told_2 : decode cX11_told 2 = .ok (.getfield 159, 3) := by decide +kernel
theorem dX11_told_5 : decode cX11_told 5 = .ok (.ifCond .lt 33, 3) := by decide +kernel
theorem dX11_told_8 : decode cX11_told 8 = .ok (.iload_n 1, 1) := by decide +kernel
theorem dX11_told_9 : decode cX11_told 9 = .ok (.ifCond .lt 29, 3) := by decide +kernel
theorem dX11_told_12 : decode cX11_told 12 = .ok (.iload_n 1, 1) := by decide +kernel
theorem dX11_told_13 : decode cX11_told 13 = .ok (.aload_n 0, 1) := by decide +kernel
theorem dX11_told_14 : decode cX11_told 14 = .ok (.getfield 62, 3) := by decide +kernel
theorem dX11_told_17 : decode cX11_told 17 = .ok (.aload_n 0, 1) := by decide +kernel
theorem dX11_told_18 : decode cX11_told 18 = .ok (.getfield 159, 3) := by decide +kernel
theorem dX11_told_21 : decode cX11_told 21 = .ok (.iaload, 1) := by decide +kernel
theorem dX11_told_22 : decode cX11_told 22 = .ok (.if_icmp .ge 16, 3) := by decide +kernel
theorem dX11_told_25 : decode cX11_told 25 = .ok (.iload_n 2, 1) := by decide +kernel
theorem dX11_told_26 : decode cX11_told 26 = .ok (.ifCond .lt 12, 3) := by decide +kernel
theorem dX11_told_29 : decode cX11_told 29 = .ok (.iload_n 2, 1) := by decide +kernel
theorem dX11_told_30 : decode cX11_told 30 = .ok (.iconst 2, 1) := by decide +kernel
theorem dX11_told_31 : decode cX11_told 31 = .ok (.if_icmp .gt 7, 3) := by decide +kernel
theorem dX11_told_34 : decode cX11_told 34 = .ok (.iconst 0, 1) := by decide +kernel
theorem dX11_told_35 : decode cX11_told 35 = .ok (.goto 4, 3) := by decide +kernel
theorem dX11_told_38 : decode cX11_told 38 = .ok (.iconst 1, 1) := by decide +kernel
theorem dX11_told_39 : decode cX11_told 39 = .ok (.putfield 1, 3) := by decide +kernel
theorem dX11_told_42 : decode cX11_told 42 = .ok (.aload_n 0, 1) := by decide +kernel
theorem dX11_told_43 : decode cX11_told 43 = .ok (.getfield 1, 3) := by decide +kernel
theorem dX11_told_46 : decode cX11_told 46 = .ok (.ifCond .le 5, 3) := by decide +kernel
theorem dX11_told_49 : decode cX11_told 49 = .ok (.iconst 0, 1) := by decide +kernel
theorem dX11_told_50 : decode cX11_told 50 = .ok (.ireturn, 1) := by decide +kernel
theorem dX11_told_51 : decode cX11_told 51 = .ok (.iload_n 2, 1) := by decide +kernel
theorem dX11_told_52 : decode cX11_told 52 = .ok (.ifCond .ne 20, 3) := by decide +kernel
theorem dX11_told_55 : decode cX11_told 55 = .ok (.aload_n 0, 1) := by decide +kernel
theorem dX11_told_56 : decode cX11_told 56 = .ok (.getfield 68, 3) := by decide +kernel
theorem dX11_told_59 : decode cX11_told 59 = .ok (.bipush 8, 2) := by decide +kernel
theorem dX11_told_61 : decode cX11_told 61 = .ok (.aload_n 0, 1) := by decide +kernel
theorem dX11_told_62 : decode cX11_told 62 = .ok (.getfield 159, 3) := by decide +kernel
theorem dX11_told_65 : decode cX11_told 65 = .ok (.imul, 1) := by decide +kernel
theorem dX11_told_66 : decode cX11_told 66 = .ok (.iload_n 1, 1) := by decide +kernel
theorem dX11_told_67 : decode cX11_told 67 = .ok (.iadd, 1) := by decide +kernel
theorem dX11_told_68 : decode cX11_told 68 = .ok (.iaload, 1) := by decide +kernel
theorem dX11_told_69 : decode cX11_told 69 = .ok (.goto 31, 3) := by decide +kernel
theorem dX11_told_72 : decode cX11_told 72 = .ok (.iload_n 2, 1) := by decide +kernel
theorem dX11_told_73 : decode cX11_told 73 = .ok (.iconst 1, 1) := by decide +kernel
theorem dX11_told_74 : decode cX11_told 74 = .ok (.if_icmp .ne 20, 3) := by decide +kernel
theorem dX11_told_77 : decode cX11_told 77 = .ok (.aload_n 0, 1) := by decide +kernel
theorem dX11_told_78 : decode cX11_told 78 = .ok (.getfield 71, 3) := by decide +kernel
theorem dX11_told_81 : decode cX11_told 81 = .ok (.bipush 8, 2) := by decide +kernel
theorem dX11_told_83 : decode cX11_told 83 = .ok (.aload_n 0, 1) := by decide +kernel
theorem dX11_told_84 : decode cX11_told 84 = .ok (.getfield 159, 3) := by decide +kernel
theorem dX11_told_87 : decode cX11_told 87 = .ok (.imul, 1) := by decide +kernel
theorem dX11_told_88 : decode cX11_told 88 = .ok (.iload_n 1, 1) := by decide +kernel
theorem dX11_told_89 : decode cX11_told 89 = .ok (.iadd, 1) := by decide +kernel
theorem dX11_told_90 : decode cX11_told 90 = .ok (.iaload, 1) := by decide +kernel
theorem dX11_told_91 : decode cX11_told 91 = .ok (.goto 9, 3) := by decide +kernel
theorem dX11_told_94 : decode cX11_told 94 = .ok (.aload_n 0, 1) := by decide +kernel
theorem dX11_told_95 : decode cX11_told 95 = .ok (.getfield 123, 3) := by decide +kernel
theorem dX11_told_98 : decode cX11_told 98 = .ok (.iload_n 1, 1) := by decide +kernel
theorem dX11_told_99 : decode cX11_told 99 = .ok (.iaload, 1) := by decide +kernel
theorem dX11_told_100 : decode cX11_told 100 = .ok (.ireturn, 1) := by decide +kernel
theorem dX11_count_0 : decode cX11_count 0 = .ok (.aload_n 0, 1) := by decide +kernel
theorem dX11_count_1 : decode cX11_count 1 = .ok (.iconst 0, 1) := by decide +kernel
theorem dX11_count_2 : decode cX11_count 2 = .ok (.putfield 1, 3) := by decide +kernel
theorem dX11_count_5 : decode cX11_count 5 = .ok (.iload_n 1, 1) := by decide +kernel
theorem dX11_count_6 : decode cX11_count 6 = .ok (.ifCond .ne 10, 3) := by decide +kernel
theorem dX11_count_9 : decode cX11_count 9 = .ok (.aload_n 0, 1) := by decide +kernel
theorem dX11_count_10 : decode cX11_count 10 = .ok (.getfield 207, 3) := by decide +kernel
theorem dX11_count_13 : decode cX11_count 13 = .ok (.goto 28, 3) := by decide +kernel
theorem dX11_count_16 : decode cX11_count 16 = .ok (.iload_n 1, 1) := by decide +kernel
theorem dX11_count_17 : decode cX11_count 17 = .ok (.iconst 1, 1) := by decide +kernel
theorem dX11_count_18 : decode cX11_count 18 = .ok (.if_icmp .ne 10, 3) := by decide +kernel
theorem dX11_count_21 : decode cX11_count 21 = .ok (.aload_n 0, 1) := by decide +kernel
theorem dX11_count_22 : decode cX11_count 22 = .ok (.getfield 11, 3) := by decide +kernel
theorem dX11_count_25 : decode cX11_count 25 = .ok (.goto 16, 3) := by decide +kernel
theorem dX11_count_28 : decode cX11_count 28 = .ok (.iload_n 1, 1) := by decide +kernel
theorem dX11_count_29 : decode cX11_count 29 = .ok (.iconst 2, 1) := by decide +kernel
theorem dX11_count_30 : decode cX11_count 30 = .ok (.if_icmp .ne 10, 3) := by decide +kernel
theorem dX11_count_33 : decode cX11_count 33 = .ok (.aload_n 0, 1) := by decide +kernel
theorem dX11_count_34 : decode cX11_count 34 = .ok (.getfield 292, 3) := by decide +kernel
theorem dX11_count_37 : decode cX11_count 37 = .ok (.goto 4, 3) := by decide +kernel
theorem dX11_count_40 : decode cX11_count 40 = .ok (.iconst (-1), 1) := by decide +kernel
theorem dX11_count_41 : decode cX11_count 41 = .ok (.ireturn, 1) := by decide +kernel
theorem dJ11_isValidCodePoint_9a6ad_0 : decode cJ11_isValidCodePoint_9a6ad 0 = .ok (.iload_n 0, 1) := by decide +kernel
theorem dJ11_isValidCodePoint_9a6ad_1 : decode cJ11_isValidCodePoint_9a6ad 1 = .ok (.bipush 16, 2) := by decide +kernel
theorem dJ11_isValidCodePoint_9a6ad_3 : decode cJ11_isValidCodePoint_9a6ad 3 = .ok (.iushr, 1) := by decide +kernel
theorem dJ11_isValidCodePoint_9a6ad_4 : decode cJ11_isValidCodePoint_9a6ad 4 = .ok (.istore_n 1, 1) := by decide +kernel
theorem dJ11_isValidCodePoint_9a6ad_5 : decode cJ11_isValidCodePoint_9a6ad 5 = .ok (.iload_n 1, 1) := by decide +kernel
theorem dJ11_isValidCodePoint_9a6ad_6 : decode cJ11_isValidCodePoint_9a6ad 6 = .ok (.bipush 17, 2) := by decide +kernel
theorem dJ11_isValidCodePoint_9a6ad_8 : decode cJ11_isValidCodePoint_9a6ad 8 = .ok (.if_icmp .ge 7, 3) := by decide +kernel
theorem dJ11_isValidCodePoint_9a6ad_11 : decode cJ11_isValidCodePoint_9a6ad 11 = .ok (.iconst 1, 1) := by decide +kernel
theorem dJ11_isValidCodePoint_9a6ad_12 : decode cJ11_isValidCodePoint_9a6ad 12 = .ok (.goto 4, 3) := by decide +kernel
theorem dJ11_isValidCodePoint_9a6ad_15 : decode cJ11_isValidCodePoint_9a6ad 15 = .ok (.iconst 0, 1) := by decide +kernel
theorem dJ11_isValidCodePoint_9a6ad_16 : decode cJ11_isValidCodePoint_9a6ad 16 = .ok (.ireturn, 1) := by decide +kernel
theorem dJ11_highSurrogate_5068e_0 : decode cJ11_highSurrogate_5068e 0 = .ok (.iload_n 0, 1) := by decide +kernel
theorem dJ11_highSurrogate_5068e_1 : decode cJ11_highSurrogate_5068e 1 = .ok (.bipush 10, 2) := by decide +kernel
theorem dJ11_highSurrogate_5068e_3 : decode cJ11_highSurrogate_5068e 3 = .ok (.iushr, 1) := by decide +kernel
theorem dJ11_highSurrogate_5068e_4 : decode cJ11_highSurrogate_5068e 4 = .ok (.ldc 110, 2) := by decide +kernel
theorem dJ11_highSurrogate_5068e_6 : decode cJ11_highSurrogate_5068e 6 = .ok (.iadd, 1) := by decide +kernel
theorem dJ11_highSurrogate_5068e_7 : decode cJ11_highSurrogate_5068e 7 = .ok (.i2c, 1) := by decide +kernel
theorem dJ11_highSurrogate_5068e_8 : decode cJ11_highSurrogate_5068e 8 = .ok (.ireturn, 1) := by decide +kernel
theorem dJ11_lowSurrogate_5068e_0 : decode cJ11_lowSurrogate_5068e 0 = .ok (.iload_n 0, 1) := by decide +kernel
theorem dJ11_lowSurrogate_5068e_1 : decode cJ11_lowSurrogate_5068e 1 = .ok (.sipush 1023, 3) := by decide +kernel
theorem dJ11_lowSurrogate_5068e_4 : decode cJ11_lowSurrogate_5068e 4 = .ok (.iand, 1) := by decide +kernel
theorem dJ11_lowSurrogate_5068e_5 : decode cJ11_lowSurrogate_5068e 5 = .ok (.ldc 76, 2) := by decide +kernel
theorem dJ11_lowSurrogate_5068e_7 : decode cJ11_lowSurrogate_5068e 7 = .ok (.iadd, 1) := by decide +kernel
theorem dJ11_lowSurrogate_5068e_8 : decode cJ11_lowSurrogate_5068e 8 = .ok (.i2c, 1) := by decide +kernel
theorem dJ11_lowSurrogate_5068e_9 : decode cJ11_lowSurrogate_5068e 9 = .ok (.ireturn, 1) := by decide +kernel
theorem dJ9_abs_0f7a4_0 : decode cJ9_abs_0f7a4 0 = .ok (.iload_n 0, 1) := by decide +kernel
theorem dJ9_abs_0f7a4_1 : decode cJ9_abs_0f7a4 1 = .ok (.ifCond .ge 8, 3) := by decide +kernel
theorem dJ9_abs_0f7a4_4 : decode cJ9_abs_0f7a4 4 = .ok (.iload_n 0, 1) := by decide +kernel
theorem dJ9_abs_0f7a4_5 : decode cJ9_abs_0f7a4 5 = .ok (.ineg, 1) := by decide +kernel
theorem dJ9_abs_0f7a4_6 : decode cJ9_abs_0f7a4 6 = .ok (.goto 4, 3) := by decide +kernel
theorem dJ9_abs_0f7a4_9 : decode cJ9_abs_0f7a4 9 = .ok (.iload_n 0, 1) := by decide +kernel
theorem dJ9_abs_0f7a4_10 : decode cJ9_abs_0f7a4 10 = .ok (.ireturn, 1) := by decide +kernel
theorem dJ9_max_7cf53_0 : decode cJ9_max_7cf53 0 = .ok (.iload_n 0, 1) := by decide +kernel
theorem dJ9_max_7cf53_1 : decode cJ9_max_7cf53 1 = .ok (.iload_n 1, 1) := by decide +kernel
theorem dJ9_max_7cf53_2 : decode cJ9_max_7cf53 2 = .ok (.if_icmp .lt 7, 3) := by decide +kernel
theorem dJ9_max_7cf53_5 : decode cJ9_max_7cf53 5 = .ok (.iload_n 0, 1) := by decide +kernel
theorem dJ9_max_7cf53_6 : decode cJ9_max_7cf53 6 = .ok (.goto 4, 3) := by decide +kernel
theorem dJ9_max_7cf53_9 : decode cJ9_max_7cf53 9 = .ok (.iload_n 1, 1) := by decide +kernel
theorem dJ9_max_7cf53_10 : decode cJ9_max_7cf53 10 = .ok (.ireturn, 1) := by decide +kernel
theorem dJ9_min_7cf53_0 : decode cJ9_min_7cf53 0 = .ok (.iload_n 0, 1) := by decide +kernel
theorem dJ9_min_7cf53_1 : decode cJ9_min_7cf53 1 = .ok (.iload_n 1, 1) := by decide +kernel
theorem dJ9_min_7cf53_2 : decode cJ9_min_7cf53 2 = .ok (.if_icmp .gt 7, 3) := by decide +kernel
theorem dJ9_min_7cf53_5 : decode cJ9_min_7cf53 5 = .ok (.iload_n 0, 1) := by decide +kernel
theorem dJ9_min_7cf53_6 : decode cJ9_min_7cf53 6 = .ok (.goto 4, 3) := by decide +kernel
theorem dJ9_min_7cf53_9 : decode cJ9_min_7cf53 9 = .ok (.iload_n 1, 1) := by decide +kernel
theorem dJ9_min_7cf53_10 : decode cJ9_min_7cf53 10 = .ok (.ireturn, 1) := by decide +kernel
theorem dJ0_length_8abf5_0 : decode cJ0_length_8abf5 0 = .ok (.aload_n 0, 1) := by decide +kernel
theorem dJ0_length_8abf5_1 : decode cJ0_length_8abf5 1 = .ok (.getfield 9, 3) := by decide +kernel
theorem dJ0_length_8abf5_4 : decode cJ0_length_8abf5 4 = .ok (.arraylength, 1) := by decide +kernel
theorem dJ0_length_8abf5_5 : decode cJ0_length_8abf5 5 = .ok (.aload_n 0, 1) := by decide +kernel
theorem dJ0_length_8abf5_6 : decode cJ0_length_8abf5 6 = .ok (.invokevirtual 335, 3) := by decide +kernel
theorem dJ0_length_8abf5_9 : decode cJ0_length_8abf5 9 = .ok (.ishr, 1) := by decide +kernel
theorem dJ0_length_8abf5_10 : decode cJ0_length_8abf5 10 = .ok (.ireturn, 1) := by decide +kernel
theorem dJ0_charAt_5068e_0 : decode cJ0_charAt_5068e 0 = .ok (.aload_n 0, 1) := by decide +kernel
theorem dJ0_charAt_5068e_1 : decode cJ0_charAt_5068e 1 = .ok (.invokevirtual 492, 3) := by decide +kernel
theorem dJ0_charAt_5068e_4 : decode cJ0_charAt_5068e 4 = .ok (.ifCond .eq 12, 3) := by decide +kernel
theorem dJ0_charAt_5068e_7 : decode cJ0_charAt_5068e 7 = .ok (.aload_n 0, 1) := by decide +kernel
theorem dJ0_charAt_5068e_8 : decode cJ0_charAt_5068e 8 = .ok (.getfield 9, 3) := by decide +kernel
theorem dJ0_charAt_5068e_11 : decode cJ0_charAt_5068e 11 = .ok (.iload_n 1, 1) := by decide +kernel
theorem dJ0_charAt_5068e_12 : decode cJ0_charAt_5068e 12 = .ok (.invokestatic 495, 3) := by decide +kernel
theorem dJ0_charAt_5068e_15 : decode cJ0_charAt_5068e 15 = .ok (.ireturn, 1) := by decide +kernel
theorem dJ0_charAt_5068e_16 : decode cJ0_charAt_5068e 16 = .ok (.aload_n 0, 1) := by decide +kernel
theorem dJ0_charAt_5068e_17 : decode cJ0_charAt_5068e 17 = .ok (.getfield 9, 3) := by decide +kernel
theorem dJ0_charAt_5068e_20 : decode cJ0_charAt_5068e 20 = .ok (.iload_n 1, 1) := by decide +kernel
theorem dJ0_charAt_5068e_21 : decode cJ0_charAt_5068e 21 = .ok (.invokestatic 498, 3) := by decide +kernel
theorem dJ0_charAt_5068e_24 : decode cJ0_charAt_5068e 24 = .ok (.ireturn, 1) := by decide +kernel
theorem dJ0_indexOf_0f7a4_0 : decode cJ0_indexOf_0f7a4 0 = .ok (.aload_n 0, 1) := by decide +kernel
theorem dJ0_indexOf_0f7a4_1 : decode cJ0_indexOf_0f7a4 1 = .ok (.iload_n 1, 1) := by decide +kernel
theorem dJ0_indexOf_0f7a4_2 : decode cJ0_indexOf_0f7a4 2 = .ok (.iconst 0, 1) := by decide +kernel
theorem dJ0_indexOf_0f7a4_3 : decode cJ0_indexOf_0f7a4 3 = .ok (.invokevirtual 633, 3) := by decide +kernel
theorem dJ0_indexOf_0f7a4_6 : decode cJ0_indexOf_0f7a4 6 = .ok (.ireturn, 1) := by decide +kernel
theorem dJ0_indexOf_7cf53_0 : decode cJ0_indexOf_7cf53 0 = .ok (.aload_n 0, 1) := by decide +kernel
theorem dJ0_indexOf_7cf53_1 : decode cJ0_indexOf_7cf53 1 = .ok (.invokevirtual 492, 3) := by decide +kernel
theorem dJ0_indexOf_7cf53_4 : decode cJ0_indexOf_7cf53 4 = .ok (.ifCond .eq 19, 3) := by decide +kernel
theorem dJ0_indexOf_7cf53_7 : decode cJ0_indexOf_7cf53 7 = .ok (.aload_n 0, 1) := by decide +kernel
theorem dJ0_indexOf_7cf53_8 : decode cJ0_indexOf_7cf53 8 = .ok (.getfield 9, 3) := by decide +kernel
theorem dJ0_indexOf_7cf53_11 : decode cJ0_indexOf_7cf53 11 = .ok (.iload_n 1, 1) := by decide +kernel
theorem dJ0_indexOf_7cf53_12 : decode cJ0_indexOf_7cf53 12 = .ok (.iload_n 2, 1) := by decide +kernel
theorem dJ0_indexOf_7cf53_13 : decode cJ0_indexOf_7cf53 13 = .ok (.aload_n 0, 1) := by decide +kernel
theorem dJ0_indexOf_7cf53_14 : decode cJ0_indexOf_7cf53 14 = .ok (.invokevirtual 505, 3) := by decide +kernel
theorem dJ0_indexOf_7cf53_17 : decode cJ0_indexOf_7cf53 17 = .ok (.invokestatic 637, 3) := by decide +kernel
theorem dJ0_indexOf_7cf53_20 : decode cJ0_indexOf_7cf53 20 = .ok (.goto 16, 3) := by decide +kernel
theorem dJ0_indexOf_7cf53_23 : decode cJ0_indexOf_7cf53 23 = .ok (.aload_n 0, 1) := by decide +kernel
theorem dJ0_indexOf_7cf53_24 : decode cJ0_indexOf_7cf53 24 = .ok (.getfield 9, 3) := by decide +kernel
theorem dJ0_indexOf_7cf53_27 : decode cJ0_indexOf_7cf53 27 = .ok (.iload_n 1, 1) := by decide +kernel
theorem dJ0_indexOf_7cf53_28 : decode cJ0_indexOf_7cf53 28 = .ok (.iload_n 2, 1) := by decide +kernel
theorem dJ0_indexOf_7cf53_29 : decode cJ0_indexOf_7cf53 29 = .ok (.aload_n 0, 1) := by decide +kernel
theorem dJ0_indexOf_7cf53_30 : decode cJ0_indexOf_7cf53 30 = .ok (.invokevirtual 505, 3) := by decide +kernel
theorem dJ0_indexOf_7cf53_33 : decode cJ0_indexOf_7cf53 33 = .ok (.invokestatic 640, 3) := by decide +kernel
theorem dJ0_indexOf_7cf53_36 : decode cJ0_indexOf_7cf53 36 = .ok (.ireturn, 1) := by decide +kernel
theorem dJ0_coder_7d493_0 : decode cJ0_coder_7d493 0 = .ok (.getstatic 38, 3) := by decide +kernel
theorem dJ0_coder_7d493_3 : decode cJ0_coder_7d493 3 = .ok (.ifCond .eq 10, 3) := by decide +kernel
theorem dJ0_coder_7d493_6 : decode cJ0_coder_7d493 6 = .ok (.aload_n 0, 1) := by decide +kernel
theorem dJ0_coder_7d493_7 : decode cJ0_coder_7d493 7 = .ok (.getfield 15, 3) := by decide +kernel
theorem dJ0_coder_7d493_10 : decode cJ0_coder_7d493 10 = .ok (.goto 4, 3) := by decide +kernel
theorem dJ0_coder_7d493_13 : decode cJ0_coder_7d493 13 = .ok (.iconst 1, 1) := by decide +kernel
theorem dJ0_coder_7d493_14 : decode cJ0_coder_7d493 14 = .ok (.ireturn, 1) := by decide +kernel
theorem dJ0_isLatin1_aae02_0 : decode cJ0_isLatin1_aae02 0 = .ok (.getstatic 38, 3) := by decide +kernel
theorem dJ0_isLatin1_aae02_3 : decode cJ0_isLatin1_aae02 3 = .ok (.ifCond .eq 14, 3) := by decide +kernel
theorem dJ0_isLatin1_aae02_6 : decode cJ0_isLatin1_aae02 6 = .ok (.aload_n 0, 1) := by decide +kernel
theorem dJ0_isLatin1_aae02_7 : decode cJ0_isLatin1_aae02 7 = .ok (.getfield 15, 3) := by decide +kernel
theorem dJ0_isLatin1_aae02_10 : decode cJ0_isLatin1_aae02 10 = .ok (.ifCond .ne 7, 3) := by decide +kernel
theorem dJ0_isLatin1_aae02_13 : decode cJ0_isLatin1_aae02 13 = .ok (.iconst 1, 1) := by decide +kernel
theorem dJ0_isLatin1_aae02_14 : decode cJ0_isLatin1_aae02 14 = .ok (.goto 4, 3) := by decide +kernel
theorem dJ0_isLatin1_aae02_17 : decode cJ0_isLatin1_aae02 17 = .ok (.iconst 0, 1) := by decide +kernel
theorem dJ0_isLatin1_aae02_18 : decode cJ0_isLatin1_aae02 18 = .ok (.ireturn, 1) := by decide +kernel
theorem dJ0_checkIndex_df160_0 : decode cJ0_checkIndex_df160 0 = .ok (.iload_n 0, 1) := by decide +kernel
theorem dJ0_checkIndex_df160_1 : decode cJ0_checkIndex_df160 1 = .ok (.iload_n 1, 1) := by decide +kernel
theorem dJ0_checkIndex_df160_2 : decode cJ0_checkIndex_df160 2 = .ok (.getstatic 1053, 3) := by decide +kernel
theorem dJ0_checkIndex_df160_5 : decode cJ0_checkIndex_df160 5 = .ok (.invokestatic 1059, 3) := by decide +kernel
theorem dJ0_checkIndex_df160_8 : decode cJ0_checkIndex_df160 8 = .ok (.pop, 1) := by decide +kernel
theorem dJ0_checkIndex_df160_9 : decode cJ0_checkIndex_df160 9 = .ok (.return_, 1) := by decide +kernel
theorem dJ0_checkBoundsBeginEnd_23922_0 : decode cJ0_checkBoundsBeginEnd_23922 0 = .ok (.iload_n 0, 1) := by decide +kernel
theorem dJ0_checkBoundsBeginEnd_23922_1 : decode cJ0_checkBoundsBeginEnd_23922 1 = .ok (.iload_n 1, 1) := by decide +kernel
theorem dJ0_checkBoundsBeginEnd_23922_2 : decode cJ0_checkBoundsBeginEnd_23922 2 = .ok (.iload_n 2, 1) := by decide +kernel
theorem dJ0_checkBoundsBeginEnd_23922_3 : decode cJ0_checkBoundsBeginEnd_23922 3 = .ok (.getstatic 1053, 3) := by decide +kernel
theorem dJ0_checkBoundsBeginEnd_23922_6 : decode cJ0_checkBoundsBeginEnd_23922 6 = .ok (.invokestatic 1062, 3) := by decide +kernel
theorem dJ0_checkBoundsBeginEnd_23922_9 : decode cJ0_checkBoundsBeginEnd_23922 9 = .ok (.pop, 1) := by decide +kernel
theorem dJ0_checkBoundsBeginEnd_23922_10 : decode cJ0_checkBoundsBeginEnd_23922 10 = .ok (.return_, 1) := by decide +kernel
theorem dJ1_charAt_3b067_0 : decode cJ1_charAt_3b067 0 = .ok (.iload_n 1, 1) := by decide +kernel
theorem dJ1_charAt_3b067_1 : decode cJ1_charAt_3b067 1 = .ok (.aload_n 0, 1) := by decide +kernel
theorem dJ1_charAt_3b067_2 : decode cJ1_charAt_3b067 2 = .ok (.arraylength, 1) := by decide +kernel
theorem dJ1_charAt_3b067_3 : decode cJ1_charAt_3b067 3 = .ok (.invokestatic 9, 3) := by decide +kernel
theorem dJ1_charAt_3b067_6 : decode cJ1_charAt_3b067 6 = .ok (.aload_n 0, 1) := by decide +kernel
theorem dJ1_charAt_3b067_7 : decode cJ1_charAt_3b067 7 = .ok (.iload_n 1, 1) := by decide +kernel
theorem dJ1_charAt_3b067_8 : decode cJ1_charAt_3b067 8 = .ok (.baload, 1) := by decide +kernel
theorem dJ1_charAt_3b067_9 : decode cJ1_charAt_3b067 9 = .ok (.sipush 255, 3) := by decide +kernel
theorem dJ1_charAt_3b067_12 : decode cJ1_charAt_3b067 12 = .ok (.iand, 1) := by decide +kernel
theorem dJ1_charAt_3b067_13 : decode cJ1_charAt_3b067 13 = .ok (.i2c, 1) := by decide +kernel
theorem dJ1_charAt_3b067_14 : decode cJ1_charAt_3b067 14 = .ok (.ireturn, 1) := by decide +kernel
theorem dJ1_canEncode_9a6ad_0 : decode cJ1_canEncode_9a6ad 0 = .ok (.iload_n 0, 1) := by decide +kernel
theorem dJ1_canEncode_9a6ad_1 : decode cJ1_canEncode_9a6ad 1 = .ok (.ifCond .lt 14, 3) := by decide +kernel
theorem dJ1_canEncode_9a6ad_4 : decode cJ1_canEncode_9a6ad 4 = .ok (.iload_n 0, 1) := by decide +kernel
theorem dJ1_canEncode_9a6ad_5 : decode cJ1_canEncode_9a6ad 5 = .ok (.sipush 255, 3) := by decide +kernel
theorem dJ1_canEncode_9a6ad_8 : decode cJ1_canEncode_9a6ad 8 = .ok (.if_icmp .gt 7, 3) := by decide +kernel
theorem dJ1_canEncode_9a6ad_11 : decode cJ1_canEncode_9a6ad 11 = .ok (.iconst 1, 1) := by decide +kernel
theorem dJ1_canEncode_9a6ad_12 : decode cJ1_canEncode_9a6ad 12 = .ok (.goto 4, 3) := by decide +kernel
theorem dJ1_canEncode_9a6ad_15 : decode cJ1_canEncode_9a6ad 15 = .ok (.iconst 0, 1) := by decide +kernel
theorem dJ1_canEncode_9a6ad_16 : decode cJ1_canEncode_9a6ad 16 = .ok (.ireturn, 1) := by decide +kernel
theorem dJ1_indexOf_4cfef_0 : decode cJ1_indexOf_4cfef 0 = .ok (.iload_n 1, 1) := by decide +kernel
theorem dJ1_indexOf_4cfef_1 : decode cJ1_indexOf_4cfef 1 = .ok (.invokestatic 88, 3) := by decide +kernel
theorem dJ1_indexOf_4cfef_4 : decode cJ1_indexOf_4cfef 4 = .ok (.ifCond .ne 5, 3) := by decide +kernel
theorem dJ1_indexOf_4cfef_7 : decode cJ1_indexOf_4cfef 7 = .ok (.iconst (-1), 1) := by decide +kernel
theorem dJ1_indexOf_4cfef_8 : decode cJ1_indexOf_4cfef 8 = .ok (.ireturn, 1) := by decide +kernel
theorem dJ1_indexOf_4cfef_9 : decode cJ1_indexOf_4cfef 9 = .ok (.iload_n 2, 1) := by decide +kernel
theorem dJ1_indexOf_4cfef_10 : decode cJ1_indexOf_4cfef 10 = .ok (.iconst 0, 1) := by decide +kernel
theorem dJ1_indexOf_4cfef_11 : decode cJ1_indexOf_4cfef 11 = .ok (.invokestatic 92, 3) := by decide +kernel
theorem dJ1_indexOf_4cfef_14 : decode cJ1_indexOf_4cfef 14 = .ok (.istore_n 2, 1) := by decide +kernel
theorem dJ1_indexOf_4cfef_15 : decode cJ1_indexOf_4cfef 15 = .ok (.iload_n 3, 1) := by decide +kernel
theorem dJ1_indexOf_4cfef_16 : decode cJ1_indexOf_4cfef 16 = .ok (.aload_n 0, 1) := by decide +kernel
theorem dJ1_indexOf_4cfef_17 : decode cJ1_indexOf_4cfef 17 = .ok (.arraylength, 1) := by decide +kernel
theorem dJ1_indexOf_4cfef_18 : decode cJ1_indexOf_4cfef 18 = .ok (.invokestatic 38, 3) := by decide +kernel
theorem dJ1_indexOf_4cfef_21 : decode cJ1_indexOf_4cfef 21 = .ok (.istore_n 3, 1) := by decide +kernel
theorem dJ1_indexOf_4cfef_22 : decode cJ1_indexOf_4cfef 22 = .ok (.iload_n 2, 1) := by decide +kernel
theorem dJ1_indexOf_4cfef_23 : decode cJ1_indexOf_4cfef 23 = .ok (.iload_n 3, 1) := by decide +kernel
theorem dJ1_indexOf_4cfef_24 : decode cJ1_indexOf_4cfef 24 = .ok (.if_icmp .lt 5, 3) := by decide +kernel
theorem dJ1_indexOf_4cfef_27 : decode cJ1_indexOf_4cfef 27 = .ok (.iconst (-1), 1) := by decide +kernel
theorem dJ1_indexOf_4cfef_28 : decode cJ1_indexOf_4cfef 28 = .ok (.ireturn, 1) := by decide +kernel
theorem dJ1_indexOf_4cfef_29 : decode cJ1_indexOf_4cfef 29 = .ok (.aload_n 0, 1) := by decide +kernel
theorem dJ1_indexOf_4cfef_30 : decode cJ1_indexOf_4cfef 30 = .ok (.iload_n 1, 1) := by decide +kernel
theorem dJ1_indexOf_4cfef_31 : decode cJ1_indexOf_4cfef 31 = .ok (.iload_n 2, 1) := by decide +kernel
theorem dJ1_indexOf_4cfef_32 : decode cJ1_indexOf_4cfef 32 = .ok (.iload_n 3, 1) := by decide +kernel
theorem dJ1_indexOf_4cfef_33 : decode cJ1_indexOf_4cfef 33 = .ok (.invokestatic 95, 3) := by decide +kernel
theorem dJ1_indexOf_4cfef_36 : decode cJ1_indexOf_4cfef 36 = .ok (.ireturn, 1) := by decide +kernel
theorem dJ1_indexOfChar_4cfef_0 : decode cJ1_indexOfChar_4cfef 0 = .ok (.iload_n 1, 1) := by decide +kernel
theorem dJ1_indexOfChar_4cfef_1 : decode cJ1_indexOfChar_4cfef 1 = .ok (.i2b, 1) := by decide +kernel
theorem dJ1_indexOfChar_4cfef_2 : decode cJ1_indexOfChar_4cfef 2 = .ok (.istore 4, 2) := by decide +kernel
theorem dJ1_indexOfChar_4cfef_4 : decode cJ1_indexOfChar_4cfef 4 = .ok (.iload_n 2, 1) := by decide +kernel
theorem dJ1_indexOfChar_4cfef_5 : decode cJ1_indexOfChar_4cfef 5 = .ok (.istore 5, 2) := by decide +kernel
theorem dJ1_indexOfChar_4cfef_7 : decode cJ1_indexOfChar_4cfef 7 = .ok (.iload 5, 2) := by decide +kernel
theorem dJ1_indexOfChar_4cfef_9 : decode cJ1_indexOfChar_4cfef 9 = .ok (.iload_n 3, 1) := by decide +kernel
theorem dJ1_indexOfChar_4cfef_10 : decode cJ1_indexOfChar_4cfef 10 = .ok (.if_icmp .ge 21, 3) := by decide +kernel
theorem dJ1_indexOfChar_4cfef_13 : decode cJ1_indexOfChar_4cfef 13 = .ok (.aload_n 0, 1) := by decide +kernel
theorem dJ1_indexOfChar_4cfef_14 : decode cJ1_indexOfChar_4cfef 14 = .ok (.iload 5, 2) := by decide +kernel
theorem dJ1_indexOfChar_4cfef_16 : decode cJ1_indexOfChar_4cfef 16 = .ok (.baload, 1) := by decide +kernel
theorem dJ1_indexOfChar_4cfef_17 : decode cJ1_indexOfChar_4cfef 17 = .ok (.iload 4, 2) := by decide +kernel
theorem dJ1_indexOfChar_4cfef_19 : decode cJ1_indexOfChar_4cfef 19 = .ok (.if_icmp .ne 6, 3) := by decide +kernel
theorem dJ1_indexOfChar_4cfef_22 : decode cJ1_indexOfChar_4cfef 22 = .ok (.iload 5, 2) := by decide +kernel
theorem dJ1_indexOfChar_4cfef_24 : decode cJ1_indexOfChar_4cfef 24 = .ok (.ireturn, 1) := by decide +kernel
theorem dJ1_indexOfChar_4cfef_25 : decode cJ1_indexOfChar_4cfef 25 = .ok (.iinc 5 1, 3) := by decide +kernel
theorem dJ1_indexOfChar_4cfef_28 : decode cJ1_indexOfChar_4cfef 28 = .ok (.goto (-21), 3) := by decide +kernel
theorem dJ1_indexOfChar_4cfef_31 : decode cJ1_indexOfChar_4cfef 31 = .ok (.iconst (-1), 1) := by decide +kernel
theorem dJ1_indexOfChar_4cfef_32 : decode cJ1_indexOfChar_4cfef 32 = .ok (.ireturn, 1) := by decide +kernel
theorem dJ2_getChar_3b067_0 : decode cJ2_getChar_3b067 0 = .ok (.getstatic 44, 3) := by decide +kernel
theorem dJ2_getChar_3b067_3 : decode cJ2_getChar_3b067 3 = .ok (.ifCond .ne 25, 3) := by decide +kernel
theorem dJ2_getChar_3b067_6 : decode cJ2_getChar_3b067 6 = .ok (.iload_n 1, 1) := by decide +kernel
theorem dJ2_getChar_3b067_7 : decode cJ2_getChar_3b067 7 = .ok (.ifCond .lt 11, 3) := by decide +kernel
theorem dJ2_getChar_3b067_10 : decode cJ2_getChar_3b067 10 = .ok (.iload_n 1, 1) := by decide +kernel
theorem dJ2_getChar_3b067_11 : decode cJ2_getChar_3b067 11 = .ok (.aload_n 0, 1) := by decide +kernel
theorem dJ2_getChar_3b067_12 : decode cJ2_getChar_3b067 12 = .ok (.invokestatic 48, 3) := by decide +kernel
theorem dJ2_getChar_3b067_15 : decode cJ2_getChar_3b067 15 = .ok (.if_icmp .lt 13, 3) := by decide +kernel
theorem dJ2_getChar_3b067_18 : decode cJ2_getChar_3b067 18 = .ok (.new 52, 3) := by decide +kernel
theorem dJ2_getChar_3b067_21 : decode cJ2_getChar_3b067 21 = .ok (.dup, 1) := by decide +kernel
theorem dJ2_getChar_3b067_22 : decode cJ2_getChar_3b067 22 = .ok (.ldc 54, 2) := by decide +kernel
theorem dJ2_getChar_3b067_24 : decode cJ2_getChar_3b067 24 = .ok (.invokespecial 56, 3) := by decide +kernel
theorem dJ2_getChar_3b067_27 : decode cJ2_getChar_3b067 27 = .ok (.athrow, 1) := by decide +kernel
theorem dJ2_getChar_3b067_28 : decode cJ2_getChar_3b067 28 = .ok (.iload_n 1, 1) := by decide +kernel
theorem dJ2_getChar_3b067_29 : decode cJ2_getChar_3b067 29 = .ok (.iconst 1, 1) := by decide +kernel
theorem dJ2_getChar_3b067_30 : decode cJ2_getChar_3b067 30 = .ok (.ishl, 1) := by decide +kernel
theorem dJ2_getChar_3b067_31 : decode cJ2_getChar_3b067 31 = .ok (.istore_n 1, 1) := by decide +kernel
theorem dJ2_getChar_3b067_32 : decode cJ2_getChar_3b067 32 = .ok (.aload_n 0, 1) := by decide +kernel
theorem dJ2_getChar_3b067_33 : decode cJ2_getChar_3b067 33 = .ok (.iload_n 1, 1) := by decide +kernel
theorem dJ2_getChar_3b067_34 : decode cJ2_getChar_3b067 34 = .ok (.iinc 1 1, 3) := by decide +kernel
theorem dJ2_getChar_3b067_37 : decode cJ2_getChar_3b067 37 = .ok (.baload, 1) := by decide +kernel
theorem dJ2_getChar_3b067_38 : decode cJ2_getChar_3b067 38 = .ok (.sipush 255, 3) := by decide +kernel
theorem dJ2_getChar_3b067_41 : decode cJ2_getChar_3b067 41 = .ok (.iand, 1) := by decide +kernel
theorem dJ2_getChar_3b067_42 : decode cJ2_getChar_3b067 42 = .ok (.getstatic 59, 3) := by decide +kernel
theorem dJ2_getChar_3b067_45 : decode cJ2_getChar_3b067 45 = .ok (.ishl, 1) := by decide +kernel
theorem dJ2_getChar_3b067_46 : decode cJ2_getChar_3b067 46 = .ok (.aload_n 0, 1) := by decide +kernel
theorem dJ2_getChar_3b067_47 : decode cJ2_getChar_3b067 47 = .ok (.iload_n 1, 1) := by decide +kernel
theorem dJ2_getChar_3b067_48 : decode cJ2_getChar_3b067 48 = .ok (.baload, 1) := by decide +kernel
theorem dJ2_getChar_3b067_49 : decode cJ2_getChar_3b067 49 = .ok (.sipush 255, 3) := by decide +kernel
theorem dJ2_getChar_3b067_52 : decode cJ2_getChar_3b067 52 = .ok (.iand, 1) := by decide +kernel
theorem dJ2_getChar_3b067_53 : decode cJ2_getChar_3b067 53 = .ok (.getstatic 63, 3) := by decide +kernel
theorem dJ2_getChar_3b067_56 : decode cJ2_getChar_3b067 56 = .ok (.ishl, 1) := by decide +kernel
theorem dJ2_getChar_3b067_57 : decode cJ2_getChar_3b067 57 = .ok (.ior, 1) := by decide +kernel
theorem dJ2_getChar_3b067_58 : decode cJ2_getChar_3b067 58 = .ok (.i2c, 1) := by decide +kernel
theorem dJ2_getChar_3b067_59 : decode cJ2_getChar_3b067 59 = .ok (.ireturn, 1) := by decide +kernel
theorem dJ2_length_9d52b_0 : decode cJ2_length_9d52b 0 = .ok (.aload_n 0, 1) := by decide +kernel
theorem dJ2_length_9d52b_1 : decode cJ2_length_9d52b 1 = .ok (.arraylength, 1) := by decide +kernel
theorem dJ2_length_9d52b_2 : decode cJ2_length_9d52b 2 = .ok (.iconst 1, 1) := by decide +kernel
theorem dJ2_length_9d52b_3 : decode cJ2_length_9d52b 3 = .ok (.ishr, 1) := by decide +kernel
theorem dJ2_length_9d52b_4 : decode cJ2_length_9d52b 4 = .ok (.ireturn, 1) := by decide +kernel
theorem dJ2_indexOf_4cfef_0 : decode cJ2_indexOf_4cfef 0 = .ok (.iload_n 2, 1) := by decide +kernel
theorem dJ2_indexOf_4cfef_1 : decode cJ2_indexOf_4cfef 1 = .ok (.iconst 0, 1) := by decide +kernel
theorem dJ2_indexOf_4cfef_2 : decode cJ2_indexOf_4cfef 2 = .ok (.invokestatic 224, 3) := by decide +kernel
theorem dJ2_indexOf_4cfef_5 : decode cJ2_indexOf_4cfef 5 = .ok (.istore_n 2, 1) := by decide +kernel
theorem dJ2_indexOf_4cfef_6 : decode cJ2_indexOf_4cfef 6 = .ok (.iload_n 3, 1) := by decide +kernel
theorem dJ2_indexOf_4cfef_7 : decode cJ2_indexOf_4cfef 7 = .ok (.aload_n 0, 1) := by decide +kernel
theorem dJ2_indexOf_4cfef_8 : decode cJ2_indexOf_4cfef 8 = .ok (.arraylength, 1) := by decide +kernel
theorem dJ2_indexOf_4cfef_9 : decode cJ2_indexOf_4cfef 9 = .ok (.iconst 1, 1) := by decide +kernel
theorem dJ2_indexOf_4cfef_10 : decode cJ2_indexOf_4cfef 10 = .ok (.ishr, 1) := by decide +kernel
theorem dJ2_indexOf_4cfef_11 : decode cJ2_indexOf_4cfef 11 = .ok (.invokestatic 183, 3) := by decide +kernel
theorem dJ2_indexOf_4cfef_14 : decode cJ2_indexOf_4cfef 14 = .ok (.istore_n 3, 1) := by decide +kernel
theorem dJ2_indexOf_4cfef_15 : decode cJ2_indexOf_4cfef 15 = .ok (.iload_n 2, 1) := by decide +kernel
theorem dJ2_indexOf_4cfef_16 : decode cJ2_indexOf_4cfef 16 = .ok (.iload_n 3, 1) := by decide +kernel
theorem dJ2_indexOf_4cfef_17 : decode cJ2_indexOf_4cfef 17 = .ok (.if_icmp .lt 5, 3) := by decide +kernel
theorem dJ2_indexOf_4cfef_20 : decode cJ2_indexOf_4cfef 20 = .ok (.iconst (-1), 1) := by decide +kernel
theorem dJ2_indexOf_4cfef_21 : decode cJ2_indexOf_4cfef 21 = .ok (.ireturn, 1) := by decide +kernel
theorem dJ2_indexOf_4cfef_22 : decode cJ2_indexOf_4cfef 22 = .ok (.iload_n 1, 1) := by decide +kernel
theorem dJ2_indexOf_4cfef_23 : decode cJ2_indexOf_4cfef 23 = .ok (.ldc 227, 2) := by decide +kernel
theorem dJ2_indexOf_4cfef_25 : decode cJ2_indexOf_4cfef 25 = .ok (.if_icmp .ge 11, 3) := by decide +kernel
theorem dJ2_indexOf_4cfef_28 : decode cJ2_indexOf_4cfef 28 = .ok (.aload_n 0, 1) := by decide +kernel
theorem dJ2_indexOf_4cfef_29 : decode cJ2_indexOf_4cfef 29 = .ok (.iload_n 1, 1) := by decide +kernel
theorem dJ2_indexOf_4cfef_30 : decode cJ2_indexOf_4cfef 30 = .ok (.iload_n 2, 1) := by decide +kernel
theorem dJ2_indexOf_4cfef_31 : decode cJ2_indexOf_4cfef 31 = .ok (.iload_n 3, 1) := by decide +kernel
theorem dJ2_indexOf_4cfef_32 : decode cJ2_indexOf_4cfef 32 = .ok (.invokestatic 228, 3) := by decide +kernel
theorem dJ2_indexOf_4cfef_35 : decode cJ2_indexOf_4cfef 35 = .ok (.ireturn, 1) := by decide +kernel
theorem dJ2_indexOf_4cfef_36 : decode cJ2_indexOf_4cfef 36 = .ok (.aload_n 0, 1) := by decide +kernel
theorem dJ2_indexOf_4cfef_37 : decode cJ2_indexOf_4cfef 37 = .ok (.iload_n 1, 1) := by decide +kernel
theorem dJ2_indexOf_4cfef_38 : decode cJ2_indexOf_4cfef 38 = .ok (.iload_n 2, 1) := by decide +kernel
theorem dJ2_indexOf_4cfef_39 : decode cJ2_indexOf_4cfef 39 = .ok (.iload_n 3, 1) := by decide +kernel
theorem dJ2_indexOf_4cfef_40 : decode cJ2_indexOf_4cfef 40 = .ok (.invokestatic 232, 3) := by decide +kernel
theorem dJ2_indexOf_4cfef_43 : decode cJ2_indexOf_4cfef 43 = .ok (.ireturn, 1) := by decide +kernel
theorem dJ2_indexOfChar_4cfef_0 : decode cJ2_indexOfChar_4cfef 0 = .ok (.iload_n 2, 1) := by decide +kernel
theorem dJ2_indexOfChar_4cfef_1 : decode cJ2_indexOfChar_4cfef 1 = .ok (.iload_n 3, 1) := by decide +kernel
theorem dJ2_indexOfChar_4cfef_2 : decode cJ2_indexOfChar_4cfef 2 = .ok (.aload_n 0, 1) := by decide +kernel
theorem dJ2_indexOfChar_4cfef_3 : decode cJ2_indexOfChar_4cfef 3 = .ok (.invokestatic 96, 3) := by decide +kernel
theorem dJ2_indexOfChar_4cfef_6 : decode cJ2_indexOfChar_4cfef 6 = .ok (.aload_n 0, 1) := by decide +kernel
theorem dJ2_indexOfChar_4cfef_7 : decode cJ2_indexOfChar_4cfef 7 = .ok (.iload_n 1, 1) := by decide +kernel
theorem dJ2_indexOfChar_4cfef_8 : decode cJ2_indexOfChar_4cfef 8 = .ok (.iload_n 2, 1) := by decide +kernel
theorem dJ2_indexOfChar_4cfef_9 : decode cJ2_indexOfChar_4cfef 9 = .ok (.iload_n 3, 1) := by decide +kernel
theorem dJ2_indexOfChar_4cfef_10 : decode cJ2_indexOfChar_4cfef 10 = .ok (.invokestatic 244, 3) := by decide +kernel
theorem dJ2_indexOfChar_4cfef_13 : decode cJ2_indexOfChar_4cfef 13 = .ok (.ireturn, 1) := by decide +kernel
theorem dJ2_indexOfCharUnsafe_4cfef_0 : decode cJ2_indexOfCharUnsafe_4cfef 0 = .ok (.iload_n 2, 1) := by decide +kernel
theorem dJ2_indexOfCharUnsafe_4cfef_1 : decode cJ2_indexOfCharUnsafe_4cfef 1 = .ok (.istore 4, 2) := by decide +kernel
theorem dJ2_indexOfCharUnsafe_4cfef_3 : decode cJ2_indexOfCharUnsafe_4cfef 3 = .ok (.iload 4, 2) := by decide +kernel
theorem dJ2_indexOfCharUnsafe_4cfef_5 : decode cJ2_indexOfCharUnsafe_4cfef 5 = .ok (.iload_n 3, 1) := by decide +kernel
theorem dJ2_indexOfCharUnsafe_4cfef_6 : decode cJ2_indexOfCharUnsafe_4cfef 6 = .ok (.if_icmp .ge 22, 3) := by decide +kernel
theorem dJ2_indexOfCharUnsafe_4cfef_9 : decode cJ2_indexOfCharUnsafe_4cfef 9 = .ok (.aload_n 0, 1) := by decide +kernel
theorem dJ2_indexOfCharUnsafe_4cfef_10 : decode cJ2_indexOfCharUnsafe_4cfef 10 = .ok (.iload 4, 2) := by decide +kernel
theorem dJ2_indexOfCharUnsafe_4cfef_12 : decode cJ2_indexOfCharUnsafe_4cfef 12 = .ok (.invokestatic 71, 3) := by decide +kernel
theorem dJ2_indexOfCharUnsafe_4cfef_15 : decode cJ2_indexOfCharUnsafe_4cfef 15 = .ok (.iload_n 1, 1) := by decide +kernel
theorem dJ2_indexOfCharUnsafe_4cfef_16 : decode cJ2_indexOfCharUnsafe_4cfef 16 = .ok (.if_icmp .ne 6, 3) := by decide +kernel
theorem dJ2_indexOfCharUnsafe_4cfef_19 : decode cJ2_indexOfCharUnsafe_4cfef 19 = .ok (.iload 4, 2) := by decide +kernel
theorem dJ2_indexOfCharUnsafe_4cfef_21 : decode cJ2_indexOfCharUnsafe_4cfef 21 = .ok (.ireturn, 1) := by decide +kernel
theorem dJ2_indexOfCharUnsafe_4cfef_22 : decode cJ2_indexOfCharUnsafe_4cfef 22 = .ok (.iinc 4 1, 3) := by decide +kernel
theorem dJ2_indexOfCharUnsafe_4cfef_25 : decode cJ2_indexOfCharUnsafe_4cfef 25 = .ok (.goto (-22), 3) := by decide +kernel
theorem dJ2_indexOfCharUnsafe_4cfef_28 : decode cJ2_indexOfCharUnsafe_4cfef 28 = .ok (.iconst (-1), 1) := by decide +kernel
theorem dJ2_indexOfCharUnsafe_4cfef_29 : decode cJ2_indexOfCharUnsafe_4cfef 29 = .ok (.ireturn, 1) := by decide +kernel
theorem dJ2_indexOfSupplementary_4cfef_0 : decode cJ2_indexOfSupplementary_4cfef 0 = .ok (.iload_n 1, 1) := by decide +kernel
theorem dJ2_indexOfSupplementary_4cfef_1 : decode cJ2_indexOfSupplementary_4cfef 1 = .ok (.invokestatic 164, 3) := by decide +kernel
theorem dJ2_indexOfSupplementary_4cfef_4 : decode cJ2_indexOfSupplementary_4cfef 4 = .ok (.ifCond .eq 65, 3) := by decide +kernel
theorem dJ2_indexOfSupplementary_4cfef_7 : decode cJ2_indexOfSupplementary_4cfef 7 = .ok (.iload_n 1, 1) := by decide +kernel
theorem dJ2_indexOfSupplementary_4cfef_8 : decode cJ2_indexOfSupplementary_4cfef 8 = .ok (.invokestatic 157, 3) := by decide +kernel
theorem dJ2_indexOfSupplementary_4cfef_11 : decode cJ2_indexOfSupplementary_4cfef 11 = .ok (.istore 4, 2) := by decide +kernel
theorem dJ2_indexOfSupplementary_4cfef_13 : decode cJ2_indexOfSupplementary_4cfef 13 = .ok (.iload_n 1, 1) := by decide +kernel
theorem dJ2_indexOfSupplementary_4cfef_14 : decode cJ2_indexOfSupplementary_4cfef 14 = .ok (.invokestatic 161, 3) := by decide +kernel
theorem dJ2_indexOfSupplementary_4cfef_17 : decode cJ2_indexOfSupplementary_4cfef 17 = .ok (.istore 5, 2) := by decide +kernel
theorem dJ2_indexOfSupplementary_4cfef_19 : decode cJ2_indexOfSupplementary_4cfef 19 = .ok (.iload_n 2, 1) := by decide +kernel
theorem dJ2_indexOfSupplementary_4cfef_20 : decode cJ2_indexOfSupplementary_4cfef 20 = .ok (.iload_n 3, 1) := by decide +kernel
theorem dJ2_indexOfSupplementary_4cfef_21 : decode cJ2_indexOfSupplementary_4cfef 21 = .ok (.aload_n 0, 1) := by decide +kernel
theorem dJ2_indexOfSupplementary_4cfef_22 : decode cJ2_indexOfSupplementary_4cfef 22 = .ok (.invokestatic 96, 3) := by decide +kernel
theorem dJ2_indexOfSupplementary_4cfef_25 : decode cJ2_indexOfSupplementary_4cfef 25 = .ok (.iload_n 2, 1) := by decide +kernel
theorem dJ2_indexOfSupplementary_4cfef_26 : decode cJ2_indexOfSupplementary_4cfef 26 = .ok (.istore 6, 2) := by decide +kernel
theorem dJ2_indexOfSupplementary_4cfef_28 : decode cJ2_indexOfSupplementary_4cfef 28 = .ok (.iload 6, 2) := by decide +kernel
theorem dJ2_indexOfSupplementary_4cfef_30 : decode cJ2_indexOfSupplementary_4cfef 30 = .ok (.iload_n 3, 1) := by decide +kernel
theorem dJ2_indexOfSupplementary_4cfef_31 : decode cJ2_indexOfSupplementary_4cfef 31 = .ok (.iconst 1, 1) := by decide +kernel
theorem dJ2_indexOfSupplementary_4cfef_32 : decode cJ2_indexOfSupplementary_4cfef 32 = .ok (.isub, 1) := by decide +kernel
theorem dJ2_indexOfSupplementary_4cfef_33 : decode cJ2_indexOfSupplementary_4cfef 33 = .ok (.if_icmp .ge 36, 3) := by decide +kernel
theorem dJ2_indexOfSupplementary_4cfef_36 : decode cJ2_indexOfSupplementary_4cfef 36 = .ok (.aload_n 0, 1) := by decide +kernel
theorem dJ2_indexOfSupplementary_4cfef_37 : decode cJ2_indexOfSupplementary_4cfef 37 = .ok (.iload 6, 2) := by decide +kernel
theorem dJ2_indexOfSupplementary_4cfef_39 : decode cJ2_indexOfSupplementary_4cfef 39 = .ok (.invokestatic 71, 3) := by decide +kernel
theorem dJ2_indexOfSupplementary_4cfef_42 : decode cJ2_indexOfSupplementary_4cfef 42 = .ok (.iload 4, 2) := by decide +kernel
theorem dJ2_indexOfSupplementary_4cfef_44 : decode cJ2_indexOfSupplementary_4cfef 44 = .ok (.if_icmp .ne 19, 3) := by decide +kernel
theorem dJ2_indexOfSupplementary_4cfef_47 : decode cJ2_indexOfSupplementary_4cfef 47 = .ok (.aload_n 0, 1) := by decide +kernel
theorem dJ2_indexOfSupplementary_4cfef_48 : decode cJ2_indexOfSupplementary_4cfef 48 = .ok (.iload 6, 2) := by decide +kernel
theorem dJ2_indexOfSupplementary_4cfef_50 : decode cJ2_indexOfSupplementary_4cfef 50 = .ok (.iconst 1, 1) := by decide +kernel
theorem dJ2_indexOfSupplementary_4cfef_51 : decode cJ2_indexOfSupplementary_4cfef 51 = .ok (.iadd, 1) := by decide +kernel
theorem dJ2_indexOfSupplementary_4cfef_52 : decode cJ2_indexOfSupplementary_4cfef 52 = .ok (.invokestatic 71, 3) := by decide +kernel
theorem dJ2_indexOfSupplementary_4cfef_55 : decode cJ2_indexOfSupplementary_4cfef 55 = .ok (.iload 5, 2) := by decide +kernel
theorem dJ2_indexOfSupplementary_4cfef_57 : decode cJ2_indexOfSupplementary_4cfef 57 = .ok (.if_icmp .ne 6, 3) := by decide +kernel
theorem dJ2_indexOfSupplementary_4cfef_60 : decode cJ2_indexOfSupplementary_4cfef 60 = .ok (.iload 6, 2) := by decide +kernel
theorem dJ2_indexOfSupplementary_4cfef_62 : decode cJ2_indexOfSupplementary_4cfef 62 = .ok (.ireturn, 1) := by decide +kernel
theorem dJ2_indexOfSupplementary_4cfef_63 : decode cJ2_indexOfSupplementary_4cfef 63 = .ok (.iinc 6 1, 3) := by decide +kernel
theorem dJ2_indexOfSupplementary_4cfef_66 : decode cJ2_indexOfSupplementary_4cfef 66 = .ok (.goto (-38), 3) := by decide +kernel
theorem dJ2_indexOfSupplementary_4cfef_69 : decode cJ2_indexOfSupplementary_4cfef 69 = .ok (.iconst (-1), 1) := by decide +kernel
theorem dJ2_indexOfSupplementary_4cfef_70 : decode cJ2_indexOfSupplementary_4cfef 70 = .ok (.ireturn, 1) := by decide +kernel
theorem dJ2_charAt_3b067_0 : decode cJ2_charAt_3b067 0 = .ok (.iload_n 1, 1) := by decide +kernel
theorem dJ2_charAt_3b067_1 : decode cJ2_charAt_3b067 1 = .ok (.aload_n 0, 1) := by decide +kernel
theorem dJ2_charAt_3b067_2 : decode cJ2_charAt_3b067 2 = .ok (.invokestatic 67, 3) := by decide +kernel
theorem dJ2_charAt_3b067_5 : decode cJ2_charAt_3b067 5 = .ok (.aload_n 0, 1) := by decide +kernel
theorem dJ2_charAt_3b067_6 : decode cJ2_charAt_3b067 6 = .ok (.iload_n 1, 1) := by decide +kernel
theorem dJ2_charAt_3b067_7 : decode cJ2_charAt_3b067 7 = .ok (.invokestatic 71, 3) := by decide +kernel
theorem dJ2_charAt_3b067_10 : decode cJ2_charAt_3b067 10 = .ok (.ireturn, 1) := by decide +kernel
theorem dJ2_checkIndex_2214a_0 : decode cJ2_checkIndex_2214a 0 = .ok (.iload_n 0, 1) := by decide +kernel
theorem dJ2_checkIndex_2214a_1 : decode cJ2_checkIndex_2214a 1 = .ok (.aload_n 1, 1) := by decide +kernel
theorem dJ2_checkIndex_2214a_2 : decode cJ2_checkIndex_2214a 2 = .ok (.invokestatic 48, 3) := by decide +kernel
theorem dJ2_checkIndex_2214a_5 : decode cJ2_checkIndex_2214a 5 = .ok (.invokestatic 414, 3) := by decide +kernel
theorem dJ2_checkIndex_2214a_8 : decode cJ2_checkIndex_2214a 8 = .ok (.return_, 1) := by decide +kernel
theorem dJ2_checkBoundsBeginEnd_d044e_0 : decode cJ2_checkBoundsBeginEnd_d044e 0 = .ok (.iload_n 0, 1) := by decide +kernel
theorem dJ2_checkBoundsBeginEnd_d044e_1 : decode cJ2_checkBoundsBeginEnd_d044e 1 = .ok (.iload_n 1, 1) := by decide +kernel
theorem dJ2_checkBoundsBeginEnd_d044e_2 : decode cJ2_checkBoundsBeginEnd_d044e 2 = .ok (.aload_n 2, 1) := by decide +kernel
theorem dJ2_checkBoundsBeginEnd_d044e_3 : decode cJ2_checkBoundsBeginEnd_d044e 3 = .ok (.invokestatic 48, 3) := by decide +kernel
theorem dJ2_checkBoundsBeginEnd_d044e_6 : decode cJ2_checkBoundsBeginEnd_d044e 6 = .ok (.invokestatic 241, 3) := by decide +kernel
theorem dJ2_checkBoundsBeginEnd_d044e_9 : decode cJ2_checkBoundsBeginEnd_d044e 9 = .ok (.return_, 1) := by decide +kernel
theorem dJ7_fill_53178_0 : decode cJ7_fill_53178 0 = .ok (.iconst 0, 1) := by decide +kernel
theorem dJ7_fill_53178_1 : decode cJ7_fill_53178 1 = .ok (.istore_n 2, 1) := by decide +kernel
theorem dJ7_fill_53178_2 : decode cJ7_fill_53178 2 = .ok (.aload_n 0, 1) := by decide +kernel
theorem dJ7_fill_53178_3 : decode cJ7_fill_53178 3 = .ok (.arraylength, 1) := by decide +kernel
theorem dJ7_fill_53178_4 : decode cJ7_fill_53178 4 = .ok (.istore_n 3, 1) := by decide +kernel
theorem dJ7_fill_53178_5 : decode cJ7_fill_53178 5 = .ok (.iload_n 2, 1) := by decide +kernel
theorem dJ7_fill_53178_6 : decode cJ7_fill_53178 6 = .ok (.iload_n 3, 1) := by decide +kernel
theorem dJ7_fill_53178_7 : decode cJ7_fill_53178 7 = .ok (.if_icmp .ge 13, 3) := by decide +kernel
theorem dJ7_fill_53178_10 : decode cJ7_fill_53178 10 = .ok (.aload_n 0, 1) := by decide +kernel
theorem dJ7_fill_53178_11 : decode cJ7_fill_53178 11 = .ok (.iload_n 2, 1) := by decide +kernel
theorem dJ7_fill_53178_12 : decode cJ7_fill_53178 12 = .ok (.iload_n 1, 1) := by decide +kernel
theorem dJ7_fill_53178_13 : decode cJ7_fill_53178 13 = .ok (.iastore, 1) := by decide +kernel
theorem dJ7_fill_53178_14 : decode cJ7_fill_53178 14 = .ok (.iinc 2 1, 3) := by decide +kernel
theorem dJ7_fill_53178_17 : decode cJ7_fill_53178 17 = .ok (.goto (-12), 3) := by decide +kernel
theorem dJ7_fill_53178_20 : decode cJ7_fill_53178 20 = .ok (.return_, 1) := by decide +kernel
theorem dJ7_copyOf_59c91_0 : decode cJ7_copyOf_59c91 0 = .ok (.iload_n 1, 1) := by decide +kernel
theorem dJ7_copyOf_59c91_1 : decode cJ7_copyOf_59c91 1 = .ok (.aload_n 0, 1) := by decide +kernel
theorem dJ7_copyOf_59c91_2 : decode cJ7_copyOf_59c91 2 = .ok (.arraylength, 1) := by decide +kernel
theorem dJ7_copyOf_59c91_3 : decode cJ7_copyOf_59c91 3 = .ok (.if_icmp .ne 11, 3) := by decide +kernel
theorem dJ7_copyOf_59c91_6 : decode cJ7_copyOf_59c91 6 = .ok (.aload_n 0, 1) := by decide +kernel
theorem dJ7_copyOf_59c91_7 : decode cJ7_copyOf_59c91 7 = .ok (.invokevirtual 316, 3) := by decide +kernel
theorem dJ7_copyOf_59c91_10 : decode cJ7_copyOf_59c91 10 = .ok (.checkcast 317, 3) := by decide +kernel
theorem dJ7_copyOf_59c91_13 : decode cJ7_copyOf_59c91 13 = .ok (.areturn, 1) := by decide +kernel
theorem dJ7_copyOf_59c91_14 : decode cJ7_copyOf_59c91 14 = .ok (.iload_n 1, 1) := by decide +kernel
theorem dJ7_copyOf_59c91_15 : decode cJ7_copyOf_59c91 15 = .ok (.newarray .int, 2) := by decide +kernel
theorem dJ7_copyOf_59c91_17 : decode cJ7_copyOf_59c91 17 = .ok (.astore_n 2, 1) := by decide +kernel
theorem dJ7_copyOf_59c91_18 : decode cJ7_copyOf_59c91 18 = .ok (.aload_n 0, 1) := by decide +kernel
theorem dJ7_copyOf_59c91_19 : decode cJ7_copyOf_59c91 19 = .ok (.iconst 0, 1) := by decide +kernel
theorem dJ7_copyOf_59c91_20 : decode cJ7_copyOf_59c91 20 = .ok (.aload_n 2, 1) := by decide +kernel
theorem dJ7_copyOf_59c91_21 : decode cJ7_copyOf_59c91 21 = .ok (.iconst 0, 1) := by decide +kernel
theorem dJ7_copyOf_59c91_22 : decode cJ7_copyOf_59c91 22 = .ok (.aload_n 0, 1) := by decide +kernel
theorem dJ7_copyOf_59c91_23 : decode cJ7_copyOf_59c91 23 = .ok (.arraylength, 1) := by decide +kernel
theorem dJ7_copyOf_59c91_24 : decode cJ7_copyOf_59c91 24 = .ok (.iload_n 1, 1) := by decide +kernel
theorem dJ7_copyOf_59c91_25 : decode cJ7_copyOf_59c91 25 = .ok (.invokestatic 304, 3) := by decide +kernel
theorem dJ7_copyOf_59c91_28 : decode cJ7_copyOf_59c91 28 = .ok (.invokestatic 150, 3) := by decide +kernel
theorem dJ7_copyOf_59c91_31 : decode cJ7_copyOf_59c91 31 = .ok (.aload_n 2, 1) := by decide +kernel
theorem dJ7_copyOf_59c91_32 : decode cJ7_copyOf_59c91 32 = .ok (.areturn, 1) := by decide +kernel
theorem dJ3_checkIndex_8e157_0 : decode cJ3_checkIndex_8e157 0 = .ok (.iload_n 0, 1) := by decide +kernel
theorem dJ3_checkIndex_8e157_1 : decode cJ3_checkIndex_8e157 1 = .ok (.ifCond .lt 8, 3) := by decide +kernel
theorem dJ3_checkIndex_8e157_4 : decode cJ3_checkIndex_8e157 4 = .ok (.iload_n 0, 1) := by decide +kernel
theorem dJ3_checkIndex_8e157_5 : decode cJ3_checkIndex_8e157 5 = .ok (.iload_n 1, 1) := by decide +kernel
theorem dJ3_checkIndex_8e157_6 : decode cJ3_checkIndex_8e157 6 = .ok (.if_icmp .lt 10, 3) := by decide +kernel
theorem dJ3_checkIndex_8e157_9 : decode cJ3_checkIndex_8e157 9 = .ok (.aload_n 2, 1) := by decide +kernel
theorem dJ3_checkIndex_8e157_10 : decode cJ3_checkIndex_8e157 10 = .ok (.iload_n 0, 1) := by decide +kernel
theorem dJ3_checkIndex_8e157_11 : decode cJ3_checkIndex_8e157 11 = .ok (.iload_n 1, 1) := by decide +kernel
theorem dJ3_checkIndex_8e157_12 : decode cJ3_checkIndex_8e157 12 = .ok (.invokestatic 95, 3) := by decide +kernel
theorem dJ3_checkIndex_8e157_15 : decode cJ3_checkIndex_8e157 15 = .ok (.athrow, 1) := by decide +kernel
theorem dJ3_checkIndex_8e157_16 : decode cJ3_checkIndex_8e157 16 = .ok (.iload_n 0, 1) := by decide +kernel
theorem dJ3_checkIndex_8e157_17 : decode cJ3_checkIndex_8e157 17 = .ok (.ireturn, 1) := by decide +kernel
theorem dJ3_checkFromToIndex_8c36e_0 : decode cJ3_checkFromToIndex_8c36e 0 = .ok (.iload_n 0, 1) := by decide +kernel
theorem dJ3_checkFromToIndex_8c36e_1 : decode cJ3_checkFromToIndex_8c36e 1 = .ok (.ifCond .lt 13, 3) := by decide +kernel
theorem dJ3_checkFromToIndex_8c36e_4 : decode cJ3_checkFromToIndex_8c36e 4 = .ok (.iload_n 0, 1) := by decide +kernel
theorem dJ3_checkFromToIndex_8c36e_5 : decode cJ3_checkFromToIndex_8c36e 5 = .ok (.iload_n 1, 1) := by decide +kernel
theorem dJ3_checkFromToIndex_8c36e_6 : decode cJ3_checkFromToIndex_8c36e 6 = .ok (.if_icmp .gt 8, 3) := by decide +kernel
theorem dJ3_checkFromToIndex_8c36e_9 : decode cJ3_checkFromToIndex_8c36e 9 = .ok (.iload_n 1, 1) := by decide +kernel
theorem dJ3_checkFromToIndex_8c36e_10 : decode cJ3_checkFromToIndex_8c36e 10 = .ok (.iload_n 2, 1) := by decide +kernel
theorem dJ3_checkFromToIndex_8c36e_11 : decode cJ3_checkFromToIndex_8c36e 11 = .ok (.if_icmp .le 11, 3) := by decide +kernel
theorem dJ3_checkFromToIndex_8c36e_14 : decode cJ3_checkFromToIndex_8c36e 14 = .ok (.aload_n 3, 1) := by decide +kernel
theorem dJ3_checkFromToIndex_8c36e_15 : decode cJ3_checkFromToIndex_8c36e 15 = .ok (.iload_n 0, 1) := by decide +kernel
theorem dJ3_checkFromToIndex_8c36e_16 : decode cJ3_checkFromToIndex_8c36e 16 = .ok (.iload_n 1, 1) := by decide +kernel
theorem dJ3_checkFromToIndex_8c36e_17 : decode cJ3_checkFromToIndex_8c36e 17 = .ok (.iload_n 2, 1) := by decide +kernel
theorem dJ3_checkFromToIndex_8c36e_18 : decode cJ3_checkFromToIndex_8c36e 18 = .ok (.invokestatic 99, 3) := by decide +kernel
theorem dJ3_checkFromToIndex_8c36e_21 : decode cJ3_checkFromToIndex_8c36e 21 = .ok (.athrow, 1) := by decide +kernel
theorem dJ3_checkFromToIndex_8c36e_22 : decode cJ3_checkFromToIndex_8c36e 22 = .ok (.iload_n 0, 1) := by decide +kernel
theorem dJ3_checkFromToIndex_8c36e_23 : decode cJ3_checkFromToIndex_8c36e 23 = .ok (.ireturn, 1) := by decide +kernel
theorem dL_told_0 : decode cL_told 0 = .ok (.aload_n 3, 1) := by decide +kernel
theorem dL_told_1 : decode cL_told 1 = .ok (.iconst 0, 1) := by decide +kernel
theorem dL_told_2 : decode cL_told 2 = .ok (.aload_n 0, 1) := by decide +kernel
theorem dL_told_3 : decode cL_told 3 = .ok (.iload_n 1, 1) := by decide +kernel
theorem dL_told_4 : decode cL_told 4 = .ok (.iload_n 2, 1) := by decide +kernel
theorem dL_told_5 : decode cL_told 5 = .ok (.invokevirtual 7, 3) := by decide +kernel
theorem dL_told_8 : decode cL_told 8 = .ok (.i2l, 1) := by decide +kernel
theorem dL_told_9 : decode cL_told 9 = .ok (.lastore, 1) := by decide +kernel
theorem dL_told_10 : decode cL_told 10 = .ok (.goto 7, 3) := by decide +kernel
theorem dL_told_13 : decode cL_told 13 = .ok (.astore 4, 2) := by decide +kernel
theorem dL_told_15 : decode cL_told 15 = .ok (.iconst 1, 1) := by decide +kernel
theorem dL_told_16 : decode cL_told 16 = .ok (.ireturn, 1) := by decide +kernel
theorem dL_told_17 : decode cL_told 17 = .ok (.iconst 0, 1) := by decide +kernel
theorem dL_told_18 : decode cL_told 18 = .ok (.ireturn, 1) := by decide +kernel
theorem dL_law_0 : decode cL_law 0 = .ok (.new 8, 3) := by decide +kernel
theorem dL_law_3 : decode cL_law 3 = .ok (.dup, 1) := by decide +kernel
theorem dL_law_4 : decode cL_law 4 = .ok (.invokespecial 15, 3) := by decide +kernel
theorem dL_law_7 : decode cL_law 7 = .ok (.astore_n 1, 1) := by decide +kernel
theorem dL_law_8 : decode cL_law 8 = .ok (.new 16, 3) := by decide +kernel
theorem dL_law_11 : decode cL_law 11 = .ok (.dup, 1) := by decide +kernel
theorem dL_law_12 : decode cL_law 12 = .ok (.invokespecial 18, 3) := by decide +kernel
theorem dL_law_15 : decode cL_law 15 = .ok (.astore_n 2, 1) := by decide +kernel
theorem dL_law_16 : decode cL_law 16 = .ok (.iconst 1, 1) := by decide +kernel
theorem dL_law_17 : decode cL_law 17 = .ok (.newarray .long, 2) := by decide +kernel
theorem dL_law_19 : decode cL_law 19 = .ok (.astore_n 3, 1) := by decide +kernel
theorem dL_law_20 : decode cL_law 20 = .ok (.iconst 0, 1) := by decide +kernel
theorem dL_law_21 : decode cL_law 21 = .ok (.istore 4, 2) := by decide +kernel
theorem dL_law_23 : decode cL_law 23 = .ok (.iload 4, 2) := by decide +kernel
theorem dL_law_25 : decode cL_law 25 = .ok (.aload_n 0, 1) := by decide +kernel
theorem dL_law_26 : decode cL_law 26 = .ok (.arraylength, 1) := by decide +kernel
theorem dL_law_27 : decode cL_law 27 = .ok (.bipush 7, 2) := by decide +kernel
theorem dL_law_29 : decode cL_law 29 = .ok (.isub, 1) := by decide +kernel
theorem dL_law_30 : decode cL_law 30 = .ok (.if_icmp .gt 790, 3) := by decide +kernel
theorem dL_law_33 : decode cL_law 33 = .ok (.aload_n 0, 1) := by decide +kernel
theorem dL_law_34 : decode cL_law 34 = .ok (.iload 4, 2) := by decide +kernel
theorem dL_law_36 : decode cL_law 36 = .ok (.iaload, 1) := by decide +kernel
theorem dL_law_37 : decode cL_law 37 = .ok (.bipush 31, 2) := by decide +kernel
theorem dL_law_39 : decode cL_law 39 = .ok (.iand, 1) := by decide +kernel
theorem dL_law_40 : decode cL_law 40 = .ok (.tableswitch 774 0 16 #[84, 231, 256, 281, 306, 343, 368, 421, 446, 471, 496, 521, 558, 595, 656, 681, 749], 84) := by decide +kernel
theorem dL_law_124 : decode cL_law 124 = .ok (.aload_n 1, 1) := by decide +kernel
theorem dL_law_125 : decode cL_law 125 = .ok (.aload_n 0, 1) := by decide +kernel
theorem dL_law_126 : decode cL_law 126 = .ok (.iload 4, 2) := by decide +kernel
theorem dL_law_128 : decode cL_law 128 = .ok (.iconst 1, 1) := by decide +kernel
theorem dL_law_129 : decode cL_law 129 = .ok (.iadd, 1) := by decide +kernel
theorem dL_law_130 : decode cL_law 130 = .ok (.iaload, 1) := by decide +kernel
theorem dL_law_131 : decode cL_law 131 = .ok (.i2l, 1) := by decide +kernel
theorem dL_law_132 : decode cL_law 132 = .ok (.bipush 32, 2) := by decide +kernel
theorem dL_law_134 : decode cL_law 134 = .ok (.lshl, 1) := by decide +kernel
theorem dL_law_135 : decode cL_law 135 = .ok (.aload_n 0, 1) := by decide +kernel
theorem dL_law_136 : decode cL_law 136 = .ok (.iload 4, 2) := by decide +kernel
theorem dL_law_138 : decode cL_law 138 = .ok (.iconst 2, 1) := by decide +kernel
theorem dL_law_139 : decode cL_law 139 = .ok (.iadd, 1) := by decide +kernel
theorem dL_law_140 : decode cL_law 140 = .ok (.iaload, 1) := by decide +kernel
theorem dL_law_141 : decode cL_law 141 = .ok (.i2l, 1) := by decide +kernel
theorem dL_law_142 : decode cL_law 142 = .ok (.ldc2_w 19, 3) := by decide +kernel
theorem dL_law_145 : decode cL_law 145 = .ok (.land, 1) := by decide +kernel
theorem dL_law_146 : decode cL_law 146 = .ok (.lor, 1) := by decide +kernel
theorem dL_law_147 : decode cL_law 147 = .ok (.aload_n 0, 1) := by decide +kernel
theorem dL_law_148 : decode cL_law 148 = .ok (.iload 4, 2) := by decide +kernel
theorem dL_law_150 : decode cL_law 150 = .ok (.iconst 3, 1) := by decide +kernel
theorem dL_law_151 : decode cL_law 151 = .ok (.iadd, 1) := by decide +kernel
theorem dL_law_152 : decode cL_law 152 = .ok (.iaload, 1) := by decide +kernel
theorem dL_law_153 : decode cL_law 153 = .ok (.i2l, 1) := by decide +kernel
theorem dL_law_154 : decode cL_law 154 = .ok (.bipush 32, 2) := by decide +kernel
theorem dL_law_156 : decode cL_law 156 = .ok (.lshl, 1) := by decide +kernel
theorem dL_law_157 : decode cL_law 157 = .ok (.aload_n 0, 1) := by decide +kernel
theorem dL_law_158 : decode cL_law 158 = .ok (.iload 4, 2) := by decide +kernel
theorem dL_law_160 : decode cL_law 160 = .ok (.iconst 4, 1) := by decide +kernel
theorem dL_law_161 : decode cL_law 161 = .ok (.iadd, 1) := by decide +kernel
theorem dL_law_162 : decode cL_law 162 = .ok (.iaload, 1) := by decide +kernel
theorem dL_law_163 : decode cL_law 163 = .ok (.i2l, 1) := by decide +kernel
theorem dL_law_164 : decode cL_law 164 = .ok (.ldc2_w 19, 3) := by decide +kernel
theorem dL_law_167 : decode cL_law 167 = .ok (.land, 1) := by decide +kernel
theorem dL_law_168 : decode cL_law 168 = .ok (.lor, 1) := by decide +kernel
theorem dL_law_169 : decode cL_law 169 = .ok (.aload_n 0, 1) := by decide +kernel
theorem dL_law_170 : decode cL_law 170 = .ok (.iload 4, 2) := by decide +kernel
theorem dL_law_172 : decode cL_law 172 = .ok (.iconst 5, 1) := by decide +kernel
theorem dL_law_173 : decode cL_law 173 = .ok (.iadd, 1) := by decide +kernel
theorem dL_law_174 : decode cL_law 174 = .ok (.iaload, 1) := by decide +kernel
theorem dL_law_175 : decode cL_law 175 = .ok (.i2l, 1) := by decide +kernel
theorem dL_law_176 : decode cL_law 176 = .ok (.bipush 32, 2) := by decide +kernel
theorem dL_law_178 : decode cL_law 178 = .ok (.lshl, 1) := by decide +kernel
theorem dL_law_179 : decode cL_law 179 = .ok (.aload_n 0, 1) := by decide +kernel
theorem dL_law_180 : decode cL_law 180 = .ok (.iload 4, 2) := by decide +kernel
theorem dL_law_182 : decode cL_law 182 = .ok (.bipush 6, 2) := by decide +kernel
theorem dL_law_184 : decode cL_law 184 = .ok (.iadd, 1) := by decide +kernel
theorem dL_law_185 : decode cL_law 185 = .ok (.iaload, 1) := by decide +kernel
theorem dL_law_186 : decode cL_law 186 = .ok (.i2l, 1) := by decide +kernel
theorem dL_law_187 : decode cL_law 187 = .ok (.ldc2_w 19, 3) := by decide +kernel
theorem dL_law_190 : decode cL_law 190 = .ok (.land, 1) := by decide +kernel
theorem dL_law_191 : decode cL_law 191 = .ok (.lor, 1) := by decide +kernel
theorem dL_law_192 : decode cL_law 192 = .ok (.invokevirtual 21, 3) := by decide +kernel
theorem dL_law_195 : decode cL_law 195 = .ok (.aload_n 2, 1) := by decide +kernel
theorem dL_law_196 : decode cL_law 196 = .ok (.aload_n 0, 1) := by decide +kernel
theorem dL_law_197 : decode cL_law 197 = .ok (.iload 4, 2) := by decide +kernel
theorem dL_law_199 : decode cL_law 199 = .ok (.iconst 1, 1) := by decide +kernel
theorem dL_law_200 : decode cL_law 200 = .ok (.iadd, 1) := by decide +kernel
theorem dL_law_201 : decode cL_law 201 = .ok (.iaload, 1) := by decide +kernel
theorem dL_law_202 : decode cL_law 202 = .ok (.i2l, 1) := by decide +kernel
theorem dL_law_203 : decode cL_law 203 = .ok (.bipush 32, 2) := by decide +kernel
theorem dL_law_205 : decode cL_law 205 = .ok (.lshl, 1) := by decide +kernel
theorem dL_law_206 : decode cL_law 206 = .ok (.aload_n 0, 1) := by decide +kernel
theorem dL_law_207 : decode cL_law 207 = .ok (.iload 4, 2) := by decide +kernel
theorem dL_law_209 : decode cL_law 209 = .ok (.iconst 2, 1) := by decide +kernel
theorem dL_law_210 : decode cL_law 210 = .ok (.iadd, 1) := by decide +kernel
theorem dL_law_211 : decode cL_law 211 = .ok (.iaload, 1) := by decide +kernel
theorem dL_law_212 : decode cL_law 212 = .ok (.i2l, 1) := by decide +kernel
theorem dL_law_213 : decode cL_law 213 = .ok (.ldc2_w 19, 3) := by decide +kernel
theorem dL_law_216 : decode cL_law 216 = .ok (.land, 1) := by decide +kernel
theorem dL_law_217 : decode cL_law 217 = .ok (.lor, 1) := by decide +kernel
theorem dL_law_218 : decode cL_law 218 = .ok (.aload_n 0, 1) := by decide +kernel
theorem dL_law_219 : decode cL_law 219 = .ok (.iload 4, 2) := by decide +kernel
theorem dL_law_221 : decode cL_law 221 = .ok (.iconst 3, 1) := by decide +kernel
theorem dL_law_222 : decode cL_law 222 = .ok (.iadd, 1) := by decide +kernel
theorem dL_law_223 : decode cL_law 223 = .ok (.iaload, 1) := by decide +kernel
theorem dL_law_224 : decode cL_law 224 = .ok (.i2l, 1) := by decide +kernel
theorem dL_law_225 : decode cL_law 225 = .ok (.bipush 32, 2) := by decide +kernel
theorem dL_law_227 : decode cL_law 227 = .ok (.lshl, 1) := by decide +kernel
theorem dL_law_228 : decode cL_law 228 = .ok (.aload_n 0, 1) := by decide +kernel
theorem dL_law_229 : decode cL_law 229 = .ok (.iload 4, 2) := by decide +kernel
theorem dL_law_231 : decode cL_law 231 = .ok (.iconst 4, 1) := by decide +kernel
theorem dL_law_232 : decode cL_law 232 = .ok (.iadd, 1) := by decide +kernel
theorem dL_law_233 : decode cL_law 233 = .ok (.iaload, 1) := by decide +kernel
theorem dL_law_234 : decode cL_law 234 = .ok (.i2l, 1) := by decide +kernel
theorem dL_law_235 : decode cL_law 235 = .ok (.ldc2_w 19, 3) := by decide +kernel
theorem dL_law_238 : decode cL_law 238 = .ok (.land, 1) := by decide +kernel
theorem dL_law_239 : decode cL_law 239 = .ok (.lor, 1) := by decide +kernel
theorem dL_law_240 : decode cL_law 240 = .ok (.aload_n 0, 1) := by decide +kernel
theorem dL_law_241 : decode cL_law 241 = .ok (.iload 4, 2) := by decide +kernel
theorem dL_law_243 : decode cL_law 243 = .ok (.iconst 5, 1) := by decide +kernel
theorem dL_law_244 : decode cL_law 244 = .ok (.iadd, 1) := by decide +kernel
theorem dL_law_245 : decode cL_law 245 = .ok (.iaload, 1) := by decide +kernel
theorem dL_law_246 : decode cL_law 246 = .ok (.i2l, 1) := by decide +kernel
theorem dL_law_247 : decode cL_law 247 = .ok (.bipush 32, 2) := by decide +kernel
theorem dL_law_249 : decode cL_law 249 = .ok (.lshl, 1) := by decide +kernel
theorem dL_law_250 : decode cL_law 250 = .ok (.aload_n 0, 1) := by decide +kernel
theorem dL_law_251 : decode cL_law 251 = .ok (.iload 4, 2) := by decide +kernel
theorem dL_law_253 : decode cL_law 253 = .ok (.bipush 6, 2) := by decide +kernel
theorem dL_law_255 : decode cL_law 255 = .ok (.iadd, 1) := by decide +kernel
theorem dL_law_256 : decode cL_law 256 = .ok (.iaload, 1) := by decide +kernel
theorem dL_law_257 : decode cL_law 257 = .ok (.i2l, 1) := by decide +kernel
theorem dL_law_258 : decode cL_law 258 = .ok (.ldc2_w 19, 3) := by decide +kernel
theorem dL_law_261 : decode cL_law 261 = .ok (.land, 1) := by decide +kernel
theorem dL_law_262 : decode cL_law 262 = .ok (.lor, 1) := by decide +kernel
theorem dL_law_263 : decode cL_law 263 = .ok (.invokevirtual 25, 3) := by decide +kernel
theorem dL_law_266 : decode cL_law 266 = .ok (.if_icmp .eq 548, 3) := by decide +kernel
theorem dL_law_269 : decode cL_law 269 = .ok (.iconst 0, 1) := by decide +kernel
theorem dL_law_270 : decode cL_law 270 = .ok (.ireturn, 1) := by decide +kernel
theorem dL_law_271 : decode cL_law 271 = .ok (.aload_n 1, 1) := by decide +kernel
theorem dL_law_272 : decode cL_law 272 = .ok (.aload_n 0, 1) := by decide +kernel
theorem dL_law_273 : decode cL_law 273 = .ok (.iload 4, 2) := by decide +kernel
theorem dL_law_275 : decode cL_law 275 = .ok (.iconst 1, 1) := by decide +kernel
theorem dL_law_276 : decode cL_law 276 = .ok (.iadd, 1) := by decide +kernel
theorem dL_law_277 : decode cL_law 277 = .ok (.iaload, 1) := by decide +kernel
theorem dL_law_278 : decode cL_law 278 = .ok (.invokevirtual 26, 3) := by decide +kernel
theorem dL_law_281 : decode cL_law 281 = .ok (.aload_n 2, 1) := by decide +kernel
theorem dL_law_282 : decode cL_law 282 = .ok (.aload_n 0, 1) := by decide +kernel
theorem dL_law_283 : decode cL_law 283 = .ok (.iload 4, 2) := by decide +kernel
theorem dL_law_285 : decode cL_law 285 = .ok (.iconst 1, 1) := by decide +kernel
theorem dL_law_286 : decode cL_law 286 = .ok (.iadd, 1) := by decide +kernel
theorem dL_law_287 : decode cL_law 287 = .ok (.iaload, 1) := by decide +kernel
theorem dL_law_288 : decode cL_law 288 = .ok (.invokevirtual 30, 3) := by decide +kernel
theorem dL_law_291 : decode cL_law 291 = .ok (.if_icmp .eq 523, 3) := by decide +kernel
theorem dL_law_294 : decode cL_law 294 = .ok (.iconst 0, 1) := by decide +kernel
theorem dL_law_295 : decode cL_law 295 = .ok (.ireturn, 1) := by decide +kernel
theorem dL_law_296 : decode cL_law 296 = .ok (.aload_n 1, 1) := by decide +kernel
theorem dL_law_297 : decode cL_law 297 = .ok (.aload_n 0, 1) := by decide +kernel
theorem dL_law_298 : decode cL_law 298 = .ok (.iload 4, 2) := by decide +kernel
theorem dL_law_300 : decode cL_law 300 = .ok (.iconst 1, 1) := by decide +kernel
theorem dL_law_301 : decode cL_law 301 = .ok (.iadd, 1) := by decide +kernel
theorem dL_law_302 : decode cL_law 302 = .ok (.iaload, 1) := by decide +kernel
theorem dL_law_303 : decode cL_law 303 = .ok (.invokevirtual 31, 3) := by decide +kernel
theorem dL_law_306 : decode cL_law 306 = .ok (.aload_n 2, 1) := by decide +kernel
theorem dL_law_307 : decode cL_law 307 = .ok (.aload_n 0, 1) := by decide +kernel
theorem dL_law_308 : decode cL_law 308 = .ok (.iload 4, 2) := by decide +kernel
theorem dL_law_310 : decode cL_law 310 = .ok (.iconst 1, 1) := by decide +kernel
theorem dL_law_311 : decode cL_law 311 = .ok (.iadd, 1) := by decide +kernel
theorem dL_law_312 : decode cL_law 312 = .ok (.iaload, 1) := by decide +kernel
theorem dL_law_313 : decode cL_law 313 = .ok (.invokevirtual 35, 3) := by decide +kernel
theorem dL_law_316 : decode cL_law 316 = .ok (.if_icmp .eq 498, 3) := by decide +kernel
theorem dL_law_319 : decode cL_law 319 = .ok (.iconst 0, 1) := by decide +kernel
theorem dL_law_320 : decode cL_law 320 = .ok (.ireturn, 1) := by decide +kernel
theorem dL_law_321 : decode cL_law 321 = .ok (.aload_n 1, 1) := by decide +kernel
theorem dL_law_322 : decode cL_law 322 = .ok (.aload_n 0, 1) := by decide +kernel
theorem dL_law_323 : decode cL_law 323 = .ok (.iload 4, 2) := by decide +kernel
theorem dL_law_325 : decode cL_law 325 = .ok (.iconst 1, 1) := by decide +kernel
theorem dL_law_326 : decode cL_law 326 = .ok (.iadd, 1) := by decide +kernel
theorem dL_law_327 : decode cL_law 327 = .ok (.iaload, 1) := by decide +kernel
theorem dL_law_328 : decode cL_law 328 = .ok (.invokevirtual 36, 3) := by decide +kernel
theorem dL_law_331 : decode cL_law 331 = .ok (.aload_n 2, 1) := by decide +kernel
theorem dL_law_332 : decode cL_law 332 = .ok (.aload_n 0, 1) := by decide +kernel
theorem dL_law_333 : decode cL_law 333 = .ok (.iload 4, 2) := by decide +kernel
theorem dL_law_335 : decode cL_law 335 = .ok (.iconst 1, 1) := by decide +kernel
theorem dL_law_336 : decode cL_law 336 = .ok (.iadd, 1) := by decide +kernel
theorem dL_law_337 : decode cL_law 337 = .ok (.iaload, 1) := by decide +kernel
theorem dL_law_338 : decode cL_law 338 = .ok (.invokevirtual 39, 3) := by decide +kernel
theorem dL_law_341 : decode cL_law 341 = .ok (.if_icmp .eq 473, 3) := by decide +kernel
theorem dL_law_344 : decode cL_law 344 = .ok (.iconst 0, 1) := by decide +kernel
theorem dL_law_345 : decode cL_law 345 = .ok (.ireturn, 1) := by decide +kernel
theorem dL_law_346 : decode cL_law 346 = .ok (.aload_n 1, 1) := by decide +kernel
theorem dL_law_347 : decode cL_law 347 = .ok (.aload_n 0, 1) := by decide +kernel
theorem dL_law_348 : decode cL_law 348 = .ok (.iload 4, 2) := by decide +kernel
theorem dL_law_350 : decode cL_law 350 = .ok (.iconst 1, 1) := by decide +kernel
theorem dL_law_351 : decode cL_law 351 = .ok (.iadd, 1) := by decide +kernel
theorem dL_law_352 : decode cL_law 352 = .ok (.iaload, 1) := by decide +kernel
theorem dL_law_353 : decode cL_law 353 = .ok (.aload_n 0, 1) := by decide +kernel
theorem dL_law_354 : decode cL_law 354 = .ok (.iload 4, 2) := by decide +kernel
theorem dL_law_356 : decode cL_law 356 = .ok (.iconst 2, 1) := by decide +kernel
theorem dL_law_357 : decode cL_law 357 = .ok (.iadd, 1) := by decide +kernel
theorem dL_law_358 : decode cL_law 358 = .ok (.iaload, 1) := by decide +kernel
theorem dL_law_359 : decode cL_law 359 = .ok (.invokevirtual 40, 3) := by decide +kernel
theorem dL_law_362 : decode cL_law 362 = .ok (.aload_n 2, 1) := by decide +kernel
theorem dL_law_363 : decode cL_law 363 = .ok (.aload_n 0, 1) := by decide +kernel
theorem dL_law_364 : decode cL_law 364 = .ok (.iload 4, 2) := by decide +kernel
theorem dL_law_366 : decode cL_law 366 = .ok (.iconst 1, 1) := by decide +kernel
theorem dL_law_367 : decode cL_law 367 = .ok (.iadd, 1) := by decide +kernel
theorem dL_law_368 : decode cL_law 368 = .ok (.iaload, 1) := by decide +kernel
theorem dL_law_369 : decode cL_law 369 = .ok (.aload_n 0, 1) := by decide +kernel
theorem dL_law_370 : decode cL_law 370 = .ok (.iload 4, 2) := by decide +kernel
theorem dL_law_372 : decode cL_law 372 = .ok (.iconst 2, 1) := by decide +kernel
theorem dL_law_373 : decode cL_law 373 = .ok (.iadd, 1) := by decide +kernel
theorem dL_law_374 : decode cL_law 374 = .ok (.iaload, 1) := by decide +kernel
theorem dL_law_375 : decode cL_law 375 = .ok (.invokevirtual 44, 3) := by decide +kernel
theorem dL_law_378 : decode cL_law 378 = .ok (.if_icmp .eq 436, 3) := by decide +kernel
theorem dL_law_381 : decode cL_law 381 = .ok (.iconst 0, 1) := by decide +kernel
theorem dL_law_382 : decode cL_law 382 = .ok (.ireturn, 1) := by decide +kernel
theorem dL_law_383 : decode cL_law 383 = .ok (.aload_n 1, 1) := by decide +kernel
