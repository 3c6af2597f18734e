theorem dX10_changed_33 : decode cX10_changed 33 = .ok (.ifCond .lt 9, 3) := by decide +kernel
theorem dX10_changed_36 : decode cX10_changed 36 = .ok (.iload 4, 2) := by decide +kernel
theorem dX10_changed_38 : decode cX10_changed 38 = .ok (.iconst 1, 1) := by decide +kernel
theorem dX10_changed_39 : decode cX10_changed 39 = .ok (.if_icmp .le 5, 3) := by decide +kernel
theorem dX10_changed_42 : decode cX10_changed 42 = .ok (.iconst (-1), 1) := by decide +kernel
theorem dX10_changed_43 : decode cX10_changed 43 = .ok (.ireturn, 1) := by decide +kernel
theorem dX10_changed_44 : decode cX10_changed 44 = .ok (.aload 5, 2) := by decide +kernel
theorem dX10_changed_46 : decode cX10_changed 46 = .ok (.aload 6, 2) := by decide +kernel
theorem dX10_changed_48 : decode cX10_changed 48 = .ok (.invokevirtual 163, 3) := by decide +kernel
theorem dX10_changed_51 : decode cX10_changed 51 = .ok (.ifCond .ne 6, 3) := by decide +kernel
theorem dX10_changed_54 : decode cX10_changed 54 = .ok (.bipush (-2), 2) := by decide +kernel
theorem dX10_changed_56 : decode cX10_changed 56 = .ok (.ireturn, 1) := by decide +kernel
theorem dX10_changed_57 : decode cX10_changed 57 = .ok (.aload_n 0, 1) := by decide +kernel
theorem dX10_changed_58 : decode cX10_changed 58 = .ok (.getfield 43, 3) := by decide +kernel
theorem dX10_changed_61 : decode cX10_changed 61 = .ok (.aload 5, 2) := by decide +kernel
theorem dX10_changed_63 : decode cX10_changed 63 = .ok (.aload 6, 2) := by decide +kernel
theorem dX10_changed_65 : decode cX10_changed 65 = .ok (.iload_n 3, 1) := by decide +kernel
theorem dX10_changed_66 : decode cX10_changed 66 = .ok (.aload_n 0, 1) := by decide +kernel
theorem dX10_changed_67 : decode cX10_changed 67 = .ok (.getfield 29, 3) := by decide +kernel
theorem dX10_changed_70 : decode cX10_changed 70 = .ok (.invokevirtual 167, 3) := by decide +kernel
theorem dX10_changed_73 : decode cX10_changed 73 = .ok (.iload 4, 2) := by decide +kernel
theorem dX10_changed_75 : decode cX10_changed 75 = .ok (.ifCond .ne 13, 3) := by decide +kernel
theorem dX10_changed_78 : decode cX10_changed 78 = .ok (.aload_n 0, 1) := by decide +kernel
theorem dX10_changed_79 : decode cX10_changed 79 = .ok (.getfield 43, 3) := by decide +kernel
theorem dX10_changed_82 : decode cX10_changed 82 = .ok (.getfield 171, 3) := by decide +kernel
theorem dX10_changed_85 : decode cX10_changed 85 = .ok (.goto 10, 3) := by decide +kernel
theorem dX10_changed_88 : decode cX10_changed 88 = .ok (.aload_n 0, 1) := by decide +kernel
theorem dX10_changed_89 : decode cX10_changed 89 = .ok (.getfield 43, 3) := by decide +kernel
theorem dX10_changed_92 : decode cX10_changed 92 = .ok (.getfield 174, 3) := by decide +kernel
theorem dX10_changed_95 : decode cX10_changed 95 = .ok (.ireturn, 1) := by decide +kernel
theorem dX10_look_0 : decode cX10_look 0 = .ok (.aload_n 0, 1) := by decide +kernel
theorem dX10_look_1 : decode cX10_look 1 = .ok (.getfield 88, 3) := by decide +kernel
theorem dX10_look_4 : decode cX10_look 4 = .ok (.ifnonnull 5, 3) := by decide +kernel
theorem dX10_look_7 : decode cX10_look 7 = .ok (.iconst (-1), 1) := by decide +kernel
theorem dX10_look_8 : decode cX10_look 8 = .ok (.ireturn, 1) := by decide +kernel
theorem dX10_look_9 : decode cX10_look 9 = .ok (.iload_n 1, 1) := by decide +kernel
theorem dX10_look_10 : decode cX10_look 10 = .ok (.tableswitch 90 0 5 #[38, 46, 54, 62, 70, 78], 38) := by decide +kernel
theorem dX10_look_48 : decode cX10_look 48 = .ok (.aload_n 0, 1) := by decide +kernel
theorem dX10_look_49 : decode cX10_look 49 = .ok (.getfield 88, 3) := by decide +kernel
theorem dX10_look_52 : decode cX10_look 52 = .ok (.getfield 177, 3) := by decide +kernel
theorem dX10_look_55 : decode cX10_look 55 = .ok (.ireturn, 1) := by decide +kernel
theorem dX10_look_56 : decode cX10_look 56 = .ok (.aload_n 0, 1) := by decide +kernel
theorem dX10_look_57 : decode cX10_look 57 = .ok (.getfield 88, 3) := by decide +kernel
theorem dX10_look_60 : decode cX10_look 60 = .ok (.getfield 180, 3) := by decide +kernel
theorem dX10_look_63 : decode cX10_look 63 = .ok (.ireturn, 1) := by decide +kernel
theorem dX10_look_64 : decode cX10_look 64 = .ok (.aload_n 0, 1) := by decide +kernel
theorem dX10_look_65 : decode cX10_look 65 = .ok (.getfield 88, 3) := by decide +kernel
theorem dX10_look_68 : decode cX10_look 68 = .ok (.getfield 183, 3) := by decide +kernel
theorem dX10_look_71 : decode cX10_look 71 = .ok (.ireturn, 1) := by decide +kernel
theorem dX10_look_72 : decode cX10_look 72 = .ok (.aload_n 0, 1) := by decide +kernel
theorem dX10_look_73 : decode cX10_look 73 = .ok (.getfield 88, 3) := by decide +kernel
theorem dX10_look_76 : decode cX10_look 76 = .ok (.getfield 105, 3) := by decide +kernel
theorem dX10_look_79 : decode cX10_look 79 = .ok (.ireturn, 1) := by decide +kernel
theorem dX10_look_80 : decode cX10_look 80 = .ok (.aload_n 0, 1) := by decide +kernel
theorem dX10_look_81 : decode cX10_look 81 = .ok (.getfield 88, 3) := by decide +kernel
theorem dX10_look_84 : decode cX10_look 84 = .ok (.getfield 85, 3) := by decide +kernel
theorem dX10_look_87 : decode cX10_look 87 = .ok (.ireturn, 1) := by decide +kernel
theorem dX10_look_88 : decode cX10_look 88 = .ok (.aload_n 0, 1) := by decide +kernel
theorem dX10_look_89 : decode cX10_look 89 = .ok (.getfield 22, 3) := by decide +kernel
theorem dX10_look_92 : decode cX10_look 92 = .ok (.aload_n 0, 1) := by decide +kernel
theorem dX10_look_93 : decode cX10_look 93 = .ok (.getfield 88, 3) := by decide +kernel
theorem dX10_look_96 : decode cX10_look 96 = .ok (.invokevirtual 186, 3) := by decide +kernel
theorem dX10_look_99 : decode cX10_look 99 = .ok (.ireturn, 1) := by decide +kernel
theorem dX10_look_100 : decode cX10_look 100 = .ok (.iconst (-1), 1) := by decide +kernel
theorem dX10_look_101 : decode cX10_look 101 = .ok (.ireturn, 1) := by decide +kernel
theorem dX10_told_0 : decode cX10_told 0 = .ok (.aload_n 0, 1) := by decide +kernel
theorem dX10_told_1 : decode cX10_told 1 = .ok (.getfield 88, 3) := by decide +kernel
theorem dX10_told_4 : decode cX10_told 4 = .ok (.ifnull 23, 3) := by decide +kernel
theorem dX10_told_7 : decode cX10_told 7 = .ok (.aload_n 0, 1) := by decide +kernel
theorem dX10_told_8 : decode cX10_told 8 = .ok (.getfield 88, 3) := by decide +kernel
theorem dX10_told_11 : decode cX10_told 11 = .ok (.iload_n 1, 1) := by decide +kernel
theorem dX10_told_12 : decode cX10_told 12 = .ok (.invokevirtual 92, 3) := by decide +kernel
theorem dX10_told_15 : decode cX10_told 15 = .ok (.ifCond .eq 12, 3) := by decide +kernel
theorem dX10_told_18 : decode cX10_told 18 = .ok (.iload_n 2, 1) := by decide +kernel
theorem dX10_told_19 : decode cX10_told 19 = .ok (.ifCond .lt 8, 3) := by decide +kernel
theorem dX10_told_22 : decode cX10_told 22 = .ok (.iload_n 2, 1) := by decide +kernel
theorem dX10_told_23 : decode cX10_told 23 = .ok (.iconst 2, 1) := by decide +kernel
theorem dX10_told_24 : decode cX10_told 24 = .ok (.if_icmp .le 13, 3) := by decide +kernel
theorem dX10_told_27 : decode cX10_told 27 = .ok (.new 190, 3) := by decide +kernel
theorem dX10_told_30 : decode cX10_told 30 = .ok (.dup, 1) := by decide +kernel
theorem dX10_told_31 : decode cX10_told 31 = .ok (.ldc 192, 2) := by decide +kernel
theorem dX10_told_33 : decode cX10_told 33 = .ok (.invokespecial 194, 3) := by decide +kernel
theorem dX10_told_36 : decode cX10_told 36 = .ok (.athrow, 1) := by decide +kernel
theorem dX10_told_37 : decode cX10_told 37 = .ok (.iload_n 2, 1) := by decide +kernel
theorem dX10_told_38 : decode cX10_told 38 = .ok (.ifCond .ne 13, 3) := by decide +kernel
theorem dX10_told_41 : decode cX10_told 41 = .ok (.aload_n 0, 1) := by decide +kernel
theorem dX10_told_42 : decode cX10_told 42 = .ok (.getfield 88, 3) := by decide +kernel
theorem dX10_told_45 : decode cX10_told 45 = .ok (.getfield 95, 3) := by decide +kernel
theorem dX10_told_48 : decode cX10_told 48 = .ok (.iload_n 1, 1) := by decide +kernel
theorem dX10_told_49 : decode cX10_told 49 = .ok (.iaload, 1) := by decide +kernel
theorem dX10_told_50 : decode cX10_told 50 = .ok (.ireturn, 1) := by decide +kernel
theorem dX10_told_51 : decode cX10_told 51 = .ok (.iload_n 2, 1) := by decide +kernel
theorem dX10_told_52 : decode cX10_told 52 = .ok (.iconst 1, 1) := by decide +kernel
theorem dX10_told_53 : decode cX10_told 53 = .ok (.if_icmp .ne 15, 3) := by decide +kernel
theorem dX10_told_56 : decode cX10_told 56 = .ok (.aload_n 0, 1) := by decide +kernel
theorem dX10_told_57 : decode cX10_told 57 = .ok (.getfield 88, 3) := by decide +kernel
theorem dX10_told_60 : decode cX10_told 60 = .ok (.getfield 99, 3) := by decide +kernel
theorem dX10_told_63 : decode cX10_told 63 = .ok (.iload_n 1, 1) := by decide +kernel
theorem dX10_told_64 : decode cX10_told 64 = .ok (.iaload, 1) := by decide +kernel
theorem dX10_told_65 : decode cX10_told 65 = .ok (.goto 12, 3) := by decide +kernel
theorem dX10_told_68 : decode cX10_told 68 = .ok (.aload_n 0, 1) := by decide +kernel
theorem dX10_told_69 : decode cX10_told 69 = .ok (.getfield 22, 3) := by decide +kernel
theorem dX10_told_72 : decode cX10_told 72 = .ok (.getfield 102, 3) := by decide +kernel
theorem dX10_told_75 : decode cX10_told 75 = .ok (.iload_n 1, 1) := by decide +kernel
theorem dX10_told_76 : decode cX10_told 76 = .ok (.iaload, 1) := by decide +kernel
theorem dX10_told_77 : decode cX10_told 77 = .ok (.ireturn, 1) := by decide +kernel
theorem dX10_count_0 : decode cX10_count 0 = .ok (.iload_n 1, 1) := by decide +kernel
theorem dX10_count_1 : decode cX10_count 1 = .ok (.tableswitch 45 0 2 #[27, 32, 37], 27) := by decide +kernel
theorem dX10_count_28 : decode cX10_count 28 = .ok (.aload_n 0, 1) := by decide +kernel
theorem dX10_count_29 : decode cX10_count 29 = .ok (.getfield 59, 3) := by decide +kernel
theorem dX10_count_32 : decode cX10_count 32 = .ok (.ireturn, 1) := by decide +kernel
theorem dX10_count_33 : decode cX10_count 33 = .ok (.aload_n 0, 1) := by decide +kernel
theorem dX10_count_34 : decode cX10_count 34 = .ok (.getfield 51, 3) := by decide +kernel
theorem dX10_count_37 : decode cX10_count 37 = .ok (.ireturn, 1) := by decide +kernel
theorem dX10_count_38 : decode cX10_count 38 = .ok (.aload_n 0, 1) := by decide +kernel
theorem dX10_count_39 : decode cX10_count 39 = .ok (.getfield 29, 3) := by decide +kernel
theorem dX10_count_42 : decode cX10_count 42 = .ok (.getfield 197, 3) := by decide +kernel
theorem dX10_count_45 : decode cX10_count 45 = .ok (.ireturn, 1) := by decide +kernel
theorem dX10_count_46 : decode cX10_count 46 = .ok (.iconst (-1), 1) := by decide +kernel
theorem dX10_count_47 : decode cX10_count 47 = .ok (.ireturn, 1) := by decide +kernel
theorem dX10_feedBytes_0 : decode cX10_feedBytes 0 = .ok (.bipush 56, 2) := by decide +kernel
theorem dX10_feedBytes_2 : decode cX10_feedBytes 2 = .ok (.istore_n 3, 1) := by decide +kernel
theorem dX10_feedBytes_3 : decode cX10_feedBytes 3 = .ok (.iload_n 3, 1) := by decide +kernel
theorem dX10_feedBytes_4 : decode cX10_feedBytes 4 = .ok (.ifCond .lt 84, 3) := by decide +kernel
theorem dX10_feedBytes_7 : decode cX10_feedBytes 7 = .ok (.lload_n 1, 1) := by decide +kernel
theorem dX10_feedBytes_8 : decode cX10_feedBytes 8 = .ok (.iload_n 3, 1) := by decide +kernel
theorem dX10_feedBytes_9 : decode cX10_feedBytes 9 = .ok (.lushr, 1) := by decide +kernel
theorem dX10_feedBytes_10 : decode cX10_feedBytes 10 = .ok (.l2i, 1) := by decide +kernel
theorem dX10_feedBytes_11 : decode cX10_feedBytes 11 = .ok (.sipush 255, 3) := by decide +kernel
theorem dX10_feedBytes_14 : decode cX10_feedBytes 14 = .ok (.iand, 1) := by decide +kernel
theorem dX10_feedBytes_15 : decode cX10_feedBytes 15 = .ok (.istore 4, 2) := by decide +kernel
theorem dX10_feedBytes_17 : decode cX10_feedBytes 17 = .ok (.iload 4, 2) := by decide +kernel
theorem dX10_feedBytes_19 : decode cX10_feedBytes 19 = .ok (.bipush 10, 2) := by decide +kernel
theorem dX10_feedBytes_21 : decode cX10_feedBytes 21 = .ok (.if_icmp .eq 17, 3) := by decide +kernel
theorem dX10_feedBytes_24 : decode cX10_feedBytes 24 = .ok (.iload 4, 2) := by decide +kernel
theorem dX10_feedBytes_26 : decode cX10_feedBytes 26 = .ok (.bipush 32, 2) := by decide +kernel
theorem dX10_feedBytes_28 : decode cX10_feedBytes 28 = .ok (.if_icmp .lt 14, 3) := by decide +kernel
theorem dX10_feedBytes_31 : decode cX10_feedBytes 31 = .ok (.iload 4, 2) := by decide +kernel
theorem dX10_feedBytes_33 : decode cX10_feedBytes 33 = .ok (.bipush 126, 2) := by decide +kernel
theorem dX10_feedBytes_35 : decode cX10_feedBytes 35 = .ok (.if_icmp .gt 7, 3) := by decide +kernel
theorem dX10_feedBytes_38 : decode cX10_feedBytes 38 = .ok (.iconst 1, 1) := by decide +kernel
theorem dX10_feedBytes_39 : decode cX10_feedBytes 39 = .ok (.goto 4, 3) := by decide +kernel
theorem dX10_feedBytes_42 : decode cX10_feedBytes 42 = .ok (.iconst 0, 1) := by decide +kernel
theorem dX10_feedBytes_43 : decode cX10_feedBytes 43 = .ok (.istore 5, 2) := by decide +kernel
theorem dX10_feedBytes_45 : decode cX10_feedBytes 45 = .ok (.iload 5, 2) := by decide +kernel
theorem dX10_feedBytes_47 : decode cX10_feedBytes 47 = .ok (.ifCond .eq 35, 3) := by decide +kernel
theorem dX10_feedBytes_50 : decode cX10_feedBytes 50 = .ok (.aload_n 0, 1) := by decide +kernel
theorem dX10_feedBytes_51 : decode cX10_feedBytes 51 = .ok (.getfield 51, 3) := by decide +kernel
theorem dX10_feedBytes_54 : decode cX10_feedBytes 54 = .ok (.sipush 2400, 3) := by decide +kernel
theorem dX10_feedBytes_57 : decode cX10_feedBytes 57 = .ok (.if_icmp .ge 25, 3) := by decide +kernel
theorem dX10_feedBytes_60 : decode cX10_feedBytes 60 = .ok (.aload_n 0, 1) := by decide +kernel
theorem dX10_feedBytes_61 : decode cX10_feedBytes 61 = .ok (.getfield 9, 3) := by decide +kernel
theorem dX10_feedBytes_64 : decode cX10_feedBytes 64 = .ok (.aload_n 0, 1) := by decide +kernel
theorem dX10_feedBytes_65 : decode cX10_feedBytes 65 = .ok (.getfield 51, 3) := by decide +kernel
theorem dX10_feedBytes_68 : decode cX10_feedBytes 68 = .ok (.iload 4, 2) := by decide +kernel
theorem dX10_feedBytes_70 : decode cX10_feedBytes 70 = .ok (.i2b, 1) := by decide +kernel
theorem dX10_feedBytes_71 : decode cX10_feedBytes 71 = .ok (.bastore, 1) := by decide +kernel
theorem dX10_feedBytes_72 : decode cX10_feedBytes 72 = .ok (.aload_n 0, 1) := by decide +kernel
theorem dX10_feedBytes_73 : decode cX10_feedBytes 73 = .ok (.dup, 1) := by decide +kernel
theorem dX10_feedBytes_74 : decode cX10_feedBytes 74 = .ok (.getfield 51, 3) := by decide +kernel
theorem dX10_feedBytes_77 : decode cX10_feedBytes 77 = .ok (.iconst 1, 1) := by decide +kernel
theorem dX10_feedBytes_78 : decode cX10_feedBytes 78 = .ok (.iadd, 1) := by decide +kernel
theorem dX10_feedBytes_79 : decode cX10_feedBytes 79 = .ok (.putfield 51, 3) := by decide +kernel
theorem dX10_feedBytes_82 : decode cX10_feedBytes 82 = .ok (.iinc 3 (-8), 3) := by decide +kernel
theorem dX10_feedBytes_85 : decode cX10_feedBytes 85 = .ok (.goto (-82), 3) := by decide +kernel
theorem dX10_feedBytes_88 : decode cX10_feedBytes 88 = .ok (.return_, 1) := by decide +kernel
theorem dX10_takeInHand_0 : decode cX10_takeInHand 0 = .ok (.aload_n 0, 1) := by decide +kernel
theorem dX10_takeInHand_1 : decode cX10_takeInHand 1 = .ok (.aload_n 1, 1) := by decide +kernel
theorem dX10_takeInHand_2 : decode cX10_takeInHand 2 = .ok (.putfield 88, 3) := by decide +kernel
theorem dX10_takeInHand_5 : decode cX10_takeInHand 5 = .ok (.aload_n 0, 1) := by decide +kernel
theorem dX10_takeInHand_6 : decode cX10_takeInHand 6 = .ok (.getfield 22, 3) := by decide +kernel
theorem dX10_takeInHand_9 : decode cX10_takeInHand 9 = .ok (.aload_n 1, 1) := by decide +kernel
theorem dX10_takeInHand_10 : decode cX10_takeInHand 10 = .ok (.iconst 0, 1) := by decide +kernel
theorem dX10_takeInHand_11 : decode cX10_takeInHand 11 = .ok (.invokevirtual 108, 3) := by decide +kernel
theorem dX10_takeInHand_14 : decode cX10_takeInHand 14 = .ok (.return_, 1) := by decide +kernel
theorem dX10_editionAt_0 : decode cX10_editionAt 0 = .ok (.iload_n 1, 1) := by decide +kernel
theorem dX10_editionAt_1 : decode cX10_editionAt 1 = .ok (.ifCond .lt 11, 3) := by decide +kernel
theorem dX10_editionAt_4 : decode cX10_editionAt 4 = .ok (.iload_n 1, 1) := by decide +kernel
theorem dX10_editionAt_5 : decode cX10_editionAt 5 = .ok (.aload_n 0, 1) := by decide +kernel
theorem dX10_editionAt_6 : decode cX10_editionAt 6 = .ok (.getfield 59, 3) := by decide +kernel
theorem dX10_editionAt_9 : decode cX10_editionAt 9 = .ok (.if_icmp .lt 7, 3) := by decide +kernel
theorem dX10_editionAt_12 : decode cX10_editionAt 12 = .ok (.aconst_null, 1) := by decide +kernel
theorem dX10_editionAt_13 : decode cX10_editionAt 13 = .ok (.goto 9, 3) := by decide +kernel
theorem dX10_editionAt_16 : decode cX10_editionAt 16 = .ok (.aload_n 0, 1) := by decide +kernel
theorem dX10_editionAt_17 : decode cX10_editionAt 17 = .ok (.getfield 15, 3) := by decide +kernel
theorem dX10_editionAt_20 : decode cX10_editionAt 20 = .ok (.iload_n 1, 1) := by decide +kernel
theorem dX10_editionAt_21 : decode cX10_editionAt 21 = .ok (.aaload, 1) := by decide +kernel
theorem dX10_editionAt_22 : decode cX10_editionAt 22 = .ok (.areturn, 1) := by decide +kernel
theorem dX10_latestStart_0 : decode cX10_latestStart 0 = .ok (.aload_n 0, 1) := by decide +kernel
theorem dX10_latestStart_1 : decode cX10_latestStart 1 = .ok (.aload_n 0, 1) := by decide +kernel
theorem dX10_latestStart_2 : decode cX10_latestStart 2 = .ok (.getfield 59, 3) := by decide +kernel
theorem dX10_latestStart_5 : decode cX10_latestStart 5 = .ok (.iconst 1, 1) := by decide +kernel
theorem dX10_latestStart_6 : decode cX10_latestStart 6 = .ok (.isub, 1) := by decide +kernel
theorem dX10_latestStart_7 : decode cX10_latestStart 7 = .ok (.invokevirtual 81, 3) := by decide +kernel
theorem dX10_latestStart_10 : decode cX10_latestStart 10 = .ok (.astore_n 1, 1) := by decide +kernel
theorem dX10_latestStart_11 : decode cX10_latestStart 11 = .ok (.aload_n 1, 1) := by decide +kernel
theorem dX10_latestStart_12 : decode cX10_latestStart 12 = .ok (.ifnonnull 7, 3) := by decide +kernel
theorem dX10_latestStart_15 : decode cX10_latestStart 15 = .ok (.iconst (-1), 1) := by decide +kernel
theorem dX10_latestStart_16 : decode cX10_latestStart 16 = .ok (.goto 7, 3) := by decide +kernel
theorem dX10_latestStart_19 : decode cX10_latestStart 19 = .ok (.aload_n 1, 1) := by decide +kernel
theorem dX10_latestStart_20 : decode cX10_latestStart 20 = .ok (.getfield 85, 3) := by decide +kernel
theorem dX10_latestStart_23 : decode cX10_latestStart 23 = .ok (.ireturn, 1) := by decide +kernel
theorem dX10_isDay_0 : decode cX10_isDay 0 = .ok (.iload_n 0, 1) := by decide +kernel
theorem dX10_isDay_1 : decode cX10_isDay 1 = .ok (.ifCond .lt 14, 3) := by decide +kernel
theorem dX10_isDay_4 : decode cX10_isDay 4 = .ok (.iload_n 0, 1) := by decide +kernel
theorem dX10_isDay_5 : decode cX10_isDay 5 = .ok (.sipush 9999, 3) := by decide +kernel
theorem dX10_isDay_8 : decode cX10_isDay 8 = .ok (.if_icmp .gt 7, 3) := by decide +kernel
theorem dX10_isDay_11 : decode cX10_isDay 11 = .ok (.iconst 1, 1) := by decide +kernel
theorem dX10_isDay_12 : decode cX10_isDay 12 = .ok (.goto 4, 3) := by decide +kernel
theorem dX10_isDay_15 : decode cX10_isDay 15 = .ok (.iconst 0, 1) := by decide +kernel
theorem dX10_isDay_16 : decode cX10_isDay 16 = .ok (.ireturn, 1) := by decide +kernel
theorem dX11_thrown_0 : decode cX11_thrown 0 = .ok (.aload_n 0, 1) := by decide +kernel
theorem dX11_thrown_1 : decode cX11_thrown 1 = .ok (.getfield 1, 3) := by decide +kernel
theorem dX11_thrown_4 : decode cX11_thrown 4 = .ok (.ireturn, 1) := by decide +kernel
theorem dX11_feed_0 : decode cX11_feed 0 = .ok (.aload_n 0, 1) := by decide +kernel
theorem dX11_feed_1 : decode cX11_feed 1 = .ok (.iconst 0, 1) := by decide +kernel
theorem dX11_feed_2 : decode cX11_feed 2 = .ok (.putfield 1, 3) := by decide +kernel
theorem dX11_feed_5 : decode cX11_feed 5 = .ok (.aload_n 0, 1) := by decide +kernel
theorem dX11_feed_6 : decode cX11_feed 6 = .ok (.lload_n 1, 1) := by decide +kernel
theorem dX11_feed_7 : decode cX11_feed 7 = .ok (.invokevirtual 7, 3) := by decide +kernel
theorem dX11_feed_10 : decode cX11_feed 10 = .ok (.aload_n 0, 1) := by decide +kernel
theorem dX11_feed_11 : decode cX11_feed 11 = .ok (.lload_n 3, 1) := by decide +kernel
theorem dX11_feed_12 : decode cX11_feed 12 = .ok (.invokevirtual 7, 3) := by decide +kernel
theorem dX11_feed_15 : decode cX11_feed 15 = .ok (.aload_n 0, 1) := by decide +kernel
theorem dX11_feed_16 : decode cX11_feed 16 = .ok (.lload 5, 2) := by decide +kernel
theorem dX11_feed_18 : decode cX11_feed 18 = .ok (.invokevirtual 7, 3) := by decide +kernel
theorem dX11_feed_21 : decode cX11_feed 21 = .ok (.aload_n 0, 1) := by decide +kernel
theorem dX11_feed_22 : decode cX11_feed 22 = .ok (.getfield 11, 3) := by decide +kernel
theorem dX11_feed_25 : decode cX11_feed 25 = .ok (.ireturn, 1) := by decide +kernel
theorem dX11_lay_0 : decode cX11_lay 0 = .ok (.bipush 56, 2) := by decide +kernel
theorem dX11_lay_2 : decode cX11_lay 2 = .ok (.istore_n 3, 1) := by decide +kernel
theorem dX11_lay_3 : decode cX11_lay 3 = .ok (.iload_n 3, 1) := by decide +kernel
theorem dX11_lay_4 : decode cX11_lay 4 = .ok (.ifCond .lt 71, 3) := by decide +kernel
theorem dX11_lay_7 : decode cX11_lay 7 = .ok (.lload_n 1, 1) := by decide +kernel
theorem dX11_lay_8 : decode cX11_lay 8 = .ok (.iload_n 3, 1) := by decide +kernel
theorem dX11_lay_9 : decode cX11_lay 9 = .ok (.lshr, 1) := by decide +kernel
theorem dX11_lay_10 : decode cX11_lay 10 = .ok (.l2i, 1) := by decide +kernel
theorem dX11_lay_11 : decode cX11_lay 11 = .ok (.sipush 255, 3) := by decide +kernel
theorem dX11_lay_14 : decode cX11_lay 14 = .ok (.iand, 1) := by decide +kernel
theorem dX11_lay_15 : decode cX11_lay 15 = .ok (.istore 4, 2) := by decide +kernel
theorem dX11_lay_17 : decode cX11_lay 17 = .ok (.iload 4, 2) := by decide +kernel
theorem dX11_lay_19 : decode cX11_lay 19 = .ok (.bipush 10, 2) := by decide +kernel
theorem dX11_lay_21 : decode cX11_lay 21 = .ok (.if_icmp .eq 17, 3) := by decide +kernel
theorem dX11_lay_24 : decode cX11_lay 24 = .ok (.iload 4, 2) := by decide +kernel
theorem dX11_lay_26 : decode cX11_lay 26 = .ok (.bipush 32, 2) := by decide +kernel
theorem dX11_lay_28 : decode cX11_lay 28 = .ok (.if_icmp .lt 41, 3) := by decide +kernel
theorem dX11_lay_31 : decode cX11_lay 31 = .ok (.iload 4, 2) := by decide +kernel
theorem dX11_lay_33 : decode cX11_lay 33 = .ok (.bipush 126, 2) := by decide +kernel
theorem dX11_lay_35 : decode cX11_lay 35 = .ok (.if_icmp .gt 34, 3) := by decide +kernel
theorem dX11_lay_38 : decode cX11_lay 38 = .ok (.aload_n 0, 1) := by decide +kernel
theorem dX11_lay_39 : decode cX11_lay 39 = .ok (.getfield 11, 3) := by decide +kernel
theorem dX11_lay_42 : decode cX11_lay 42 = .ok (.sipush 2400, 3) := by decide +kernel
theorem dX11_lay_45 : decode cX11_lay 45 = .ok (.if_icmp .ge 24, 3) := by decide +kernel
theorem dX11_lay_48 : decode cX11_lay 48 = .ok (.aload_n 0, 1) := by decide +kernel
theorem dX11_lay_49 : decode cX11_lay 49 = .ok (.getfield 14, 3) := by decide +kernel
theorem dX11_lay_52 : decode cX11_lay 52 = .ok (.aload_n 0, 1) := by decide +kernel
theorem dX11_lay_53 : decode cX11_lay 53 = .ok (.getfield 11, 3) := by decide +kernel
theorem dX11_lay_56 : decode cX11_lay 56 = .ok (.iload 4, 2) := by decide +kernel
theorem dX11_lay_58 : decode cX11_lay 58 = .ok (.iastore, 1) := by decide +kernel
theorem dX11_lay_59 : decode cX11_lay 59 = .ok (.aload_n 0, 1) := by decide +kernel
theorem dX11_lay_60 : decode cX11_lay 60 = .ok (.dup, 1) := by decide +kernel
theorem dX11_lay_61 : decode cX11_lay 61 = .ok (.getfield 11, 3) := by decide +kernel
theorem dX11_lay_64 : decode cX11_lay 64 = .ok (.iconst 1, 1) := by decide +kernel
theorem dX11_lay_65 : decode cX11_lay 65 = .ok (.iadd, 1) := by decide +kernel
theorem dX11_lay_66 : decode cX11_lay 66 = .ok (.putfield 11, 3) := by decide +kernel
theorem dX11_lay_69 : decode cX11_lay 69 = .ok (.iinc 3 (-8), 3) := by decide +kernel
theorem dX11_lay_72 : decode cX11_lay 72 = .ok (.goto (-69), 3) := by decide +kernel
theorem dX11_lay_75 : decode cX11_lay 75 = .ok (.return_, 1) := by decide +kernel
theorem dX11_init_0 : decode cX11_init 0 = .ok (.aload_n 0, 1) := by decide +kernel
theorem dX11_init_1 : decode cX11_init 1 = .ok (.invokespecial 18, 3) := by decide +kernel
theorem dX11_init_4 : decode cX11_init 4 = .ok (.aload_n 0, 1) := by decide +kernel
theorem dX11_init_5 : decode cX11_init 5 = .ok (.sipush 2400, 3) := by decide +kernel
theorem dX11_init_8 : decode cX11_init 8 = .ok (.newarray .int, 2) := by decide +kernel
theorem dX11_init_10 : decode cX11_init 10 = .ok (.putfield 14, 3) := by decide +kernel
theorem dX11_init_13 : decode cX11_init 13 = .ok (.aload_n 0, 1) := by decide +kernel
theorem dX11_init_14 : decode cX11_init 14 = .ok (.sipush 2402, 3) := by decide +kernel
theorem dX11_init_17 : decode cX11_init 17 = .ok (.newarray .int, 2) := by decide +kernel
theorem dX11_init_19 : decode cX11_init 19 = .ok (.putfield 24, 3) := by decide +kernel
theorem dX11_init_22 : decode cX11_init 22 = .ok (.aload_n 0, 1) := by decide +kernel
theorem dX11_init_23 : decode cX11_init 23 = .ok (.sipush 2402, 3) := by decide +kernel
theorem dX11_init_26 : decode cX11_init 26 = .ok (.newarray .int, 2) := by decide +kernel
theorem dX11_init_28 : decode cX11_init 28 = .ok (.putfield 27, 3) := by decide +kernel
theorem dX11_init_31 : decode cX11_init 31 = .ok (.aload_n 0, 1) := by decide +kernel
theorem dX11_init_32 : decode cX11_init 32 = .ok (.sipush 2402, 3) := by decide +kernel
theorem dX11_init_35 : decode cX11_init 35 = .ok (.newarray .long, 2) := by decide +kernel
theorem dX11_init_37 : decode cX11_init 37 = .ok (.putfield 30, 3) := by decide +kernel
theorem dX11_init_40 : decode cX11_init 40 = .ok (.aload_n 0, 1) := by decide +kernel
theorem dX11_init_41 : decode cX11_init 41 = .ok (.bipush 11, 2) := by decide +kernel
theorem dX11_init_43 : decode cX11_init 43 = .ok (.newarray .long, 2) := by decide +kernel
theorem dX11_init_45 : decode cX11_init 45 = .ok (.dup, 1) := by decide +kernel
theorem dX11_init_46 : decode cX11_init 46 = .ok (.iconst 0, 1) := by decide +kernel
theorem dX11_init_47 : decode cX11_init 47 = .ok (.ldc2_w 34, 3) := by decide +kernel
theorem dX11_init_50 : decode cX11_init 50 = .ok (.lastore, 1) := by decide +kernel
theorem dX11_init_51 : decode cX11_init 51 = .ok (.dup, 1) := by decide +kernel
theorem dX11_init_52 : decode cX11_init 52 = .ok (.iconst 1, 1) := by decide +kernel
theorem dX11_init_53 : decode cX11_init 53 = .ok (.ldc2_w 36, 3) := by decide +kernel
theorem dX11_init_56 : decode cX11_init 56 = .ok (.lastore, 1) := by decide +kernel
theorem dX11_init_57 : decode cX11_init 57 = .ok (.dup, 1) := by decide +kernel
theorem dX11_init_58 : decode cX11_init 58 = .ok (.iconst 2, 1) := by decide +kernel
theorem dX11_init_59 : decode cX11_init 59 = .ok (.ldc2_w 38, 3) := by decide +kernel
theorem dX11_init_62 : decode cX11_init 62 = .ok (.lastore, 1) := by decide +kernel
theorem dX11_init_63 : decode cX11_init 63 = .ok (.dup, 1) := by decide +kernel
theorem dX11_init_64 : decode cX11_init 64 = .ok (.iconst 3, 1) := by decide +kernel
theorem dX11_init_65 : decode cX11_init 65 = .ok (.ldc2_w 40, 3) := by decide +kernel
theorem dX11_init_68 : decode cX11_init 68 = .ok (.lastore, 1) := by decide +kernel
theorem dX11_init_69 : decode cX11_init 69 = .ok (.dup, 1) := by decide +kernel
theorem dX11_init_70 : decode cX11_init 70 = .ok (.iconst 4, 1) := by decide +kernel
theorem dX11_init_71 : decode cX11_init 71 = .ok (.ldc2_w 42, 3) := by decide +kernel
theorem dX11_init_74 : decode cX11_init 74 = .ok (.lastore, 1) := by decide +kernel
theorem dX11_init_75 : decode cX11_init 75 = .ok (.dup, 1) := by decide +kernel
theorem dX11_init_76 : decode cX11_init 76 = .ok (.iconst 5, 1) := by decide +kernel
theorem dX11_init_77 : decode cX11_init 77 = .ok (.ldc2_w 44, 3) := by decide +kernel
theorem dX11_init_80 : decode cX11_init 80 = .ok (.lastore, 1) := by decide +kernel
theorem dX11_init_81 : decode cX11_init 81 = .ok (.dup, 1) := by decide +kernel
theorem dX11_init_82 : decode cX11_init 82 = .ok (.bipush 6, 2) := by decide +kernel
theorem dX11_init_84 : decode cX11_init 84 = .ok (.ldc2_w 46, 3) := by decide +kernel
theorem dX11_init_87 : decode cX11_init 87 = .ok (.lastore, 1) := by decide +kernel
theorem dX11_init_88 : decode cX11_init 88 = .ok (.dup, 1) := by decide +kernel
theorem dX11_init_89 : decode cX11_init 89 = .ok (.bipush 7, 2) := by decide +kernel
theorem dX11_init_91 : decode cX11_init 91 = .ok (.ldc2_w 48, 3) := by decide +kernel
theorem dX11_init_94 : decode cX11_init 94 = .ok (.lastore, 1) := by decide +kernel
theorem dX11_init_95 : decode cX11_init 95 = .ok (.dup, 1) := by decide +kernel
theorem dX11_init_96 : decode cX11_init 96 = .ok (.bipush 8, 2) := by decide +kernel
theorem dX11_init_98 : decode cX11_init 98 = .ok (.ldc2_w 50, 3) := by decide +kernel
theorem dX11_init_101 : decode cX11_init 101 = .ok (.lastore, 1) := by decide +kernel
theorem dX11_init_102 : decode cX11_init 102 = .ok (.dup, 1) := by decide +kernel
theorem dX11_init_103 : decode cX11_init 103 = .ok (.bipush 9, 2) := by decide +kernel
theorem dX11_init_105 : decode cX11_init 105 = .ok (.ldc2_w 52, 3) := by decide +kernel
theorem dX11_init_108 : decode cX11_init 108 = .ok (.lastore, 1) := by decide +kernel
theorem dX11_init_109 : decode cX11_init 109 = .ok (.dup, 1) := by decide +kernel
theorem dX11_init_110 : decode cX11_init 110 = .ok (.bipush 10, 2) := by decide +kernel
theorem dX11_init_112 : decode cX11_init 112 = .ok (.ldc2_w 54, 3) := by decide +kernel
theorem dX11_init_115 : decode cX11_init 115 = .ok (.lastore, 1) := by decide +kernel
theorem dX11_init_116 : decode cX11_init 116 = .ok (.putfield 56, 3) := by decide +kernel
theorem dX11_init_119 : decode cX11_init 119 = .ok (.aload_n 0, 1) := by decide +kernel
theorem dX11_init_120 : decode cX11_init 120 = .ok (.bipush 6, 2) := by decide +kernel
theorem dX11_init_122 : decode cX11_init 122 = .ok (.newarray .int, 2) := by decide +kernel
theorem dX11_init_124 : decode cX11_init 124 = .ok (.putfield 59, 3) := by decide +kernel
theorem dX11_init_127 : decode cX11_init 127 = .ok (.aload_n 0, 1) := by decide +kernel
theorem dX11_init_128 : decode cX11_init 128 = .ok (.bipush 7, 2) := by decide +kernel
theorem dX11_init_130 : decode cX11_init 130 = .ok (.newarray .int, 2) := by decide +kernel
theorem dX11_init_132 : decode cX11_init 132 = .ok (.putfield 62, 3) := by decide +kernel
theorem dX11_init_135 : decode cX11_init 135 = .ok (.aload_n 0, 1) := by decide +kernel
theorem dX11_init_136 : decode cX11_init 136 = .ok (.bipush 56, 2) := by decide +kernel
theorem dX11_init_138 : decode cX11_init 138 = .ok (.newarray .long, 2) := by decide +kernel
theorem dX11_init_140 : decode cX11_init 140 = .ok (.putfield 65, 3) := by decide +kernel
theorem dX11_init_143 : decode cX11_init 143 = .ok (.aload_n 0, 1) := by decide +kernel
theorem dX11_init_144 : decode cX11_init 144 = .ok (.bipush 56, 2) := by decide +kernel
theorem dX11_init_146 : decode cX11_init 146 = .ok (.newarray .int, 2) := by decide +kernel
theorem dX11_init_148 : decode cX11_init 148 = .ok (.putfield 68, 3) := by decide +kernel
theorem dX11_init_151 : decode cX11_init 151 = .ok (.aload_n 0, 1) := by decide +kernel
theorem dX11_init_152 : decode cX11_init 152 = .ok (.bipush 56, 2) := by decide +kernel
theorem dX11_init_154 : decode cX11_init 154 = .ok (.newarray .int, 2) := by decide +kernel
theorem dX11_init_156 : decode cX11_init 156 = .ok (.putfield 71, 3) := by decide +kernel
theorem dX11_init_159 : decode cX11_init 159 = .ok (.aload_n 0, 1) := by decide +kernel
theorem dX11_init_160 : decode cX11_init 160 = .ok (.bipush 7, 2) := by decide +kernel
theorem dX11_init_162 : decode cX11_init 162 = .ok (.newarray .int, 2) := by decide +kernel
theorem dX11_init_164 : decode cX11_init 164 = .ok (.putfield 74, 3) := by decide +kernel
theorem dX11_init_167 : decode cX11_init 167 = .ok (.aload_n 0, 1) := by decide +kernel
theorem dX11_init_168 : decode cX11_init 168 = .ok (.bipush 84, 2) := by decide +kernel
theorem dX11_init_170 : decode cX11_init 170 = .ok (.newarray .long, 2) := by decide +kernel
theorem dX11_init_172 : decode cX11_init 172 = .ok (.putfield 77, 3) := by decide +kernel
theorem dX11_init_175 : decode cX11_init 175 = .ok (.aload_n 0, 1) := by decide +kernel
theorem dX11_init_176 : decode cX11_init 176 = .ok (.bipush 84, 2) := by decide +kernel
theorem dX11_init_178 : decode cX11_init 178 = .ok (.newarray .int, 2) := by decide +kernel
theorem dX11_init_180 : decode cX11_init 180 = .ok (.putfield 80, 3) := by decide +kernel
theorem dX11_init_183 : decode cX11_init 183 = .ok (.aload_n 0, 1) := by decide +kernel
theorem dX11_init_184 : decode cX11_init 184 = .ok (.bipush 84, 2) := by decide +kernel
theorem dX11_init_186 : decode cX11_init 186 = .ok (.newarray .boolean, 2) := by decide +kernel
theorem dX11_init_188 : decode cX11_init 188 = .ok (.putfield 83, 3) := by decide +kernel
theorem dX11_init_191 : decode cX11_init 191 = .ok (.aload_n 0, 1) := by decide +kernel
theorem dX11_init_192 : decode cX11_init 192 = .ok (.bipush 84, 2) := by decide +kernel
theorem dX11_init_194 : decode cX11_init 194 = .ok (.newarray .int, 2) := by decide +kernel
theorem dX11_init_196 : decode cX11_init 196 = .ok (.putfield 87, 3) := by decide +kernel
theorem dX11_init_199 : decode cX11_init 199 = .ok (.aload_n 0, 1) := by decide +kernel
theorem dX11_init_200 : decode cX11_init 200 = .ok (.bipush 84, 2) := by decide +kernel
theorem dX11_init_202 : decode cX11_init 202 = .ok (.newarray .int, 2) := by decide +kernel
theorem dX11_init_204 : decode cX11_init 204 = .ok (.putfield 90, 3) := by decide +kernel
theorem dX11_init_207 : decode cX11_init 207 = .ok (.aload_n 0, 1) := by decide +kernel
theorem dX11_init_208 : decode cX11_init 208 = .ok (.sipush 672, 3) := by decide +kernel
theorem dX11_init_211 : decode cX11_init 211 = .ok (.newarray .int, 2) := by decide +kernel
theorem dX11_init_213 : decode cX11_init 213 = .ok (.putfield 93, 3) := by decide +kernel
theorem dX11_init_216 : decode cX11_init 216 = .ok (.aload_n 0, 1) := by decide +kernel
theorem dX11_init_217 : decode cX11_init 217 = .ok (.sipush 672, 3) := by decide +kernel
theorem dX11_init_220 : decode cX11_init 220 = .ok (.newarray .boolean, 2) := by decide +kernel
theorem dX11_init_222 : decode cX11_init 222 = .ok (.putfield 96, 3) := by decide +kernel
theorem dX11_init_225 : decode cX11_init 225 = .ok (.aload_n 0, 1) := by decide +kernel
theorem dX11_init_226 : decode cX11_init 226 = .ok (.bipush 84, 2) := by decide +kernel
theorem dX11_init_228 : decode cX11_init 228 = .ok (.newarray .int, 2) := by decide +kernel
theorem dX11_init_230 : decode cX11_init 230 = .ok (.putfield 99, 3) := by decide +kernel
theorem dX11_init_233 : decode cX11_init 233 = .ok (.aload_n 0, 1) := by decide +kernel
theorem dX11_init_234 : decode cX11_init 234 = .ok (.sipush 1680, 3) := by decide +kernel
theorem dX11_init_237 : decode cX11_init 237 = .ok (.newarray .int, 2) := by decide +kernel
theorem dX11_init_239 : decode cX11_init 239 = .ok (.putfield 102, 3) := by decide +kernel
theorem dX11_init_242 : decode cX11_init 242 = .ok (.aload_n 0, 1) := by decide +kernel
theorem dX11_init_243 : decode cX11_init 243 = .ok (.sipush 1680, 3) := by decide +kernel
theorem dX11_init_246 : decode cX11_init 246 = .ok (.newarray .int, 2) := by decide +kernel
theorem dX11_init_248 : decode cX11_init 248 = .ok (.putfield 105, 3) := by decide +kernel
theorem dX11_init_251 : decode cX11_init 251 = .ok (.aload_n 0, 1) := by decide +kernel
theorem dX11_init_252 : decode cX11_init 252 = .ok (.sipush 1680, 3) := by decide +kernel
theorem dX11_init_255 : decode cX11_init 255 = .ok (.newarray .long, 2) := by decide +kernel
theorem dX11_init_257 : decode cX11_init 257 = .ok (.putfield 108, 3) := by decide +kernel
theorem dX11_init_260 : decode cX11_init 260 = .ok (.aload_n 0, 1) := by decide +kernel
theorem dX11_init_261 : decode cX11_init 261 = .ok (.sipush 18200, 3) := by decide +kernel
theorem dX11_init_264 : decode cX11_init 264 = .ok (.newarray .int, 2) := by decide +kernel
theorem dX11_init_266 : decode cX11_init 266 = .ok (.putfield 111, 3) := by decide +kernel
theorem dX11_init_269 : decode cX11_init 269 = .ok (.aload_n 0, 1) := by decide +kernel
theorem dX11_init_270 : decode cX11_init 270 = .ok (.sipush 18200, 3) := by decide +kernel
theorem dX11_init_273 : decode cX11_init 273 = .ok (.newarray .int, 2) := by decide +kernel
theorem dX11_init_275 : decode cX11_init 275 = .ok (.putfield 114, 3) := by decide +kernel
theorem dX11_init_278 : decode cX11_init 278 = .ok (.aload_n 0, 1) := by decide +kernel
theorem dX11_init_279 : decode cX11_init 279 = .ok (.bipush 7, 2) := by decide +kernel
theorem dX11_init_281 : decode cX11_init 281 = .ok (.newarray .int, 2) := by decide +kernel
theorem dX11_init_283 : decode cX11_init 283 = .ok (.putfield 117, 3) := by decide +kernel
theorem dX11_init_286 : decode cX11_init 286 = .ok (.aload_n 0, 1) := by decide +kernel
theorem dX11_init_287 : decode cX11_init 287 = .ok (.bipush 7, 2) := by decide +kernel
theorem dX11_init_289 : decode cX11_init 289 = .ok (.newarray .int, 2) := by decide +kernel
theorem dX11_init_291 : decode cX11_init 291 = .ok (.putfield 120, 3) := by decide +kernel
theorem dX11_init_294 : decode cX11_init 294 = .ok (.aload_n 0, 1) := by decide +kernel
theorem dX11_init_295 : decode cX11_init 295 = .ok (.bipush 8, 2) := by decide +kernel
theorem dX11_init_297 : decode cX11_init 297 = .ok (.newarray .int, 2) := by decide +kernel
theorem dX11_init_299 : decode cX11_init 299 = .ok (.putfield 123, 3) := by decide +kernel
theorem dX11_init_302 : decode cX11_init 302 = .ok (.aload_n 0, 1) := by decide +kernel
theorem dX11_init_303 : decode cX11_init 303 = .ok (.sipush 10000, 3) := by decide +kernel
theorem dX11_init_306 : decode cX11_init 306 = .ok (.newarray .boolean, 2) := by decide +kernel
theorem dX11_init_308 : decode cX11_init 308 = .ok (.putfield 126, 3) := by decide +kernel
theorem dX11_init_311 : decode cX11_init 311 = .ok (.aload_n 0, 1) := by decide +kernel
theorem dX11_init_312 : decode cX11_init 312 = .ok (.sipush 10000, 3) := by decide +kernel
theorem dX11_init_315 : decode cX11_init 315 = .ok (.newarray .int, 2) := by decide +kernel
theorem dX11_init_317 : decode cX11_init 317 = .ok (.putfield 129, 3) := by decide +kernel
theorem dX11_init_320 : decode cX11_init 320 = .ok (.aload_n 0, 1) := by decide +kernel
theorem dX11_init_321 : decode cX11_init 321 = .ok (.sipush 2600, 3) := by decide +kernel
theorem dX11_init_324 : decode cX11_init 324 = .ok (.newarray .int, 2) := by decide +kernel
theorem dX11_init_326 : decode cX11_init 326 = .ok (.putfield 132, 3) := by decide +kernel
theorem dX11_init_329 : decode cX11_init 329 = .ok (.aload_n 0, 1) := by decide +kernel
theorem dX11_init_330 : decode cX11_init 330 = .ok (.bipush 12, 2) := by decide +kernel
theorem dX11_init_332 : decode cX11_init 332 = .ok (.newarray .boolean, 2) := by decide +kernel
theorem dX11_init_334 : decode cX11_init 334 = .ok (.putfield 135, 3) := by decide +kernel
theorem dX11_init_337 : decode cX11_init 337 = .ok (.aload_n 0, 1) := by decide +kernel
theorem dX11_init_338 : decode cX11_init 338 = .ok (.bipush 12, 2) := by decide +kernel
theorem dX11_init_340 : decode cX11_init 340 = .ok (.newarray .int, 2) := by decide +kernel
theorem dX11_init_342 : decode cX11_init 342 = .ok (.putfield 138, 3) := by decide +kernel
theorem dX11_init_345 : decode cX11_init 345 = .ok (.aload_n 0, 1) := by decide +kernel
theorem dX11_init_346 : decode cX11_init 346 = .ok (.sipush 5000, 3) := by decide +kernel
theorem dX11_init_349 : decode cX11_init 349 = .ok (.newarray .int, 2) := by decide +kernel
theorem dX11_init_351 : decode cX11_init 351 = .ok (.putfield 141, 3) := by decide +kernel
theorem dX11_init_354 : decode cX11_init 354 = .ok (.aload_n 0, 1) := by decide +kernel
theorem dX11_init_355 : decode cX11_init 355 = .ok (.sipush 5000, 3) := by decide +kernel
theorem dX11_init_358 : decode cX11_init 358 = .ok (.newarray .int, 2) := by decide +kernel
theorem dX11_init_360 : decode cX11_init 360 = .ok (.putfield 144, 3) := by decide +kernel
theorem dX11_init_363 : decode cX11_init 363 = .ok (.aload_n 0, 1) := by decide +kernel
theorem dX11_init_364 : decode cX11_init 364 = .ok (.bipush 12, 2) := by decide +kernel
theorem dX11_init_366 : decode cX11_init 366 = .ok (.newarray .int, 2) := by decide +kernel
theorem dX11_init_368 : decode cX11_init 368 = .ok (.putfield 147, 3) := by decide +kernel
theorem dX11_init_371 : decode cX11_init 371 = .ok (.aload_n 0, 1) := by decide +kernel
theorem dX11_init_372 : decode cX11_init 372 = .ok (.bipush 8, 2) := by decide +kernel
theorem dX11_init_374 : decode cX11_init 374 = .ok (.newarray .int, 2) := by decide +kernel
theorem dX11_init_376 : decode cX11_init 376 = .ok (.putfield 150, 3) := by decide +kernel
theorem dX11_init_379 : decode cX11_init 379 = .ok (.aload_n 0, 1) := by decide +kernel
theorem dX11_init_380 : decode cX11_init 380 = .ok (.sipush 5000, 3) := by decide +kernel
theorem dX11_init_383 : decode cX11_init 383 = .ok (.newarray .int, 2) := by decide +kernel
theorem dX11_init_385 : decode cX11_init 385 = .ok (.putfield 153, 3) := by decide +kernel
theorem dX11_init_388 : decode cX11_init 388 = .ok (.aload_n 0, 1) := by decide +kernel
theorem dX11_init_389 : decode cX11_init 389 = .ok (.iconst (-1), 1) := by decide +kernel
theorem dX11_init_390 : decode cX11_init 390 = .ok (.putfield 156, 3) := by decide +kernel
theorem dX11_init_393 : decode cX11_init 393 = .ok (.aload_n 0, 1) := by decide +kernel
theorem dX11_init_394 : decode cX11_init 394 = .ok (.iconst (-1), 1) := by decide +kernel
theorem dX11_init_395 : decode cX11_init 395 = .ok (.putfield 159, 3) := by decide +kernel
theorem dX11_init_398 : decode cX11_init 398 = .ok (.return_, 1) := by decide +kernel
theorem dX11_isLetter_0 : decode cX11_isLetter 0 = .ok (.iload_n 0, 1) := by decide +kernel
theorem dX11_isLetter_1 : decode cX11_isLetter 1 = .ok (.bipush 97, 2) := by decide +kernel
theorem dX11_isLetter_3 : decode cX11_isLetter 3 = .ok (.if_icmp .lt 13, 3) := by decide +kernel
theorem dX11_isLetter_6 : decode cX11_isLetter 6 = .ok (.iload_n 0, 1) := by decide +kernel
theorem dX11_isLetter_7 : decode cX11_isLetter 7 = .ok (.bipush 122, 2) := by decide +kernel
theorem dX11_isLetter_9 : decode cX11_isLetter 9 = .ok (.if_icmp .gt 7, 3) := by decide +kernel
theorem dX11_isLetter_12 : decode cX11_isLetter 12 = .ok (.iconst 1, 1) := by decide +kernel
theorem dX11_isLetter_13 : decode cX11_isLetter 13 = .ok (.goto 4, 3) := by decide +kernel
theorem dX11_isLetter_16 : decode cX11_isLetter 16 = .ok (.iconst 0, 1) := by decide +kernel
theorem dX11_isLetter_17 : decode cX11_isLetter 17 = .ok (.ireturn, 1) := by decide +kernel
theorem dX11_isDigit_0 : decode cX11_isDigit 0 = .ok (.iload_n 0, 1) := by decide +kernel
theorem dX11_isDigit_1 : decode cX11_isDigit 1 = .ok (.bipush 48, 2) := by decide +kernel
theorem dX11_isDigit_3 : decode cX11_isDigit 3 = .ok (.if_icmp .lt 13, 3) := by decide +kernel
theorem dX11_isDigit_6 : decode cX11_isDigit 6 = .ok (.iload_n 0, 1) := by decide +kernel
theorem dX11_isDigit_7 : decode cX11_isDigit 7 = .ok (.bipush 57, 2) := by decide +kernel
theorem dX11_isDigit_9 : decode cX11_isDigit 9 = .ok (.if_icmp .gt 7, 3) := by decide +kernel
theorem dX11_isDigit_12 : decode cX11_isDigit 12 = .ok (.iconst 1, 1) := by decide +kernel
theorem dX11_isDigit_13 : decode cX11_isDigit 13 = .ok (.goto 4, 3) := by decide +kernel
theorem dX11_isDigit_16 : decode cX11_isDigit 16 = .ok (.iconst 0, 1) := by decide +kernel
theorem dX11_isDigit_17 : decode cX11_isDigit 17 = .ok (.ireturn, 1) := by decide +kernel
theorem dX11_rank_0 : decode cX11_rank 0 = .ok (.iload_n 0, 1) := by decide +kernel
theorem dX11_rank_1 : decode cX11_rank 1 = .ok (.invokestatic 162, 3) := by decide +kernel
theorem dX11_rank_4 : decode cX11_rank 4 = .ok (.ifCond .eq 10, 3) := by decide +kernel
theorem dX11_rank_7 : decode cX11_rank 7 = .ok (.iload_n 0, 1) := by decide +kernel
theorem dX11_rank_8 : decode cX11_rank 8 = .ok (.bipush 96, 2) := by decide +kernel
theorem dX11_rank_10 : decode cX11_rank 10 = .ok (.isub, 1) := by decide +kernel
theorem dX11_rank_11 : decode cX11_rank 11 = .ok (.goto 7, 3) := by decide +kernel
theorem dX11_rank_14 : decode cX11_rank 14 = .ok (.iload_n 0, 1) := by decide +kernel
theorem dX11_rank_15 : decode cX11_rank 15 = .ok (.bipush 21, 2) := by decide +kernel
theorem dX11_rank_17 : decode cX11_rank 17 = .ok (.isub, 1) := by decide +kernel
theorem dX11_rank_18 : decode cX11_rank 18 = .ok (.ireturn, 1) := by decide +kernel
theorem dX11_isSignOf_0 : decode cX11_isSignOf 0 = .ok (.iload_n 0, 1) := by decide +kernel
theorem dX11_isSignOf_1 : decode cX11_isSignOf 1 = .ok (.bipush 40, 2) := by decide +kernel
theorem dX11_isSignOf_3 : decode cX11_isSignOf 3 = .ok (.if_icmp .eq 39, 3) := by decide +kernel
theorem dX11_isSignOf_6 : decode cX11_isSignOf 6 = .ok (.iload_n 0, 1) := by decide +kernel
theorem dX11_isSignOf_7 : decode cX11_isSignOf 7 = .ok (.bipush 41, 2) := by decide +kernel
theorem dX11_isSignOf_9 : decode cX11_isSignOf 9 = .ok (.if_icmp .eq 33, 3) := by decide +kernel
theorem dX11_isSignOf_12 : decode cX11_isSignOf 12 = .ok (.iload_n 0, 1) := by decide +kernel
theorem dX11_isSignOf_13 : decode cX11_isSignOf 13 = .ok (.bipush 59, 2) := by decide +kernel
theorem dX11_isSignOf_15 : decode cX11_isSignOf 15 = .ok (.if_icmp .eq 27, 3) := by decide +kernel
theorem dX11_isSignOf_18 : decode cX11_isSignOf 18 = .ok (.iload_n 0, 1) := by decide +kernel
theorem dX11_isSignOf_19 : decode cX11_isSignOf 19 = .ok (.bipush 61, 2) := by decide +kernel
theorem dX11_isSignOf_21 : decode cX11_isSignOf 21 = .ok (.if_icmp .eq 21, 3) := by decide +kernel
theorem dX11_isSignOf_24 : decode cX11_isSignOf 24 = .ok (.iload_n 0, 1) := by decide +kernel
theorem dX11_isSignOf_25 : decode cX11_isSignOf 25 = .ok (.bipush 60, 2) := by decide +kernel
theorem dX11_isSignOf_27 : decode cX11_isSignOf 27 = .ok (.if_icmp .eq 15, 3) := by decide +kernel
theorem dX11_isSignOf_30 : decode cX11_isSignOf 30 = .ok (.iload_n 0, 1) := by decide +kernel
theorem dX11_isSignOf_31 : decode cX11_isSignOf 31 = .ok (.bipush 43, 2) := by decide +kernel
theorem dX11_isSignOf_33 : decode cX11_isSignOf 33 = .ok (.if_icmp .eq 9, 3) := by decide +kernel
theorem dX11_isSignOf_36 : decode cX11_isSignOf 36 = .ok (.iload_n 0, 1) := by decide +kernel
theorem dX11_isSignOf_37 : decode cX11_isSignOf 37 = .ok (.bipush 45, 2) := by decide +kernel
theorem dX11_isSignOf_39 : decode cX11_isSignOf 39 = .ok (.if_icmp .ne 7, 3) := by decide +kernel
theorem dX11_isSignOf_42 : decode cX11_isSignOf 42 = .ok (.iconst 1, 1) := by decide +kernel
theorem dX11_isSignOf_43 : decode cX11_isSignOf 43 = .ok (.goto 4, 3) := by decide +kernel
theorem dX11_isSignOf_46 : decode cX11_isSignOf 46 = .ok (.iconst 0, 1) := by decide +kernel
theorem dX11_isSignOf_47 : decode cX11_isSignOf 47 = .ok (.ireturn, 1) := by decide +kernel
theorem dX11_cutAll_0 : decode cX11_cutAll 0 = .ok (.aload_n 0, 1) := by decide +kernel
theorem dX11_cutAll_1 : decode cX11_cutAll 1 = .ok (.aload_n 0, 1) := by decide +kernel
theorem dX11_cutAll_2 : decode cX11_cutAll 2 = .ok (.getfield 11, 3) := by decide +kernel
theorem dX11_cutAll_5 : decode cX11_cutAll 5 = .ok (.putfield 166, 3) := by decide +kernel
theorem dX11_cutAll_8 : decode cX11_cutAll 8 = .ok (.aload_n 0, 1) := by decide +kernel
theorem dX11_cutAll_9 : decode cX11_cutAll 9 = .ok (.iconst 0, 1) := by decide +kernel
theorem dX11_cutAll_10 : decode cX11_cutAll 10 = .ok (.putfield 11, 3) := by decide +kernel
theorem dX11_cutAll_13 : decode cX11_cutAll 13 = .ok (.iconst 0, 1) := by decide +kernel
theorem dX11_cutAll_14 : decode cX11_cutAll 14 = .ok (.istore_n 1, 1) := by decide +kernel
theorem dX11_cutAll_15 : decode cX11_cutAll 15 = .ok (.iconst 0, 1) := by decide +kernel
theorem dX11_cutAll_16 : decode cX11_cutAll 16 = .ok (.istore_n 2, 1) := by decide +kernel
theorem dX11_cutAll_17 : decode cX11_cutAll 17 = .ok (.iload_n 2, 1) := by decide +kernel
theorem dX11_cutAll_18 : decode cX11_cutAll 18 = .ok (.aload_n 0, 1) := by decide +kernel
theorem dX11_cutAll_19 : decode cX11_cutAll 19 = .ok (.getfield 166, 3) := by decide +kernel
theorem dX11_cutAll_22 : decode cX11_cutAll 22 = .ok (.if_icmp .ge 257, 3) := by decide +kernel
theorem dX11_cutAll_25 : decode cX11_cutAll 25 = .ok (.aload_n 0, 1) := by decide +kernel
theorem dX11_cutAll_26 : decode cX11_cutAll 26 = .ok (.getfield 14, 3) := by decide +kernel
theorem dX11_cutAll_29 : decode cX11_cutAll 29 = .ok (.iload_n 2, 1) := by decide +kernel
theorem dX11_cutAll_30 : decode cX11_cutAll 30 = .ok (.iaload, 1) := by decide +kernel
theorem dX11_cutAll_31 : decode cX11_cutAll 31 = .ok (.istore_n 3, 1) := by decide +kernel
theorem dX11_cutAll_32 : decode cX11_cutAll 32 = .ok (.iload_n 3, 1) := by decide +kernel
theorem dX11_cutAll_33 : decode cX11_cutAll 33 = .ok (.bipush 10, 2) := by decide +kernel
theorem dX11_cutAll_35 : decode cX11_cutAll 35 = .ok (.if_icmp .eq 9, 3) := by decide +kernel
theorem dX11_cutAll_38 : decode cX11_cutAll 38 = .ok (.iload_n 3, 1) := by decide +kernel
theorem dX11_cutAll_39 : decode cX11_cutAll 39 = .ok (.bipush 32, 2) := by decide +kernel
theorem dX11_cutAll_41 : decode cX11_cutAll 41 = .ok (.if_icmp .ne 9, 3) := by decide +kernel
theorem dX11_cutAll_44 : decode cX11_cutAll 44 = .ok (.iinc 2 1, 3) := by decide +kernel
theorem dX11_cutAll_47 : decode cX11_cutAll 47 = .ok (.goto (-30), 3) := by decide +kernel
theorem dX11_cutAll_50 : decode cX11_cutAll 50 = .ok (.iload_n 2, 1) := by decide +kernel
theorem dX11_cutAll_51 : decode cX11_cutAll 51 = .ok (.istore 4, 2) := by decide +kernel
theorem dX11_cutAll_53 : decode cX11_cutAll 53 = .ok (.lconst 0, 1) := by decide +kernel
theorem dX11_cutAll_54 : decode cX11_cutAll 54 = .ok (.lstore 5, 2) := by decide +kernel
theorem dX11_cutAll_56 : decode cX11_cutAll 56 = .ok (.aload_n 0, 1) := by decide +kernel
theorem dX11_cutAll_57 : decode cX11_cutAll 57 = .ok (.getfield 27, 3) := by decide +kernel
theorem dX11_cutAll_60 : decode cX11_cutAll 60 = .ok (.iload_n 1, 1) := by decide +kernel
theorem dX11_cutAll_61 : decode cX11_cutAll 61 = .ok (.iload_n 2, 1) := by decide +kernel
theorem dX11_cutAll_62 : decode cX11_cutAll 62 = .ok (.iastore, 1) := by decide +kernel
theorem dX11_cutAll_63 : decode cX11_cutAll 63 = .ok (.iload_n 3, 1) := by decide +kernel
theorem dX11_cutAll_64 : decode cX11_cutAll 64 = .ok (.invokestatic 162, 3) := by decide +kernel
theorem dX11_cutAll_67 : decode cX11_cutAll 67 = .ok (.ifCond .eq 85, 3) := by decide +kernel
theorem dX11_cutAll_70 : decode cX11_cutAll 70 = .ok (.iload_n 2, 1) := by decide +kernel
theorem dX11_cutAll_71 : decode cX11_cutAll 71 = .ok (.aload_n 0, 1) := by decide +kernel
theorem dX11_cutAll_72 : decode cX11_cutAll 72 = .ok (.getfield 166, 3) := by decide +kernel
theorem dX11_cutAll_75 : decode cX11_cutAll 75 = .ok (.if_icmp .ge 54, 3) := by decide +kernel
theorem dX11_cutAll_78 : decode cX11_cutAll 78 = .ok (.aload_n 0, 1) := by decide +kernel
theorem dX11_cutAll_79 : decode cX11_cutAll 79 = .ok (.getfield 14, 3) := by decide +kernel
theorem dX11_cutAll_82 : decode cX11_cutAll 82 = .ok (.iload_n 2, 1) := by decide +kernel
theorem dX11_cutAll_83 : decode cX11_cutAll 83 = .ok (.iaload, 1) := by decide +kernel
theorem dX11_cutAll_84 : decode cX11_cutAll 84 = .ok (.invokestatic 162, 3) := by decide +kernel
theorem dX11_cutAll_87 : decode cX11_cutAll 87 = .ok (.ifCond .eq 42, 3) := by decide +kernel
theorem dX11_cutAll_90 : decode cX11_cutAll 90 = .ok (.iload_n 2, 1) := by decide +kernel
theorem dX11_cutAll_91 : decode cX11_cutAll 91 = .ok (.iload 4, 2) := by decide +kernel
theorem dX11_cutAll_93 : decode cX11_cutAll 93 = .ok (.isub, 1) := by decide +kernel
theorem dX11_cutAll_94 : decode cX11_cutAll 94 = .ok (.bipush 10, 2) := by decide +kernel
theorem dX11_cutAll_96 : decode cX11_cutAll 96 = .ok (.if_icmp .ge 23, 3) := by decide +kernel
theorem dX11_cutAll_99 : decode cX11_cutAll 99 = .ok (.ldc2_w 169, 3) := by decide +kernel
theorem dX11_cutAll_102 : decode cX11_cutAll 102 = .ok (.lload 5, 2) := by decide +kernel
theorem dX11_cutAll_104 : decode cX11_cutAll 104 = .ok (.lmul, 1) := by decide +kernel
theorem dX11_cutAll_105 : decode cX11_cutAll 105 = .ok (.aload_n 0, 1) := by decide +kernel
theorem dX11_cutAll_106 : decode cX11_cutAll 106 = .ok (.getfield 14, 3) := by decide +kernel
theorem dX11_cutAll_109 : decode cX11_cutAll 109 = .ok (.iload_n 2, 1) := by decide +kernel
theorem dX11_cutAll_110 : decode cX11_cutAll 110 = .ok (.iaload, 1) := by decide +kernel
theorem dX11_cutAll_111 : decode cX11_cutAll 111 = .ok (.invokestatic 171, 3) := by decide +kernel
theorem dX11_cutAll_114 : decode cX11_cutAll 114 = .ok (.i2l, 1) := by decide +kernel
theorem dX11_cutAll_115 : decode cX11_cutAll 115 = .ok (.ladd, 1) := by decide +kernel
theorem dX11_cutAll_116 : decode cX11_cutAll 116 = .ok (.goto 5, 3) := by decide +kernel
theorem dX11_cutAll_119 : decode cX11_cutAll 119 = .ok (.lload 5, 2) := by decide +kernel
theorem dX11_cutAll_121 : decode cX11_cutAll 121 = .ok (.lstore 5, 2) := by decide +kernel
theorem dX11_cutAll_123 : decode cX11_cutAll 123 = .ok (.iinc 2 1, 3) := by decide +kernel
theorem dX11_cutAll_126 : decode cX11_cutAll 126 = .ok (.goto (-56), 3) := by decide +kernel
theorem dX11_cutAll_129 : decode cX11_cutAll 129 = .ok (.aload_n 0, 1) := by decide +kernel
theorem dX11_cutAll_130 : decode cX11_cutAll 130 = .ok (.getfield 24, 3) := by decide +kernel
theorem dX11_cutAll_133 : decode cX11_cutAll 133 = .ok (.iload_n 1, 1) := by decide +kernel
theorem dX11_cutAll_134 : decode cX11_cutAll 134 = .ok (.iload_n 2, 1) := by decide +kernel
theorem dX11_cutAll_135 : decode cX11_cutAll 135 = .ok (.iload 4, 2) := by decide +kernel
theorem dX11_cutAll_137 : decode cX11_cutAll 137 = .ok (.isub, 1) := by decide +kernel
theorem dX11_cutAll_138 : decode cX11_cutAll 138 = .ok (.bipush 10, 2) := by decide +kernel
theorem dX11_cutAll_140 : decode cX11_cutAll 140 = .ok (.if_icmp .le 7, 3) := by decide +kernel
theorem dX11_cutAll_143 : decode cX11_cutAll 143 = .ok (.iconst 4, 1) := by decide +kernel
theorem dX11_cutAll_144 : decode cX11_cutAll 144 = .ok (.goto 4, 3) := by decide +kernel
theorem dX11_cutAll_147 : decode cX11_cutAll 147 = .ok (.iconst 1, 1) := by decide +kernel
theorem dX11_cutAll_148 : decode cX11_cutAll 148 = .ok (.iastore, 1) := by decide +kernel
theorem dX11_cutAll_149 : decode cX11_cutAll 149 = .ok (.goto 116, 3) := by decide +kernel
theorem dX11_cutAll_152 : decode cX11_cutAll 152 = .ok (.iload_n 3, 1) := by decide +kernel
theorem dX11_cutAll_153 : decode cX11_cutAll 153 = .ok (.invokestatic 175, 3) := by decide +kernel
theorem dX11_cutAll_156 : decode cX11_cutAll 156 = .ok (.ifCond .eq 84, 3) := by decide +kernel
theorem dX11_cutAll_159 : decode cX11_cutAll 159 = .ok (.iload_n 2, 1) := by decide +kernel
theorem dX11_cutAll_160 : decode cX11_cutAll 160 = .ok (.aload_n 0, 1) := by decide +kernel
theorem dX11_cutAll_161 : decode cX11_cutAll 161 = .ok (.getfield 166, 3) := by decide +kernel
theorem dX11_cutAll_164 : decode cX11_cutAll 164 = .ok (.if_icmp .ge 54, 3) := by decide +kernel
theorem dX11_cutAll_167 : decode cX11_cutAll 167 = .ok (.aload_n 0, 1) := by decide +kernel
theorem dX11_cutAll_168 : decode cX11_cutAll 168 = .ok (.getfield 14, 3) := by decide +kernel
theorem dX11_cutAll_171 : decode cX11_cutAll 171 = .ok (.iload_n 2, 1) := by decide +kernel
theorem dX11_cutAll_172 : decode cX11_cutAll 172 = .ok (.iaload, 1) := by decide +kernel
theorem dX11_cutAll_173 : decode cX11_cutAll 173 = .ok (.invokestatic 175, 3) := by decide +kernel
theorem dX11_cutAll_176 : decode cX11_cutAll 176 = .ok (.ifCond .eq 42, 3) := by decide +kernel
theorem dX11_cutAll_179 : decode cX11_cutAll 179 = .ok (.iload_n 2, 1) := by decide +kernel
theorem dX11_cutAll_180 : decode cX11_cutAll 180 = .ok (.iload 4, 2) := by decide +kernel
theorem dX11_cutAll_182 : decode cX11_cutAll 182 = .ok (.isub, 1) := by decide +kernel
theorem dX11_cutAll_183 : decode cX11_cutAll 183 = .ok (.iconst 4, 1) := by decide +kernel
theorem dX11_cutAll_184 : decode cX11_cutAll 184 = .ok (.if_icmp .ge 24, 3) := by decide +kernel
theorem dX11_cutAll_187 : decode cX11_cutAll 187 = .ok (.ldc2_w 178, 3) := by decide +kernel
theorem dX11_cutAll_190 : decode cX11_cutAll 190 = .ok (.lload 5, 2) := by decide +kernel
theorem dX11_cutAll_192 : decode cX11_cutAll 192 = .ok (.lmul, 1) := by decide +kernel
theorem dX11_cutAll_193 : decode cX11_cutAll 193 = .ok (.aload_n 0, 1) := by decide +kernel
theorem dX11_cutAll_194 : decode cX11_cutAll 194 = .ok (.getfield 14, 3) := by decide +kernel
theorem dX11_cutAll_197 : decode cX11_cutAll 197 = .ok (.iload_n 2, 1) := by decide +kernel
theorem dX11_cutAll_198 : decode cX11_cutAll 198 = .ok (.iaload, 1) := by decide +kernel
theorem dX11_cutAll_199 : decode cX11_cutAll 199 = .ok (.i2l, 1) := by decide +kernel
theorem dX11_cutAll_200 : decode cX11_cutAll 200 = .ok (.ladd, 1) := by decide +kernel
theorem dX11_cutAll_201 : decode cX11_cutAll 201 = .ok (.ldc2_w 180, 3) := by decide +kernel
theorem dX11_cutAll_204 : decode cX11_cutAll 204 = .ok (.lsub, 1) := by decide +kernel
theorem dX11_cutAll_205 : decode cX11_cutAll 205 = .ok (.goto 5, 3) := by decide +kernel
theorem dX11_cutAll_208 : decode cX11_cutAll 208 = .ok (.lload 5, 2) := by decide +kernel
theorem dX11_cutAll_210 : decode cX11_cutAll 210 = .ok (.lstore 5, 2) := by decide +kernel
theorem dX11_cutAll_212 : decode cX11_cutAll 212 = .ok (.iinc 2 1, 3) := by decide +kernel
theorem dX11_cutAll_215 : decode cX11_cutAll 215 = .ok (.goto (-56), 3) := by decide +kernel
theorem dX11_cutAll_218 : decode cX11_cutAll 218 = .ok (.aload_n 0, 1) := by decide +kernel
theorem dX11_cutAll_219 : decode cX11_cutAll 219 = .ok (.getfield 24, 3) := by decide +kernel
theorem dX11_cutAll_222 : decode cX11_cutAll 222 = .ok (.iload_n 1, 1) := by decide +kernel
theorem dX11_cutAll_223 : decode cX11_cutAll 223 = .ok (.iload_n 2, 1) := by decide +kernel
theorem dX11_cutAll_224 : decode cX11_cutAll 224 = .ok (.iload 4, 2) := by decide +kernel
theorem dX11_cutAll_226 : decode cX11_cutAll 226 = .ok (.isub, 1) := by decide +kernel
theorem dX11_cutAll_227 : decode cX11_cutAll 227 = .ok (.iconst 4, 1) := by decide +kernel
theorem dX11_cutAll_228 : decode cX11_cutAll 228 = .ok (.if_icmp .le 7, 3) := by decide +kernel
theorem dX11_cutAll_231 : decode cX11_cutAll 231 = .ok (.iconst 4, 1) := by decide +kernel
theorem dX11_cutAll_232 : decode cX11_cutAll 232 = .ok (.goto 4, 3) := by decide +kernel
theorem dX11_cutAll_235 : decode cX11_cutAll 235 = .ok (.iconst 2, 1) := by decide +kernel
theorem dX11_cutAll_236 : decode cX11_cutAll 236 = .ok (.iastore, 1) := by decide +kernel
theorem dX11_cutAll_237 : decode cX11_cutAll 237 = .ok (.goto 28, 3) := by decide +kernel
theorem dX11_cutAll_240 : decode cX11_cutAll 240 = .ok (.iload_n 3, 1) := by decide +kernel
theorem dX11_cutAll_241 : decode cX11_cutAll 241 = .ok (.i2l, 1) := by decide +kernel
theorem dX11_cutAll_242 : decode cX11_cutAll 242 = .ok (.lstore 5, 2) := by decide +kernel
theorem dX11_cutAll_244 : decode cX11_cutAll 244 = .ok (.aload_n 0, 1) := by decide +kernel
theorem dX11_cutAll_245 : decode cX11_cutAll 245 = .ok (.getfield 24, 3) := by decide +kernel
theorem dX11_cutAll_248 : decode cX11_cutAll 248 = .ok (.iload_n 1, 1) := by decide +kernel
theorem dX11_cutAll_249 : decode cX11_cutAll 249 = .ok (.iload_n 3, 1) := by decide +kernel
theorem dX11_cutAll_250 : decode cX11_cutAll 250 = .ok (.invokestatic 182, 3) := by decide +kernel
theorem dX11_cutAll_253 : decode cX11_cutAll 253 = .ok (.ifCond .eq 7, 3) := by decide +kernel
theorem dX11_cutAll_256 : decode cX11_cutAll 256 = .ok (.iconst 3, 1) := by decide +kernel
theorem dX11_cutAll_257 : decode cX11_cutAll 257 = .ok (.goto 4, 3) := by decide +kernel
theorem dX11_cutAll_260 : decode cX11_cutAll 260 = .ok (.iconst 4, 1) := by decide +kernel
theorem dX11_cutAll_261 : decode cX11_cutAll 261 = .ok (.iastore, 1) := by decide +kernel
theorem dX11_cutAll_262 : decode cX11_cutAll 262 = .ok (.iinc 2 1, 3) := by decide +kernel
theorem dX11_cutAll_265 : decode cX11_cutAll 265 = .ok (.aload_n 0, 1) := by decide +kernel
theorem dX11_cutAll_266 : decode cX11_cutAll 266 = .ok (.getfield 30, 3) := by decide +kernel
theorem dX11_cutAll_269 : decode cX11_cutAll 269 = .ok (.iload_n 1, 1) := by decide +kernel
theorem dX11_cutAll_270 : decode cX11_cutAll 270 = .ok (.lload 5, 2) := by decide +kernel
theorem dX11_cutAll_272 : decode cX11_cutAll 272 = .ok (.lastore, 1) := by decide +kernel
theorem dX11_cutAll_273 : decode cX11_cutAll 273 = .ok (.iinc 1 1, 3) := by decide +kernel
theorem dX11_cutAll_276 : decode cX11_cutAll 276 = .ok (.goto (-259), 3) := by decide +kernel
theorem dX11_cutAll_279 : decode cX11_cutAll 279 = .ok (.aload_n 0, 1) := by decide +kernel
theorem dX11_cutAll_280 : decode cX11_cutAll 280 = .ok (.getfield 24, 3) := by decide +kernel
theorem dX11_cutAll_283 : decode cX11_cutAll 283 = .ok (.iload_n 1, 1) := by decide +kernel
theorem dX11_cutAll_284 : decode cX11_cutAll 284 = .ok (.iconst 0, 1) := by decide +kernel
theorem dX11_cutAll_285 : decode cX11_cutAll 285 = .ok (.iastore, 1) := by decide +kernel
theorem dX11_cutAll_286 : decode cX11_cutAll 286 = .ok (.aload_n 0, 1) := by decide +kernel
theorem dX11_cutAll_287 : decode cX11_cutAll 287 = .ok (.getfield 27, 3) := by decide +kernel
theorem dX11_cutAll_290 : decode cX11_cutAll 290 = .ok (.iload_n 1, 1) := by decide +kernel
theorem dX11_cutAll_291 : decode cX11_cutAll 291 = .ok (.aload_n 0, 1) := by decide +kernel
theorem dX11_cutAll_292 : decode cX11_cutAll 292 = .ok (.getfield 166, 3) := by decide +kernel
theorem dX11_cutAll_295 : decode cX11_cutAll 295 = .ok (.iastore, 1) := by decide +kernel
theorem dX11_cutAll_296 : decode cX11_cutAll 296 = .ok (.aload_n 0, 1) := by decide +kernel
theorem dX11_cutAll_297 : decode cX11_cutAll 297 = .ok (.iconst 0, 1) := by decide +kernel
theorem dX11_cutAll_298 : decode cX11_cutAll 298 = .ok (.putfield 185, 3) := by decide +kernel
theorem dX11_cutAll_301 : decode cX11_cutAll 301 = .ok (.aload_n 0, 1) := by decide +kernel
theorem dX11_cutAll_302 : decode cX11_cutAll 302 = .ok (.iconst 0, 1) := by decide +kernel
theorem dX11_cutAll_303 : decode cX11_cutAll 303 = .ok (.putfield 188, 3) := by decide +kernel
theorem dX11_cutAll_306 : decode cX11_cutAll 306 = .ok (.return_, 1) := by decide +kernel
theorem dX11_wrong_0 : decode cX11_wrong 0 = .ok (.aload_n 0, 1) := by decide +kernel
theorem dX11_wrong_1 : decode cX11_wrong 1 = .ok (.getfield 188, 3) := by decide +kernel
theorem dX11_wrong_4 : decode cX11_wrong 4 = .ok (.ifCond .ne 21, 3) := by decide +kernel
theorem dX11_wrong_7 : decode cX11_wrong 7 = .ok (.aload_n 0, 1) := by decide +kernel
theorem dX11_wrong_8 : decode cX11_wrong 8 = .ok (.iload_n 1, 1) := by decide +kernel
theorem dX11_wrong_9 : decode cX11_wrong 9 = .ok (.bipush 16, 2) := by decide +kernel
theorem dX11_wrong_11 : decode cX11_wrong 11 = .ok (.aload_n 0, 1) := by decide +kernel
theorem dX11_wrong_12 : decode cX11_wrong 12 = .ok (.getfield 27, 3) := by decide +kernel
theorem dX11_wrong_15 : decode cX11_wrong 15 = .ok (.aload_n 0, 1) := by decide +kernel
theorem dX11_wrong_16 : decode cX11_wrong 16 = .ok (.getfield 185, 3) := by decide +kernel
theorem dX11_wrong_19 : decode cX11_wrong 19 = .ok (.iaload, 1) := by decide +kernel
theorem dX11_wrong_20 : decode cX11_wrong 20 = .ok (.imul, 1) := by decide +kernel
theorem dX11_wrong_21 : decode cX11_wrong 21 = .ok (.iadd, 1) := by decide +kernel
theorem dX11_wrong_22 : decode cX11_wrong 22 = .ok (.putfield 188, 3) := by decide +kernel
theorem dX11_wrong_25 : decode cX11_wrong 25 = .ok (.return_, 1) := by decide +kernel
theorem dX11_isSign_0 : decode cX11_isSign 0 = .ok (.aload_n 0, 1) := by decide +kernel
theorem dX11_isSign_1 : decode cX11_isSign 1 = .ok (.getfield 188, 3) := by decide +kernel
theorem dX11_isSign_4 : decode cX11_isSign 4 = .ok (.ifCond .ne 35, 3) := by decide +kernel
theorem dX11_isSign_7 : decode cX11_isSign 7 = .ok (.aload_n 0, 1) := by decide +kernel
theorem dX11_isSign_8 : decode cX11_isSign 8 = .ok (.getfield 24, 3) := by decide +kernel
theorem dX11_isSign_11 : decode cX11_isSign 11 = .ok (.aload_n 0, 1) := by decide +kernel
theorem dX11_isSign_12 : decode cX11_isSign 12 = .ok (.getfield 185, 3) := by decide +kernel
theorem dX11_isSign_15 : decode cX11_isSign 15 = .ok (.iaload, 1) := by decide +kernel
theorem dX11_isSign_16 : decode cX11_isSign 16 = .ok (.iconst 3, 1) := by decide +kernel
theorem dX11_isSign_17 : decode cX11_isSign 17 = .ok (.if_icmp .ne 22, 3) := by decide +kernel
theorem dX11_isSign_20 : decode cX11_isSign 20 = .ok (.aload_n 0, 1) := by decide +kernel
theorem dX11_isSign_21 : decode cX11_isSign 21 = .ok (.getfield 30, 3) := by decide +kernel
theorem dX11_isSign_24 : decode cX11_isSign 24 = .ok (.aload_n 0, 1) := by decide +kernel
theorem dX11_isSign_25 : decode cX11_isSign 25 = .ok (.getfield 185, 3) := by decide +kernel
theorem dX11_isSign_28 : decode cX11_isSign 28 = .ok (.laload, 1) := by decide +kernel
theorem dX11_isSign_29 : decode cX11_isSign 29 = .ok (.iload_n 1, 1) := by decide +kernel
theorem dX11_isSign_30 : decode cX11_isSign 30 = .ok (.i2l, 1) := by decide +kernel
theorem dX11_isSign_31 : decode cX11_isSign 31 = .ok (.lcmp, 1) := by decide +kernel
theorem dX11_isSign_32 : decode cX11_isSign 32 = .ok (.ifCond .ne 7, 3) := by decide +kernel
theorem dX11_isSign_35 : decode cX11_isSign 35 = .ok (.iconst 1, 1) := by decide +kernel
theorem dX11_isSign_36 : decode cX11_isSign 36 = .ok (.goto 4, 3) := by decide +kernel
theorem dX11_isSign_39 : decode cX11_isSign 39 = .ok (.iconst 0, 1) := by decide +kernel
theorem dX11_isSign_40 : decode cX11_isSign 40 = .ok (.ireturn, 1) := by decide +kernel
theorem dX11_isWord_0 : decode cX11_isWord 0 = .ok (.aload_n 0, 1) := by decide +kernel
theorem dX11_isWord_1 : decode cX11_isWord 1 = .ok (.getfield 188, 3) := by decide +kernel
theorem dX11_isWord_4 : decode cX11_isWord 4 = .ok (.ifCond .ne 39, 3) := by decide +kernel
theorem dX11_isWord_7 : decode cX11_isWord 7 = .ok (.aload_n 0, 1) := by decide +kernel
theorem dX11_isWord_8 : decode cX11_isWord 8 = .ok (.getfield 24, 3) := by decide +kernel
theorem dX11_isWord_11 : decode cX11_isWord 11 = .ok (.aload_n 0, 1) := by decide +kernel
theorem dX11_isWord_12 : decode cX11_isWord 12 = .ok (.getfield 185, 3) := by decide +kernel
theorem dX11_isWord_15 : decode cX11_isWord 15 = .ok (.iaload, 1) := by decide +kernel
theorem dX11_isWord_16 : decode cX11_isWord 16 = .ok (.iconst 1, 1) := by decide +kernel
theorem dX11_isWord_17 : decode cX11_isWord 17 = .ok (.if_icmp .ne 26, 3) := by decide +kernel
theorem dX11_isWord_20 : decode cX11_isWord 20 = .ok (.aload_n 0, 1) := by decide +kernel
theorem dX11_isWord_21 : decode cX11_isWord 21 = .ok (.getfield 30, 3) := by decide +kernel
theorem dX11_isWord_24 : decode cX11_isWord 24 = .ok (.aload_n 0, 1) := by decide +kernel
theorem dX11_isWord_25 : decode cX11_isWord 25 = .ok (.getfield 185, 3) := by decide +kernel
theorem dX11_isWord_28 : decode cX11_isWord 28 = .ok (.laload, 1) := by decide +kernel
theorem dX11_isWord_29 : decode cX11_isWord 29 = .ok (.aload_n 0, 1) := by decide +kernel
theorem dX11_isWord_30 : decode cX11_isWord 30 = .ok (.getfield 56, 3) := by decide +kernel
theorem dX11_isWord_33 : decode cX11_isWord 33 = .ok (.iload_n 1, 1) := by decide +kernel
theorem dX11_isWord_34 : decode cX11_isWord 34 = .ok (.laload, 1) := by decide +kernel
theorem dX11_isWord_35 : decode cX11_isWord 35 = .ok (.lcmp, 1) := by decide +kernel
theorem dX11_isWord_36 : decode cX11_isWord 36 = .ok (.ifCond .ne 7, 3) := by decide +kernel
theorem dX11_isWord_39 : decode cX11_isWord 39 = .ok (.iconst 1, 1) := by decide +kernel
theorem dX11_isWord_40 : decode cX11_isWord 40 = .ok (.goto 4, 3) := by decide +kernel
theorem dX11_isWord_43 : decode cX11_isWord 43 = .ok (.iconst 0, 1) := by decide +kernel
theorem dX11_isWord_44 : decode cX11_isWord 44 = .ok (.ireturn, 1) := by decide +kernel
theorem dX11_takeSign_0 : decode cX11_takeSign 0 = .ok (.aload_n 0, 1) := by decide +kernel
theorem dX11_takeSign_1 : decode cX11_takeSign 1 = .ok (.iload_n 1, 1) := by decide +kernel
theorem dX11_takeSign_2 : decode cX11_takeSign 2 = .ok (.invokevirtual 191, 3) := by decide +kernel
theorem dX11_takeSign_5 : decode cX11_takeSign 5 = .ok (.ifCond .eq 16, 3) := by decide +kernel
theorem dX11_takeSign_8 : decode cX11_takeSign 8 = .ok (.aload_n 0, 1) := by decide +kernel
theorem dX11_takeSign_9 : decode cX11_takeSign 9 = .ok (.dup, 1) := by decide +kernel
theorem dX11_takeSign_10 : decode cX11_takeSign 10 = .ok (.getfield 185, 3) := by decide +kernel
theorem dX11_takeSign_13 : decode cX11_takeSign 13 = .ok (.iconst 1, 1) := by decide +kernel
theorem dX11_takeSign_14 : decode cX11_takeSign 14 = .ok (.iadd, 1) := by decide +kernel
theorem dX11_takeSign_15 : decode cX11_takeSign 15 = .ok (.putfield 185, 3) := by decide +kernel
theorem dX11_takeSign_18 : decode cX11_takeSign 18 = .ok (.goto 8, 3) := by decide +kernel
theorem dX11_takeSign_21 : decode cX11_takeSign 21 = .ok (.aload_n 0, 1) := by decide +kernel
theorem dX11_takeSign_22 : decode cX11_takeSign 22 = .ok (.iconst 1, 1) := by decide +kernel
theorem dX11_takeSign_23 : decode cX11_takeSign 23 = .ok (.invokevirtual 194, 3) := by decide +kernel
theorem dX11_takeSign_26 : decode cX11_takeSign 26 = .ok (.return_, 1) := by decide +kernel
theorem dX11_hasSign_0 : decode cX11_hasSign 0 = .ok (.aload_n 0, 1) := by decide +kernel
theorem dX11_hasSign_1 : decode cX11_hasSign 1 = .ok (.iload_n 1, 1) := by decide +kernel
theorem dX11_hasSign_2 : decode cX11_hasSign 2 = .ok (.invokevirtual 191, 3) := by decide +kernel
theorem dX11_hasSign_5 : decode cX11_hasSign 5 = .ok (.istore_n 2, 1) := by decide +kernel
theorem dX11_hasSign_6 : decode cX11_hasSign 6 = .ok (.aload_n 0, 1) := by decide +kernel
theorem dX11_hasSign_7 : decode cX11_hasSign 7 = .ok (.dup, 1) := by decide +kernel
theorem dX11_hasSign_8 : decode cX11_hasSign 8 = .ok (.getfield 185, 3) := by decide +kernel
theorem dX11_hasSign_11 : decode cX11_hasSign 11 = .ok (.iload_n 2, 1) := by decide +kernel
theorem dX11_hasSign_12 : decode cX11_hasSign 12 = .ok (.ifCond .eq 7, 3) := by decide +kernel
theorem dX11_hasSign_15 : decode cX11_hasSign 15 = .ok (.iconst 1, 1) := by decide +kernel
theorem dX11_hasSign_16 : decode cX11_hasSign 16 = .ok (.goto 4, 3) := by decide +kernel
theorem dX11_hasSign_19 : decode cX11_hasSign 19 = .ok (.iconst 0, 1) := by decide +kernel
theorem dX11_hasSign_20 : decode cX11_hasSign 20 = .ok (.iadd, 1) := by decide +kernel
theorem dX11_hasSign_21 : decode cX11_hasSign 21 = .ok (.putfield 185, 3) := by decide +kernel
theorem dX11_hasSign_24 : decode cX11_hasSign 24 = .ok (.iload_n 2, 1) := by decide +kernel
theorem dX11_hasSign_25 : decode cX11_hasSign 25 = .ok (.ireturn, 1) := by decide +kernel
theorem dX11_hasWord_0 : decode cX11_hasWord 0 = .ok (.aload_n 0, 1) := by decide +kernel
theorem dX11_hasWord_1 : decode cX11_hasWord 1 = .ok (.iload_n 1, 1) := by decide +kernel
theorem dX11_hasWord_2 : decode cX11_hasWord 2 = .ok (.invokevirtual 198, 3) := by decide +kernel
theorem dX11_hasWord_5 : decode cX11_hasWord 5 = .ok (.istore_n 2, 1) := by decide +kernel
theorem dX11_hasWord_6 : decode cX11_hasWord 6 = .ok (.aload_n 0, 1) := by decide +kernel
theorem dX11_hasWord_7 : decode cX11_hasWord 7 = .ok (.dup, 1) := by decide +kernel
theorem dX11_hasWord_8 : decode cX11_hasWord 8 = .ok (.getfield 185, 3) := by decide +kernel
theorem dX11_hasWord_11 : decode cX11_hasWord 11 = .ok (.iload_n 2, 1) := by decide +kernel
theorem dX11_hasWord_12 : decode cX11_hasWord 12 = .ok (.ifCond .eq 7, 3) := by decide +kernel
theorem dX11_hasWord_15 : decode cX11_hasWord 15 = .ok (.iconst 1, 1) := by decide +kernel
theorem dX11_hasWord_16 : decode cX11_hasWord 16 = .ok (.goto 4, 3) := by decide +kernel
theorem dX11_hasWord_19 : decode cX11_hasWord 19 = .ok (.iconst 0, 1) := by decide +kernel
theorem dX11_hasWord_20 : decode cX11_hasWord 20 = .ok (.iadd, 1) := by decide +kernel
theorem dX11_hasWord_21 : decode cX11_hasWord 21 = .ok (.putfield 185, 3) := by decide +kernel
theorem dX11_hasWord_24 : decode cX11_hasWord 24 = .ok (.iload_n 2, 1) := by decide +kernel
theorem dX11_hasWord_25 : decode cX11_hasWord 25 = .ok (.ireturn, 1) := by decide +kernel
theorem dX11_takeWord_0 : decode cX11_takeWord 0 = .ok (.aload_n 0, 1) := by decide +kernel
theorem dX11_takeWord_1 : decode cX11_takeWord 1 = .ok (.iload_n 1, 1) := by decide +kernel
theorem dX11_takeWord_2 : decode cX11_takeWord 2 = .ok (.invokevirtual 201, 3) := by decide +kernel
theorem dX11_takeWord_5 : decode cX11_takeWord 5 = .ok (.ifCond .ne 8, 3) := by decide +kernel
theorem dX11_takeWord_8 : decode cX11_takeWord 8 = .ok (.aload_n 0, 1) := by decide +kernel
theorem dX11_takeWord_9 : decode cX11_takeWord 9 = .ok (.iconst 1, 1) := by decide +kernel
theorem dX11_takeWord_10 : decode cX11_takeWord 10 = .ok (.invokevirtual 194, 3) := by decide +kernel
theorem dX11_takeWord_13 : decode cX11_takeWord 13 = .ok (.return_, 1) := by decide +kernel
theorem dX11_takeNumber_0 : decode cX11_takeNumber 0 = .ok (.aload_n 0, 1) := by decide +kernel
theorem dX11_takeNumber_1 : decode cX11_takeNumber 1 = .ok (.getfield 188, 3) := by decide +kernel
theorem dX11_takeNumber_4 : decode cX11_takeNumber 4 = .ok (.ifCond .ne 24, 3) := by decide +kernel
theorem dX11_takeNumber_7 : decode cX11_takeNumber 7 = .ok (.aload_n 0, 1) := by decide +kernel
theorem dX11_takeNumber_8 : decode cX11_takeNumber 8 = .ok (.getfield 24, 3) := by decide +kernel
theorem dX11_takeNumber_11 : decode cX11_takeNumber 11 = .ok (.aload_n 0, 1) := by decide +kernel
theorem dX11_takeNumber_12 : decode cX11_takeNumber 12 = .ok (.getfield 185, 3) := by decide +kernel
theorem dX11_takeNumber_15 : decode cX11_takeNumber 15 = .ok (.iaload, 1) := by decide +kernel
theorem dX11_takeNumber_16 : decode cX11_takeNumber 16 = .ok (.iconst 2, 1) := by decide +kernel
theorem dX11_takeNumber_17 : decode cX11_takeNumber 17 = .ok (.if_icmp .eq 11, 3) := by decide +kernel
theorem dX11_takeNumber_20 : decode cX11_takeNumber 20 = .ok (.aload_n 0, 1) := by decide +kernel
theorem dX11_takeNumber_21 : decode cX11_takeNumber 21 = .ok (.iconst 1, 1) := by decide +kernel
theorem dX11_takeNumber_22 : decode cX11_takeNumber 22 = .ok (.invokevirtual 194, 3) := by decide +kernel
theorem dX11_takeNumber_25 : decode cX11_takeNumber 25 = .ok (.goto 45, 3) := by decide +kernel
theorem dX11_takeNumber_28 : decode cX11_takeNumber 28 = .ok (.aload_n 0, 1) := by decide +kernel
theorem dX11_takeNumber_29 : decode cX11_takeNumber 29 = .ok (.getfield 188, 3) := by decide +kernel
theorem dX11_takeNumber_32 : decode cX11_takeNumber 32 = .ok (.ifCond .ne 38, 3) := by decide +kernel
theorem dX11_takeNumber_35 : decode cX11_takeNumber 35 = .ok (.aload_n 0, 1) := by decide +kernel
theorem dX11_takeNumber_36 : decode cX11_takeNumber 36 = .ok (.getfield 30, 3) := by decide +kernel
theorem dX11_takeNumber_39 : decode cX11_takeNumber 39 = .ok (.aload_n 0, 1) := by decide +kernel
theorem dX11_takeNumber_40 : decode cX11_takeNumber 40 = .ok (.getfield 185, 3) := by decide +kernel
theorem dX11_takeNumber_43 : decode cX11_takeNumber 43 = .ok (.laload, 1) := by decide +kernel
theorem dX11_takeNumber_44 : decode cX11_takeNumber 44 = .ok (.iload_n 1, 1) := by decide +kernel
theorem dX11_takeNumber_45 : decode cX11_takeNumber 45 = .ok (.i2l, 1) := by decide +kernel
theorem dX11_takeNumber_46 : decode cX11_takeNumber 46 = .ok (.lcmp, 1) := by decide +kernel
theorem dX11_takeNumber_47 : decode cX11_takeNumber 47 = .ok (.ifCond .lt 18, 3) := by decide +kernel
theorem dX11_takeNumber_50 : decode cX11_takeNumber 50 = .ok (.aload_n 0, 1) := by decide +kernel
theorem dX11_takeNumber_51 : decode cX11_takeNumber 51 = .ok (.getfield 30, 3) := by decide +kernel
theorem dX11_takeNumber_54 : decode cX11_takeNumber 54 = .ok (.aload_n 0, 1) := by decide +kernel
theorem dX11_takeNumber_55 : decode cX11_takeNumber 55 = .ok (.getfield 185, 3) := by decide +kernel
theorem dX11_takeNumber_58 : decode cX11_takeNumber 58 = .ok (.laload, 1) := by decide +kernel
theorem dX11_takeNumber_59 : decode cX11_takeNumber 59 = .ok (.iload_n 2, 1) := by decide +kernel
theorem dX11_takeNumber_60 : decode cX11_takeNumber 60 = .ok (.i2l, 1) := by decide +kernel
theorem dX11_takeNumber_61 : decode cX11_takeNumber 61 = .ok (.lcmp, 1) := by decide +kernel
theorem dX11_takeNumber_62 : decode cX11_takeNumber 62 = .ok (.ifCond .le 8, 3) := by decide +kernel
theorem dX11_takeNumber_65 : decode cX11_takeNumber 65 = .ok (.aload_n 0, 1) := by decide +kernel
theorem dX11_takeNumber_66 : decode cX11_takeNumber 66 = .ok (.iconst 4, 1) := by decide +kernel
theorem dX11_takeNumber_67 : decode cX11_takeNumber 67 = .ok (.invokevirtual 194, 3) := by decide +kernel
theorem dX11_takeNumber_70 : decode cX11_takeNumber 70 = .ok (.aload_n 0, 1) := by decide +kernel
theorem dX11_takeNumber_71 : decode cX11_takeNumber 71 = .ok (.dup, 1) := by decide +kernel
theorem dX11_takeNumber_72 : decode cX11_takeNumber 72 = .ok (.getfield 185, 3) := by decide +kernel
theorem dX11_takeNumber_75 : decode cX11_takeNumber 75 = .ok (.iconst 1, 1) := by decide +kernel
theorem dX11_takeNumber_76 : decode cX11_takeNumber 76 = .ok (.iadd, 1) := by decide +kernel
theorem dX11_takeNumber_77 : decode cX11_takeNumber 77 = .ok (.putfield 185, 3) := by decide +kernel
theorem dX11_takeNumber_80 : decode cX11_takeNumber 80 = .ok (.aload_n 0, 1) := by decide +kernel
theorem dX11_takeNumber_81 : decode cX11_takeNumber 81 = .ok (.getfield 188, 3) := by decide +kernel
theorem dX11_takeNumber_84 : decode cX11_takeNumber 84 = .ok (.ifCond .le 7, 3) := by decide +kernel
theorem dX11_takeNumber_87 : decode cX11_takeNumber 87 = .ok (.iconst 0, 1) := by decide +kernel
theorem dX11_takeNumber_88 : decode cX11_takeNumber 88 = .ok (.goto 15, 3) := by decide +kernel
theorem dX11_takeNumber_91 : decode cX11_takeNumber 91 = .ok (.aload_n 0, 1) := by decide +kernel
theorem dX11_takeNumber_92 : decode cX11_takeNumber 92 = .ok (.getfield 30, 3) := by decide +kernel
theorem dX11_takeNumber_95 : decode cX11_takeNumber 95 = .ok (.aload_n 0, 1) := by decide +kernel
theorem dX11_takeNumber_96 : decode cX11_takeNumber 96 = .ok (.getfield 185, 3) := by decide +kernel
theorem dX11_takeNumber_99 : decode cX11_takeNumber 99 = .ok (.iconst 1, 1) := by decide +kernel
theorem dX11_takeNumber_100 : decode cX11_takeNumber 100 = .ok (.isub, 1) := by decide +kernel
theorem dX11_takeNumber_101 : decode cX11_takeNumber 101 = .ok (.laload, 1) := by decide +kernel
theorem dX11_takeNumber_102 : decode cX11_takeNumber 102 = .ok (.l2i, 1) := by decide +kernel
theorem dX11_takeNumber_103 : decode cX11_takeNumber 103 = .ok (.ireturn, 1) := by decide +kernel
theorem dX11_isName_0 : decode cX11_isName 0 = .ok (.aload_n 0, 1) := by decide +kernel
theorem dX11_isName_1 : decode cX11_isName 1 = .ok (.getfield 188, 3) := by decide +kernel
theorem dX11_isName_4 : decode cX11_isName 4 = .ok (.ifCond .ne 20, 3) := by decide +kernel
theorem dX11_isName_7 : decode cX11_isName 7 = .ok (.aload_n 0, 1) := by decide +kernel
theorem dX11_isName_8 : decode cX11_isName 8 = .ok (.getfield 24, 3) := by decide +kernel
theorem dX11_isName_11 : decode cX11_isName 11 = .ok (.aload_n 0, 1) := by decide +kernel
theorem dX11_isName_12 : decode cX11_isName 12 = .ok (.getfield 185, 3) := by decide +kernel
theorem dX11_isName_15 : decode cX11_isName 15 = .ok (.iaload, 1) := by decide +kernel
theorem dX11_isName_16 : decode cX11_isName 16 = .ok (.iconst 1, 1) := by decide +kernel
theorem dX11_isName_17 : decode cX11_isName 17 = .ok (.if_icmp .ne 7, 3) := by decide +kernel
theorem dX11_isName_20 : decode cX11_isName 20 = .ok (.iconst 1, 1) := by decide +kernel
theorem dX11_isName_21 : decode cX11_isName 21 = .ok (.goto 4, 3) := by decide +kernel
theorem dX11_isName_24 : decode cX11_isName 24 = .ok (.iconst 0, 1) := by decide +kernel
theorem dX11_isName_25 : decode cX11_isName 25 = .ok (.istore_n 1, 1) := by decide +kernel
theorem dX11_isName_26 : decode cX11_isName 26 = .ok (.iconst 0, 1) := by decide +kernel
theorem dX11_isName_27 : decode cX11_isName 27 = .ok (.istore_n 2, 1) := by decide +kernel
theorem dX11_isName_28 : decode cX11_isName 28 = .ok (.iload_n 2, 1) := by decide +kernel
theorem dX11_isName_29 : decode cX11_isName 29 = .ok (.bipush 11, 2) := by decide +kernel
theorem dX11_isName_31 : decode cX11_isName 31 = .ok (.if_icmp .ge 38, 3) := by decide +kernel
theorem dX11_isName_34 : decode cX11_isName 34 = .ok (.iload_n 1, 1) := by decide +kernel
theorem dX11_isName_35 : decode cX11_isName 35 = .ok (.ifCond .eq 26, 3) := by decide +kernel
theorem dX11_isName_38 : decode cX11_isName 38 = .ok (.aload_n 0, 1) := by decide +kernel
theorem dX11_isName_39 : decode cX11_isName 39 = .ok (.getfield 30, 3) := by decide +kernel
theorem dX11_isName_42 : decode cX11_isName 42 = .ok (.aload_n 0, 1) := by decide +kernel
theorem dX11_isName_43 : decode cX11_isName 43 = .ok (.getfield 185, 3) := by decide +kernel
theorem dX11_isName_46 : decode cX11_isName 46 = .ok (.laload, 1) := by decide +kernel
theorem dX11_isName_47 : decode cX11_isName 47 = .ok (.aload_n 0, 1) := by decide +kernel
theorem dX11_isName_48 : decode cX11_isName 48 = .ok (.getfield 56, 3) := by decide +kernel
theorem dX11_isName_51 : decode cX11_isName 51 = .ok (.iload_n 2, 1) := by decide +kernel
theorem dX11_isName_52 : decode cX11_isName 52 = .ok (.laload, 1) := by decide +kernel
theorem dX11_isName_53 : decode cX11_isName 53 = .ok (.lcmp, 1) := by decide +kernel
theorem dX11_isName_54 : decode cX11_isName 54 = .ok (.ifCond .eq 7, 3) := by decide +kernel
theorem dX11_isName_57 : decode cX11_isName 57 = .ok (.iconst 1, 1) := by decide +kernel
theorem dX11_isName_58 : decode cX11_isName 58 = .ok (.goto 4, 3) := by decide +kernel
theorem dX11_isName_61 : decode cX11_isName 61 = .ok (.iconst 0, 1) := by decide +kernel
theorem dX11_isName_62 : decode cX11_isName 62 = .ok (.istore_n 1, 1) := by decide +kernel
theorem dX11_isName_63 : decode cX11_isName 63 = .ok (.iinc 2 1, 3) := by decide +kernel
theorem dX11_isName_66 : decode cX11_isName 66 = .ok (.goto (-38), 3) := by decide +kernel
theorem dX11_isName_69 : decode cX11_isName 69 = .ok (.iload_n 1, 1) := by decide +kernel
theorem dX11_isName_70 : decode cX11_isName 70 = .ok (.ireturn, 1) := by decide +kernel
theorem dX11_emit_0 : decode cX11_emit 0 = .ok (.aload_n 0, 1) := by decide +kernel
theorem dX11_emit_1 : decode cX11_emit 1 = .ok (.getfield 111, 3) := by decide +kernel
theorem dX11_emit_4 : decode cX11_emit 4 = .ok (.sipush 15600, 3) := by decide +kernel
theorem dX11_emit_7 : decode cX11_emit 7 = .ok (.aload_n 0, 1) := by decide +kernel
theorem dX11_emit_8 : decode cX11_emit 8 = .ok (.getfield 204, 3) := by decide +kernel
theorem dX11_emit_11 : decode cX11_emit 11 = .ok (.iadd, 1) := by decide +kernel
theorem dX11_emit_12 : decode cX11_emit 12 = .ok (.iload_n 1, 1) := by decide +kernel
theorem dX11_emit_13 : decode cX11_emit 13 = .ok (.iastore, 1) := by decide +kernel
theorem dX11_emit_14 : decode cX11_emit 14 = .ok (.aload_n 0, 1) := by decide +kernel
theorem dX11_emit_15 : decode cX11_emit 15 = .ok (.getfield 114, 3) := by decide +kernel
theorem dX11_emit_18 : decode cX11_emit 18 = .ok (.sipush 15600, 3) := by decide +kernel
theorem dX11_emit_21 : decode cX11_emit 21 = .ok (.aload_n 0, 1) := by decide +kernel
theorem dX11_emit_22 : decode cX11_emit 22 = .ok (.getfield 204, 3) := by decide +kernel
theorem dX11_emit_25 : decode cX11_emit 25 = .ok (.iadd, 1) := by decide +kernel
theorem dX11_emit_26 : decode cX11_emit 26 = .ok (.iload_n 2, 1) := by decide +kernel
theorem dX11_emit_27 : decode cX11_emit 27 = .ok (.iastore, 1) := by decide +kernel
theorem dX11_emit_28 : decode cX11_emit 28 = .ok (.aload_n 0, 1) := by decide +kernel
theorem dX11_emit_29 : decode cX11_emit 29 = .ok (.dup, 1) := by decide +kernel
theorem dX11_emit_30 : decode cX11_emit 30 = .ok (.getfield 204, 3) := by decide +kernel
theorem dX11_emit_33 : decode cX11_emit 33 = .ok (.iconst 1, 1) := by decide +kernel
theorem dX11_emit_34 : decode cX11_emit 34 = .ok (.iadd, 1) := by decide +kernel
theorem dX11_emit_35 : decode cX11_emit 35 = .ok (.putfield 204, 3) := by decide +kernel
theorem dX11_emit_38 : decode cX11_emit 38 = .ok (.return_, 1) := by decide +kernel
theorem dX11_edition_0 : decode cX11_edition 0 = .ok (.aload_n 0, 1) := by decide +kernel
theorem dX11_edition_1 : decode cX11_edition 1 = .ok (.iconst 0, 1) := by decide +kernel
theorem dX11_edition_2 : decode cX11_edition 2 = .ok (.putfield 1, 3) := by decide +kernel
theorem dX11_edition_5 : decode cX11_edition 5 = .ok (.iload_n 1, 1) := by decide +kernel
theorem dX11_edition_6 : decode cX11_edition 6 = .ok (.ifCond .lt 41, 3) := by decide +kernel
theorem dX11_edition_9 : decode cX11_edition 9 = .ok (.iload_n 1, 1) := by decide +kernel
theorem dX11_edition_10 : decode cX11_edition 10 = .ok (.sipush 9999, 3) := by decide +kernel
theorem dX11_edition_13 : decode cX11_edition 13 = .ok (.if_icmp .gt 34, 3) := by decide +kernel
theorem dX11_edition_16 : decode cX11_edition 16 = .ok (.aload_n 0, 1) := by decide +kernel
theorem dX11_edition_17 : decode cX11_edition 17 = .ok (.getfield 207, 3) := by decide +kernel
theorem dX11_edition_20 : decode cX11_edition 20 = .ok (.bipush 6, 2) := by decide +kernel
theorem dX11_edition_22 : decode cX11_edition 22 = .ok (.if_icmp .eq 25, 3) := by decide +kernel
theorem dX11_edition_25 : decode cX11_edition 25 = .ok (.aload_n 0, 1) := by decide +kernel
theorem dX11_edition_26 : decode cX11_edition 26 = .ok (.getfield 207, 3) := by decide +kernel
theorem dX11_edition_29 : decode cX11_edition 29 = .ok (.ifCond .le 25, 3) := by decide +kernel
theorem dX11_edition_32 : decode cX11_edition 32 = .ok (.iload_n 1, 1) := by decide +kernel
theorem dX11_edition_33 : decode cX11_edition 33 = .ok (.aload_n 0, 1) := by decide +kernel
theorem dX11_edition_34 : decode cX11_edition 34 = .ok (.getfield 59, 3) := by decide +kernel
theorem dX11_edition_37 : decode cX11_edition 37 = .ok (.aload_n 0, 1) := by decide +kernel
theorem dX11_edition_38 : decode cX11_edition 38 = .ok (.getfield 207, 3) := by decide +kernel
theorem dX11_edition_41 : decode cX11_edition 41 = .ok (.iconst 1, 1) := by decide +kernel
theorem dX11_edition_42 : decode cX11_edition 42 = .ok (.isub, 1) := by decide +kernel
theorem dX11_edition_43 : decode cX11_edition 43 = .ok (.iaload, 1) := by decide +kernel
theorem dX11_edition_44 : decode cX11_edition 44 = .ok (.if_icmp .gt 10, 3) := by decide +kernel
theorem dX11_edition_47 : decode cX11_edition 47 = .ok (.aload_n 0, 1) := by decide +kernel
theorem dX11_edition_48 : decode cX11_edition 48 = .ok (.iconst 0, 1) := by decide +kernel
theorem dX11_edition_49 : decode cX11_edition 49 = .ok (.putfield 11, 3) := by decide +kernel
theorem dX11_edition_52 : decode cX11_edition 52 = .ok (.iconst (-1), 1) := by decide +kernel
theorem dX11_edition_53 : decode cX11_edition 53 = .ok (.ireturn, 1) := by decide +kernel
theorem dX11_edition_54 : decode cX11_edition 54 = .ok (.aload_n 0, 1) := by decide +kernel
theorem dX11_edition_55 : decode cX11_edition 55 = .ok (.invokevirtual 210, 3) := by decide +kernel
theorem dX11_edition_58 : decode cX11_edition 58 = .ok (.aload_n 0, 1) := by decide +kernel
theorem dX11_edition_59 : decode cX11_edition 59 = .ok (.getfield 62, 3) := by decide +kernel
theorem dX11_edition_62 : decode cX11_edition 62 = .ok (.bipush 6, 2) := by decide +kernel
theorem dX11_edition_64 : decode cX11_edition 64 = .ok (.iconst 0, 1) := by decide +kernel
theorem dX11_edition_65 : decode cX11_edition 65 = .ok (.iastore, 1) := by decide +kernel
theorem dX11_edition_66 : decode cX11_edition 66 = .ok (.aload_n 0, 1) := by decide +kernel
theorem dX11_edition_67 : decode cX11_edition 67 = .ok (.getfield 74, 3) := by decide +kernel
theorem dX11_edition_70 : decode cX11_edition 70 = .ok (.bipush 6, 2) := by decide +kernel
theorem dX11_edition_72 : decode cX11_edition 72 = .ok (.iconst 0, 1) := by decide +kernel
theorem dX11_edition_73 : decode cX11_edition 73 = .ok (.iastore, 1) := by decide +kernel
theorem dX11_edition_74 : decode cX11_edition 74 = .ok (.aload_n 0, 1) := by decide +kernel
theorem dX11_edition_75 : decode cX11_edition 75 = .ok (.iconst 0, 1) := by decide +kernel
theorem dX11_edition_76 : decode cX11_edition 76 = .ok (.putfield 204, 3) := by decide +kernel
theorem dX11_edition_79 : decode cX11_edition 79 = .ok (.aload_n 0, 1) := by decide +kernel
theorem dX11_edition_80 : decode cX11_edition 80 = .ok (.iconst 0, 1) := by decide +kernel
theorem dX11_edition_81 : decode cX11_edition 81 = .ok (.invokevirtual 198, 3) := by decide +kernel
theorem dX11_edition_84 : decode cX11_edition 84 = .ok (.ifCond .eq 10, 3) := by decide +kernel
theorem dX11_edition_87 : decode cX11_edition 87 = .ok (.aload_n 0, 1) := by decide +kernel
theorem dX11_edition_88 : decode cX11_edition 88 = .ok (.invokevirtual 213, 3) := by decide +kernel
theorem dX11_edition_91 : decode cX11_edition 91 = .ok (.goto (-12), 3) := by decide +kernel
theorem dX11_edition_94 : decode cX11_edition 94 = .ok (.aload_n 0, 1) := by decide +kernel
theorem dX11_edition_95 : decode cX11_edition 95 = .ok (.iconst 2, 1) := by decide +kernel
theorem dX11_edition_96 : decode cX11_edition 96 = .ok (.invokevirtual 198, 3) := by decide +kernel
theorem dX11_edition_99 : decode cX11_edition 99 = .ok (.ifCond .eq 10, 3) := by decide +kernel
theorem dX11_edition_102 : decode cX11_edition 102 = .ok (.aload_n 0, 1) := by decide +kernel
theorem dX11_edition_103 : decode cX11_edition 103 = .ok (.invokevirtual 216, 3) := by decide +kernel
theorem dX11_edition_106 : decode cX11_edition 106 = .ok (.goto (-12), 3) := by decide +kernel
theorem dX11_edition_109 : decode cX11_edition 109 = .ok (.aload_n 0, 1) := by decide +kernel
theorem dX11_edition_110 : decode cX11_edition 110 = .ok (.getfield 188, 3) := by decide +kernel
theorem dX11_edition_113 : decode cX11_edition 113 = .ok (.ifCond .ne 20, 3) := by decide +kernel
theorem dX11_edition_116 : decode cX11_edition 116 = .ok (.aload_n 0, 1) := by decide +kernel
theorem dX11_edition_117 : decode cX11_edition 117 = .ok (.getfield 24, 3) := by decide +kernel
theorem dX11_edition_120 : decode cX11_edition 120 = .ok (.aload_n 0, 1) := by decide +kernel
theorem dX11_edition_121 : decode cX11_edition 121 = .ok (.getfield 185, 3) := by decide +kernel
theorem dX11_edition_124 : decode cX11_edition 124 = .ok (.iaload, 1) := by decide +kernel
theorem dX11_edition_125 : decode cX11_edition 125 = .ok (.ifCond .eq 8, 3) := by decide +kernel
theorem dX11_edition_128 : decode cX11_edition 128 = .ok (.aload_n 0, 1) := by decide +kernel
theorem dX11_edition_129 : decode cX11_edition 129 = .ok (.iconst 1, 1) := by decide +kernel
theorem dX11_edition_130 : decode cX11_edition 130 = .ok (.invokevirtual 194, 3) := by decide +kernel
theorem dX11_edition_133 : decode cX11_edition 133 = .ok (.aload_n 0, 1) := by decide +kernel
theorem dX11_edition_134 : decode cX11_edition 134 = .ok (.getfield 188, 3) := by decide +kernel
theorem dX11_edition_137 : decode cX11_edition 137 = .ok (.ifCond .ne 41, 3) := by decide +kernel
theorem dX11_edition_140 : decode cX11_edition 140 = .ok (.aload_n 0, 1) := by decide +kernel
theorem dX11_edition_141 : decode cX11_edition 141 = .ok (.getfield 59, 3) := by decide +kernel
theorem dX11_edition_144 : decode cX11_edition 144 = .ok (.aload_n 0, 1) := by decide +kernel
theorem dX11_edition_145 : decode cX11_edition 145 = .ok (.getfield 207, 3) := by decide +kernel
theorem dX11_edition_148 : decode cX11_edition 148 = .ok (.iload_n 1, 1) := by decide +kernel
theorem dX11_edition_149 : decode cX11_edition 149 = .ok (.iastore, 1) := by decide +kernel
theorem dX11_edition_150 : decode cX11_edition 150 = .ok (.aload_n 0, 1) := by decide +kernel
theorem dX11_edition_151 : decode cX11_edition 151 = .ok (.aload_n 0, 1) := by decide +kernel
theorem dX11_edition_152 : decode cX11_edition 152 = .ok (.getfield 207, 3) := by decide +kernel
theorem dX11_edition_155 : decode cX11_edition 155 = .ok (.invokevirtual 219, 3) := by decide +kernel
theorem dX11_edition_158 : decode cX11_edition 158 = .ok (.aload_n 0, 1) := by decide +kernel
theorem dX11_edition_159 : decode cX11_edition 159 = .ok (.dup, 1) := by decide +kernel
theorem dX11_edition_160 : decode cX11_edition 160 = .ok (.getfield 207, 3) := by decide +kernel
theorem dX11_edition_163 : decode cX11_edition 163 = .ok (.iconst 1, 1) := by decide +kernel
theorem dX11_edition_164 : decode cX11_edition 164 = .ok (.iadd, 1) := by decide +kernel
theorem dX11_edition_165 : decode cX11_edition 165 = .ok (.putfield 207, 3) := by decide +kernel
theorem dX11_edition_168 : decode cX11_edition 168 = .ok (.aload_n 0, 1) := by decide +kernel
theorem dX11_edition_169 : decode cX11_edition 169 = .ok (.aload_n 0, 1) := by decide +kernel
theorem dX11_edition_170 : decode cX11_edition 170 = .ok (.getfield 207, 3) := by decide +kernel
theorem dX11_edition_173 : decode cX11_edition 173 = .ok (.iconst 1, 1) := by decide +kernel
theorem dX11_edition_174 : decode cX11_edition 174 = .ok (.isub, 1) := by decide +kernel
theorem dX11_edition_175 : decode cX11_edition 175 = .ok (.invokevirtual 222, 3) := by decide +kernel
theorem dX11_edition_178 : decode cX11_edition 178 = .ok (.aload_n 0, 1) := by decide +kernel
theorem dX11_edition_179 : decode cX11_edition 179 = .ok (.getfield 188, 3) := by decide +kernel
theorem dX11_edition_182 : decode cX11_edition 182 = .ok (.ireturn, 1) := by decide +kernel
theorem dX11_factIs_0 : decode cX11_factIs 0 = .ok (.aload_n 0, 1) := by decide +kernel
theorem dX11_factIs_1 : decode cX11_factIs 1 = .ok (.getfield 62, 3) := by decide +kernel
theorem dX11_factIs_4 : decode cX11_factIs 4 = .ok (.bipush 6, 2) := by decide +kernel
theorem dX11_factIs_6 : decode cX11_factIs 6 = .ok (.iaload, 1) := by decide +kernel
theorem dX11_factIs_7 : decode cX11_factIs 7 = .ok (.istore_n 1, 1) := by decide +kernel
theorem dX11_factIs_8 : decode cX11_factIs 8 = .ok (.iload_n 1, 1) := by decide +kernel
theorem dX11_factIs_9 : decode cX11_factIs 9 = .ok (.bipush 8, 2) := by decide +kernel
theorem dX11_factIs_11 : decode cX11_factIs 11 = .ok (.if_icmp .ne 9, 3) := by decide +kernel
theorem dX11_factIs_14 : decode cX11_factIs 14 = .ok (.aload_n 0, 1) := by decide +kernel
theorem dX11_factIs_15 : decode cX11_factIs 15 = .ok (.iconst 5, 1) := by decide +kernel
theorem dX11_factIs_16 : decode cX11_factIs 16 = .ok (.invokevirtual 194, 3) := by decide +kernel
theorem dX11_factIs_19 : decode cX11_factIs 19 = .ok (.return_, 1) := by decide +kernel
theorem dX11_factIs_20 : decode cX11_factIs 20 = .ok (.aload_n 0, 1) := by decide +kernel
theorem dX11_factIs_21 : decode cX11_factIs 21 = .ok (.dup, 1) := by decide +kernel
theorem dX11_factIs_22 : decode cX11_factIs 22 = .ok (.getfield 185, 3) := by decide +kernel
theorem dX11_factIs_25 : decode cX11_factIs 25 = .ok (.iconst 1, 1) := by decide +kernel
theorem dX11_factIs_26 : decode cX11_factIs 26 = .ok (.iadd, 1) := by decide +kernel
theorem dX11_factIs_27 : decode cX11_factIs 27 = .ok (.putfield 185, 3) := by decide +kernel
theorem dX11_factIs_30 : decode cX11_factIs 30 = .ok (.bipush 48, 2) := by decide +kernel
theorem dX11_factIs_32 : decode cX11_factIs 32 = .ok (.iload_n 1, 1) := by decide +kernel
theorem dX11_factIs_33 : decode cX11_factIs 33 = .ok (.iadd, 1) := by decide +kernel
theorem dX11_factIs_34 : decode cX11_factIs 34 = .ok (.istore_n 2, 1) := by decide +kernel
theorem dX11_factIs_35 : decode cX11_factIs 35 = .ok (.aload_n 0, 1) := by decide +kernel
theorem dX11_factIs_36 : decode cX11_factIs 36 = .ok (.invokevirtual 225, 3) := by decide +kernel
theorem dX11_factIs_39 : decode cX11_factIs 39 = .ok (.ifCond .ne 11, 3) := by decide +kernel
theorem dX11_factIs_42 : decode cX11_factIs 42 = .ok (.aload_n 0, 1) := by decide +kernel
theorem dX11_factIs_43 : decode cX11_factIs 43 = .ok (.iconst 1, 1) := by decide +kernel
theorem dX11_factIs_44 : decode cX11_factIs 44 = .ok (.invokevirtual 194, 3) := by decide +kernel
theorem dX11_factIs_47 : decode cX11_factIs 47 = .ok (.goto 24, 3) := by decide +kernel
theorem dX11_factIs_50 : decode cX11_factIs 50 = .ok (.aload_n 0, 1) := by decide +kernel
theorem dX11_factIs_51 : decode cX11_factIs 51 = .ok (.aload_n 0, 1) := by decide +kernel
theorem dX11_factIs_52 : decode cX11_factIs 52 = .ok (.getfield 30, 3) := by decide +kernel
theorem dX11_factIs_55 : decode cX11_factIs 55 = .ok (.aload_n 0, 1) := by decide +kernel
theorem dX11_factIs_56 : decode cX11_factIs 56 = .ok (.getfield 185, 3) := by decide +kernel
theorem dX11_factIs_59 : decode cX11_factIs 59 = .ok (.laload, 1) := by decide +kernel
theorem dX11_factIs_60 : decode cX11_factIs 60 = .ok (.invokevirtual 229, 3) := by decide +kernel
theorem dX11_factIs_63 : decode cX11_factIs 63 = .ok (.ifCond .lt 8, 3) := by decide +kernel
theorem dX11_factIs_66 : decode cX11_factIs 66 = .ok (.aload_n 0, 1) := by decide +kernel
theorem dX11_factIs_67 : decode cX11_factIs 67 = .ok (.iconst 3, 1) := by decide +kernel
theorem dX11_factIs_68 : decode cX11_factIs 68 = .ok (.invokevirtual 194, 3) := by decide +kernel
theorem dX11_factIs_71 : decode cX11_factIs 71 = .ok (.aload_n 0, 1) := by decide +kernel
theorem dX11_factIs_72 : decode cX11_factIs 72 = .ok (.getfield 65, 3) := by decide +kernel
theorem dX11_factIs_75 : decode cX11_factIs 75 = .ok (.iload_n 2, 1) := by decide +kernel
theorem dX11_factIs_76 : decode cX11_factIs 76 = .ok (.aload_n 0, 1) := by decide +kernel
theorem dX11_factIs_77 : decode cX11_factIs 77 = .ok (.getfield 30, 3) := by decide +kernel
theorem dX11_factIs_80 : decode cX11_factIs 80 = .ok (.aload_n 0, 1) := by decide +kernel
theorem dX11_factIs_81 : decode cX11_factIs 81 = .ok (.getfield 185, 3) := by decide +kernel
theorem dX11_factIs_84 : decode cX11_factIs 84 = .ok (.laload, 1) := by decide +kernel
theorem dX11_factIs_85 : decode cX11_factIs 85 = .ok (.lastore, 1) := by decide +kernel
theorem dX11_factIs_86 : decode cX11_factIs 86 = .ok (.aload_n 0, 1) := by decide +kernel
theorem dX11_factIs_87 : decode cX11_factIs 87 = .ok (.dup, 1) := by decide +kernel
theorem dX11_factIs_88 : decode cX11_factIs 88 = .ok (.getfield 185, 3) := by decide +kernel
theorem dX11_factIs_91 : decode cX11_factIs 91 = .ok (.aload_n 0, 1) := by decide +kernel
theorem dX11_factIs_92 : decode cX11_factIs 92 = .ok (.getfield 188, 3) := by decide +kernel
theorem dX11_factIs_95 : decode cX11_factIs 95 = .ok (.ifCond .ne 7, 3) := by decide +kernel
theorem dX11_factIs_98 : decode cX11_factIs 98 = .ok (.iconst 1, 1) := by decide +kernel
theorem dX11_factIs_99 : decode cX11_factIs 99 = .ok (.goto 4, 3) := by decide +kernel
theorem dX11_factIs_102 : decode cX11_factIs 102 = .ok (.iconst 0, 1) := by decide +kernel
theorem dX11_factIs_103 : decode cX11_factIs 103 = .ok (.iadd, 1) := by decide +kernel
theorem dX11_factIs_104 : decode cX11_factIs 104 = .ok (.putfield 185, 3) := by decide +kernel
theorem dX11_factIs_107 : decode cX11_factIs 107 = .ok (.aload_n 0, 1) := by decide +kernel
theorem dX11_factIs_108 : decode cX11_factIs 108 = .ok (.getfield 68, 3) := by decide +kernel
theorem dX11_factIs_111 : decode cX11_factIs 111 = .ok (.iload_n 2, 1) := by decide +kernel
theorem dX11_factIs_112 : decode cX11_factIs 112 = .ok (.aload_n 0, 1) := by decide +kernel
theorem dX11_factIs_113 : decode cX11_factIs 113 = .ok (.iconst 0, 1) := by decide +kernel
theorem dX11_factIs_114 : decode cX11_factIs 114 = .ok (.bipush 99, 2) := by decide +kernel
theorem dX11_factIs_116 : decode cX11_factIs 116 = .ok (.invokevirtual 233, 3) := by decide +kernel
theorem dX11_factIs_119 : decode cX11_factIs 119 = .ok (.iastore, 1) := by decide +kernel
theorem dX11_factIs_120 : decode cX11_factIs 120 = .ok (.aload_n 0, 1) := by decide +kernel
theorem dX11_factIs_121 : decode cX11_factIs 121 = .ok (.iconst 1, 1) := by decide +kernel
theorem dX11_factIs_122 : decode cX11_factIs 122 = .ok (.invokevirtual 237, 3) := by decide +kernel
theorem dX11_factIs_125 : decode cX11_factIs 125 = .ok (.aload_n 0, 1) := by decide +kernel
theorem dX11_factIs_126 : decode cX11_factIs 126 = .ok (.getfield 188, 3) := by decide +kernel
theorem dX11_factIs_129 : decode cX11_factIs 129 = .ok (.ifCond .ne 20, 3) := by decide +kernel
theorem dX11_factIs_132 : decode cX11_factIs 132 = .ok (.aload_n 0, 1) := by decide +kernel
theorem dX11_factIs_133 : decode cX11_factIs 133 = .ok (.getfield 24, 3) := by decide +kernel
theorem dX11_factIs_136 : decode cX11_factIs 136 = .ok (.aload_n 0, 1) := by decide +kernel
theorem dX11_factIs_137 : decode cX11_factIs 137 = .ok (.getfield 185, 3) := by decide +kernel
theorem dX11_factIs_140 : decode cX11_factIs 140 = .ok (.iaload, 1) := by decide +kernel
theorem dX11_factIs_141 : decode cX11_factIs 141 = .ok (.iconst 2, 1) := by decide +kernel
theorem dX11_factIs_142 : decode cX11_factIs 142 = .ok (.if_icmp .ne 7, 3) := by decide +kernel
theorem dX11_factIs_145 : decode cX11_factIs 145 = .ok (.iconst 1, 1) := by decide +kernel
theorem dX11_factIs_146 : decode cX11_factIs 146 = .ok (.goto 4, 3) := by decide +kernel
theorem dX11_factIs_149 : decode cX11_factIs 149 = .ok (.iconst 0, 1) := by decide +kernel
theorem dX11_factIs_150 : decode cX11_factIs 150 = .ok (.istore_n 3, 1) := by decide +kernel
theorem dX11_factIs_151 : decode cX11_factIs 151 = .ok (.iload_n 3, 1) := by decide +kernel
theorem dX11_factIs_152 : decode cX11_factIs 152 = .ok (.ifCond .eq 77, 3) := by decide +kernel
theorem dX11_factIs_155 : decode cX11_factIs 155 = .ok (.aload_n 0, 1) := by decide +kernel
theorem dX11_factIs_156 : decode cX11_factIs 156 = .ok (.getfield 30, 3) := by decide +kernel
theorem dX11_factIs_159 : decode cX11_factIs 159 = .ok (.aload_n 0, 1) := by decide +kernel
theorem dX11_factIs_160 : decode cX11_factIs 160 = .ok (.getfield 185, 3) := by decide +kernel
theorem dX11_factIs_163 : decode cX11_factIs 163 = .ok (.laload, 1) := by decide +kernel
theorem dX11_factIs_164 : decode cX11_factIs 164 = .ok (.aload_n 0, 1) := by decide +kernel
theorem dX11_factIs_165 : decode cX11_factIs 165 = .ok (.getfield 68, 3) := by decide +kernel
theorem dX11_factIs_168 : decode cX11_factIs 168 = .ok (.iload_n 2, 1) := by decide +kernel
theorem dX11_factIs_169 : decode cX11_factIs 169 = .ok (.iaload, 1) := by decide +kernel
theorem dX11_factIs_170 : decode cX11_factIs 170 = .ok (.i2l, 1) := by decide +kernel
theorem dX11_factIs_171 : decode cX11_factIs 171 = .ok (.lcmp, 1) := by decide +kernel
theorem dX11_factIs_172 : decode cX11_factIs 172 = .ok (.ifCond .lt 57, 3) := by decide +kernel
theorem dX11_factIs_175 : decode cX11_factIs 175 = .ok (.aload_n 0, 1) := by decide +kernel
theorem dX11_factIs_176 : decode cX11_factIs 176 = .ok (.getfield 30, 3) := by decide +kernel
theorem dX11_factIs_179 : decode cX11_factIs 179 = .ok (.aload_n 0, 1) := by decide +kernel
theorem dX11_factIs_180 : decode cX11_factIs 180 = .ok (.getfield 185, 3) := by decide +kernel
theorem dX11_factIs_183 : decode cX11_factIs 183 = .ok (.laload, 1) := by decide +kernel
theorem dX11_factIs_184 : decode cX11_factIs 184 = .ok (.ldc2_w 240, 3) := by decide +kernel
theorem dX11_factIs_187 : decode cX11_factIs 187 = .ok (.lcmp, 1) := by decide +kernel
theorem dX11_factIs_188 : decode cX11_factIs 188 = .ok (.ifCond .gt 41, 3) := by decide +kernel
theorem dX11_factIs_191 : decode cX11_factIs 191 = .ok (.aload_n 0, 1) := by decide +kernel
theorem dX11_factIs_192 : decode cX11_factIs 192 = .ok (.bipush 6, 2) := by decide +kernel
theorem dX11_factIs_194 : decode cX11_factIs 194 = .ok (.invokevirtual 242, 3) := by decide +kernel
theorem dX11_factIs_197 : decode cX11_factIs 197 = .ok (.aload_n 0, 1) := by decide +kernel
theorem dX11_factIs_198 : decode cX11_factIs 198 = .ok (.getfield 30, 3) := by decide +kernel
theorem dX11_factIs_201 : decode cX11_factIs 201 = .ok (.aload_n 0, 1) := by decide +kernel
theorem dX11_factIs_202 : decode cX11_factIs 202 = .ok (.getfield 185, 3) := by decide +kernel
theorem dX11_factIs_205 : decode cX11_factIs 205 = .ok (.laload, 1) := by decide +kernel
theorem dX11_factIs_206 : decode cX11_factIs 206 = .ok (.aload_n 0, 1) := by decide +kernel
theorem dX11_factIs_207 : decode cX11_factIs 207 = .ok (.getfield 68, 3) := by decide +kernel
theorem dX11_factIs_210 : decode cX11_factIs 210 = .ok (.iload_n 2, 1) := by decide +kernel
theorem dX11_factIs_211 : decode cX11_factIs 211 = .ok (.iaload, 1) := by decide +kernel
theorem dX11_factIs_212 : decode cX11_factIs 212 = .ok (.i2l, 1) := by decide +kernel
theorem dX11_factIs_213 : decode cX11_factIs 213 = .ok (.lsub, 1) := by decide +kernel
theorem dX11_factIs_214 : decode cX11_factIs 214 = .ok (.lconst 1, 1) := by decide +kernel
theorem dX11_factIs_215 : decode cX11_factIs 215 = .ok (.ladd, 1) := by decide +kernel
theorem dX11_factIs_216 : decode cX11_factIs 216 = .ok (.lmul, 1) := by decide +kernel
theorem dX11_factIs_217 : decode cX11_factIs 217 = .ok (.ldc2_w 246, 3) := by decide +kernel
theorem dX11_factIs_220 : decode cX11_factIs 220 = .ok (.lcmp, 1) := by decide +kernel
theorem dX11_factIs_221 : decode cX11_factIs 221 = .ok (.ifCond .le 8, 3) := by decide +kernel
theorem dX11_factIs_224 : decode cX11_factIs 224 = .ok (.aload_n 0, 1) := by decide +kernel
theorem dX11_factIs_225 : decode cX11_factIs 225 = .ok (.iconst 5, 1) := by decide +kernel
theorem dX11_factIs_226 : decode cX11_factIs 226 = .ok (.invokevirtual 194, 3) := by decide +kernel
theorem dX11_factIs_229 : decode cX11_factIs 229 = .ok (.aload_n 0, 1) := by decide +kernel
theorem dX11_factIs_230 : decode cX11_factIs 230 = .ok (.getfield 71, 3) := by decide +kernel
theorem dX11_factIs_233 : decode cX11_factIs 233 = .ok (.iload_n 2, 1) := by decide +kernel
theorem dX11_factIs_234 : decode cX11_factIs 234 = .ok (.aload_n 0, 1) := by decide +kernel
theorem dX11_factIs_235 : decode cX11_factIs 235 = .ok (.aload_n 0, 1) := by decide +kernel
theorem dX11_factIs_236 : decode cX11_factIs 236 = .ok (.getfield 68, 3) := by decide +kernel
theorem dX11_factIs_239 : decode cX11_factIs 239 = .ok (.iload_n 2, 1) := by decide +kernel
theorem dX11_factIs_240 : decode cX11_factIs 240 = .ok (.iaload, 1) := by decide +kernel
theorem dX11_factIs_241 : decode cX11_factIs 241 = .ok (.bipush 99, 2) := by decide +kernel
theorem dX11_factIs_243 : decode cX11_factIs 243 = .ok (.invokevirtual 233, 3) := by decide +kernel
theorem dX11_factIs_246 : decode cX11_factIs 246 = .ok (.iastore, 1) := by decide +kernel
theorem dX11_factIs_247 : decode cX11_factIs 247 = .ok (.aload_n 0, 1) := by decide +kernel
theorem dX11_factIs_248 : decode cX11_factIs 248 = .ok (.bipush 59, 2) := by decide +kernel
theorem dX11_factIs_250 : decode cX11_factIs 250 = .ok (.invokevirtual 248, 3) := by decide +kernel
theorem dX11_factIs_253 : decode cX11_factIs 253 = .ok (.aload_n 0, 1) := by decide +kernel
theorem dX11_factIs_254 : decode cX11_factIs 254 = .ok (.getfield 62, 3) := by decide +kernel
theorem dX11_factIs_257 : decode cX11_factIs 257 = .ok (.bipush 6, 2) := by decide +kernel
theorem dX11_factIs_259 : decode cX11_factIs 259 = .ok (.dup2, 1) := by decide +kernel
theorem dX11_factIs_260 : decode cX11_factIs 260 = .ok (.iaload, 1) := by decide +kernel
theorem dX11_factIs_261 : decode cX11_factIs 261 = .ok (.iconst 1, 1) := by decide +kernel
theorem dX11_factIs_262 : decode cX11_factIs 262 = .ok (.iadd, 1) := by decide +kernel
theorem dX11_factIs_263 : decode cX11_factIs 263 = .ok (.iastore, 1) := by decide +kernel
theorem dX11_factIs_264 : decode cX11_factIs 264 = .ok (.return_, 1) := by decide +kernel
theorem dX11_findFact_0 : decode cX11_findFact 0 = .ok (.iconst (-1), 1) := by decide +kernel
theorem dX11_findFact_1 : decode cX11_findFact 1 = .ok (.istore_n 3, 1) := by decide +kernel
theorem dX11_findFact_2 : decode cX11_findFact 2 = .ok (.iconst 0, 1) := by decide +kernel
theorem dX11_findFact_3 : decode cX11_findFact 3 = .ok (.istore 4, 2) := by decide +kernel
theorem dX11_findFact_5 : decode cX11_findFact 5 = .ok (.iload 4, 2) := by decide +kernel
theorem dX11_findFact_7 : decode cX11_findFact 7 = .ok (.aload_n 0, 1) := by decide +kernel
theorem dX11_findFact_8 : decode cX11_findFact 8 = .ok (.getfield 62, 3) := by decide +kernel
theorem dX11_findFact_11 : decode cX11_findFact 11 = .ok (.bipush 6, 2) := by decide +kernel
theorem dX11_findFact_13 : decode cX11_findFact 13 = .ok (.iaload, 1) := by decide +kernel
theorem dX11_findFact_14 : decode cX11_findFact 14 = .ok (.if_icmp .ge 31, 3) := by decide +kernel
theorem dX11_findFact_17 : decode cX11_findFact 17 = .ok (.aload_n 0, 1) := by decide +kernel
theorem dX11_findFact_18 : decode cX11_findFact 18 = .ok (.getfield 65, 3) := by decide +kernel
theorem dX11_findFact_21 : decode cX11_findFact 21 = .ok (.bipush 48, 2) := by decide +kernel
theorem dX11_findFact_23 : decode cX11_findFact 23 = .ok (.iload 4, 2) := by decide +kernel
theorem dX11_findFact_25 : decode cX11_findFact 25 = .ok (.iadd, 1) := by decide +kernel
theorem dX11_findFact_26 : decode cX11_findFact 26 = .ok (.laload, 1) := by decide +kernel
theorem dX11_findFact_27 : decode cX11_findFact 27 = .ok (.lload_n 1, 1) := by decide +kernel
theorem dX11_findFact_28 : decode cX11_findFact 28 = .ok (.lcmp, 1) := by decide +kernel
theorem dX11_findFact_29 : decode cX11_findFact 29 = .ok (.ifCond .ne 8, 3) := by decide +kernel
theorem dX11_findFact_32 : decode cX11_findFact 32 = .ok (.iload 4, 2) := by decide +kernel
theorem dX11_findFact_34 : decode cX11_findFact 34 = .ok (.goto 4, 3) := by decide +kernel
theorem dX11_findFact_37 : decode cX11_findFact 37 = .ok (.iload_n 3, 1) := by decide +kernel
theorem dX11_findFact_38 : decode cX11_findFact 38 = .ok (.istore_n 3, 1) := by decide +kernel
theorem dX11_findFact_39 : decode cX11_findFact 39 = .ok (.iinc 4 1, 3) := by decide +kernel
theorem dX11_findFact_42 : decode cX11_findFact 42 = .ok (.goto (-37), 3) := by decide +kernel
theorem dX11_findFact_45 : decode cX11_findFact 45 = .ok (.iload_n 3, 1) := by decide +kernel
theorem dX11_findFact_46 : decode cX11_findFact 46 = .ok (.ireturn, 1) := by decide +kernel
theorem dX11_worlds_0 : decode cX11_worlds 0 = .ok (.lconst 1, 1) := by decide +kernel
theorem dX11_worlds_1 : decode cX11_worlds 1 = .ok (.lstore_n 2, 1) := by decide +kernel
theorem dX11_worlds_2 : decode cX11_worlds 2 = .ok (.bipush 8, 2) := by decide +kernel
theorem dX11_worlds_4 : decode cX11_worlds 4 = .ok (.iload_n 1, 1) := by decide +kernel
theorem dX11_worlds_5 : decode cX11_worlds 5 = .ok (.imul, 1) := by decide +kernel
theorem dX11_worlds_6 : decode cX11_worlds 6 = .ok (.istore 4, 2) := by decide +kernel
theorem dX11_worlds_8 : decode cX11_worlds 8 = .ok (.iload 4, 2) := by decide +kernel
theorem dX11_worlds_10 : decode cX11_worlds 10 = .ok (.bipush 8, 2) := by decide +kernel
theorem dX11_worlds_12 : decode cX11_worlds 12 = .ok (.iload_n 1, 1) := by decide +kernel
theorem dX11_worlds_13 : decode cX11_worlds 13 = .ok (.imul, 1) := by decide +kernel
theorem dX11_worlds_14 : decode cX11_worlds 14 = .ok (.aload_n 0, 1) := by decide +kernel
theorem dX11_worlds_15 : decode cX11_worlds 15 = .ok (.getfield 62, 3) := by decide +kernel
theorem dX11_worlds_18 : decode cX11_worlds 18 = .ok (.iload_n 1, 1) := by decide +kernel
theorem dX11_worlds_19 : decode cX11_worlds 19 = .ok (.iaload, 1) := by decide +kernel
theorem dX11_worlds_20 : decode cX11_worlds 20 = .ok (.iadd, 1) := by decide +kernel
theorem dX11_worlds_21 : decode cX11_worlds 21 = .ok (.if_icmp .ge 30, 3) := by decide +kernel
theorem dX11_worlds_24 : decode cX11_worlds 24 = .ok (.lload_n 2, 1) := by decide +kernel
theorem dX11_worlds_25 : decode cX11_worlds 25 = .ok (.aload_n 0, 1) := by decide +kernel
theorem dX11_worlds_26 : decode cX11_worlds 26 = .ok (.getfield 71, 3) := by decide +kernel
theorem dX11_worlds_29 : decode cX11_worlds 29 = .ok (.iload 4, 2) := by decide +kernel
theorem dX11_worlds_31 : decode cX11_worlds 31 = .ok (.iaload, 1) := by decide +kernel
theorem dX11_worlds_32 : decode cX11_worlds 32 = .ok (.aload_n 0, 1) := by decide +kernel
theorem dX11_worlds_33 : decode cX11_worlds 33 = .ok (.getfield 68, 3) := by decide +kernel
theorem dX11_worlds_36 : decode cX11_worlds 36 = .ok (.iload 4, 2) := by decide +kernel
theorem dX11_worlds_38 : decode cX11_worlds 38 = .ok (.iaload, 1) := by decide +kernel
theorem dX11_worlds_39 : decode cX11_worlds 39 = .ok (.isub, 1) := by decide +kernel
theorem dX11_worlds_40 : decode cX11_worlds 40 = .ok (.iconst 1, 1) := by decide +kernel
theorem dX11_worlds_41 : decode cX11_worlds 41 = .ok (.iadd, 1) := by decide +kernel
theorem dX11_worlds_42 : decode cX11_worlds 42 = .ok (.i2l, 1) := by decide +kernel
theorem dX11_worlds_43 : decode cX11_worlds 43 = .ok (.lmul, 1) := by decide +kernel
theorem dX11_worlds_44 : decode cX11_worlds 44 = .ok (.lstore_n 2, 1) := by decide +kernel
theorem dX11_worlds_45 : decode cX11_worlds 45 = .ok (.iinc 4 1, 3) := by decide +kernel
theorem dX11_worlds_48 : decode cX11_worlds 48 = .ok (.goto (-40), 3) := by decide +kernel
theorem dX11_worlds_51 : decode cX11_worlds 51 = .ok (.lload_n 2, 1) := by decide +kernel
theorem dX11_worlds_52 : decode cX11_worlds 52 = .ok (.lreturn, 1) := by decide +kernel
theorem dX11_findClause_0 : decode cX11_findClause 0 = .ok (.iconst 0, 1) := by decide +kernel
theorem dX11_findClause_1 : decode cX11_findClause 1 = .ok (.istore_n 3, 1) := by decide +kernel
theorem dX11_findClause_2 : decode cX11_findClause 2 = .ok (.iconst 0, 1) := by decide +kernel
theorem dX11_findClause_3 : decode cX11_findClause 3 = .ok (.istore 4, 2) := by decide +kernel
theorem dX11_findClause_5 : decode cX11_findClause 5 = .ok (.aload_n 0, 1) := by decide +kernel
theorem dX11_findClause_6 : decode cX11_findClause 6 = .ok (.getfield 24, 3) := by decide +kernel
theorem dX11_findClause_9 : decode cX11_findClause 9 = .ok (.iload 4, 2) := by decide +kernel
theorem dX11_findClause_11 : decode cX11_findClause 11 = .ok (.iaload, 1) := by decide +kernel
theorem dX11_findClause_12 : decode cX11_findClause 12 = .ok (.ifCond .eq 69, 3) := by decide +kernel
theorem dX11_findClause_15 : decode cX11_findClause 15 = .ok (.aload_n 0, 1) := by decide +kernel
theorem dX11_findClause_16 : decode cX11_findClause 16 = .ok (.getfield 24, 3) := by decide +kernel
theorem dX11_findClause_19 : decode cX11_findClause 19 = .ok (.iload 4, 2) := by decide +kernel
theorem dX11_findClause_21 : decode cX11_findClause 21 = .ok (.iaload, 1) := by decide +kernel
theorem dX11_findClause_22 : decode cX11_findClause 22 = .ok (.iconst 1, 1) := by decide +kernel
theorem dX11_findClause_23 : decode cX11_findClause 23 = .ok (.if_icmp .ne 52, 3) := by decide +kernel
theorem dX11_findClause_26 : decode cX11_findClause 26 = .ok (.aload_n 0, 1) := by decide +kernel
theorem dX11_findClause_27 : decode cX11_findClause 27 = .ok (.getfield 30, 3) := by decide +kernel
theorem dX11_findClause_30 : decode cX11_findClause 30 = .ok (.iload 4, 2) := by decide +kernel
theorem dX11_findClause_32 : decode cX11_findClause 32 = .ok (.laload, 1) := by decide +kernel
theorem dX11_findClause_33 : decode cX11_findClause 33 = .ok (.aload_n 0, 1) := by decide +kernel
theorem dX11_findClause_34 : decode cX11_findClause 34 = .ok (.getfield 56, 3) := by decide +kernel
theorem dX11_findClause_37 : decode cX11_findClause 37 = .ok (.iconst 2, 1) := by decide +kernel
theorem dX11_findClause_38 : decode cX11_findClause 38 = .ok (.laload, 1) := by decide +kernel
theorem dX11_findClause_39 : decode cX11_findClause 39 = .ok (.lcmp, 1) := by decide +kernel
theorem dX11_findClause_40 : decode cX11_findClause 40 = .ok (.ifCond .ne 35, 3) := by decide +kernel
theorem dX11_findClause_43 : decode cX11_findClause 43 = .ok (.aload_n 0, 1) := by decide +kernel
theorem dX11_findClause_44 : decode cX11_findClause 44 = .ok (.getfield 24, 3) := by decide +kernel
theorem dX11_findClause_47 : decode cX11_findClause 47 = .ok (.iload 4, 2) := by decide +kernel
theorem dX11_findClause_49 : decode cX11_findClause 49 = .ok (.iconst 1, 1) := by decide +kernel
theorem dX11_findClause_50 : decode cX11_findClause 50 = .ok (.iadd, 1) := by decide +kernel
theorem dX11_findClause_51 : decode cX11_findClause 51 = .ok (.iaload, 1) := by decide +kernel
theorem dX11_findClause_52 : decode cX11_findClause 52 = .ok (.iconst 1, 1) := by decide +kernel
theorem dX11_findClause_53 : decode cX11_findClause 53 = .ok (.if_icmp .ne 19, 3) := by decide +kernel
theorem dX11_findClause_56 : decode cX11_findClause 56 = .ok (.aload_n 0, 1) := by decide +kernel
theorem dX11_findClause_57 : decode cX11_findClause 57 = .ok (.getfield 30, 3) := by decide +kernel
theorem dX11_findClause_60 : decode cX11_findClause 60 = .ok (.iload 4, 2) := by decide +kernel
theorem dX11_findClause_62 : decode cX11_findClause 62 = .ok (.iconst 1, 1) := by decide +kernel
theorem dX11_findClause_63 : decode cX11_findClause 63 = .ok (.iadd, 1) := by decide +kernel
theorem dX11_findClause_64 : decode cX11_findClause 64 = .ok (.laload, 1) := by decide +kernel
theorem dX11_findClause_65 : decode cX11_findClause 65 = .ok (.lload_n 1, 1) := by decide +kernel
theorem dX11_findClause_66 : decode cX11_findClause 66 = .ok (.lcmp, 1) := by decide +kernel
theorem dX11_findClause_67 : decode cX11_findClause 67 = .ok (.ifCond .ne 5, 3) := by decide +kernel
theorem dX11_findClause_70 : decode cX11_findClause 70 = .ok (.iload_n 3, 1) := by decide +kernel
theorem dX11_findClause_71 : decode cX11_findClause 71 = .ok (.ireturn, 1) := by decide +kernel
theorem dX11_findClause_72 : decode cX11_findClause 72 = .ok (.iinc 3 1, 3) := by decide +kernel
theorem dX11_findClause_75 : decode cX11_findClause 75 = .ok (.iinc 4 1, 3) := by decide +kernel
theorem dX11_findClause_78 : decode cX11_findClause 78 = .ok (.goto (-73), 3) := by decide +kernel
theorem dX11_findClause_81 : decode cX11_findClause 81 = .ok (.iconst (-1), 1) := by decide +kernel
theorem dX11_findClause_82 : decode cX11_findClause 82 = .ok (.ireturn, 1) := by decide +kernel
theorem dX11_takeClause_0 : decode cX11_takeClause 0 = .ok (.aload_n 0, 1) := by decide +kernel
theorem dX11_takeClause_1 : decode cX11_takeClause 1 = .ok (.invokevirtual 225, 3) := by decide +kernel
theorem dX11_takeClause_4 : decode cX11_takeClause 4 = .ok (.ifCond .eq 19, 3) := by decide +kernel
theorem dX11_takeClause_7 : decode cX11_takeClause 7 = .ok (.aload_n 0, 1) := by decide +kernel
theorem dX11_takeClause_8 : decode cX11_takeClause 8 = .ok (.aload_n 0, 1) := by decide +kernel
theorem dX11_takeClause_9 : decode cX11_takeClause 9 = .ok (.getfield 30, 3) := by decide +kernel
theorem dX11_takeClause_12 : decode cX11_takeClause 12 = .ok (.aload_n 0, 1) := by decide +kernel
theorem dX11_takeClause_13 : decode cX11_takeClause 13 = .ok (.getfield 185, 3) := by decide +kernel
theorem dX11_takeClause_16 : decode cX11_takeClause 16 = .ok (.laload, 1) := by decide +kernel
theorem dX11_takeClause_17 : decode cX11_takeClause 17 = .ok (.invokevirtual 251, 3) := by decide +kernel
theorem dX11_takeClause_20 : decode cX11_takeClause 20 = .ok (.goto 4, 3) := by decide +kernel
theorem dX11_takeClause_23 : decode cX11_takeClause 23 = .ok (.iconst (-1), 1) := by decide +kernel
theorem dX11_takeClause_24 : decode cX11_takeClause 24 = .ok (.istore_n 1, 1) := by decide +kernel
theorem dX11_takeClause_25 : decode cX11_takeClause 25 = .ok (.aload_n 0, 1) := by decide +kernel
theorem dX11_takeClause_26 : decode cX11_takeClause 26 = .ok (.invokevirtual 225, 3) := by decide +kernel
theorem dX11_takeClause_29 : decode cX11_takeClause 29 = .ok (.ifCond .ne 11, 3) := by decide +kernel
theorem dX11_takeClause_32 : decode cX11_takeClause 32 = .ok (.aload_n 0, 1) := by decide +kernel
theorem dX11_takeClause_33 : decode cX11_takeClause 33 = .ok (.iconst 1, 1) := by decide +kernel
theorem dX11_takeClause_34 : decode cX11_takeClause 34 = .ok (.invokevirtual 194, 3) := by decide +kernel
theorem dX11_takeClause_37 : decode cX11_takeClause 37 = .ok (.goto 12, 3) := by decide +kernel
theorem dX11_takeClause_40 : decode cX11_takeClause 40 = .ok (.iload_n 1, 1) := by decide +kernel
theorem dX11_takeClause_41 : decode cX11_takeClause 41 = .ok (.ifCond .ge 8, 3) := by decide +kernel
theorem dX11_takeClause_44 : decode cX11_takeClause 44 = .ok (.aload_n 0, 1) := by decide +kernel
theorem dX11_takeClause_45 : decode cX11_takeClause 45 = .ok (.iconst 2, 1) := by decide +kernel
theorem dX11_takeClause_46 : decode cX11_takeClause 46 = .ok (.invokevirtual 194, 3) := by decide +kernel
theorem dX11_takeClause_49 : decode cX11_takeClause 49 = .ok (.aload_n 0, 1) := by decide +kernel
theorem dX11_takeClause_50 : decode cX11_takeClause 50 = .ok (.dup, 1) := by decide +kernel
theorem dX11_takeClause_51 : decode cX11_takeClause 51 = .ok (.getfield 185, 3) := by decide +kernel
theorem dX11_takeClause_54 : decode cX11_takeClause 54 = .ok (.aload_n 0, 1) := by decide +kernel
theorem dX11_takeClause_55 : decode cX11_takeClause 55 = .ok (.getfield 188, 3) := by decide +kernel
theorem dX11_takeClause_58 : decode cX11_takeClause 58 = .ok (.ifCond .ne 7, 3) := by decide +kernel
theorem dX11_takeClause_61 : decode cX11_takeClause 61 = .ok (.iconst 1, 1) := by decide +kernel
theorem dX11_takeClause_62 : decode cX11_takeClause 62 = .ok (.goto 4, 3) := by decide +kernel
theorem dX11_takeClause_65 : decode cX11_takeClause 65 = .ok (.iconst 0, 1) := by decide +kernel
theorem dX11_takeClause_66 : decode cX11_takeClause 66 = .ok (.iadd, 1) := by decide +kernel
theorem dX11_takeClause_67 : decode cX11_takeClause 67 = .ok (.putfield 185, 3) := by decide +kernel
theorem dX11_takeClause_70 : decode cX11_takeClause 70 = .ok (.iload_n 1, 1) := by decide +kernel
theorem dX11_takeClause_71 : decode cX11_takeClause 71 = .ok (.ireturn, 1) := by decide +kernel
theorem dX11_clauseIs_0 : decode cX11_clauseIs 0 = .ok (.aload_n 0, 1) := by decide +kernel
theorem dX11_clauseIs_1 : decode cX11_clauseIs 1 = .ok (.getfield 74, 3) := by decide +kernel
theorem dX11_clauseIs_4 : decode cX11_clauseIs 4 = .ok (.bipush 6, 2) := by decide +kernel
theorem dX11_clauseIs_6 : decode cX11_clauseIs 6 = .ok (.iaload, 1) := by decide +kernel
theorem dX11_clauseIs_7 : decode cX11_clauseIs 7 = .ok (.istore_n 1, 1) := by decide +kernel
theorem dX11_clauseIs_8 : decode cX11_clauseIs 8 = .ok (.iload_n 1, 1) := by decide +kernel
theorem dX11_clauseIs_9 : decode cX11_clauseIs 9 = .ok (.bipush 12, 2) := by decide +kernel
theorem dX11_clauseIs_11 : decode cX11_clauseIs 11 = .ok (.if_icmp .ne 9, 3) := by decide +kernel
theorem dX11_clauseIs_14 : decode cX11_clauseIs 14 = .ok (.aload_n 0, 1) := by decide +kernel
theorem dX11_clauseIs_15 : decode cX11_clauseIs 15 = .ok (.iconst 5, 1) := by decide +kernel
theorem dX11_clauseIs_16 : decode cX11_clauseIs 16 = .ok (.invokevirtual 194, 3) := by decide +kernel
theorem dX11_clauseIs_19 : decode cX11_clauseIs 19 = .ok (.return_, 1) := by decide +kernel
theorem dX11_clauseIs_20 : decode cX11_clauseIs 20 = .ok (.aload_n 0, 1) := by decide +kernel
theorem dX11_clauseIs_21 : decode cX11_clauseIs 21 = .ok (.dup, 1) := by decide +kernel
theorem dX11_clauseIs_22 : decode cX11_clauseIs 22 = .ok (.getfield 185, 3) := by decide +kernel
theorem dX11_clauseIs_25 : decode cX11_clauseIs 25 = .ok (.iconst 1, 1) := by decide +kernel
theorem dX11_clauseIs_26 : decode cX11_clauseIs 26 = .ok (.iadd, 1) := by decide +kernel
theorem dX11_clauseIs_27 : decode cX11_clauseIs 27 = .ok (.putfield 185, 3) := by decide +kernel
theorem dX11_clauseIs_30 : decode cX11_clauseIs 30 = .ok (.bipush 72, 2) := by decide +kernel
theorem dX11_clauseIs_32 : decode cX11_clauseIs 32 = .ok (.iload_n 1, 1) := by decide +kernel
theorem dX11_clauseIs_33 : decode cX11_clauseIs 33 = .ok (.iadd, 1) := by decide +kernel
theorem dX11_clauseIs_34 : decode cX11_clauseIs 34 = .ok (.istore_n 2, 1) := by decide +kernel
theorem dX11_clauseIs_35 : decode cX11_clauseIs 35 = .ok (.aload_n 0, 1) := by decide +kernel
theorem dX11_clauseIs_36 : decode cX11_clauseIs 36 = .ok (.invokevirtual 225, 3) := by decide +kernel
theorem dX11_clauseIs_39 : decode cX11_clauseIs 39 = .ok (.ifCond .ne 11, 3) := by decide +kernel
theorem dX11_clauseIs_42 : decode cX11_clauseIs 42 = .ok (.aload_n 0, 1) := by decide +kernel
theorem dX11_clauseIs_43 : decode cX11_clauseIs 43 = .ok (.iconst 1, 1) := by decide +kernel
theorem dX11_clauseIs_44 : decode cX11_clauseIs 44 = .ok (.invokevirtual 194, 3) := by decide +kernel
theorem dX11_clauseIs_47 : decode cX11_clauseIs 47 = .ok (.goto 25, 3) := by decide +kernel
theorem dX11_clauseIs_50 : decode cX11_clauseIs 50 = .ok (.aload_n 0, 1) := by decide +kernel
theorem dX11_clauseIs_51 : decode cX11_clauseIs 51 = .ok (.aload_n 0, 1) := by decide +kernel
theorem dX11_clauseIs_52 : decode cX11_clauseIs 52 = .ok (.getfield 30, 3) := by decide +kernel
theorem dX11_clauseIs_55 : decode cX11_clauseIs 55 = .ok (.aload_n 0, 1) := by decide +kernel
theorem dX11_clauseIs_56 : decode cX11_clauseIs 56 = .ok (.getfield 185, 3) := by decide +kernel
theorem dX11_clauseIs_59 : decode cX11_clauseIs 59 = .ok (.laload, 1) := by decide +kernel
theorem dX11_clauseIs_60 : decode cX11_clauseIs 60 = .ok (.invokevirtual 251, 3) := by decide +kernel
theorem dX11_clauseIs_63 : decode cX11_clauseIs 63 = .ok (.iload_n 1, 1) := by decide +kernel
theorem dX11_clauseIs_64 : decode cX11_clauseIs 64 = .ok (.if_icmp .ge 8, 3) := by decide +kernel
theorem dX11_clauseIs_67 : decode cX11_clauseIs 67 = .ok (.aload_n 0, 1) := by decide +kernel
theorem dX11_clauseIs_68 : decode cX11_clauseIs 68 = .ok (.iconst 3, 1) := by decide +kernel
theorem dX11_clauseIs_69 : decode cX11_clauseIs 69 = .ok (.invokevirtual 194, 3) := by decide +kernel
theorem dX11_clauseIs_72 : decode cX11_clauseIs 72 = .ok (.aload_n 0, 1) := by decide +kernel
theorem dX11_clauseIs_73 : decode cX11_clauseIs 73 = .ok (.getfield 77, 3) := by decide +kernel
theorem dX11_clauseIs_76 : decode cX11_clauseIs 76 = .ok (.iload_n 2, 1) := by decide +kernel
theorem dX11_clauseIs_77 : decode cX11_clauseIs 77 = .ok (.aload_n 0, 1) := by decide +kernel
theorem dX11_clauseIs_78 : decode cX11_clauseIs 78 = .ok (.getfield 30, 3) := by decide +kernel
theorem dX11_clauseIs_81 : decode cX11_clauseIs 81 = .ok (.aload_n 0, 1) := by decide +kernel
theorem dX11_clauseIs_82 : decode cX11_clauseIs 82 = .ok (.getfield 185, 3) := by decide +kernel
theorem dX11_clauseIs_85 : decode cX11_clauseIs 85 = .ok (.laload, 1) := by decide +kernel
theorem dX11_clauseIs_86 : decode cX11_clauseIs 86 = .ok (.lastore, 1) := by decide +kernel
theorem dX11_clauseIs_87 : decode cX11_clauseIs 87 = .ok (.aload_n 0, 1) := by decide +kernel
theorem dX11_clauseIs_88 : decode cX11_clauseIs 88 = .ok (.dup, 1) := by decide +kernel
theorem dX11_clauseIs_89 : decode cX11_clauseIs 89 = .ok (.getfield 185, 3) := by decide +kernel
theorem dX11_clauseIs_92 : decode cX11_clauseIs 92 = .ok (.aload_n 0, 1) := by decide +kernel
theorem dX11_clauseIs_93 : decode cX11_clauseIs 93 = .ok (.getfield 188, 3) := by decide +kernel
theorem dX11_clauseIs_96 : decode cX11_clauseIs 96 = .ok (.ifCond .ne 7, 3) := by decide +kernel
theorem dX11_clauseIs_99 : decode cX11_clauseIs 99 = .ok (.iconst 1, 1) := by decide +kernel
theorem dX11_clauseIs_100 : decode cX11_clauseIs 100 = .ok (.goto 4, 3) := by decide +kernel
theorem dX11_clauseIs_103 : decode cX11_clauseIs 103 = .ok (.iconst 0, 1) := by decide +kernel
theorem dX11_clauseIs_104 : decode cX11_clauseIs 104 = .ok (.iadd, 1) := by decide +kernel
theorem dX11_clauseIs_105 : decode cX11_clauseIs 105 = .ok (.putfield 185, 3) := by decide +kernel
theorem dX11_clauseIs_108 : decode cX11_clauseIs 108 = .ok (.aload_n 0, 1) := by decide +kernel
theorem dX11_clauseIs_109 : decode cX11_clauseIs 109 = .ok (.iconst 3, 1) := by decide +kernel
theorem dX11_clauseIs_110 : decode cX11_clauseIs 110 = .ok (.invokevirtual 237, 3) := by decide +kernel
theorem dX11_clauseIs_113 : decode cX11_clauseIs 113 = .ok (.aload_n 0, 1) := by decide +kernel
theorem dX11_clauseIs_114 : decode cX11_clauseIs 114 = .ok (.getfield 80, 3) := by decide +kernel
theorem dX11_clauseIs_117 : decode cX11_clauseIs 117 = .ok (.iload_n 2, 1) := by decide +kernel
theorem dX11_clauseIs_118 : decode cX11_clauseIs 118 = .ok (.aload_n 0, 1) := by decide +kernel
theorem dX11_clauseIs_119 : decode cX11_clauseIs 119 = .ok (.iconst 0, 1) := by decide +kernel
theorem dX11_clauseIs_120 : decode cX11_clauseIs 120 = .ok (.bipush 99, 2) := by decide +kernel
theorem dX11_clauseIs_122 : decode cX11_clauseIs 122 = .ok (.invokevirtual 233, 3) := by decide +kernel
theorem dX11_clauseIs_125 : decode cX11_clauseIs 125 = .ok (.iastore, 1) := by decide +kernel
theorem dX11_clauseIs_126 : decode cX11_clauseIs 126 = .ok (.aload_n 0, 1) := by decide +kernel
theorem dX11_clauseIs_127 : decode cX11_clauseIs 127 = .ok (.getfield 83, 3) := by decide +kernel
theorem dX11_clauseIs_130 : decode cX11_clauseIs 130 = .ok (.iload_n 2, 1) := by decide +kernel
theorem dX11_clauseIs_131 : decode cX11_clauseIs 131 = .ok (.aload_n 0, 1) := by decide +kernel
theorem dX11_clauseIs_132 : decode cX11_clauseIs 132 = .ok (.iconst 4, 1) := by decide +kernel
theorem dX11_clauseIs_133 : decode cX11_clauseIs 133 = .ok (.invokevirtual 201, 3) := by decide +kernel
theorem dX11_clauseIs_136 : decode cX11_clauseIs 136 = .ok (.bastore, 1) := by decide +kernel
theorem dX11_clauseIs_137 : decode cX11_clauseIs 137 = .ok (.aload_n 0, 1) := by decide +kernel
theorem dX11_clauseIs_138 : decode cX11_clauseIs 138 = .ok (.iconst 5, 1) := by decide +kernel
theorem dX11_clauseIs_139 : decode cX11_clauseIs 139 = .ok (.invokevirtual 237, 3) := by decide +kernel
theorem dX11_clauseIs_142 : decode cX11_clauseIs 142 = .ok (.aload_n 0, 1) := by decide +kernel
theorem dX11_clauseIs_143 : decode cX11_clauseIs 143 = .ok (.getfield 87, 3) := by decide +kernel
theorem dX11_clauseIs_146 : decode cX11_clauseIs 146 = .ok (.iload_n 2, 1) := by decide +kernel
theorem dX11_clauseIs_147 : decode cX11_clauseIs 147 = .ok (.aload_n 0, 1) := by decide +kernel
theorem dX11_clauseIs_148 : decode cX11_clauseIs 148 = .ok (.getfield 204, 3) := by decide +kernel
theorem dX11_clauseIs_151 : decode cX11_clauseIs 151 = .ok (.iastore, 1) := by decide +kernel
theorem dX11_clauseIs_152 : decode cX11_clauseIs 152 = .ok (.aload_n 0, 1) := by decide +kernel
theorem dX11_clauseIs_153 : decode cX11_clauseIs 153 = .ok (.invokevirtual 254, 3) := by decide +kernel
theorem dX11_clauseIs_156 : decode cX11_clauseIs 156 = .ok (.aload_n 0, 1) := by decide +kernel
theorem dX11_clauseIs_157 : decode cX11_clauseIs 157 = .ok (.bipush 59, 2) := by decide +kernel
theorem dX11_clauseIs_159 : decode cX11_clauseIs 159 = .ok (.invokevirtual 248, 3) := by decide +kernel
theorem dX11_clauseIs_162 : decode cX11_clauseIs 162 = .ok (.aload_n 0, 1) := by decide +kernel
theorem dX11_clauseIs_163 : decode cX11_clauseIs 163 = .ok (.getfield 90, 3) := by decide +kernel
theorem dX11_clauseIs_166 : decode cX11_clauseIs 166 = .ok (.iload_n 2, 1) := by decide +kernel
theorem dX11_clauseIs_167 : decode cX11_clauseIs 167 = .ok (.iconst 0, 1) := by decide +kernel
theorem dX11_clauseIs_168 : decode cX11_clauseIs 168 = .ok (.iastore, 1) := by decide +kernel
theorem dX11_clauseIs_169 : decode cX11_clauseIs 169 = .ok (.aload_n 0, 1) := by decide +kernel
theorem dX11_clauseIs_170 : decode cX11_clauseIs 170 = .ok (.bipush 6, 2) := by decide +kernel
theorem dX11_clauseIs_172 : decode cX11_clauseIs 172 = .ok (.invokevirtual 198, 3) := by decide +kernel
theorem dX11_clauseIs_175 : decode cX11_clauseIs 175 = .ok (.ifCond .eq 12, 3) := by decide +kernel
theorem dX11_clauseIs_178 : decode cX11_clauseIs 178 = .ok (.aload_n 0, 1) := by decide +kernel
theorem dX11_clauseIs_179 : decode cX11_clauseIs 179 = .ok (.iload_n 2, 1) := by decide +kernel
theorem dX11_clauseIs_180 : decode cX11_clauseIs 180 = .ok (.iconst 0, 1) := by decide +kernel
theorem dX11_clauseIs_181 : decode cX11_clauseIs 181 = .ok (.invokevirtual 257, 3) := by decide +kernel
theorem dX11_clauseIs_184 : decode cX11_clauseIs 184 = .ok (.goto (-15), 3) := by decide +kernel
theorem dX11_clauseIs_187 : decode cX11_clauseIs 187 = .ok (.aload_n 0, 1) := by decide +kernel
theorem dX11_clauseIs_188 : decode cX11_clauseIs 188 = .ok (.bipush 7, 2) := by decide +kernel
theorem dX11_clauseIs_190 : decode cX11_clauseIs 190 = .ok (.invokevirtual 198, 3) := by decide +kernel
theorem dX11_clauseIs_193 : decode cX11_clauseIs 193 = .ok (.ifCond .eq 12, 3) := by decide +kernel
theorem dX11_clauseIs_196 : decode cX11_clauseIs 196 = .ok (.aload_n 0, 1) := by decide +kernel
theorem dX11_clauseIs_197 : decode cX11_clauseIs 197 = .ok (.iload_n 2, 1) := by decide +kernel
theorem dX11_clauseIs_198 : decode cX11_clauseIs 198 = .ok (.iconst 1, 1) := by decide +kernel
theorem dX11_clauseIs_199 : decode cX11_clauseIs 199 = .ok (.invokevirtual 257, 3) := by decide +kernel
theorem dX11_clauseIs_202 : decode cX11_clauseIs 202 = .ok (.goto (-15), 3) := by decide +kernel
theorem dX11_clauseIs_205 : decode cX11_clauseIs 205 = .ok (.aload_n 0, 1) := by decide +kernel
theorem dX11_clauseIs_206 : decode cX11_clauseIs 206 = .ok (.bipush 8, 2) := by decide +kernel
theorem dX11_clauseIs_208 : decode cX11_clauseIs 208 = .ok (.invokevirtual 237, 3) := by decide +kernel
theorem dX11_clauseIs_211 : decode cX11_clauseIs 211 = .ok (.aload_n 0, 1) := by decide +kernel
theorem dX11_clauseIs_212 : decode cX11_clauseIs 212 = .ok (.getfield 99, 3) := by decide +kernel
theorem dX11_clauseIs_215 : decode cX11_clauseIs 215 = .ok (.iload_n 2, 1) := by decide +kernel
theorem dX11_clauseIs_216 : decode cX11_clauseIs 216 = .ok (.iconst 0, 1) := by decide +kernel
theorem dX11_clauseIs_217 : decode cX11_clauseIs 217 = .ok (.iastore, 1) := by decide +kernel
theorem dX11_clauseIs_218 : decode cX11_clauseIs 218 = .ok (.aload_n 0, 1) := by decide +kernel
theorem dX11_clauseIs_219 : decode cX11_clauseIs 219 = .ok (.invokevirtual 261, 3) := by decide +kernel
theorem dX11_clauseIs_222 : decode cX11_clauseIs 222 = .ok (.ifCond .eq 11, 3) := by decide +kernel
theorem dX11_clauseIs_225 : decode cX11_clauseIs 225 = .ok (.aload_n 0, 1) := by decide +kernel
theorem dX11_clauseIs_226 : decode cX11_clauseIs 226 = .ok (.iload_n 2, 1) := by decide +kernel
theorem dX11_clauseIs_227 : decode cX11_clauseIs 227 = .ok (.invokevirtual 264, 3) := by decide +kernel
theorem dX11_clauseIs_230 : decode cX11_clauseIs 230 = .ok (.goto (-12), 3) := by decide +kernel
theorem dX11_clauseIs_233 : decode cX11_clauseIs 233 = .ok (.aload_n 0, 1) := by decide +kernel
theorem dX11_clauseIs_234 : decode cX11_clauseIs 234 = .ok (.bipush 59, 2) := by decide +kernel
theorem dX11_clauseIs_236 : decode cX11_clauseIs 236 = .ok (.invokevirtual 248, 3) := by decide +kernel
theorem dX11_clauseIs_239 : decode cX11_clauseIs 239 = .ok (.aload_n 0, 1) := by decide +kernel
theorem dX11_clauseIs_240 : decode cX11_clauseIs 240 = .ok (.getfield 74, 3) := by decide +kernel
theorem dX11_clauseIs_243 : decode cX11_clauseIs 243 = .ok (.bipush 6, 2) := by decide +kernel
theorem dX11_clauseIs_245 : decode cX11_clauseIs 245 = .ok (.dup2, 1) := by decide +kernel
theorem dX11_clauseIs_246 : decode cX11_clauseIs 246 = .ok (.iaload, 1) := by decide +kernel
theorem dX11_clauseIs_247 : decode cX11_clauseIs 247 = .ok (.iconst 1, 1) := by decide +kernel
theorem dX11_clauseIs_248 : decode cX11_clauseIs 248 = .ok (.iadd, 1) := by decide +kernel
theorem dX11_clauseIs_249 : decode cX11_clauseIs 249 = .ok (.iastore, 1) := by decide +kernel
theorem dX11_clauseIs_250 : decode cX11_clauseIs 250 = .ok (.return_, 1) := by decide +kernel
theorem dX11_link_0 : decode cX11_link 0 = .ok (.aload_n 0, 1) := by decide +kernel
theorem dX11_link_1 : decode cX11_link 1 = .ok (.getfield 90, 3) := by decide +kernel
theorem dX11_link_4 : decode cX11_link 4 = .ok (.iload_n 1, 1) := by decide +kernel
theorem dX11_link_5 : decode cX11_link 5 = .ok (.iaload, 1) := by decide +kernel
theorem dX11_link_6 : decode cX11_link 6 = .ok (.bipush 8, 2) := by decide +kernel
theorem dX11_link_8 : decode cX11_link 8 = .ok (.if_icmp .ne 9, 3) := by decide +kernel
theorem dX11_link_11 : decode cX11_link 11 = .ok (.aload_n 0, 1) := by decide +kernel
theorem dX11_link_12 : decode cX11_link 12 = .ok (.iconst 5, 1) := by decide +kernel
theorem dX11_link_13 : decode cX11_link 13 = .ok (.invokevirtual 194, 3) := by decide +kernel
theorem dX11_link_16 : decode cX11_link 16 = .ok (.return_, 1) := by decide +kernel
theorem dX11_link_17 : decode cX11_link 17 = .ok (.aload_n 0, 1) := by decide +kernel
theorem dX11_link_18 : decode cX11_link 18 = .ok (.dup, 1) := by decide +kernel
theorem dX11_link_19 : decode cX11_link 19 = .ok (.getfield 185, 3) := by decide +kernel
theorem dX11_link_22 : decode cX11_link 22 = .ok (.iconst 1, 1) := by decide +kernel
theorem dX11_link_23 : decode cX11_link 23 = .ok (.iadd, 1) := by decide +kernel
theorem dX11_link_24 : decode cX11_link 24 = .ok (.putfield 185, 3) := by decide +kernel
theorem dX11_link_27 : decode cX11_link 27 = .ok (.aload_n 0, 1) := by decide +kernel
theorem dX11_link_28 : decode cX11_link 28 = .ok (.getfield 96, 3) := by decide +kernel
theorem dX11_link_31 : decode cX11_link 31 = .ok (.bipush 8, 2) := by decide +kernel
theorem dX11_link_33 : decode cX11_link 33 = .ok (.iload_n 1, 1) := by decide +kernel
theorem dX11_link_34 : decode cX11_link 34 = .ok (.imul, 1) := by decide +kernel
theorem dX11_link_35 : decode cX11_link 35 = .ok (.aload_n 0, 1) := by decide +kernel
theorem dX11_link_36 : decode cX11_link 36 = .ok (.getfield 90, 3) := by decide +kernel
theorem dX11_link_39 : decode cX11_link 39 = .ok (.iload_n 1, 1) := by decide +kernel
