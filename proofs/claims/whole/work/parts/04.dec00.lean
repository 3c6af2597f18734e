theorem dX0_init_0 : decode cX0_init 0 = .ok (.aload_n 0, 1) := by decide +kernel
theorem dX0_init_1 : decode cX0_init 1 = .ok (.invokespecial 3, 3) := by decide +kernel
theorem dX0_init_4 : decode cX0_init 4 = .ok (.aload_n 0, 1) := by decide +kernel
theorem dX0_init_5 : decode cX0_init 5 = .ok (.bipush 40, 2) := by decide +kernel
theorem dX0_init_7 : decode cX0_init 7 = .ok (.newarray .int, 2) := by decide +kernel
theorem dX0_init_9 : decode cX0_init 9 = .ok (.putfield 9, 3) := by decide +kernel
theorem dX0_init_12 : decode cX0_init 12 = .ok (.return_, 1) := by decide +kernel
theorem dX0_addFree_0 : decode cX0_addFree 0 = .ok (.aload_n 0, 1) := by decide +kernel
theorem dX0_addFree_1 : decode cX0_addFree 1 = .ok (.iload_n 1, 1) := by decide +kernel
theorem dX0_addFree_2 : decode cX0_addFree 2 = .ok (.invokevirtual 15, 3) := by decide +kernel
theorem dX0_addFree_5 : decode cX0_addFree 5 = .ok (.istore_n 2, 1) := by decide +kernel
theorem dX0_addFree_6 : decode cX0_addFree 6 = .ok (.aload_n 0, 1) := by decide +kernel
theorem dX0_addFree_7 : decode cX0_addFree 7 = .ok (.getfield 19, 3) := by decide +kernel
theorem dX0_addFree_10 : decode cX0_addFree 10 = .ok (.bipush 40, 2) := by decide +kernel
theorem dX0_addFree_12 : decode cX0_addFree 12 = .ok (.if_icmp .ge 21, 3) := by decide +kernel
theorem dX0_addFree_15 : decode cX0_addFree 15 = .ok (.iload_n 2, 1) := by decide +kernel
theorem dX0_addFree_16 : decode cX0_addFree 16 = .ok (.aload_n 0, 1) := by decide +kernel
theorem dX0_addFree_17 : decode cX0_addFree 17 = .ok (.getfield 19, 3) := by decide +kernel
theorem dX0_addFree_20 : decode cX0_addFree 20 = .ok (.if_icmp .ge 15, 3) := by decide +kernel
theorem dX0_addFree_23 : decode cX0_addFree 23 = .ok (.aload_n 0, 1) := by decide +kernel
theorem dX0_addFree_24 : decode cX0_addFree 24 = .ok (.getfield 9, 3) := by decide +kernel
theorem dX0_addFree_27 : decode cX0_addFree 27 = .ok (.iload_n 2, 1) := by decide +kernel
theorem dX0_addFree_28 : decode cX0_addFree 28 = .ok (.iaload, 1) := by decide +kernel
theorem dX0_addFree_29 : decode cX0_addFree 29 = .ok (.iload_n 1, 1) := by decide +kernel
theorem dX0_addFree_30 : decode cX0_addFree 30 = .ok (.if_icmp .ne 5, 3) := by decide +kernel
theorem dX0_addFree_33 : decode cX0_addFree 33 = .ok (.iconst 0, 1) := by decide +kernel
theorem dX0_addFree_34 : decode cX0_addFree 34 = .ok (.ireturn, 1) := by decide +kernel
theorem dX0_addFree_35 : decode cX0_addFree 35 = .ok (.aload_n 0, 1) := by decide +kernel
theorem dX0_addFree_36 : decode cX0_addFree 36 = .ok (.getfield 19, 3) := by decide +kernel
theorem dX0_addFree_39 : decode cX0_addFree 39 = .ok (.istore_n 3, 1) := by decide +kernel
theorem dX0_addFree_40 : decode cX0_addFree 40 = .ok (.iload_n 3, 1) := by decide +kernel
theorem dX0_addFree_41 : decode cX0_addFree 41 = .ok (.iload_n 2, 1) := by decide +kernel
theorem dX0_addFree_42 : decode cX0_addFree 42 = .ok (.if_icmp .le 23, 3) := by decide +kernel
theorem dX0_addFree_45 : decode cX0_addFree 45 = .ok (.aload_n 0, 1) := by decide +kernel
theorem dX0_addFree_46 : decode cX0_addFree 46 = .ok (.getfield 9, 3) := by decide +kernel
theorem dX0_addFree_49 : decode cX0_addFree 49 = .ok (.iload_n 3, 1) := by decide +kernel
theorem dX0_addFree_50 : decode cX0_addFree 50 = .ok (.aload_n 0, 1) := by decide +kernel
theorem dX0_addFree_51 : decode cX0_addFree 51 = .ok (.getfield 9, 3) := by decide +kernel
theorem dX0_addFree_54 : decode cX0_addFree 54 = .ok (.iload_n 3, 1) := by decide +kernel
theorem dX0_addFree_55 : decode cX0_addFree 55 = .ok (.iconst 1, 1) := by decide +kernel
theorem dX0_addFree_56 : decode cX0_addFree 56 = .ok (.isub, 1) := by decide +kernel
theorem dX0_addFree_57 : decode cX0_addFree 57 = .ok (.iaload, 1) := by decide +kernel
theorem dX0_addFree_58 : decode cX0_addFree 58 = .ok (.iastore, 1) := by decide +kernel
theorem dX0_addFree_59 : decode cX0_addFree 59 = .ok (.iinc 3 (-1), 3) := by decide +kernel
theorem dX0_addFree_62 : decode cX0_addFree 62 = .ok (.goto (-22), 3) := by decide +kernel
theorem dX0_addFree_65 : decode cX0_addFree 65 = .ok (.aload_n 0, 1) := by decide +kernel
theorem dX0_addFree_66 : decode cX0_addFree 66 = .ok (.getfield 9, 3) := by decide +kernel
theorem dX0_addFree_69 : decode cX0_addFree 69 = .ok (.iload_n 2, 1) := by decide +kernel
theorem dX0_addFree_70 : decode cX0_addFree 70 = .ok (.iload_n 1, 1) := by decide +kernel
theorem dX0_addFree_71 : decode cX0_addFree 71 = .ok (.iastore, 1) := by decide +kernel
theorem dX0_addFree_72 : decode cX0_addFree 72 = .ok (.aload_n 0, 1) := by decide +kernel
theorem dX0_addFree_73 : decode cX0_addFree 73 = .ok (.dup, 1) := by decide +kernel
theorem dX0_addFree_74 : decode cX0_addFree 74 = .ok (.getfield 19, 3) := by decide +kernel
theorem dX0_addFree_77 : decode cX0_addFree 77 = .ok (.iconst 1, 1) := by decide +kernel
theorem dX0_addFree_78 : decode cX0_addFree 78 = .ok (.iadd, 1) := by decide +kernel
theorem dX0_addFree_79 : decode cX0_addFree 79 = .ok (.putfield 19, 3) := by decide +kernel
theorem dX0_addFree_82 : decode cX0_addFree 82 = .ok (.iconst 1, 1) := by decide +kernel
theorem dX0_addFree_83 : decode cX0_addFree 83 = .ok (.ireturn, 1) := by decide +kernel
theorem dX0_removeFree_0 : decode cX0_removeFree 0 = .ok (.aload_n 0, 1) := by decide +kernel
theorem dX0_removeFree_1 : decode cX0_removeFree 1 = .ok (.iload_n 1, 1) := by decide +kernel
theorem dX0_removeFree_2 : decode cX0_removeFree 2 = .ok (.invokevirtual 15, 3) := by decide +kernel
theorem dX0_removeFree_5 : decode cX0_removeFree 5 = .ok (.istore_n 2, 1) := by decide +kernel
theorem dX0_removeFree_6 : decode cX0_removeFree 6 = .ok (.iload_n 2, 1) := by decide +kernel
theorem dX0_removeFree_7 : decode cX0_removeFree 7 = .ok (.aload_n 0, 1) := by decide +kernel
theorem dX0_removeFree_8 : decode cX0_removeFree 8 = .ok (.getfield 19, 3) := by decide +kernel
theorem dX0_removeFree_11 : decode cX0_removeFree 11 = .ok (.if_icmp .ge 13, 3) := by decide +kernel
theorem dX0_removeFree_14 : decode cX0_removeFree 14 = .ok (.aload_n 0, 1) := by decide +kernel
theorem dX0_removeFree_15 : decode cX0_removeFree 15 = .ok (.getfield 9, 3) := by decide +kernel
theorem dX0_removeFree_18 : decode cX0_removeFree 18 = .ok (.iload_n 2, 1) := by decide +kernel
theorem dX0_removeFree_19 : decode cX0_removeFree 19 = .ok (.iaload, 1) := by decide +kernel
theorem dX0_removeFree_20 : decode cX0_removeFree 20 = .ok (.iload_n 1, 1) := by decide +kernel
theorem dX0_removeFree_21 : decode cX0_removeFree 21 = .ok (.if_icmp .eq 5, 3) := by decide +kernel
theorem dX0_removeFree_24 : decode cX0_removeFree 24 = .ok (.iconst 0, 1) := by decide +kernel
theorem dX0_removeFree_25 : decode cX0_removeFree 25 = .ok (.ireturn, 1) := by decide +kernel
theorem dX0_removeFree_26 : decode cX0_removeFree 26 = .ok (.iload_n 2, 1) := by decide +kernel
theorem dX0_removeFree_27 : decode cX0_removeFree 27 = .ok (.iconst 1, 1) := by decide +kernel
theorem dX0_removeFree_28 : decode cX0_removeFree 28 = .ok (.iadd, 1) := by decide +kernel
theorem dX0_removeFree_29 : decode cX0_removeFree 29 = .ok (.istore_n 3, 1) := by decide +kernel
theorem dX0_removeFree_30 : decode cX0_removeFree 30 = .ok (.iload_n 3, 1) := by decide +kernel
theorem dX0_removeFree_31 : decode cX0_removeFree 31 = .ok (.aload_n 0, 1) := by decide +kernel
theorem dX0_removeFree_32 : decode cX0_removeFree 32 = .ok (.getfield 19, 3) := by decide +kernel
theorem dX0_removeFree_35 : decode cX0_removeFree 35 = .ok (.if_icmp .ge 23, 3) := by decide +kernel
theorem dX0_removeFree_38 : decode cX0_removeFree 38 = .ok (.aload_n 0, 1) := by decide +kernel
theorem dX0_removeFree_39 : decode cX0_removeFree 39 = .ok (.getfield 9, 3) := by decide +kernel
theorem dX0_removeFree_42 : decode cX0_removeFree 42 = .ok (.iload_n 3, 1) := by decide +kernel
theorem dX0_removeFree_43 : decode cX0_removeFree 43 = .ok (.iconst 1, 1) := by decide +kernel
theorem dX0_removeFree_44 : decode cX0_removeFree 44 = .ok (.isub, 1) := by decide +kernel
theorem dX0_removeFree_45 : decode cX0_removeFree 45 = .ok (.aload_n 0, 1) := by decide +kernel
theorem dX0_removeFree_46 : decode cX0_removeFree 46 = .ok (.getfield 9, 3) := by decide +kernel
theorem dX0_removeFree_49 : decode cX0_removeFree 49 = .ok (.iload_n 3, 1) := by decide +kernel
theorem dX0_removeFree_50 : decode cX0_removeFree 50 = .ok (.iaload, 1) := by decide +kernel
theorem dX0_removeFree_51 : decode cX0_removeFree 51 = .ok (.iastore, 1) := by decide +kernel
theorem dX0_removeFree_52 : decode cX0_removeFree 52 = .ok (.iinc 3 1, 3) := by decide +kernel
theorem dX0_removeFree_55 : decode cX0_removeFree 55 = .ok (.goto (-25), 3) := by decide +kernel
theorem dX0_removeFree_58 : decode cX0_removeFree 58 = .ok (.aload_n 0, 1) := by decide +kernel
theorem dX0_removeFree_59 : decode cX0_removeFree 59 = .ok (.dup, 1) := by decide +kernel
theorem dX0_removeFree_60 : decode cX0_removeFree 60 = .ok (.getfield 19, 3) := by decide +kernel
theorem dX0_removeFree_63 : decode cX0_removeFree 63 = .ok (.iconst 1, 1) := by decide +kernel
theorem dX0_removeFree_64 : decode cX0_removeFree 64 = .ok (.isub, 1) := by decide +kernel
theorem dX0_removeFree_65 : decode cX0_removeFree 65 = .ok (.putfield 19, 3) := by decide +kernel
theorem dX0_removeFree_68 : decode cX0_removeFree 68 = .ok (.iconst 1, 1) := by decide +kernel
theorem dX0_removeFree_69 : decode cX0_removeFree 69 = .ok (.ireturn, 1) := by decide +kernel
theorem dX0_workingDays_0 : decode cX0_workingDays 0 = .ok (.iload_n 2, 1) := by decide +kernel
theorem dX0_workingDays_1 : decode cX0_workingDays 1 = .ok (.invokestatic 23, 3) := by decide +kernel
theorem dX0_workingDays_4 : decode cX0_workingDays 4 = .ok (.iload_n 1, 1) := by decide +kernel
theorem dX0_workingDays_5 : decode cX0_workingDays 5 = .ok (.invokestatic 23, 3) := by decide +kernel
theorem dX0_workingDays_8 : decode cX0_workingDays 8 = .ok (.isub, 1) := by decide +kernel
theorem dX0_workingDays_9 : decode cX0_workingDays 9 = .ok (.istore_n 3, 1) := by decide +kernel
theorem dX0_workingDays_10 : decode cX0_workingDays 10 = .ok (.iconst 0, 1) := by decide +kernel
theorem dX0_workingDays_11 : decode cX0_workingDays 11 = .ok (.istore 4, 2) := by decide +kernel
theorem dX0_workingDays_13 : decode cX0_workingDays 13 = .ok (.iload 4, 2) := by decide +kernel
theorem dX0_workingDays_15 : decode cX0_workingDays 15 = .ok (.aload_n 0, 1) := by decide +kernel
theorem dX0_workingDays_16 : decode cX0_workingDays 16 = .ok (.getfield 19, 3) := by decide +kernel
theorem dX0_workingDays_19 : decode cX0_workingDays 19 = .ok (.if_icmp .ge 47, 3) := by decide +kernel
theorem dX0_workingDays_22 : decode cX0_workingDays 22 = .ok (.aload_n 0, 1) := by decide +kernel
theorem dX0_workingDays_23 : decode cX0_workingDays 23 = .ok (.getfield 9, 3) := by decide +kernel
theorem dX0_workingDays_26 : decode cX0_workingDays 26 = .ok (.iload 4, 2) := by decide +kernel
theorem dX0_workingDays_28 : decode cX0_workingDays 28 = .ok (.iaload, 1) := by decide +kernel
theorem dX0_workingDays_29 : decode cX0_workingDays 29 = .ok (.iload_n 1, 1) := by decide +kernel
theorem dX0_workingDays_30 : decode cX0_workingDays 30 = .ok (.if_icmp .le 30, 3) := by decide +kernel
theorem dX0_workingDays_33 : decode cX0_workingDays 33 = .ok (.aload_n 0, 1) := by decide +kernel
theorem dX0_workingDays_34 : decode cX0_workingDays 34 = .ok (.getfield 9, 3) := by decide +kernel
theorem dX0_workingDays_37 : decode cX0_workingDays 37 = .ok (.iload 4, 2) := by decide +kernel
theorem dX0_workingDays_39 : decode cX0_workingDays 39 = .ok (.iaload, 1) := by decide +kernel
theorem dX0_workingDays_40 : decode cX0_workingDays 40 = .ok (.iload_n 2, 1) := by decide +kernel
theorem dX0_workingDays_41 : decode cX0_workingDays 41 = .ok (.if_icmp .gt 19, 3) := by decide +kernel
theorem dX0_workingDays_44 : decode cX0_workingDays 44 = .ok (.aload_n 0, 1) := by decide +kernel
theorem dX0_workingDays_45 : decode cX0_workingDays 45 = .ok (.getfield 9, 3) := by decide +kernel
theorem dX0_workingDays_48 : decode cX0_workingDays 48 = .ok (.iload 4, 2) := by decide +kernel
theorem dX0_workingDays_50 : decode cX0_workingDays 50 = .ok (.iaload, 1) := by decide +kernel
theorem dX0_workingDays_51 : decode cX0_workingDays 51 = .ok (.invokestatic 26, 3) := by decide +kernel
theorem dX0_workingDays_54 : decode cX0_workingDays 54 = .ok (.ifCond .eq 6, 3) := by decide +kernel
theorem dX0_workingDays_57 : decode cX0_workingDays 57 = .ok (.iinc 3 (-1), 3) := by decide +kernel
theorem dX0_workingDays_60 : decode cX0_workingDays 60 = .ok (.iinc 4 1, 3) := by decide +kernel
theorem dX0_workingDays_63 : decode cX0_workingDays 63 = .ok (.goto (-50), 3) := by decide +kernel
theorem dX0_workingDays_66 : decode cX0_workingDays 66 = .ok (.iload_n 3, 1) := by decide +kernel
theorem dX0_workingDays_67 : decode cX0_workingDays 67 = .ok (.ireturn, 1) := by decide +kernel
theorem dX0_dueDay_0 : decode cX0_dueDay 0 = .ok (.iload_n 2, 1) := by decide +kernel
theorem dX0_dueDay_1 : decode cX0_dueDay 1 = .ok (.iconst 1, 1) := by decide +kernel
theorem dX0_dueDay_2 : decode cX0_dueDay 2 = .ok (.if_icmp .ge 5, 3) := by decide +kernel
theorem dX0_dueDay_5 : decode cX0_dueDay 5 = .ok (.iload_n 1, 1) := by decide +kernel
theorem dX0_dueDay_6 : decode cX0_dueDay 6 = .ok (.ireturn, 1) := by decide +kernel
theorem dX0_dueDay_7 : decode cX0_dueDay 7 = .ok (.iload_n 1, 1) := by decide +kernel
theorem dX0_dueDay_8 : decode cX0_dueDay 8 = .ok (.invokestatic 23, 3) := by decide +kernel
theorem dX0_dueDay_11 : decode cX0_dueDay 11 = .ok (.iload_n 2, 1) := by decide +kernel
theorem dX0_dueDay_12 : decode cX0_dueDay 12 = .ok (.iadd, 1) := by decide +kernel
theorem dX0_dueDay_13 : decode cX0_dueDay 13 = .ok (.istore_n 3, 1) := by decide +kernel
theorem dX0_dueDay_14 : decode cX0_dueDay 14 = .ok (.iconst 0, 1) := by decide +kernel
theorem dX0_dueDay_15 : decode cX0_dueDay 15 = .ok (.istore 4, 2) := by decide +kernel
theorem dX0_dueDay_17 : decode cX0_dueDay 17 = .ok (.iload 4, 2) := by decide +kernel
theorem dX0_dueDay_19 : decode cX0_dueDay 19 = .ok (.aload_n 0, 1) := by decide +kernel
theorem dX0_dueDay_20 : decode cX0_dueDay 20 = .ok (.getfield 19, 3) := by decide +kernel
theorem dX0_dueDay_23 : decode cX0_dueDay 23 = .ok (.if_icmp .ge 50, 3) := by decide +kernel
theorem dX0_dueDay_26 : decode cX0_dueDay 26 = .ok (.aload_n 0, 1) := by decide +kernel
theorem dX0_dueDay_27 : decode cX0_dueDay 27 = .ok (.getfield 9, 3) := by decide +kernel
theorem dX0_dueDay_30 : decode cX0_dueDay 30 = .ok (.iload 4, 2) := by decide +kernel
theorem dX0_dueDay_32 : decode cX0_dueDay 32 = .ok (.iaload, 1) := by decide +kernel
theorem dX0_dueDay_33 : decode cX0_dueDay 33 = .ok (.invokestatic 23, 3) := by decide +kernel
theorem dX0_dueDay_36 : decode cX0_dueDay 36 = .ok (.iload_n 3, 1) := by decide +kernel
theorem dX0_dueDay_37 : decode cX0_dueDay 37 = .ok (.if_icmp .gt 36, 3) := by decide +kernel
theorem dX0_dueDay_40 : decode cX0_dueDay 40 = .ok (.aload_n 0, 1) := by decide +kernel
theorem dX0_dueDay_41 : decode cX0_dueDay 41 = .ok (.getfield 9, 3) := by decide +kernel
theorem dX0_dueDay_44 : decode cX0_dueDay 44 = .ok (.iload 4, 2) := by decide +kernel
theorem dX0_dueDay_46 : decode cX0_dueDay 46 = .ok (.iaload, 1) := by decide +kernel
theorem dX0_dueDay_47 : decode cX0_dueDay 47 = .ok (.iload_n 1, 1) := by decide +kernel
theorem dX0_dueDay_48 : decode cX0_dueDay 48 = .ok (.if_icmp .le 19, 3) := by decide +kernel
theorem dX0_dueDay_51 : decode cX0_dueDay 51 = .ok (.aload_n 0, 1) := by decide +kernel
theorem dX0_dueDay_52 : decode cX0_dueDay 52 = .ok (.getfield 9, 3) := by decide +kernel
theorem dX0_dueDay_55 : decode cX0_dueDay 55 = .ok (.iload 4, 2) := by decide +kernel
theorem dX0_dueDay_57 : decode cX0_dueDay 57 = .ok (.iaload, 1) := by decide +kernel
theorem dX0_dueDay_58 : decode cX0_dueDay 58 = .ok (.invokestatic 26, 3) := by decide +kernel
theorem dX0_dueDay_61 : decode cX0_dueDay 61 = .ok (.ifCond .eq 6, 3) := by decide +kernel
theorem dX0_dueDay_64 : decode cX0_dueDay 64 = .ok (.iinc 3 1, 3) := by decide +kernel
theorem dX0_dueDay_67 : decode cX0_dueDay 67 = .ok (.iinc 4 1, 3) := by decide +kernel
theorem dX0_dueDay_70 : decode cX0_dueDay 70 = .ok (.goto (-53), 3) := by decide +kernel
theorem dX0_dueDay_73 : decode cX0_dueDay 73 = .ok (.iload_n 3, 1) := by decide +kernel
theorem dX0_dueDay_74 : decode cX0_dueDay 74 = .ok (.iconst 1, 1) := by decide +kernel
theorem dX0_dueDay_75 : decode cX0_dueDay 75 = .ok (.isub, 1) := by decide +kernel
theorem dX0_dueDay_76 : decode cX0_dueDay 76 = .ok (.iconst 5, 1) := by decide +kernel
theorem dX0_dueDay_77 : decode cX0_dueDay 77 = .ok (.idiv, 1) := by decide +kernel
theorem dX0_dueDay_78 : decode cX0_dueDay 78 = .ok (.bipush 7, 2) := by decide +kernel
theorem dX0_dueDay_80 : decode cX0_dueDay 80 = .ok (.imul, 1) := by decide +kernel
theorem dX0_dueDay_81 : decode cX0_dueDay 81 = .ok (.iload_n 3, 1) := by decide +kernel
theorem dX0_dueDay_82 : decode cX0_dueDay 82 = .ok (.iconst 1, 1) := by decide +kernel
theorem dX0_dueDay_83 : decode cX0_dueDay 83 = .ok (.isub, 1) := by decide +kernel
theorem dX0_dueDay_84 : decode cX0_dueDay 84 = .ok (.iconst 5, 1) := by decide +kernel
theorem dX0_dueDay_85 : decode cX0_dueDay 85 = .ok (.irem, 1) := by decide +kernel
theorem dX0_dueDay_86 : decode cX0_dueDay 86 = .ok (.iadd, 1) := by decide +kernel
theorem dX0_dueDay_87 : decode cX0_dueDay 87 = .ok (.istore 4, 2) := by decide +kernel
theorem dX0_dueDay_89 : decode cX0_dueDay 89 = .ok (.iload 4, 2) := by decide +kernel
theorem dX0_dueDay_91 : decode cX0_dueDay 91 = .ok (.sipush 9999, 3) := by decide +kernel
theorem dX0_dueDay_94 : decode cX0_dueDay 94 = .ok (.invokestatic 30, 3) := by decide +kernel
theorem dX0_dueDay_97 : decode cX0_dueDay 97 = .ok (.ireturn, 1) := by decide +kernel
theorem dX0_firstNotBelow_0 : decode cX0_firstNotBelow 0 = .ok (.iconst 0, 1) := by decide +kernel
theorem dX0_firstNotBelow_1 : decode cX0_firstNotBelow 1 = .ok (.istore_n 2, 1) := by decide +kernel
theorem dX0_firstNotBelow_2 : decode cX0_firstNotBelow 2 = .ok (.iload_n 2, 1) := by decide +kernel
theorem dX0_firstNotBelow_3 : decode cX0_firstNotBelow 3 = .ok (.aload_n 0, 1) := by decide +kernel
theorem dX0_firstNotBelow_4 : decode cX0_firstNotBelow 4 = .ok (.getfield 19, 3) := by decide +kernel
theorem dX0_firstNotBelow_7 : decode cX0_firstNotBelow 7 = .ok (.if_icmp .ge 19, 3) := by decide +kernel
theorem dX0_firstNotBelow_10 : decode cX0_firstNotBelow 10 = .ok (.aload_n 0, 1) := by decide +kernel
theorem dX0_firstNotBelow_11 : decode cX0_firstNotBelow 11 = .ok (.getfield 9, 3) := by decide +kernel
theorem dX0_firstNotBelow_14 : decode cX0_firstNotBelow 14 = .ok (.iload_n 2, 1) := by decide +kernel
theorem dX0_firstNotBelow_15 : decode cX0_firstNotBelow 15 = .ok (.iaload, 1) := by decide +kernel
theorem dX0_firstNotBelow_16 : decode cX0_firstNotBelow 16 = .ok (.iload_n 1, 1) := by decide +kernel
theorem dX0_firstNotBelow_17 : decode cX0_firstNotBelow 17 = .ok (.if_icmp .ge 9, 3) := by decide +kernel
theorem dX0_firstNotBelow_20 : decode cX0_firstNotBelow 20 = .ok (.iinc 2 1, 3) := by decide +kernel
theorem dX0_firstNotBelow_23 : decode cX0_firstNotBelow 23 = .ok (.goto (-21), 3) := by decide +kernel
theorem dX0_firstNotBelow_26 : decode cX0_firstNotBelow 26 = .ok (.iload_n 2, 1) := by decide +kernel
theorem dX0_firstNotBelow_27 : decode cX0_firstNotBelow 27 = .ok (.ireturn, 1) := by decide +kernel
theorem dX0_weekdaysUpTo_0 : decode cX0_weekdaysUpTo 0 = .ok (.iload_n 0, 1) := by decide +kernel
theorem dX0_weekdaysUpTo_1 : decode cX0_weekdaysUpTo 1 = .ok (.iconst 1, 1) := by decide +kernel
theorem dX0_weekdaysUpTo_2 : decode cX0_weekdaysUpTo 2 = .ok (.iadd, 1) := by decide +kernel
theorem dX0_weekdaysUpTo_3 : decode cX0_weekdaysUpTo 3 = .ok (.bipush 7, 2) := by decide +kernel
theorem dX0_weekdaysUpTo_5 : decode cX0_weekdaysUpTo 5 = .ok (.idiv, 1) := by decide +kernel
theorem dX0_weekdaysUpTo_6 : decode cX0_weekdaysUpTo 6 = .ok (.iconst 5, 1) := by decide +kernel
theorem dX0_weekdaysUpTo_7 : decode cX0_weekdaysUpTo 7 = .ok (.imul, 1) := by decide +kernel
theorem dX0_weekdaysUpTo_8 : decode cX0_weekdaysUpTo 8 = .ok (.iload_n 0, 1) := by decide +kernel
theorem dX0_weekdaysUpTo_9 : decode cX0_weekdaysUpTo 9 = .ok (.iconst 1, 1) := by decide +kernel
theorem dX0_weekdaysUpTo_10 : decode cX0_weekdaysUpTo 10 = .ok (.iadd, 1) := by decide +kernel
theorem dX0_weekdaysUpTo_11 : decode cX0_weekdaysUpTo 11 = .ok (.bipush 7, 2) := by decide +kernel
theorem dX0_weekdaysUpTo_13 : decode cX0_weekdaysUpTo 13 = .ok (.irem, 1) := by decide +kernel
theorem dX0_weekdaysUpTo_14 : decode cX0_weekdaysUpTo 14 = .ok (.iconst 5, 1) := by decide +kernel
theorem dX0_weekdaysUpTo_15 : decode cX0_weekdaysUpTo 15 = .ok (.invokestatic 30, 3) := by decide +kernel
theorem dX0_weekdaysUpTo_18 : decode cX0_weekdaysUpTo 18 = .ok (.iadd, 1) := by decide +kernel
theorem dX0_weekdaysUpTo_19 : decode cX0_weekdaysUpTo 19 = .ok (.ireturn, 1) := by decide +kernel
theorem dX0_isWeekday_0 : decode cX0_isWeekday 0 = .ok (.iload_n 0, 1) := by decide +kernel
theorem dX0_isWeekday_1 : decode cX0_isWeekday 1 = .ok (.bipush 7, 2) := by decide +kernel
theorem dX0_isWeekday_3 : decode cX0_isWeekday 3 = .ok (.irem, 1) := by decide +kernel
theorem dX0_isWeekday_4 : decode cX0_isWeekday 4 = .ok (.iconst 5, 1) := by decide +kernel
theorem dX0_isWeekday_5 : decode cX0_isWeekday 5 = .ok (.if_icmp .ge 7, 3) := by decide +kernel
theorem dX0_isWeekday_8 : decode cX0_isWeekday 8 = .ok (.iconst 1, 1) := by decide +kernel
theorem dX0_isWeekday_9 : decode cX0_isWeekday 9 = .ok (.goto 4, 3) := by decide +kernel
theorem dX0_isWeekday_12 : decode cX0_isWeekday 12 = .ok (.iconst 0, 1) := by decide +kernel
theorem dX0_isWeekday_13 : decode cX0_isWeekday 13 = .ok (.ireturn, 1) := by decide +kernel
theorem dX1_init_0 : decode cX1_init 0 = .ok (.aload_n 0, 1) := by decide +kernel
theorem dX1_init_1 : decode cX1_init 1 = .ok (.invokespecial 3, 3) := by decide +kernel
theorem dX1_init_4 : decode cX1_init 4 = .ok (.aload_n 0, 1) := by decide +kernel
theorem dX1_init_5 : decode cX1_init 5 = .ok (.bipush 8, 2) := by decide +kernel
theorem dX1_init_7 : decode cX1_init 7 = .ok (.newarray .int, 2) := by decide +kernel
theorem dX1_init_9 : decode cX1_init 9 = .ok (.putfield 9, 3) := by decide +kernel
theorem dX1_init_12 : decode cX1_init 12 = .ok (.aload_n 0, 1) := by decide +kernel
theorem dX1_init_13 : decode cX1_init 13 = .ok (.bipush 12, 2) := by decide +kernel
theorem dX1_init_15 : decode cX1_init 15 = .ok (.newarray .int, 2) := by decide +kernel
theorem dX1_init_17 : decode cX1_init 17 = .ok (.putfield 15, 3) := by decide +kernel
theorem dX1_init_20 : decode cX1_init 20 = .ok (.return_, 1) := by decide +kernel
theorem dX1_setWorld_0 : decode cX1_setWorld 0 = .ok (.iload_n 2, 1) := by decide +kernel
theorem dX1_setWorld_1 : decode cX1_setWorld 1 = .ok (.istore_n 3, 1) := by decide +kernel
theorem dX1_setWorld_2 : decode cX1_setWorld 2 = .ok (.aload_n 1, 1) := by decide +kernel
theorem dX1_setWorld_3 : decode cX1_setWorld 3 = .ok (.getfield 18, 3) := by decide +kernel
theorem dX1_setWorld_6 : decode cX1_setWorld 6 = .ok (.iconst 1, 1) := by decide +kernel
theorem dX1_setWorld_7 : decode cX1_setWorld 7 = .ok (.isub, 1) := by decide +kernel
theorem dX1_setWorld_8 : decode cX1_setWorld 8 = .ok (.istore 4, 2) := by decide +kernel
theorem dX1_setWorld_10 : decode cX1_setWorld 10 = .ok (.iload 4, 2) := by decide +kernel
theorem dX1_setWorld_12 : decode cX1_setWorld 12 = .ok (.ifCond .lt 41, 3) := by decide +kernel
theorem dX1_setWorld_15 : decode cX1_setWorld 15 = .ok (.aload_n 1, 1) := by decide +kernel
theorem dX1_setWorld_16 : decode cX1_setWorld 16 = .ok (.iload 4, 2) := by decide +kernel
theorem dX1_setWorld_18 : decode cX1_setWorld 18 = .ok (.invokevirtual 24, 3) := by decide +kernel
theorem dX1_setWorld_21 : decode cX1_setWorld 21 = .ok (.istore 5, 2) := by decide +kernel
theorem dX1_setWorld_23 : decode cX1_setWorld 23 = .ok (.aload_n 0, 1) := by decide +kernel
theorem dX1_setWorld_24 : decode cX1_setWorld 24 = .ok (.getfield 9, 3) := by decide +kernel
theorem dX1_setWorld_27 : decode cX1_setWorld 27 = .ok (.iload 4, 2) := by decide +kernel
theorem dX1_setWorld_29 : decode cX1_setWorld 29 = .ok (.aload_n 1, 1) := by decide +kernel
theorem dX1_setWorld_30 : decode cX1_setWorld 30 = .ok (.getfield 28, 3) := by decide +kernel
theorem dX1_setWorld_33 : decode cX1_setWorld 33 = .ok (.iload 4, 2) := by decide +kernel
theorem dX1_setWorld_35 : decode cX1_setWorld 35 = .ok (.iaload, 1) := by decide +kernel
theorem dX1_setWorld_36 : decode cX1_setWorld 36 = .ok (.iload_n 3, 1) := by decide +kernel
theorem dX1_setWorld_37 : decode cX1_setWorld 37 = .ok (.iload 5, 2) := by decide +kernel
theorem dX1_setWorld_39 : decode cX1_setWorld 39 = .ok (.irem, 1) := by decide +kernel
theorem dX1_setWorld_40 : decode cX1_setWorld 40 = .ok (.iadd, 1) := by decide +kernel
theorem dX1_setWorld_41 : decode cX1_setWorld 41 = .ok (.iastore, 1) := by decide +kernel
theorem dX1_setWorld_42 : decode cX1_setWorld 42 = .ok (.iload_n 3, 1) := by decide +kernel
theorem dX1_setWorld_43 : decode cX1_setWorld 43 = .ok (.iload 5, 2) := by decide +kernel
theorem dX1_setWorld_45 : decode cX1_setWorld 45 = .ok (.idiv, 1) := by decide +kernel
theorem dX1_setWorld_46 : decode cX1_setWorld 46 = .ok (.istore_n 3, 1) := by decide +kernel
theorem dX1_setWorld_47 : decode cX1_setWorld 47 = .ok (.iinc 4 (-1), 3) := by decide +kernel
theorem dX1_setWorld_50 : decode cX1_setWorld 50 = .ok (.goto (-40), 3) := by decide +kernel
theorem dX1_setWorld_53 : decode cX1_setWorld 53 = .ok (.return_, 1) := by decide +kernel
theorem dX1_worldOf_0 : decode cX1_worldOf 0 = .ok (.iconst 0, 1) := by decide +kernel
theorem dX1_worldOf_1 : decode cX1_worldOf 1 = .ok (.istore_n 2, 1) := by decide +kernel
theorem dX1_worldOf_2 : decode cX1_worldOf 2 = .ok (.iconst 0, 1) := by decide +kernel
theorem dX1_worldOf_3 : decode cX1_worldOf 3 = .ok (.istore_n 3, 1) := by decide +kernel
theorem dX1_worldOf_4 : decode cX1_worldOf 4 = .ok (.iload_n 3, 1) := by decide +kernel
theorem dX1_worldOf_5 : decode cX1_worldOf 5 = .ok (.aload_n 1, 1) := by decide +kernel
theorem dX1_worldOf_6 : decode cX1_worldOf 6 = .ok (.getfield 18, 3) := by decide +kernel
theorem dX1_worldOf_9 : decode cX1_worldOf 9 = .ok (.if_icmp .ge 31, 3) := by decide +kernel
theorem dX1_worldOf_12 : decode cX1_worldOf 12 = .ok (.iload_n 2, 1) := by decide +kernel
theorem dX1_worldOf_13 : decode cX1_worldOf 13 = .ok (.aload_n 1, 1) := by decide +kernel
theorem dX1_worldOf_14 : decode cX1_worldOf 14 = .ok (.iload_n 3, 1) := by decide +kernel
theorem dX1_worldOf_15 : decode cX1_worldOf 15 = .ok (.invokevirtual 24, 3) := by decide +kernel
theorem dX1_worldOf_18 : decode cX1_worldOf 18 = .ok (.imul, 1) := by decide +kernel
theorem dX1_worldOf_19 : decode cX1_worldOf 19 = .ok (.aload_n 0, 1) := by decide +kernel
theorem dX1_worldOf_20 : decode cX1_worldOf 20 = .ok (.getfield 9, 3) := by decide +kernel
theorem dX1_worldOf_23 : decode cX1_worldOf 23 = .ok (.iload_n 3, 1) := by decide +kernel
theorem dX1_worldOf_24 : decode cX1_worldOf 24 = .ok (.iaload, 1) := by decide +kernel
theorem dX1_worldOf_25 : decode cX1_worldOf 25 = .ok (.iadd, 1) := by decide +kernel
theorem dX1_worldOf_26 : decode cX1_worldOf 26 = .ok (.aload_n 1, 1) := by decide +kernel
theorem dX1_worldOf_27 : decode cX1_worldOf 27 = .ok (.getfield 28, 3) := by decide +kernel
theorem dX1_worldOf_30 : decode cX1_worldOf 30 = .ok (.iload_n 3, 1) := by decide +kernel
theorem dX1_worldOf_31 : decode cX1_worldOf 31 = .ok (.iaload, 1) := by decide +kernel
theorem dX1_worldOf_32 : decode cX1_worldOf 32 = .ok (.isub, 1) := by decide +kernel
theorem dX1_worldOf_33 : decode cX1_worldOf 33 = .ok (.istore_n 2, 1) := by decide +kernel
theorem dX1_worldOf_34 : decode cX1_worldOf 34 = .ok (.iinc 3 1, 3) := by decide +kernel
theorem dX1_worldOf_37 : decode cX1_worldOf 37 = .ok (.goto (-33), 3) := by decide +kernel
theorem dX1_worldOf_40 : decode cX1_worldOf 40 = .ok (.iload_n 2, 1) := by decide +kernel
theorem dX1_worldOf_41 : decode cX1_worldOf 41 = .ok (.ireturn, 1) := by decide +kernel
theorem dX2_init_0 : decode cX2_init 0 = .ok (.aload_n 0, 1) := by decide +kernel
theorem dX2_init_1 : decode cX2_init 1 = .ok (.invokespecial 3, 3) := by decide +kernel
theorem dX2_init_4 : decode cX2_init 4 = .ok (.aload_n 0, 1) := by decide +kernel
theorem dX2_init_5 : decode cX2_init 5 = .ok (.bipush 8, 2) := by decide +kernel
theorem dX2_init_7 : decode cX2_init 7 = .ok (.newarray .int, 2) := by decide +kernel
theorem dX2_init_9 : decode cX2_init 9 = .ok (.putfield 9, 3) := by decide +kernel
theorem dX2_init_12 : decode cX2_init 12 = .ok (.aload_n 0, 1) := by decide +kernel
theorem dX2_init_13 : decode cX2_init 13 = .ok (.bipush 8, 2) := by decide +kernel
theorem dX2_init_15 : decode cX2_init 15 = .ok (.newarray .int, 2) := by decide +kernel
theorem dX2_init_17 : decode cX2_init 17 = .ok (.putfield 15, 3) := by decide +kernel
theorem dX2_init_20 : decode cX2_init 20 = .ok (.aload_n 0, 1) := by decide +kernel
theorem dX2_init_21 : decode cX2_init 21 = .ok (.bipush 20, 2) := by decide +kernel
theorem dX2_init_23 : decode cX2_init 23 = .ok (.anewarray 18, 3) := by decide +kernel
theorem dX2_init_26 : decode cX2_init 26 = .ok (.putfield 20, 3) := by decide +kernel
theorem dX2_init_29 : decode cX2_init 29 = .ok (.aload_n 0, 1) := by decide +kernel
theorem dX2_init_30 : decode cX2_init 30 = .ok (.lload_n 1, 1) := by decide +kernel
theorem dX2_init_31 : decode cX2_init 31 = .ok (.putfield 24, 3) := by decide +kernel
theorem dX2_init_34 : decode cX2_init 34 = .ok (.aload_n 0, 1) := by decide +kernel
theorem dX2_init_35 : decode cX2_init 35 = .ok (.iload_n 3, 1) := by decide +kernel
theorem dX2_init_36 : decode cX2_init 36 = .ok (.putfield 28, 3) := by decide +kernel
theorem dX2_init_39 : decode cX2_init 39 = .ok (.aload_n 0, 1) := by decide +kernel
theorem dX2_init_40 : decode cX2_init 40 = .ok (.iload 4, 2) := by decide +kernel
theorem dX2_init_42 : decode cX2_init 42 = .ok (.putfield 32, 3) := by decide +kernel
theorem dX2_init_45 : decode cX2_init 45 = .ok (.aload_n 0, 1) := by decide +kernel
theorem dX2_init_46 : decode cX2_init 46 = .ok (.aload 5, 2) := by decide +kernel
theorem dX2_init_48 : decode cX2_init 48 = .ok (.putfield 36, 3) := by decide +kernel
theorem dX2_init_51 : decode cX2_init 51 = .ok (.return_, 1) := by decide +kernel
theorem dX2_hasAllLinks_0 : decode cX2_hasAllLinks 0 = .ok (.aload_n 0, 1) := by decide +kernel
theorem dX2_hasAllLinks_1 : decode cX2_hasAllLinks 1 = .ok (.getfield 40, 3) := by decide +kernel
theorem dX2_hasAllLinks_4 : decode cX2_hasAllLinks 4 = .ok (.aload_n 0, 1) := by decide +kernel
theorem dX2_hasAllLinks_5 : decode cX2_hasAllLinks 5 = .ok (.getfield 43, 3) := by decide +kernel
theorem dX2_hasAllLinks_8 : decode cX2_hasAllLinks 8 = .ok (.iadd, 1) := by decide +kernel
theorem dX2_hasAllLinks_9 : decode cX2_hasAllLinks 9 = .ok (.bipush 8, 2) := by decide +kernel
theorem dX2_hasAllLinks_11 : decode cX2_hasAllLinks 11 = .ok (.if_icmp .lt 7, 3) := by decide +kernel
theorem dX2_hasAllLinks_14 : decode cX2_hasAllLinks 14 = .ok (.iconst 1, 1) := by decide +kernel
theorem dX2_hasAllLinks_15 : decode cX2_hasAllLinks 15 = .ok (.goto 4, 3) := by decide +kernel
theorem dX2_hasAllLinks_18 : decode cX2_hasAllLinks 18 = .ok (.iconst 0, 1) := by decide +kernel
theorem dX2_hasAllLinks_19 : decode cX2_hasAllLinks 19 = .ok (.ireturn, 1) := by decide +kernel
theorem dX2_hasAllItems_0 : decode cX2_hasAllItems 0 = .ok (.aload_n 0, 1) := by decide +kernel
theorem dX2_hasAllItems_1 : decode cX2_hasAllItems 1 = .ok (.getfield 46, 3) := by decide +kernel
theorem dX2_hasAllItems_4 : decode cX2_hasAllItems 4 = .ok (.bipush 20, 2) := by decide +kernel
theorem dX2_hasAllItems_6 : decode cX2_hasAllItems 6 = .ok (.if_icmp .lt 7, 3) := by decide +kernel
theorem dX2_hasAllItems_9 : decode cX2_hasAllItems 9 = .ok (.iconst 1, 1) := by decide +kernel
theorem dX2_hasAllItems_10 : decode cX2_hasAllItems 10 = .ok (.goto 4, 3) := by decide +kernel
theorem dX2_hasAllItems_13 : decode cX2_hasAllItems 13 = .ok (.iconst 0, 1) := by decide +kernel
theorem dX2_hasAllItems_14 : decode cX2_hasAllItems 14 = .ok (.ireturn, 1) := by decide +kernel
theorem dX2_addNeed_0 : decode cX2_addNeed 0 = .ok (.aload_n 0, 1) := by decide +kernel
theorem dX2_addNeed_1 : decode cX2_addNeed 1 = .ok (.getfield 9, 3) := by decide +kernel
theorem dX2_addNeed_4 : decode cX2_addNeed 4 = .ok (.aload_n 0, 1) := by decide +kernel
theorem dX2_addNeed_5 : decode cX2_addNeed 5 = .ok (.getfield 40, 3) := by decide +kernel
theorem dX2_addNeed_8 : decode cX2_addNeed 8 = .ok (.iload_n 1, 1) := by decide +kernel
theorem dX2_addNeed_9 : decode cX2_addNeed 9 = .ok (.iastore, 1) := by decide +kernel
theorem dX2_addNeed_10 : decode cX2_addNeed 10 = .ok (.aload_n 0, 1) := by decide +kernel
theorem dX2_addNeed_11 : decode cX2_addNeed 11 = .ok (.dup, 1) := by decide +kernel
theorem dX2_addNeed_12 : decode cX2_addNeed 12 = .ok (.getfield 40, 3) := by decide +kernel
theorem dX2_addNeed_15 : decode cX2_addNeed 15 = .ok (.iconst 1, 1) := by decide +kernel
theorem dX2_addNeed_16 : decode cX2_addNeed 16 = .ok (.iadd, 1) := by decide +kernel
theorem dX2_addNeed_17 : decode cX2_addNeed 17 = .ok (.putfield 40, 3) := by decide +kernel
theorem dX2_addNeed_20 : decode cX2_addNeed 20 = .ok (.return_, 1) := by decide +kernel
theorem dX2_addBar_0 : decode cX2_addBar 0 = .ok (.aload_n 0, 1) := by decide +kernel
theorem dX2_addBar_1 : decode cX2_addBar 1 = .ok (.getfield 15, 3) := by decide +kernel
theorem dX2_addBar_4 : decode cX2_addBar 4 = .ok (.aload_n 0, 1) := by decide +kernel
theorem dX2_addBar_5 : decode cX2_addBar 5 = .ok (.getfield 43, 3) := by decide +kernel
theorem dX2_addBar_8 : decode cX2_addBar 8 = .ok (.iload_n 1, 1) := by decide +kernel
theorem dX2_addBar_9 : decode cX2_addBar 9 = .ok (.iastore, 1) := by decide +kernel
theorem dX2_addBar_10 : decode cX2_addBar 10 = .ok (.aload_n 0, 1) := by decide +kernel
theorem dX2_addBar_11 : decode cX2_addBar 11 = .ok (.dup, 1) := by decide +kernel
theorem dX2_addBar_12 : decode cX2_addBar 12 = .ok (.getfield 43, 3) := by decide +kernel
theorem dX2_addBar_15 : decode cX2_addBar 15 = .ok (.iconst 1, 1) := by decide +kernel
theorem dX2_addBar_16 : decode cX2_addBar 16 = .ok (.iadd, 1) := by decide +kernel
theorem dX2_addBar_17 : decode cX2_addBar 17 = .ok (.putfield 43, 3) := by decide +kernel
theorem dX2_addBar_20 : decode cX2_addBar 20 = .ok (.return_, 1) := by decide +kernel
theorem dX2_addItem_0 : decode cX2_addItem 0 = .ok (.aload_n 0, 1) := by decide +kernel
theorem dX2_addItem_1 : decode cX2_addItem 1 = .ok (.getfield 20, 3) := by decide +kernel
theorem dX2_addItem_4 : decode cX2_addItem 4 = .ok (.aload_n 0, 1) := by decide +kernel
theorem dX2_addItem_5 : decode cX2_addItem 5 = .ok (.getfield 46, 3) := by decide +kernel
theorem dX2_addItem_8 : decode cX2_addItem 8 = .ok (.aload_n 1, 1) := by decide +kernel
theorem dX2_addItem_9 : decode cX2_addItem 9 = .ok (.aastore, 1) := by decide +kernel
theorem dX2_addItem_10 : decode cX2_addItem 10 = .ok (.aload_n 0, 1) := by decide +kernel
theorem dX2_addItem_11 : decode cX2_addItem 11 = .ok (.dup, 1) := by decide +kernel
theorem dX2_addItem_12 : decode cX2_addItem 12 = .ok (.getfield 46, 3) := by decide +kernel
theorem dX2_addItem_15 : decode cX2_addItem 15 = .ok (.iconst 1, 1) := by decide +kernel
theorem dX2_addItem_16 : decode cX2_addItem 16 = .ok (.iadd, 1) := by decide +kernel
theorem dX2_addItem_17 : decode cX2_addItem 17 = .ok (.putfield 46, 3) := by decide +kernel
theorem dX2_addItem_20 : decode cX2_addItem 20 = .ok (.return_, 1) := by decide +kernel
theorem dX3_init_0 : decode cX3_init 0 = .ok (.aload_n 0, 1) := by decide +kernel
theorem dX3_init_1 : decode cX3_init 1 = .ok (.invokespecial 3, 3) := by decide +kernel
theorem dX3_init_4 : decode cX3_init 4 = .ok (.aload_n 0, 1) := by decide +kernel
theorem dX3_init_5 : decode cX3_init 5 = .ok (.bipush 8, 2) := by decide +kernel
theorem dX3_init_7 : decode cX3_init 7 = .ok (.newarray .long, 2) := by decide +kernel
theorem dX3_init_9 : decode cX3_init 9 = .ok (.putfield 9, 3) := by decide +kernel
theorem dX3_init_12 : decode cX3_init 12 = .ok (.aload_n 0, 1) := by decide +kernel
theorem dX3_init_13 : decode cX3_init 13 = .ok (.bipush 8, 2) := by decide +kernel
theorem dX3_init_15 : decode cX3_init 15 = .ok (.newarray .int, 2) := by decide +kernel
theorem dX3_init_17 : decode cX3_init 17 = .ok (.putfield 15, 3) := by decide +kernel
theorem dX3_init_20 : decode cX3_init 20 = .ok (.aload_n 0, 1) := by decide +kernel
theorem dX3_init_21 : decode cX3_init 21 = .ok (.bipush 8, 2) := by decide +kernel
theorem dX3_init_23 : decode cX3_init 23 = .ok (.newarray .int, 2) := by decide +kernel
theorem dX3_init_25 : decode cX3_init 25 = .ok (.putfield 19, 3) := by decide +kernel
theorem dX3_init_28 : decode cX3_init 28 = .ok (.aload_n 0, 1) := by decide +kernel
theorem dX3_init_29 : decode cX3_init 29 = .ok (.iconst 1, 1) := by decide +kernel
theorem dX3_init_30 : decode cX3_init 30 = .ok (.putfield 22, 3) := by decide +kernel
theorem dX3_init_33 : decode cX3_init 33 = .ok (.aload_n 0, 1) := by decide +kernel
theorem dX3_init_34 : decode cX3_init 34 = .ok (.bipush 12, 2) := by decide +kernel
theorem dX3_init_36 : decode cX3_init 36 = .ok (.anewarray 26, 3) := by decide +kernel
theorem dX3_init_39 : decode cX3_init 39 = .ok (.putfield 28, 3) := by decide +kernel
theorem dX3_init_42 : decode cX3_init 42 = .ok (.aload_n 0, 1) := by decide +kernel
theorem dX3_init_43 : decode cX3_init 43 = .ok (.bipush 12, 2) := by decide +kernel
theorem dX3_init_45 : decode cX3_init 45 = .ok (.newarray .int, 2) := by decide +kernel
theorem dX3_init_47 : decode cX3_init 47 = .ok (.putfield 32, 3) := by decide +kernel
theorem dX3_init_50 : decode cX3_init 50 = .ok (.aload_n 0, 1) := by decide +kernel
theorem dX3_init_51 : decode cX3_init 51 = .ok (.iconst 5, 1) := by decide +kernel
theorem dX3_init_52 : decode cX3_init 52 = .ok (.newarray .int, 2) := by decide +kernel
theorem dX3_init_54 : decode cX3_init 54 = .ok (.putfield 35, 3) := by decide +kernel
theorem dX3_init_57 : decode cX3_init 57 = .ok (.aload_n 0, 1) := by decide +kernel
theorem dX3_init_58 : decode cX3_init 58 = .ok (.iconst 5, 1) := by decide +kernel
theorem dX3_init_59 : decode cX3_init 59 = .ok (.newarray .int, 2) := by decide +kernel
theorem dX3_init_61 : decode cX3_init 61 = .ok (.putfield 38, 3) := by decide +kernel
theorem dX3_init_64 : decode cX3_init 64 = .ok (.aload_n 0, 1) := by decide +kernel
theorem dX3_init_65 : decode cX3_init 65 = .ok (.iload_n 1, 1) := by decide +kernel
theorem dX3_init_66 : decode cX3_init 66 = .ok (.putfield 41, 3) := by decide +kernel
theorem dX3_init_69 : decode cX3_init 69 = .ok (.aload_n 0, 1) := by decide +kernel
theorem dX3_init_70 : decode cX3_init 70 = .ok (.iload_n 2, 1) := by decide +kernel
theorem dX3_init_71 : decode cX3_init 71 = .ok (.putfield 44, 3) := by decide +kernel
theorem dX3_init_74 : decode cX3_init 74 = .ok (.return_, 1) := by decide +kernel
theorem dX3_hasFact_0 : decode cX3_hasFact 0 = .ok (.iload_n 1, 1) := by decide +kernel
theorem dX3_hasFact_1 : decode cX3_hasFact 1 = .ok (.ifCond .lt 15, 3) := by decide +kernel
theorem dX3_hasFact_4 : decode cX3_hasFact 4 = .ok (.iload_n 1, 1) := by decide +kernel
theorem dX3_hasFact_5 : decode cX3_hasFact 5 = .ok (.aload_n 0, 1) := by decide +kernel
theorem dX3_hasFact_6 : decode cX3_hasFact 6 = .ok (.getfield 47, 3) := by decide +kernel
theorem dX3_hasFact_9 : decode cX3_hasFact 9 = .ok (.if_icmp .ge 7, 3) := by decide +kernel
theorem dX3_hasFact_12 : decode cX3_hasFact 12 = .ok (.iconst 1, 1) := by decide +kernel
theorem dX3_hasFact_13 : decode cX3_hasFact 13 = .ok (.goto 4, 3) := by decide +kernel
theorem dX3_hasFact_16 : decode cX3_hasFact 16 = .ok (.iconst 0, 1) := by decide +kernel
theorem dX3_hasFact_17 : decode cX3_hasFact 17 = .ok (.ireturn, 1) := by decide +kernel
theorem dX3_spanOf_0 : decode cX3_spanOf 0 = .ok (.iconst 1, 1) := by decide +kernel
theorem dX3_spanOf_1 : decode cX3_spanOf 1 = .ok (.aload_n 0, 1) := by decide +kernel
theorem dX3_spanOf_2 : decode cX3_spanOf 2 = .ok (.getfield 19, 3) := by decide +kernel
theorem dX3_spanOf_5 : decode cX3_spanOf 5 = .ok (.iload_n 1, 1) := by decide +kernel
theorem dX3_spanOf_6 : decode cX3_spanOf 6 = .ok (.iaload, 1) := by decide +kernel
theorem dX3_spanOf_7 : decode cX3_spanOf 7 = .ok (.aload_n 0, 1) := by decide +kernel
theorem dX3_spanOf_8 : decode cX3_spanOf 8 = .ok (.getfield 15, 3) := by decide +kernel
theorem dX3_spanOf_11 : decode cX3_spanOf 11 = .ok (.iload_n 1, 1) := by decide +kernel
theorem dX3_spanOf_12 : decode cX3_spanOf 12 = .ok (.iaload, 1) := by decide +kernel
theorem dX3_spanOf_13 : decode cX3_spanOf 13 = .ok (.isub, 1) := by decide +kernel
theorem dX3_spanOf_14 : decode cX3_spanOf 14 = .ok (.iconst 1, 1) := by decide +kernel
theorem dX3_spanOf_15 : decode cX3_spanOf 15 = .ok (.iadd, 1) := by decide +kernel
theorem dX3_spanOf_16 : decode cX3_spanOf 16 = .ok (.invokestatic 50, 3) := by decide +kernel
theorem dX3_spanOf_19 : decode cX3_spanOf 19 = .ok (.ireturn, 1) := by decide +kernel
theorem dX3_factNamed_0 : decode cX3_factNamed 0 = .ok (.iconst 0, 1) := by decide +kernel
theorem dX3_factNamed_1 : decode cX3_factNamed 1 = .ok (.istore_n 3, 1) := by decide +kernel
theorem dX3_factNamed_2 : decode cX3_factNamed 2 = .ok (.iload_n 3, 1) := by decide +kernel
theorem dX3_factNamed_3 : decode cX3_factNamed 3 = .ok (.aload_n 0, 1) := by decide +kernel
theorem dX3_factNamed_4 : decode cX3_factNamed 4 = .ok (.getfield 47, 3) := by decide +kernel
theorem dX3_factNamed_7 : decode cX3_factNamed 7 = .ok (.if_icmp .ge 22, 3) := by decide +kernel
theorem dX3_factNamed_10 : decode cX3_factNamed 10 = .ok (.aload_n 0, 1) := by decide +kernel
theorem dX3_factNamed_11 : decode cX3_factNamed 11 = .ok (.getfield 9, 3) := by decide +kernel
theorem dX3_factNamed_14 : decode cX3_factNamed 14 = .ok (.iload_n 3, 1) := by decide +kernel
theorem dX3_factNamed_15 : decode cX3_factNamed 15 = .ok (.laload, 1) := by decide +kernel
theorem dX3_factNamed_16 : decode cX3_factNamed 16 = .ok (.lload_n 1, 1) := by decide +kernel
theorem dX3_factNamed_17 : decode cX3_factNamed 17 = .ok (.lcmp, 1) := by decide +kernel
theorem dX3_factNamed_18 : decode cX3_factNamed 18 = .ok (.ifCond .ne 5, 3) := by decide +kernel
theorem dX3_factNamed_21 : decode cX3_factNamed 21 = .ok (.iload_n 3, 1) := by decide +kernel
theorem dX3_factNamed_22 : decode cX3_factNamed 22 = .ok (.ireturn, 1) := by decide +kernel
theorem dX3_factNamed_23 : decode cX3_factNamed 23 = .ok (.iinc 3 1, 3) := by decide +kernel
theorem dX3_factNamed_26 : decode cX3_factNamed 26 = .ok (.goto (-24), 3) := by decide +kernel
theorem dX3_factNamed_29 : decode cX3_factNamed 29 = .ok (.iconst (-1), 1) := by decide +kernel
theorem dX3_factNamed_30 : decode cX3_factNamed 30 = .ok (.ireturn, 1) := by decide +kernel
theorem dX3_hasClauseNamed_0 : decode cX3_hasClauseNamed 0 = .ok (.iconst 0, 1) := by decide +kernel
theorem dX3_hasClauseNamed_1 : decode cX3_hasClauseNamed 1 = .ok (.istore_n 3, 1) := by decide +kernel
theorem dX3_hasClauseNamed_2 : decode cX3_hasClauseNamed 2 = .ok (.iload_n 3, 1) := by decide +kernel
theorem dX3_hasClauseNamed_3 : decode cX3_hasClauseNamed 3 = .ok (.aload_n 0, 1) := by decide +kernel
theorem dX3_hasClauseNamed_4 : decode cX3_hasClauseNamed 4 = .ok (.getfield 56, 3) := by decide +kernel
theorem dX3_hasClauseNamed_7 : decode cX3_hasClauseNamed 7 = .ok (.if_icmp .ge 25, 3) := by decide +kernel
theorem dX3_hasClauseNamed_10 : decode cX3_hasClauseNamed 10 = .ok (.aload_n 0, 1) := by decide +kernel
theorem dX3_hasClauseNamed_11 : decode cX3_hasClauseNamed 11 = .ok (.getfield 28, 3) := by decide +kernel
theorem dX3_hasClauseNamed_14 : decode cX3_hasClauseNamed 14 = .ok (.iload_n 3, 1) := by decide +kernel
theorem dX3_hasClauseNamed_15 : decode cX3_hasClauseNamed 15 = .ok (.aaload, 1) := by decide +kernel
theorem dX3_hasClauseNamed_16 : decode cX3_hasClauseNamed 16 = .ok (.getfield 59, 3) := by decide +kernel
theorem dX3_hasClauseNamed_19 : decode cX3_hasClauseNamed 19 = .ok (.lload_n 1, 1) := by decide +kernel
theorem dX3_hasClauseNamed_20 : decode cX3_hasClauseNamed 20 = .ok (.lcmp, 1) := by decide +kernel
theorem dX3_hasClauseNamed_21 : decode cX3_hasClauseNamed 21 = .ok (.ifCond .ne 5, 3) := by decide +kernel
theorem dX3_hasClauseNamed_24 : decode cX3_hasClauseNamed 24 = .ok (.iconst 1, 1) := by decide +kernel
theorem dX3_hasClauseNamed_25 : decode cX3_hasClauseNamed 25 = .ok (.ireturn, 1) := by decide +kernel
theorem dX3_hasClauseNamed_26 : decode cX3_hasClauseNamed 26 = .ok (.iinc 3 1, 3) := by decide +kernel
theorem dX3_hasClauseNamed_29 : decode cX3_hasClauseNamed 29 = .ok (.goto (-27), 3) := by decide +kernel
theorem dX3_hasClauseNamed_32 : decode cX3_hasClauseNamed 32 = .ok (.iconst 0, 1) := by decide +kernel
theorem dX3_hasClauseNamed_33 : decode cX3_hasClauseNamed 33 = .ok (.ireturn, 1) := by decide +kernel
theorem dX3_addFact_0 : decode cX3_addFact 0 = .ok (.aload_n 0, 1) := by decide +kernel
theorem dX3_addFact_1 : decode cX3_addFact 1 = .ok (.getfield 9, 3) := by decide +kernel
theorem dX3_addFact_4 : decode cX3_addFact 4 = .ok (.aload_n 0, 1) := by decide +kernel
theorem dX3_addFact_5 : decode cX3_addFact 5 = .ok (.getfield 47, 3) := by decide +kernel
theorem dX3_addFact_8 : decode cX3_addFact 8 = .ok (.lload_n 1, 1) := by decide +kernel
theorem dX3_addFact_9 : decode cX3_addFact 9 = .ok (.lastore, 1) := by decide +kernel
theorem dX3_addFact_10 : decode cX3_addFact 10 = .ok (.aload_n 0, 1) := by decide +kernel
theorem dX3_addFact_11 : decode cX3_addFact 11 = .ok (.getfield 15, 3) := by decide +kernel
theorem dX3_addFact_14 : decode cX3_addFact 14 = .ok (.aload_n 0, 1) := by decide +kernel
theorem dX3_addFact_15 : decode cX3_addFact 15 = .ok (.getfield 47, 3) := by decide +kernel
theorem dX3_addFact_18 : decode cX3_addFact 18 = .ok (.iload_n 3, 1) := by decide +kernel
theorem dX3_addFact_19 : decode cX3_addFact 19 = .ok (.iastore, 1) := by decide +kernel
theorem dX3_addFact_20 : decode cX3_addFact 20 = .ok (.aload_n 0, 1) := by decide +kernel
theorem dX3_addFact_21 : decode cX3_addFact 21 = .ok (.getfield 19, 3) := by decide +kernel
theorem dX3_addFact_24 : decode cX3_addFact 24 = .ok (.aload_n 0, 1) := by decide +kernel
theorem dX3_addFact_25 : decode cX3_addFact 25 = .ok (.getfield 47, 3) := by decide +kernel
theorem dX3_addFact_28 : decode cX3_addFact 28 = .ok (.iload 4, 2) := by decide +kernel
theorem dX3_addFact_30 : decode cX3_addFact 30 = .ok (.iastore, 1) := by decide +kernel
theorem dX3_addFact_31 : decode cX3_addFact 31 = .ok (.aload_n 0, 1) := by decide +kernel
theorem dX3_addFact_32 : decode cX3_addFact 32 = .ok (.dup, 1) := by decide +kernel
theorem dX3_addFact_33 : decode cX3_addFact 33 = .ok (.getfield 22, 3) := by decide +kernel
theorem dX3_addFact_36 : decode cX3_addFact 36 = .ok (.aload_n 0, 1) := by decide +kernel
theorem dX3_addFact_37 : decode cX3_addFact 37 = .ok (.aload_n 0, 1) := by decide +kernel
theorem dX3_addFact_38 : decode cX3_addFact 38 = .ok (.getfield 47, 3) := by decide +kernel
theorem dX3_addFact_41 : decode cX3_addFact 41 = .ok (.invokevirtual 63, 3) := by decide +kernel
theorem dX3_addFact_44 : decode cX3_addFact 44 = .ok (.imul, 1) := by decide +kernel
theorem dX3_addFact_45 : decode cX3_addFact 45 = .ok (.putfield 22, 3) := by decide +kernel
theorem dX3_addFact_48 : decode cX3_addFact 48 = .ok (.aload_n 0, 1) := by decide +kernel
theorem dX3_addFact_49 : decode cX3_addFact 49 = .ok (.dup, 1) := by decide +kernel
theorem dX3_addFact_50 : decode cX3_addFact 50 = .ok (.getfield 47, 3) := by decide +kernel
theorem dX3_addFact_53 : decode cX3_addFact 53 = .ok (.iconst 1, 1) := by decide +kernel
theorem dX3_addFact_54 : decode cX3_addFact 54 = .ok (.iadd, 1) := by decide +kernel
theorem dX3_addFact_55 : decode cX3_addFact 55 = .ok (.putfield 47, 3) := by decide +kernel
theorem dX3_addFact_58 : decode cX3_addFact 58 = .ok (.return_, 1) := by decide +kernel
theorem dX3_addClause_0 : decode cX3_addClause 0 = .ok (.aload_n 0, 1) := by decide +kernel
theorem dX3_addClause_1 : decode cX3_addClause 1 = .ok (.getfield 56, 3) := by decide +kernel
theorem dX3_addClause_4 : decode cX3_addClause 4 = .ok (.istore_n 2, 1) := by decide +kernel
theorem dX3_addClause_5 : decode cX3_addClause 5 = .ok (.iload_n 2, 1) := by decide +kernel
theorem dX3_addClause_6 : decode cX3_addClause 6 = .ok (.ifCond .le 46, 3) := by decide +kernel
theorem dX3_addClause_9 : decode cX3_addClause 9 = .ok (.aload_n 0, 1) := by decide +kernel
theorem dX3_addClause_10 : decode cX3_addClause 10 = .ok (.getfield 28, 3) := by decide +kernel
theorem dX3_addClause_13 : decode cX3_addClause 13 = .ok (.aload_n 0, 1) := by decide +kernel
theorem dX3_addClause_14 : decode cX3_addClause 14 = .ok (.getfield 32, 3) := by decide +kernel
theorem dX3_addClause_17 : decode cX3_addClause 17 = .ok (.iload_n 2, 1) := by decide +kernel
theorem dX3_addClause_18 : decode cX3_addClause 18 = .ok (.iconst 1, 1) := by decide +kernel
theorem dX3_addClause_19 : decode cX3_addClause 19 = .ok (.isub, 1) := by decide +kernel
theorem dX3_addClause_20 : decode cX3_addClause 20 = .ok (.iaload, 1) := by decide +kernel
theorem dX3_addClause_21 : decode cX3_addClause 21 = .ok (.aaload, 1) := by decide +kernel
theorem dX3_addClause_22 : decode cX3_addClause 22 = .ok (.getfield 67, 3) := by decide +kernel
theorem dX3_addClause_25 : decode cX3_addClause 25 = .ok (.aload_n 1, 1) := by decide +kernel
theorem dX3_addClause_26 : decode cX3_addClause 26 = .ok (.getfield 67, 3) := by decide +kernel
theorem dX3_addClause_29 : decode cX3_addClause 29 = .ok (.if_icmp .le 23, 3) := by decide +kernel
theorem dX3_addClause_32 : decode cX3_addClause 32 = .ok (.aload_n 0, 1) := by decide +kernel
theorem dX3_addClause_33 : decode cX3_addClause 33 = .ok (.getfield 32, 3) := by decide +kernel
theorem dX3_addClause_36 : decode cX3_addClause 36 = .ok (.iload_n 2, 1) := by decide +kernel
theorem dX3_addClause_37 : decode cX3_addClause 37 = .ok (.aload_n 0, 1) := by decide +kernel
theorem dX3_addClause_38 : decode cX3_addClause 38 = .ok (.getfield 32, 3) := by decide +kernel
theorem dX3_addClause_41 : decode cX3_addClause 41 = .ok (.iload_n 2, 1) := by decide +kernel
theorem dX3_addClause_42 : decode cX3_addClause 42 = .ok (.iconst 1, 1) := by decide +kernel
theorem dX3_addClause_43 : decode cX3_addClause 43 = .ok (.isub, 1) := by decide +kernel
theorem dX3_addClause_44 : decode cX3_addClause 44 = .ok (.iaload, 1) := by decide +kernel
theorem dX3_addClause_45 : decode cX3_addClause 45 = .ok (.iastore, 1) := by decide +kernel
theorem dX3_addClause_46 : decode cX3_addClause 46 = .ok (.iinc 2 (-1), 3) := by decide +kernel
theorem dX3_addClause_49 : decode cX3_addClause 49 = .ok (.goto (-44), 3) := by decide +kernel
theorem dX3_addClause_52 : decode cX3_addClause 52 = .ok (.aload_n 0, 1) := by decide +kernel
theorem dX3_addClause_53 : decode cX3_addClause 53 = .ok (.getfield 32, 3) := by decide +kernel
theorem dX3_addClause_56 : decode cX3_addClause 56 = .ok (.iload_n 2, 1) := by decide +kernel
theorem dX3_addClause_57 : decode cX3_addClause 57 = .ok (.aload_n 0, 1) := by decide +kernel
theorem dX3_addClause_58 : decode cX3_addClause 58 = .ok (.getfield 56, 3) := by decide +kernel
theorem dX3_addClause_61 : decode cX3_addClause 61 = .ok (.iastore, 1) := by decide +kernel
theorem dX3_addClause_62 : decode cX3_addClause 62 = .ok (.aload_n 0, 1) := by decide +kernel
theorem dX3_addClause_63 : decode cX3_addClause 63 = .ok (.getfield 28, 3) := by decide +kernel
theorem dX3_addClause_66 : decode cX3_addClause 66 = .ok (.aload_n 0, 1) := by decide +kernel
theorem dX3_addClause_67 : decode cX3_addClause 67 = .ok (.getfield 56, 3) := by decide +kernel
theorem dX3_addClause_70 : decode cX3_addClause 70 = .ok (.aload_n 1, 1) := by decide +kernel
theorem dX3_addClause_71 : decode cX3_addClause 71 = .ok (.aastore, 1) := by decide +kernel
theorem dX3_addClause_72 : decode cX3_addClause 72 = .ok (.aload_n 0, 1) := by decide +kernel
theorem dX3_addClause_73 : decode cX3_addClause 73 = .ok (.dup, 1) := by decide +kernel
theorem dX3_addClause_74 : decode cX3_addClause 74 = .ok (.getfield 56, 3) := by decide +kernel
theorem dX3_addClause_77 : decode cX3_addClause 77 = .ok (.iconst 1, 1) := by decide +kernel
theorem dX3_addClause_78 : decode cX3_addClause 78 = .ok (.iadd, 1) := by decide +kernel
theorem dX3_addClause_79 : decode cX3_addClause 79 = .ok (.putfield 56, 3) := by decide +kernel
theorem dX3_addClause_82 : decode cX3_addClause 82 = .ok (.return_, 1) := by decide +kernel
theorem dX3_hasFactsOf_0 : decode cX3_hasFactsOf 0 = .ok (.aload_n 0, 1) := by decide +kernel
theorem dX3_hasFactsOf_1 : decode cX3_hasFactsOf 1 = .ok (.getfield 47, 3) := by decide +kernel
theorem dX3_hasFactsOf_4 : decode cX3_hasFactsOf 4 = .ok (.aload_n 1, 1) := by decide +kernel
theorem dX3_hasFactsOf_5 : decode cX3_hasFactsOf 5 = .ok (.getfield 47, 3) := by decide +kernel
theorem dX3_hasFactsOf_8 : decode cX3_hasFactsOf 8 = .ok (.if_icmp .eq 5, 3) := by decide +kernel
theorem dX3_hasFactsOf_11 : decode cX3_hasFactsOf 11 = .ok (.iconst 0, 1) := by decide +kernel
theorem dX3_hasFactsOf_12 : decode cX3_hasFactsOf 12 = .ok (.ireturn, 1) := by decide +kernel
theorem dX3_hasFactsOf_13 : decode cX3_hasFactsOf 13 = .ok (.iconst 0, 1) := by decide +kernel
theorem dX3_hasFactsOf_14 : decode cX3_hasFactsOf 14 = .ok (.istore_n 2, 1) := by decide +kernel
theorem dX3_hasFactsOf_15 : decode cX3_hasFactsOf 15 = .ok (.iload_n 2, 1) := by decide +kernel
theorem dX3_hasFactsOf_16 : decode cX3_hasFactsOf 16 = .ok (.aload_n 0, 1) := by decide +kernel
theorem dX3_hasFactsOf_17 : decode cX3_hasFactsOf 17 = .ok (.getfield 47, 3) := by decide +kernel
theorem dX3_hasFactsOf_20 : decode cX3_hasFactsOf 20 = .ok (.if_icmp .ge 67, 3) := by decide +kernel
theorem dX3_hasFactsOf_23 : decode cX3_hasFactsOf 23 = .ok (.aload_n 0, 1) := by decide +kernel
theorem dX3_hasFactsOf_24 : decode cX3_hasFactsOf 24 = .ok (.getfield 9, 3) := by decide +kernel
theorem dX3_hasFactsOf_27 : decode cX3_hasFactsOf 27 = .ok (.iload_n 2, 1) := by decide +kernel
theorem dX3_hasFactsOf_28 : decode cX3_hasFactsOf 28 = .ok (.laload, 1) := by decide +kernel
theorem dX3_hasFactsOf_29 : decode cX3_hasFactsOf 29 = .ok (.aload_n 1, 1) := by decide +kernel
theorem dX3_hasFactsOf_30 : decode cX3_hasFactsOf 30 = .ok (.getfield 9, 3) := by decide +kernel
theorem dX3_hasFactsOf_33 : decode cX3_hasFactsOf 33 = .ok (.iload_n 2, 1) := by decide +kernel
theorem dX3_hasFactsOf_34 : decode cX3_hasFactsOf 34 = .ok (.laload, 1) := by decide +kernel
theorem dX3_hasFactsOf_35 : decode cX3_hasFactsOf 35 = .ok (.lcmp, 1) := by decide +kernel
theorem dX3_hasFactsOf_36 : decode cX3_hasFactsOf 36 = .ok (.ifCond .ne 37, 3) := by decide +kernel
theorem dX3_hasFactsOf_39 : decode cX3_hasFactsOf 39 = .ok (.aload_n 0, 1) := by decide +kernel
theorem dX3_hasFactsOf_40 : decode cX3_hasFactsOf 40 = .ok (.getfield 15, 3) := by decide +kernel
theorem dX3_hasFactsOf_43 : decode cX3_hasFactsOf 43 = .ok (.iload_n 2, 1) := by decide +kernel
theorem dX3_hasFactsOf_44 : decode cX3_hasFactsOf 44 = .ok (.iaload, 1) := by decide +kernel
theorem dX3_hasFactsOf_45 : decode cX3_hasFactsOf 45 = .ok (.aload_n 1, 1) := by decide +kernel
theorem dX3_hasFactsOf_46 : decode cX3_hasFactsOf 46 = .ok (.getfield 15, 3) := by decide +kernel
theorem dX3_hasFactsOf_49 : decode cX3_hasFactsOf 49 = .ok (.iload_n 2, 1) := by decide +kernel
theorem dX3_hasFactsOf_50 : decode cX3_hasFactsOf 50 = .ok (.iaload, 1) := by decide +kernel
theorem dX3_hasFactsOf_51 : decode cX3_hasFactsOf 51 = .ok (.if_icmp .ne 22, 3) := by decide +kernel
theorem dX3_hasFactsOf_54 : decode cX3_hasFactsOf 54 = .ok (.aload_n 0, 1) := by decide +kernel
theorem dX3_hasFactsOf_55 : decode cX3_hasFactsOf 55 = .ok (.getfield 19, 3) := by decide +kernel
theorem dX3_hasFactsOf_58 : decode cX3_hasFactsOf 58 = .ok (.iload_n 2, 1) := by decide +kernel
theorem dX3_hasFactsOf_59 : decode cX3_hasFactsOf 59 = .ok (.iaload, 1) := by decide +kernel
theorem dX3_hasFactsOf_60 : decode cX3_hasFactsOf 60 = .ok (.aload_n 1, 1) := by decide +kernel
theorem dX3_hasFactsOf_61 : decode cX3_hasFactsOf 61 = .ok (.getfield 19, 3) := by decide +kernel
theorem dX3_hasFactsOf_64 : decode cX3_hasFactsOf 64 = .ok (.iload_n 2, 1) := by decide +kernel
theorem dX3_hasFactsOf_65 : decode cX3_hasFactsOf 65 = .ok (.iaload, 1) := by decide +kernel
theorem dX3_hasFactsOf_66 : decode cX3_hasFactsOf 66 = .ok (.if_icmp .ne 7, 3) := by decide +kernel
theorem dX3_hasFactsOf_69 : decode cX3_hasFactsOf 69 = .ok (.iconst 1, 1) := by decide +kernel
theorem dX3_hasFactsOf_70 : decode cX3_hasFactsOf 70 = .ok (.goto 4, 3) := by decide +kernel
theorem dX3_hasFactsOf_73 : decode cX3_hasFactsOf 73 = .ok (.iconst 0, 1) := by decide +kernel
theorem dX3_hasFactsOf_74 : decode cX3_hasFactsOf 74 = .ok (.istore_n 3, 1) := by decide +kernel
theorem dX3_hasFactsOf_75 : decode cX3_hasFactsOf 75 = .ok (.iload_n 3, 1) := by decide +kernel
theorem dX3_hasFactsOf_76 : decode cX3_hasFactsOf 76 = .ok (.ifCond .ne 5, 3) := by decide +kernel
theorem dX3_hasFactsOf_79 : decode cX3_hasFactsOf 79 = .ok (.iconst 0, 1) := by decide +kernel
theorem dX3_hasFactsOf_80 : decode cX3_hasFactsOf 80 = .ok (.ireturn, 1) := by decide +kernel
theorem dX3_hasFactsOf_81 : decode cX3_hasFactsOf 81 = .ok (.iinc 2 1, 3) := by decide +kernel
theorem dX3_hasFactsOf_84 : decode cX3_hasFactsOf 84 = .ok (.goto (-69), 3) := by decide +kernel
theorem dX3_hasFactsOf_87 : decode cX3_hasFactsOf 87 = .ok (.iconst 1, 1) := by decide +kernel
theorem dX3_hasFactsOf_88 : decode cX3_hasFactsOf 88 = .ok (.ireturn, 1) := by decide +kernel
theorem dX4_init_0 : decode cX4_init 0 = .ok (.aload_n 0, 1) := by decide +kernel
theorem dX4_init_1 : decode cX4_init 1 = .ok (.invokespecial 1, 3) := by decide +kernel
theorem dX4_init_4 : decode cX4_init 4 = .ok (.aload_n 0, 1) := by decide +kernel
theorem dX4_init_5 : decode cX4_init 5 = .ok (.aload_n 1, 1) := by decide +kernel
theorem dX4_init_6 : decode cX4_init 6 = .ok (.putfield 7, 3) := by decide +kernel
theorem dX4_init_9 : decode cX4_init 9 = .ok (.return_, 1) := by decide +kernel
theorem dX4_reckon_0 : decode cX4_reckon 0 = .ok (.aload_n 1, 1) := by decide +kernel
theorem dX4_reckon_1 : decode cX4_reckon 1 = .ok (.getfield 13, 3) := by decide +kernel
theorem dX4_reckon_4 : decode cX4_reckon 4 = .ok (.astore_n 2, 1) := by decide +kernel
theorem dX4_reckon_5 : decode cX4_reckon 5 = .ok (.iconst 0, 1) := by decide +kernel
theorem dX4_reckon_6 : decode cX4_reckon 6 = .ok (.istore_n 3, 1) := by decide +kernel
theorem dX4_reckon_7 : decode cX4_reckon 7 = .ok (.iconst 0, 1) := by decide +kernel
theorem dX4_reckon_8 : decode cX4_reckon 8 = .ok (.istore 4, 2) := by decide +kernel
theorem dX4_reckon_10 : decode cX4_reckon 10 = .ok (.iload 4, 2) := by decide +kernel
theorem dX4_reckon_12 : decode cX4_reckon 12 = .ok (.aload_n 0, 1) := by decide +kernel
theorem dX4_reckon_13 : decode cX4_reckon 13 = .ok (.getfield 7, 3) := by decide +kernel
theorem dX4_reckon_16 : decode cX4_reckon 16 = .ok (.arraylength, 1) := by decide +kernel
theorem dX4_reckon_17 : decode cX4_reckon 17 = .ok (.if_icmp .ge 108, 3) := by decide +kernel
theorem dX4_reckon_20 : decode cX4_reckon 20 = .ok (.aload_n 0, 1) := by decide +kernel
theorem dX4_reckon_21 : decode cX4_reckon 21 = .ok (.getfield 7, 3) := by decide +kernel
theorem dX4_reckon_24 : decode cX4_reckon 24 = .ok (.iload 4, 2) := by decide +kernel
theorem dX4_reckon_26 : decode cX4_reckon 26 = .ok (.iaload, 1) := by decide +kernel
theorem dX4_reckon_27 : decode cX4_reckon 27 = .ok (.bipush 8, 2) := by decide +kernel
theorem dX4_reckon_29 : decode cX4_reckon 29 = .ok (.irem, 1) := by decide +kernel
theorem dX4_reckon_30 : decode cX4_reckon 30 = .ok (.istore 5, 2) := by decide +kernel
theorem dX4_reckon_32 : decode cX4_reckon 32 = .ok (.iload 5, 2) := by decide +kernel
theorem dX4_reckon_34 : decode cX4_reckon 34 = .ok (.iconst 1, 1) := by decide +kernel
theorem dX4_reckon_35 : decode cX4_reckon 35 = .ok (.if_icmp .eq 9, 3) := by decide +kernel
theorem dX4_reckon_38 : decode cX4_reckon 38 = .ok (.iload 5, 2) := by decide +kernel
theorem dX4_reckon_40 : decode cX4_reckon 40 = .ok (.iconst 2, 1) := by decide +kernel
theorem dX4_reckon_41 : decode cX4_reckon 41 = .ok (.if_icmp .ne 50, 3) := by decide +kernel
theorem dX4_reckon_44 : decode cX4_reckon 44 = .ok (.iload_n 3, 1) := by decide +kernel
theorem dX4_reckon_45 : decode cX4_reckon 45 = .ok (.aload_n 2, 1) := by decide +kernel
theorem dX4_reckon_46 : decode cX4_reckon 46 = .ok (.arraylength, 1) := by decide +kernel
theorem dX4_reckon_47 : decode cX4_reckon 47 = .ok (.if_icmp .lt 5, 3) := by decide +kernel
theorem dX4_reckon_50 : decode cX4_reckon 50 = .ok (.iconst 0, 1) := by decide +kernel
theorem dX4_reckon_51 : decode cX4_reckon 51 = .ok (.ireturn, 1) := by decide +kernel
theorem dX4_reckon_52 : decode cX4_reckon 52 = .ok (.aload_n 0, 1) := by decide +kernel
theorem dX4_reckon_53 : decode cX4_reckon 53 = .ok (.getfield 7, 3) := by decide +kernel
theorem dX4_reckon_56 : decode cX4_reckon 56 = .ok (.iload 4, 2) := by decide +kernel
theorem dX4_reckon_58 : decode cX4_reckon 58 = .ok (.iaload, 1) := by decide +kernel
theorem dX4_reckon_59 : decode cX4_reckon 59 = .ok (.bipush 8, 2) := by decide +kernel
theorem dX4_reckon_61 : decode cX4_reckon 61 = .ok (.idiv, 1) := by decide +kernel
theorem dX4_reckon_62 : decode cX4_reckon 62 = .ok (.istore 6, 2) := by decide +kernel
theorem dX4_reckon_64 : decode cX4_reckon 64 = .ok (.aload_n 2, 1) := by decide +kernel
theorem dX4_reckon_65 : decode cX4_reckon 65 = .ok (.iload_n 3, 1) := by decide +kernel
theorem dX4_reckon_66 : decode cX4_reckon 66 = .ok (.iload 5, 2) := by decide +kernel
theorem dX4_reckon_68 : decode cX4_reckon 68 = .ok (.iconst 1, 1) := by decide +kernel
theorem dX4_reckon_69 : decode cX4_reckon 69 = .ok (.if_icmp .ne 8, 3) := by decide +kernel
theorem dX4_reckon_72 : decode cX4_reckon 72 = .ok (.iload 6, 2) := by decide +kernel
theorem dX4_reckon_74 : decode cX4_reckon 74 = .ok (.goto 10, 3) := by decide +kernel
theorem dX4_reckon_77 : decode cX4_reckon 77 = .ok (.aload_n 1, 1) := by decide +kernel
theorem dX4_reckon_78 : decode cX4_reckon 78 = .ok (.getfield 18, 3) := by decide +kernel
theorem dX4_reckon_81 : decode cX4_reckon 81 = .ok (.iload 6, 2) := by decide +kernel
theorem dX4_reckon_83 : decode cX4_reckon 83 = .ok (.iaload, 1) := by decide +kernel
theorem dX4_reckon_84 : decode cX4_reckon 84 = .ok (.iastore, 1) := by decide +kernel
theorem dX4_reckon_85 : decode cX4_reckon 85 = .ok (.iinc 3 1, 3) := by decide +kernel
theorem dX4_reckon_88 : decode cX4_reckon 88 = .ok (.goto 31, 3) := by decide +kernel
theorem dX4_reckon_91 : decode cX4_reckon 91 = .ok (.iload_n 3, 1) := by decide +kernel
theorem dX4_reckon_92 : decode cX4_reckon 92 = .ok (.iconst 2, 1) := by decide +kernel
theorem dX4_reckon_93 : decode cX4_reckon 93 = .ok (.if_icmp .ge 5, 3) := by decide +kernel
theorem dX4_reckon_96 : decode cX4_reckon 96 = .ok (.iconst 0, 1) := by decide +kernel
theorem dX4_reckon_97 : decode cX4_reckon 97 = .ok (.ireturn, 1) := by decide +kernel
theorem dX4_reckon_98 : decode cX4_reckon 98 = .ok (.iinc 3 (-1), 3) := by decide +kernel
theorem dX4_reckon_101 : decode cX4_reckon 101 = .ok (.aload_n 2, 1) := by decide +kernel
theorem dX4_reckon_102 : decode cX4_reckon 102 = .ok (.iload_n 3, 1) := by decide +kernel
theorem dX4_reckon_103 : decode cX4_reckon 103 = .ok (.iconst 1, 1) := by decide +kernel
theorem dX4_reckon_104 : decode cX4_reckon 104 = .ok (.isub, 1) := by decide +kernel
theorem dX4_reckon_105 : decode cX4_reckon 105 = .ok (.iload 5, 2) := by decide +kernel
theorem dX4_reckon_107 : decode cX4_reckon 107 = .ok (.aload_n 2, 1) := by decide +kernel
theorem dX4_reckon_108 : decode cX4_reckon 108 = .ok (.iload_n 3, 1) := by decide +kernel
theorem dX4_reckon_109 : decode cX4_reckon 109 = .ok (.iconst 1, 1) := by decide +kernel
theorem dX4_reckon_110 : decode cX4_reckon 110 = .ok (.isub, 1) := by decide +kernel
theorem dX4_reckon_111 : decode cX4_reckon 111 = .ok (.iaload, 1) := by decide +kernel
theorem dX4_reckon_112 : decode cX4_reckon 112 = .ok (.aload_n 2, 1) := by decide +kernel
theorem dX4_reckon_113 : decode cX4_reckon 113 = .ok (.iload_n 3, 1) := by decide +kernel
theorem dX4_reckon_114 : decode cX4_reckon 114 = .ok (.iaload, 1) := by decide +kernel
theorem dX4_reckon_115 : decode cX4_reckon 115 = .ok (.invokestatic 21, 3) := by decide +kernel
theorem dX4_reckon_118 : decode cX4_reckon 118 = .ok (.iastore, 1) := by decide +kernel
theorem dX4_reckon_119 : decode cX4_reckon 119 = .ok (.iinc 4 1, 3) := by decide +kernel
theorem dX4_reckon_122 : decode cX4_reckon 122 = .ok (.goto (-112), 3) := by decide +kernel
theorem dX4_reckon_125 : decode cX4_reckon 125 = .ok (.iload_n 3, 1) := by decide +kernel
theorem dX4_reckon_126 : decode cX4_reckon 126 = .ok (.iconst 1, 1) := by decide +kernel
theorem dX4_reckon_127 : decode cX4_reckon 127 = .ok (.if_icmp .ge 7, 3) := by decide +kernel
theorem dX4_reckon_130 : decode cX4_reckon 130 = .ok (.iconst 0, 1) := by decide +kernel
theorem dX4_reckon_131 : decode cX4_reckon 131 = .ok (.goto 6, 3) := by decide +kernel
theorem dX4_reckon_134 : decode cX4_reckon 134 = .ok (.aload_n 2, 1) := by decide +kernel
theorem dX4_reckon_135 : decode cX4_reckon 135 = .ok (.iconst 0, 1) := by decide +kernel
theorem dX4_reckon_136 : decode cX4_reckon 136 = .ok (.iaload, 1) := by decide +kernel
theorem dX4_reckon_137 : decode cX4_reckon 137 = .ok (.ireturn, 1) := by decide +kernel
theorem dX4_join_0 : decode cX4_join 0 = .ok (.iload_n 0, 1) := by decide +kernel
theorem dX4_join_1 : decode cX4_join 1 = .ok (.tableswitch 46 3 5 #[27, 31, 35], 27) := by decide +kernel
theorem dX4_join_28 : decode cX4_join 28 = .ok (.iload_n 1, 1) := by decide +kernel
theorem dX4_join_29 : decode cX4_join 29 = .ok (.iload_n 2, 1) := by decide +kernel
theorem dX4_join_30 : decode cX4_join 30 = .ok (.iadd, 1) := by decide +kernel
theorem dX4_join_31 : decode cX4_join 31 = .ok (.ireturn, 1) := by decide +kernel
theorem dX4_join_32 : decode cX4_join 32 = .ok (.iload_n 1, 1) := by decide +kernel
theorem dX4_join_33 : decode cX4_join 33 = .ok (.iload_n 2, 1) := by decide +kernel
theorem dX4_join_34 : decode cX4_join 34 = .ok (.isub, 1) := by decide +kernel
theorem dX4_join_35 : decode cX4_join 35 = .ok (.ireturn, 1) := by decide +kernel
theorem dX4_join_36 : decode cX4_join 36 = .ok (.iload_n 1, 1) := by decide +kernel
theorem dX4_join_37 : decode cX4_join 37 = .ok (.iload_n 2, 1) := by decide +kernel
theorem dX4_join_38 : decode cX4_join 38 = .ok (.if_icmp .ge 7, 3) := by decide +kernel
theorem dX4_join_41 : decode cX4_join 41 = .ok (.iconst 1, 1) := by decide +kernel
theorem dX4_join_42 : decode cX4_join 42 = .ok (.goto 4, 3) := by decide +kernel
theorem dX4_join_45 : decode cX4_join 45 = .ok (.iconst 0, 1) := by decide +kernel
theorem dX4_join_46 : decode cX4_join 46 = .ok (.ireturn, 1) := by decide +kernel
theorem dX4_join_47 : decode cX4_join 47 = .ok (.iload_n 1, 1) := by decide +kernel
theorem dX4_join_48 : decode cX4_join 48 = .ok (.iload_n 2, 1) := by decide +kernel
theorem dX4_join_49 : decode cX4_join 49 = .ok (.if_icmp .ne 7, 3) := by decide +kernel
theorem dX4_join_52 : decode cX4_join 52 = .ok (.iconst 1, 1) := by decide +kernel
theorem dX4_join_53 : decode cX4_join 53 = .ok (.goto 4, 3) := by decide +kernel
theorem dX4_join_56 : decode cX4_join 56 = .ok (.iconst 0, 1) := by decide +kernel
theorem dX4_join_57 : decode cX4_join 57 = .ok (.ireturn, 1) := by decide +kernel
theorem dX5_init_0 : decode cX5_init 0 = .ok (.aload_n 0, 1) := by decide +kernel
theorem dX5_init_1 : decode cX5_init 1 = .ok (.invokespecial 1, 3) := by decide +kernel
theorem dX5_init_4 : decode cX5_init 4 = .ok (.aload_n 0, 1) := by decide +kernel
theorem dX5_init_5 : decode cX5_init 5 = .ok (.iload_n 1, 1) := by decide +kernel
theorem dX5_init_6 : decode cX5_init 6 = .ok (.putfield 7, 3) := by decide +kernel
theorem dX5_init_9 : decode cX5_init 9 = .ok (.aload_n 0, 1) := by decide +kernel
theorem dX5_init_10 : decode cX5_init 10 = .ok (.lload_n 2, 1) := by decide +kernel
theorem dX5_init_11 : decode cX5_init 11 = .ok (.putfield 13, 3) := by decide +kernel
theorem dX5_init_14 : decode cX5_init 14 = .ok (.aload_n 0, 1) := by decide +kernel
theorem dX5_init_15 : decode cX5_init 15 = .ok (.iload 4, 2) := by decide +kernel
theorem dX5_init_17 : decode cX5_init 17 = .ok (.putfield 17, 3) := by decide +kernel
theorem dX5_init_20 : decode cX5_init 20 = .ok (.aload_n 0, 1) := by decide +kernel
theorem dX5_init_21 : decode cX5_init 21 = .ok (.aload 5, 2) := by decide +kernel
theorem dX5_init_23 : decode cX5_init 23 = .ok (.putfield 20, 3) := by decide +kernel
theorem dX5_init_26 : decode cX5_init 26 = .ok (.return_, 1) := by decide +kernel
theorem dX6_init_0 : decode cX6_init 0 = .ok (.aload_n 0, 1) := by decide +kernel
theorem dX6_init_1 : decode cX6_init 1 = .ok (.invokespecial 3, 3) := by decide +kernel
theorem dX6_init_4 : decode cX6_init 4 = .ok (.aload_n 0, 1) := by decide +kernel
theorem dX6_init_5 : decode cX6_init 5 = .ok (.bipush 12, 2) := by decide +kernel
theorem dX6_init_7 : decode cX6_init 7 = .ok (.newarray .boolean, 2) := by decide +kernel
theorem dX6_init_9 : decode cX6_init 9 = .ok (.putfield 9, 3) := by decide +kernel
theorem dX6_init_12 : decode cX6_init 12 = .ok (.aload_n 0, 1) := by decide +kernel
theorem dX6_init_13 : decode cX6_init 13 = .ok (.bipush 12, 2) := by decide +kernel
theorem dX6_init_15 : decode cX6_init 15 = .ok (.newarray .int, 2) := by decide +kernel
theorem dX6_init_17 : decode cX6_init 17 = .ok (.putfield 15, 3) := by decide +kernel
theorem dX6_init_20 : decode cX6_init 20 = .ok (.aload_n 0, 1) := by decide +kernel
theorem dX6_init_21 : decode cX6_init 21 = .ok (.bipush 12, 2) := by decide +kernel
theorem dX6_init_23 : decode cX6_init 23 = .ok (.newarray .int, 2) := by decide +kernel
theorem dX6_init_25 : decode cX6_init 25 = .ok (.putfield 19, 3) := by decide +kernel
theorem dX6_init_28 : decode cX6_init 28 = .ok (.aload_n 0, 1) := by decide +kernel
theorem dX6_init_29 : decode cX6_init 29 = .ok (.sipush 2772, 3) := by decide +kernel
theorem dX6_init_32 : decode cX6_init 32 = .ok (.newarray .byte, 2) := by decide +kernel
theorem dX6_init_34 : decode cX6_init 34 = .ok (.putfield 22, 3) := by decide +kernel
theorem dX6_init_37 : decode cX6_init 37 = .ok (.aload_n 0, 1) := by decide +kernel
theorem dX6_init_38 : decode cX6_init 38 = .ok (.iconst (-1), 1) := by decide +kernel
theorem dX6_init_39 : decode cX6_init 39 = .ok (.putfield 26, 3) := by decide +kernel
theorem dX6_init_42 : decode cX6_init 42 = .ok (.aload_n 0, 1) := by decide +kernel
theorem dX6_init_43 : decode cX6_init 43 = .ok (.iconst (-1), 1) := by decide +kernel
theorem dX6_init_44 : decode cX6_init 44 = .ok (.putfield 30, 3) := by decide +kernel
theorem dX6_init_47 : decode cX6_init 47 = .ok (.return_, 1) := by decide +kernel
theorem dX6_compose_0 : decode cX6_compose 0 = .ok (.aload_n 0, 1) := by decide +kernel
theorem dX6_compose_1 : decode cX6_compose 1 = .ok (.iconst 0, 1) := by decide +kernel
theorem dX6_compose_2 : decode cX6_compose 2 = .ok (.putfield 33, 3) := by decide +kernel
theorem dX6_compose_5 : decode cX6_compose 5 = .ok (.aload_n 0, 1) := by decide +kernel
theorem dX6_compose_6 : decode cX6_compose 6 = .ok (.iconst 0, 1) := by decide +kernel
theorem dX6_compose_7 : decode cX6_compose 7 = .ok (.putfield 36, 3) := by decide +kernel
theorem dX6_compose_10 : decode cX6_compose 10 = .ok (.aload_n 0, 1) := by decide +kernel
theorem dX6_compose_11 : decode cX6_compose 11 = .ok (.aload_n 1, 1) := by decide +kernel
theorem dX6_compose_12 : decode cX6_compose 12 = .ok (.aload_n 2, 1) := by decide +kernel
theorem dX6_compose_13 : decode cX6_compose 13 = .ok (.invokevirtual 39, 3) := by decide +kernel
theorem dX6_compose_16 : decode cX6_compose 16 = .ok (.aload_n 0, 1) := by decide +kernel
theorem dX6_compose_17 : decode cX6_compose 17 = .ok (.getfield 43, 3) := by decide +kernel
theorem dX6_compose_20 : decode cX6_compose 20 = .ok (.ifCond .ne 17, 3) := by decide +kernel
theorem dX6_compose_23 : decode cX6_compose 23 = .ok (.aload_n 0, 1) := by decide +kernel
theorem dX6_compose_24 : decode cX6_compose 24 = .ok (.aload_n 1, 1) := by decide +kernel
theorem dX6_compose_25 : decode cX6_compose 25 = .ok (.invokevirtual 46, 3) := by decide +kernel
theorem dX6_compose_28 : decode cX6_compose 28 = .ok (.aload_n 0, 1) := by decide +kernel
theorem dX6_compose_29 : decode cX6_compose 29 = .ok (.aload_n 1, 1) := by decide +kernel
theorem dX6_compose_30 : decode cX6_compose 30 = .ok (.aload_n 2, 1) := by decide +kernel
theorem dX6_compose_31 : decode cX6_compose 31 = .ok (.iload_n 3, 1) := by decide +kernel
theorem dX6_compose_32 : decode cX6_compose 32 = .ok (.aload 4, 2) := by decide +kernel
theorem dX6_compose_34 : decode cX6_compose 34 = .ok (.invokevirtual 50, 3) := by decide +kernel
theorem dX6_compose_37 : decode cX6_compose 37 = .ok (.return_, 1) := by decide +kernel
theorem dX6_settle_0 : decode cX6_settle 0 = .ok (.iconst 0, 1) := by decide +kernel
theorem dX6_settle_1 : decode cX6_settle 1 = .ok (.istore_n 3, 1) := by decide +kernel
theorem dX6_settle_2 : decode cX6_settle 2 = .ok (.iload_n 3, 1) := by decide +kernel
theorem dX6_settle_3 : decode cX6_settle 3 = .ok (.aload_n 1, 1) := by decide +kernel
theorem dX6_settle_4 : decode cX6_settle 4 = .ok (.getfield 54, 3) := by decide +kernel
theorem dX6_settle_7 : decode cX6_settle 7 = .ok (.if_icmp .ge 36, 3) := by decide +kernel
theorem dX6_settle_10 : decode cX6_settle 10 = .ok (.aload_n 0, 1) := by decide +kernel
theorem dX6_settle_11 : decode cX6_settle 11 = .ok (.getfield 9, 3) := by decide +kernel
theorem dX6_settle_14 : decode cX6_settle 14 = .ok (.iload_n 3, 1) := by decide +kernel
theorem dX6_settle_15 : decode cX6_settle 15 = .ok (.aload_n 1, 1) := by decide +kernel
theorem dX6_settle_16 : decode cX6_settle 16 = .ok (.getfield 59, 3) := by decide +kernel
theorem dX6_settle_19 : decode cX6_settle 19 = .ok (.iload_n 3, 1) := by decide +kernel
theorem dX6_settle_20 : decode cX6_settle 20 = .ok (.aaload, 1) := by decide +kernel
theorem dX6_settle_21 : decode cX6_settle 21 = .ok (.getfield 63, 3) := by decide +kernel
theorem dX6_settle_24 : decode cX6_settle 24 = .ok (.aload_n 2, 1) := by decide +kernel
theorem dX6_settle_25 : decode cX6_settle 25 = .ok (.invokevirtual 69, 3) := by decide +kernel
theorem dX6_settle_28 : decode cX6_settle 28 = .ok (.ifCond .eq 7, 3) := by decide +kernel
theorem dX6_settle_31 : decode cX6_settle 31 = .ok (.iconst 1, 1) := by decide +kernel
theorem dX6_settle_32 : decode cX6_settle 32 = .ok (.goto 4, 3) := by decide +kernel
theorem dX6_settle_35 : decode cX6_settle 35 = .ok (.iconst 0, 1) := by decide +kernel
theorem dX6_settle_36 : decode cX6_settle 36 = .ok (.bastore, 1) := by decide +kernel
theorem dX6_settle_37 : decode cX6_settle 37 = .ok (.iinc 3 1, 3) := by decide +kernel
theorem dX6_settle_40 : decode cX6_settle 40 = .ok (.goto (-38), 3) := by decide +kernel
theorem dX6_settle_43 : decode cX6_settle 43 = .ok (.iconst 1, 1) := by decide +kernel
theorem dX6_settle_44 : decode cX6_settle 44 = .ok (.istore_n 3, 1) := by decide +kernel
theorem dX6_settle_45 : decode cX6_settle 45 = .ok (.iconst 0, 1) := by decide +kernel
theorem dX6_settle_46 : decode cX6_settle 46 = .ok (.istore 4, 2) := by decide +kernel
theorem dX6_settle_48 : decode cX6_settle 48 = .ok (.iload 4, 2) := by decide +kernel
theorem dX6_settle_50 : decode cX6_settle 50 = .ok (.aload_n 1, 1) := by decide +kernel
theorem dX6_settle_51 : decode cX6_settle 51 = .ok (.getfield 54, 3) := by decide +kernel
theorem dX6_settle_54 : decode cX6_settle 54 = .ok (.if_icmp .ge 19, 3) := by decide +kernel
theorem dX6_settle_57 : decode cX6_settle 57 = .ok (.iload_n 3, 1) := by decide +kernel
theorem dX6_settle_58 : decode cX6_settle 58 = .ok (.ifCond .eq 15, 3) := by decide +kernel
theorem dX6_settle_61 : decode cX6_settle 61 = .ok (.aload_n 0, 1) := by decide +kernel
theorem dX6_settle_62 : decode cX6_settle 62 = .ok (.aload_n 1, 1) := by decide +kernel
theorem dX6_settle_63 : decode cX6_settle 63 = .ok (.invokevirtual 75, 3) := by decide +kernel
theorem dX6_settle_66 : decode cX6_settle 66 = .ok (.istore_n 3, 1) := by decide +kernel
theorem dX6_settle_67 : decode cX6_settle 67 = .ok (.iinc 4 1, 3) := by decide +kernel
theorem dX6_settle_70 : decode cX6_settle 70 = .ok (.goto (-22), 3) := by decide +kernel
theorem dX6_settle_73 : decode cX6_settle 73 = .ok (.aload_n 0, 1) := by decide +kernel
theorem dX6_settle_74 : decode cX6_settle 74 = .ok (.aload_n 1, 1) := by decide +kernel
theorem dX6_settle_75 : decode cX6_settle 75 = .ok (.invokevirtual 79, 3) := by decide +kernel
theorem dX6_settle_78 : decode cX6_settle 78 = .ok (.return_, 1) := by decide +kernel
theorem dX6_readsLike_0 : decode cX6_readsLike 0 = .ok (.aload_n 0, 1) := by decide +kernel
theorem dX6_readsLike_1 : decode cX6_readsLike 1 = .ok (.getfield 43, 3) := by decide +kernel
theorem dX6_readsLike_4 : decode cX6_readsLike 4 = .ok (.aload_n 1, 1) := by decide +kernel
theorem dX6_readsLike_5 : decode cX6_readsLike 5 = .ok (.getfield 43, 3) := by decide +kernel
theorem dX6_readsLike_8 : decode cX6_readsLike 8 = .ok (.if_icmp .ne 36, 3) := by decide +kernel
theorem dX6_readsLike_11 : decode cX6_readsLike 11 = .ok (.aload_n 0, 1) := by decide +kernel
theorem dX6_readsLike_12 : decode cX6_readsLike 12 = .ok (.getfield 26, 3) := by decide +kernel
theorem dX6_readsLike_15 : decode cX6_readsLike 15 = .ok (.aload_n 1, 1) := by decide +kernel
theorem dX6_readsLike_16 : decode cX6_readsLike 16 = .ok (.getfield 26, 3) := by decide +kernel
theorem dX6_readsLike_19 : decode cX6_readsLike 19 = .ok (.if_icmp .ne 25, 3) := by decide +kernel
theorem dX6_readsLike_22 : decode cX6_readsLike 22 = .ok (.aload_n 0, 1) := by decide +kernel
theorem dX6_readsLike_23 : decode cX6_readsLike 23 = .ok (.getfield 30, 3) := by decide +kernel
theorem dX6_readsLike_26 : decode cX6_readsLike 26 = .ok (.aload_n 1, 1) := by decide +kernel
theorem dX6_readsLike_27 : decode cX6_readsLike 27 = .ok (.getfield 30, 3) := by decide +kernel
theorem dX6_readsLike_30 : decode cX6_readsLike 30 = .ok (.if_icmp .ne 14, 3) := by decide +kernel
theorem dX6_readsLike_33 : decode cX6_readsLike 33 = .ok (.aload_n 0, 1) := by decide +kernel
theorem dX6_readsLike_34 : decode cX6_readsLike 34 = .ok (.getfield 36, 3) := by decide +kernel
theorem dX6_readsLike_37 : decode cX6_readsLike 37 = .ok (.aload_n 1, 1) := by decide +kernel
theorem dX6_readsLike_38 : decode cX6_readsLike 38 = .ok (.getfield 36, 3) := by decide +kernel
theorem dX6_readsLike_41 : decode cX6_readsLike 41 = .ok (.if_icmp .eq 5, 3) := by decide +kernel
theorem dX6_readsLike_44 : decode cX6_readsLike 44 = .ok (.iconst 0, 1) := by decide +kernel
theorem dX6_readsLike_45 : decode cX6_readsLike 45 = .ok (.ireturn, 1) := by decide +kernel
theorem dX6_readsLike_46 : decode cX6_readsLike 46 = .ok (.iconst 0, 1) := by decide +kernel
theorem dX6_readsLike_47 : decode cX6_readsLike 47 = .ok (.istore_n 2, 1) := by decide +kernel
theorem dX6_readsLike_48 : decode cX6_readsLike 48 = .ok (.iload_n 2, 1) := by decide +kernel
theorem dX6_readsLike_49 : decode cX6_readsLike 49 = .ok (.aload_n 0, 1) := by decide +kernel
theorem dX6_readsLike_50 : decode cX6_readsLike 50 = .ok (.getfield 36, 3) := by decide +kernel
theorem dX6_readsLike_53 : decode cX6_readsLike 53 = .ok (.if_icmp .ge 26, 3) := by decide +kernel
theorem dX6_readsLike_56 : decode cX6_readsLike 56 = .ok (.aload_n 0, 1) := by decide +kernel
theorem dX6_readsLike_57 : decode cX6_readsLike 57 = .ok (.getfield 22, 3) := by decide +kernel
theorem dX6_readsLike_60 : decode cX6_readsLike 60 = .ok (.iload_n 2, 1) := by decide +kernel
theorem dX6_readsLike_61 : decode cX6_readsLike 61 = .ok (.baload, 1) := by decide +kernel
theorem dX6_readsLike_62 : decode cX6_readsLike 62 = .ok (.aload_n 1, 1) := by decide +kernel
theorem dX6_readsLike_63 : decode cX6_readsLike 63 = .ok (.getfield 22, 3) := by decide +kernel
theorem dX6_readsLike_66 : decode cX6_readsLike 66 = .ok (.iload_n 2, 1) := by decide +kernel
theorem dX6_readsLike_67 : decode cX6_readsLike 67 = .ok (.baload, 1) := by decide +kernel
theorem dX6_readsLike_68 : decode cX6_readsLike 68 = .ok (.if_icmp .eq 5, 3) := by decide +kernel
theorem dX6_readsLike_71 : decode cX6_readsLike 71 = .ok (.iconst 0, 1) := by decide +kernel
theorem dX6_readsLike_72 : decode cX6_readsLike 72 = .ok (.ireturn, 1) := by decide +kernel
theorem dX6_readsLike_73 : decode cX6_readsLike 73 = .ok (.iinc 2 1, 3) := by decide +kernel
theorem dX6_readsLike_76 : decode cX6_readsLike 76 = .ok (.goto (-28), 3) := by decide +kernel
theorem dX6_readsLike_79 : decode cX6_readsLike 79 = .ok (.iconst 1, 1) := by decide +kernel
theorem dX6_readsLike_80 : decode cX6_readsLike 80 = .ok (.ireturn, 1) := by decide +kernel
theorem dX6_addNeeded_0 : decode cX6_addNeeded 0 = .ok (.iconst 0, 1) := by decide +kernel
theorem dX6_addNeeded_1 : decode cX6_addNeeded 1 = .ok (.istore_n 2, 1) := by decide +kernel
theorem dX6_addNeeded_2 : decode cX6_addNeeded 2 = .ok (.iconst 0, 1) := by decide +kernel
theorem dX6_addNeeded_3 : decode cX6_addNeeded 3 = .ok (.istore_n 3, 1) := by decide +kernel
theorem dX6_addNeeded_4 : decode cX6_addNeeded 4 = .ok (.iload_n 3, 1) := by decide +kernel
theorem dX6_addNeeded_5 : decode cX6_addNeeded 5 = .ok (.aload_n 1, 1) := by decide +kernel
theorem dX6_addNeeded_6 : decode cX6_addNeeded 6 = .ok (.getfield 54, 3) := by decide +kernel
theorem dX6_addNeeded_9 : decode cX6_addNeeded 9 = .ok (.if_icmp .ge 75, 3) := by decide +kernel
theorem dX6_addNeeded_12 : decode cX6_addNeeded 12 = .ok (.aload_n 1, 1) := by decide +kernel
theorem dX6_addNeeded_13 : decode cX6_addNeeded 13 = .ok (.getfield 59, 3) := by decide +kernel
theorem dX6_addNeeded_16 : decode cX6_addNeeded 16 = .ok (.iload_n 3, 1) := by decide +kernel
theorem dX6_addNeeded_17 : decode cX6_addNeeded 17 = .ok (.aaload, 1) := by decide +kernel
theorem dX6_addNeeded_18 : decode cX6_addNeeded 18 = .ok (.astore 4, 2) := by decide +kernel
theorem dX6_addNeeded_20 : decode cX6_addNeeded 20 = .ok (.iconst 0, 1) := by decide +kernel
theorem dX6_addNeeded_21 : decode cX6_addNeeded 21 = .ok (.istore 5, 2) := by decide +kernel
theorem dX6_addNeeded_23 : decode cX6_addNeeded 23 = .ok (.aload_n 0, 1) := by decide +kernel
theorem dX6_addNeeded_24 : decode cX6_addNeeded 24 = .ok (.getfield 9, 3) := by decide +kernel
theorem dX6_addNeeded_27 : decode cX6_addNeeded 27 = .ok (.iload_n 3, 1) := by decide +kernel
theorem dX6_addNeeded_28 : decode cX6_addNeeded 28 = .ok (.baload, 1) := by decide +kernel
theorem dX6_addNeeded_29 : decode cX6_addNeeded 29 = .ok (.ifCond .eq 49, 3) := by decide +kernel
theorem dX6_addNeeded_32 : decode cX6_addNeeded 32 = .ok (.iload 5, 2) := by decide +kernel
theorem dX6_addNeeded_34 : decode cX6_addNeeded 34 = .ok (.aload 4, 2) := by decide +kernel
theorem dX6_addNeeded_36 : decode cX6_addNeeded 36 = .ok (.getfield 82, 3) := by decide +kernel
theorem dX6_addNeeded_39 : decode cX6_addNeeded 39 = .ok (.if_icmp .ge 39, 3) := by decide +kernel
theorem dX6_addNeeded_42 : decode cX6_addNeeded 42 = .ok (.aload 4, 2) := by decide +kernel
theorem dX6_addNeeded_44 : decode cX6_addNeeded 44 = .ok (.getfield 85, 3) := by decide +kernel
theorem dX6_addNeeded_47 : decode cX6_addNeeded 47 = .ok (.iload 5, 2) := by decide +kernel
theorem dX6_addNeeded_49 : decode cX6_addNeeded 49 = .ok (.iaload, 1) := by decide +kernel
theorem dX6_addNeeded_50 : decode cX6_addNeeded 50 = .ok (.istore 6, 2) := by decide +kernel
theorem dX6_addNeeded_52 : decode cX6_addNeeded 52 = .ok (.aload_n 0, 1) := by decide +kernel
theorem dX6_addNeeded_53 : decode cX6_addNeeded 53 = .ok (.getfield 9, 3) := by decide +kernel
theorem dX6_addNeeded_56 : decode cX6_addNeeded 56 = .ok (.iload 6, 2) := by decide +kernel
theorem dX6_addNeeded_58 : decode cX6_addNeeded 58 = .ok (.baload, 1) := by decide +kernel
theorem dX6_addNeeded_59 : decode cX6_addNeeded 59 = .ok (.ifCond .ne 13, 3) := by decide +kernel
theorem dX6_addNeeded_62 : decode cX6_addNeeded 62 = .ok (.aload_n 0, 1) := by decide +kernel
theorem dX6_addNeeded_63 : decode cX6_addNeeded 63 = .ok (.getfield 9, 3) := by decide +kernel
theorem dX6_addNeeded_66 : decode cX6_addNeeded 66 = .ok (.iload 6, 2) := by decide +kernel
theorem dX6_addNeeded_68 : decode cX6_addNeeded 68 = .ok (.iconst 1, 1) := by decide +kernel
theorem dX6_addNeeded_69 : decode cX6_addNeeded 69 = .ok (.bastore, 1) := by decide +kernel
theorem dX6_addNeeded_70 : decode cX6_addNeeded 70 = .ok (.iconst 1, 1) := by decide +kernel
theorem dX6_addNeeded_71 : decode cX6_addNeeded 71 = .ok (.istore_n 2, 1) := by decide +kernel
theorem dX6_addNeeded_72 : decode cX6_addNeeded 72 = .ok (.iinc 5 1, 3) := by decide +kernel
theorem dX6_addNeeded_75 : decode cX6_addNeeded 75 = .ok (.goto (-52), 3) := by decide +kernel
theorem dX6_addNeeded_78 : decode cX6_addNeeded 78 = .ok (.iinc 3 1, 3) := by decide +kernel
theorem dX6_addNeeded_81 : decode cX6_addNeeded 81 = .ok (.goto (-77), 3) := by decide +kernel
theorem dX6_addNeeded_84 : decode cX6_addNeeded 84 = .ok (.iload_n 2, 1) := by decide +kernel
theorem dX6_addNeeded_85 : decode cX6_addNeeded 85 = .ok (.ireturn, 1) := by decide +kernel
theorem dX6_findQuarrel_0 : decode cX6_findQuarrel 0 = .ok (.aload_n 0, 1) := by decide +kernel
theorem dX6_findQuarrel_1 : decode cX6_findQuarrel 1 = .ok (.iconst 0, 1) := by decide +kernel
theorem dX6_findQuarrel_2 : decode cX6_findQuarrel 2 = .ok (.putfield 43, 3) := by decide +kernel
theorem dX6_findQuarrel_5 : decode cX6_findQuarrel 5 = .ok (.aload_n 0, 1) := by decide +kernel
theorem dX6_findQuarrel_6 : decode cX6_findQuarrel 6 = .ok (.iconst (-1), 1) := by decide +kernel
theorem dX6_findQuarrel_7 : decode cX6_findQuarrel 7 = .ok (.putfield 26, 3) := by decide +kernel
theorem dX6_findQuarrel_10 : decode cX6_findQuarrel 10 = .ok (.aload_n 0, 1) := by decide +kernel
theorem dX6_findQuarrel_11 : decode cX6_findQuarrel 11 = .ok (.iconst (-1), 1) := by decide +kernel
theorem dX6_findQuarrel_12 : decode cX6_findQuarrel 12 = .ok (.putfield 30, 3) := by decide +kernel
theorem dX6_findQuarrel_15 : decode cX6_findQuarrel 15 = .ok (.aload_n 0, 1) := by decide +kernel
theorem dX6_findQuarrel_16 : decode cX6_findQuarrel 16 = .ok (.aload_n 1, 1) := by decide +kernel
theorem dX6_findQuarrel_17 : decode cX6_findQuarrel 17 = .ok (.invokevirtual 88, 3) := by decide +kernel
theorem dX6_findQuarrel_20 : decode cX6_findQuarrel 20 = .ok (.ifCond .ne 19, 3) := by decide +kernel
theorem dX6_findQuarrel_23 : decode cX6_findQuarrel 23 = .ok (.aload_n 0, 1) := by decide +kernel
theorem dX6_findQuarrel_24 : decode cX6_findQuarrel 24 = .ok (.aload_n 1, 1) := by decide +kernel
theorem dX6_findQuarrel_25 : decode cX6_findQuarrel 25 = .ok (.invokevirtual 91, 3) := by decide +kernel
theorem dX6_findQuarrel_28 : decode cX6_findQuarrel 28 = .ok (.ifCond .ne 11, 3) := by decide +kernel
theorem dX6_findQuarrel_31 : decode cX6_findQuarrel 31 = .ok (.aload_n 0, 1) := by decide +kernel
theorem dX6_findQuarrel_32 : decode cX6_findQuarrel 32 = .ok (.aload_n 1, 1) := by decide +kernel
theorem dX6_findQuarrel_33 : decode cX6_findQuarrel 33 = .ok (.invokevirtual 94, 3) := by decide +kernel
theorem dX6_findQuarrel_36 : decode cX6_findQuarrel 36 = .ok (.ifCond .eq 7, 3) := by decide +kernel
theorem dX6_findQuarrel_39 : decode cX6_findQuarrel 39 = .ok (.iconst 1, 1) := by decide +kernel
theorem dX6_findQuarrel_40 : decode cX6_findQuarrel 40 = .ok (.goto 4, 3) := by decide +kernel
theorem dX6_findQuarrel_43 : decode cX6_findQuarrel 43 = .ok (.iconst 0, 1) := by decide +kernel
theorem dX6_findQuarrel_44 : decode cX6_findQuarrel 44 = .ok (.istore_n 2, 1) := by decide +kernel
theorem dX6_findQuarrel_45 : decode cX6_findQuarrel 45 = .ok (.iload_n 2, 1) := by decide +kernel
theorem dX6_findQuarrel_46 : decode cX6_findQuarrel 46 = .ok (.ifCond .ne 16, 3) := by decide +kernel
theorem dX6_findQuarrel_49 : decode cX6_findQuarrel 49 = .ok (.aload_n 0, 1) := by decide +kernel
theorem dX6_findQuarrel_50 : decode cX6_findQuarrel 50 = .ok (.aload_n 1, 1) := by decide +kernel
theorem dX6_findQuarrel_51 : decode cX6_findQuarrel 51 = .ok (.invokevirtual 97, 3) := by decide +kernel
theorem dX6_findQuarrel_54 : decode cX6_findQuarrel 54 = .ok (.ifCond .eq 8, 3) := by decide +kernel
theorem dX6_findQuarrel_57 : decode cX6_findQuarrel 57 = .ok (.aload_n 0, 1) := by decide +kernel
theorem dX6_findQuarrel_58 : decode cX6_findQuarrel 58 = .ok (.iconst 4, 1) := by decide +kernel
theorem dX6_findQuarrel_59 : decode cX6_findQuarrel 59 = .ok (.putfield 43, 3) := by decide +kernel
theorem dX6_findQuarrel_62 : decode cX6_findQuarrel 62 = .ok (.return_, 1) := by decide +kernel
theorem dX6_findMissing_0 : decode cX6_findMissing 0 = .ok (.iconst 0, 1) := by decide +kernel
theorem dX6_findMissing_1 : decode cX6_findMissing 1 = .ok (.istore_n 2, 1) := by decide +kernel
theorem dX6_findMissing_2 : decode cX6_findMissing 2 = .ok (.iload_n 2, 1) := by decide +kernel
theorem dX6_findMissing_3 : decode cX6_findMissing 3 = .ok (.aload_n 1, 1) := by decide +kernel
theorem dX6_findMissing_4 : decode cX6_findMissing 4 = .ok (.getfield 54, 3) := by decide +kernel
theorem dX6_findMissing_7 : decode cX6_findMissing 7 = .ok (.if_icmp .ge 42, 3) := by decide +kernel
theorem dX6_findMissing_10 : decode cX6_findMissing 10 = .ok (.aload_n 1, 1) := by decide +kernel
theorem dX6_findMissing_11 : decode cX6_findMissing 11 = .ok (.getfield 59, 3) := by decide +kernel
theorem dX6_findMissing_14 : decode cX6_findMissing 14 = .ok (.iload_n 2, 1) := by decide +kernel
theorem dX6_findMissing_15 : decode cX6_findMissing 15 = .ok (.aaload, 1) := by decide +kernel
theorem dX6_findMissing_16 : decode cX6_findMissing 16 = .ok (.getfield 100, 3) := by decide +kernel
theorem dX6_findMissing_19 : decode cX6_findMissing 19 = .ok (.ifCond .eq 24, 3) := by decide +kernel
theorem dX6_findMissing_22 : decode cX6_findMissing 22 = .ok (.aload_n 0, 1) := by decide +kernel
theorem dX6_findMissing_23 : decode cX6_findMissing 23 = .ok (.getfield 9, 3) := by decide +kernel
theorem dX6_findMissing_26 : decode cX6_findMissing 26 = .ok (.iload_n 2, 1) := by decide +kernel
theorem dX6_findMissing_27 : decode cX6_findMissing 27 = .ok (.baload, 1) := by decide +kernel
theorem dX6_findMissing_28 : decode cX6_findMissing 28 = .ok (.ifCond .ne 15, 3) := by decide +kernel
theorem dX6_findMissing_31 : decode cX6_findMissing 31 = .ok (.aload_n 0, 1) := by decide +kernel
theorem dX6_findMissing_32 : decode cX6_findMissing 32 = .ok (.iconst 1, 1) := by decide +kernel
theorem dX6_findMissing_33 : decode cX6_findMissing 33 = .ok (.putfield 43, 3) := by decide +kernel
theorem dX6_findMissing_36 : decode cX6_findMissing 36 = .ok (.aload_n 0, 1) := by decide +kernel
theorem dX6_findMissing_37 : decode cX6_findMissing 37 = .ok (.iload_n 2, 1) := by decide +kernel
theorem dX6_findMissing_38 : decode cX6_findMissing 38 = .ok (.putfield 26, 3) := by decide +kernel
theorem dX6_findMissing_41 : decode cX6_findMissing 41 = .ok (.iconst 1, 1) := by decide +kernel
theorem dX6_findMissing_42 : decode cX6_findMissing 42 = .ok (.ireturn, 1) := by decide +kernel
theorem dX6_findMissing_43 : decode cX6_findMissing 43 = .ok (.iinc 2 1, 3) := by decide +kernel
theorem dX6_findMissing_46 : decode cX6_findMissing 46 = .ok (.goto (-44), 3) := by decide +kernel
theorem dX6_findMissing_49 : decode cX6_findMissing 49 = .ok (.iconst 0, 1) := by decide +kernel
theorem dX6_findMissing_50 : decode cX6_findMissing 50 = .ok (.ireturn, 1) := by decide +kernel
theorem dX6_findBarred_0 : decode cX6_findBarred 0 = .ok (.iconst 0, 1) := by decide +kernel
theorem dX6_findBarred_1 : decode cX6_findBarred 1 = .ok (.istore_n 2, 1) := by decide +kernel
theorem dX6_findBarred_2 : decode cX6_findBarred 2 = .ok (.iload_n 2, 1) := by decide +kernel
theorem dX6_findBarred_3 : decode cX6_findBarred 3 = .ok (.aload_n 1, 1) := by decide +kernel
theorem dX6_findBarred_4 : decode cX6_findBarred 4 = .ok (.getfield 54, 3) := by decide +kernel
theorem dX6_findBarred_7 : decode cX6_findBarred 7 = .ok (.if_icmp .ge 86, 3) := by decide +kernel
theorem dX6_findBarred_10 : decode cX6_findBarred 10 = .ok (.aload_n 1, 1) := by decide +kernel
theorem dX6_findBarred_11 : decode cX6_findBarred 11 = .ok (.getfield 59, 3) := by decide +kernel
theorem dX6_findBarred_14 : decode cX6_findBarred 14 = .ok (.iload_n 2, 1) := by decide +kernel
theorem dX6_findBarred_15 : decode cX6_findBarred 15 = .ok (.aaload, 1) := by decide +kernel
theorem dX6_findBarred_16 : decode cX6_findBarred 16 = .ok (.astore_n 3, 1) := by decide +kernel
theorem dX6_findBarred_17 : decode cX6_findBarred 17 = .ok (.iconst 0, 1) := by decide +kernel
theorem dX6_findBarred_18 : decode cX6_findBarred 18 = .ok (.istore 4, 2) := by decide +kernel
theorem dX6_findBarred_20 : decode cX6_findBarred 20 = .ok (.aload_n 0, 1) := by decide +kernel
theorem dX6_findBarred_21 : decode cX6_findBarred 21 = .ok (.getfield 9, 3) := by decide +kernel
theorem dX6_findBarred_24 : decode cX6_findBarred 24 = .ok (.iload_n 2, 1) := by decide +kernel
theorem dX6_findBarred_25 : decode cX6_findBarred 25 = .ok (.baload, 1) := by decide +kernel
theorem dX6_findBarred_26 : decode cX6_findBarred 26 = .ok (.ifCond .eq 61, 3) := by decide +kernel
theorem dX6_findBarred_29 : decode cX6_findBarred 29 = .ok (.iload 4, 2) := by decide +kernel
theorem dX6_findBarred_31 : decode cX6_findBarred 31 = .ok (.aload_n 3, 1) := by decide +kernel
theorem dX6_findBarred_32 : decode cX6_findBarred 32 = .ok (.getfield 104, 3) := by decide +kernel
theorem dX6_findBarred_35 : decode cX6_findBarred 35 = .ok (.if_icmp .ge 52, 3) := by decide +kernel
theorem dX6_findBarred_38 : decode cX6_findBarred 38 = .ok (.aload_n 3, 1) := by decide +kernel
theorem dX6_findBarred_39 : decode cX6_findBarred 39 = .ok (.getfield 107, 3) := by decide +kernel
theorem dX6_findBarred_42 : decode cX6_findBarred 42 = .ok (.iload 4, 2) := by decide +kernel
theorem dX6_findBarred_44 : decode cX6_findBarred 44 = .ok (.iaload, 1) := by decide +kernel
theorem dX6_findBarred_45 : decode cX6_findBarred 45 = .ok (.istore 5, 2) := by decide +kernel
theorem dX6_findBarred_47 : decode cX6_findBarred 47 = .ok (.iload 5, 2) := by decide +kernel
theorem dX6_findBarred_49 : decode cX6_findBarred 49 = .ok (.iload_n 2, 1) := by decide +kernel
theorem dX6_findBarred_50 : decode cX6_findBarred 50 = .ok (.if_icmp .eq 31, 3) := by decide +kernel
theorem dX6_findBarred_53 : decode cX6_findBarred 53 = .ok (.aload_n 0, 1) := by decide +kernel
theorem dX6_findBarred_54 : decode cX6_findBarred 54 = .ok (.getfield 9, 3) := by decide +kernel
theorem dX6_findBarred_57 : decode cX6_findBarred 57 = .ok (.iload 5, 2) := by decide +kernel
theorem dX6_findBarred_59 : decode cX6_findBarred 59 = .ok (.baload, 1) := by decide +kernel
theorem dX6_findBarred_60 : decode cX6_findBarred 60 = .ok (.ifCond .eq 21, 3) := by decide +kernel
theorem dX6_findBarred_63 : decode cX6_findBarred 63 = .ok (.aload_n 0, 1) := by decide +kernel
theorem dX6_findBarred_64 : decode cX6_findBarred 64 = .ok (.iconst 2, 1) := by decide +kernel
theorem dX6_findBarred_65 : decode cX6_findBarred 65 = .ok (.putfield 43, 3) := by decide +kernel
theorem dX6_findBarred_68 : decode cX6_findBarred 68 = .ok (.aload_n 0, 1) := by decide +kernel
theorem dX6_findBarred_69 : decode cX6_findBarred 69 = .ok (.iload_n 2, 1) := by decide +kernel
theorem dX6_findBarred_70 : decode cX6_findBarred 70 = .ok (.putfield 26, 3) := by decide +kernel
theorem dX6_findBarred_73 : decode cX6_findBarred 73 = .ok (.aload_n 0, 1) := by decide +kernel
theorem dX6_findBarred_74 : decode cX6_findBarred 74 = .ok (.iload 5, 2) := by decide +kernel
theorem dX6_findBarred_76 : decode cX6_findBarred 76 = .ok (.putfield 30, 3) := by decide +kernel
theorem dX6_findBarred_79 : decode cX6_findBarred 79 = .ok (.iconst 1, 1) := by decide +kernel
theorem dX6_findBarred_80 : decode cX6_findBarred 80 = .ok (.ireturn, 1) := by decide +kernel
theorem dX6_findBarred_81 : decode cX6_findBarred 81 = .ok (.iinc 4 1, 3) := by decide +kernel
theorem dX6_findBarred_84 : decode cX6_findBarred 84 = .ok (.goto (-64), 3) := by decide +kernel
theorem dX6_findBarred_87 : decode cX6_findBarred 87 = .ok (.iinc 2 1, 3) := by decide +kernel
theorem dX6_findBarred_90 : decode cX6_findBarred 90 = .ok (.goto (-88), 3) := by decide +kernel
theorem dX6_findBarred_93 : decode cX6_findBarred 93 = .ok (.iconst 0, 1) := by decide +kernel
theorem dX6_findBarred_94 : decode cX6_findBarred 94 = .ok (.ireturn, 1) := by decide +kernel
theorem dX6_findBadReference_0 : decode cX6_findBadReference 0 = .ok (.iconst 0, 1) := by decide +kernel
theorem dX6_findBadReference_1 : decode cX6_findBadReference 1 = .ok (.istore_n 2, 1) := by decide +kernel
theorem dX6_findBadReference_2 : decode cX6_findBadReference 2 = .ok (.iload_n 2, 1) := by decide +kernel
theorem dX6_findBadReference_3 : decode cX6_findBadReference 3 = .ok (.aload_n 1, 1) := by decide +kernel
theorem dX6_findBadReference_4 : decode cX6_findBadReference 4 = .ok (.getfield 54, 3) := by decide +kernel
theorem dX6_findBadReference_7 : decode cX6_findBadReference 7 = .ok (.if_icmp .ge 96, 3) := by decide +kernel
theorem dX6_findBadReference_10 : decode cX6_findBadReference 10 = .ok (.aload_n 1, 1) := by decide +kernel
theorem dX6_findBadReference_11 : decode cX6_findBadReference 11 = .ok (.getfield 59, 3) := by decide +kernel
theorem dX6_findBadReference_14 : decode cX6_findBadReference 14 = .ok (.iload_n 2, 1) := by decide +kernel
theorem dX6_findBadReference_15 : decode cX6_findBadReference 15 = .ok (.aaload, 1) := by decide +kernel
theorem dX6_findBadReference_16 : decode cX6_findBadReference 16 = .ok (.astore_n 3, 1) := by decide +kernel
theorem dX6_findBadReference_17 : decode cX6_findBadReference 17 = .ok (.iconst 0, 1) := by decide +kernel
theorem dX6_findBadReference_18 : decode cX6_findBadReference 18 = .ok (.istore 4, 2) := by decide +kernel
theorem dX6_findBadReference_20 : decode cX6_findBadReference 20 = .ok (.aload_n 0, 1) := by decide +kernel
theorem dX6_findBadReference_21 : decode cX6_findBadReference 21 = .ok (.getfield 9, 3) := by decide +kernel
theorem dX6_findBadReference_24 : decode cX6_findBadReference 24 = .ok (.iload_n 2, 1) := by decide +kernel
theorem dX6_findBadReference_25 : decode cX6_findBadReference 25 = .ok (.baload, 1) := by decide +kernel
theorem dX6_findBadReference_26 : decode cX6_findBadReference 26 = .ok (.ifCond .eq 71, 3) := by decide +kernel
theorem dX6_findBadReference_29 : decode cX6_findBadReference 29 = .ok (.iload 4, 2) := by decide +kernel
theorem dX6_findBadReference_31 : decode cX6_findBadReference 31 = .ok (.aload_n 3, 1) := by decide +kernel
theorem dX6_findBadReference_32 : decode cX6_findBadReference 32 = .ok (.getfield 110, 3) := by decide +kernel
theorem dX6_findBadReference_35 : decode cX6_findBadReference 35 = .ok (.if_icmp .ge 62, 3) := by decide +kernel
theorem dX6_findBadReference_38 : decode cX6_findBadReference 38 = .ok (.aload_n 3, 1) := by decide +kernel
theorem dX6_findBadReference_39 : decode cX6_findBadReference 39 = .ok (.getfield 113, 3) := by decide +kernel
theorem dX6_findBadReference_42 : decode cX6_findBadReference 42 = .ok (.iload 4, 2) := by decide +kernel
theorem dX6_findBadReference_44 : decode cX6_findBadReference 44 = .ok (.aaload, 1) := by decide +kernel
theorem dX6_findBadReference_45 : decode cX6_findBadReference 45 = .ok (.astore 5, 2) := by decide +kernel
theorem dX6_findBadReference_47 : decode cX6_findBadReference 47 = .ok (.aload 5, 2) := by decide +kernel
theorem dX6_findBadReference_49 : decode cX6_findBadReference 49 = .ok (.getfield 117, 3) := by decide +kernel
theorem dX6_findBadReference_52 : decode cX6_findBadReference 52 = .ok (.bipush 9, 2) := by decide +kernel
theorem dX6_findBadReference_54 : decode cX6_findBadReference 54 = .ok (.if_icmp .ne 37, 3) := by decide +kernel
theorem dX6_findBadReference_57 : decode cX6_findBadReference 57 = .ok (.aload_n 0, 1) := by decide +kernel
theorem dX6_findBadReference_58 : decode cX6_findBadReference 58 = .ok (.getfield 9, 3) := by decide +kernel
theorem dX6_findBadReference_61 : decode cX6_findBadReference 61 = .ok (.aload 5, 2) := by decide +kernel
theorem dX6_findBadReference_63 : decode cX6_findBadReference 63 = .ok (.getfield 124, 3) := by decide +kernel
theorem dX6_findBadReference_66 : decode cX6_findBadReference 66 = .ok (.baload, 1) := by decide +kernel
theorem dX6_findBadReference_67 : decode cX6_findBadReference 67 = .ok (.ifCond .ne 24, 3) := by decide +kernel
theorem dX6_findBadReference_70 : decode cX6_findBadReference 70 = .ok (.aload_n 0, 1) := by decide +kernel
theorem dX6_findBadReference_71 : decode cX6_findBadReference 71 = .ok (.iconst 3, 1) := by decide +kernel
theorem dX6_findBadReference_72 : decode cX6_findBadReference 72 = .ok (.putfield 43, 3) := by decide +kernel
theorem dX6_findBadReference_75 : decode cX6_findBadReference 75 = .ok (.aload_n 0, 1) := by decide +kernel
theorem dX6_findBadReference_76 : decode cX6_findBadReference 76 = .ok (.iload_n 2, 1) := by decide +kernel
theorem dX6_findBadReference_77 : decode cX6_findBadReference 77 = .ok (.putfield 26, 3) := by decide +kernel
theorem dX6_findBadReference_80 : decode cX6_findBadReference 80 = .ok (.aload_n 0, 1) := by decide +kernel
theorem dX6_findBadReference_81 : decode cX6_findBadReference 81 = .ok (.aload 5, 2) := by decide +kernel
theorem dX6_findBadReference_83 : decode cX6_findBadReference 83 = .ok (.getfield 124, 3) := by decide +kernel
theorem dX6_findBadReference_86 : decode cX6_findBadReference 86 = .ok (.putfield 30, 3) := by decide +kernel
theorem dX6_findBadReference_89 : decode cX6_findBadReference 89 = .ok (.iconst 1, 1) := by decide +kernel
theorem dX6_findBadReference_90 : decode cX6_findBadReference 90 = .ok (.ireturn, 1) := by decide +kernel
theorem dX6_findBadReference_91 : decode cX6_findBadReference 91 = .ok (.iinc 4 1, 3) := by decide +kernel
theorem dX6_findBadReference_94 : decode cX6_findBadReference 94 = .ok (.goto (-74), 3) := by decide +kernel
theorem dX6_findBadReference_97 : decode cX6_findBadReference 97 = .ok (.iinc 2 1, 3) := by decide +kernel
theorem dX6_findBadReference_100 : decode cX6_findBadReference 100 = .ok (.goto (-98), 3) := by decide +kernel
theorem dX6_findBadReference_103 : decode cX6_findBadReference 103 = .ok (.iconst 0, 1) := by decide +kernel
theorem dX6_findBadReference_104 : decode cX6_findBadReference 104 = .ok (.ireturn, 1) := by decide +kernel
theorem dX6_isEmpty_0 : decode cX6_isEmpty 0 = .ok (.iconst 0, 1) := by decide +kernel
theorem dX6_isEmpty_1 : decode cX6_isEmpty 1 = .ok (.istore_n 2, 1) := by decide +kernel
theorem dX6_isEmpty_2 : decode cX6_isEmpty 2 = .ok (.iload_n 2, 1) := by decide +kernel
theorem dX6_isEmpty_3 : decode cX6_isEmpty 3 = .ok (.aload_n 1, 1) := by decide +kernel
theorem dX6_isEmpty_4 : decode cX6_isEmpty 4 = .ok (.getfield 54, 3) := by decide +kernel
theorem dX6_isEmpty_7 : decode cX6_isEmpty 7 = .ok (.if_icmp .ge 20, 3) := by decide +kernel
theorem dX6_isEmpty_10 : decode cX6_isEmpty 10 = .ok (.aload_n 0, 1) := by decide +kernel
theorem dX6_isEmpty_11 : decode cX6_isEmpty 11 = .ok (.getfield 9, 3) := by decide +kernel
theorem dX6_isEmpty_14 : decode cX6_isEmpty 14 = .ok (.iload_n 2, 1) := by decide +kernel
theorem dX6_isEmpty_15 : decode cX6_isEmpty 15 = .ok (.baload, 1) := by decide +kernel
theorem dX6_isEmpty_16 : decode cX6_isEmpty 16 = .ok (.ifCond .eq 5, 3) := by decide +kernel
theorem dX6_isEmpty_19 : decode cX6_isEmpty 19 = .ok (.iconst 0, 1) := by decide +kernel
theorem dX6_isEmpty_20 : decode cX6_isEmpty 20 = .ok (.ireturn, 1) := by decide +kernel
theorem dX6_isEmpty_21 : decode cX6_isEmpty 21 = .ok (.iinc 2 1, 3) := by decide +kernel
theorem dX6_isEmpty_24 : decode cX6_isEmpty 24 = .ok (.goto (-22), 3) := by decide +kernel
theorem dX6_isEmpty_27 : decode cX6_isEmpty 27 = .ok (.iconst 1, 1) := by decide +kernel
theorem dX6_isEmpty_28 : decode cX6_isEmpty 28 = .ok (.ireturn, 1) := by decide +kernel
theorem dX6_numberParts_0 : decode cX6_numberParts 0 = .ok (.iconst 0, 1) := by decide +kernel
theorem dX6_numberParts_1 : decode cX6_numberParts 1 = .ok (.istore_n 2, 1) := by decide +kernel
theorem dX6_numberParts_2 : decode cX6_numberParts 2 = .ok (.iload_n 2, 1) := by decide +kernel
theorem dX6_numberParts_3 : decode cX6_numberParts 3 = .ok (.aload_n 1, 1) := by decide +kernel
theorem dX6_numberParts_4 : decode cX6_numberParts 4 = .ok (.getfield 54, 3) := by decide +kernel
theorem dX6_numberParts_7 : decode cX6_numberParts 7 = .ok (.if_icmp .ge 55, 3) := by decide +kernel
theorem dX6_numberParts_10 : decode cX6_numberParts 10 = .ok (.aload_n 1, 1) := by decide +kernel
theorem dX6_numberParts_11 : decode cX6_numberParts 11 = .ok (.getfield 127, 3) := by decide +kernel
theorem dX6_numberParts_14 : decode cX6_numberParts 14 = .ok (.iload_n 2, 1) := by decide +kernel
theorem dX6_numberParts_15 : decode cX6_numberParts 15 = .ok (.iaload, 1) := by decide +kernel
theorem dX6_numberParts_16 : decode cX6_numberParts 16 = .ok (.istore_n 3, 1) := by decide +kernel
theorem dX6_numberParts_17 : decode cX6_numberParts 17 = .ok (.aload_n 0, 1) := by decide +kernel
theorem dX6_numberParts_18 : decode cX6_numberParts 18 = .ok (.getfield 9, 3) := by decide +kernel
theorem dX6_numberParts_21 : decode cX6_numberParts 21 = .ok (.iload_n 3, 1) := by decide +kernel
theorem dX6_numberParts_22 : decode cX6_numberParts 22 = .ok (.baload, 1) := by decide +kernel
theorem dX6_numberParts_23 : decode cX6_numberParts 23 = .ok (.ifCond .eq 33, 3) := by decide +kernel
theorem dX6_numberParts_26 : decode cX6_numberParts 26 = .ok (.aload_n 0, 1) := by decide +kernel
theorem dX6_numberParts_27 : decode cX6_numberParts 27 = .ok (.getfield 15, 3) := by decide +kernel
theorem dX6_numberParts_30 : decode cX6_numberParts 30 = .ok (.aload_n 0, 1) := by decide +kernel
theorem dX6_numberParts_31 : decode cX6_numberParts 31 = .ok (.getfield 33, 3) := by decide +kernel
theorem dX6_numberParts_34 : decode cX6_numberParts 34 = .ok (.iload_n 3, 1) := by decide +kernel
theorem dX6_numberParts_35 : decode cX6_numberParts 35 = .ok (.iastore, 1) := by decide +kernel
theorem dX6_numberParts_36 : decode cX6_numberParts 36 = .ok (.aload_n 0, 1) := by decide +kernel
theorem dX6_numberParts_37 : decode cX6_numberParts 37 = .ok (.dup, 1) := by decide +kernel
theorem dX6_numberParts_38 : decode cX6_numberParts 38 = .ok (.getfield 33, 3) := by decide +kernel
theorem dX6_numberParts_41 : decode cX6_numberParts 41 = .ok (.iconst 1, 1) := by decide +kernel
theorem dX6_numberParts_42 : decode cX6_numberParts 42 = .ok (.iadd, 1) := by decide +kernel
theorem dX6_numberParts_43 : decode cX6_numberParts 43 = .ok (.putfield 33, 3) := by decide +kernel
theorem dX6_numberParts_46 : decode cX6_numberParts 46 = .ok (.aload_n 0, 1) := by decide +kernel
theorem dX6_numberParts_47 : decode cX6_numberParts 47 = .ok (.getfield 19, 3) := by decide +kernel
theorem dX6_numberParts_50 : decode cX6_numberParts 50 = .ok (.iload_n 3, 1) := by decide +kernel
theorem dX6_numberParts_51 : decode cX6_numberParts 51 = .ok (.aload_n 0, 1) := by decide +kernel
theorem dX6_numberParts_52 : decode cX6_numberParts 52 = .ok (.getfield 33, 3) := by decide +kernel
theorem dX6_numberParts_55 : decode cX6_numberParts 55 = .ok (.iastore, 1) := by decide +kernel
theorem dX6_numberParts_56 : decode cX6_numberParts 56 = .ok (.iinc 2 1, 3) := by decide +kernel
theorem dX6_numberParts_59 : decode cX6_numberParts 59 = .ok (.goto (-57), 3) := by decide +kernel
theorem dX6_numberParts_62 : decode cX6_numberParts 62 = .ok (.return_, 1) := by decide +kernel
theorem dX6_printParts_0 : decode cX6_printParts 0 = .ok (.iconst 0, 1) := by decide +kernel
theorem dX6_printParts_1 : decode cX6_printParts 1 = .ok (.istore 5, 2) := by decide +kernel
theorem dX6_printParts_3 : decode cX6_printParts 3 = .ok (.iload 5, 2) := by decide +kernel
theorem dX6_printParts_5 : decode cX6_printParts 5 = .ok (.aload_n 0, 1) := by decide +kernel
theorem dX6_printParts_6 : decode cX6_printParts 6 = .ok (.getfield 33, 3) := by decide +kernel
theorem dX6_printParts_9 : decode cX6_printParts 9 = .ok (.if_icmp .ge 147, 3) := by decide +kernel
theorem dX6_printParts_12 : decode cX6_printParts 12 = .ok (.aload_n 1, 1) := by decide +kernel
theorem dX6_printParts_13 : decode cX6_printParts 13 = .ok (.getfield 59, 3) := by decide +kernel
theorem dX6_printParts_16 : decode cX6_printParts 16 = .ok (.aload_n 0, 1) := by decide +kernel
theorem dX6_printParts_17 : decode cX6_printParts 17 = .ok (.getfield 15, 3) := by decide +kernel
theorem dX6_printParts_20 : decode cX6_printParts 20 = .ok (.iload 5, 2) := by decide +kernel
theorem dX6_printParts_22 : decode cX6_printParts 22 = .ok (.iaload, 1) := by decide +kernel
theorem dX6_printParts_23 : decode cX6_printParts 23 = .ok (.aaload, 1) := by decide +kernel
theorem dX6_printParts_24 : decode cX6_printParts 24 = .ok (.astore 6, 2) := by decide +kernel
theorem dX6_printParts_26 : decode cX6_printParts 26 = .ok (.aload_n 0, 1) := by decide +kernel
theorem dX6_printParts_27 : decode cX6_printParts 27 = .ok (.iload 5, 2) := by decide +kernel
theorem dX6_printParts_29 : decode cX6_printParts 29 = .ok (.iconst 1, 1) := by decide +kernel
theorem dX6_printParts_30 : decode cX6_printParts 30 = .ok (.iadd, 1) := by decide +kernel
theorem dX6_printParts_31 : decode cX6_printParts 31 = .ok (.invokevirtual 130, 3) := by decide +kernel
theorem dX6_printParts_34 : decode cX6_printParts 34 = .ok (.iconst 0, 1) := by decide +kernel
theorem dX6_printParts_35 : decode cX6_printParts 35 = .ok (.istore 7, 2) := by decide +kernel
theorem dX6_printParts_37 : decode cX6_printParts 37 = .ok (.iload 7, 2) := by decide +kernel
theorem dX6_printParts_39 : decode cX6_printParts 39 = .ok (.aload 6, 2) := by decide +kernel
theorem dX6_printParts_41 : decode cX6_printParts 41 = .ok (.getfield 110, 3) := by decide +kernel
theorem dX6_printParts_44 : decode cX6_printParts 44 = .ok (.if_icmp .ge 106, 3) := by decide +kernel
theorem dX6_printParts_47 : decode cX6_printParts 47 = .ok (.aload 6, 2) := by decide +kernel
theorem dX6_printParts_49 : decode cX6_printParts 49 = .ok (.getfield 113, 3) := by decide +kernel
theorem dX6_printParts_52 : decode cX6_printParts 52 = .ok (.iload 7, 2) := by decide +kernel
theorem dX6_printParts_54 : decode cX6_printParts 54 = .ok (.aaload, 1) := by decide +kernel
theorem dX6_printParts_55 : decode cX6_printParts 55 = .ok (.astore 8, 2) := by decide +kernel
theorem dX6_printParts_57 : decode cX6_printParts 57 = .ok (.aload 8, 2) := by decide +kernel
theorem dX6_printParts_59 : decode cX6_printParts 59 = .ok (.getfield 117, 3) := by decide +kernel
theorem dX6_printParts_62 : decode cX6_printParts 62 = .ok (.bipush 11, 2) := by decide +kernel
theorem dX6_printParts_64 : decode cX6_printParts 64 = .ok (.if_icmp .ne 15, 3) := by decide +kernel
theorem dX6_printParts_67 : decode cX6_printParts 67 = .ok (.aload_n 0, 1) := by decide +kernel
theorem dX6_printParts_68 : decode cX6_printParts 68 = .ok (.aload 8, 2) := by decide +kernel
theorem dX6_printParts_70 : decode cX6_printParts 70 = .ok (.getfield 134, 3) := by decide +kernel
theorem dX6_printParts_73 : decode cX6_printParts 73 = .ok (.invokevirtual 138, 3) := by decide +kernel
theorem dX6_printParts_76 : decode cX6_printParts 76 = .ok (.goto 68, 3) := by decide +kernel
theorem dX6_printParts_79 : decode cX6_printParts 79 = .ok (.aload 8, 2) := by decide +kernel
theorem dX6_printParts_81 : decode cX6_printParts 81 = .ok (.getfield 117, 3) := by decide +kernel
theorem dX6_printParts_84 : decode cX6_printParts 84 = .ok (.bipush 9, 2) := by decide +kernel
theorem dX6_printParts_86 : decode cX6_printParts 86 = .ok (.if_icmp .ne 20, 3) := by decide +kernel
theorem dX6_printParts_89 : decode cX6_printParts 89 = .ok (.aload_n 0, 1) := by decide +kernel
theorem dX6_printParts_90 : decode cX6_printParts 90 = .ok (.aload_n 0, 1) := by decide +kernel
theorem dX6_printParts_91 : decode cX6_printParts 91 = .ok (.getfield 19, 3) := by decide +kernel
theorem dX6_printParts_94 : decode cX6_printParts 94 = .ok (.aload 8, 2) := by decide +kernel
theorem dX6_printParts_96 : decode cX6_printParts 96 = .ok (.getfield 124, 3) := by decide +kernel
theorem dX6_printParts_99 : decode cX6_printParts 99 = .ok (.iaload, 1) := by decide +kernel
theorem dX6_printParts_100 : decode cX6_printParts 100 = .ok (.invokevirtual 130, 3) := by decide +kernel
theorem dX6_printParts_103 : decode cX6_printParts 103 = .ok (.goto 41, 3) := by decide +kernel
theorem dX6_printParts_106 : decode cX6_printParts 106 = .ok (.aload 8, 2) := by decide +kernel
theorem dX6_printParts_108 : decode cX6_printParts 108 = .ok (.getfield 142, 3) := by decide +kernel
theorem dX6_printParts_111 : decode cX6_printParts 111 = .ok (.aload_n 2, 1) := by decide +kernel
theorem dX6_printParts_112 : decode cX6_printParts 112 = .ok (.invokevirtual 69, 3) := by decide +kernel
theorem dX6_printParts_115 : decode cX6_printParts 115 = .ok (.istore 9, 2) := by decide +kernel
theorem dX6_printParts_117 : decode cX6_printParts 117 = .ok (.aload_n 0, 1) := by decide +kernel
theorem dX6_printParts_118 : decode cX6_printParts 118 = .ok (.aload 8, 2) := by decide +kernel
theorem dX6_printParts_120 : decode cX6_printParts 120 = .ok (.getfield 117, 3) := by decide +kernel
theorem dX6_printParts_123 : decode cX6_printParts 123 = .ok (.bipush 10, 2) := by decide +kernel
theorem dX6_printParts_125 : decode cX6_printParts 125 = .ok (.if_icmp .ne 14, 3) := by decide +kernel
theorem dX6_printParts_128 : decode cX6_printParts 128 = .ok (.aload 4, 2) := by decide +kernel
theorem dX6_printParts_130 : decode cX6_printParts 130 = .ok (.iload_n 3, 1) := by decide +kernel
theorem dX6_printParts_131 : decode cX6_printParts 131 = .ok (.iload 9, 2) := by decide +kernel
theorem dX6_printParts_133 : decode cX6_printParts 133 = .ok (.invokevirtual 145, 3) := by decide +kernel
theorem dX6_printParts_136 : decode cX6_printParts 136 = .ok (.goto 5, 3) := by decide +kernel
theorem dX6_printParts_139 : decode cX6_printParts 139 = .ok (.iload 9, 2) := by decide +kernel
theorem dX6_printParts_141 : decode cX6_printParts 141 = .ok (.invokevirtual 130, 3) := by decide +kernel
theorem dX6_printParts_144 : decode cX6_printParts 144 = .ok (.iinc 7 1, 3) := by decide +kernel
theorem dX6_printParts_147 : decode cX6_printParts 147 = .ok (.goto (-110), 3) := by decide +kernel
theorem dX6_printParts_150 : decode cX6_printParts 150 = .ok (.iinc 5 1, 3) := by decide +kernel
theorem dX6_printParts_153 : decode cX6_printParts 153 = .ok (.goto (-150), 3) := by decide +kernel
theorem dX6_printParts_156 : decode cX6_printParts 156 = .ok (.return_, 1) := by decide +kernel
theorem dX6_printWord_0 : decode cX6_printWord 0 = .ok (.aload_n 0, 1) := by decide +kernel
theorem dX6_printWord_1 : decode cX6_printWord 1 = .ok (.invokevirtual 151, 3) := by decide +kernel
theorem dX6_printWord_4 : decode cX6_printWord 4 = .ok (.bipush 45, 2) := by decide +kernel
theorem dX6_printWord_6 : decode cX6_printWord 6 = .ok (.istore_n 3, 1) := by decide +kernel
theorem dX6_printWord_7 : decode cX6_printWord 7 = .ok (.iload_n 3, 1) := by decide +kernel
theorem dX6_printWord_8 : decode cX6_printWord 8 = .ok (.ifCond .lt 32, 3) := by decide +kernel
theorem dX6_printWord_11 : decode cX6_printWord 11 = .ok (.lload_n 1, 1) := by decide +kernel
theorem dX6_printWord_12 : decode cX6_printWord 12 = .ok (.iload_n 3, 1) := by decide +kernel
theorem dX6_printWord_13 : decode cX6_printWord 13 = .ok (.lushr, 1) := by decide +kernel
theorem dX6_printWord_14 : decode cX6_printWord 14 = .ok (.l2i, 1) := by decide +kernel
theorem dX6_printWord_15 : decode cX6_printWord 15 = .ok (.bipush 31, 2) := by decide +kernel
theorem dX6_printWord_17 : decode cX6_printWord 17 = .ok (.iand, 1) := by decide +kernel
theorem dX6_printWord_18 : decode cX6_printWord 18 = .ok (.istore 4, 2) := by decide +kernel
theorem dX6_printWord_20 : decode cX6_printWord 20 = .ok (.iload 4, 2) := by decide +kernel
theorem dX6_printWord_22 : decode cX6_printWord 22 = .ok (.ifCond .eq 12, 3) := by decide +kernel
theorem dX6_printWord_25 : decode cX6_printWord 25 = .ok (.aload_n 0, 1) := by decide +kernel
theorem dX6_printWord_26 : decode cX6_printWord 26 = .ok (.bipush 96, 2) := by decide +kernel
theorem dX6_printWord_28 : decode cX6_printWord 28 = .ok (.iload 4, 2) := by decide +kernel
theorem dX6_printWord_30 : decode cX6_printWord 30 = .ok (.iadd, 1) := by decide +kernel
theorem dX6_printWord_31 : decode cX6_printWord 31 = .ok (.invokevirtual 154, 3) := by decide +kernel
theorem dX6_printWord_34 : decode cX6_printWord 34 = .ok (.iinc 3 (-5), 3) := by decide +kernel
theorem dX6_printWord_37 : decode cX6_printWord 37 = .ok (.goto (-30), 3) := by decide +kernel
theorem dX6_printWord_40 : decode cX6_printWord 40 = .ok (.return_, 1) := by decide +kernel
theorem dX6_printNumber_0 : decode cX6_printNumber 0 = .ok (.aload_n 0, 1) := by decide +kernel
theorem dX6_printNumber_1 : decode cX6_printNumber 1 = .ok (.invokevirtual 151, 3) := by decide +kernel
theorem dX6_printNumber_4 : decode cX6_printNumber 4 = .ok (.iload_n 1, 1) := by decide +kernel
theorem dX6_printNumber_5 : decode cX6_printNumber 5 = .ok (.ifCond .ge 9, 3) := by decide +kernel
theorem dX6_printNumber_8 : decode cX6_printNumber 8 = .ok (.aload_n 0, 1) := by decide +kernel
theorem dX6_printNumber_9 : decode cX6_printNumber 9 = .ok (.bipush 45, 2) := by decide +kernel
theorem dX6_printNumber_11 : decode cX6_printNumber 11 = .ok (.invokevirtual 154, 3) := by decide +kernel
theorem dX6_printNumber_14 : decode cX6_printNumber 14 = .ok (.iload_n 1, 1) := by decide +kernel
theorem dX6_printNumber_15 : decode cX6_printNumber 15 = .ok (.invokestatic 157, 3) := by decide +kernel
theorem dX6_printNumber_18 : decode cX6_printNumber 18 = .ok (.istore_n 2, 1) := by decide +kernel
theorem dX6_printNumber_19 : decode cX6_printNumber 19 = .ok (.iconst 1, 1) := by decide +kernel
theorem dX6_printNumber_20 : decode cX6_printNumber 20 = .ok (.istore_n 3, 1) := by decide +kernel
theorem dX6_printNumber_21 : decode cX6_printNumber 21 = .ok (.iconst 1, 1) := by decide +kernel
theorem dX6_printNumber_22 : decode cX6_printNumber 22 = .ok (.istore 4, 2) := by decide +kernel
theorem dX6_printNumber_24 : decode cX6_printNumber 24 = .ok (.iload 4, 2) := by decide +kernel
theorem dX6_printNumber_26 : decode cX6_printNumber 26 = .ok (.bipush 10, 2) := by decide +kernel
theorem dX6_printNumber_28 : decode cX6_printNumber 28 = .ok (.if_icmp .ge 22, 3) := by decide +kernel
theorem dX6_printNumber_31 : decode cX6_printNumber 31 = .ok (.iload_n 2, 1) := by decide +kernel
theorem dX6_printNumber_32 : decode cX6_printNumber 32 = .ok (.iload_n 3, 1) := by decide +kernel
theorem dX6_printNumber_33 : decode cX6_printNumber 33 = .ok (.idiv, 1) := by decide +kernel
theorem dX6_printNumber_34 : decode cX6_printNumber 34 = .ok (.bipush 10, 2) := by decide +kernel
theorem dX6_printNumber_36 : decode cX6_printNumber 36 = .ok (.if_icmp .lt 14, 3) := by decide +kernel
theorem dX6_printNumber_39 : decode cX6_printNumber 39 = .ok (.iload_n 3, 1) := by decide +kernel
theorem dX6_printNumber_40 : decode cX6_printNumber 40 = .ok (.bipush 10, 2) := by decide +kernel
theorem dX6_printNumber_42 : decode cX6_printNumber 42 = .ok (.imul, 1) := by decide +kernel
theorem dX6_printNumber_43 : decode cX6_printNumber 43 = .ok (.istore_n 3, 1) := by decide +kernel
theorem dX6_printNumber_44 : decode cX6_printNumber 44 = .ok (.iinc 4 1, 3) := by decide +kernel
theorem dX6_printNumber_47 : decode cX6_printNumber 47 = .ok (.goto (-23), 3) := by decide +kernel
theorem dX6_printNumber_50 : decode cX6_printNumber 50 = .ok (.iload_n 3, 1) := by decide +kernel
theorem dX6_printNumber_51 : decode cX6_printNumber 51 = .ok (.iconst 1, 1) := by decide +kernel
theorem dX6_printNumber_52 : decode cX6_printNumber 52 = .ok (.if_icmp .lt 24, 3) := by decide +kernel
theorem dX6_printNumber_55 : decode cX6_printNumber 55 = .ok (.aload_n 0, 1) := by decide +kernel
theorem dX6_printNumber_56 : decode cX6_printNumber 56 = .ok (.bipush 48, 2) := by decide +kernel
theorem dX6_printNumber_58 : decode cX6_printNumber 58 = .ok (.iload_n 2, 1) := by decide +kernel
theorem dX6_printNumber_59 : decode cX6_printNumber 59 = .ok (.iload_n 3, 1) := by decide +kernel
theorem dX6_printNumber_60 : decode cX6_printNumber 60 = .ok (.idiv, 1) := by decide +kernel
theorem dX6_printNumber_61 : decode cX6_printNumber 61 = .ok (.bipush 10, 2) := by decide +kernel
theorem dX6_printNumber_63 : decode cX6_printNumber 63 = .ok (.irem, 1) := by decide +kernel
theorem dX6_printNumber_64 : decode cX6_printNumber 64 = .ok (.iadd, 1) := by decide +kernel
theorem dX6_printNumber_65 : decode cX6_printNumber 65 = .ok (.invokevirtual 154, 3) := by decide +kernel
theorem dX6_printNumber_68 : decode cX6_printNumber 68 = .ok (.iload_n 3, 1) := by decide +kernel
theorem dX6_printNumber_69 : decode cX6_printNumber 69 = .ok (.bipush 10, 2) := by decide +kernel
theorem dX6_printNumber_71 : decode cX6_printNumber 71 = .ok (.idiv, 1) := by decide +kernel
theorem dX6_printNumber_72 : decode cX6_printNumber 72 = .ok (.istore_n 3, 1) := by decide +kernel
theorem dX6_printNumber_73 : decode cX6_printNumber 73 = .ok (.goto (-23), 3) := by decide +kernel
theorem dX6_printNumber_76 : decode cX6_printNumber 76 = .ok (.return_, 1) := by decide +kernel
theorem dX6_printBlankBetween_0 : decode cX6_printBlankBetween 0 = .ok (.aload_n 0, 1) := by decide +kernel
theorem dX6_printBlankBetween_1 : decode cX6_printBlankBetween 1 = .ok (.getfield 36, 3) := by decide +kernel
theorem dX6_printBlankBetween_4 : decode cX6_printBlankBetween 4 = .ok (.ifCond .le 9, 3) := by decide +kernel
theorem dX6_printBlankBetween_7 : decode cX6_printBlankBetween 7 = .ok (.aload_n 0, 1) := by decide +kernel
theorem dX6_printBlankBetween_8 : decode cX6_printBlankBetween 8 = .ok (.bipush 32, 2) := by decide +kernel
theorem dX6_printBlankBetween_10 : decode cX6_printBlankBetween 10 = .ok (.invokevirtual 154, 3) := by decide +kernel
theorem dX6_printBlankBetween_13 : decode cX6_printBlankBetween 13 = .ok (.return_, 1) := by decide +kernel
theorem dX6_printSign_0 : decode cX6_printSign 0 = .ok (.aload_n 0, 1) := by decide +kernel
theorem dX6_printSign_1 : decode cX6_printSign 1 = .ok (.getfield 36, 3) := by decide +kernel
theorem dX6_printSign_4 : decode cX6_printSign 4 = .ok (.aload_n 0, 1) := by decide +kernel
theorem dX6_printSign_5 : decode cX6_printSign 5 = .ok (.getfield 22, 3) := by decide +kernel
theorem dX6_printSign_8 : decode cX6_printSign 8 = .ok (.arraylength, 1) := by decide +kernel
theorem dX6_printSign_9 : decode cX6_printSign 9 = .ok (.if_icmp .ge 24, 3) := by decide +kernel
theorem dX6_printSign_12 : decode cX6_printSign 12 = .ok (.aload_n 0, 1) := by decide +kernel
theorem dX6_printSign_13 : decode cX6_printSign 13 = .ok (.getfield 22, 3) := by decide +kernel
theorem dX6_printSign_16 : decode cX6_printSign 16 = .ok (.aload_n 0, 1) := by decide +kernel
theorem dX6_printSign_17 : decode cX6_printSign 17 = .ok (.getfield 36, 3) := by decide +kernel
theorem dX6_printSign_20 : decode cX6_printSign 20 = .ok (.iload_n 1, 1) := by decide +kernel
theorem dX6_printSign_21 : decode cX6_printSign 21 = .ok (.i2b, 1) := by decide +kernel
theorem dX6_printSign_22 : decode cX6_printSign 22 = .ok (.bastore, 1) := by decide +kernel
theorem dX6_printSign_23 : decode cX6_printSign 23 = .ok (.aload_n 0, 1) := by decide +kernel
theorem dX6_printSign_24 : decode cX6_printSign 24 = .ok (.dup, 1) := by decide +kernel
theorem dX6_printSign_25 : decode cX6_printSign 25 = .ok (.getfield 36, 3) := by decide +kernel
theorem dX6_printSign_28 : decode cX6_printSign 28 = .ok (.iconst 1, 1) := by decide +kernel
theorem dX6_printSign_29 : decode cX6_printSign 29 = .ok (.iadd, 1) := by decide +kernel
theorem dX6_printSign_30 : decode cX6_printSign 30 = .ok (.putfield 36, 3) := by decide +kernel
theorem dX6_printSign_33 : decode cX6_printSign 33 = .ok (.return_, 1) := by decide +kernel
theorem dX7_init_0 : decode cX7_init 0 = .ok (.aload_n 0, 1) := by decide +kernel
theorem dX7_init_1 : decode cX7_init 1 = .ok (.invokespecial 3, 3) := by decide +kernel
theorem dX7_init_4 : decode cX7_init 4 = .ok (.aload_n 0, 1) := by decide +kernel
theorem dX7_init_5 : decode cX7_init 5 = .ok (.bipush 6, 2) := by decide +kernel
theorem dX7_init_7 : decode cX7_init 7 = .ok (.newarray .int, 2) := by decide +kernel
theorem dX7_init_9 : decode cX7_init 9 = .ok (.putfield 9, 3) := by decide +kernel
theorem dX7_init_12 : decode cX7_init 12 = .ok (.aload_n 0, 1) := by decide +kernel
theorem dX7_init_13 : decode cX7_init 13 = .ok (.bipush 6, 2) := by decide +kernel
theorem dX7_init_15 : decode cX7_init 15 = .ok (.newarray .int, 2) := by decide +kernel
theorem dX7_init_17 : decode cX7_init 17 = .ok (.putfield 15, 3) := by decide +kernel
theorem dX7_init_20 : decode cX7_init 20 = .ok (.aload_n 0, 1) := by decide +kernel
theorem dX7_init_21 : decode cX7_init 21 = .ok (.new 18, 3) := by decide +kernel
theorem dX7_init_24 : decode cX7_init 24 = .ok (.dup, 1) := by decide +kernel
theorem dX7_init_25 : decode cX7_init 25 = .ok (.aload_n 1, 1) := by decide +kernel
theorem dX7_init_26 : decode cX7_init 26 = .ok (.iload_n 2, 1) := by decide +kernel
theorem dX7_init_27 : decode cX7_init 27 = .ok (.invokespecial 20, 3) := by decide +kernel
theorem dX7_init_30 : decode cX7_init 30 = .ok (.putfield 23, 3) := by decide +kernel
theorem dX7_init_33 : decode cX7_init 33 = .ok (.aload_n 0, 1) := by decide +kernel
theorem dX7_init_34 : decode cX7_init 34 = .ok (.aload_n 3, 1) := by decide +kernel
theorem dX7_init_35 : decode cX7_init 35 = .ok (.putfield 27, 3) := by decide +kernel
theorem dX7_init_38 : decode cX7_init 38 = .ok (.aload_n 0, 1) := by decide +kernel
theorem dX7_init_39 : decode cX7_init 39 = .ok (.iload_n 2, 1) := by decide +kernel
theorem dX7_init_40 : decode cX7_init 40 = .ok (.bipush 7, 2) := by decide +kernel
theorem dX7_init_42 : decode cX7_init 42 = .ok (.idiv, 1) := by decide +kernel
theorem dX7_init_43 : decode cX7_init 43 = .ok (.iconst 1, 1) := by decide +kernel
theorem dX7_init_44 : decode cX7_init 44 = .ok (.iadd, 1) := by decide +kernel
theorem dX7_init_45 : decode cX7_init 45 = .ok (.newarray .long, 2) := by decide +kernel
theorem dX7_init_47 : decode cX7_init 47 = .ok (.putfield 31, 3) := by decide +kernel
theorem dX7_init_50 : decode cX7_init 50 = .ok (.aload_n 0, 1) := by decide +kernel
theorem dX7_init_51 : decode cX7_init 51 = .ok (.iload_n 2, 1) := by decide +kernel
theorem dX7_init_52 : decode cX7_init 52 = .ok (.newarray .int, 2) := by decide +kernel
theorem dX7_init_54 : decode cX7_init 54 = .ok (.putfield 35, 3) := by decide +kernel
theorem dX7_init_57 : decode cX7_init 57 = .ok (.return_, 1) := by decide +kernel
theorem dX7_fillEdition_0 : decode cX7_fillEdition 0 = .ok (.aload_n 0, 1) := by decide +kernel
theorem dX7_fillEdition_1 : decode cX7_fillEdition 1 = .ok (.getfield 23, 3) := by decide +kernel
theorem dX7_fillEdition_4 : decode cX7_fillEdition 4 = .ok (.invokevirtual 38, 3) := by decide +kernel
theorem dX7_fillEdition_7 : decode cX7_fillEdition 7 = .ok (.aload_n 0, 1) := by decide +kernel
theorem dX7_fillEdition_8 : decode cX7_fillEdition 8 = .ok (.invokevirtual 41, 3) := by decide +kernel
theorem dX7_fillEdition_11 : decode cX7_fillEdition 11 = .ok (.iconst 0, 1) := by decide +kernel
theorem dX7_fillEdition_12 : decode cX7_fillEdition 12 = .ok (.istore_n 1, 1) := by decide +kernel
theorem dX7_fillEdition_13 : decode cX7_fillEdition 13 = .ok (.iload_n 1, 1) := by decide +kernel
theorem dX7_fillEdition_14 : decode cX7_fillEdition 14 = .ok (.bipush 8, 2) := by decide +kernel
theorem dX7_fillEdition_16 : decode cX7_fillEdition 16 = .ok (.if_icmp .gt 23, 3) := by decide +kernel
theorem dX7_fillEdition_19 : decode cX7_fillEdition 19 = .ok (.aload_n 0, 1) := by decide +kernel
theorem dX7_fillEdition_20 : decode cX7_fillEdition 20 = .ok (.getfield 23, 3) := by decide +kernel
theorem dX7_fillEdition_23 : decode cX7_fillEdition 23 = .ok (.getfield 44, 3) := by decide +kernel
theorem dX7_fillEdition_26 : decode cX7_fillEdition 26 = .ok (.ifCond .ne 13, 3) := by decide +kernel
theorem dX7_fillEdition_29 : decode cX7_fillEdition 29 = .ok (.aload_n 0, 1) := by decide +kernel
theorem dX7_fillEdition_30 : decode cX7_fillEdition 30 = .ok (.invokevirtual 48, 3) := by decide +kernel
theorem dX7_fillEdition_33 : decode cX7_fillEdition 33 = .ok (.iinc 1 1, 3) := by decide +kernel
theorem dX7_fillEdition_36 : decode cX7_fillEdition 36 = .ok (.goto (-23), 3) := by decide +kernel
theorem dX7_fillEdition_39 : decode cX7_fillEdition 39 = .ok (.iconst 0, 1) := by decide +kernel
theorem dX7_fillEdition_40 : decode cX7_fillEdition 40 = .ok (.istore_n 1, 1) := by decide +kernel
theorem dX7_fillEdition_41 : decode cX7_fillEdition 41 = .ok (.iload_n 1, 1) := by decide +kernel
theorem dX7_fillEdition_42 : decode cX7_fillEdition 42 = .ok (.bipush 12, 2) := by decide +kernel
theorem dX7_fillEdition_44 : decode cX7_fillEdition 44 = .ok (.if_icmp .gt 24, 3) := by decide +kernel
theorem dX7_fillEdition_47 : decode cX7_fillEdition 47 = .ok (.aload_n 0, 1) := by decide +kernel
theorem dX7_fillEdition_48 : decode cX7_fillEdition 48 = .ok (.getfield 23, 3) := by decide +kernel
theorem dX7_fillEdition_51 : decode cX7_fillEdition 51 = .ok (.getfield 44, 3) := by decide +kernel
theorem dX7_fillEdition_54 : decode cX7_fillEdition 54 = .ok (.iconst 2, 1) := by decide +kernel
theorem dX7_fillEdition_55 : decode cX7_fillEdition 55 = .ok (.if_icmp .ne 13, 3) := by decide +kernel
theorem dX7_fillEdition_58 : decode cX7_fillEdition 58 = .ok (.aload_n 0, 1) := by decide +kernel
theorem dX7_fillEdition_59 : decode cX7_fillEdition 59 = .ok (.invokevirtual 51, 3) := by decide +kernel
theorem dX7_fillEdition_62 : decode cX7_fillEdition 62 = .ok (.iinc 1 1, 3) := by decide +kernel
theorem dX7_fillEdition_65 : decode cX7_fillEdition 65 = .ok (.goto (-24), 3) := by decide +kernel
theorem dX7_fillEdition_68 : decode cX7_fillEdition 68 = .ok (.aload_n 0, 1) := by decide +kernel
theorem dX7_fillEdition_69 : decode cX7_fillEdition 69 = .ok (.bipush 14, 2) := by decide +kernel
theorem dX7_fillEdition_71 : decode cX7_fillEdition 71 = .ok (.invokevirtual 54, 3) := by decide +kernel
theorem dX7_fillEdition_74 : decode cX7_fillEdition 74 = .ok (.goto 9, 3) := by decide +kernel
theorem dX7_fillEdition_77 : decode cX7_fillEdition 77 = .ok (.astore_n 1, 1) := by decide +kernel
theorem dX7_fillEdition_78 : decode cX7_fillEdition 78 = .ok (.aload_n 0, 1) := by decide +kernel
theorem dX7_fillEdition_79 : decode cX7_fillEdition 79 = .ok (.getfield 60, 3) := by decide +kernel
theorem dX7_fillEdition_82 : decode cX7_fillEdition 82 = .ok (.ireturn, 1) := by decide +kernel
theorem dX7_fillEdition_83 : decode cX7_fillEdition 83 = .ok (.iconst 0, 1) := by decide +kernel
theorem dX7_fillEdition_84 : decode cX7_fillEdition 84 = .ok (.ireturn, 1) := by decide +kernel
theorem dX7_fail_0 : decode cX7_fail 0 = .ok (.aload_n 0, 1) := by decide +kernel
theorem dX7_fail_1 : decode cX7_fail 1 = .ok (.iload_n 1, 1) := by decide +kernel
theorem dX7_fail_2 : decode cX7_fail 2 = .ok (.bipush 16, 2) := by decide +kernel
theorem dX7_fail_4 : decode cX7_fail 4 = .ok (.aload_n 0, 1) := by decide +kernel
theorem dX7_fail_5 : decode cX7_fail 5 = .ok (.getfield 23, 3) := by decide +kernel
theorem dX7_fail_8 : decode cX7_fail 8 = .ok (.getfield 63, 3) := by decide +kernel
theorem dX7_fail_11 : decode cX7_fail 11 = .ok (.imul, 1) := by decide +kernel
theorem dX7_fail_12 : decode cX7_fail 12 = .ok (.iadd, 1) := by decide +kernel
theorem dX7_fail_13 : decode cX7_fail 13 = .ok (.putfield 60, 3) := by decide +kernel
theorem dX7_fail_16 : decode cX7_fail 16 = .ok (.new 58, 3) := by decide +kernel
theorem dX7_fail_19 : decode cX7_fail 19 = .ok (.dup, 1) := by decide +kernel
theorem dX7_fail_20 : decode cX7_fail 20 = .ok (.ldc 66, 2) := by decide +kernel
theorem dX7_fail_22 : decode cX7_fail 22 = .ok (.invokespecial 68, 3) := by decide +kernel
theorem dX7_fail_25 : decode cX7_fail 25 = .ok (.athrow, 1) := by decide +kernel
theorem dX7_require_0 : decode cX7_require 0 = .ok (.aload_n 0, 1) := by decide +kernel
theorem dX7_require_1 : decode cX7_require 1 = .ok (.getfield 23, 3) := by decide +kernel
theorem dX7_require_4 : decode cX7_require 4 = .ok (.getfield 44, 3) := by decide +kernel
theorem dX7_require_7 : decode cX7_require 7 = .ok (.iload_n 1, 1) := by decide +kernel
theorem dX7_require_8 : decode cX7_require 8 = .ok (.if_icmp .eq 8, 3) := by decide +kernel
theorem dX7_require_11 : decode cX7_require 11 = .ok (.aload_n 0, 1) := by decide +kernel
theorem dX7_require_12 : decode cX7_require 12 = .ok (.iconst 1, 1) := by decide +kernel
theorem dX7_require_13 : decode cX7_require 13 = .ok (.invokevirtual 71, 3) := by decide +kernel
theorem dX7_require_16 : decode cX7_require 16 = .ok (.return_, 1) := by decide +kernel
theorem dX7_pass_0 : decode cX7_pass 0 = .ok (.aload_n 0, 1) := by decide +kernel
theorem dX7_pass_1 : decode cX7_pass 1 = .ok (.iload_n 1, 1) := by decide +kernel
theorem dX7_pass_2 : decode cX7_pass 2 = .ok (.invokevirtual 54, 3) := by decide +kernel
theorem dX7_pass_5 : decode cX7_pass 5 = .ok (.aload_n 0, 1) := by decide +kernel
theorem dX7_pass_6 : decode cX7_pass 6 = .ok (.getfield 23, 3) := by decide +kernel
theorem dX7_pass_9 : decode cX7_pass 9 = .ok (.invokevirtual 74, 3) := by decide +kernel
theorem dX7_pass_12 : decode cX7_pass 12 = .ok (.return_, 1) := by decide +kernel
theorem dX7_requireNumber_0 : decode cX7_requireNumber 0 = .ok (.aload_n 0, 1) := by decide +kernel
theorem dX7_requireNumber_1 : decode cX7_requireNumber 1 = .ok (.bipush 12, 2) := by decide +kernel
theorem dX7_requireNumber_3 : decode cX7_requireNumber 3 = .ok (.invokevirtual 54, 3) := by decide +kernel
theorem dX7_requireNumber_6 : decode cX7_requireNumber 6 = .ok (.aload_n 0, 1) := by decide +kernel
theorem dX7_requireNumber_7 : decode cX7_requireNumber 7 = .ok (.getfield 23, 3) := by decide +kernel
theorem dX7_requireNumber_10 : decode cX7_requireNumber 10 = .ok (.getfield 77, 3) := by decide +kernel
theorem dX7_requireNumber_13 : decode cX7_requireNumber 13 = .ok (.iload_n 1, 1) := by decide +kernel
theorem dX7_requireNumber_14 : decode cX7_requireNumber 14 = .ok (.i2l, 1) := by decide +kernel
theorem dX7_requireNumber_15 : decode cX7_requireNumber 15 = .ok (.lcmp, 1) := by decide +kernel
theorem dX7_requireNumber_16 : decode cX7_requireNumber 16 = .ok (.ifCond .lt 17, 3) := by decide +kernel
theorem dX7_requireNumber_19 : decode cX7_requireNumber 19 = .ok (.aload_n 0, 1) := by decide +kernel
theorem dX7_requireNumber_20 : decode cX7_requireNumber 20 = .ok (.getfield 23, 3) := by decide +kernel
theorem dX7_requireNumber_23 : decode cX7_requireNumber 23 = .ok (.getfield 77, 3) := by decide +kernel
theorem dX7_requireNumber_26 : decode cX7_requireNumber 26 = .ok (.ldc2_w 81, 3) := by decide +kernel
theorem dX7_requireNumber_29 : decode cX7_requireNumber 29 = .ok (.lcmp, 1) := by decide +kernel
theorem dX7_requireNumber_30 : decode cX7_requireNumber 30 = .ok (.ifCond .le 8, 3) := by decide +kernel
theorem dX7_requireNumber_33 : decode cX7_requireNumber 33 = .ok (.aload_n 0, 1) := by decide +kernel
theorem dX7_requireNumber_34 : decode cX7_requireNumber 34 = .ok (.iconst 4, 1) := by decide +kernel
theorem dX7_requireNumber_35 : decode cX7_requireNumber 35 = .ok (.invokevirtual 71, 3) := by decide +kernel
theorem dX7_requireNumber_38 : decode cX7_requireNumber 38 = .ok (.aload_n 0, 1) := by decide +kernel
theorem dX7_requireNumber_39 : decode cX7_requireNumber 39 = .ok (.getfield 23, 3) := by decide +kernel
theorem dX7_requireNumber_42 : decode cX7_requireNumber 42 = .ok (.getfield 77, 3) := by decide +kernel
theorem dX7_requireNumber_45 : decode cX7_requireNumber 45 = .ok (.l2i, 1) := by decide +kernel
theorem dX7_requireNumber_46 : decode cX7_requireNumber 46 = .ok (.ireturn, 1) := by decide +kernel
theorem dX7_findToldNames_0 : decode cX7_findToldNames 0 = .ok (.iconst 1, 1) := by decide +kernel
theorem dX7_findToldNames_1 : decode cX7_findToldNames 1 = .ok (.istore_n 1, 1) := by decide +kernel
theorem dX7_findToldNames_2 : decode cX7_findToldNames 2 = .ok (.iload_n 1, 1) := by decide +kernel
theorem dX7_findToldNames_3 : decode cX7_findToldNames 3 = .ok (.aload_n 0, 1) := by decide +kernel
theorem dX7_findToldNames_4 : decode cX7_findToldNames 4 = .ok (.getfield 23, 3) := by decide +kernel
theorem dX7_findToldNames_7 : decode cX7_findToldNames 7 = .ok (.getfield 83, 3) := by decide +kernel
theorem dX7_findToldNames_10 : decode cX7_findToldNames 10 = .ok (.if_icmp .ge 60, 3) := by decide +kernel
theorem dX7_findToldNames_13 : decode cX7_findToldNames 13 = .ok (.aload_n 0, 1) := by decide +kernel
theorem dX7_findToldNames_14 : decode cX7_findToldNames 14 = .ok (.getfield 23, 3) := by decide +kernel
theorem dX7_findToldNames_17 : decode cX7_findToldNames 17 = .ok (.iload_n 1, 1) := by decide +kernel
theorem dX7_findToldNames_18 : decode cX7_findToldNames 18 = .ok (.invokevirtual 86, 3) := by decide +kernel
theorem dX7_findToldNames_21 : decode cX7_findToldNames 21 = .ok (.ifCond .eq 43, 3) := by decide +kernel
theorem dX7_findToldNames_24 : decode cX7_findToldNames 24 = .ok (.aload_n 0, 1) := by decide +kernel
theorem dX7_findToldNames_25 : decode cX7_findToldNames 25 = .ok (.getfield 90, 3) := by decide +kernel
theorem dX7_findToldNames_28 : decode cX7_findToldNames 28 = .ok (.aload_n 0, 1) := by decide +kernel
theorem dX7_findToldNames_29 : decode cX7_findToldNames 29 = .ok (.getfield 31, 3) := by decide +kernel
theorem dX7_findToldNames_32 : decode cX7_findToldNames 32 = .ok (.arraylength, 1) := by decide +kernel
theorem dX7_findToldNames_33 : decode cX7_findToldNames 33 = .ok (.if_icmp .ge 31, 3) := by decide +kernel
theorem dX7_findToldNames_36 : decode cX7_findToldNames 36 = .ok (.aload_n 0, 1) := by decide +kernel
theorem dX7_findToldNames_37 : decode cX7_findToldNames 37 = .ok (.getfield 31, 3) := by decide +kernel
theorem dX7_findToldNames_40 : decode cX7_findToldNames 40 = .ok (.aload_n 0, 1) := by decide +kernel
theorem dX7_findToldNames_41 : decode cX7_findToldNames 41 = .ok (.getfield 90, 3) := by decide +kernel
theorem dX7_findToldNames_44 : decode cX7_findToldNames 44 = .ok (.aload_n 0, 1) := by decide +kernel
theorem dX7_findToldNames_45 : decode cX7_findToldNames 45 = .ok (.getfield 23, 3) := by decide +kernel
theorem dX7_findToldNames_48 : decode cX7_findToldNames 48 = .ok (.getfield 93, 3) := by decide +kernel
theorem dX7_findToldNames_51 : decode cX7_findToldNames 51 = .ok (.iload_n 1, 1) := by decide +kernel
theorem dX7_findToldNames_52 : decode cX7_findToldNames 52 = .ok (.laload, 1) := by decide +kernel
theorem dX7_findToldNames_53 : decode cX7_findToldNames 53 = .ok (.lastore, 1) := by decide +kernel
theorem dX7_findToldNames_54 : decode cX7_findToldNames 54 = .ok (.aload_n 0, 1) := by decide +kernel
theorem dX7_findToldNames_55 : decode cX7_findToldNames 55 = .ok (.dup, 1) := by decide +kernel
theorem dX7_findToldNames_56 : decode cX7_findToldNames 56 = .ok (.getfield 90, 3) := by decide +kernel
theorem dX7_findToldNames_59 : decode cX7_findToldNames 59 = .ok (.iconst 1, 1) := by decide +kernel
theorem dX7_findToldNames_60 : decode cX7_findToldNames 60 = .ok (.iadd, 1) := by decide +kernel
theorem dX7_findToldNames_61 : decode cX7_findToldNames 61 = .ok (.putfield 90, 3) := by decide +kernel
theorem dX7_findToldNames_64 : decode cX7_findToldNames 64 = .ok (.iinc 1 1, 3) := by decide +kernel
theorem dX7_findToldNames_67 : decode cX7_findToldNames 67 = .ok (.goto (-65), 3) := by decide +kernel
theorem dX7_findToldNames_70 : decode cX7_findToldNames 70 = .ok (.return_, 1) := by decide +kernel
theorem dX7_readFact_0 : decode cX7_readFact 0 = .ok (.aload_n 0, 1) := by decide +kernel
