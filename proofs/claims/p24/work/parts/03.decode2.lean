theorem dX8_init_0 : decode cX8_init 0 = .ok (.aload_n 0, 1) := by decide +kernel
theorem dX8_init_1 : decode cX8_init 1 = .ok (.invokespecial 3, 3) := by decide +kernel
theorem dX8_init_4 : decode cX8_init 4 = .ok (.aload_n 0, 1) := by decide +kernel
theorem dX8_init_5 : decode cX8_init 5 = .ok (.new 9, 3) := by decide +kernel
theorem dX8_init_8 : decode cX8_init 8 = .ok (.dup, 1) := by decide +kernel
theorem dX8_init_9 : decode cX8_init 9 = .ok (.invokespecial 11, 3) := by decide +kernel
theorem dX8_init_12 : decode cX8_init 12 = .ok (.putfield 12, 3) := by decide +kernel
theorem dX8_init_15 : decode cX8_init 15 = .ok (.aload_n 0, 1) := by decide +kernel
theorem dX8_init_16 : decode cX8_init 16 = .ok (.new 9, 3) := by decide +kernel
theorem dX8_init_19 : decode cX8_init 19 = .ok (.dup, 1) := by decide +kernel
theorem dX8_init_20 : decode cX8_init 20 = .ok (.invokespecial 11, 3) := by decide +kernel
theorem dX8_init_23 : decode cX8_init 23 = .ok (.putfield 16, 3) := by decide +kernel
theorem dX8_init_26 : decode cX8_init 26 = .ok (.aload_n 0, 1) := by decide +kernel
theorem dX8_init_27 : decode cX8_init 27 = .ok (.new 19, 3) := by decide +kernel
theorem dX8_init_30 : decode cX8_init 30 = .ok (.dup, 1) := by decide +kernel
theorem dX8_init_31 : decode cX8_init 31 = .ok (.invokespecial 21, 3) := by decide +kernel
theorem dX8_init_34 : decode cX8_init 34 = .ok (.putfield 22, 3) := by decide +kernel
theorem dX8_init_37 : decode cX8_init 37 = .ok (.aload_n 0, 1) := by decide +kernel
theorem dX8_init_38 : decode cX8_init 38 = .ok (.new 26, 3) := by decide +kernel
theorem dX8_init_41 : decode cX8_init 41 = .ok (.dup, 1) := by decide +kernel
theorem dX8_init_42 : decode cX8_init 42 = .ok (.invokespecial 28, 3) := by decide +kernel
theorem dX8_init_45 : decode cX8_init 45 = .ok (.putfield 29, 3) := by decide +kernel
theorem dX8_init_48 : decode cX8_init 48 = .ok (.aload_n 0, 1) := by decide +kernel
theorem dX8_init_49 : decode cX8_init 49 = .ok (.new 33, 3) := by decide +kernel
theorem dX8_init_52 : decode cX8_init 52 = .ok (.dup, 1) := by decide +kernel
theorem dX8_init_53 : decode cX8_init 53 = .ok (.invokespecial 35, 3) := by decide +kernel
theorem dX8_init_56 : decode cX8_init 56 = .ok (.putfield 36, 3) := by decide +kernel
theorem dX8_init_59 : decode cX8_init 59 = .ok (.aload_n 0, 1) := by decide +kernel
theorem dX8_init_60 : decode cX8_init 60 = .ok (.new 40, 3) := by decide +kernel
theorem dX8_init_63 : decode cX8_init 63 = .ok (.dup, 1) := by decide +kernel
theorem dX8_init_64 : decode cX8_init 64 = .ok (.bipush 20, 2) := by decide +kernel
theorem dX8_init_66 : decode cX8_init 66 = .ok (.invokespecial 42, 3) := by decide +kernel
theorem dX8_init_69 : decode cX8_init 69 = .ok (.putfield 45, 3) := by decide +kernel
theorem dX8_init_72 : decode cX8_init 72 = .ok (.return_, 1) := by decide +kernel
theorem dX8_leaveOut_0 : decode cX8_leaveOut 0 = .ok (.iload_n 1, 1) := by decide +kernel
theorem dX8_leaveOut_1 : decode cX8_leaveOut 1 = .ok (.bipush 65, 2) := by decide +kernel
theorem dX8_leaveOut_3 : decode cX8_leaveOut 3 = .ok (.isub, 1) := by decide +kernel
theorem dX8_leaveOut_4 : decode cX8_leaveOut 4 = .ok (.istore_n 3, 1) := by decide +kernel
theorem dX8_leaveOut_5 : decode cX8_leaveOut 5 = .ok (.iload_n 3, 1) := by decide +kernel
theorem dX8_leaveOut_6 : decode cX8_leaveOut 6 = .ok (.ifCond .lt 9, 3) := by decide +kernel
theorem dX8_leaveOut_9 : decode cX8_leaveOut 9 = .ok (.iload_n 3, 1) := by decide +kernel
theorem dX8_leaveOut_10 : decode cX8_leaveOut 10 = .ok (.bipush 26, 2) := by decide +kernel
theorem dX8_leaveOut_12 : decode cX8_leaveOut 12 = .ok (.if_icmp .lt 5, 3) := by decide +kernel
theorem dX8_leaveOut_15 : decode cX8_leaveOut 15 = .ok (.iconst (-1), 1) := by decide +kernel
theorem dX8_leaveOut_16 : decode cX8_leaveOut 16 = .ok (.ireturn, 1) := by decide +kernel
theorem dX8_leaveOut_17 : decode cX8_leaveOut 17 = .ok (.aload_n 0, 1) := by decide +kernel
theorem dX8_leaveOut_18 : decode cX8_leaveOut 18 = .ok (.getfield 12, 3) := by decide +kernel
theorem dX8_leaveOut_21 : decode cX8_leaveOut 21 = .ok (.getfield 51, 3) := by decide +kernel
theorem dX8_leaveOut_24 : decode cX8_leaveOut 24 = .ok (.iload_n 3, 1) := by decide +kernel
theorem dX8_leaveOut_25 : decode cX8_leaveOut 25 = .ok (.invokevirtual 55, 3) := by decide +kernel
theorem dX8_leaveOut_28 : decode cX8_leaveOut 28 = .ok (.ifCond .ne 7, 3) := by decide +kernel
theorem dX8_leaveOut_31 : decode cX8_leaveOut 31 = .ok (.iconst 1, 1) := by decide +kernel
theorem dX8_leaveOut_32 : decode cX8_leaveOut 32 = .ok (.goto 4, 3) := by decide +kernel
theorem dX8_leaveOut_35 : decode cX8_leaveOut 35 = .ok (.iconst 0, 1) := by decide +kernel
theorem dX8_leaveOut_36 : decode cX8_leaveOut 36 = .ok (.istore 4, 2) := by decide +kernel
theorem dX8_leaveOut_38 : decode cX8_leaveOut 38 = .ok (.iload_n 2, 1) := by decide +kernel
theorem dX8_leaveOut_39 : decode cX8_leaveOut 39 = .ok (.ifCond .eq 25, 3) := by decide +kernel
theorem dX8_leaveOut_42 : decode cX8_leaveOut 42 = .ok (.iload 4, 2) := by decide +kernel
theorem dX8_leaveOut_44 : decode cX8_leaveOut 44 = .ok (.ifCond .ne 20, 3) := by decide +kernel
theorem dX8_leaveOut_47 : decode cX8_leaveOut 47 = .ok (.aload_n 0, 1) := by decide +kernel
theorem dX8_leaveOut_48 : decode cX8_leaveOut 48 = .ok (.getfield 12, 3) := by decide +kernel
theorem dX8_leaveOut_51 : decode cX8_leaveOut 51 = .ok (.getfield 51, 3) := by decide +kernel
theorem dX8_leaveOut_54 : decode cX8_leaveOut 54 = .ok (.invokevirtual 61, 3) := by decide +kernel
theorem dX8_leaveOut_57 : decode cX8_leaveOut 57 = .ok (.iconst 1, 1) := by decide +kernel
theorem dX8_leaveOut_58 : decode cX8_leaveOut 58 = .ok (.if_icmp .ne 6, 3) := by decide +kernel
theorem dX8_leaveOut_61 : decode cX8_leaveOut 61 = .ok (.bipush (-4), 2) := by decide +kernel
theorem dX8_leaveOut_63 : decode cX8_leaveOut 63 = .ok (.ireturn, 1) := by decide +kernel
theorem dX8_leaveOut_64 : decode cX8_leaveOut 64 = .ok (.iload_n 2, 1) := by decide +kernel
theorem dX8_leaveOut_65 : decode cX8_leaveOut 65 = .ok (.iload 4, 2) := by decide +kernel
theorem dX8_leaveOut_67 : decode cX8_leaveOut 67 = .ok (.if_icmp .ne 6, 3) := by decide +kernel
theorem dX8_leaveOut_70 : decode cX8_leaveOut 70 = .ok (.bipush (-5), 2) := by decide +kernel
theorem dX8_leaveOut_72 : decode cX8_leaveOut 72 = .ok (.ireturn, 1) := by decide +kernel
theorem dX8_leaveOut_73 : decode cX8_leaveOut 73 = .ok (.aload_n 0, 1) := by decide +kernel
theorem dX8_leaveOut_74 : decode cX8_leaveOut 74 = .ok (.getfield 22, 3) := by decide +kernel
theorem dX8_leaveOut_77 : decode cX8_leaveOut 77 = .ok (.aload_n 0, 1) := by decide +kernel
theorem dX8_leaveOut_78 : decode cX8_leaveOut 78 = .ok (.getfield 12, 3) := by decide +kernel
theorem dX8_leaveOut_81 : decode cX8_leaveOut 81 = .ok (.invokevirtual 65, 3) := by decide +kernel
theorem dX8_leaveOut_84 : decode cX8_leaveOut 84 = .ok (.aload_n 0, 1) := by decide +kernel
theorem dX8_leaveOut_85 : decode cX8_leaveOut 85 = .ok (.getfield 12, 3) := by decide +kernel
theorem dX8_leaveOut_88 : decode cX8_leaveOut 88 = .ok (.getfield 51, 3) := by decide +kernel
theorem dX8_leaveOut_91 : decode cX8_leaveOut 91 = .ok (.iload_n 3, 1) := by decide +kernel
theorem dX8_leaveOut_92 : decode cX8_leaveOut 92 = .ok (.invokevirtual 69, 3) := by decide +kernel
theorem dX8_leaveOut_95 : decode cX8_leaveOut 95 = .ok (.aload_n 0, 1) := by decide +kernel
theorem dX8_leaveOut_96 : decode cX8_leaveOut 96 = .ok (.getfield 12, 3) := by decide +kernel
theorem dX8_leaveOut_99 : decode cX8_leaveOut 99 = .ok (.getfield 51, 3) := by decide +kernel
theorem dX8_leaveOut_102 : decode cX8_leaveOut 102 = .ok (.invokevirtual 61, 3) := by decide +kernel
theorem dX8_leaveOut_105 : decode cX8_leaveOut 105 = .ok (.ireturn, 1) := by decide +kernel
theorem dX8_setSigning_0 : decode cX8_setSigning 0 = .ok (.iload_n 1, 1) := by decide +kernel
theorem dX8_setSigning_1 : decode cX8_setSigning 1 = .ok (.ifCond .lt 8, 3) := by decide +kernel
theorem dX8_setSigning_4 : decode cX8_setSigning 4 = .ok (.iload_n 1, 1) := by decide +kernel
theorem dX8_setSigning_5 : decode cX8_setSigning 5 = .ok (.iconst 2, 1) := by decide +kernel
theorem dX8_setSigning_6 : decode cX8_setSigning 6 = .ok (.if_icmp .le 6, 3) := by decide +kernel
theorem dX8_setSigning_9 : decode cX8_setSigning 9 = .ok (.bipush (-2), 2) := by decide +kernel
theorem dX8_setSigning_11 : decode cX8_setSigning 11 = .ok (.ireturn, 1) := by decide +kernel
theorem dX8_setSigning_12 : decode cX8_setSigning 12 = .ok (.iload_n 1, 1) := by decide +kernel
theorem dX8_setSigning_13 : decode cX8_setSigning 13 = .ok (.aload_n 0, 1) := by decide +kernel
theorem dX8_setSigning_14 : decode cX8_setSigning 14 = .ok (.getfield 12, 3) := by decide +kernel
theorem dX8_setSigning_17 : decode cX8_setSigning 17 = .ok (.getfield 72, 3) := by decide +kernel
theorem dX8_setSigning_20 : decode cX8_setSigning 20 = .ok (.if_icmp .ne 6, 3) := by decide +kernel
theorem dX8_setSigning_23 : decode cX8_setSigning 23 = .ok (.bipush (-5), 2) := by decide +kernel
theorem dX8_setSigning_25 : decode cX8_setSigning 25 = .ok (.ireturn, 1) := by decide +kernel
theorem dX8_setSigning_26 : decode cX8_setSigning 26 = .ok (.aload_n 0, 1) := by decide +kernel
theorem dX8_setSigning_27 : decode cX8_setSigning 27 = .ok (.getfield 22, 3) := by decide +kernel
theorem dX8_setSigning_30 : decode cX8_setSigning 30 = .ok (.aload_n 0, 1) := by decide +kernel
theorem dX8_setSigning_31 : decode cX8_setSigning 31 = .ok (.getfield 12, 3) := by decide +kernel
theorem dX8_setSigning_34 : decode cX8_setSigning 34 = .ok (.invokevirtual 65, 3) := by decide +kernel
theorem dX8_setSigning_37 : decode cX8_setSigning 37 = .ok (.aload_n 0, 1) := by decide +kernel
theorem dX8_setSigning_38 : decode cX8_setSigning 38 = .ok (.getfield 12, 3) := by decide +kernel
theorem dX8_setSigning_41 : decode cX8_setSigning 41 = .ok (.iload_n 1, 1) := by decide +kernel
theorem dX8_setSigning_42 : decode cX8_setSigning 42 = .ok (.putfield 72, 3) := by decide +kernel
theorem dX8_setSigning_45 : decode cX8_setSigning 45 = .ok (.aload_n 0, 1) := by decide +kernel
theorem dX8_setSigning_46 : decode cX8_setSigning 46 = .ok (.getfield 12, 3) := by decide +kernel
theorem dX8_setSigning_49 : decode cX8_setSigning 49 = .ok (.invokevirtual 76, 3) := by decide +kernel
theorem dX8_setSigning_52 : decode cX8_setSigning 52 = .ok (.ireturn, 1) := by decide +kernel
theorem dX8_readFormula_0 : decode cX8_readFormula 0 = .ok (.aload_n 0, 1) := by decide +kernel
theorem dX8_readFormula_1 : decode cX8_readFormula 1 = .ok (.getfield 29, 3) := by decide +kernel
theorem dX8_readFormula_4 : decode cX8_readFormula 4 = .ok (.aload_n 0, 1) := by decide +kernel
theorem dX8_readFormula_5 : decode cX8_readFormula 5 = .ok (.getfield 12, 3) := by decide +kernel
theorem dX8_readFormula_8 : decode cX8_readFormula 8 = .ok (.getfield 51, 3) := by decide +kernel
theorem dX8_readFormula_11 : decode cX8_readFormula 11 = .ok (.invokevirtual 79, 3) := by decide +kernel
theorem dX8_readFormula_14 : decode cX8_readFormula 14 = .ok (.istore_n 1, 1) := by decide +kernel
theorem dX8_readFormula_15 : decode cX8_readFormula 15 = .ok (.iload_n 1, 1) := by decide +kernel
theorem dX8_readFormula_16 : decode cX8_readFormula 16 = .ok (.iconst (-1), 1) := by decide +kernel
theorem dX8_readFormula_17 : decode cX8_readFormula 17 = .ok (.if_icmp .eq 8, 3) := by decide +kernel
theorem dX8_readFormula_20 : decode cX8_readFormula 20 = .ok (.bipush (-100), 2) := by decide +kernel
theorem dX8_readFormula_22 : decode cX8_readFormula 22 = .ok (.iload_n 1, 1) := by decide +kernel
theorem dX8_readFormula_23 : decode cX8_readFormula 23 = .ok (.isub, 1) := by decide +kernel
theorem dX8_readFormula_24 : decode cX8_readFormula 24 = .ok (.ireturn, 1) := by decide +kernel
theorem dX8_readFormula_25 : decode cX8_readFormula 25 = .ok (.aload_n 0, 1) := by decide +kernel
theorem dX8_readFormula_26 : decode cX8_readFormula 26 = .ok (.getfield 12, 3) := by decide +kernel
theorem dX8_readFormula_29 : decode cX8_readFormula 29 = .ok (.invokevirtual 83, 3) := by decide +kernel
theorem dX8_readFormula_32 : decode cX8_readFormula 32 = .ok (.aload_n 0, 1) := by decide +kernel
theorem dX8_readFormula_33 : decode cX8_readFormula 33 = .ok (.invokevirtual 86, 3) := by decide +kernel
theorem dX8_readFormula_36 : decode cX8_readFormula 36 = .ok (.iadd, 1) := by decide +kernel
theorem dX8_readFormula_37 : decode cX8_readFormula 37 = .ok (.bipush 40, 2) := by decide +kernel
theorem dX8_readFormula_39 : decode cX8_readFormula 39 = .ok (.if_icmp .le 6, 3) := by decide +kernel
theorem dX8_readFormula_42 : decode cX8_readFormula 42 = .ok (.bipush (-3), 2) := by decide +kernel
theorem dX8_readFormula_44 : decode cX8_readFormula 44 = .ok (.ireturn, 1) := by decide +kernel
theorem dX8_readFormula_45 : decode cX8_readFormula 45 = .ok (.aload_n 0, 1) := by decide +kernel
theorem dX8_readFormula_46 : decode cX8_readFormula 46 = .ok (.getfield 22, 3) := by decide +kernel
theorem dX8_readFormula_49 : decode cX8_readFormula 49 = .ok (.aload_n 0, 1) := by decide +kernel
theorem dX8_readFormula_50 : decode cX8_readFormula 50 = .ok (.getfield 12, 3) := by decide +kernel
theorem dX8_readFormula_53 : decode cX8_readFormula 53 = .ok (.invokevirtual 65, 3) := by decide +kernel
theorem dX8_readFormula_56 : decode cX8_readFormula 56 = .ok (.iconst 0, 1) := by decide +kernel
theorem dX8_readFormula_57 : decode cX8_readFormula 57 = .ok (.istore_n 2, 1) := by decide +kernel
theorem dX8_readFormula_58 : decode cX8_readFormula 58 = .ok (.iload_n 2, 1) := by decide +kernel
theorem dX8_readFormula_59 : decode cX8_readFormula 59 = .ok (.aload_n 0, 1) := by decide +kernel
theorem dX8_readFormula_60 : decode cX8_readFormula 60 = .ok (.getfield 29, 3) := by decide +kernel
theorem dX8_readFormula_63 : decode cX8_readFormula 63 = .ok (.invokevirtual 89, 3) := by decide +kernel
theorem dX8_readFormula_66 : decode cX8_readFormula 66 = .ok (.if_icmp .ge 14, 3) := by decide +kernel
theorem dX8_readFormula_69 : decode cX8_readFormula 69 = .ok (.aload_n 0, 1) := by decide +kernel
theorem dX8_readFormula_70 : decode cX8_readFormula 70 = .ok (.iload_n 2, 1) := by decide +kernel
theorem dX8_readFormula_71 : decode cX8_readFormula 71 = .ok (.invokevirtual 92, 3) := by decide +kernel
theorem dX8_readFormula_74 : decode cX8_readFormula 74 = .ok (.iinc 2 1, 3) := by decide +kernel
theorem dX8_readFormula_77 : decode cX8_readFormula 77 = .ok (.goto (-19), 3) := by decide +kernel
theorem dX8_readFormula_80 : decode cX8_readFormula 80 = .ok (.aload_n 0, 1) := by decide +kernel
theorem dX8_readFormula_81 : decode cX8_readFormula 81 = .ok (.getfield 12, 3) := by decide +kernel
theorem dX8_readFormula_84 : decode cX8_readFormula 84 = .ok (.invokevirtual 83, 3) := by decide +kernel
theorem dX8_readFormula_87 : decode cX8_readFormula 87 = .ok (.ireturn, 1) := by decide +kernel
theorem dX8_signNext_0 : decode cX8_signNext 0 = .ok (.iload_n 1, 1) := by decide +kernel
theorem dX8_signNext_1 : decode cX8_signNext 1 = .ok (.invokestatic 95, 3) := by decide +kernel
theorem dX8_signNext_4 : decode cX8_signNext 4 = .ok (.ifCond .ne 6, 3) := by decide +kernel
theorem dX8_signNext_7 : decode cX8_signNext 7 = .ok (.bipush (-2), 2) := by decide +kernel
theorem dX8_signNext_9 : decode cX8_signNext 9 = .ok (.ireturn, 1) := by decide +kernel
theorem dX8_signNext_10 : decode cX8_signNext 10 = .ok (.aload_n 0, 1) := by decide +kernel
theorem dX8_signNext_11 : decode cX8_signNext 11 = .ok (.getfield 12, 3) := by decide +kernel
theorem dX8_signNext_14 : decode cX8_signNext 14 = .ok (.invokevirtual 83, 3) := by decide +kernel
theorem dX8_signNext_17 : decode cX8_signNext 17 = .ok (.bipush 40, 2) := by decide +kernel
theorem dX8_signNext_19 : decode cX8_signNext 19 = .ok (.if_icmp .lt 6, 3) := by decide +kernel
theorem dX8_signNext_22 : decode cX8_signNext 22 = .ok (.bipush (-3), 2) := by decide +kernel
theorem dX8_signNext_24 : decode cX8_signNext 24 = .ok (.ireturn, 1) := by decide +kernel
theorem dX8_signNext_25 : decode cX8_signNext 25 = .ok (.aload_n 0, 1) := by decide +kernel
theorem dX8_signNext_26 : decode cX8_signNext 26 = .ok (.getfield 12, 3) := by decide +kernel
theorem dX8_signNext_29 : decode cX8_signNext 29 = .ok (.getfield 51, 3) := by decide +kernel
theorem dX8_signNext_32 : decode cX8_signNext 32 = .ok (.aload_n 0, 1) := by decide +kernel
theorem dX8_signNext_33 : decode cX8_signNext 33 = .ok (.getfield 12, 3) := by decide +kernel
theorem dX8_signNext_36 : decode cX8_signNext 36 = .ok (.aload_n 0, 1) := by decide +kernel
theorem dX8_signNext_37 : decode cX8_signNext 37 = .ok (.getfield 12, 3) := by decide +kernel
theorem dX8_signNext_40 : decode cX8_signNext 40 = .ok (.invokevirtual 83, 3) := by decide +kernel
theorem dX8_signNext_43 : decode cX8_signNext 43 = .ok (.invokevirtual 98, 3) := by decide +kernel
theorem dX8_signNext_46 : decode cX8_signNext 46 = .ok (.invokevirtual 102, 3) := by decide +kernel
theorem dX8_signNext_49 : decode cX8_signNext 49 = .ok (.istore_n 2, 1) := by decide +kernel
theorem dX8_signNext_50 : decode cX8_signNext 50 = .ok (.iload_n 2, 1) := by decide +kernel
theorem dX8_signNext_51 : decode cX8_signNext 51 = .ok (.iconst (-1), 1) := by decide +kernel
theorem dX8_signNext_52 : decode cX8_signNext 52 = .ok (.if_icmp .ne 6, 3) := by decide +kernel
theorem dX8_signNext_55 : decode cX8_signNext 55 = .ok (.bipush (-4), 2) := by decide +kernel
theorem dX8_signNext_57 : decode cX8_signNext 57 = .ok (.ireturn, 1) := by decide +kernel
theorem dX8_signNext_58 : decode cX8_signNext 58 = .ok (.aload_n 0, 1) := by decide +kernel
theorem dX8_signNext_59 : decode cX8_signNext 59 = .ok (.getfield 22, 3) := by decide +kernel
theorem dX8_signNext_62 : decode cX8_signNext 62 = .ok (.aload_n 0, 1) := by decide +kernel
theorem dX8_signNext_63 : decode cX8_signNext 63 = .ok (.getfield 12, 3) := by decide +kernel
theorem dX8_signNext_66 : decode cX8_signNext 66 = .ok (.invokevirtual 65, 3) := by decide +kernel
theorem dX8_signNext_69 : decode cX8_signNext 69 = .ok (.aload_n 0, 1) := by decide +kernel
theorem dX8_signNext_70 : decode cX8_signNext 70 = .ok (.getfield 12, 3) := by decide +kernel
theorem dX8_signNext_73 : decode cX8_signNext 73 = .ok (.aload_n 0, 1) := by decide +kernel
theorem dX8_signNext_74 : decode cX8_signNext 74 = .ok (.getfield 12, 3) := by decide +kernel
theorem dX8_signNext_77 : decode cX8_signNext 77 = .ok (.invokevirtual 83, 3) := by decide +kernel
theorem dX8_signNext_80 : decode cX8_signNext 80 = .ok (.iload_n 2, 1) := by decide +kernel
theorem dX8_signNext_81 : decode cX8_signNext 81 = .ok (.iload_n 1, 1) := by decide +kernel
theorem dX8_signNext_82 : decode cX8_signNext 82 = .ok (.invokevirtual 105, 3) := by decide +kernel
theorem dX8_signNext_85 : decode cX8_signNext 85 = .ok (.aload_n 0, 1) := by decide +kernel
theorem dX8_signNext_86 : decode cX8_signNext 86 = .ok (.getfield 12, 3) := by decide +kernel
theorem dX8_signNext_89 : decode cX8_signNext 89 = .ok (.invokevirtual 83, 3) := by decide +kernel
theorem dX8_signNext_92 : decode cX8_signNext 92 = .ok (.iconst 1, 1) := by decide +kernel
theorem dX8_signNext_93 : decode cX8_signNext 93 = .ok (.isub, 1) := by decide +kernel
theorem dX8_signNext_94 : decode cX8_signNext 94 = .ok (.ireturn, 1) := by decide +kernel
theorem dX8_insert_0 : decode cX8_insert 0 = .ok (.iload_n 1, 1) := by decide +kernel
theorem dX8_insert_1 : decode cX8_insert 1 = .ok (.ifCond .lt 14, 3) := by decide +kernel
theorem dX8_insert_4 : decode cX8_insert 4 = .ok (.iload_n 1, 1) := by decide +kernel
theorem dX8_insert_5 : decode cX8_insert 5 = .ok (.aload_n 0, 1) := by decide +kernel
theorem dX8_insert_6 : decode cX8_insert 6 = .ok (.getfield 12, 3) := by decide +kernel
theorem dX8_insert_9 : decode cX8_insert 9 = .ok (.invokevirtual 83, 3) := by decide +kernel
theorem dX8_insert_12 : decode cX8_insert 12 = .ok (.if_icmp .le 5, 3) := by decide +kernel
theorem dX8_insert_15 : decode cX8_insert 15 = .ok (.iconst (-1), 1) := by decide +kernel
theorem dX8_insert_16 : decode cX8_insert 16 = .ok (.ireturn, 1) := by decide +kernel
theorem dX8_insert_17 : decode cX8_insert 17 = .ok (.iload_n 2, 1) := by decide +kernel
theorem dX8_insert_18 : decode cX8_insert 18 = .ok (.iconst 1, 1) := by decide +kernel
theorem dX8_insert_19 : decode cX8_insert 19 = .ok (.if_icmp .lt 15, 3) := by decide +kernel
theorem dX8_insert_22 : decode cX8_insert 22 = .ok (.iload_n 2, 1) := by decide +kernel
theorem dX8_insert_23 : decode cX8_insert 23 = .ok (.iconst 5, 1) := by decide +kernel
theorem dX8_insert_24 : decode cX8_insert 24 = .ok (.if_icmp .gt 10, 3) := by decide +kernel
theorem dX8_insert_27 : decode cX8_insert 27 = .ok (.iload_n 3, 1) := by decide +kernel
theorem dX8_insert_28 : decode cX8_insert 28 = .ok (.invokestatic 95, 3) := by decide +kernel
theorem dX8_insert_31 : decode cX8_insert 31 = .ok (.ifCond .ne 6, 3) := by decide +kernel
theorem dX8_insert_34 : decode cX8_insert 34 = .ok (.bipush (-2), 2) := by decide +kernel
theorem dX8_insert_36 : decode cX8_insert 36 = .ok (.ireturn, 1) := by decide +kernel
theorem dX8_insert_37 : decode cX8_insert 37 = .ok (.aload_n 0, 1) := by decide +kernel
theorem dX8_insert_38 : decode cX8_insert 38 = .ok (.getfield 12, 3) := by decide +kernel
theorem dX8_insert_41 : decode cX8_insert 41 = .ok (.invokevirtual 83, 3) := by decide +kernel
theorem dX8_insert_44 : decode cX8_insert 44 = .ok (.bipush 40, 2) := by decide +kernel
theorem dX8_insert_46 : decode cX8_insert 46 = .ok (.if_icmp .lt 6, 3) := by decide +kernel
theorem dX8_insert_49 : decode cX8_insert 49 = .ok (.bipush (-3), 2) := by decide +kernel
theorem dX8_insert_51 : decode cX8_insert 51 = .ok (.ireturn, 1) := by decide +kernel
theorem dX8_insert_52 : decode cX8_insert 52 = .ok (.aload_n 0, 1) := by decide +kernel
theorem dX8_insert_53 : decode cX8_insert 53 = .ok (.getfield 22, 3) := by decide +kernel
theorem dX8_insert_56 : decode cX8_insert 56 = .ok (.aload_n 0, 1) := by decide +kernel
theorem dX8_insert_57 : decode cX8_insert 57 = .ok (.getfield 12, 3) := by decide +kernel
theorem dX8_insert_60 : decode cX8_insert 60 = .ok (.invokevirtual 65, 3) := by decide +kernel
theorem dX8_insert_63 : decode cX8_insert 63 = .ok (.aload_n 0, 1) := by decide +kernel
theorem dX8_insert_64 : decode cX8_insert 64 = .ok (.getfield 12, 3) := by decide +kernel
theorem dX8_insert_67 : decode cX8_insert 67 = .ok (.iload_n 1, 1) := by decide +kernel
theorem dX8_insert_68 : decode cX8_insert 68 = .ok (.iload_n 2, 1) := by decide +kernel
theorem dX8_insert_69 : decode cX8_insert 69 = .ok (.invokestatic 109, 3) := by decide +kernel
theorem dX8_insert_72 : decode cX8_insert 72 = .ok (.iload_n 3, 1) := by decide +kernel
theorem dX8_insert_73 : decode cX8_insert 73 = .ok (.invokevirtual 105, 3) := by decide +kernel
theorem dX8_insert_76 : decode cX8_insert 76 = .ok (.aload_n 0, 1) := by decide +kernel
theorem dX8_insert_77 : decode cX8_insert 77 = .ok (.getfield 12, 3) := by decide +kernel
theorem dX8_insert_80 : decode cX8_insert 80 = .ok (.invokevirtual 112, 3) := by decide +kernel
theorem dX8_insert_83 : decode cX8_insert 83 = .ok (.ireturn, 1) := by decide +kernel
theorem dX8_remove_0 : decode cX8_remove 0 = .ok (.aload_n 0, 1) := by decide +kernel
theorem dX8_remove_1 : decode cX8_remove 1 = .ok (.getfield 12, 3) := by decide +kernel
theorem dX8_remove_4 : decode cX8_remove 4 = .ok (.iload_n 1, 1) := by decide +kernel
theorem dX8_remove_5 : decode cX8_remove 5 = .ok (.invokevirtual 115, 3) := by decide +kernel
theorem dX8_remove_8 : decode cX8_remove 8 = .ok (.ifCond .ne 5, 3) := by decide +kernel
theorem dX8_remove_11 : decode cX8_remove 11 = .ok (.iconst (-1), 1) := by decide +kernel
theorem dX8_remove_12 : decode cX8_remove 12 = .ok (.ireturn, 1) := by decide +kernel
theorem dX8_remove_13 : decode cX8_remove 13 = .ok (.aload_n 0, 1) := by decide +kernel
theorem dX8_remove_14 : decode cX8_remove 14 = .ok (.getfield 22, 3) := by decide +kernel
theorem dX8_remove_17 : decode cX8_remove 17 = .ok (.aload_n 0, 1) := by decide +kernel
theorem dX8_remove_18 : decode cX8_remove 18 = .ok (.getfield 12, 3) := by decide +kernel
theorem dX8_remove_21 : decode cX8_remove 21 = .ok (.invokevirtual 65, 3) := by decide +kernel
theorem dX8_remove_24 : decode cX8_remove 24 = .ok (.aload_n 0, 1) := by decide +kernel
theorem dX8_remove_25 : decode cX8_remove 25 = .ok (.getfield 12, 3) := by decide +kernel
theorem dX8_remove_28 : decode cX8_remove 28 = .ok (.iload_n 1, 1) := by decide +kernel
theorem dX8_remove_29 : decode cX8_remove 29 = .ok (.invokevirtual 118, 3) := by decide +kernel
theorem dX8_remove_32 : decode cX8_remove 32 = .ok (.aload_n 0, 1) := by decide +kernel
theorem dX8_remove_33 : decode cX8_remove 33 = .ok (.getfield 12, 3) := by decide +kernel
theorem dX8_remove_36 : decode cX8_remove 36 = .ok (.invokevirtual 112, 3) := by decide +kernel
theorem dX8_remove_39 : decode cX8_remove 39 = .ok (.ireturn, 1) := by decide +kernel
theorem dX8_lose_0 : decode cX8_lose 0 = .ok (.aload_n 0, 1) := by decide +kernel
theorem dX8_lose_1 : decode cX8_lose 1 = .ok (.getfield 12, 3) := by decide +kernel
theorem dX8_lose_4 : decode cX8_lose 4 = .ok (.iload_n 1, 1) := by decide +kernel
theorem dX8_lose_5 : decode cX8_lose 5 = .ok (.invokevirtual 121, 3) := by decide +kernel
theorem dX8_lose_8 : decode cX8_lose 8 = .ok (.ifCond .ne 5, 3) := by decide +kernel
theorem dX8_lose_11 : decode cX8_lose 11 = .ok (.iconst (-1), 1) := by decide +kernel
theorem dX8_lose_12 : decode cX8_lose 12 = .ok (.ireturn, 1) := by decide +kernel
theorem dX8_lose_13 : decode cX8_lose 13 = .ok (.aload_n 0, 1) := by decide +kernel
theorem dX8_lose_14 : decode cX8_lose 14 = .ok (.getfield 12, 3) := by decide +kernel
theorem dX8_lose_17 : decode cX8_lose 17 = .ok (.iload_n 1, 1) := by decide +kernel
theorem dX8_lose_18 : decode cX8_lose 18 = .ok (.invokevirtual 124, 3) := by decide +kernel
theorem dX8_lose_21 : decode cX8_lose 21 = .ok (.iload_n 2, 1) := by decide +kernel
theorem dX8_lose_22 : decode cX8_lose 22 = .ok (.if_icmp .ne 6, 3) := by decide +kernel
theorem dX8_lose_25 : decode cX8_lose 25 = .ok (.bipush (-5), 2) := by decide +kernel
theorem dX8_lose_27 : decode cX8_lose 27 = .ok (.ireturn, 1) := by decide +kernel
theorem dX8_lose_28 : decode cX8_lose 28 = .ok (.aload_n 0, 1) := by decide +kernel
theorem dX8_lose_29 : decode cX8_lose 29 = .ok (.getfield 22, 3) := by decide +kernel
theorem dX8_lose_32 : decode cX8_lose 32 = .ok (.aload_n 0, 1) := by decide +kernel
theorem dX8_lose_33 : decode cX8_lose 33 = .ok (.getfield 12, 3) := by decide +kernel
theorem dX8_lose_36 : decode cX8_lose 36 = .ok (.invokevirtual 65, 3) := by decide +kernel
theorem dX8_lose_39 : decode cX8_lose 39 = .ok (.aload_n 0, 1) := by decide +kernel
theorem dX8_lose_40 : decode cX8_lose 40 = .ok (.getfield 12, 3) := by decide +kernel
theorem dX8_lose_43 : decode cX8_lose 43 = .ok (.iload_n 1, 1) := by decide +kernel
theorem dX8_lose_44 : decode cX8_lose 44 = .ok (.invokevirtual 127, 3) := by decide +kernel
theorem dX8_lose_47 : decode cX8_lose 47 = .ok (.aload_n 0, 1) := by decide +kernel
theorem dX8_lose_48 : decode cX8_lose 48 = .ok (.getfield 12, 3) := by decide +kernel
theorem dX8_lose_51 : decode cX8_lose 51 = .ok (.invokevirtual 130, 3) := by decide +kernel
theorem dX8_lose_54 : decode cX8_lose 54 = .ok (.ireturn, 1) := by decide +kernel
theorem dX8_type_0 : decode cX8_type 0 = .ok (.aload_n 0, 1) := by decide +kernel
theorem dX8_type_1 : decode cX8_type 1 = .ok (.getfield 29, 3) := by decide +kernel
theorem dX8_type_4 : decode cX8_type 4 = .ok (.invokevirtual 158, 3) := by decide +kernel
theorem dX8_type_7 : decode cX8_type 7 = .ok (.bipush 60, 2) := by decide +kernel
theorem dX8_type_9 : decode cX8_type 9 = .ok (.if_icmp .lt 6, 3) := by decide +kernel
theorem dX8_type_12 : decode cX8_type 12 = .ok (.bipush (-3), 2) := by decide +kernel
theorem dX8_type_14 : decode cX8_type 14 = .ok (.ireturn, 1) := by decide +kernel
theorem dX8_type_15 : decode cX8_type 15 = .ok (.aload_n 0, 1) := by decide +kernel
theorem dX8_type_16 : decode cX8_type 16 = .ok (.getfield 29, 3) := by decide +kernel
theorem dX8_type_19 : decode cX8_type 19 = .ok (.iload_n 1, 1) := by decide +kernel
theorem dX8_type_20 : decode cX8_type 20 = .ok (.invokevirtual 159, 3) := by decide +kernel
theorem dX8_type_23 : decode cX8_type 23 = .ok (.aload_n 0, 1) := by decide +kernel
theorem dX8_type_24 : decode cX8_type 24 = .ok (.getfield 29, 3) := by decide +kernel
theorem dX8_type_27 : decode cX8_type 27 = .ok (.invokevirtual 158, 3) := by decide +kernel
theorem dX8_type_30 : decode cX8_type 30 = .ok (.ireturn, 1) := by decide +kernel
theorem dX8_clearText_0 : decode cX8_clearText 0 = .ok (.aload_n 0, 1) := by decide +kernel
theorem dX8_clearText_1 : decode cX8_clearText 1 = .ok (.getfield 29, 3) := by decide +kernel
theorem dX8_clearText_4 : decode cX8_clearText 4 = .ok (.invokevirtual 158, 3) := by decide +kernel
theorem dX8_clearText_7 : decode cX8_clearText 7 = .ok (.istore_n 1, 1) := by decide +kernel
theorem dX8_clearText_8 : decode cX8_clearText 8 = .ok (.aload_n 0, 1) := by decide +kernel
theorem dX8_clearText_9 : decode cX8_clearText 9 = .ok (.getfield 29, 3) := by decide +kernel
theorem dX8_clearText_12 : decode cX8_clearText 12 = .ok (.invokevirtual 163, 3) := by decide +kernel
theorem dX8_clearText_15 : decode cX8_clearText 15 = .ok (.iload_n 1, 1) := by decide +kernel
theorem dX8_clearText_16 : decode cX8_clearText 16 = .ok (.ireturn, 1) := by decide +kernel
theorem dX8_undo_0 : decode cX8_undo 0 = .ok (.aload_n 0, 1) := by decide +kernel
theorem dX8_undo_1 : decode cX8_undo 1 = .ok (.getfield 22, 3) := by decide +kernel
theorem dX8_undo_4 : decode cX8_undo 4 = .ok (.invokevirtual 164, 3) := by decide +kernel
theorem dX8_undo_7 : decode cX8_undo 7 = .ok (.ifCond .ne 6, 3) := by decide +kernel
theorem dX8_undo_10 : decode cX8_undo 10 = .ok (.bipush (-5), 2) := by decide +kernel
theorem dX8_undo_12 : decode cX8_undo 12 = .ok (.ireturn, 1) := by decide +kernel
theorem dX8_undo_13 : decode cX8_undo 13 = .ok (.aload_n 0, 1) := by decide +kernel
theorem dX8_undo_14 : decode cX8_undo 14 = .ok (.getfield 22, 3) := by decide +kernel
theorem dX8_undo_17 : decode cX8_undo 17 = .ok (.aload_n 0, 1) := by decide +kernel
theorem dX8_undo_18 : decode cX8_undo 18 = .ok (.getfield 12, 3) := by decide +kernel
theorem dX8_undo_21 : decode cX8_undo 21 = .ok (.invokevirtual 167, 3) := by decide +kernel
theorem dX8_undo_24 : decode cX8_undo 24 = .ok (.aload_n 0, 1) := by decide +kernel
theorem dX8_undo_25 : decode cX8_undo 25 = .ok (.getfield 22, 3) := by decide +kernel
theorem dX8_undo_28 : decode cX8_undo 28 = .ok (.invokevirtual 164, 3) := by decide +kernel
theorem dX8_undo_31 : decode cX8_undo 31 = .ok (.ireturn, 1) := by decide +kernel
theorem dX8_restore_0 : decode cX8_restore 0 = .ok (.aload_n 0, 1) := by decide +kernel
theorem dX8_restore_1 : decode cX8_restore 1 = .ok (.getfield 173, 3) := by decide +kernel
theorem dX8_restore_4 : decode cX8_restore 4 = .ok (.ifCond .ne 6, 3) := by decide +kernel
theorem dX8_restore_7 : decode cX8_restore 7 = .ok (.bipush (-5), 2) := by decide +kernel
theorem dX8_restore_9 : decode cX8_restore 9 = .ok (.ireturn, 1) := by decide +kernel
theorem dX8_restore_10 : decode cX8_restore 10 = .ok (.aload_n 0, 1) := by decide +kernel
theorem dX8_restore_11 : decode cX8_restore 11 = .ok (.getfield 22, 3) := by decide +kernel
theorem dX8_restore_14 : decode cX8_restore 14 = .ok (.aload_n 0, 1) := by decide +kernel
theorem dX8_restore_15 : decode cX8_restore 15 = .ok (.getfield 12, 3) := by decide +kernel
theorem dX8_restore_18 : decode cX8_restore 18 = .ok (.invokevirtual 65, 3) := by decide +kernel
theorem dX8_restore_21 : decode cX8_restore 21 = .ok (.aload_n 0, 1) := by decide +kernel
theorem dX8_restore_22 : decode cX8_restore 22 = .ok (.getfield 12, 3) := by decide +kernel
theorem dX8_restore_25 : decode cX8_restore 25 = .ok (.aload_n 0, 1) := by decide +kernel
theorem dX8_restore_26 : decode cX8_restore 26 = .ok (.getfield 16, 3) := by decide +kernel
theorem dX8_restore_29 : decode cX8_restore 29 = .ok (.invokevirtual 170, 3) := by decide +kernel
theorem dX8_restore_32 : decode cX8_restore 32 = .ok (.aload_n 0, 1) := by decide +kernel
theorem dX8_restore_33 : decode cX8_restore 33 = .ok (.getfield 12, 3) := by decide +kernel
theorem dX8_restore_36 : decode cX8_restore 36 = .ok (.invokevirtual 83, 3) := by decide +kernel
theorem dX8_restore_39 : decode cX8_restore 39 = .ok (.ireturn, 1) := by decide +kernel
theorem dX8_quire_0 : decode cX8_quire 0 = .ok (.aload_n 0, 1) := by decide +kernel
theorem dX8_quire_1 : decode cX8_quire 1 = .ok (.getfield 12, 3) := by decide +kernel
theorem dX8_quire_4 : decode cX8_quire 4 = .ok (.iload_n 1, 1) := by decide +kernel
theorem dX8_quire_5 : decode cX8_quire 5 = .ok (.invokevirtual 115, 3) := by decide +kernel
theorem dX8_quire_8 : decode cX8_quire 8 = .ok (.ifCond .ne 5, 3) := by decide +kernel
theorem dX8_quire_11 : decode cX8_quire 11 = .ok (.iconst (-1), 1) := by decide +kernel
theorem dX8_quire_12 : decode cX8_quire 12 = .ok (.ireturn, 1) := by decide +kernel
theorem dX8_quire_13 : decode cX8_quire 13 = .ok (.aload_n 0, 1) := by decide +kernel
theorem dX8_quire_14 : decode cX8_quire 14 = .ok (.getfield 12, 3) := by decide +kernel
theorem dX8_quire_17 : decode cX8_quire 17 = .ok (.getfield 177, 3) := by decide +kernel
theorem dX8_quire_20 : decode cX8_quire 20 = .ok (.iload_n 1, 1) := by decide +kernel
theorem dX8_quire_21 : decode cX8_quire 21 = .ok (.invokevirtual 152, 3) := by decide +kernel
theorem dX8_quire_24 : decode cX8_quire 24 = .ok (.istore_n 3, 1) := by decide +kernel
theorem dX8_quire_25 : decode cX8_quire 25 = .ok (.iload_n 2, 1) := by decide +kernel
theorem dX8_quire_26 : decode cX8_quire 26 = .ok (.tableswitch 115 0 6 #[42, 47, 67, 79, 88, 97, 106], 42) := by decide +kernel
theorem dX8_quire_68 : decode cX8_quire 68 = .ok (.iload_n 3, 1) := by decide +kernel
theorem dX8_quire_69 : decode cX8_quire 69 = .ok (.invokestatic 180, 3) := by decide +kernel
theorem dX8_quire_72 : decode cX8_quire 72 = .ok (.ireturn, 1) := by decide +kernel
theorem dX8_quire_73 : decode cX8_quire 73 = .ok (.iload_n 3, 1) := by decide +kernel
theorem dX8_quire_74 : decode cX8_quire 74 = .ok (.invokestatic 183, 3) := by decide +kernel
theorem dX8_quire_77 : decode cX8_quire 77 = .ok (.ifCond .eq 8, 3) := by decide +kernel
theorem dX8_quire_80 : decode cX8_quire 80 = .ok (.bipush (-5), 2) := by decide +kernel
theorem dX8_quire_82 : decode cX8_quire 82 = .ok (.goto 10, 3) := by decide +kernel
theorem dX8_quire_85 : decode cX8_quire 85 = .ok (.bipush 65, 2) := by decide +kernel
theorem dX8_quire_87 : decode cX8_quire 87 = .ok (.iload_n 3, 1) := by decide +kernel
theorem dX8_quire_88 : decode cX8_quire 88 = .ok (.invokestatic 186, 3) := by decide +kernel
theorem dX8_quire_91 : decode cX8_quire 91 = .ok (.iadd, 1) := by decide +kernel
theorem dX8_quire_92 : decode cX8_quire 92 = .ok (.ireturn, 1) := by decide +kernel
theorem dX8_quire_93 : decode cX8_quire 93 = .ok (.aload_n 0, 1) := by decide +kernel
theorem dX8_quire_94 : decode cX8_quire 94 = .ok (.getfield 12, 3) := by decide +kernel
theorem dX8_quire_97 : decode cX8_quire 97 = .ok (.getfield 189, 3) := by decide +kernel
theorem dX8_quire_100 : decode cX8_quire 100 = .ok (.iload_n 1, 1) := by decide +kernel
theorem dX8_quire_101 : decode cX8_quire 101 = .ok (.invokevirtual 152, 3) := by decide +kernel
theorem dX8_quire_104 : decode cX8_quire 104 = .ok (.ireturn, 1) := by decide +kernel
theorem dX8_quire_105 : decode cX8_quire 105 = .ok (.aload_n 0, 1) := by decide +kernel
theorem dX8_quire_106 : decode cX8_quire 106 = .ok (.getfield 12, 3) := by decide +kernel
theorem dX8_quire_109 : decode cX8_quire 109 = .ok (.iload_n 1, 1) := by decide +kernel
theorem dX8_quire_110 : decode cX8_quire 110 = .ok (.invokevirtual 192, 3) := by decide +kernel
theorem dX8_quire_113 : decode cX8_quire 113 = .ok (.ireturn, 1) := by decide +kernel
theorem dX8_quire_114 : decode cX8_quire 114 = .ok (.aload_n 0, 1) := by decide +kernel
theorem dX8_quire_115 : decode cX8_quire 115 = .ok (.getfield 12, 3) := by decide +kernel
theorem dX8_quire_118 : decode cX8_quire 118 = .ok (.iload_n 1, 1) := by decide +kernel
theorem dX8_quire_119 : decode cX8_quire 119 = .ok (.invokevirtual 195, 3) := by decide +kernel
theorem dX8_quire_122 : decode cX8_quire 122 = .ok (.ireturn, 1) := by decide +kernel
theorem dX8_quire_123 : decode cX8_quire 123 = .ok (.aload_n 0, 1) := by decide +kernel
theorem dX8_quire_124 : decode cX8_quire 124 = .ok (.getfield 12, 3) := by decide +kernel
theorem dX8_quire_127 : decode cX8_quire 127 = .ok (.iload_n 1, 1) := by decide +kernel
theorem dX8_quire_128 : decode cX8_quire 128 = .ok (.invokevirtual 198, 3) := by decide +kernel
theorem dX8_quire_131 : decode cX8_quire 131 = .ok (.ireturn, 1) := by decide +kernel
theorem dX8_quire_132 : decode cX8_quire 132 = .ok (.aload_n 0, 1) := by decide +kernel
theorem dX8_quire_133 : decode cX8_quire 133 = .ok (.getfield 12, 3) := by decide +kernel
theorem dX8_quire_136 : decode cX8_quire 136 = .ok (.iload_n 1, 1) := by decide +kernel
theorem dX8_quire_137 : decode cX8_quire 137 = .ok (.invokevirtual 201, 3) := by decide +kernel
theorem dX8_quire_140 : decode cX8_quire 140 = .ok (.ireturn, 1) := by decide +kernel
theorem dX8_quire_141 : decode cX8_quire 141 = .ok (.bipush (-2), 2) := by decide +kernel
theorem dX8_quire_143 : decode cX8_quire 143 = .ok (.ireturn, 1) := by decide +kernel
theorem dX8_leaf_0 : decode cX8_leaf 0 = .ok (.aload_n 0, 1) := by decide +kernel
theorem dX8_leaf_1 : decode cX8_leaf 1 = .ok (.getfield 12, 3) := by decide +kernel
theorem dX8_leaf_4 : decode cX8_leaf 4 = .ok (.iload_n 1, 1) := by decide +kernel
theorem dX8_leaf_5 : decode cX8_leaf 5 = .ok (.invokevirtual 121, 3) := by decide +kernel
theorem dX8_leaf_8 : decode cX8_leaf 8 = .ok (.ifCond .ne 5, 3) := by decide +kernel
theorem dX8_leaf_11 : decode cX8_leaf 11 = .ok (.iconst (-1), 1) := by decide +kernel
theorem dX8_leaf_12 : decode cX8_leaf 12 = .ok (.ireturn, 1) := by decide +kernel
theorem dX8_leaf_13 : decode cX8_leaf 13 = .ok (.aload_n 0, 1) := by decide +kernel
theorem dX8_leaf_14 : decode cX8_leaf 14 = .ok (.getfield 12, 3) := by decide +kernel
theorem dX8_leaf_17 : decode cX8_leaf 17 = .ok (.iload_n 1, 1) := by decide +kernel
theorem dX8_leaf_18 : decode cX8_leaf 18 = .ok (.invokevirtual 204, 3) := by decide +kernel
theorem dX8_leaf_21 : decode cX8_leaf 21 = .ok (.istore_n 3, 1) := by decide +kernel
theorem dX8_leaf_22 : decode cX8_leaf 22 = .ok (.aload_n 0, 1) := by decide +kernel
theorem dX8_leaf_23 : decode cX8_leaf 23 = .ok (.getfield 12, 3) := by decide +kernel
theorem dX8_leaf_26 : decode cX8_leaf 26 = .ok (.iload_n 1, 1) := by decide +kernel
theorem dX8_leaf_27 : decode cX8_leaf 27 = .ok (.invokevirtual 207, 3) := by decide +kernel
theorem dX8_leaf_30 : decode cX8_leaf 30 = .ok (.istore 4, 2) := by decide +kernel
theorem dX8_leaf_32 : decode cX8_leaf 32 = .ok (.iload_n 2, 1) := by decide +kernel
theorem dX8_leaf_33 : decode cX8_leaf 33 = .ok (.tableswitch 95 0 5 #[39, 41, 44, 63, 69, 86], 39) := by decide +kernel
theorem dX8_leaf_72 : decode cX8_leaf 72 = .ok (.iload_n 3, 1) := by decide +kernel
theorem dX8_leaf_73 : decode cX8_leaf 73 = .ok (.ireturn, 1) := by decide +kernel
theorem dX8_leaf_74 : decode cX8_leaf 74 = .ok (.iload 4, 2) := by decide +kernel
theorem dX8_leaf_76 : decode cX8_leaf 76 = .ok (.ireturn, 1) := by decide +kernel
theorem dX8_leaf_77 : decode cX8_leaf 77 = .ok (.iload 4, 2) := by decide +kernel
theorem dX8_leaf_79 : decode cX8_leaf 79 = .ok (.aload_n 0, 1) := by decide +kernel
theorem dX8_leaf_80 : decode cX8_leaf 80 = .ok (.getfield 12, 3) := by decide +kernel
theorem dX8_leaf_83 : decode cX8_leaf 83 = .ok (.iload_n 3, 1) := by decide +kernel
theorem dX8_leaf_84 : decode cX8_leaf 84 = .ok (.invokevirtual 195, 3) := by decide +kernel
theorem dX8_leaf_87 : decode cX8_leaf 87 = .ok (.if_icmp .gt 7, 3) := by decide +kernel
theorem dX8_leaf_90 : decode cX8_leaf 90 = .ok (.iconst 1, 1) := by decide +kernel
theorem dX8_leaf_91 : decode cX8_leaf 91 = .ok (.goto 4, 3) := by decide +kernel
theorem dX8_leaf_94 : decode cX8_leaf 94 = .ok (.iconst 0, 1) := by decide +kernel
theorem dX8_leaf_95 : decode cX8_leaf 95 = .ok (.ireturn, 1) := by decide +kernel
theorem dX8_leaf_96 : decode cX8_leaf 96 = .ok (.aload_n 0, 1) := by decide +kernel
theorem dX8_leaf_97 : decode cX8_leaf 97 = .ok (.iload_n 1, 1) := by decide +kernel
theorem dX8_leaf_98 : decode cX8_leaf 98 = .ok (.invokevirtual 210, 3) := by decide +kernel
theorem dX8_leaf_101 : decode cX8_leaf 101 = .ok (.ireturn, 1) := by decide +kernel
theorem dX8_leaf_102 : decode cX8_leaf 102 = .ok (.aload_n 0, 1) := by decide +kernel
theorem dX8_leaf_103 : decode cX8_leaf 103 = .ok (.getfield 12, 3) := by decide +kernel
theorem dX8_leaf_106 : decode cX8_leaf 106 = .ok (.iload_n 1, 1) := by decide +kernel
theorem dX8_leaf_107 : decode cX8_leaf 107 = .ok (.invokevirtual 124, 3) := by decide +kernel
theorem dX8_leaf_110 : decode cX8_leaf 110 = .ok (.ifCond .eq 7, 3) := by decide +kernel
theorem dX8_leaf_113 : decode cX8_leaf 113 = .ok (.iconst 1, 1) := by decide +kernel
theorem dX8_leaf_114 : decode cX8_leaf 114 = .ok (.goto 4, 3) := by decide +kernel
theorem dX8_leaf_117 : decode cX8_leaf 117 = .ok (.iconst 0, 1) := by decide +kernel
theorem dX8_leaf_118 : decode cX8_leaf 118 = .ok (.ireturn, 1) := by decide +kernel
theorem dX8_leaf_119 : decode cX8_leaf 119 = .ok (.aload_n 0, 1) := by decide +kernel
theorem dX8_leaf_120 : decode cX8_leaf 120 = .ok (.getfield 12, 3) := by decide +kernel
theorem dX8_leaf_123 : decode cX8_leaf 123 = .ok (.iload_n 1, 1) := by decide +kernel
theorem dX8_leaf_124 : decode cX8_leaf 124 = .ok (.invokevirtual 213, 3) := by decide +kernel
theorem dX8_leaf_127 : decode cX8_leaf 127 = .ok (.ireturn, 1) := by decide +kernel
theorem dX8_leaf_128 : decode cX8_leaf 128 = .ok (.bipush (-2), 2) := by decide +kernel
theorem dX8_leaf_130 : decode cX8_leaf 130 = .ok (.ireturn, 1) := by decide +kernel
theorem dX8_find_0 : decode cX8_find 0 = .ok (.aload_n 0, 1) := by decide +kernel
theorem dX8_find_1 : decode cX8_find 1 = .ok (.getfield 29, 3) := by decide +kernel
theorem dX8_find_4 : decode cX8_find 4 = .ok (.invokevirtual 133, 3) := by decide +kernel
theorem dX8_find_7 : decode cX8_find 7 = .ok (.istore_n 1, 1) := by decide +kernel
theorem dX8_find_8 : decode cX8_find 8 = .ok (.iload_n 1, 1) := by decide +kernel
theorem dX8_find_9 : decode cX8_find 9 = .ok (.iconst (-1), 1) := by decide +kernel
theorem dX8_find_10 : decode cX8_find 10 = .ok (.if_icmp .eq 8, 3) := by decide +kernel
theorem dX8_find_13 : decode cX8_find 13 = .ok (.bipush (-100), 2) := by decide +kernel
theorem dX8_find_15 : decode cX8_find 15 = .ok (.iload_n 1, 1) := by decide +kernel
theorem dX8_find_16 : decode cX8_find 16 = .ok (.isub, 1) := by decide +kernel
theorem dX8_find_17 : decode cX8_find 17 = .ok (.ireturn, 1) := by decide +kernel
theorem dX8_find_18 : decode cX8_find 18 = .ok (.aload_n 0, 1) := by decide +kernel
theorem dX8_find_19 : decode cX8_find 19 = .ok (.getfield 29, 3) := by decide +kernel
theorem dX8_find_22 : decode cX8_find 22 = .ok (.invokevirtual 89, 3) := by decide +kernel
theorem dX8_find_25 : decode cX8_find 25 = .ok (.iconst 1, 1) := by decide +kernel
theorem dX8_find_26 : decode cX8_find 26 = .ok (.if_icmp .eq 6, 3) := by decide +kernel
theorem dX8_find_29 : decode cX8_find 29 = .ok (.bipush (-2), 2) := by decide +kernel
theorem dX8_find_31 : decode cX8_find 31 = .ok (.ireturn, 1) := by decide +kernel
theorem dX8_find_32 : decode cX8_find 32 = .ok (.aload_n 0, 1) := by decide +kernel
theorem dX8_find_33 : decode cX8_find 33 = .ok (.getfield 12, 3) := by decide +kernel
theorem dX8_find_36 : decode cX8_find 36 = .ok (.aload_n 0, 1) := by decide +kernel
theorem dX8_find_37 : decode cX8_find 37 = .ok (.getfield 29, 3) := by decide +kernel
theorem dX8_find_40 : decode cX8_find 40 = .ok (.iconst 0, 1) := by decide +kernel
theorem dX8_find_41 : decode cX8_find 41 = .ok (.invokevirtual 216, 3) := by decide +kernel
theorem dX8_find_44 : decode cX8_find 44 = .ok (.aload_n 0, 1) := by decide +kernel
theorem dX8_find_45 : decode cX8_find 45 = .ok (.getfield 29, 3) := by decide +kernel
theorem dX8_find_48 : decode cX8_find 48 = .ok (.iconst 0, 1) := by decide +kernel
theorem dX8_find_49 : decode cX8_find 49 = .ok (.invokevirtual 219, 3) := by decide +kernel
theorem dX8_find_52 : decode cX8_find 52 = .ok (.invokevirtual 222, 3) := by decide +kernel
theorem dX8_find_55 : decode cX8_find 55 = .ok (.istore_n 2, 1) := by decide +kernel
theorem dX8_find_56 : decode cX8_find 56 = .ok (.iload_n 2, 1) := by decide +kernel
theorem dX8_find_57 : decode cX8_find 57 = .ok (.iconst (-1), 1) := by decide +kernel
theorem dX8_find_58 : decode cX8_find 58 = .ok (.if_icmp .ne 8, 3) := by decide +kernel
theorem dX8_find_61 : decode cX8_find 61 = .ok (.bipush (-5), 2) := by decide +kernel
theorem dX8_find_63 : decode cX8_find 63 = .ok (.goto 4, 3) := by decide +kernel
theorem dX8_find_66 : decode cX8_find 66 = .ok (.iload_n 2, 1) := by decide +kernel
theorem dX8_find_67 : decode cX8_find 67 = .ok (.ireturn, 1) := by decide +kernel
theorem dX8_lapse_0 : decode cX8_lapse 0 = .ok (.iload_n 1, 1) := by decide +kernel
theorem dX8_lapse_1 : decode cX8_lapse 1 = .ok (.ifCond .lt 12, 3) := by decide +kernel
theorem dX8_lapse_4 : decode cX8_lapse 4 = .ok (.iload_n 2, 1) := by decide +kernel
theorem dX8_lapse_5 : decode cX8_lapse 5 = .ok (.ifCond .lt 8, 3) := by decide +kernel
theorem dX8_lapse_8 : decode cX8_lapse 8 = .ok (.iload_n 2, 1) := by decide +kernel
theorem dX8_lapse_9 : decode cX8_lapse 9 = .ok (.iconst 2, 1) := by decide +kernel
theorem dX8_lapse_10 : decode cX8_lapse 10 = .ok (.if_icmp .le 6, 3) := by decide +kernel
theorem dX8_lapse_13 : decode cX8_lapse 13 = .ok (.bipush (-2), 2) := by decide +kernel
theorem dX8_lapse_15 : decode cX8_lapse 15 = .ok (.ireturn, 1) := by decide +kernel
theorem dX8_lapse_16 : decode cX8_lapse 16 = .ok (.aload_n 0, 1) := by decide +kernel
theorem dX8_lapse_17 : decode cX8_lapse 17 = .ok (.getfield 12, 3) := by decide +kernel
theorem dX8_lapse_20 : decode cX8_lapse 20 = .ok (.iload_n 1, 1) := by decide +kernel
theorem dX8_lapse_21 : decode cX8_lapse 21 = .ok (.invokestatic 226, 3) := by decide +kernel
theorem dX8_lapse_24 : decode cX8_lapse 24 = .ok (.istore_n 3, 1) := by decide +kernel
theorem dX8_lapse_25 : decode cX8_lapse 25 = .ok (.iload_n 3, 1) := by decide +kernel
theorem dX8_lapse_26 : decode cX8_lapse 26 = .ok (.iconst (-1), 1) := by decide +kernel
theorem dX8_lapse_27 : decode cX8_lapse 27 = .ok (.if_icmp .ne 6, 3) := by decide +kernel
theorem dX8_lapse_30 : decode cX8_lapse 30 = .ok (.bipush (-5), 2) := by decide +kernel
theorem dX8_lapse_32 : decode cX8_lapse 32 = .ok (.ireturn, 1) := by decide +kernel
theorem dX8_lapse_33 : decode cX8_lapse 33 = .ok (.iload_n 2, 1) := by decide +kernel
theorem dX8_lapse_34 : decode cX8_lapse 34 = .ok (.lookupswitch 37 #[(0, 26), (1, 28)], 26) := by decide +kernel
theorem dX8_lapse_60 : decode cX8_lapse 60 = .ok (.iload_n 3, 1) := by decide +kernel
theorem dX8_lapse_61 : decode cX8_lapse 61 = .ok (.ireturn, 1) := by decide +kernel
theorem dX8_lapse_62 : decode cX8_lapse 62 = .ok (.aload_n 0, 1) := by decide +kernel
theorem dX8_lapse_63 : decode cX8_lapse 63 = .ok (.getfield 12, 3) := by decide +kernel
theorem dX8_lapse_66 : decode cX8_lapse 66 = .ok (.iload_n 3, 1) := by decide +kernel
theorem dX8_lapse_67 : decode cX8_lapse 67 = .ok (.invokestatic 232, 3) := by decide +kernel
theorem dX8_lapse_70 : decode cX8_lapse 70 = .ok (.ireturn, 1) := by decide +kernel
theorem dX8_lapse_71 : decode cX8_lapse 71 = .ok (.aload_n 0, 1) := by decide +kernel
theorem dX8_lapse_72 : decode cX8_lapse 72 = .ok (.getfield 12, 3) := by decide +kernel
theorem dX8_lapse_75 : decode cX8_lapse 75 = .ok (.iload_n 3, 1) := by decide +kernel
theorem dX8_lapse_76 : decode cX8_lapse 76 = .ok (.invokestatic 235, 3) := by decide +kernel
theorem dX8_lapse_79 : decode cX8_lapse 79 = .ok (.ireturn, 1) := by decide +kernel
theorem dX8_piled_0 : decode cX8_piled 0 = .ok (.iload_n 1, 1) := by decide +kernel
theorem dX8_piled_1 : decode cX8_piled 1 = .ok (.ifCond .lt 12, 3) := by decide +kernel
theorem dX8_piled_4 : decode cX8_piled 4 = .ok (.iload_n 2, 1) := by decide +kernel
theorem dX8_piled_5 : decode cX8_piled 5 = .ok (.ifCond .lt 8, 3) := by decide +kernel
theorem dX8_piled_8 : decode cX8_piled 8 = .ok (.iload_n 2, 1) := by decide +kernel
theorem dX8_piled_9 : decode cX8_piled 9 = .ok (.iconst 1, 1) := by decide +kernel
theorem dX8_piled_10 : decode cX8_piled 10 = .ok (.if_icmp .le 6, 3) := by decide +kernel
theorem dX8_piled_13 : decode cX8_piled 13 = .ok (.bipush (-2), 2) := by decide +kernel
theorem dX8_piled_15 : decode cX8_piled 15 = .ok (.ireturn, 1) := by decide +kernel
theorem dX8_piled_16 : decode cX8_piled 16 = .ok (.iload_n 1, 1) := by decide +kernel
theorem dX8_piled_17 : decode cX8_piled 17 = .ok (.aload_n 0, 1) := by decide +kernel
theorem dX8_piled_18 : decode cX8_piled 18 = .ok (.getfield 12, 3) := by decide +kernel
theorem dX8_piled_21 : decode cX8_piled 21 = .ok (.getfield 146, 3) := by decide +kernel
theorem dX8_piled_24 : decode cX8_piled 24 = .ok (.invokevirtual 143, 3) := by decide +kernel
theorem dX8_piled_27 : decode cX8_piled 27 = .ok (.if_icmp .lt 6, 3) := by decide +kernel
theorem dX8_piled_30 : decode cX8_piled 30 = .ok (.bipush (-5), 2) := by decide +kernel
theorem dX8_piled_32 : decode cX8_piled 32 = .ok (.ireturn, 1) := by decide +kernel
theorem dX8_piled_33 : decode cX8_piled 33 = .ok (.aload_n 0, 1) := by decide +kernel
theorem dX8_piled_34 : decode cX8_piled 34 = .ok (.getfield 12, 3) := by decide +kernel
theorem dX8_piled_37 : decode cX8_piled 37 = .ok (.getfield 146, 3) := by decide +kernel
theorem dX8_piled_40 : decode cX8_piled 40 = .ok (.iload_n 1, 1) := by decide +kernel
theorem dX8_piled_41 : decode cX8_piled 41 = .ok (.invokevirtual 152, 3) := by decide +kernel
theorem dX8_piled_44 : decode cX8_piled 44 = .ok (.istore_n 3, 1) := by decide +kernel
theorem dX8_piled_45 : decode cX8_piled 45 = .ok (.iload_n 2, 1) := by decide +kernel
theorem dX8_piled_46 : decode cX8_piled 46 = .ok (.ifCond .ne 5, 3) := by decide +kernel
theorem dX8_piled_49 : decode cX8_piled 49 = .ok (.iload_n 3, 1) := by decide +kernel
theorem dX8_piled_50 : decode cX8_piled 50 = .ok (.ireturn, 1) := by decide +kernel
theorem dX8_piled_51 : decode cX8_piled 51 = .ok (.iload_n 1, 1) := by decide +kernel
theorem dX8_piled_52 : decode cX8_piled 52 = .ok (.aload_n 0, 1) := by decide +kernel
theorem dX8_piled_53 : decode cX8_piled 53 = .ok (.getfield 12, 3) := by decide +kernel
theorem dX8_piled_56 : decode cX8_piled 56 = .ok (.getfield 146, 3) := by decide +kernel
theorem dX8_piled_59 : decode cX8_piled 59 = .ok (.invokevirtual 143, 3) := by decide +kernel
theorem dX8_piled_62 : decode cX8_piled 62 = .ok (.iconst 1, 1) := by decide +kernel
theorem dX8_piled_63 : decode cX8_piled 63 = .ok (.isub, 1) := by decide +kernel
theorem dX8_piled_64 : decode cX8_piled 64 = .ok (.if_icmp .ne 6, 3) := by decide +kernel
theorem dX8_piled_67 : decode cX8_piled 67 = .ok (.bipush (-5), 2) := by decide +kernel
theorem dX8_piled_69 : decode cX8_piled 69 = .ok (.ireturn, 1) := by decide +kernel
theorem dX8_piled_70 : decode cX8_piled 70 = .ok (.aload_n 0, 1) := by decide +kernel
theorem dX8_piled_71 : decode cX8_piled 71 = .ok (.getfield 12, 3) := by decide +kernel
theorem dX8_piled_74 : decode cX8_piled 74 = .ok (.aload_n 0, 1) := by decide +kernel
theorem dX8_piled_75 : decode cX8_piled 75 = .ok (.getfield 12, 3) := by decide +kernel
theorem dX8_piled_78 : decode cX8_piled 78 = .ok (.getfield 146, 3) := by decide +kernel
theorem dX8_piled_81 : decode cX8_piled 81 = .ok (.iload_n 1, 1) := by decide +kernel
theorem dX8_piled_82 : decode cX8_piled 82 = .ok (.iconst 1, 1) := by decide +kernel
theorem dX8_piled_83 : decode cX8_piled 83 = .ok (.iadd, 1) := by decide +kernel
theorem dX8_piled_84 : decode cX8_piled 84 = .ok (.invokevirtual 152, 3) := by decide +kernel
theorem dX8_piled_87 : decode cX8_piled 87 = .ok (.invokevirtual 213, 3) := by decide +kernel
theorem dX8_piled_90 : decode cX8_piled 90 = .ok (.aload_n 0, 1) := by decide +kernel
theorem dX8_piled_91 : decode cX8_piled 91 = .ok (.getfield 12, 3) := by decide +kernel
theorem dX8_piled_94 : decode cX8_piled 94 = .ok (.iload_n 3, 1) := by decide +kernel
theorem dX8_piled_95 : decode cX8_piled 95 = .ok (.iconst 1, 1) := by decide +kernel
theorem dX8_piled_96 : decode cX8_piled 96 = .ok (.iadd, 1) := by decide +kernel
theorem dX8_piled_97 : decode cX8_piled 97 = .ok (.invokevirtual 213, 3) := by decide +kernel
theorem dX8_piled_100 : decode cX8_piled 100 = .ok (.isub, 1) := by decide +kernel
theorem dX8_piled_101 : decode cX8_piled 101 = .ok (.ireturn, 1) := by decide +kernel
theorem dX8_sheets_0 : decode cX8_sheets 0 = .ok (.iload_n 1, 1) := by decide +kernel
theorem dX8_sheets_1 : decode cX8_sheets 1 = .ok (.iconst 2, 1) := by decide +kernel
theorem dX8_sheets_2 : decode cX8_sheets 2 = .ok (.if_icmp .eq 23, 3) := by decide +kernel
theorem dX8_sheets_5 : decode cX8_sheets 5 = .ok (.iload_n 1, 1) := by decide +kernel
theorem dX8_sheets_6 : decode cX8_sheets 6 = .ok (.iconst 4, 1) := by decide +kernel
theorem dX8_sheets_7 : decode cX8_sheets 7 = .ok (.if_icmp .eq 18, 3) := by decide +kernel
theorem dX8_sheets_10 : decode cX8_sheets 10 = .ok (.iload_n 1, 1) := by decide +kernel
theorem dX8_sheets_11 : decode cX8_sheets 11 = .ok (.bipush 8, 2) := by decide +kernel
theorem dX8_sheets_13 : decode cX8_sheets 13 = .ok (.if_icmp .eq 12, 3) := by decide +kernel
theorem dX8_sheets_16 : decode cX8_sheets 16 = .ok (.iload_n 1, 1) := by decide +kernel
theorem dX8_sheets_17 : decode cX8_sheets 17 = .ok (.bipush 12, 2) := by decide +kernel
theorem dX8_sheets_19 : decode cX8_sheets 19 = .ok (.if_icmp .eq 6, 3) := by decide +kernel
theorem dX8_sheets_22 : decode cX8_sheets 22 = .ok (.bipush (-2), 2) := by decide +kernel
theorem dX8_sheets_24 : decode cX8_sheets 24 = .ok (.ireturn, 1) := by decide +kernel
theorem dX8_sheets_25 : decode cX8_sheets 25 = .ok (.iconst 0, 1) := by decide +kernel
theorem dX8_sheets_26 : decode cX8_sheets 26 = .ok (.istore_n 2, 1) := by decide +kernel
theorem dX8_sheets_27 : decode cX8_sheets 27 = .ok (.iconst 0, 1) := by decide +kernel
theorem dX8_sheets_28 : decode cX8_sheets 28 = .ok (.istore_n 3, 1) := by decide +kernel
theorem dX8_sheets_29 : decode cX8_sheets 29 = .ok (.iload_n 3, 1) := by decide +kernel
theorem dX8_sheets_30 : decode cX8_sheets 30 = .ok (.aload_n 0, 1) := by decide +kernel
theorem dX8_sheets_31 : decode cX8_sheets 31 = .ok (.getfield 12, 3) := by decide +kernel
theorem dX8_sheets_34 : decode cX8_sheets 34 = .ok (.invokevirtual 83, 3) := by decide +kernel
theorem dX8_sheets_37 : decode cX8_sheets 37 = .ok (.if_icmp .ge 29, 3) := by decide +kernel
theorem dX8_sheets_40 : decode cX8_sheets 40 = .ok (.iload_n 2, 1) := by decide +kernel
theorem dX8_sheets_41 : decode cX8_sheets 41 = .ok (.aload_n 0, 1) := by decide +kernel
theorem dX8_sheets_42 : decode cX8_sheets 42 = .ok (.getfield 12, 3) := by decide +kernel
theorem dX8_sheets_45 : decode cX8_sheets 45 = .ok (.getfield 189, 3) := by decide +kernel
theorem dX8_sheets_48 : decode cX8_sheets 48 = .ok (.iload_n 3, 1) := by decide +kernel
theorem dX8_sheets_49 : decode cX8_sheets 49 = .ok (.invokevirtual 152, 3) := by decide +kernel
theorem dX8_sheets_52 : decode cX8_sheets 52 = .ok (.iload_n 1, 1) := by decide +kernel
theorem dX8_sheets_53 : decode cX8_sheets 53 = .ok (.iadd, 1) := by decide +kernel
theorem dX8_sheets_54 : decode cX8_sheets 54 = .ok (.iconst 1, 1) := by decide +kernel
theorem dX8_sheets_55 : decode cX8_sheets 55 = .ok (.isub, 1) := by decide +kernel
theorem dX8_sheets_56 : decode cX8_sheets 56 = .ok (.iload_n 1, 1) := by decide +kernel
theorem dX8_sheets_57 : decode cX8_sheets 57 = .ok (.idiv, 1) := by decide +kernel
theorem dX8_sheets_58 : decode cX8_sheets 58 = .ok (.iadd, 1) := by decide +kernel
theorem dX8_sheets_59 : decode cX8_sheets 59 = .ok (.istore_n 2, 1) := by decide +kernel
theorem dX8_sheets_60 : decode cX8_sheets 60 = .ok (.iinc 3 1, 3) := by decide +kernel
theorem dX8_sheets_63 : decode cX8_sheets 63 = .ok (.goto (-34), 3) := by decide +kernel
theorem dX8_sheets_66 : decode cX8_sheets 66 = .ok (.iload_n 2, 1) := by decide +kernel
theorem dX8_sheets_67 : decode cX8_sheets 67 = .ok (.ireturn, 1) := by decide +kernel
theorem dX8_formula_0 : decode cX8_formula 0 = .ok (.iload_n 1, 1) := by decide +kernel
theorem dX8_formula_1 : decode cX8_formula 1 = .ok (.ifCond .ge 6, 3) := by decide +kernel
theorem dX8_formula_4 : decode cX8_formula 4 = .ok (.bipush (-2), 2) := by decide +kernel
theorem dX8_formula_6 : decode cX8_formula 6 = .ok (.ireturn, 1) := by decide +kernel
theorem dX8_formula_7 : decode cX8_formula 7 = .ok (.aload_n 0, 1) := by decide +kernel
theorem dX8_formula_8 : decode cX8_formula 8 = .ok (.getfield 36, 3) := by decide +kernel
theorem dX8_formula_11 : decode cX8_formula 11 = .ok (.aload_n 0, 1) := by decide +kernel
theorem dX8_formula_12 : decode cX8_formula 12 = .ok (.getfield 12, 3) := by decide +kernel
theorem dX8_formula_15 : decode cX8_formula 15 = .ok (.invokevirtual 238, 3) := by decide +kernel
theorem dX8_formula_18 : decode cX8_formula 18 = .ok (.iload_n 1, 1) := by decide +kernel
theorem dX8_formula_19 : decode cX8_formula 19 = .ok (.aload_n 0, 1) := by decide +kernel
theorem dX8_formula_20 : decode cX8_formula 20 = .ok (.getfield 36, 3) := by decide +kernel
theorem dX8_formula_23 : decode cX8_formula 23 = .ok (.invokevirtual 241, 3) := by decide +kernel
theorem dX8_formula_26 : decode cX8_formula 26 = .ok (.if_icmp .ge 14, 3) := by decide +kernel
theorem dX8_formula_29 : decode cX8_formula 29 = .ok (.aload_n 0, 1) := by decide +kernel
theorem dX8_formula_30 : decode cX8_formula 30 = .ok (.getfield 36, 3) := by decide +kernel
theorem dX8_formula_33 : decode cX8_formula 33 = .ok (.iload_n 1, 1) := by decide +kernel
theorem dX8_formula_34 : decode cX8_formula 34 = .ok (.invokevirtual 242, 3) := by decide +kernel
theorem dX8_formula_37 : decode cX8_formula 37 = .ok (.goto 5, 3) := by decide +kernel
theorem dX8_formula_40 : decode cX8_formula 40 = .ok (.bipush (-5), 2) := by decide +kernel
theorem dX8_formula_42 : decode cX8_formula 42 = .ok (.ireturn, 1) := by decide +kernel
theorem dX8_count_0 : decode cX8_count 0 = .ok (.iload_n 1, 1) := by decide +kernel
theorem dX8_count_1 : decode cX8_count 1 = .ok (.tableswitch 207 0 12 #[67, 75, 83, 99, 107, 118, 126, 134, 153, 172, 183, 191, 199], 67) := by decide +kernel
theorem dX8_count_68 : decode cX8_count 68 = .ok (.aload_n 0, 1) := by decide +kernel
theorem dX8_count_69 : decode cX8_count 69 = .ok (.getfield 12, 3) := by decide +kernel
theorem dX8_count_72 : decode cX8_count 72 = .ok (.invokevirtual 83, 3) := by decide +kernel
theorem dX8_count_75 : decode cX8_count 75 = .ok (.ireturn, 1) := by decide +kernel
theorem dX8_count_76 : decode cX8_count 76 = .ok (.aload_n 0, 1) := by decide +kernel
theorem dX8_count_77 : decode cX8_count 77 = .ok (.getfield 12, 3) := by decide +kernel
theorem dX8_count_80 : decode cX8_count 80 = .ok (.invokevirtual 112, 3) := by decide +kernel
theorem dX8_count_83 : decode cX8_count 83 = .ok (.ireturn, 1) := by decide +kernel
theorem dX8_count_84 : decode cX8_count 84 = .ok (.aload_n 0, 1) := by decide +kernel
theorem dX8_count_85 : decode cX8_count 85 = .ok (.getfield 12, 3) := by decide +kernel
theorem dX8_count_88 : decode cX8_count 88 = .ok (.invokevirtual 112, 3) := by decide +kernel
theorem dX8_count_91 : decode cX8_count 91 = .ok (.aload_n 0, 1) := by decide +kernel
theorem dX8_count_92 : decode cX8_count 92 = .ok (.getfield 12, 3) := by decide +kernel
theorem dX8_count_95 : decode cX8_count 95 = .ok (.invokevirtual 130, 3) := by decide +kernel
theorem dX8_count_98 : decode cX8_count 98 = .ok (.isub, 1) := by decide +kernel
theorem dX8_count_99 : decode cX8_count 99 = .ok (.ireturn, 1) := by decide +kernel
theorem dX8_count_100 : decode cX8_count 100 = .ok (.aload_n 0, 1) := by decide +kernel
theorem dX8_count_101 : decode cX8_count 101 = .ok (.getfield 12, 3) := by decide +kernel
theorem dX8_count_104 : decode cX8_count 104 = .ok (.invokevirtual 76, 3) := by decide +kernel
theorem dX8_count_107 : decode cX8_count 107 = .ok (.ireturn, 1) := by decide +kernel
theorem dX8_count_108 : decode cX8_count 108 = .ok (.aload_n 0, 1) := by decide +kernel
theorem dX8_count_109 : decode cX8_count 109 = .ok (.getfield 12, 3) := by decide +kernel
theorem dX8_count_112 : decode cX8_count 112 = .ok (.getfield 51, 3) := by decide +kernel
theorem dX8_count_115 : decode cX8_count 115 = .ok (.invokevirtual 61, 3) := by decide +kernel
theorem dX8_count_118 : decode cX8_count 118 = .ok (.ireturn, 1) := by decide +kernel
theorem dX8_count_119 : decode cX8_count 119 = .ok (.aload_n 0, 1) := by decide +kernel
theorem dX8_count_120 : decode cX8_count 120 = .ok (.getfield 12, 3) := by decide +kernel
theorem dX8_count_123 : decode cX8_count 123 = .ok (.invokevirtual 245, 3) := by decide +kernel
theorem dX8_count_126 : decode cX8_count 126 = .ok (.ireturn, 1) := by decide +kernel
theorem dX8_count_127 : decode cX8_count 127 = .ok (.aload_n 0, 1) := by decide +kernel
theorem dX8_count_128 : decode cX8_count 128 = .ok (.getfield 12, 3) := by decide +kernel
theorem dX8_count_131 : decode cX8_count 131 = .ok (.invokestatic 248, 3) := by decide +kernel
theorem dX8_count_134 : decode cX8_count 134 = .ok (.ireturn, 1) := by decide +kernel
theorem dX8_count_135 : decode cX8_count 135 = .ok (.aload_n 0, 1) := by decide +kernel
theorem dX8_count_136 : decode cX8_count 136 = .ok (.getfield 36, 3) := by decide +kernel
theorem dX8_count_139 : decode cX8_count 139 = .ok (.aload_n 0, 1) := by decide +kernel
theorem dX8_count_140 : decode cX8_count 140 = .ok (.getfield 12, 3) := by decide +kernel
theorem dX8_count_143 : decode cX8_count 143 = .ok (.invokevirtual 238, 3) := by decide +kernel
theorem dX8_count_146 : decode cX8_count 146 = .ok (.aload_n 0, 1) := by decide +kernel
theorem dX8_count_147 : decode cX8_count 147 = .ok (.getfield 36, 3) := by decide +kernel
theorem dX8_count_150 : decode cX8_count 150 = .ok (.invokevirtual 241, 3) := by decide +kernel
theorem dX8_count_153 : decode cX8_count 153 = .ok (.ireturn, 1) := by decide +kernel
theorem dX8_count_154 : decode cX8_count 154 = .ok (.aload_n 0, 1) := by decide +kernel
theorem dX8_count_155 : decode cX8_count 155 = .ok (.getfield 36, 3) := by decide +kernel
theorem dX8_count_158 : decode cX8_count 158 = .ok (.aload_n 0, 1) := by decide +kernel
theorem dX8_count_159 : decode cX8_count 159 = .ok (.getfield 12, 3) := by decide +kernel
theorem dX8_count_162 : decode cX8_count 162 = .ok (.invokevirtual 238, 3) := by decide +kernel
theorem dX8_count_165 : decode cX8_count 165 = .ok (.aload_n 0, 1) := by decide +kernel
theorem dX8_count_166 : decode cX8_count 166 = .ok (.getfield 36, 3) := by decide +kernel
theorem dX8_count_169 : decode cX8_count 169 = .ok (.invokevirtual 251, 3) := by decide +kernel
theorem dX8_count_172 : decode cX8_count 172 = .ok (.ireturn, 1) := by decide +kernel
theorem dX8_count_173 : decode cX8_count 173 = .ok (.aload_n 0, 1) := by decide +kernel
theorem dX8_count_174 : decode cX8_count 174 = .ok (.getfield 12, 3) := by decide +kernel
theorem dX8_count_177 : decode cX8_count 177 = .ok (.getfield 146, 3) := by decide +kernel
theorem dX8_count_180 : decode cX8_count 180 = .ok (.invokevirtual 143, 3) := by decide +kernel
theorem dX8_count_183 : decode cX8_count 183 = .ok (.ireturn, 1) := by decide +kernel
theorem dX8_count_184 : decode cX8_count 184 = .ok (.aload_n 0, 1) := by decide +kernel
theorem dX8_count_185 : decode cX8_count 185 = .ok (.getfield 12, 3) := by decide +kernel
theorem dX8_count_188 : decode cX8_count 188 = .ok (.getfield 72, 3) := by decide +kernel
theorem dX8_count_191 : decode cX8_count 191 = .ok (.ireturn, 1) := by decide +kernel
theorem dX8_count_192 : decode cX8_count 192 = .ok (.aload_n 0, 1) := by decide +kernel
theorem dX8_count_193 : decode cX8_count 193 = .ok (.getfield 22, 3) := by decide +kernel
theorem dX8_count_196 : decode cX8_count 196 = .ok (.invokevirtual 164, 3) := by decide +kernel
theorem dX8_count_199 : decode cX8_count 199 = .ok (.ireturn, 1) := by decide +kernel
theorem dX8_count_200 : decode cX8_count 200 = .ok (.aload_n 0, 1) := by decide +kernel
theorem dX8_count_201 : decode cX8_count 201 = .ok (.getfield 29, 3) := by decide +kernel
theorem dX8_count_204 : decode cX8_count 204 = .ok (.invokevirtual 158, 3) := by decide +kernel
theorem dX8_count_207 : decode cX8_count 207 = .ok (.ireturn, 1) := by decide +kernel
theorem dX8_count_208 : decode cX8_count 208 = .ok (.bipush (-2), 2) := by decide +kernel
theorem dX8_count_210 : decode cX8_count 210 = .ok (.ireturn, 1) := by decide +kernel
theorem dX8_isQuireSize_0 : decode cX8_isQuireSize 0 = .ok (.iload_n 0, 1) := by decide +kernel
theorem dX8_isQuireSize_1 : decode cX8_isQuireSize 1 = .ok (.iconst 1, 1) := by decide +kernel
theorem dX8_isQuireSize_2 : decode cX8_isQuireSize 2 = .ok (.if_icmp .lt 13, 3) := by decide +kernel
theorem dX8_isQuireSize_5 : decode cX8_isQuireSize 5 = .ok (.iload_n 0, 1) := by decide +kernel
theorem dX8_isQuireSize_6 : decode cX8_isQuireSize 6 = .ok (.bipush 24, 2) := by decide +kernel
theorem dX8_isQuireSize_8 : decode cX8_isQuireSize 8 = .ok (.if_icmp .gt 7, 3) := by decide +kernel
theorem dX8_isQuireSize_11 : decode cX8_isQuireSize 11 = .ok (.iconst 1, 1) := by decide +kernel
theorem dX8_isQuireSize_12 : decode cX8_isQuireSize 12 = .ok (.goto 4, 3) := by decide +kernel
theorem dX8_isQuireSize_15 : decode cX8_isQuireSize 15 = .ok (.iconst 0, 1) := by decide +kernel
theorem dX8_isQuireSize_16 : decode cX8_isQuireSize 16 = .ok (.ireturn, 1) := by decide +kernel
theorem dX8_quiresOfText_0 : decode cX8_quiresOfText 0 = .ok (.iconst 0, 1) := by decide +kernel
theorem dX8_quiresOfText_1 : decode cX8_quiresOfText 1 = .ok (.istore_n 1, 1) := by decide +kernel
theorem dX8_quiresOfText_2 : decode cX8_quiresOfText 2 = .ok (.iconst 0, 1) := by decide +kernel
theorem dX8_quiresOfText_3 : decode cX8_quiresOfText 3 = .ok (.istore_n 2, 1) := by decide +kernel
theorem dX8_quiresOfText_4 : decode cX8_quiresOfText 4 = .ok (.iload_n 2, 1) := by decide +kernel
theorem dX8_quiresOfText_5 : decode cX8_quiresOfText 5 = .ok (.aload_n 0, 1) := by decide +kernel
theorem dX8_quiresOfText_6 : decode cX8_quiresOfText 6 = .ok (.getfield 29, 3) := by decide +kernel
theorem dX8_quiresOfText_9 : decode cX8_quiresOfText 9 = .ok (.invokevirtual 89, 3) := by decide +kernel
theorem dX8_quiresOfText_12 : decode cX8_quiresOfText 12 = .ok (.if_icmp .ge 56, 3) := by decide +kernel
theorem dX8_quiresOfText_15 : decode cX8_quiresOfText 15 = .ok (.aload_n 0, 1) := by decide +kernel
theorem dX8_quiresOfText_16 : decode cX8_quiresOfText 16 = .ok (.getfield 29, 3) := by decide +kernel
theorem dX8_quiresOfText_19 : decode cX8_quiresOfText 19 = .ok (.iload_n 2, 1) := by decide +kernel
theorem dX8_quiresOfText_20 : decode cX8_quiresOfText 20 = .ok (.invokevirtual 216, 3) := by decide +kernel
theorem dX8_quiresOfText_23 : decode cX8_quiresOfText 23 = .ok (.istore_n 3, 1) := by decide +kernel
theorem dX8_quiresOfText_24 : decode cX8_quiresOfText 24 = .ok (.aload_n 0, 1) := by decide +kernel
theorem dX8_quiresOfText_25 : decode cX8_quiresOfText 25 = .ok (.getfield 29, 3) := by decide +kernel
theorem dX8_quiresOfText_28 : decode cX8_quiresOfText 28 = .ok (.iload_n 2, 1) := by decide +kernel
theorem dX8_quiresOfText_29 : decode cX8_quiresOfText 29 = .ok (.invokevirtual 252, 3) := by decide +kernel
theorem dX8_quiresOfText_32 : decode cX8_quiresOfText 32 = .ok (.istore 4, 2) := by decide +kernel
theorem dX8_quiresOfText_34 : decode cX8_quiresOfText 34 = .ok (.iload_n 1, 1) := by decide +kernel
theorem dX8_quiresOfText_35 : decode cX8_quiresOfText 35 = .ok (.iload_n 3, 1) := by decide +kernel
theorem dX8_quiresOfText_36 : decode cX8_quiresOfText 36 = .ok (.iload 4, 2) := by decide +kernel
theorem dX8_quiresOfText_38 : decode cX8_quiresOfText 38 = .ok (.if_icmp .ne 7, 3) := by decide +kernel
theorem dX8_quiresOfText_41 : decode cX8_quiresOfText 41 = .ok (.iconst 1, 1) := by decide +kernel
theorem dX8_quiresOfText_42 : decode cX8_quiresOfText 42 = .ok (.goto 18, 3) := by decide +kernel
theorem dX8_quiresOfText_45 : decode cX8_quiresOfText 45 = .ok (.aload_n 0, 1) := by decide +kernel
theorem dX8_quiresOfText_46 : decode cX8_quiresOfText 46 = .ok (.getfield 12, 3) := by decide +kernel
theorem dX8_quiresOfText_49 : decode cX8_quiresOfText 49 = .ok (.getfield 51, 3) := by decide +kernel
theorem dX8_quiresOfText_52 : decode cX8_quiresOfText 52 = .ok (.iload_n 3, 1) := by decide +kernel
theorem dX8_quiresOfText_53 : decode cX8_quiresOfText 53 = .ok (.iload 4, 2) := by decide +kernel
theorem dX8_quiresOfText_55 : decode cX8_quiresOfText 55 = .ok (.invokevirtual 255, 3) := by decide +kernel
theorem dX8_quiresOfText_58 : decode cX8_quiresOfText 58 = .ok (.iconst 2, 1) := by decide +kernel
theorem dX8_quiresOfText_59 : decode cX8_quiresOfText 59 = .ok (.iadd, 1) := by decide +kernel
theorem dX8_quiresOfText_60 : decode cX8_quiresOfText 60 = .ok (.iadd, 1) := by decide +kernel
theorem dX8_quiresOfText_61 : decode cX8_quiresOfText 61 = .ok (.istore_n 1, 1) := by decide +kernel
theorem dX8_quiresOfText_62 : decode cX8_quiresOfText 62 = .ok (.iinc 2 1, 3) := by decide +kernel
theorem dX8_quiresOfText_65 : decode cX8_quiresOfText 65 = .ok (.goto (-61), 3) := by decide +kernel
theorem dX8_quiresOfText_68 : decode cX8_quiresOfText 68 = .ok (.iload_n 1, 1) := by decide +kernel
theorem dX8_quiresOfText_69 : decode cX8_quiresOfText 69 = .ok (.ireturn, 1) := by decide +kernel
theorem dX8_addEntry_0 : decode cX8_addEntry 0 = .ok (.aload_n 0, 1) := by decide +kernel
theorem dX8_addEntry_1 : decode cX8_addEntry 1 = .ok (.getfield 29, 3) := by decide +kernel
theorem dX8_addEntry_4 : decode cX8_addEntry 4 = .ok (.iload_n 1, 1) := by decide +kernel
theorem dX8_addEntry_5 : decode cX8_addEntry 5 = .ok (.invokevirtual 252, 3) := by decide +kernel
theorem dX8_addEntry_8 : decode cX8_addEntry 8 = .ok (.istore_n 2, 1) := by decide +kernel
theorem dX8_addEntry_9 : decode cX8_addEntry 9 = .ok (.aload_n 0, 1) := by decide +kernel
theorem dX8_addEntry_10 : decode cX8_addEntry 10 = .ok (.getfield 29, 3) := by decide +kernel
theorem dX8_addEntry_13 : decode cX8_addEntry 13 = .ok (.iload_n 1, 1) := by decide +kernel
theorem dX8_addEntry_14 : decode cX8_addEntry 14 = .ok (.invokevirtual 219, 3) := by decide +kernel
theorem dX8_addEntry_17 : decode cX8_addEntry 17 = .ok (.istore_n 3, 1) := by decide +kernel
theorem dX8_addEntry_18 : decode cX8_addEntry 18 = .ok (.aload_n 0, 1) := by decide +kernel
theorem dX8_addEntry_19 : decode cX8_addEntry 19 = .ok (.getfield 12, 3) := by decide +kernel
theorem dX8_addEntry_22 : decode cX8_addEntry 22 = .ok (.aload_n 0, 1) := by decide +kernel
theorem dX8_addEntry_23 : decode cX8_addEntry 23 = .ok (.getfield 12, 3) := by decide +kernel
theorem dX8_addEntry_26 : decode cX8_addEntry 26 = .ok (.invokevirtual 83, 3) := by decide +kernel
theorem dX8_addEntry_29 : decode cX8_addEntry 29 = .ok (.aload_n 0, 1) := by decide +kernel
theorem dX8_addEntry_30 : decode cX8_addEntry 30 = .ok (.getfield 29, 3) := by decide +kernel
theorem dX8_addEntry_33 : decode cX8_addEntry 33 = .ok (.iload_n 1, 1) := by decide +kernel
theorem dX8_addEntry_34 : decode cX8_addEntry 34 = .ok (.invokevirtual 216, 3) := by decide +kernel
theorem dX8_addEntry_37 : decode cX8_addEntry 37 = .ok (.iload_n 3, 1) := by decide +kernel
theorem dX8_addEntry_38 : decode cX8_addEntry 38 = .ok (.invokevirtual 105, 3) := by decide +kernel
theorem dX8_addEntry_41 : decode cX8_addEntry 41 = .ok (.aload_n 0, 1) := by decide +kernel
theorem dX8_addEntry_42 : decode cX8_addEntry 42 = .ok (.getfield 29, 3) := by decide +kernel
theorem dX8_addEntry_45 : decode cX8_addEntry 45 = .ok (.iload_n 1, 1) := by decide +kernel
theorem dX8_addEntry_46 : decode cX8_addEntry 46 = .ok (.invokevirtual 216, 3) := by decide +kernel
theorem dX8_addEntry_49 : decode cX8_addEntry 49 = .ok (.iconst 1, 1) := by decide +kernel
theorem dX8_addEntry_50 : decode cX8_addEntry 50 = .ok (.iadd, 1) := by decide +kernel
theorem dX8_addEntry_51 : decode cX8_addEntry 51 = .ok (.istore 4, 2) := by decide +kernel
theorem dX8_addEntry_53 : decode cX8_addEntry 53 = .ok (.iload 4, 2) := by decide +kernel
theorem dX8_addEntry_55 : decode cX8_addEntry 55 = .ok (.iload_n 2, 1) := by decide +kernel
theorem dX8_addEntry_56 : decode cX8_addEntry 56 = .ok (.if_icmp .gt 44, 3) := by decide +kernel
theorem dX8_addEntry_59 : decode cX8_addEntry 59 = .ok (.aload_n 0, 1) := by decide +kernel
theorem dX8_addEntry_60 : decode cX8_addEntry 60 = .ok (.getfield 12, 3) := by decide +kernel
theorem dX8_addEntry_63 : decode cX8_addEntry 63 = .ok (.getfield 51, 3) := by decide +kernel
theorem dX8_addEntry_66 : decode cX8_addEntry 66 = .ok (.iload 4, 2) := by decide +kernel
theorem dX8_addEntry_68 : decode cX8_addEntry 68 = .ok (.invokestatic 186, 3) := by decide +kernel
theorem dX8_addEntry_71 : decode cX8_addEntry 71 = .ok (.invokevirtual 55, 3) := by decide +kernel
theorem dX8_addEntry_74 : decode cX8_addEntry 74 = .ok (.ifCond .eq 20, 3) := by decide +kernel
theorem dX8_addEntry_77 : decode cX8_addEntry 77 = .ok (.aload_n 0, 1) := by decide +kernel
theorem dX8_addEntry_78 : decode cX8_addEntry 78 = .ok (.getfield 12, 3) := by decide +kernel
theorem dX8_addEntry_81 : decode cX8_addEntry 81 = .ok (.aload_n 0, 1) := by decide +kernel
theorem dX8_addEntry_82 : decode cX8_addEntry 82 = .ok (.getfield 12, 3) := by decide +kernel
theorem dX8_addEntry_85 : decode cX8_addEntry 85 = .ok (.invokevirtual 83, 3) := by decide +kernel
theorem dX8_addEntry_88 : decode cX8_addEntry 88 = .ok (.iload 4, 2) := by decide +kernel
theorem dX8_addEntry_90 : decode cX8_addEntry 90 = .ok (.iload_n 3, 1) := by decide +kernel
theorem dX8_addEntry_91 : decode cX8_addEntry 91 = .ok (.invokevirtual 105, 3) := by decide +kernel
theorem dX8_addEntry_94 : decode cX8_addEntry 94 = .ok (.iinc 4 1, 3) := by decide +kernel
theorem dX8_addEntry_97 : decode cX8_addEntry 97 = .ok (.goto (-44), 3) := by decide +kernel
theorem dX8_addEntry_100 : decode cX8_addEntry 100 = .ok (.return_, 1) := by decide +kernel
theorem dX8_leafHangingWith_0 : decode cX8_leafHangingWith 0 = .ok (.aload_n 0, 1) := by decide +kernel
theorem dX8_leafHangingWith_1 : decode cX8_leafHangingWith 1 = .ok (.getfield 12, 3) := by decide +kernel
theorem dX8_leafHangingWith_4 : decode cX8_leafHangingWith 4 = .ok (.iload_n 1, 1) := by decide +kernel
theorem dX8_leafHangingWith_5 : decode cX8_leafHangingWith 5 = .ok (.invokevirtual 204, 3) := by decide +kernel
theorem dX8_leafHangingWith_8 : decode cX8_leafHangingWith 8 = .ok (.istore_n 2, 1) := by decide +kernel
theorem dX8_leafHangingWith_9 : decode cX8_leafHangingWith 9 = .ok (.aload_n 0, 1) := by decide +kernel
theorem dX8_leafHangingWith_10 : decode cX8_leafHangingWith 10 = .ok (.getfield 12, 3) := by decide +kernel
theorem dX8_leafHangingWith_13 : decode cX8_leafHangingWith 13 = .ok (.iload_n 1, 1) := by decide +kernel
theorem dX8_leafHangingWith_14 : decode cX8_leafHangingWith 14 = .ok (.invokevirtual 207, 3) := by decide +kernel
theorem dX8_leafHangingWith_17 : decode cX8_leafHangingWith 17 = .ok (.istore_n 3, 1) := by decide +kernel
theorem dX8_leafHangingWith_18 : decode cX8_leafHangingWith 18 = .ok (.aload_n 0, 1) := by decide +kernel
theorem dX8_leafHangingWith_19 : decode cX8_leafHangingWith 19 = .ok (.getfield 12, 3) := by decide +kernel
theorem dX8_leafHangingWith_22 : decode cX8_leafHangingWith 22 = .ok (.getfield 189, 3) := by decide +kernel
theorem dX8_leafHangingWith_25 : decode cX8_leafHangingWith 25 = .ok (.iload_n 2, 1) := by decide +kernel
theorem dX8_leafHangingWith_26 : decode cX8_leafHangingWith 26 = .ok (.invokevirtual 152, 3) := by decide +kernel
theorem dX8_leafHangingWith_29 : decode cX8_leafHangingWith 29 = .ok (.iconst 1, 1) := by decide +kernel
theorem dX8_leafHangingWith_30 : decode cX8_leafHangingWith 30 = .ok (.iadd, 1) := by decide +kernel
theorem dX8_leafHangingWith_31 : decode cX8_leafHangingWith 31 = .ok (.iload_n 3, 1) := by decide +kernel
theorem dX8_leafHangingWith_32 : decode cX8_leafHangingWith 32 = .ok (.isub, 1) := by decide +kernel
theorem dX8_leafHangingWith_33 : decode cX8_leafHangingWith 33 = .ok (.istore 4, 2) := by decide +kernel
theorem dX8_leafHangingWith_35 : decode cX8_leafHangingWith 35 = .ok (.iload 4, 2) := by decide +kernel
theorem dX8_leafHangingWith_37 : decode cX8_leafHangingWith 37 = .ok (.iload_n 3, 1) := by decide +kernel
theorem dX8_leafHangingWith_38 : decode cX8_leafHangingWith 38 = .ok (.if_icmp .ne 8, 3) := by decide +kernel
theorem dX8_leafHangingWith_41 : decode cX8_leafHangingWith 41 = .ok (.bipush (-5), 2) := by decide +kernel
theorem dX8_leafHangingWith_43 : decode cX8_leafHangingWith 43 = .ok (.goto 16, 3) := by decide +kernel
theorem dX8_leafHangingWith_46 : decode cX8_leafHangingWith 46 = .ok (.aload_n 0, 1) := by decide +kernel
theorem dX8_leafHangingWith_47 : decode cX8_leafHangingWith 47 = .ok (.getfield 12, 3) := by decide +kernel
theorem dX8_leafHangingWith_50 : decode cX8_leafHangingWith 50 = .ok (.iload_n 2, 1) := by decide +kernel
theorem dX8_leafHangingWith_51 : decode cX8_leafHangingWith 51 = .ok (.invokevirtual 192, 3) := by decide +kernel
theorem dX8_leafHangingWith_54 : decode cX8_leafHangingWith 54 = .ok (.iload 4, 2) := by decide +kernel
theorem dX8_leafHangingWith_56 : decode cX8_leafHangingWith 56 = .ok (.iadd, 1) := by decide +kernel
theorem dX8_leafHangingWith_57 : decode cX8_leafHangingWith 57 = .ok (.iconst 1, 1) := by decide +kernel
theorem dX8_leafHangingWith_58 : decode cX8_leafHangingWith 58 = .ok (.isub, 1) := by decide +kernel
theorem dX8_leafHangingWith_59 : decode cX8_leafHangingWith 59 = .ok (.ireturn, 1) := by decide +kernel
