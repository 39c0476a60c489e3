theorem dX13_goFrom_9 : decode cX13_goFrom 9 = .ok (.istore_n 3, 1) := by decide +kernel
theorem dX13_goFrom_10 : decode cX13_goFrom 10 = .ok (.aload_n 0, 1) := by decide +kernel
theorem dX13_goFrom_11 : decode cX13_goFrom 11 = .ok (.aload_n 0, 1) := by decide +kernel
theorem dX13_goFrom_12 : decode cX13_goFrom 12 = .ok (.iload_n 1, 1) := by decide +kernel
theorem dX13_goFrom_13 : decode cX13_goFrom 13 = .ok (.iload_n 3, 1) := by decide +kernel
theorem dX13_goFrom_14 : decode cX13_goFrom 14 = .ok (.invokevirtual 550, 3) := by decide +kernel
theorem dX13_goFrom_17 : decode cX13_goFrom 17 = .ok (.invokevirtual 556, 3) := by decide +kernel
theorem dX13_goFrom_20 : decode cX13_goFrom 20 = .ok (.aload_n 0, 1) := by decide +kernel
theorem dX13_goFrom_21 : decode cX13_goFrom 21 = .ok (.getfield 511, 3) := by decide +kernel
theorem dX13_goFrom_24 : decode cX13_goFrom 24 = .ok (.ifCond .ne 84, 3) := by decide +kernel
theorem dX13_goFrom_27 : decode cX13_goFrom 27 = .ok (.aload_n 0, 1) := by decide +kernel
theorem dX13_goFrom_28 : decode cX13_goFrom 28 = .ok (.iload_n 1, 1) := by decide +kernel
theorem dX13_goFrom_29 : decode cX13_goFrom 29 = .ok (.iconst 0, 1) := by decide +kernel
theorem dX13_goFrom_30 : decode cX13_goFrom 30 = .ok (.iload_n 2, 1) := by decide +kernel
theorem dX13_goFrom_31 : decode cX13_goFrom 31 = .ok (.invokevirtual 553, 3) := by decide +kernel
theorem dX13_goFrom_34 : decode cX13_goFrom 34 = .ok (.aload_n 0, 1) := by decide +kernel
theorem dX13_goFrom_35 : decode cX13_goFrom 35 = .ok (.getfield 511, 3) := by decide +kernel
theorem dX13_goFrom_38 : decode cX13_goFrom 38 = .ok (.ifCond .le 4, 3) := by decide +kernel
theorem dX13_goFrom_41 : decode cX13_goFrom 41 = .ok (.return_, 1) := by decide +kernel
theorem dX13_goFrom_42 : decode cX13_goFrom 42 = .ok (.aload_n 0, 1) := by decide +kernel
theorem dX13_goFrom_43 : decode cX13_goFrom 43 = .ok (.iload_n 1, 1) := by decide +kernel
theorem dX13_goFrom_44 : decode cX13_goFrom 44 = .ok (.iconst 1, 1) := by decide +kernel
theorem dX13_goFrom_45 : decode cX13_goFrom 45 = .ok (.iload_n 3, 1) := by decide +kernel
theorem dX13_goFrom_46 : decode cX13_goFrom 46 = .ok (.isub, 1) := by decide +kernel
theorem dX13_goFrom_47 : decode cX13_goFrom 47 = .ok (.invokevirtual 550, 3) := by decide +kernel
theorem dX13_goFrom_50 : decode cX13_goFrom 50 = .ok (.istore 4, 2) := by decide +kernel
theorem dX13_goFrom_52 : decode cX13_goFrom 52 = .ok (.iload 4, 2) := by decide +kernel
theorem dX13_goFrom_54 : decode cX13_goFrom 54 = .ok (.ifCond .ne 17, 3) := by decide +kernel
theorem dX13_goFrom_57 : decode cX13_goFrom 57 = .ok (.aload_n 0, 1) := by decide +kernel
theorem dX13_goFrom_58 : decode cX13_goFrom 58 = .ok (.getfield 511, 3) := by decide +kernel
theorem dX13_goFrom_61 : decode cX13_goFrom 61 = .ok (.ifCond .gt 10, 3) := by decide +kernel
theorem dX13_goFrom_64 : decode cX13_goFrom 64 = .ok (.aload_n 0, 1) := by decide +kernel
theorem dX13_goFrom_65 : decode cX13_goFrom 65 = .ok (.invokevirtual 535, 3) := by decide +kernel
theorem dX13_goFrom_68 : decode cX13_goFrom 68 = .ok (.ifCond .ne 4, 3) := by decide +kernel
theorem dX13_goFrom_71 : decode cX13_goFrom 71 = .ok (.return_, 1) := by decide +kernel
theorem dX13_goFrom_72 : decode cX13_goFrom 72 = .ok (.aload_n 0, 1) := by decide +kernel
theorem dX13_goFrom_73 : decode cX13_goFrom 73 = .ok (.iload_n 1, 1) := by decide +kernel
theorem dX13_goFrom_74 : decode cX13_goFrom 74 = .ok (.iconst 1, 1) := by decide +kernel
theorem dX13_goFrom_75 : decode cX13_goFrom 75 = .ok (.iload_n 2, 1) := by decide +kernel
theorem dX13_goFrom_76 : decode cX13_goFrom 76 = .ok (.invokevirtual 553, 3) := by decide +kernel
theorem dX13_goFrom_79 : decode cX13_goFrom 79 = .ok (.aload_n 0, 1) := by decide +kernel
theorem dX13_goFrom_80 : decode cX13_goFrom 80 = .ok (.getfield 511, 3) := by decide +kernel
theorem dX13_goFrom_83 : decode cX13_goFrom 83 = .ok (.ifCond .le 4, 3) := by decide +kernel
theorem dX13_goFrom_86 : decode cX13_goFrom 86 = .ok (.return_, 1) := by decide +kernel
theorem dX13_goFrom_87 : decode cX13_goFrom 87 = .ok (.aload_n 0, 1) := by decide +kernel
theorem dX13_goFrom_88 : decode cX13_goFrom 88 = .ok (.aload_n 0, 1) := by decide +kernel
theorem dX13_goFrom_89 : decode cX13_goFrom 89 = .ok (.iload_n 1, 1) := by decide +kernel
theorem dX13_goFrom_90 : decode cX13_goFrom 90 = .ok (.iload_n 3, 1) := by decide +kernel
theorem dX13_goFrom_91 : decode cX13_goFrom 91 = .ok (.invokevirtual 550, 3) := by decide +kernel
theorem dX13_goFrom_94 : decode cX13_goFrom 94 = .ok (.ifCond .ne 7, 3) := by decide +kernel
theorem dX13_goFrom_97 : decode cX13_goFrom 97 = .ok (.iconst 1, 1) := by decide +kernel
theorem dX13_goFrom_98 : decode cX13_goFrom 98 = .ok (.goto 4, 3) := by decide +kernel
theorem dX13_goFrom_101 : decode cX13_goFrom 101 = .ok (.iconst 0, 1) := by decide +kernel
theorem dX13_goFrom_102 : decode cX13_goFrom 102 = .ok (.invokevirtual 556, 3) := by decide +kernel
theorem dX13_goFrom_105 : decode cX13_goFrom 105 = .ok (.goto (-85), 3) := by decide +kernel
theorem dX13_goFrom_108 : decode cX13_goFrom 108 = .ok (.return_, 1) := by decide +kernel
theorem dX13_goCall_0 : decode cX13_goCall 0 = .ok (.aload_n 0, 1) := by decide +kernel
theorem dX13_goCall_1 : decode cX13_goCall 1 = .ok (.getfield 560, 3) := by decide +kernel
theorem dX13_goCall_4 : decode cX13_goCall 4 = .ok (.bipush 20, 2) := by decide +kernel
theorem dX13_goCall_6 : decode cX13_goCall 6 = .ok (.if_icmp .ne 9, 3) := by decide +kernel
theorem dX13_goCall_9 : decode cX13_goCall 9 = .ok (.aload_n 0, 1) := by decide +kernel
theorem dX13_goCall_10 : decode cX13_goCall 10 = .ok (.iconst 4, 1) := by decide +kernel
theorem dX13_goCall_11 : decode cX13_goCall 11 = .ok (.putfield 511, 3) := by decide +kernel
theorem dX13_goCall_14 : decode cX13_goCall 14 = .ok (.return_, 1) := by decide +kernel
theorem dX13_goCall_15 : decode cX13_goCall 15 = .ok (.aload_n 0, 1) := by decide +kernel
theorem dX13_goCall_16 : decode cX13_goCall 16 = .ok (.dup, 1) := by decide +kernel
theorem dX13_goCall_17 : decode cX13_goCall 17 = .ok (.getfield 560, 3) := by decide +kernel
theorem dX13_goCall_20 : decode cX13_goCall 20 = .ok (.iconst 1, 1) := by decide +kernel
theorem dX13_goCall_21 : decode cX13_goCall 21 = .ok (.iadd, 1) := by decide +kernel
theorem dX13_goCall_22 : decode cX13_goCall 22 = .ok (.putfield 560, 3) := by decide +kernel
theorem dX13_goCall_25 : decode cX13_goCall 25 = .ok (.aload_n 0, 1) := by decide +kernel
theorem dX13_goCall_26 : decode cX13_goCall 26 = .ok (.aload_n 0, 1) := by decide +kernel
theorem dX13_goCall_27 : decode cX13_goCall 27 = .ok (.getfield 215, 3) := by decide +kernel
theorem dX13_goCall_30 : decode cX13_goCall 30 = .ok (.aload_n 0, 1) := by decide +kernel
theorem dX13_goCall_31 : decode cX13_goCall 31 = .ok (.getfield 182, 3) := by decide +kernel
theorem dX13_goCall_34 : decode cX13_goCall 34 = .ok (.iload_n 1, 1) := by decide +kernel
theorem dX13_goCall_35 : decode cX13_goCall 35 = .ok (.iaload, 1) := by decide +kernel
theorem dX13_goCall_36 : decode cX13_goCall 36 = .ok (.iaload, 1) := by decide +kernel
theorem dX13_goCall_37 : decode cX13_goCall 37 = .ok (.aload_n 0, 1) := by decide +kernel
theorem dX13_goCall_38 : decode cX13_goCall 38 = .ok (.getfield 218, 3) := by decide +kernel
theorem dX13_goCall_41 : decode cX13_goCall 41 = .ok (.aload_n 0, 1) := by decide +kernel
theorem dX13_goCall_42 : decode cX13_goCall 42 = .ok (.getfield 182, 3) := by decide +kernel
theorem dX13_goCall_45 : decode cX13_goCall 45 = .ok (.iload_n 1, 1) := by decide +kernel
theorem dX13_goCall_46 : decode cX13_goCall 46 = .ok (.iaload, 1) := by decide +kernel
theorem dX13_goCall_47 : decode cX13_goCall 47 = .ok (.iaload, 1) := by decide +kernel
theorem dX13_goCall_48 : decode cX13_goCall 48 = .ok (.iload_n 2, 1) := by decide +kernel
theorem dX13_goCall_49 : decode cX13_goCall 49 = .ok (.invokevirtual 531, 3) := by decide +kernel
theorem dX13_goCall_52 : decode cX13_goCall 52 = .ok (.aload_n 0, 1) := by decide +kernel
theorem dX13_goCall_53 : decode cX13_goCall 53 = .ok (.dup, 1) := by decide +kernel
theorem dX13_goCall_54 : decode cX13_goCall 54 = .ok (.getfield 560, 3) := by decide +kernel
theorem dX13_goCall_57 : decode cX13_goCall 57 = .ok (.iconst 1, 1) := by decide +kernel
theorem dX13_goCall_58 : decode cX13_goCall 58 = .ok (.isub, 1) := by decide +kernel
theorem dX13_goCall_59 : decode cX13_goCall 59 = .ok (.putfield 560, 3) := by decide +kernel
theorem dX13_goCall_62 : decode cX13_goCall 62 = .ok (.return_, 1) := by decide +kernel
theorem dX13_varOf_0 : decode cX13_varOf 0 = .ok (.iload_n 0, 1) := by decide +kernel
theorem dX13_varOf_1 : decode cX13_varOf 1 = .ok (.i2l, 1) := by decide +kernel
theorem dX13_varOf_2 : decode cX13_varOf 2 = .ok (.lconst 0, 1) := by decide +kernel
theorem dX13_varOf_3 : decode cX13_varOf 3 = .ok (.ldc2_w 563, 3) := by decide +kernel
theorem dX13_varOf_6 : decode cX13_varOf 6 = .ok (.invokestatic 64, 3) := by decide +kernel
theorem dX13_varOf_9 : decode cX13_varOf 9 = .ok (.ifCond .eq 7, 3) := by decide +kernel
theorem dX13_varOf_12 : decode cX13_varOf 12 = .ok (.iload_n 0, 1) := by decide +kernel
theorem dX13_varOf_13 : decode cX13_varOf 13 = .ok (.goto 24, 3) := by decide +kernel
theorem dX13_varOf_16 : decode cX13_varOf 16 = .ok (.iload_n 0, 1) := by decide +kernel
theorem dX13_varOf_17 : decode cX13_varOf 17 = .ok (.i2l, 1) := by decide +kernel
theorem dX13_varOf_18 : decode cX13_varOf 18 = .ok (.ldc2_w 565, 3) := by decide +kernel
theorem dX13_varOf_21 : decode cX13_varOf 21 = .ok (.ldc2_w 567, 3) := by decide +kernel
theorem dX13_varOf_24 : decode cX13_varOf 24 = .ok (.invokestatic 64, 3) := by decide +kernel
theorem dX13_varOf_27 : decode cX13_varOf 27 = .ok (.ifCond .eq 9, 3) := by decide +kernel
theorem dX13_varOf_30 : decode cX13_varOf 30 = .ok (.iload_n 0, 1) := by decide +kernel
theorem dX13_varOf_31 : decode cX13_varOf 31 = .ok (.iconst 2, 1) := by decide +kernel
theorem dX13_varOf_32 : decode cX13_varOf 32 = .ok (.isub, 1) := by decide +kernel
theorem dX13_varOf_33 : decode cX13_varOf 33 = .ok (.goto 4, 3) := by decide +kernel
theorem dX13_varOf_36 : decode cX13_varOf 36 = .ok (.iconst (-1), 1) := by decide +kernel
theorem dX13_varOf_37 : decode cX13_varOf 37 = .ok (.ireturn, 1) := by decide +kernel
theorem dX13_let_0 : decode cX13_let 0 = .ok (.iload_n 1, 1) := by decide +kernel
theorem dX13_let_1 : decode cX13_let 1 = .ok (.invokestatic 569, 3) := by decide +kernel
theorem dX13_let_4 : decode cX13_let 4 = .ok (.istore_n 3, 1) := by decide +kernel
theorem dX13_let_5 : decode cX13_let 5 = .ok (.iload_n 3, 1) := by decide +kernel
theorem dX13_let_6 : decode cX13_let 6 = .ok (.iconst (-1), 1) := by decide +kernel
theorem dX13_let_7 : decode cX13_let 7 = .ok (.if_icmp .ne 7, 3) := by decide +kernel
theorem dX13_let_10 : decode cX13_let 10 = .ok (.ldc_w 572, 3) := by decide +kernel
theorem dX13_let_13 : decode cX13_let 13 = .ok (.ireturn, 1) := by decide +kernel
theorem dX13_let_14 : decode cX13_let 14 = .ok (.aload_n 0, 1) := by decide +kernel
theorem dX13_let_15 : decode cX13_let 15 = .ok (.getfield 228, 3) := by decide +kernel
theorem dX13_let_18 : decode cX13_let 18 = .ok (.iload_n 3, 1) := by decide +kernel
theorem dX13_let_19 : decode cX13_let 19 = .ok (.iaload, 1) := by decide +kernel
theorem dX13_let_20 : decode cX13_let 20 = .ok (.istore 4, 2) := by decide +kernel
theorem dX13_let_22 : decode cX13_let 22 = .ok (.aload_n 0, 1) := by decide +kernel
theorem dX13_let_23 : decode cX13_let 23 = .ok (.getfield 228, 3) := by decide +kernel
theorem dX13_let_26 : decode cX13_let 26 = .ok (.iload_n 3, 1) := by decide +kernel
theorem dX13_let_27 : decode cX13_let 27 = .ok (.iload_n 2, 1) := by decide +kernel
theorem dX13_let_28 : decode cX13_let 28 = .ok (.iastore, 1) := by decide +kernel
theorem dX13_let_29 : decode cX13_let 29 = .ok (.iload 4, 2) := by decide +kernel
theorem dX13_let_31 : decode cX13_let 31 = .ok (.ireturn, 1) := by decide +kernel
theorem dX13_value_0 : decode cX13_value 0 = .ok (.iload_n 1, 1) := by decide +kernel
theorem dX13_value_1 : decode cX13_value 1 = .ok (.invokestatic 569, 3) := by decide +kernel
theorem dX13_value_4 : decode cX13_value 4 = .ok (.iconst (-1), 1) := by decide +kernel
theorem dX13_value_5 : decode cX13_value 5 = .ok (.if_icmp .ne 9, 3) := by decide +kernel
theorem dX13_value_8 : decode cX13_value 8 = .ok (.ldc_w 572, 3) := by decide +kernel
theorem dX13_value_11 : decode cX13_value 11 = .ok (.goto 12, 3) := by decide +kernel
theorem dX13_value_14 : decode cX13_value 14 = .ok (.aload_n 0, 1) := by decide +kernel
theorem dX13_value_15 : decode cX13_value 15 = .ok (.getfield 228, 3) := by decide +kernel
theorem dX13_value_18 : decode cX13_value 18 = .ok (.iload_n 1, 1) := by decide +kernel
theorem dX13_value_19 : decode cX13_value 19 = .ok (.invokestatic 569, 3) := by decide +kernel
theorem dX13_value_22 : decode cX13_value 22 = .ok (.iaload, 1) := by decide +kernel
theorem dX13_value_23 : decode cX13_value 23 = .ok (.ireturn, 1) := by decide +kernel
theorem dX13_run_0 : decode cX13_run 0 = .ok (.iload_n 1, 1) := by decide +kernel
theorem dX13_run_1 : decode cX13_run 1 = .ok (.i2l, 1) := by decide +kernel
theorem dX13_run_2 : decode cX13_run 2 = .ok (.lconst 0, 1) := by decide +kernel
theorem dX13_run_3 : decode cX13_run 3 = .ok (.aload_n 0, 1) := by decide +kernel
theorem dX13_run_4 : decode cX13_run 4 = .ok (.getfield 497, 3) := by decide +kernel
theorem dX13_run_7 : decode cX13_run 7 = .ok (.i2l, 1) := by decide +kernel
theorem dX13_run_8 : decode cX13_run 8 = .ok (.lconst 1, 1) := by decide +kernel
theorem dX13_run_9 : decode cX13_run 9 = .ok (.lsub, 1) := by decide +kernel
theorem dX13_run_10 : decode cX13_run 10 = .ok (.invokestatic 64, 3) := by decide +kernel
theorem dX13_run_13 : decode cX13_run 13 = .ok (.ifCond .ne 6, 3) := by decide +kernel
theorem dX13_run_16 : decode cX13_run 16 = .ok (.bipush (-2), 2) := by decide +kernel
theorem dX13_run_18 : decode cX13_run 18 = .ok (.ireturn, 1) := by decide +kernel
theorem dX13_run_19 : decode cX13_run 19 = .ok (.iconst 0, 1) := by decide +kernel
theorem dX13_run_20 : decode cX13_run 20 = .ok (.istore_n 3, 1) := by decide +kernel
theorem dX13_run_21 : decode cX13_run 21 = .ok (.iload_n 3, 1) := by decide +kernel
theorem dX13_run_22 : decode cX13_run 22 = .ok (.bipush 18, 2) := by decide +kernel
theorem dX13_run_24 : decode cX13_run 24 = .ok (.if_icmp .ge 21, 3) := by decide +kernel
theorem dX13_run_27 : decode cX13_run 27 = .ok (.aload_n 0, 1) := by decide +kernel
theorem dX13_run_28 : decode cX13_run 28 = .ok (.getfield 231, 3) := by decide +kernel
theorem dX13_run_31 : decode cX13_run 31 = .ok (.iload_n 3, 1) := by decide +kernel
theorem dX13_run_32 : decode cX13_run 32 = .ok (.aload_n 0, 1) := by decide +kernel
theorem dX13_run_33 : decode cX13_run 33 = .ok (.getfield 228, 3) := by decide +kernel
theorem dX13_run_36 : decode cX13_run 36 = .ok (.iload_n 3, 1) := by decide +kernel
theorem dX13_run_37 : decode cX13_run 37 = .ok (.iaload, 1) := by decide +kernel
theorem dX13_run_38 : decode cX13_run 38 = .ok (.iastore, 1) := by decide +kernel
theorem dX13_run_39 : decode cX13_run 39 = .ok (.iinc 3 1, 3) := by decide +kernel
theorem dX13_run_42 : decode cX13_run 42 = .ok (.goto (-21), 3) := by decide +kernel
theorem dX13_run_45 : decode cX13_run 45 = .ok (.aload_n 0, 1) := by decide +kernel
theorem dX13_run_46 : decode cX13_run 46 = .ok (.iconst 0, 1) := by decide +kernel
theorem dX13_run_47 : decode cX13_run 47 = .ok (.putfield 511, 3) := by decide +kernel
theorem dX13_run_50 : decode cX13_run 50 = .ok (.aload_n 0, 1) := by decide +kernel
theorem dX13_run_51 : decode cX13_run 51 = .ok (.iconst 0, 1) := by decide +kernel
theorem dX13_run_52 : decode cX13_run 52 = .ok (.putfield 524, 3) := by decide +kernel
theorem dX13_run_55 : decode cX13_run 55 = .ok (.aload_n 0, 1) := by decide +kernel
theorem dX13_run_56 : decode cX13_run 56 = .ok (.iconst 0, 1) := by decide +kernel
theorem dX13_run_57 : decode cX13_run 57 = .ok (.putfield 560, 3) := by decide +kernel
theorem dX13_run_60 : decode cX13_run 60 = .ok (.aload_n 0, 1) := by decide +kernel
theorem dX13_run_61 : decode cX13_run 61 = .ok (.aload_n 0, 1) := by decide +kernel
theorem dX13_run_62 : decode cX13_run 62 = .ok (.getfield 215, 3) := by decide +kernel
theorem dX13_run_65 : decode cX13_run 65 = .ok (.iload_n 1, 1) := by decide +kernel
theorem dX13_run_66 : decode cX13_run 66 = .ok (.iaload, 1) := by decide +kernel
theorem dX13_run_67 : decode cX13_run 67 = .ok (.aload_n 0, 1) := by decide +kernel
theorem dX13_run_68 : decode cX13_run 68 = .ok (.getfield 218, 3) := by decide +kernel
theorem dX13_run_71 : decode cX13_run 71 = .ok (.iload_n 1, 1) := by decide +kernel
theorem dX13_run_72 : decode cX13_run 72 = .ok (.iaload, 1) := by decide +kernel
theorem dX13_run_73 : decode cX13_run 73 = .ok (.iload_n 2, 1) := by decide +kernel
theorem dX13_run_74 : decode cX13_run 74 = .ok (.invokevirtual 531, 3) := by decide +kernel
theorem dX13_run_77 : decode cX13_run 77 = .ok (.aload_n 0, 1) := by decide +kernel
theorem dX13_run_78 : decode cX13_run 78 = .ok (.getfield 511, 3) := by decide +kernel
theorem dX13_run_81 : decode cX13_run 81 = .ok (.ifCond .ne 8, 3) := by decide +kernel
theorem dX13_run_84 : decode cX13_run 84 = .ok (.aload_n 0, 1) := by decide +kernel
theorem dX13_run_85 : decode cX13_run 85 = .ok (.getfield 524, 3) := by decide +kernel
theorem dX13_run_88 : decode cX13_run 88 = .ok (.ireturn, 1) := by decide +kernel
theorem dX13_run_89 : decode cX13_run 89 = .ok (.iconst 0, 1) := by decide +kernel
theorem dX13_run_90 : decode cX13_run 90 = .ok (.istore_n 3, 1) := by decide +kernel
theorem dX13_run_91 : decode cX13_run 91 = .ok (.iload_n 3, 1) := by decide +kernel
theorem dX13_run_92 : decode cX13_run 92 = .ok (.bipush 18, 2) := by decide +kernel
theorem dX13_run_94 : decode cX13_run 94 = .ok (.if_icmp .ge 21, 3) := by decide +kernel
theorem dX13_run_97 : decode cX13_run 97 = .ok (.aload_n 0, 1) := by decide +kernel
theorem dX13_run_98 : decode cX13_run 98 = .ok (.getfield 228, 3) := by decide +kernel
theorem dX13_run_101 : decode cX13_run 101 = .ok (.iload_n 3, 1) := by decide +kernel
theorem dX13_run_102 : decode cX13_run 102 = .ok (.aload_n 0, 1) := by decide +kernel
theorem dX13_run_103 : decode cX13_run 103 = .ok (.getfield 231, 3) := by decide +kernel
theorem dX13_run_106 : decode cX13_run 106 = .ok (.iload_n 3, 1) := by decide +kernel
theorem dX13_run_107 : decode cX13_run 107 = .ok (.iaload, 1) := by decide +kernel
theorem dX13_run_108 : decode cX13_run 108 = .ok (.iastore, 1) := by decide +kernel
theorem dX13_run_109 : decode cX13_run 109 = .ok (.iinc 3 1, 3) := by decide +kernel
theorem dX13_run_112 : decode cX13_run 112 = .ok (.goto (-21), 3) := by decide +kernel
theorem dX13_run_115 : decode cX13_run 115 = .ok (.iconst (-1), 1) := by decide +kernel
theorem dX13_run_116 : decode cX13_run 116 = .ok (.ireturn, 1) := by decide +kernel
theorem dX13_trouble_0 : decode cX13_trouble 0 = .ok (.iload_n 1, 1) := by decide +kernel
theorem dX13_trouble_1 : decode cX13_trouble 1 = .ok (.ifCond .ne 10, 3) := by decide +kernel
theorem dX13_trouble_4 : decode cX13_trouble 4 = .ok (.aload_n 0, 1) := by decide +kernel
theorem dX13_trouble_5 : decode cX13_trouble 5 = .ok (.getfield 511, 3) := by decide +kernel
theorem dX13_trouble_8 : decode cX13_trouble 8 = .ok (.goto 16, 3) := by decide +kernel
theorem dX13_trouble_11 : decode cX13_trouble 11 = .ok (.iload_n 1, 1) := by decide +kernel
theorem dX13_trouble_12 : decode cX13_trouble 12 = .ok (.iconst 1, 1) := by decide +kernel
theorem dX13_trouble_13 : decode cX13_trouble 13 = .ok (.if_icmp .ne 10, 3) := by decide +kernel
theorem dX13_trouble_16 : decode cX13_trouble 16 = .ok (.aload_n 0, 1) := by decide +kernel
theorem dX13_trouble_17 : decode cX13_trouble 17 = .ok (.getfield 524, 3) := by decide +kernel
theorem dX13_trouble_20 : decode cX13_trouble 20 = .ok (.goto 4, 3) := by decide +kernel
theorem dX13_trouble_23 : decode cX13_trouble 23 = .ok (.iconst (-1), 1) := by decide +kernel
theorem dX13_trouble_24 : decode cX13_trouble 24 = .ok (.ireturn, 1) := by decide +kernel
theorem dX13_isCell_0 : decode cX13_isCell 0 = .ok (.iload_n 1, 1) := by decide +kernel
theorem dX13_isCell_1 : decode cX13_isCell 1 = .ok (.i2l, 1) := by decide +kernel
theorem dX13_isCell_2 : decode cX13_isCell 2 = .ok (.lconst 0, 1) := by decide +kernel
theorem dX13_isCell_3 : decode cX13_isCell 3 = .ok (.aload_n 0, 1) := by decide +kernel
theorem dX13_isCell_4 : decode cX13_isCell 4 = .ok (.getfield 279, 3) := by decide +kernel
theorem dX13_isCell_7 : decode cX13_isCell 7 = .ok (.i2l, 1) := by decide +kernel
theorem dX13_isCell_8 : decode cX13_isCell 8 = .ok (.lconst 1, 1) := by decide +kernel
theorem dX13_isCell_9 : decode cX13_isCell 9 = .ok (.lsub, 1) := by decide +kernel
theorem dX13_isCell_10 : decode cX13_isCell 10 = .ok (.invokestatic 64, 3) := by decide +kernel
theorem dX13_isCell_13 : decode cX13_isCell 13 = .ok (.ifCond .eq 23, 3) := by decide +kernel
theorem dX13_isCell_16 : decode cX13_isCell 16 = .ok (.iload_n 2, 1) := by decide +kernel
theorem dX13_isCell_17 : decode cX13_isCell 17 = .ok (.i2l, 1) := by decide +kernel
theorem dX13_isCell_18 : decode cX13_isCell 18 = .ok (.lconst 0, 1) := by decide +kernel
theorem dX13_isCell_19 : decode cX13_isCell 19 = .ok (.aload_n 0, 1) := by decide +kernel
theorem dX13_isCell_20 : decode cX13_isCell 20 = .ok (.getfield 282, 3) := by decide +kernel
theorem dX13_isCell_23 : decode cX13_isCell 23 = .ok (.i2l, 1) := by decide +kernel
theorem dX13_isCell_24 : decode cX13_isCell 24 = .ok (.lconst 1, 1) := by decide +kernel
theorem dX13_isCell_25 : decode cX13_isCell 25 = .ok (.lsub, 1) := by decide +kernel
theorem dX13_isCell_26 : decode cX13_isCell 26 = .ok (.invokestatic 64, 3) := by decide +kernel
theorem dX13_isCell_29 : decode cX13_isCell 29 = .ok (.ifCond .eq 7, 3) := by decide +kernel
theorem dX13_isCell_32 : decode cX13_isCell 32 = .ok (.iconst 1, 1) := by decide +kernel
theorem dX13_isCell_33 : decode cX13_isCell 33 = .ok (.goto 4, 3) := by decide +kernel
theorem dX13_isCell_36 : decode cX13_isCell 36 = .ok (.iconst 0, 1) := by decide +kernel
theorem dX13_isCell_37 : decode cX13_isCell 37 = .ok (.ireturn, 1) := by decide +kernel
theorem dX13_at_0 : decode cX13_at 0 = .ok (.bipush 10, 2) := by decide +kernel
theorem dX13_at_2 : decode cX13_at 2 = .ok (.iload_n 1, 1) := by decide +kernel
theorem dX13_at_3 : decode cX13_at 3 = .ok (.imul, 1) := by decide +kernel
theorem dX13_at_4 : decode cX13_at 4 = .ok (.iload_n 0, 1) := by decide +kernel
theorem dX13_at_5 : decode cX13_at 5 = .ok (.iadd, 1) := by decide +kernel
theorem dX13_at_6 : decode cX13_at 6 = .ok (.ireturn, 1) := by decide +kernel
theorem dX13_table_0 : decode cX13_table 0 = .ok (.iload_n 1, 1) := by decide +kernel
theorem dX13_table_1 : decode cX13_table 1 = .ok (.i2l, 1) := by decide +kernel
theorem dX13_table_2 : decode cX13_table 2 = .ok (.ldc2_w 573, 3) := by decide +kernel
theorem dX13_table_5 : decode cX13_table 5 = .ok (.ldc2_w 565, 3) := by decide +kernel
theorem dX13_table_8 : decode cX13_table 8 = .ok (.invokestatic 64, 3) := by decide +kernel
theorem dX13_table_11 : decode cX13_table 11 = .ok (.ifCond .eq 17, 3) := by decide +kernel
theorem dX13_table_14 : decode cX13_table 14 = .ok (.iload_n 2, 1) := by decide +kernel
theorem dX13_table_15 : decode cX13_table 15 = .ok (.i2l, 1) := by decide +kernel
theorem dX13_table_16 : decode cX13_table 16 = .ok (.ldc2_w 573, 3) := by decide +kernel
theorem dX13_table_19 : decode cX13_table 19 = .ok (.ldc2_w 565, 3) := by decide +kernel
theorem dX13_table_22 : decode cX13_table 22 = .ok (.invokestatic 64, 3) := by decide +kernel
theorem dX13_table_25 : decode cX13_table 25 = .ok (.ifCond .ne 6, 3) := by decide +kernel
theorem dX13_table_28 : decode cX13_table 28 = .ok (.bipush (-2), 2) := by decide +kernel
theorem dX13_table_30 : decode cX13_table 30 = .ok (.ireturn, 1) := by decide +kernel
theorem dX13_table_31 : decode cX13_table 31 = .ok (.aload_n 0, 1) := by decide +kernel
theorem dX13_table_32 : decode cX13_table 32 = .ok (.iload_n 1, 1) := by decide +kernel
theorem dX13_table_33 : decode cX13_table 33 = .ok (.putfield 279, 3) := by decide +kernel
theorem dX13_table_36 : decode cX13_table 36 = .ok (.aload_n 0, 1) := by decide +kernel
theorem dX13_table_37 : decode cX13_table 37 = .ok (.iload_n 2, 1) := by decide +kernel
theorem dX13_table_38 : decode cX13_table 38 = .ok (.putfield 282, 3) := by decide +kernel
theorem dX13_table_41 : decode cX13_table 41 = .ok (.iconst 0, 1) := by decide +kernel
theorem dX13_table_42 : decode cX13_table 42 = .ok (.istore_n 3, 1) := by decide +kernel
theorem dX13_table_43 : decode cX13_table 43 = .ok (.iload_n 3, 1) := by decide +kernel
theorem dX13_table_44 : decode cX13_table 44 = .ok (.bipush 100, 2) := by decide +kernel
theorem dX13_table_46 : decode cX13_table 46 = .ok (.if_icmp .ge 23, 3) := by decide +kernel
theorem dX13_table_49 : decode cX13_table 49 = .ok (.aload_n 0, 1) := by decide +kernel
theorem dX13_table_50 : decode cX13_table 50 = .ok (.getfield 237, 3) := by decide +kernel
theorem dX13_table_53 : decode cX13_table 53 = .ok (.iload_n 3, 1) := by decide +kernel
theorem dX13_table_54 : decode cX13_table 54 = .ok (.iconst 0, 1) := by decide +kernel
theorem dX13_table_55 : decode cX13_table 55 = .ok (.iastore, 1) := by decide +kernel
theorem dX13_table_56 : decode cX13_table 56 = .ok (.aload_n 0, 1) := by decide +kernel
theorem dX13_table_57 : decode cX13_table 57 = .ok (.getfield 240, 3) := by decide +kernel
theorem dX13_table_60 : decode cX13_table 60 = .ok (.iload_n 3, 1) := by decide +kernel
theorem dX13_table_61 : decode cX13_table 61 = .ok (.iconst 0, 1) := by decide +kernel
theorem dX13_table_62 : decode cX13_table 62 = .ok (.iastore, 1) := by decide +kernel
theorem dX13_table_63 : decode cX13_table 63 = .ok (.iinc 3 1, 3) := by decide +kernel
theorem dX13_table_66 : decode cX13_table 66 = .ok (.goto (-23), 3) := by decide +kernel
theorem dX13_table_69 : decode cX13_table 69 = .ok (.aload_n 0, 1) := by decide +kernel
theorem dX13_table_70 : decode cX13_table 70 = .ok (.iconst 0, 1) := by decide +kernel
theorem dX13_table_71 : decode cX13_table 71 = .ok (.putfield 575, 3) := by decide +kernel
theorem dX13_table_74 : decode cX13_table 74 = .ok (.aload_n 0, 1) := by decide +kernel
theorem dX13_table_75 : decode cX13_table 75 = .ok (.iconst 0, 1) := by decide +kernel
theorem dX13_table_76 : decode cX13_table 76 = .ok (.putfield 578, 3) := by decide +kernel
theorem dX13_table_79 : decode cX13_table 79 = .ok (.iconst 1, 1) := by decide +kernel
theorem dX13_table_80 : decode cX13_table 80 = .ok (.ireturn, 1) := by decide +kernel
theorem dX13_part_0 : decode cX13_part 0 = .ok (.aload_n 0, 1) := by decide +kernel
theorem dX13_part_1 : decode cX13_part 1 = .ok (.iload_n 1, 1) := by decide +kernel
theorem dX13_part_2 : decode cX13_part 2 = .ok (.iload_n 2, 1) := by decide +kernel
theorem dX13_part_3 : decode cX13_part 3 = .ok (.invokevirtual 581, 3) := by decide +kernel
theorem dX13_part_6 : decode cX13_part 6 = .ok (.ifCond .eq 15, 3) := by decide +kernel
theorem dX13_part_9 : decode cX13_part 9 = .ok (.iload_n 3, 1) := by decide +kernel
theorem dX13_part_10 : decode cX13_part 10 = .ok (.i2l, 1) := by decide +kernel
theorem dX13_part_11 : decode cX13_part 11 = .ok (.lconst 0, 1) := by decide +kernel
theorem dX13_part_12 : decode cX13_part 12 = .ok (.ldc2_w 584, 3) := by decide +kernel
theorem dX13_part_15 : decode cX13_part 15 = .ok (.invokestatic 64, 3) := by decide +kernel
theorem dX13_part_18 : decode cX13_part 18 = .ok (.ifCond .ne 6, 3) := by decide +kernel
theorem dX13_part_21 : decode cX13_part 21 = .ok (.bipush (-2), 2) := by decide +kernel
theorem dX13_part_23 : decode cX13_part 23 = .ok (.ireturn, 1) := by decide +kernel
theorem dX13_part_24 : decode cX13_part 24 = .ok (.aload_n 0, 1) := by decide +kernel
theorem dX13_part_25 : decode cX13_part 25 = .ok (.getfield 237, 3) := by decide +kernel
theorem dX13_part_28 : decode cX13_part 28 = .ok (.iload_n 1, 1) := by decide +kernel
theorem dX13_part_29 : decode cX13_part 29 = .ok (.iload_n 2, 1) := by decide +kernel
theorem dX13_part_30 : decode cX13_part 30 = .ok (.invokestatic 586, 3) := by decide +kernel
theorem dX13_part_33 : decode cX13_part 33 = .ok (.iaload, 1) := by decide +kernel
theorem dX13_part_34 : decode cX13_part 34 = .ok (.istore 4, 2) := by decide +kernel
theorem dX13_part_36 : decode cX13_part 36 = .ok (.aload_n 0, 1) := by decide +kernel
theorem dX13_part_37 : decode cX13_part 37 = .ok (.getfield 237, 3) := by decide +kernel
theorem dX13_part_40 : decode cX13_part 40 = .ok (.iload_n 1, 1) := by decide +kernel
theorem dX13_part_41 : decode cX13_part 41 = .ok (.iload_n 2, 1) := by decide +kernel
theorem dX13_part_42 : decode cX13_part 42 = .ok (.invokestatic 586, 3) := by decide +kernel
theorem dX13_part_45 : decode cX13_part 45 = .ok (.iload_n 3, 1) := by decide +kernel
theorem dX13_part_46 : decode cX13_part 46 = .ok (.iastore, 1) := by decide +kernel
theorem dX13_part_47 : decode cX13_part 47 = .ok (.aload_n 0, 1) := by decide +kernel
theorem dX13_part_48 : decode cX13_part 48 = .ok (.iconst 0, 1) := by decide +kernel
theorem dX13_part_49 : decode cX13_part 49 = .ok (.putfield 578, 3) := by decide +kernel
theorem dX13_part_52 : decode cX13_part 52 = .ok (.iload 4, 2) := by decide +kernel
theorem dX13_part_54 : decode cX13_part 54 = .ok (.ireturn, 1) := by decide +kernel
theorem dX13_ball_0 : decode cX13_ball 0 = .ok (.aload_n 0, 1) := by decide +kernel
theorem dX13_ball_1 : decode cX13_ball 1 = .ok (.iload_n 1, 1) := by decide +kernel
theorem dX13_ball_2 : decode cX13_ball 2 = .ok (.iload_n 2, 1) := by decide +kernel
theorem dX13_ball_3 : decode cX13_ball 3 = .ok (.invokevirtual 581, 3) := by decide +kernel
theorem dX13_ball_6 : decode cX13_ball 6 = .ok (.ifCond .eq 15, 3) := by decide +kernel
theorem dX13_ball_9 : decode cX13_ball 9 = .ok (.iload_n 3, 1) := by decide +kernel
theorem dX13_ball_10 : decode cX13_ball 10 = .ok (.i2l, 1) := by decide +kernel
theorem dX13_ball_11 : decode cX13_ball 11 = .ok (.lconst 0, 1) := by decide +kernel
theorem dX13_ball_12 : decode cX13_ball 12 = .ok (.ldc2_w 584, 3) := by decide +kernel
theorem dX13_ball_15 : decode cX13_ball 15 = .ok (.invokestatic 64, 3) := by decide +kernel
theorem dX13_ball_18 : decode cX13_ball 18 = .ok (.ifCond .ne 6, 3) := by decide +kernel
theorem dX13_ball_21 : decode cX13_ball 21 = .ok (.bipush (-2), 2) := by decide +kernel
theorem dX13_ball_23 : decode cX13_ball 23 = .ok (.ireturn, 1) := by decide +kernel
theorem dX13_ball_24 : decode cX13_ball 24 = .ok (.aload_n 0, 1) := by decide +kernel
theorem dX13_ball_25 : decode cX13_ball 25 = .ok (.getfield 240, 3) := by decide +kernel
theorem dX13_ball_28 : decode cX13_ball 28 = .ok (.iload_n 1, 1) := by decide +kernel
theorem dX13_ball_29 : decode cX13_ball 29 = .ok (.iload_n 2, 1) := by decide +kernel
theorem dX13_ball_30 : decode cX13_ball 30 = .ok (.invokestatic 586, 3) := by decide +kernel
theorem dX13_ball_33 : decode cX13_ball 33 = .ok (.iaload, 1) := by decide +kernel
theorem dX13_ball_34 : decode cX13_ball 34 = .ok (.istore 5, 2) := by decide +kernel
theorem dX13_ball_36 : decode cX13_ball 36 = .ok (.aload_n 0, 1) := by decide +kernel
theorem dX13_ball_37 : decode cX13_ball 37 = .ok (.getfield 240, 3) := by decide +kernel
theorem dX13_ball_40 : decode cX13_ball 40 = .ok (.iload_n 1, 1) := by decide +kernel
theorem dX13_ball_41 : decode cX13_ball 41 = .ok (.iload_n 2, 1) := by decide +kernel
theorem dX13_ball_42 : decode cX13_ball 42 = .ok (.invokestatic 586, 3) := by decide +kernel
theorem dX13_ball_45 : decode cX13_ball 45 = .ok (.iload 4, 2) := by decide +kernel
theorem dX13_ball_47 : decode cX13_ball 47 = .ok (.ifCond .eq 12, 3) := by decide +kernel
theorem dX13_ball_50 : decode cX13_ball 50 = .ok (.iload 5, 2) := by decide +kernel
theorem dX13_ball_52 : decode cX13_ball 52 = .ok (.iconst 1, 1) := by decide +kernel
theorem dX13_ball_53 : decode cX13_ball 53 = .ok (.iload_n 3, 1) := by decide +kernel
theorem dX13_ball_54 : decode cX13_ball 54 = .ok (.ishl, 1) := by decide +kernel
theorem dX13_ball_55 : decode cX13_ball 55 = .ok (.ior, 1) := by decide +kernel
theorem dX13_ball_56 : decode cX13_ball 56 = .ok (.goto 11, 3) := by decide +kernel
theorem dX13_ball_59 : decode cX13_ball 59 = .ok (.iload 5, 2) := by decide +kernel
theorem dX13_ball_61 : decode cX13_ball 61 = .ok (.iconst 1, 1) := by decide +kernel
theorem dX13_ball_62 : decode cX13_ball 62 = .ok (.iload_n 3, 1) := by decide +kernel
theorem dX13_ball_63 : decode cX13_ball 63 = .ok (.ishl, 1) := by decide +kernel
theorem dX13_ball_64 : decode cX13_ball 64 = .ok (.iconst (-1), 1) := by decide +kernel
theorem dX13_ball_65 : decode cX13_ball 65 = .ok (.ixor, 1) := by decide +kernel
theorem dX13_ball_66 : decode cX13_ball 66 = .ok (.iand, 1) := by decide +kernel
theorem dX13_ball_67 : decode cX13_ball 67 = .ok (.iastore, 1) := by decide +kernel
theorem dX13_ball_68 : decode cX13_ball 68 = .ok (.aload_n 0, 1) := by decide +kernel
theorem dX13_ball_69 : decode cX13_ball 69 = .ok (.iconst 0, 1) := by decide +kernel
theorem dX13_ball_70 : decode cX13_ball 70 = .ok (.putfield 578, 3) := by decide +kernel
theorem dX13_ball_73 : decode cX13_ball 73 = .ok (.iload 5, 2) := by decide +kernel
theorem dX13_ball_75 : decode cX13_ball 75 = .ok (.aload_n 0, 1) := by decide +kernel
theorem dX13_ball_76 : decode cX13_ball 76 = .ok (.getfield 240, 3) := by decide +kernel
theorem dX13_ball_79 : decode cX13_ball 79 = .ok (.iload_n 1, 1) := by decide +kernel
theorem dX13_ball_80 : decode cX13_ball 80 = .ok (.iload_n 2, 1) := by decide +kernel
theorem dX13_ball_81 : decode cX13_ball 81 = .ok (.invokestatic 586, 3) := by decide +kernel
theorem dX13_ball_84 : decode cX13_ball 84 = .ok (.iaload, 1) := by decide +kernel
theorem dX13_ball_85 : decode cX13_ball 85 = .ok (.if_icmp .ne 7, 3) := by decide +kernel
theorem dX13_ball_88 : decode cX13_ball 88 = .ok (.iconst 0, 1) := by decide +kernel
theorem dX13_ball_89 : decode cX13_ball 89 = .ok (.goto 4, 3) := by decide +kernel
theorem dX13_ball_92 : decode cX13_ball 92 = .ok (.iconst 1, 1) := by decide +kernel
theorem dX13_ball_93 : decode cX13_ball 93 = .ok (.ireturn, 1) := by decide +kernel
theorem dX13_cell_0 : decode cX13_cell 0 = .ok (.aload_n 0, 1) := by decide +kernel
theorem dX13_cell_1 : decode cX13_cell 1 = .ok (.iload_n 1, 1) := by decide +kernel
theorem dX13_cell_2 : decode cX13_cell 2 = .ok (.iload_n 2, 1) := by decide +kernel
theorem dX13_cell_3 : decode cX13_cell 3 = .ok (.invokevirtual 581, 3) := by decide +kernel
theorem dX13_cell_6 : decode cX13_cell 6 = .ok (.ifCond .eq 16, 3) := by decide +kernel
theorem dX13_cell_9 : decode cX13_cell 9 = .ok (.aload_n 0, 1) := by decide +kernel
theorem dX13_cell_10 : decode cX13_cell 10 = .ok (.getfield 240, 3) := by decide +kernel
theorem dX13_cell_13 : decode cX13_cell 13 = .ok (.iload_n 1, 1) := by decide +kernel
theorem dX13_cell_14 : decode cX13_cell 14 = .ok (.iload_n 2, 1) := by decide +kernel
theorem dX13_cell_15 : decode cX13_cell 15 = .ok (.invokestatic 586, 3) := by decide +kernel
theorem dX13_cell_18 : decode cX13_cell 18 = .ok (.iaload, 1) := by decide +kernel
theorem dX13_cell_19 : decode cX13_cell 19 = .ok (.goto 5, 3) := by decide +kernel
theorem dX13_cell_22 : decode cX13_cell 22 = .ok (.bipush (-2), 2) := by decide +kernel
theorem dX13_cell_24 : decode cX13_cell 24 = .ok (.ireturn, 1) := by decide +kernel
theorem dX13_ballsNow_0 : decode cX13_ballsNow 0 = .ok (.iconst 0, 1) := by decide +kernel
theorem dX13_ballsNow_1 : decode cX13_ballsNow 1 = .ok (.istore_n 1, 1) := by decide +kernel
theorem dX13_ballsNow_2 : decode cX13_ballsNow 2 = .ok (.iconst 0, 1) := by decide +kernel
theorem dX13_ballsNow_3 : decode cX13_ballsNow 3 = .ok (.istore_n 2, 1) := by decide +kernel
theorem dX13_ballsNow_4 : decode cX13_ballsNow 4 = .ok (.iload_n 2, 1) := by decide +kernel
theorem dX13_ballsNow_5 : decode cX13_ballsNow 5 = .ok (.bipush 100, 2) := by decide +kernel
theorem dX13_ballsNow_7 : decode cX13_ballsNow 7 = .ok (.if_icmp .ge 21, 3) := by decide +kernel
theorem dX13_ballsNow_10 : decode cX13_ballsNow 10 = .ok (.iload_n 1, 1) := by decide +kernel
theorem dX13_ballsNow_11 : decode cX13_ballsNow 11 = .ok (.aload_n 0, 1) := by decide +kernel
theorem dX13_ballsNow_12 : decode cX13_ballsNow 12 = .ok (.getfield 240, 3) := by decide +kernel
theorem dX13_ballsNow_15 : decode cX13_ballsNow 15 = .ok (.iload_n 2, 1) := by decide +kernel
theorem dX13_ballsNow_16 : decode cX13_ballsNow 16 = .ok (.iaload, 1) := by decide +kernel
theorem dX13_ballsNow_17 : decode cX13_ballsNow 17 = .ok (.invokestatic 333, 3) := by decide +kernel
theorem dX13_ballsNow_20 : decode cX13_ballsNow 20 = .ok (.iadd, 1) := by decide +kernel
theorem dX13_ballsNow_21 : decode cX13_ballsNow 21 = .ok (.istore_n 1, 1) := by decide +kernel
theorem dX13_ballsNow_22 : decode cX13_ballsNow 22 = .ok (.iinc 2 1, 3) := by decide +kernel
theorem dX13_ballsNow_25 : decode cX13_ballsNow 25 = .ok (.goto (-21), 3) := by decide +kernel
theorem dX13_ballsNow_28 : decode cX13_ballsNow 28 = .ok (.iload_n 1, 1) := by decide +kernel
theorem dX13_ballsNow_29 : decode cX13_ballsNow 29 = .ok (.ireturn, 1) := by decide +kernel
theorem dX13_turn_0 : decode cX13_turn 0 = .ok (.iload_n 1, 1) := by decide +kernel
theorem dX13_turn_1 : decode cX13_turn 1 = .ok (.ifCond .ne 25, 3) := by decide +kernel
theorem dX13_turn_4 : decode cX13_turn 4 = .ok (.iload_n 2, 1) := by decide +kernel
theorem dX13_turn_5 : decode cX13_turn 5 = .ok (.iconst 5, 1) := by decide +kernel
theorem dX13_turn_6 : decode cX13_turn 6 = .ok (.if_icmp .ne 8, 3) := by decide +kernel
theorem dX13_turn_9 : decode cX13_turn 9 = .ok (.bipush 10, 2) := by decide +kernel
theorem dX13_turn_11 : decode cX13_turn 11 = .ok (.goto 14, 3) := by decide +kernel
theorem dX13_turn_14 : decode cX13_turn 14 = .ok (.iload_n 2, 1) := by decide +kernel
theorem dX13_turn_15 : decode cX13_turn 15 = .ok (.bipush 10, 2) := by decide +kernel
theorem dX13_turn_17 : decode cX13_turn 17 = .ok (.if_icmp .ne 7, 3) := by decide +kernel
theorem dX13_turn_20 : decode cX13_turn 20 = .ok (.iconst 5, 1) := by decide +kernel
theorem dX13_turn_21 : decode cX13_turn 21 = .ok (.goto 4, 3) := by decide +kernel
theorem dX13_turn_24 : decode cX13_turn 24 = .ok (.iload_n 2, 1) := by decide +kernel
theorem dX13_turn_25 : decode cX13_turn 25 = .ok (.ireturn, 1) := by decide +kernel
theorem dX13_turn_26 : decode cX13_turn 26 = .ok (.iconst 0, 1) := by decide +kernel
theorem dX13_turn_27 : decode cX13_turn 27 = .ok (.istore_n 3, 1) := by decide +kernel
theorem dX13_turn_28 : decode cX13_turn 28 = .ok (.iconst 0, 1) := by decide +kernel
theorem dX13_turn_29 : decode cX13_turn 29 = .ok (.istore 4, 2) := by decide +kernel
theorem dX13_turn_31 : decode cX13_turn 31 = .ok (.iload 4, 2) := by decide +kernel
theorem dX13_turn_33 : decode cX13_turn 33 = .ok (.iconst 4, 1) := by decide +kernel
theorem dX13_turn_34 : decode cX13_turn 34 = .ok (.if_icmp .ge 40, 3) := by decide +kernel
theorem dX13_turn_37 : decode cX13_turn 37 = .ok (.iload_n 2, 1) := by decide +kernel
theorem dX13_turn_38 : decode cX13_turn 38 = .ok (.iload 4, 2) := by decide +kernel
theorem dX13_turn_40 : decode cX13_turn 40 = .ok (.ishr, 1) := by decide +kernel
theorem dX13_turn_41 : decode cX13_turn 41 = .ok (.iconst 1, 1) := by decide +kernel
theorem dX13_turn_42 : decode cX13_turn 42 = .ok (.iand, 1) := by decide +kernel
theorem dX13_turn_43 : decode cX13_turn 43 = .ok (.iconst 1, 1) := by decide +kernel
theorem dX13_turn_44 : decode cX13_turn 44 = .ok (.if_icmp .ne 24, 3) := by decide +kernel
theorem dX13_turn_47 : decode cX13_turn 47 = .ok (.iload_n 3, 1) := by decide +kernel
theorem dX13_turn_48 : decode cX13_turn 48 = .ok (.iconst 1, 1) := by decide +kernel
theorem dX13_turn_49 : decode cX13_turn 49 = .ok (.iload_n 1, 1) := by decide +kernel
theorem dX13_turn_50 : decode cX13_turn 50 = .ok (.iconst 1, 1) := by decide +kernel
theorem dX13_turn_51 : decode cX13_turn 51 = .ok (.if_icmp .ne 10, 3) := by decide +kernel
theorem dX13_turn_54 : decode cX13_turn 54 = .ok (.iload 4, 2) := by decide +kernel
theorem dX13_turn_56 : decode cX13_turn 56 = .ok (.iconst 1, 1) := by decide +kernel
theorem dX13_turn_57 : decode cX13_turn 57 = .ok (.ixor, 1) := by decide +kernel
theorem dX13_turn_58 : decode cX13_turn 58 = .ok (.goto 7, 3) := by decide +kernel
theorem dX13_turn_61 : decode cX13_turn 61 = .ok (.iconst 3, 1) := by decide +kernel
theorem dX13_turn_62 : decode cX13_turn 62 = .ok (.iload 4, 2) := by decide +kernel
theorem dX13_turn_64 : decode cX13_turn 64 = .ok (.isub, 1) := by decide +kernel
theorem dX13_turn_65 : decode cX13_turn 65 = .ok (.ishl, 1) := by decide +kernel
theorem dX13_turn_66 : decode cX13_turn 66 = .ok (.ior, 1) := by decide +kernel
theorem dX13_turn_67 : decode cX13_turn 67 = .ok (.istore_n 3, 1) := by decide +kernel
theorem dX13_turn_68 : decode cX13_turn 68 = .ok (.iinc 4 1, 3) := by decide +kernel
theorem dX13_turn_71 : decode cX13_turn 71 = .ok (.goto (-40), 3) := by decide +kernel
theorem dX13_turn_74 : decode cX13_turn 74 = .ok (.iload_n 3, 1) := by decide +kernel
theorem dX13_turn_75 : decode cX13_turn 75 = .ok (.ireturn, 1) := by decide +kernel
theorem dX13_right_0 : decode cX13_right 0 = .ok (.iload_n 0, 1) := by decide +kernel
theorem dX13_right_1 : decode cX13_right 1 = .ok (.ifCond .ne 7, 3) := by decide +kernel
theorem dX13_right_4 : decode cX13_right 4 = .ok (.iconst 1, 1) := by decide +kernel
theorem dX13_right_5 : decode cX13_right 5 = .ok (.goto 13, 3) := by decide +kernel
theorem dX13_right_8 : decode cX13_right 8 = .ok (.iload_n 0, 1) := by decide +kernel
theorem dX13_right_9 : decode cX13_right 9 = .ok (.iconst 2, 1) := by decide +kernel
theorem dX13_right_10 : decode cX13_right 10 = .ok (.if_icmp .ne 7, 3) := by decide +kernel
theorem dX13_right_13 : decode cX13_right 13 = .ok (.iconst (-1), 1) := by decide +kernel
theorem dX13_right_14 : decode cX13_right 14 = .ok (.goto 4, 3) := by decide +kernel
theorem dX13_right_17 : decode cX13_right 17 = .ok (.iconst 0, 1) := by decide +kernel
theorem dX13_right_18 : decode cX13_right 18 = .ok (.ireturn, 1) := by decide +kernel
theorem dX13_up_0 : decode cX13_up 0 = .ok (.iload_n 0, 1) := by decide +kernel
theorem dX13_up_1 : decode cX13_up 1 = .ok (.iconst 1, 1) := by decide +kernel
theorem dX13_up_2 : decode cX13_up 2 = .ok (.if_icmp .ne 7, 3) := by decide +kernel
theorem dX13_up_5 : decode cX13_up 5 = .ok (.iconst 1, 1) := by decide +kernel
theorem dX13_up_6 : decode cX13_up 6 = .ok (.goto 13, 3) := by decide +kernel
theorem dX13_up_9 : decode cX13_up 9 = .ok (.iload_n 0, 1) := by decide +kernel
theorem dX13_up_10 : decode cX13_up 10 = .ok (.iconst 3, 1) := by decide +kernel
theorem dX13_up_11 : decode cX13_up 11 = .ok (.if_icmp .ne 7, 3) := by decide +kernel
theorem dX13_up_14 : decode cX13_up 14 = .ok (.iconst (-1), 1) := by decide +kernel
theorem dX13_up_15 : decode cX13_up 15 = .ok (.goto 4, 3) := by decide +kernel
theorem dX13_up_18 : decode cX13_up 18 = .ok (.iconst 0, 1) := by decide +kernel
theorem dX13_up_19 : decode cX13_up 19 = .ok (.ireturn, 1) := by decide +kernel
theorem dX13_beatOnce_0 : decode cX13_beatOnce 0 = .ok (.iconst 0, 1) := by decide +kernel
theorem dX13_beatOnce_1 : decode cX13_beatOnce 1 = .ok (.istore_n 1, 1) := by decide +kernel
theorem dX13_beatOnce_2 : decode cX13_beatOnce 2 = .ok (.iconst 0, 1) := by decide +kernel
theorem dX13_beatOnce_3 : decode cX13_beatOnce 3 = .ok (.istore_n 2, 1) := by decide +kernel
theorem dX13_beatOnce_4 : decode cX13_beatOnce 4 = .ok (.iload_n 2, 1) := by decide +kernel
theorem dX13_beatOnce_5 : decode cX13_beatOnce 5 = .ok (.bipush 100, 2) := by decide +kernel
theorem dX13_beatOnce_7 : decode cX13_beatOnce 7 = .ok (.if_icmp .ge 16, 3) := by decide +kernel
theorem dX13_beatOnce_10 : decode cX13_beatOnce 10 = .ok (.aload_n 0, 1) := by decide +kernel
theorem dX13_beatOnce_11 : decode cX13_beatOnce 11 = .ok (.getfield 243, 3) := by decide +kernel
theorem dX13_beatOnce_14 : decode cX13_beatOnce 14 = .ok (.iload_n 2, 1) := by decide +kernel
theorem dX13_beatOnce_15 : decode cX13_beatOnce 15 = .ok (.iconst 0, 1) := by decide +kernel
theorem dX13_beatOnce_16 : decode cX13_beatOnce 16 = .ok (.iastore, 1) := by decide +kernel
theorem dX13_beatOnce_17 : decode cX13_beatOnce 17 = .ok (.iinc 2 1, 3) := by decide +kernel
theorem dX13_beatOnce_20 : decode cX13_beatOnce 20 = .ok (.goto (-16), 3) := by decide +kernel
theorem dX13_beatOnce_23 : decode cX13_beatOnce 23 = .ok (.iconst 0, 1) := by decide +kernel
theorem dX13_beatOnce_24 : decode cX13_beatOnce 24 = .ok (.istore_n 2, 1) := by decide +kernel
theorem dX13_beatOnce_25 : decode cX13_beatOnce 25 = .ok (.iload_n 2, 1) := by decide +kernel
theorem dX13_beatOnce_26 : decode cX13_beatOnce 26 = .ok (.aload_n 0, 1) := by decide +kernel
theorem dX13_beatOnce_27 : decode cX13_beatOnce 27 = .ok (.getfield 282, 3) := by decide +kernel
theorem dX13_beatOnce_30 : decode cX13_beatOnce 30 = .ok (.if_icmp .ge 178, 3) := by decide +kernel
theorem dX13_beatOnce_33 : decode cX13_beatOnce 33 = .ok (.iconst 0, 1) := by decide +kernel
theorem dX13_beatOnce_34 : decode cX13_beatOnce 34 = .ok (.istore_n 3, 1) := by decide +kernel
theorem dX13_beatOnce_35 : decode cX13_beatOnce 35 = .ok (.iload_n 3, 1) := by decide +kernel
theorem dX13_beatOnce_36 : decode cX13_beatOnce 36 = .ok (.aload_n 0, 1) := by decide +kernel
theorem dX13_beatOnce_37 : decode cX13_beatOnce 37 = .ok (.getfield 279, 3) := by decide +kernel
theorem dX13_beatOnce_40 : decode cX13_beatOnce 40 = .ok (.if_icmp .ge 162, 3) := by decide +kernel
theorem dX13_beatOnce_43 : decode cX13_beatOnce 43 = .ok (.aload_n 0, 1) := by decide +kernel
theorem dX13_beatOnce_44 : decode cX13_beatOnce 44 = .ok (.getfield 240, 3) := by decide +kernel
theorem dX13_beatOnce_47 : decode cX13_beatOnce 47 = .ok (.iload_n 3, 1) := by decide +kernel
theorem dX13_beatOnce_48 : decode cX13_beatOnce 48 = .ok (.iload_n 2, 1) := by decide +kernel
theorem dX13_beatOnce_49 : decode cX13_beatOnce 49 = .ok (.invokestatic 586, 3) := by decide +kernel
theorem dX13_beatOnce_52 : decode cX13_beatOnce 52 = .ok (.iaload, 1) := by decide +kernel
theorem dX13_beatOnce_53 : decode cX13_beatOnce 53 = .ok (.istore 4, 2) := by decide +kernel
theorem dX13_beatOnce_55 : decode cX13_beatOnce 55 = .ok (.aload_n 0, 1) := by decide +kernel
theorem dX13_beatOnce_56 : decode cX13_beatOnce 56 = .ok (.getfield 237, 3) := by decide +kernel
theorem dX13_beatOnce_59 : decode cX13_beatOnce 59 = .ok (.iload_n 3, 1) := by decide +kernel
theorem dX13_beatOnce_60 : decode cX13_beatOnce 60 = .ok (.iload_n 2, 1) := by decide +kernel
theorem dX13_beatOnce_61 : decode cX13_beatOnce 61 = .ok (.invokestatic 586, 3) := by decide +kernel
theorem dX13_beatOnce_64 : decode cX13_beatOnce 64 = .ok (.iaload, 1) := by decide +kernel
theorem dX13_beatOnce_65 : decode cX13_beatOnce 65 = .ok (.iconst 3, 1) := by decide +kernel
theorem dX13_beatOnce_66 : decode cX13_beatOnce 66 = .ok (.if_icmp .ne 14, 3) := by decide +kernel
theorem dX13_beatOnce_69 : decode cX13_beatOnce 69 = .ok (.iload_n 1, 1) := by decide +kernel
theorem dX13_beatOnce_70 : decode cX13_beatOnce 70 = .ok (.iload 4, 2) := by decide +kernel
theorem dX13_beatOnce_72 : decode cX13_beatOnce 72 = .ok (.invokestatic 333, 3) := by decide +kernel
theorem dX13_beatOnce_75 : decode cX13_beatOnce 75 = .ok (.iadd, 1) := by decide +kernel
theorem dX13_beatOnce_76 : decode cX13_beatOnce 76 = .ok (.istore_n 1, 1) := by decide +kernel
theorem dX13_beatOnce_77 : decode cX13_beatOnce 77 = .ok (.goto 119, 3) := by decide +kernel
theorem dX13_beatOnce_80 : decode cX13_beatOnce 80 = .ok (.aload_n 0, 1) := by decide +kernel
theorem dX13_beatOnce_81 : decode cX13_beatOnce 81 = .ok (.aload_n 0, 1) := by decide +kernel
theorem dX13_beatOnce_82 : decode cX13_beatOnce 82 = .ok (.getfield 237, 3) := by decide +kernel
theorem dX13_beatOnce_85 : decode cX13_beatOnce 85 = .ok (.iload_n 3, 1) := by decide +kernel
theorem dX13_beatOnce_86 : decode cX13_beatOnce 86 = .ok (.iload_n 2, 1) := by decide +kernel
theorem dX13_beatOnce_87 : decode cX13_beatOnce 87 = .ok (.invokestatic 586, 3) := by decide +kernel
theorem dX13_beatOnce_90 : decode cX13_beatOnce 90 = .ok (.iaload, 1) := by decide +kernel
theorem dX13_beatOnce_91 : decode cX13_beatOnce 91 = .ok (.iload 4, 2) := by decide +kernel
theorem dX13_beatOnce_93 : decode cX13_beatOnce 93 = .ok (.invokevirtual 589, 3) := by decide +kernel
theorem dX13_beatOnce_96 : decode cX13_beatOnce 96 = .ok (.istore 4, 2) := by decide +kernel
theorem dX13_beatOnce_98 : decode cX13_beatOnce 98 = .ok (.iconst 0, 1) := by decide +kernel
theorem dX13_beatOnce_99 : decode cX13_beatOnce 99 = .ok (.istore 5, 2) := by decide +kernel
theorem dX13_beatOnce_101 : decode cX13_beatOnce 101 = .ok (.iload 5, 2) := by decide +kernel
theorem dX13_beatOnce_103 : decode cX13_beatOnce 103 = .ok (.iconst 4, 1) := by decide +kernel
theorem dX13_beatOnce_104 : decode cX13_beatOnce 104 = .ok (.if_icmp .ge 92, 3) := by decide +kernel
theorem dX13_beatOnce_107 : decode cX13_beatOnce 107 = .ok (.iload 4, 2) := by decide +kernel
theorem dX13_beatOnce_109 : decode cX13_beatOnce 109 = .ok (.iload 5, 2) := by decide +kernel
theorem dX13_beatOnce_111 : decode cX13_beatOnce 111 = .ok (.ishr, 1) := by decide +kernel
theorem dX13_beatOnce_112 : decode cX13_beatOnce 112 = .ok (.iconst 1, 1) := by decide +kernel
theorem dX13_beatOnce_113 : decode cX13_beatOnce 113 = .ok (.iand, 1) := by decide +kernel
theorem dX13_beatOnce_114 : decode cX13_beatOnce 114 = .ok (.ifCond .ne 6, 3) := by decide +kernel
theorem dX13_beatOnce_117 : decode cX13_beatOnce 117 = .ok (.goto 73, 3) := by decide +kernel
theorem dX13_beatOnce_120 : decode cX13_beatOnce 120 = .ok (.iload_n 3, 1) := by decide +kernel
theorem dX13_beatOnce_121 : decode cX13_beatOnce 121 = .ok (.iload 5, 2) := by decide +kernel
theorem dX13_beatOnce_123 : decode cX13_beatOnce 123 = .ok (.invokestatic 591, 3) := by decide +kernel
theorem dX13_beatOnce_126 : decode cX13_beatOnce 126 = .ok (.iadd, 1) := by decide +kernel
theorem dX13_beatOnce_127 : decode cX13_beatOnce 127 = .ok (.istore 6, 2) := by decide +kernel
theorem dX13_beatOnce_129 : decode cX13_beatOnce 129 = .ok (.iload_n 2, 1) := by decide +kernel
theorem dX13_beatOnce_130 : decode cX13_beatOnce 130 = .ok (.iload 5, 2) := by decide +kernel
theorem dX13_beatOnce_132 : decode cX13_beatOnce 132 = .ok (.invokestatic 594, 3) := by decide +kernel
theorem dX13_beatOnce_135 : decode cX13_beatOnce 135 = .ok (.iadd, 1) := by decide +kernel
theorem dX13_beatOnce_136 : decode cX13_beatOnce 136 = .ok (.istore 7, 2) := by decide +kernel
theorem dX13_beatOnce_138 : decode cX13_beatOnce 138 = .ok (.aload_n 0, 1) := by decide +kernel
theorem dX13_beatOnce_139 : decode cX13_beatOnce 139 = .ok (.iload 6, 2) := by decide +kernel
theorem dX13_beatOnce_141 : decode cX13_beatOnce 141 = .ok (.iload 7, 2) := by decide +kernel
theorem dX13_beatOnce_143 : decode cX13_beatOnce 143 = .ok (.invokevirtual 581, 3) := by decide +kernel
theorem dX13_beatOnce_146 : decode cX13_beatOnce 146 = .ok (.ifCond .eq 25, 3) := by decide +kernel
theorem dX13_beatOnce_149 : decode cX13_beatOnce 149 = .ok (.aload_n 0, 1) := by decide +kernel
theorem dX13_beatOnce_150 : decode cX13_beatOnce 150 = .ok (.getfield 243, 3) := by decide +kernel
theorem dX13_beatOnce_153 : decode cX13_beatOnce 153 = .ok (.iload 6, 2) := by decide +kernel
theorem dX13_beatOnce_155 : decode cX13_beatOnce 155 = .ok (.iload 7, 2) := by decide +kernel
theorem dX13_beatOnce_157 : decode cX13_beatOnce 157 = .ok (.invokestatic 586, 3) := by decide +kernel
theorem dX13_beatOnce_160 : decode cX13_beatOnce 160 = .ok (.dup2, 1) := by decide +kernel
theorem dX13_beatOnce_161 : decode cX13_beatOnce 161 = .ok (.iaload, 1) := by decide +kernel
theorem dX13_beatOnce_162 : decode cX13_beatOnce 162 = .ok (.iconst 1, 1) := by decide +kernel
theorem dX13_beatOnce_163 : decode cX13_beatOnce 163 = .ok (.iload 5, 2) := by decide +kernel
theorem dX13_beatOnce_165 : decode cX13_beatOnce 165 = .ok (.ishl, 1) := by decide +kernel
theorem dX13_beatOnce_166 : decode cX13_beatOnce 166 = .ok (.ior, 1) := by decide +kernel
theorem dX13_beatOnce_167 : decode cX13_beatOnce 167 = .ok (.iastore, 1) := by decide +kernel
theorem dX13_beatOnce_168 : decode cX13_beatOnce 168 = .ok (.goto 22, 3) := by decide +kernel
theorem dX13_beatOnce_171 : decode cX13_beatOnce 171 = .ok (.aload_n 0, 1) := by decide +kernel
theorem dX13_beatOnce_172 : decode cX13_beatOnce 172 = .ok (.getfield 243, 3) := by decide +kernel
theorem dX13_beatOnce_175 : decode cX13_beatOnce 175 = .ok (.iload_n 3, 1) := by decide +kernel
theorem dX13_beatOnce_176 : decode cX13_beatOnce 176 = .ok (.iload_n 2, 1) := by decide +kernel
theorem dX13_beatOnce_177 : decode cX13_beatOnce 177 = .ok (.invokestatic 586, 3) := by decide +kernel
theorem dX13_beatOnce_180 : decode cX13_beatOnce 180 = .ok (.dup2, 1) := by decide +kernel
theorem dX13_beatOnce_181 : decode cX13_beatOnce 181 = .ok (.iaload, 1) := by decide +kernel
theorem dX13_beatOnce_182 : decode cX13_beatOnce 182 = .ok (.iconst 1, 1) := by decide +kernel
theorem dX13_beatOnce_183 : decode cX13_beatOnce 183 = .ok (.iload 5, 2) := by decide +kernel
theorem dX13_beatOnce_185 : decode cX13_beatOnce 185 = .ok (.iconst 2, 1) := by decide +kernel
theorem dX13_beatOnce_186 : decode cX13_beatOnce 186 = .ok (.ixor, 1) := by decide +kernel
theorem dX13_beatOnce_187 : decode cX13_beatOnce 187 = .ok (.ishl, 1) := by decide +kernel
theorem dX13_beatOnce_188 : decode cX13_beatOnce 188 = .ok (.ior, 1) := by decide +kernel
theorem dX13_beatOnce_189 : decode cX13_beatOnce 189 = .ok (.iastore, 1) := by decide +kernel
theorem dX13_beatOnce_190 : decode cX13_beatOnce 190 = .ok (.iinc 5 1, 3) := by decide +kernel
theorem dX13_beatOnce_193 : decode cX13_beatOnce 193 = .ok (.goto (-92), 3) := by decide +kernel
theorem dX13_beatOnce_196 : decode cX13_beatOnce 196 = .ok (.iinc 3 1, 3) := by decide +kernel
theorem dX13_beatOnce_199 : decode cX13_beatOnce 199 = .ok (.goto (-164), 3) := by decide +kernel
theorem dX13_beatOnce_202 : decode cX13_beatOnce 202 = .ok (.iinc 2 1, 3) := by decide +kernel
theorem dX13_beatOnce_205 : decode cX13_beatOnce 205 = .ok (.goto (-180), 3) := by decide +kernel
theorem dX13_beatOnce_208 : decode cX13_beatOnce 208 = .ok (.iconst 0, 1) := by decide +kernel
theorem dX13_beatOnce_209 : decode cX13_beatOnce 209 = .ok (.istore_n 2, 1) := by decide +kernel
theorem dX13_beatOnce_210 : decode cX13_beatOnce 210 = .ok (.iload_n 2, 1) := by decide +kernel
theorem dX13_beatOnce_211 : decode cX13_beatOnce 211 = .ok (.bipush 100, 2) := by decide +kernel
theorem dX13_beatOnce_213 : decode cX13_beatOnce 213 = .ok (.if_icmp .ge 21, 3) := by decide +kernel
theorem dX13_beatOnce_216 : decode cX13_beatOnce 216 = .ok (.aload_n 0, 1) := by decide +kernel
theorem dX13_beatOnce_217 : decode cX13_beatOnce 217 = .ok (.getfield 240, 3) := by decide +kernel
theorem dX13_beatOnce_220 : decode cX13_beatOnce 220 = .ok (.iload_n 2, 1) := by decide +kernel
theorem dX13_beatOnce_221 : decode cX13_beatOnce 221 = .ok (.aload_n 0, 1) := by decide +kernel
theorem dX13_beatOnce_222 : decode cX13_beatOnce 222 = .ok (.getfield 243, 3) := by decide +kernel
theorem dX13_beatOnce_225 : decode cX13_beatOnce 225 = .ok (.iload_n 2, 1) := by decide +kernel
theorem dX13_beatOnce_226 : decode cX13_beatOnce 226 = .ok (.iaload, 1) := by decide +kernel
theorem dX13_beatOnce_227 : decode cX13_beatOnce 227 = .ok (.iastore, 1) := by decide +kernel
theorem dX13_beatOnce_228 : decode cX13_beatOnce 228 = .ok (.iinc 2 1, 3) := by decide +kernel
theorem dX13_beatOnce_231 : decode cX13_beatOnce 231 = .ok (.goto (-21), 3) := by decide +kernel
theorem dX13_beatOnce_234 : decode cX13_beatOnce 234 = .ok (.iload_n 1, 1) := by decide +kernel
theorem dX13_beatOnce_235 : decode cX13_beatOnce 235 = .ok (.ireturn, 1) := by decide +kernel
theorem dX13_backOnce_0 : decode cX13_backOnce 0 = .ok (.iconst 0, 1) := by decide +kernel
theorem dX13_backOnce_1 : decode cX13_backOnce 1 = .ok (.istore_n 1, 1) := by decide +kernel
theorem dX13_backOnce_2 : decode cX13_backOnce 2 = .ok (.iload_n 1, 1) := by decide +kernel
theorem dX13_backOnce_3 : decode cX13_backOnce 3 = .ok (.bipush 100, 2) := by decide +kernel
theorem dX13_backOnce_5 : decode cX13_backOnce 5 = .ok (.if_icmp .ge 16, 3) := by decide +kernel
theorem dX13_backOnce_8 : decode cX13_backOnce 8 = .ok (.aload_n 0, 1) := by decide +kernel
theorem dX13_backOnce_9 : decode cX13_backOnce 9 = .ok (.getfield 243, 3) := by decide +kernel
theorem dX13_backOnce_12 : decode cX13_backOnce 12 = .ok (.iload_n 1, 1) := by decide +kernel
theorem dX13_backOnce_13 : decode cX13_backOnce 13 = .ok (.iconst 0, 1) := by decide +kernel
theorem dX13_backOnce_14 : decode cX13_backOnce 14 = .ok (.iastore, 1) := by decide +kernel
theorem dX13_backOnce_15 : decode cX13_backOnce 15 = .ok (.iinc 1 1, 3) := by decide +kernel
theorem dX13_backOnce_18 : decode cX13_backOnce 18 = .ok (.goto (-16), 3) := by decide +kernel
theorem dX13_backOnce_21 : decode cX13_backOnce 21 = .ok (.iconst 0, 1) := by decide +kernel
theorem dX13_backOnce_22 : decode cX13_backOnce 22 = .ok (.istore_n 1, 1) := by decide +kernel
theorem dX13_backOnce_23 : decode cX13_backOnce 23 = .ok (.iload_n 1, 1) := by decide +kernel
theorem dX13_backOnce_24 : decode cX13_backOnce 24 = .ok (.aload_n 0, 1) := by decide +kernel
theorem dX13_backOnce_25 : decode cX13_backOnce 25 = .ok (.getfield 282, 3) := by decide +kernel
theorem dX13_backOnce_28 : decode cX13_backOnce 28 = .ok (.if_icmp .ge 124, 3) := by decide +kernel
theorem dX13_backOnce_31 : decode cX13_backOnce 31 = .ok (.iconst 0, 1) := by decide +kernel
theorem dX13_backOnce_32 : decode cX13_backOnce 32 = .ok (.istore_n 2, 1) := by decide +kernel
theorem dX13_backOnce_33 : decode cX13_backOnce 33 = .ok (.iload_n 2, 1) := by decide +kernel
theorem dX13_backOnce_34 : decode cX13_backOnce 34 = .ok (.aload_n 0, 1) := by decide +kernel
theorem dX13_backOnce_35 : decode cX13_backOnce 35 = .ok (.getfield 279, 3) := by decide +kernel
theorem dX13_backOnce_38 : decode cX13_backOnce 38 = .ok (.if_icmp .ge 108, 3) := by decide +kernel
theorem dX13_backOnce_41 : decode cX13_backOnce 41 = .ok (.iconst 0, 1) := by decide +kernel
theorem dX13_backOnce_42 : decode cX13_backOnce 42 = .ok (.istore_n 3, 1) := by decide +kernel
theorem dX13_backOnce_43 : decode cX13_backOnce 43 = .ok (.iload_n 3, 1) := by decide +kernel
theorem dX13_backOnce_44 : decode cX13_backOnce 44 = .ok (.iconst 4, 1) := by decide +kernel
theorem dX13_backOnce_45 : decode cX13_backOnce 45 = .ok (.if_icmp .ge 95, 3) := by decide +kernel
theorem dX13_backOnce_48 : decode cX13_backOnce 48 = .ok (.aload_n 0, 1) := by decide +kernel
theorem dX13_backOnce_49 : decode cX13_backOnce 49 = .ok (.getfield 240, 3) := by decide +kernel
theorem dX13_backOnce_52 : decode cX13_backOnce 52 = .ok (.iload_n 2, 1) := by decide +kernel
theorem dX13_backOnce_53 : decode cX13_backOnce 53 = .ok (.iload_n 1, 1) := by decide +kernel
theorem dX13_backOnce_54 : decode cX13_backOnce 54 = .ok (.invokestatic 586, 3) := by decide +kernel
theorem dX13_backOnce_57 : decode cX13_backOnce 57 = .ok (.iaload, 1) := by decide +kernel
theorem dX13_backOnce_58 : decode cX13_backOnce 58 = .ok (.iload_n 3, 1) := by decide +kernel
theorem dX13_backOnce_59 : decode cX13_backOnce 59 = .ok (.ishr, 1) := by decide +kernel
theorem dX13_backOnce_60 : decode cX13_backOnce 60 = .ok (.iconst 1, 1) := by decide +kernel
theorem dX13_backOnce_61 : decode cX13_backOnce 61 = .ok (.iand, 1) := by decide +kernel
theorem dX13_backOnce_62 : decode cX13_backOnce 62 = .ok (.ifCond .ne 6, 3) := by decide +kernel
theorem dX13_backOnce_65 : decode cX13_backOnce 65 = .ok (.goto 69, 3) := by decide +kernel
theorem dX13_backOnce_68 : decode cX13_backOnce 68 = .ok (.iload_n 2, 1) := by decide +kernel
theorem dX13_backOnce_69 : decode cX13_backOnce 69 = .ok (.iload_n 3, 1) := by decide +kernel
theorem dX13_backOnce_70 : decode cX13_backOnce 70 = .ok (.invokestatic 591, 3) := by decide +kernel
theorem dX13_backOnce_73 : decode cX13_backOnce 73 = .ok (.isub, 1) := by decide +kernel
theorem dX13_backOnce_74 : decode cX13_backOnce 74 = .ok (.istore 4, 2) := by decide +kernel
theorem dX13_backOnce_76 : decode cX13_backOnce 76 = .ok (.iload_n 1, 1) := by decide +kernel
theorem dX13_backOnce_77 : decode cX13_backOnce 77 = .ok (.iload_n 3, 1) := by decide +kernel
theorem dX13_backOnce_78 : decode cX13_backOnce 78 = .ok (.invokestatic 594, 3) := by decide +kernel
theorem dX13_backOnce_81 : decode cX13_backOnce 81 = .ok (.isub, 1) := by decide +kernel
theorem dX13_backOnce_82 : decode cX13_backOnce 82 = .ok (.istore 5, 2) := by decide +kernel
theorem dX13_backOnce_84 : decode cX13_backOnce 84 = .ok (.aload_n 0, 1) := by decide +kernel
theorem dX13_backOnce_85 : decode cX13_backOnce 85 = .ok (.iload 4, 2) := by decide +kernel
theorem dX13_backOnce_87 : decode cX13_backOnce 87 = .ok (.iload 5, 2) := by decide +kernel
theorem dX13_backOnce_89 : decode cX13_backOnce 89 = .ok (.invokevirtual 581, 3) := by decide +kernel
theorem dX13_backOnce_92 : decode cX13_backOnce 92 = .ok (.ifCond .eq 24, 3) := by decide +kernel
theorem dX13_backOnce_95 : decode cX13_backOnce 95 = .ok (.aload_n 0, 1) := by decide +kernel
theorem dX13_backOnce_96 : decode cX13_backOnce 96 = .ok (.getfield 243, 3) := by decide +kernel
theorem dX13_backOnce_99 : decode cX13_backOnce 99 = .ok (.iload 4, 2) := by decide +kernel
theorem dX13_backOnce_101 : decode cX13_backOnce 101 = .ok (.iload 5, 2) := by decide +kernel
theorem dX13_backOnce_103 : decode cX13_backOnce 103 = .ok (.invokestatic 586, 3) := by decide +kernel
theorem dX13_backOnce_106 : decode cX13_backOnce 106 = .ok (.dup2, 1) := by decide +kernel
theorem dX13_backOnce_107 : decode cX13_backOnce 107 = .ok (.iaload, 1) := by decide +kernel
theorem dX13_backOnce_108 : decode cX13_backOnce 108 = .ok (.iconst 1, 1) := by decide +kernel
theorem dX13_backOnce_109 : decode cX13_backOnce 109 = .ok (.iload_n 3, 1) := by decide +kernel
theorem dX13_backOnce_110 : decode cX13_backOnce 110 = .ok (.ishl, 1) := by decide +kernel
theorem dX13_backOnce_111 : decode cX13_backOnce 111 = .ok (.ior, 1) := by decide +kernel
theorem dX13_backOnce_112 : decode cX13_backOnce 112 = .ok (.iastore, 1) := by decide +kernel
theorem dX13_backOnce_113 : decode cX13_backOnce 113 = .ok (.goto 21, 3) := by decide +kernel
theorem dX13_backOnce_116 : decode cX13_backOnce 116 = .ok (.aload_n 0, 1) := by decide +kernel
theorem dX13_backOnce_117 : decode cX13_backOnce 117 = .ok (.getfield 243, 3) := by decide +kernel
theorem dX13_backOnce_120 : decode cX13_backOnce 120 = .ok (.iload_n 2, 1) := by decide +kernel
theorem dX13_backOnce_121 : decode cX13_backOnce 121 = .ok (.iload_n 1, 1) := by decide +kernel
theorem dX13_backOnce_122 : decode cX13_backOnce 122 = .ok (.invokestatic 586, 3) := by decide +kernel
theorem dX13_backOnce_125 : decode cX13_backOnce 125 = .ok (.dup2, 1) := by decide +kernel
theorem dX13_backOnce_126 : decode cX13_backOnce 126 = .ok (.iaload, 1) := by decide +kernel
theorem dX13_backOnce_127 : decode cX13_backOnce 127 = .ok (.iconst 1, 1) := by decide +kernel
theorem dX13_backOnce_128 : decode cX13_backOnce 128 = .ok (.iload_n 3, 1) := by decide +kernel
theorem dX13_backOnce_129 : decode cX13_backOnce 129 = .ok (.iconst 2, 1) := by decide +kernel
theorem dX13_backOnce_130 : decode cX13_backOnce 130 = .ok (.ixor, 1) := by decide +kernel
theorem dX13_backOnce_131 : decode cX13_backOnce 131 = .ok (.ishl, 1) := by decide +kernel
theorem dX13_backOnce_132 : decode cX13_backOnce 132 = .ok (.ior, 1) := by decide +kernel
theorem dX13_backOnce_133 : decode cX13_backOnce 133 = .ok (.iastore, 1) := by decide +kernel
theorem dX13_backOnce_134 : decode cX13_backOnce 134 = .ok (.iinc 3 1, 3) := by decide +kernel
theorem dX13_backOnce_137 : decode cX13_backOnce 137 = .ok (.goto (-94), 3) := by decide +kernel
theorem dX13_backOnce_140 : decode cX13_backOnce 140 = .ok (.iinc 2 1, 3) := by decide +kernel
theorem dX13_backOnce_143 : decode cX13_backOnce 143 = .ok (.goto (-110), 3) := by decide +kernel
theorem dX13_backOnce_146 : decode cX13_backOnce 146 = .ok (.iinc 1 1, 3) := by decide +kernel
theorem dX13_backOnce_149 : decode cX13_backOnce 149 = .ok (.goto (-126), 3) := by decide +kernel
theorem dX13_backOnce_152 : decode cX13_backOnce 152 = .ok (.iconst 0, 1) := by decide +kernel
theorem dX13_backOnce_153 : decode cX13_backOnce 153 = .ok (.istore_n 1, 1) := by decide +kernel
theorem dX13_backOnce_154 : decode cX13_backOnce 154 = .ok (.iload_n 1, 1) := by decide +kernel
theorem dX13_backOnce_155 : decode cX13_backOnce 155 = .ok (.aload_n 0, 1) := by decide +kernel
theorem dX13_backOnce_156 : decode cX13_backOnce 156 = .ok (.getfield 282, 3) := by decide +kernel
theorem dX13_backOnce_159 : decode cX13_backOnce 159 = .ok (.if_icmp .ge 86, 3) := by decide +kernel
theorem dX13_backOnce_162 : decode cX13_backOnce 162 = .ok (.iconst 0, 1) := by decide +kernel
theorem dX13_backOnce_163 : decode cX13_backOnce 163 = .ok (.istore_n 2, 1) := by decide +kernel
theorem dX13_backOnce_164 : decode cX13_backOnce 164 = .ok (.iload_n 2, 1) := by decide +kernel
theorem dX13_backOnce_165 : decode cX13_backOnce 165 = .ok (.aload_n 0, 1) := by decide +kernel
theorem dX13_backOnce_166 : decode cX13_backOnce 166 = .ok (.getfield 279, 3) := by decide +kernel
theorem dX13_backOnce_169 : decode cX13_backOnce 169 = .ok (.if_icmp .ge 70, 3) := by decide +kernel
theorem dX13_backOnce_172 : decode cX13_backOnce 172 = .ok (.aload_n 0, 1) := by decide +kernel
theorem dX13_backOnce_173 : decode cX13_backOnce 173 = .ok (.getfield 240, 3) := by decide +kernel
theorem dX13_backOnce_176 : decode cX13_backOnce 176 = .ok (.iload_n 2, 1) := by decide +kernel
theorem dX13_backOnce_177 : decode cX13_backOnce 177 = .ok (.iload_n 1, 1) := by decide +kernel
theorem dX13_backOnce_178 : decode cX13_backOnce 178 = .ok (.invokestatic 586, 3) := by decide +kernel
theorem dX13_backOnce_181 : decode cX13_backOnce 181 = .ok (.aload_n 0, 1) := by decide +kernel
theorem dX13_backOnce_182 : decode cX13_backOnce 182 = .ok (.getfield 237, 3) := by decide +kernel
theorem dX13_backOnce_185 : decode cX13_backOnce 185 = .ok (.iload_n 2, 1) := by decide +kernel
theorem dX13_backOnce_186 : decode cX13_backOnce 186 = .ok (.iload_n 1, 1) := by decide +kernel
theorem dX13_backOnce_187 : decode cX13_backOnce 187 = .ok (.invokestatic 586, 3) := by decide +kernel
theorem dX13_backOnce_190 : decode cX13_backOnce 190 = .ok (.iaload, 1) := by decide +kernel
theorem dX13_backOnce_191 : decode cX13_backOnce 191 = .ok (.iconst 3, 1) := by decide +kernel
theorem dX13_backOnce_192 : decode cX13_backOnce 192 = .ok (.if_icmp .ne 16, 3) := by decide +kernel
theorem dX13_backOnce_195 : decode cX13_backOnce 195 = .ok (.aload_n 0, 1) := by decide +kernel
theorem dX13_backOnce_196 : decode cX13_backOnce 196 = .ok (.getfield 243, 3) := by decide +kernel
theorem dX13_backOnce_199 : decode cX13_backOnce 199 = .ok (.iload_n 2, 1) := by decide +kernel
theorem dX13_backOnce_200 : decode cX13_backOnce 200 = .ok (.iload_n 1, 1) := by decide +kernel
theorem dX13_backOnce_201 : decode cX13_backOnce 201 = .ok (.invokestatic 586, 3) := by decide +kernel
theorem dX13_backOnce_204 : decode cX13_backOnce 204 = .ok (.iaload, 1) := by decide +kernel
theorem dX13_backOnce_205 : decode cX13_backOnce 205 = .ok (.goto 27, 3) := by decide +kernel
theorem dX13_backOnce_208 : decode cX13_backOnce 208 = .ok (.aload_n 0, 1) := by decide +kernel
theorem dX13_backOnce_209 : decode cX13_backOnce 209 = .ok (.aload_n 0, 1) := by decide +kernel
theorem dX13_backOnce_210 : decode cX13_backOnce 210 = .ok (.getfield 237, 3) := by decide +kernel
theorem dX13_backOnce_213 : decode cX13_backOnce 213 = .ok (.iload_n 2, 1) := by decide +kernel
theorem dX13_backOnce_214 : decode cX13_backOnce 214 = .ok (.iload_n 1, 1) := by decide +kernel
theorem dX13_backOnce_215 : decode cX13_backOnce 215 = .ok (.invokestatic 586, 3) := by decide +kernel
theorem dX13_backOnce_218 : decode cX13_backOnce 218 = .ok (.iaload, 1) := by decide +kernel
theorem dX13_backOnce_219 : decode cX13_backOnce 219 = .ok (.aload_n 0, 1) := by decide +kernel
theorem dX13_backOnce_220 : decode cX13_backOnce 220 = .ok (.getfield 243, 3) := by decide +kernel
theorem dX13_backOnce_223 : decode cX13_backOnce 223 = .ok (.iload_n 2, 1) := by decide +kernel
theorem dX13_backOnce_224 : decode cX13_backOnce 224 = .ok (.iload_n 1, 1) := by decide +kernel
theorem dX13_backOnce_225 : decode cX13_backOnce 225 = .ok (.invokestatic 586, 3) := by decide +kernel
theorem dX13_backOnce_228 : decode cX13_backOnce 228 = .ok (.iaload, 1) := by decide +kernel
theorem dX13_backOnce_229 : decode cX13_backOnce 229 = .ok (.invokevirtual 589, 3) := by decide +kernel
theorem dX13_backOnce_232 : decode cX13_backOnce 232 = .ok (.iastore, 1) := by decide +kernel
theorem dX13_backOnce_233 : decode cX13_backOnce 233 = .ok (.iinc 2 1, 3) := by decide +kernel
theorem dX13_backOnce_236 : decode cX13_backOnce 236 = .ok (.goto (-72), 3) := by decide +kernel
theorem dX13_backOnce_239 : decode cX13_backOnce 239 = .ok (.iinc 1 1, 3) := by decide +kernel
theorem dX13_backOnce_242 : decode cX13_backOnce 242 = .ok (.goto (-88), 3) := by decide +kernel
theorem dX13_backOnce_245 : decode cX13_backOnce 245 = .ok (.return_, 1) := by decide +kernel
theorem dX13_beat_0 : decode cX13_beat 0 = .ok (.iload_n 1, 1) := by decide +kernel
theorem dX13_beat_1 : decode cX13_beat 1 = .ok (.i2l, 1) := by decide +kernel
theorem dX13_beat_2 : decode cX13_beat 2 = .ok (.lconst 1, 1) := by decide +kernel
theorem dX13_beat_3 : decode cX13_beat 3 = .ok (.ldc2_w 597, 3) := by decide +kernel
theorem dX13_beat_6 : decode cX13_beat 6 = .ok (.invokestatic 64, 3) := by decide +kernel
theorem dX13_beat_9 : decode cX13_beat 9 = .ok (.ifCond .ne 6, 3) := by decide +kernel
theorem dX13_beat_12 : decode cX13_beat 12 = .ok (.bipush (-2), 2) := by decide +kernel
theorem dX13_beat_14 : decode cX13_beat 14 = .ok (.ireturn, 1) := by decide +kernel
theorem dX13_beat_15 : decode cX13_beat 15 = .ok (.iconst 0, 1) := by decide +kernel
theorem dX13_beat_16 : decode cX13_beat 16 = .ok (.istore_n 2, 1) := by decide +kernel
theorem dX13_beat_17 : decode cX13_beat 17 = .ok (.iload_n 2, 1) := by decide +kernel
theorem dX13_beat_18 : decode cX13_beat 18 = .ok (.iload_n 1, 1) := by decide +kernel
theorem dX13_beat_19 : decode cX13_beat 19 = .ok (.if_icmp .ge 48, 3) := by decide +kernel
theorem dX13_beat_22 : decode cX13_beat 22 = .ok (.aload_n 0, 1) := by decide +kernel
theorem dX13_beat_23 : decode cX13_beat 23 = .ok (.invokevirtual 599, 3) := by decide +kernel
theorem dX13_beat_26 : decode cX13_beat 26 = .ok (.istore_n 3, 1) := by decide +kernel
theorem dX13_beat_27 : decode cX13_beat 27 = .ok (.aload_n 0, 1) := by decide +kernel
theorem dX13_beat_28 : decode cX13_beat 28 = .ok (.dup, 1) := by decide +kernel
theorem dX13_beat_29 : decode cX13_beat 29 = .ok (.getfield 575, 3) := by decide +kernel
theorem dX13_beat_32 : decode cX13_beat 32 = .ok (.iload_n 3, 1) := by decide +kernel
theorem dX13_beat_33 : decode cX13_beat 33 = .ok (.iadd, 1) := by decide +kernel
theorem dX13_beat_34 : decode cX13_beat 34 = .ok (.putfield 575, 3) := by decide +kernel
theorem dX13_beat_37 : decode cX13_beat 37 = .ok (.aload_n 0, 1) := by decide +kernel
theorem dX13_beat_38 : decode cX13_beat 38 = .ok (.iload_n 3, 1) := by decide +kernel
theorem dX13_beat_39 : decode cX13_beat 39 = .ok (.ifCond .le 7, 3) := by decide +kernel
theorem dX13_beat_42 : decode cX13_beat 42 = .ok (.iconst 0, 1) := by decide +kernel
theorem dX13_beat_43 : decode cX13_beat 43 = .ok (.goto 15, 3) := by decide +kernel
theorem dX13_beat_46 : decode cX13_beat 46 = .ok (.ldc_w 602, 3) := by decide +kernel
theorem dX13_beat_49 : decode cX13_beat 49 = .ok (.aload_n 0, 1) := by decide +kernel
theorem dX13_beat_50 : decode cX13_beat 50 = .ok (.getfield 578, 3) := by decide +kernel
theorem dX13_beat_53 : decode cX13_beat 53 = .ok (.iconst 1, 1) := by decide +kernel
theorem dX13_beat_54 : decode cX13_beat 54 = .ok (.iadd, 1) := by decide +kernel
theorem dX13_beat_55 : decode cX13_beat 55 = .ok (.invokestatic 487, 3) := by decide +kernel
theorem dX13_beat_58 : decode cX13_beat 58 = .ok (.putfield 578, 3) := by decide +kernel
theorem dX13_beat_61 : decode cX13_beat 61 = .ok (.iinc 2 1, 3) := by decide +kernel
theorem dX13_beat_64 : decode cX13_beat 64 = .ok (.goto (-47), 3) := by decide +kernel
theorem dX13_beat_67 : decode cX13_beat 67 = .ok (.aload_n 0, 1) := by decide +kernel
theorem dX13_beat_68 : decode cX13_beat 68 = .ok (.invokevirtual 603, 3) := by decide +kernel
theorem dX13_beat_71 : decode cX13_beat 71 = .ok (.ireturn, 1) := by decide +kernel
theorem dX13_back_0 : decode cX13_back 0 = .ok (.iload_n 1, 1) := by decide +kernel
theorem dX13_back_1 : decode cX13_back 1 = .ok (.i2l, 1) := by decide +kernel
theorem dX13_back_2 : decode cX13_back 2 = .ok (.lconst 1, 1) := by decide +kernel
theorem dX13_back_3 : decode cX13_back 3 = .ok (.ldc2_w 597, 3) := by decide +kernel
theorem dX13_back_6 : decode cX13_back 6 = .ok (.invokestatic 64, 3) := by decide +kernel
theorem dX13_back_9 : decode cX13_back 9 = .ok (.ifCond .ne 6, 3) := by decide +kernel
theorem dX13_back_12 : decode cX13_back 12 = .ok (.bipush (-2), 2) := by decide +kernel
theorem dX13_back_14 : decode cX13_back 14 = .ok (.ireturn, 1) := by decide +kernel
theorem dX13_back_15 : decode cX13_back 15 = .ok (.iload_n 1, 1) := by decide +kernel
theorem dX13_back_16 : decode cX13_back 16 = .ok (.aload_n 0, 1) := by decide +kernel
theorem dX13_back_17 : decode cX13_back 17 = .ok (.getfield 578, 3) := by decide +kernel
theorem dX13_back_20 : decode cX13_back 20 = .ok (.if_icmp .le 6, 3) := by decide +kernel
theorem dX13_back_23 : decode cX13_back 23 = .ok (.bipush (-4), 2) := by decide +kernel
theorem dX13_back_25 : decode cX13_back 25 = .ok (.ireturn, 1) := by decide +kernel
theorem dX13_back_26 : decode cX13_back 26 = .ok (.iconst 0, 1) := by decide +kernel
theorem dX13_back_27 : decode cX13_back 27 = .ok (.istore_n 2, 1) := by decide +kernel
theorem dX13_back_28 : decode cX13_back 28 = .ok (.iload_n 2, 1) := by decide +kernel
theorem dX13_back_29 : decode cX13_back 29 = .ok (.iload_n 1, 1) := by decide +kernel
theorem dX13_back_30 : decode cX13_back 30 = .ok (.if_icmp .ge 13, 3) := by decide +kernel
theorem dX13_back_33 : decode cX13_back 33 = .ok (.aload_n 0, 1) := by decide +kernel
theorem dX13_back_34 : decode cX13_back 34 = .ok (.invokevirtual 606, 3) := by decide +kernel
theorem dX13_back_37 : decode cX13_back 37 = .ok (.iinc 2 1, 3) := by decide +kernel
theorem dX13_back_40 : decode cX13_back 40 = .ok (.goto (-12), 3) := by decide +kernel
theorem dX13_back_43 : decode cX13_back 43 = .ok (.aload_n 0, 1) := by decide +kernel
theorem dX13_back_44 : decode cX13_back 44 = .ok (.dup, 1) := by decide +kernel
theorem dX13_back_45 : decode cX13_back 45 = .ok (.getfield 578, 3) := by decide +kernel
theorem dX13_back_48 : decode cX13_back 48 = .ok (.iload_n 1, 1) := by decide +kernel
theorem dX13_back_49 : decode cX13_back 49 = .ok (.isub, 1) := by decide +kernel
theorem dX13_back_50 : decode cX13_back 50 = .ok (.putfield 578, 3) := by decide +kernel
theorem dX13_back_53 : decode cX13_back 53 = .ok (.aload_n 0, 1) := by decide +kernel
theorem dX13_back_54 : decode cX13_back 54 = .ok (.invokevirtual 603, 3) := by decide +kernel
theorem dX13_back_57 : decode cX13_back 57 = .ok (.ireturn, 1) := by decide +kernel
theorem dX13_round_0 : decode cX13_round 0 = .ok (.iconst 0, 1) := by decide +kernel
theorem dX13_round_1 : decode cX13_round 1 = .ok (.istore_n 1, 1) := by decide +kernel
theorem dX13_round_2 : decode cX13_round 2 = .ok (.iload_n 1, 1) := by decide +kernel
theorem dX13_round_3 : decode cX13_round 3 = .ok (.bipush 100, 2) := by decide +kernel
theorem dX13_round_5 : decode cX13_round 5 = .ok (.if_icmp .ge 21, 3) := by decide +kernel
theorem dX13_round_8 : decode cX13_round 8 = .ok (.aload_n 0, 1) := by decide +kernel
theorem dX13_round_9 : decode cX13_round 9 = .ok (.getfield 246, 3) := by decide +kernel
theorem dX13_round_12 : decode cX13_round 12 = .ok (.iload_n 1, 1) := by decide +kernel
theorem dX13_round_13 : decode cX13_round 13 = .ok (.aload_n 0, 1) := by decide +kernel
theorem dX13_round_14 : decode cX13_round 14 = .ok (.getfield 240, 3) := by decide +kernel
theorem dX13_round_17 : decode cX13_round 17 = .ok (.iload_n 1, 1) := by decide +kernel
theorem dX13_round_18 : decode cX13_round 18 = .ok (.iaload, 1) := by decide +kernel
theorem dX13_round_19 : decode cX13_round 19 = .ok (.iastore, 1) := by decide +kernel
theorem dX13_round_20 : decode cX13_round 20 = .ok (.iinc 1 1, 3) := by decide +kernel
theorem dX13_round_23 : decode cX13_round 23 = .ok (.goto (-21), 3) := by decide +kernel
theorem dX13_round_26 : decode cX13_round 26 = .ok (.iconst (-1), 1) := by decide +kernel
theorem dX13_round_27 : decode cX13_round 27 = .ok (.istore_n 1, 1) := by decide +kernel
theorem dX13_round_28 : decode cX13_round 28 = .ok (.iconst 1, 1) := by decide +kernel
theorem dX13_round_29 : decode cX13_round 29 = .ok (.istore_n 2, 1) := by decide +kernel
theorem dX13_round_30 : decode cX13_round 30 = .ok (.iconst 1, 1) := by decide +kernel
theorem dX13_round_31 : decode cX13_round 31 = .ok (.istore_n 3, 1) := by decide +kernel
theorem dX13_round_32 : decode cX13_round 32 = .ok (.iload_n 3, 1) := by decide +kernel
theorem dX13_round_33 : decode cX13_round 33 = .ok (.sipush 2000, 3) := by decide +kernel
theorem dX13_round_36 : decode cX13_round 36 = .ok (.if_icmp .gt 86, 3) := by decide +kernel
theorem dX13_round_39 : decode cX13_round 39 = .ok (.iload_n 2, 1) := by decide +kernel
theorem dX13_round_40 : decode cX13_round 40 = .ok (.ifCond .eq 82, 3) := by decide +kernel
theorem dX13_round_43 : decode cX13_round 43 = .ok (.aload_n 0, 1) := by decide +kernel
theorem dX13_round_44 : decode cX13_round 44 = .ok (.invokevirtual 599, 3) := by decide +kernel
theorem dX13_round_47 : decode cX13_round 47 = .ok (.ifCond .ne 7, 3) := by decide +kernel
theorem dX13_round_50 : decode cX13_round 50 = .ok (.iconst 1, 1) := by decide +kernel
theorem dX13_round_51 : decode cX13_round 51 = .ok (.goto 4, 3) := by decide +kernel
theorem dX13_round_54 : decode cX13_round 54 = .ok (.iconst 0, 1) := by decide +kernel
theorem dX13_round_55 : decode cX13_round 55 = .ok (.istore_n 2, 1) := by decide +kernel
theorem dX13_round_56 : decode cX13_round 56 = .ok (.iload_n 2, 1) := by decide +kernel
theorem dX13_round_57 : decode cX13_round 57 = .ok (.istore 4, 2) := by decide +kernel
theorem dX13_round_59 : decode cX13_round 59 = .ok (.iconst 0, 1) := by decide +kernel
theorem dX13_round_60 : decode cX13_round 60 = .ok (.istore 5, 2) := by decide +kernel
theorem dX13_round_62 : decode cX13_round 62 = .ok (.iload 5, 2) := by decide +kernel
theorem dX13_round_64 : decode cX13_round 64 = .ok (.bipush 100, 2) := by decide +kernel
theorem dX13_round_66 : decode cX13_round 66 = .ok (.if_icmp .ge 38, 3) := by decide +kernel
theorem dX13_round_69 : decode cX13_round 69 = .ok (.iload 4, 2) := by decide +kernel
theorem dX13_round_71 : decode cX13_round 71 = .ok (.ifCond .eq 33, 3) := by decide +kernel
theorem dX13_round_74 : decode cX13_round 74 = .ok (.aload_n 0, 1) := by decide +kernel
theorem dX13_round_75 : decode cX13_round 75 = .ok (.getfield 240, 3) := by decide +kernel
theorem dX13_round_78 : decode cX13_round 78 = .ok (.iload 5, 2) := by decide +kernel
theorem dX13_round_80 : decode cX13_round 80 = .ok (.iaload, 1) := by decide +kernel
theorem dX13_round_81 : decode cX13_round 81 = .ok (.aload_n 0, 1) := by decide +kernel
theorem dX13_round_82 : decode cX13_round 82 = .ok (.getfield 246, 3) := by decide +kernel
theorem dX13_round_85 : decode cX13_round 85 = .ok (.iload 5, 2) := by decide +kernel
theorem dX13_round_87 : decode cX13_round 87 = .ok (.iaload, 1) := by decide +kernel
theorem dX13_round_88 : decode cX13_round 88 = .ok (.if_icmp .ne 7, 3) := by decide +kernel
theorem dX13_round_91 : decode cX13_round 91 = .ok (.iconst 1, 1) := by decide +kernel
theorem dX13_round_92 : decode cX13_round 92 = .ok (.goto 4, 3) := by decide +kernel
theorem dX13_round_95 : decode cX13_round 95 = .ok (.iconst 0, 1) := by decide +kernel
theorem dX13_round_96 : decode cX13_round 96 = .ok (.istore 4, 2) := by decide +kernel
theorem dX13_round_98 : decode cX13_round 98 = .ok (.iinc 5 1, 3) := by decide +kernel
theorem dX13_round_101 : decode cX13_round 101 = .ok (.goto (-39), 3) := by decide +kernel
theorem dX13_round_104 : decode cX13_round 104 = .ok (.iload 4, 2) := by decide +kernel
theorem dX13_round_106 : decode cX13_round 106 = .ok (.ifCond .ne 6, 3) := by decide +kernel
theorem dX13_round_109 : decode cX13_round 109 = .ok (.goto 7, 3) := by decide +kernel
theorem dX13_round_112 : decode cX13_round 112 = .ok (.iload_n 3, 1) := by decide +kernel
theorem dX13_round_113 : decode cX13_round 113 = .ok (.istore_n 1, 1) := by decide +kernel
theorem dX13_round_114 : decode cX13_round 114 = .ok (.iconst 0, 1) := by decide +kernel
theorem dX13_round_115 : decode cX13_round 115 = .ok (.istore_n 2, 1) := by decide +kernel
theorem dX13_round_116 : decode cX13_round 116 = .ok (.iinc 3 1, 3) := by decide +kernel
theorem dX13_round_119 : decode cX13_round 119 = .ok (.goto (-87), 3) := by decide +kernel
theorem dX13_round_122 : decode cX13_round 122 = .ok (.iconst 0, 1) := by decide +kernel
theorem dX13_round_123 : decode cX13_round 123 = .ok (.istore_n 3, 1) := by decide +kernel
theorem dX13_round_124 : decode cX13_round 124 = .ok (.iload_n 3, 1) := by decide +kernel
theorem dX13_round_125 : decode cX13_round 125 = .ok (.bipush 100, 2) := by decide +kernel
theorem dX13_round_127 : decode cX13_round 127 = .ok (.if_icmp .ge 21, 3) := by decide +kernel
theorem dX13_round_130 : decode cX13_round 130 = .ok (.aload_n 0, 1) := by decide +kernel
theorem dX13_round_131 : decode cX13_round 131 = .ok (.getfield 240, 3) := by decide +kernel
theorem dX13_round_134 : decode cX13_round 134 = .ok (.iload_n 3, 1) := by decide +kernel
theorem dX13_round_135 : decode cX13_round 135 = .ok (.aload_n 0, 1) := by decide +kernel
theorem dX13_round_136 : decode cX13_round 136 = .ok (.getfield 246, 3) := by decide +kernel
theorem dX13_round_139 : decode cX13_round 139 = .ok (.iload_n 3, 1) := by decide +kernel
theorem dX13_round_140 : decode cX13_round 140 = .ok (.iaload, 1) := by decide +kernel
theorem dX13_round_141 : decode cX13_round 141 = .ok (.iastore, 1) := by decide +kernel
theorem dX13_round_142 : decode cX13_round 142 = .ok (.iinc 3 1, 3) := by decide +kernel
theorem dX13_round_145 : decode cX13_round 145 = .ok (.goto (-21), 3) := by decide +kernel
theorem dX13_round_148 : decode cX13_round 148 = .ok (.iload_n 1, 1) := by decide +kernel
theorem dX13_round_149 : decode cX13_round 149 = .ok (.ireturn, 1) := by decide +kernel
theorem dX13_moveTo_0 : decode cX13_moveTo 0 = .ok (.iload_n 1, 1) := by decide +kernel
theorem dX13_moveTo_1 : decode cX13_moveTo 1 = .ok (.iconst 1, 1) := by decide +kernel
theorem dX13_moveTo_2 : decode cX13_moveTo 2 = .ok (.if_icmp .le 15, 3) := by decide +kernel
theorem dX13_moveTo_5 : decode cX13_moveTo 5 = .ok (.iload_n 0, 1) := by decide +kernel
theorem dX13_moveTo_6 : decode cX13_moveTo 6 = .ok (.iload_n 1, 1) := by decide +kernel
theorem dX13_moveTo_7 : decode cX13_moveTo 7 = .ok (.iconst 2, 1) := by decide +kernel
theorem dX13_moveTo_8 : decode cX13_moveTo 8 = .ok (.isub, 1) := by decide +kernel
theorem dX13_moveTo_9 : decode cX13_moveTo 9 = .ok (.ishr, 1) := by decide +kernel
theorem dX13_moveTo_10 : decode cX13_moveTo 10 = .ok (.iconst 1, 1) := by decide +kernel
theorem dX13_moveTo_11 : decode cX13_moveTo 11 = .ok (.iand, 1) := by decide +kernel
theorem dX13_moveTo_12 : decode cX13_moveTo 12 = .ok (.ifCond .ne 5, 3) := by decide +kernel
theorem dX13_moveTo_15 : decode cX13_moveTo 15 = .ok (.iconst (-1), 1) := by decide +kernel
theorem dX13_moveTo_16 : decode cX13_moveTo 16 = .ok (.ireturn, 1) := by decide +kernel
theorem dX13_moveTo_17 : decode cX13_moveTo 17 = .ok (.iload_n 0, 1) := by decide +kernel
theorem dX13_moveTo_18 : decode cX13_moveTo 18 = .ok (.iconst 1, 1) := by decide +kernel
theorem dX13_moveTo_19 : decode cX13_moveTo 19 = .ok (.iload_n 1, 1) := by decide +kernel
theorem dX13_moveTo_20 : decode cX13_moveTo 20 = .ok (.iconst 1, 1) := by decide +kernel
theorem dX13_moveTo_21 : decode cX13_moveTo 21 = .ok (.isub, 1) := by decide +kernel
theorem dX13_moveTo_22 : decode cX13_moveTo 22 = .ok (.ishl, 1) := by decide +kernel
theorem dX13_moveTo_23 : decode cX13_moveTo 23 = .ok (.ixor, 1) := by decide +kernel
theorem dX13_moveTo_24 : decode cX13_moveTo 24 = .ok (.istore_n 3, 1) := by decide +kernel
theorem dX13_moveTo_25 : decode cX13_moveTo 25 = .ok (.iload_n 3, 1) := by decide +kernel
theorem dX13_moveTo_26 : decode cX13_moveTo 26 = .ok (.invokestatic 333, 3) := by decide +kernel
theorem dX13_moveTo_29 : decode cX13_moveTo 29 = .ok (.iload_n 2, 1) := by decide +kernel
theorem dX13_moveTo_30 : decode cX13_moveTo 30 = .ok (.if_icmp .le 7, 3) := by decide +kernel
theorem dX13_moveTo_33 : decode cX13_moveTo 33 = .ok (.iconst (-1), 1) := by decide +kernel
theorem dX13_moveTo_34 : decode cX13_moveTo 34 = .ok (.goto 4, 3) := by decide +kernel
theorem dX13_moveTo_37 : decode cX13_moveTo 37 = .ok (.iload_n 3, 1) := by decide +kernel
theorem dX13_moveTo_38 : decode cX13_moveTo 38 = .ok (.ireturn, 1) := by decide +kernel
theorem dX13_trail_0 : decode cX13_trail 0 = .ok (.iload_n 1, 1) := by decide +kernel
theorem dX13_trail_1 : decode cX13_trail 1 = .ok (.i2l, 1) := by decide +kernel
theorem dX13_trail_2 : decode cX13_trail 2 = .ok (.lconst 1, 1) := by decide +kernel
theorem dX13_trail_3 : decode cX13_trail 3 = .ok (.ldc2_w 609, 3) := by decide +kernel
theorem dX13_trail_6 : decode cX13_trail 6 = .ok (.invokestatic 64, 3) := by decide +kernel
theorem dX13_trail_9 : decode cX13_trail 9 = .ok (.ifCond .eq 15, 3) := by decide +kernel
theorem dX13_trail_12 : decode cX13_trail 12 = .ok (.iload_n 2, 1) := by decide +kernel
theorem dX13_trail_13 : decode cX13_trail 13 = .ok (.i2l, 1) := by decide +kernel
theorem dX13_trail_14 : decode cX13_trail 14 = .ok (.lconst 1, 1) := by decide +kernel
theorem dX13_trail_15 : decode cX13_trail 15 = .ok (.ldc2_w 609, 3) := by decide +kernel
theorem dX13_trail_18 : decode cX13_trail 18 = .ok (.invokestatic 64, 3) := by decide +kernel
theorem dX13_trail_21 : decode cX13_trail 21 = .ok (.ifCond .ne 6, 3) := by decide +kernel
theorem dX13_trail_24 : decode cX13_trail 24 = .ok (.bipush (-2), 2) := by decide +kernel
theorem dX13_trail_26 : decode cX13_trail 26 = .ok (.ireturn, 1) := by decide +kernel
theorem dX13_trail_27 : decode cX13_trail 27 = .ok (.iconst 0, 1) := by decide +kernel
theorem dX13_trail_28 : decode cX13_trail 28 = .ok (.istore_n 3, 1) := by decide +kernel
theorem dX13_trail_29 : decode cX13_trail 29 = .ok (.iload_n 3, 1) := by decide +kernel
theorem dX13_trail_30 : decode cX13_trail 30 = .ok (.iconst 1, 1) := by decide +kernel
theorem dX13_trail_31 : decode cX13_trail 31 = .ok (.iload_n 1, 1) := by decide +kernel
theorem dX13_trail_32 : decode cX13_trail 32 = .ok (.ishl, 1) := by decide +kernel
theorem dX13_trail_33 : decode cX13_trail 33 = .ok (.if_icmp .ge 16, 3) := by decide +kernel
theorem dX13_trail_36 : decode cX13_trail 36 = .ok (.aload_n 0, 1) := by decide +kernel
theorem dX13_trail_37 : decode cX13_trail 37 = .ok (.getfield 249, 3) := by decide +kernel
theorem dX13_trail_40 : decode cX13_trail 40 = .ok (.iload_n 3, 1) := by decide +kernel
theorem dX13_trail_41 : decode cX13_trail 41 = .ok (.iconst (-1), 1) := by decide +kernel
theorem dX13_trail_42 : decode cX13_trail 42 = .ok (.iastore, 1) := by decide +kernel
theorem dX13_trail_43 : decode cX13_trail 43 = .ok (.iinc 3 1, 3) := by decide +kernel
theorem dX13_trail_46 : decode cX13_trail 46 = .ok (.goto (-17), 3) := by decide +kernel
theorem dX13_trail_49 : decode cX13_trail 49 = .ok (.iconst 1, 1) := by decide +kernel
theorem dX13_trail_50 : decode cX13_trail 50 = .ok (.iload_n 1, 1) := by decide +kernel
theorem dX13_trail_51 : decode cX13_trail 51 = .ok (.iconst 1, 1) := by decide +kernel
theorem dX13_trail_52 : decode cX13_trail 52 = .ok (.isub, 1) := by decide +kernel
theorem dX13_trail_53 : decode cX13_trail 53 = .ok (.ishl, 1) := by decide +kernel
theorem dX13_trail_54 : decode cX13_trail 54 = .ok (.istore_n 3, 1) := by decide +kernel
theorem dX13_trail_55 : decode cX13_trail 55 = .ok (.aload_n 0, 1) := by decide +kernel
theorem dX13_trail_56 : decode cX13_trail 56 = .ok (.getfield 249, 3) := by decide +kernel
theorem dX13_trail_59 : decode cX13_trail 59 = .ok (.iload_n 3, 1) := by decide +kernel
theorem dX13_trail_60 : decode cX13_trail 60 = .ok (.iconst 0, 1) := by decide +kernel
theorem dX13_trail_61 : decode cX13_trail 61 = .ok (.iastore, 1) := by decide +kernel
theorem dX13_trail_62 : decode cX13_trail 62 = .ok (.aload_n 0, 1) := by decide +kernel
theorem dX13_trail_63 : decode cX13_trail 63 = .ok (.getfield 252, 3) := by decide +kernel
theorem dX13_trail_66 : decode cX13_trail 66 = .ok (.iconst 0, 1) := by decide +kernel
theorem dX13_trail_67 : decode cX13_trail 67 = .ok (.iload_n 3, 1) := by decide +kernel
theorem dX13_trail_68 : decode cX13_trail 68 = .ok (.iastore, 1) := by decide +kernel
theorem dX13_trail_69 : decode cX13_trail 69 = .ok (.iconst 1, 1) := by decide +kernel
theorem dX13_trail_70 : decode cX13_trail 70 = .ok (.istore 4, 2) := by decide +kernel
theorem dX13_trail_72 : decode cX13_trail 72 = .ok (.iconst 0, 1) := by decide +kernel
theorem dX13_trail_73 : decode cX13_trail 73 = .ok (.istore 5, 2) := by decide +kernel
theorem dX13_trail_75 : decode cX13_trail 75 = .ok (.iload 5, 2) := by decide +kernel
theorem dX13_trail_77 : decode cX13_trail 77 = .ok (.iload 4, 2) := by decide +kernel
theorem dX13_trail_79 : decode cX13_trail 79 = .ok (.if_icmp .ge 92, 3) := by decide +kernel
theorem dX13_trail_82 : decode cX13_trail 82 = .ok (.iconst 1, 1) := by decide +kernel
theorem dX13_trail_83 : decode cX13_trail 83 = .ok (.istore 6, 2) := by decide +kernel
theorem dX13_trail_85 : decode cX13_trail 85 = .ok (.iload 6, 2) := by decide +kernel
theorem dX13_trail_87 : decode cX13_trail 87 = .ok (.iload_n 1, 1) := by decide +kernel
theorem dX13_trail_88 : decode cX13_trail 88 = .ok (.if_icmp .gt 77, 3) := by decide +kernel
theorem dX13_trail_91 : decode cX13_trail 91 = .ok (.aload_n 0, 1) := by decide +kernel
theorem dX13_trail_92 : decode cX13_trail 92 = .ok (.getfield 252, 3) := by decide +kernel
theorem dX13_trail_95 : decode cX13_trail 95 = .ok (.iload 5, 2) := by decide +kernel
theorem dX13_trail_97 : decode cX13_trail 97 = .ok (.iaload, 1) := by decide +kernel
theorem dX13_trail_98 : decode cX13_trail 98 = .ok (.iload 6, 2) := by decide +kernel
theorem dX13_trail_100 : decode cX13_trail 100 = .ok (.iload_n 2, 1) := by decide +kernel
theorem dX13_trail_101 : decode cX13_trail 101 = .ok (.invokestatic 611, 3) := by decide +kernel
theorem dX13_trail_104 : decode cX13_trail 104 = .ok (.istore 7, 2) := by decide +kernel
theorem dX13_trail_106 : decode cX13_trail 106 = .ok (.iload 7, 2) := by decide +kernel
theorem dX13_trail_108 : decode cX13_trail 108 = .ok (.iconst (-1), 1) := by decide +kernel
theorem dX13_trail_109 : decode cX13_trail 109 = .ok (.if_icmp .eq 50, 3) := by decide +kernel
theorem dX13_trail_112 : decode cX13_trail 112 = .ok (.aload_n 0, 1) := by decide +kernel
theorem dX13_trail_113 : decode cX13_trail 113 = .ok (.getfield 249, 3) := by decide +kernel
theorem dX13_trail_116 : decode cX13_trail 116 = .ok (.iload 7, 2) := by decide +kernel
theorem dX13_trail_118 : decode cX13_trail 118 = .ok (.iaload, 1) := by decide +kernel
theorem dX13_trail_119 : decode cX13_trail 119 = .ok (.iconst (-1), 1) := by decide +kernel
theorem dX13_trail_120 : decode cX13_trail 120 = .ok (.if_icmp .eq 6, 3) := by decide +kernel
theorem dX13_trail_123 : decode cX13_trail 123 = .ok (.goto 36, 3) := by decide +kernel
theorem dX13_trail_126 : decode cX13_trail 126 = .ok (.aload_n 0, 1) := by decide +kernel
theorem dX13_trail_127 : decode cX13_trail 127 = .ok (.getfield 249, 3) := by decide +kernel
theorem dX13_trail_130 : decode cX13_trail 130 = .ok (.iload 7, 2) := by decide +kernel
theorem dX13_trail_132 : decode cX13_trail 132 = .ok (.aload_n 0, 1) := by decide +kernel
theorem dX13_trail_133 : decode cX13_trail 133 = .ok (.getfield 249, 3) := by decide +kernel
theorem dX13_trail_136 : decode cX13_trail 136 = .ok (.aload_n 0, 1) := by decide +kernel
theorem dX13_trail_137 : decode cX13_trail 137 = .ok (.getfield 252, 3) := by decide +kernel
theorem dX13_trail_140 : decode cX13_trail 140 = .ok (.iload 5, 2) := by decide +kernel
theorem dX13_trail_142 : decode cX13_trail 142 = .ok (.iaload, 1) := by decide +kernel
theorem dX13_trail_143 : decode cX13_trail 143 = .ok (.iaload, 1) := by decide +kernel
theorem dX13_trail_144 : decode cX13_trail 144 = .ok (.iconst 1, 1) := by decide +kernel
theorem dX13_trail_145 : decode cX13_trail 145 = .ok (.iadd, 1) := by decide +kernel
theorem dX13_trail_146 : decode cX13_trail 146 = .ok (.iastore, 1) := by decide +kernel
theorem dX13_trail_147 : decode cX13_trail 147 = .ok (.aload_n 0, 1) := by decide +kernel
theorem dX13_trail_148 : decode cX13_trail 148 = .ok (.getfield 252, 3) := by decide +kernel
theorem dX13_trail_151 : decode cX13_trail 151 = .ok (.iload 4, 2) := by decide +kernel
theorem dX13_trail_153 : decode cX13_trail 153 = .ok (.iload 7, 2) := by decide +kernel
theorem dX13_trail_155 : decode cX13_trail 155 = .ok (.iastore, 1) := by decide +kernel
theorem dX13_trail_156 : decode cX13_trail 156 = .ok (.iinc 4 1, 3) := by decide +kernel
theorem dX13_trail_159 : decode cX13_trail 159 = .ok (.iinc 6 1, 3) := by decide +kernel
theorem dX13_trail_162 : decode cX13_trail 162 = .ok (.goto (-77), 3) := by decide +kernel
theorem dX13_trail_165 : decode cX13_trail 165 = .ok (.iinc 5 1, 3) := by decide +kernel
theorem dX13_trail_168 : decode cX13_trail 168 = .ok (.goto (-93), 3) := by decide +kernel
theorem dX13_trail_171 : decode cX13_trail 171 = .ok (.aload_n 0, 1) := by decide +kernel
theorem dX13_trail_172 : decode cX13_trail 172 = .ok (.getfield 249, 3) := by decide +kernel
theorem dX13_trail_175 : decode cX13_trail 175 = .ok (.iconst 0, 1) := by decide +kernel
theorem dX13_trail_176 : decode cX13_trail 176 = .ok (.iaload, 1) := by decide +kernel
theorem dX13_trail_177 : decode cX13_trail 177 = .ok (.iconst (-1), 1) := by decide +kernel
theorem dX13_trail_178 : decode cX13_trail 178 = .ok (.if_icmp .ne 5, 3) := by decide +kernel
theorem dX13_trail_181 : decode cX13_trail 181 = .ok (.iconst (-1), 1) := by decide +kernel
theorem dX13_trail_182 : decode cX13_trail 182 = .ok (.ireturn, 1) := by decide +kernel
theorem dX13_trail_183 : decode cX13_trail 183 = .ok (.aload_n 0, 1) := by decide +kernel
theorem dX13_trail_184 : decode cX13_trail 184 = .ok (.aload_n 0, 1) := by decide +kernel
theorem dX13_trail_185 : decode cX13_trail 185 = .ok (.getfield 249, 3) := by decide +kernel
theorem dX13_trail_188 : decode cX13_trail 188 = .ok (.iconst 0, 1) := by decide +kernel
theorem dX13_trail_189 : decode cX13_trail 189 = .ok (.iaload, 1) := by decide +kernel
theorem dX13_trail_190 : decode cX13_trail 190 = .ok (.putfield 614, 3) := by decide +kernel
theorem dX13_trail_193 : decode cX13_trail 193 = .ok (.iconst 0, 1) := by decide +kernel
theorem dX13_trail_194 : decode cX13_trail 194 = .ok (.istore 5, 2) := by decide +kernel
theorem dX13_trail_196 : decode cX13_trail 196 = .ok (.iconst 0, 1) := by decide +kernel
theorem dX13_trail_197 : decode cX13_trail 197 = .ok (.istore 6, 2) := by decide +kernel
theorem dX13_trail_199 : decode cX13_trail 199 = .ok (.iload 6, 2) := by decide +kernel
theorem dX13_trail_201 : decode cX13_trail 201 = .ok (.aload_n 0, 1) := by decide +kernel
theorem dX13_trail_202 : decode cX13_trail 202 = .ok (.getfield 614, 3) := by decide +kernel
theorem dX13_trail_205 : decode cX13_trail 205 = .ok (.if_icmp .ge 49, 3) := by decide +kernel
theorem dX13_trail_208 : decode cX13_trail 208 = .ok (.iconst 1, 1) := by decide +kernel
theorem dX13_trail_209 : decode cX13_trail 209 = .ok (.istore 7, 2) := by decide +kernel
theorem dX13_trail_211 : decode cX13_trail 211 = .ok (.aload_n 0, 1) := by decide +kernel
theorem dX13_trail_212 : decode cX13_trail 212 = .ok (.iload 5, 2) := by decide +kernel
theorem dX13_trail_214 : decode cX13_trail 214 = .ok (.iload 7, 2) := by decide +kernel
theorem dX13_trail_216 : decode cX13_trail 216 = .ok (.iload_n 2, 1) := by decide +kernel
theorem dX13_trail_217 : decode cX13_trail 217 = .ok (.invokevirtual 617, 3) := by decide +kernel
theorem dX13_trail_220 : decode cX13_trail 220 = .ok (.ifCond .ne 9, 3) := by decide +kernel
theorem dX13_trail_223 : decode cX13_trail 223 = .ok (.iinc 7 1, 3) := by decide +kernel
theorem dX13_trail_226 : decode cX13_trail 226 = .ok (.goto (-15), 3) := by decide +kernel
theorem dX13_trail_229 : decode cX13_trail 229 = .ok (.aload_n 0, 1) := by decide +kernel
theorem dX13_trail_230 : decode cX13_trail 230 = .ok (.getfield 255, 3) := by decide +kernel
theorem dX13_trail_233 : decode cX13_trail 233 = .ok (.iload 6, 2) := by decide +kernel
theorem dX13_trail_235 : decode cX13_trail 235 = .ok (.iload 7, 2) := by decide +kernel
theorem dX13_trail_237 : decode cX13_trail 237 = .ok (.iastore, 1) := by decide +kernel
theorem dX13_trail_238 : decode cX13_trail 238 = .ok (.iload 5, 2) := by decide +kernel
theorem dX13_trail_240 : decode cX13_trail 240 = .ok (.iload 7, 2) := by decide +kernel
theorem dX13_trail_242 : decode cX13_trail 242 = .ok (.iload_n 2, 1) := by decide +kernel
theorem dX13_trail_243 : decode cX13_trail 243 = .ok (.invokestatic 611, 3) := by decide +kernel
theorem dX13_trail_246 : decode cX13_trail 246 = .ok (.istore 5, 2) := by decide +kernel
theorem dX13_trail_248 : decode cX13_trail 248 = .ok (.iinc 6 1, 3) := by decide +kernel
theorem dX13_trail_251 : decode cX13_trail 251 = .ok (.goto (-52), 3) := by decide +kernel
theorem dX13_trail_254 : decode cX13_trail 254 = .ok (.aload_n 0, 1) := by decide +kernel
theorem dX13_trail_255 : decode cX13_trail 255 = .ok (.getfield 614, 3) := by decide +kernel
theorem dX13_trail_258 : decode cX13_trail 258 = .ok (.ireturn, 1) := by decide +kernel
theorem dX13_isNext_0 : decode cX13_isNext 0 = .ok (.iload_n 1, 1) := by decide +kernel
theorem dX13_isNext_1 : decode cX13_isNext 1 = .ok (.iload_n 2, 1) := by decide +kernel
theorem dX13_isNext_2 : decode cX13_isNext 2 = .ok (.iload_n 3, 1) := by decide +kernel
theorem dX13_isNext_3 : decode cX13_isNext 3 = .ok (.invokestatic 611, 3) := by decide +kernel
theorem dX13_isNext_6 : decode cX13_isNext 6 = .ok (.istore 4, 2) := by decide +kernel
theorem dX13_isNext_8 : decode cX13_isNext 8 = .ok (.iload 4, 2) := by decide +kernel
theorem dX13_isNext_10 : decode cX13_isNext 10 = .ok (.iconst (-1), 1) := by decide +kernel
theorem dX13_isNext_11 : decode cX13_isNext 11 = .ok (.if_icmp .eq 25, 3) := by decide +kernel
theorem dX13_isNext_14 : decode cX13_isNext 14 = .ok (.aload_n 0, 1) := by decide +kernel
theorem dX13_isNext_15 : decode cX13_isNext 15 = .ok (.getfield 249, 3) := by decide +kernel
theorem dX13_isNext_18 : decode cX13_isNext 18 = .ok (.iload 4, 2) := by decide +kernel
theorem dX13_isNext_20 : decode cX13_isNext 20 = .ok (.iaload, 1) := by decide +kernel
theorem dX13_isNext_21 : decode cX13_isNext 21 = .ok (.aload_n 0, 1) := by decide +kernel
theorem dX13_isNext_22 : decode cX13_isNext 22 = .ok (.getfield 249, 3) := by decide +kernel
theorem dX13_isNext_25 : decode cX13_isNext 25 = .ok (.iload_n 1, 1) := by decide +kernel
theorem dX13_isNext_26 : decode cX13_isNext 26 = .ok (.iaload, 1) := by decide +kernel
theorem dX13_isNext_27 : decode cX13_isNext 27 = .ok (.iconst 1, 1) := by decide +kernel
theorem dX13_isNext_28 : decode cX13_isNext 28 = .ok (.isub, 1) := by decide +kernel
theorem dX13_isNext_29 : decode cX13_isNext 29 = .ok (.if_icmp .ne 7, 3) := by decide +kernel
theorem dX13_isNext_32 : decode cX13_isNext 32 = .ok (.iconst 1, 1) := by decide +kernel
theorem dX13_isNext_33 : decode cX13_isNext 33 = .ok (.goto 4, 3) := by decide +kernel
theorem dX13_isNext_36 : decode cX13_isNext 36 = .ok (.iconst 0, 1) := by decide +kernel
theorem dX13_isNext_37 : decode cX13_isNext 37 = .ok (.ireturn, 1) := by decide +kernel
theorem dX13_move_0 : decode cX13_move 0 = .ok (.iload_n 1, 1) := by decide +kernel
theorem dX13_move_1 : decode cX13_move 1 = .ok (.i2l, 1) := by decide +kernel
theorem dX13_move_2 : decode cX13_move 2 = .ok (.lconst 0, 1) := by decide +kernel
theorem dX13_move_3 : decode cX13_move 3 = .ok (.aload_n 0, 1) := by decide +kernel
theorem dX13_move_4 : decode cX13_move 4 = .ok (.getfield 614, 3) := by decide +kernel
theorem dX13_move_7 : decode cX13_move 7 = .ok (.i2l, 1) := by decide +kernel
theorem dX13_move_8 : decode cX13_move 8 = .ok (.lconst 1, 1) := by decide +kernel
theorem dX13_move_9 : decode cX13_move 9 = .ok (.lsub, 1) := by decide +kernel
theorem dX13_move_10 : decode cX13_move 10 = .ok (.invokestatic 64, 3) := by decide +kernel
theorem dX13_move_13 : decode cX13_move 13 = .ok (.ifCond .eq 12, 3) := by decide +kernel
theorem dX13_move_16 : decode cX13_move 16 = .ok (.aload_n 0, 1) := by decide +kernel
theorem dX13_move_17 : decode cX13_move 17 = .ok (.getfield 255, 3) := by decide +kernel
theorem dX13_move_20 : decode cX13_move 20 = .ok (.iload_n 1, 1) := by decide +kernel
theorem dX13_move_21 : decode cX13_move 21 = .ok (.iaload, 1) := by decide +kernel
theorem dX13_move_22 : decode cX13_move 22 = .ok (.goto 4, 3) := by decide +kernel
theorem dX13_move_25 : decode cX13_move 25 = .ok (.iconst (-1), 1) := by decide +kernel
theorem dX13_move_26 : decode cX13_move 26 = .ok (.ireturn, 1) := by decide +kernel
theorem dX13_watch_0 : decode cX13_watch 0 = .ok (.iload_n 1, 1) := by decide +kernel
theorem dX13_watch_1 : decode cX13_watch 1 = .ok (.invokestatic 290, 3) := by decide +kernel
theorem dX13_watch_4 : decode cX13_watch 4 = .ok (.ifCond .ne 6, 3) := by decide +kernel
theorem dX13_watch_7 : decode cX13_watch 7 = .ok (.bipush (-2), 2) := by decide +kernel
theorem dX13_watch_9 : decode cX13_watch 9 = .ok (.ireturn, 1) := by decide +kernel
theorem dX13_watch_10 : decode cX13_watch 10 = .ok (.aload_n 0, 1) := by decide +kernel
theorem dX13_watch_11 : decode cX13_watch 11 = .ok (.iload_n 1, 1) := by decide +kernel
theorem dX13_watch_12 : decode cX13_watch 12 = .ok (.bipush 7, 2) := by decide +kernel
theorem dX13_watch_14 : decode cX13_watch 14 = .ok (.invokevirtual 299, 3) := by decide +kernel
theorem dX13_watch_17 : decode cX13_watch 17 = .ok (.aload_n 0, 1) := by decide +kernel
theorem dX13_watch_18 : decode cX13_watch 18 = .ok (.iconst 1, 1) := by decide +kernel
theorem dX13_watch_19 : decode cX13_watch 19 = .ok (.putfield 620, 3) := by decide +kernel
theorem dX13_watch_22 : decode cX13_watch 22 = .ok (.aload_n 0, 1) := by decide +kernel
theorem dX13_watch_23 : decode cX13_watch 23 = .ok (.iconst 0, 1) := by decide +kernel
theorem dX13_watch_24 : decode cX13_watch 24 = .ok (.putfield 624, 3) := by decide +kernel
theorem dX13_watch_27 : decode cX13_watch 27 = .ok (.aload_n 0, 1) := by decide +kernel
theorem dX13_watch_28 : decode cX13_watch 28 = .ok (.iconst 0, 1) := by decide +kernel
theorem dX13_watch_29 : decode cX13_watch 29 = .ok (.putfield 627, 3) := by decide +kernel
theorem dX13_watch_32 : decode cX13_watch 32 = .ok (.aload_n 0, 1) := by decide +kernel
theorem dX13_watch_33 : decode cX13_watch 33 = .ok (.iconst 0, 1) := by decide +kernel
theorem dX13_watch_34 : decode cX13_watch 34 = .ok (.putfield 630, 3) := by decide +kernel
theorem dX13_watch_37 : decode cX13_watch 37 = .ok (.aload_n 0, 1) := by decide +kernel
theorem dX13_watch_38 : decode cX13_watch 38 = .ok (.getfield 86, 3) := by decide +kernel
theorem dX13_watch_41 : decode cX13_watch 41 = .ok (.bipush 7, 2) := by decide +kernel
theorem dX13_watch_43 : decode cX13_watch 43 = .ok (.iaload, 1) := by decide +kernel
theorem dX13_watch_44 : decode cX13_watch 44 = .ok (.ireturn, 1) := by decide +kernel
theorem dX13_see_0 : decode cX13_see 0 = .ok (.aload_n 0, 1) := by decide +kernel
theorem dX13_see_1 : decode cX13_see 1 = .ok (.getfield 620, 3) := by decide +kernel
theorem dX13_see_4 : decode cX13_see 4 = .ok (.ifCond .ne 47, 3) := by decide +kernel
theorem dX13_see_7 : decode cX13_see 7 = .ok (.iload_n 1, 1) := by decide +kernel
theorem dX13_see_8 : decode cX13_see 8 = .ok (.i2l, 1) := by decide +kernel
theorem dX13_see_9 : decode cX13_see 9 = .ok (.lconst 0, 1) := by decide +kernel
theorem dX13_see_10 : decode cX13_see 10 = .ok (.ldc2_w 633, 3) := by decide +kernel
theorem dX13_see_13 : decode cX13_see 13 = .ok (.invokestatic 64, 3) := by decide +kernel
theorem dX13_see_16 : decode cX13_see 16 = .ok (.ifCond .eq 32, 3) := by decide +kernel
theorem dX13_see_19 : decode cX13_see 19 = .ok (.iload_n 2, 1) := by decide +kernel
theorem dX13_see_20 : decode cX13_see 20 = .ok (.i2l, 1) := by decide +kernel
theorem dX13_see_21 : decode cX13_see 21 = .ok (.lconst 0, 1) := by decide +kernel
theorem dX13_see_22 : decode cX13_see 22 = .ok (.ldc2_w 635, 3) := by decide +kernel
theorem dX13_see_25 : decode cX13_see 25 = .ok (.invokestatic 64, 3) := by decide +kernel
theorem dX13_see_28 : decode cX13_see 28 = .ok (.ifCond .eq 20, 3) := by decide +kernel
theorem dX13_see_31 : decode cX13_see 31 = .ok (.iload_n 3, 1) := by decide +kernel
theorem dX13_see_32 : decode cX13_see 32 = .ok (.i2l, 1) := by decide +kernel
theorem dX13_see_33 : decode cX13_see 33 = .ok (.lconst 0, 1) := by decide +kernel
theorem dX13_see_34 : decode cX13_see 34 = .ok (.ldc2_w 635, 3) := by decide +kernel
theorem dX13_see_37 : decode cX13_see 37 = .ok (.invokestatic 64, 3) := by decide +kernel
theorem dX13_see_40 : decode cX13_see 40 = .ok (.ifCond .eq 8, 3) := by decide +kernel
theorem dX13_see_43 : decode cX13_see 43 = .ok (.bipush (-4), 2) := by decide +kernel
theorem dX13_see_45 : decode cX13_see 45 = .ok (.goto 5, 3) := by decide +kernel
theorem dX13_see_48 : decode cX13_see 48 = .ok (.bipush (-2), 2) := by decide +kernel
theorem dX13_see_50 : decode cX13_see 50 = .ok (.ireturn, 1) := by decide +kernel
theorem dX13_see_51 : decode cX13_see 51 = .ok (.iload_n 1, 1) := by decide +kernel
theorem dX13_see_52 : decode cX13_see 52 = .ok (.i2l, 1) := by decide +kernel
theorem dX13_see_53 : decode cX13_see 53 = .ok (.aload_n 0, 1) := by decide +kernel
theorem dX13_see_54 : decode cX13_see 54 = .ok (.getfield 630, 3) := by decide +kernel
theorem dX13_see_57 : decode cX13_see 57 = .ok (.i2l, 1) := by decide +kernel
theorem dX13_see_58 : decode cX13_see 58 = .ok (.ldc2_w 633, 3) := by decide +kernel
theorem dX13_see_61 : decode cX13_see 61 = .ok (.invokestatic 64, 3) := by decide +kernel
theorem dX13_see_64 : decode cX13_see 64 = .ok (.ifCond .eq 23, 3) := by decide +kernel
theorem dX13_see_67 : decode cX13_see 67 = .ok (.aload_n 0, 1) := by decide +kernel
theorem dX13_see_68 : decode cX13_see 68 = .ok (.bipush 7, 2) := by decide +kernel
theorem dX13_see_70 : decode cX13_see 70 = .ok (.iload_n 2, 1) := by decide +kernel
theorem dX13_see_71 : decode cX13_see 71 = .ok (.invokevirtual 310, 3) := by decide +kernel
theorem dX13_see_74 : decode cX13_see 74 = .ok (.ifCond .eq 13, 3) := by decide +kernel
theorem dX13_see_77 : decode cX13_see 77 = .ok (.aload_n 0, 1) := by decide +kernel
theorem dX13_see_78 : decode cX13_see 78 = .ok (.bipush 7, 2) := by decide +kernel
theorem dX13_see_80 : decode cX13_see 80 = .ok (.iload_n 3, 1) := by decide +kernel
theorem dX13_see_81 : decode cX13_see 81 = .ok (.invokevirtual 310, 3) := by decide +kernel
theorem dX13_see_84 : decode cX13_see 84 = .ok (.ifCond .ne 6, 3) := by decide +kernel
theorem dX13_see_87 : decode cX13_see 87 = .ok (.bipush (-2), 2) := by decide +kernel
theorem dX13_see_89 : decode cX13_see 89 = .ok (.ireturn, 1) := by decide +kernel
theorem dX13_see_90 : decode cX13_see 90 = .ok (.aload_n 0, 1) := by decide +kernel
theorem dX13_see_91 : decode cX13_see 91 = .ok (.getfield 624, 3) := by decide +kernel
theorem dX13_see_94 : decode cX13_see 94 = .ok (.bipush 20, 2) := by decide +kernel
theorem dX13_see_96 : decode cX13_see 96 = .ok (.if_icmp .ne 6, 3) := by decide +kernel
theorem dX13_see_99 : decode cX13_see 99 = .ok (.bipush (-3), 2) := by decide +kernel
theorem dX13_see_101 : decode cX13_see 101 = .ok (.ireturn, 1) := by decide +kernel
theorem dX13_see_102 : decode cX13_see 102 = .ok (.aload_n 0, 1) := by decide +kernel
theorem dX13_see_103 : decode cX13_see 103 = .ok (.iload_n 1, 1) := by decide +kernel
theorem dX13_see_104 : decode cX13_see 104 = .ok (.putfield 630, 3) := by decide +kernel
theorem dX13_see_107 : decode cX13_see 107 = .ok (.aload_n 0, 1) := by decide +kernel
theorem dX13_see_108 : decode cX13_see 108 = .ok (.getfield 258, 3) := by decide +kernel
theorem dX13_see_111 : decode cX13_see 111 = .ok (.aload_n 0, 1) := by decide +kernel
theorem dX13_see_112 : decode cX13_see 112 = .ok (.getfield 624, 3) := by decide +kernel
theorem dX13_see_115 : decode cX13_see 115 = .ok (.iload_n 2, 1) := by decide +kernel
theorem dX13_see_116 : decode cX13_see 116 = .ok (.iastore, 1) := by decide +kernel
theorem dX13_see_117 : decode cX13_see 117 = .ok (.aload_n 0, 1) := by decide +kernel
theorem dX13_see_118 : decode cX13_see 118 = .ok (.getfield 261, 3) := by decide +kernel
theorem dX13_see_121 : decode cX13_see 121 = .ok (.aload_n 0, 1) := by decide +kernel
theorem dX13_see_122 : decode cX13_see 122 = .ok (.getfield 624, 3) := by decide +kernel
theorem dX13_see_125 : decode cX13_see 125 = .ok (.iload_n 3, 1) := by decide +kernel
theorem dX13_see_126 : decode cX13_see 126 = .ok (.iastore, 1) := by decide +kernel
theorem dX13_see_127 : decode cX13_see 127 = .ok (.aload_n 0, 1) := by decide +kernel
theorem dX13_see_128 : decode cX13_see 128 = .ok (.getfield 264, 3) := by decide +kernel
theorem dX13_see_131 : decode cX13_see 131 = .ok (.aload_n 0, 1) := by decide +kernel
theorem dX13_see_132 : decode cX13_see 132 = .ok (.getfield 624, 3) := by decide +kernel
theorem dX13_see_135 : decode cX13_see 135 = .ok (.iload_n 1, 1) := by decide +kernel
theorem dX13_see_136 : decode cX13_see 136 = .ok (.iastore, 1) := by decide +kernel
theorem dX13_see_137 : decode cX13_see 137 = .ok (.aload_n 0, 1) := by decide +kernel
theorem dX13_see_138 : decode cX13_see 138 = .ok (.dup, 1) := by decide +kernel
theorem dX13_see_139 : decode cX13_see 139 = .ok (.getfield 624, 3) := by decide +kernel
theorem dX13_see_142 : decode cX13_see 142 = .ok (.iconst 1, 1) := by decide +kernel
theorem dX13_see_143 : decode cX13_see 143 = .ok (.iadd, 1) := by decide +kernel
theorem dX13_see_144 : decode cX13_see 144 = .ok (.putfield 624, 3) := by decide +kernel
theorem dX13_see_147 : decode cX13_see 147 = .ok (.aload_n 0, 1) := by decide +kernel
theorem dX13_see_148 : decode cX13_see 148 = .ok (.getfield 624, 3) := by decide +kernel
theorem dX13_see_151 : decode cX13_see 151 = .ok (.iconst 1, 1) := by decide +kernel
theorem dX13_see_152 : decode cX13_see 152 = .ok (.isub, 1) := by decide +kernel
theorem dX13_see_153 : decode cX13_see 153 = .ok (.ireturn, 1) := by decide +kernel
theorem dX13_right__0 : decode cX13_right_ 0 = .ok (.iload_n 1, 1) := by decide +kernel
theorem dX13_right__1 : decode cX13_right_ 1 = .ok (.i2l, 1) := by decide +kernel
theorem dX13_right__2 : decode cX13_right_ 2 = .ok (.aload_n 0, 1) := by decide +kernel
theorem dX13_right__3 : decode cX13_right_ 3 = .ok (.getfield 630, 3) := by decide +kernel
theorem dX13_right__6 : decode cX13_right_ 6 = .ok (.i2l, 1) := by decide +kernel
theorem dX13_right__7 : decode cX13_right_ 7 = .ok (.ldc2_w 633, 3) := by decide +kernel
theorem dX13_right__10 : decode cX13_right_ 10 = .ok (.invokestatic 64, 3) := by decide +kernel
theorem dX13_right__13 : decode cX13_right_ 13 = .ok (.ifCond .eq 29, 3) := by decide +kernel
theorem dX13_right__16 : decode cX13_right_ 16 = .ok (.iload_n 2, 1) := by decide +kernel
theorem dX13_right__17 : decode cX13_right_ 17 = .ok (.i2l, 1) := by decide +kernel
theorem dX13_right__18 : decode cX13_right_ 18 = .ok (.lconst 0, 1) := by decide +kernel
theorem dX13_right__19 : decode cX13_right_ 19 = .ok (.aload_n 0, 1) := by decide +kernel
theorem dX13_right__20 : decode cX13_right_ 20 = .ok (.getfield 624, 3) := by decide +kernel
theorem dX13_right__23 : decode cX13_right_ 23 = .ok (.i2l, 1) := by decide +kernel
theorem dX13_right__24 : decode cX13_right_ 24 = .ok (.lconst 1, 1) := by decide +kernel
theorem dX13_right__25 : decode cX13_right_ 25 = .ok (.lsub, 1) := by decide +kernel
theorem dX13_right__26 : decode cX13_right_ 26 = .ok (.invokestatic 64, 3) := by decide +kernel
theorem dX13_right__29 : decode cX13_right_ 29 = .ok (.ifCond .eq 13, 3) := by decide +kernel
theorem dX13_right__32 : decode cX13_right_ 32 = .ok (.aload_n 0, 1) := by decide +kernel
theorem dX13_right__33 : decode cX13_right_ 33 = .ok (.bipush 7, 2) := by decide +kernel
theorem dX13_right__35 : decode cX13_right_ 35 = .ok (.iload_n 3, 1) := by decide +kernel
theorem dX13_right__36 : decode cX13_right_ 36 = .ok (.invokevirtual 310, 3) := by decide +kernel
theorem dX13_right__39 : decode cX13_right_ 39 = .ok (.ifCond .ne 6, 3) := by decide +kernel
theorem dX13_right__42 : decode cX13_right_ 42 = .ok (.bipush (-2), 2) := by decide +kernel
theorem dX13_right__44 : decode cX13_right_ 44 = .ok (.ireturn, 1) := by decide +kernel
theorem dX13_right__45 : decode cX13_right_ 45 = .ok (.aload_n 0, 1) := by decide +kernel
theorem dX13_right__46 : decode cX13_right_ 46 = .ok (.getfield 627, 3) := by decide +kernel
theorem dX13_right__49 : decode cX13_right_ 49 = .ok (.bipush 20, 2) := by decide +kernel
theorem dX13_right__51 : decode cX13_right_ 51 = .ok (.if_icmp .ne 6, 3) := by decide +kernel
theorem dX13_right__54 : decode cX13_right_ 54 = .ok (.bipush (-3), 2) := by decide +kernel
theorem dX13_right__56 : decode cX13_right_ 56 = .ok (.ireturn, 1) := by decide +kernel
theorem dX13_right__57 : decode cX13_right_ 57 = .ok (.aload_n 0, 1) := by decide +kernel
theorem dX13_right__58 : decode cX13_right_ 58 = .ok (.iload_n 1, 1) := by decide +kernel
theorem dX13_right__59 : decode cX13_right_ 59 = .ok (.putfield 630, 3) := by decide +kernel
theorem dX13_right__62 : decode cX13_right_ 62 = .ok (.aload_n 0, 1) := by decide +kernel
theorem dX13_right__63 : decode cX13_right_ 63 = .ok (.getfield 267, 3) := by decide +kernel
theorem dX13_right__66 : decode cX13_right_ 66 = .ok (.aload_n 0, 1) := by decide +kernel
theorem dX13_right__67 : decode cX13_right_ 67 = .ok (.getfield 627, 3) := by decide +kernel
theorem dX13_right__70 : decode cX13_right_ 70 = .ok (.iload_n 2, 1) := by decide +kernel
theorem dX13_right__71 : decode cX13_right_ 71 = .ok (.iastore, 1) := by decide +kernel
theorem dX13_right__72 : decode cX13_right_ 72 = .ok (.aload_n 0, 1) := by decide +kernel
theorem dX13_right__73 : decode cX13_right_ 73 = .ok (.getfield 270, 3) := by decide +kernel
theorem dX13_right__76 : decode cX13_right_ 76 = .ok (.aload_n 0, 1) := by decide +kernel
theorem dX13_right__77 : decode cX13_right_ 77 = .ok (.getfield 627, 3) := by decide +kernel
theorem dX13_right__80 : decode cX13_right_ 80 = .ok (.iload_n 3, 1) := by decide +kernel
theorem dX13_right__81 : decode cX13_right_ 81 = .ok (.iastore, 1) := by decide +kernel
theorem dX13_right__82 : decode cX13_right_ 82 = .ok (.aload_n 0, 1) := by decide +kernel
theorem dX13_right__83 : decode cX13_right_ 83 = .ok (.getfield 273, 3) := by decide +kernel
theorem dX13_right__86 : decode cX13_right_ 86 = .ok (.aload_n 0, 1) := by decide +kernel
theorem dX13_right__87 : decode cX13_right_ 87 = .ok (.getfield 627, 3) := by decide +kernel
theorem dX13_right__90 : decode cX13_right_ 90 = .ok (.iload_n 1, 1) := by decide +kernel
theorem dX13_right__91 : decode cX13_right_ 91 = .ok (.iastore, 1) := by decide +kernel
theorem dX13_right__92 : decode cX13_right_ 92 = .ok (.aload_n 0, 1) := by decide +kernel
theorem dX13_right__93 : decode cX13_right_ 93 = .ok (.dup, 1) := by decide +kernel
theorem dX13_right__94 : decode cX13_right_ 94 = .ok (.getfield 627, 3) := by decide +kernel
theorem dX13_right__97 : decode cX13_right_ 97 = .ok (.iconst 1, 1) := by decide +kernel
theorem dX13_right__98 : decode cX13_right_ 98 = .ok (.iadd, 1) := by decide +kernel
theorem dX13_right__99 : decode cX13_right_ 99 = .ok (.putfield 627, 3) := by decide +kernel
theorem dX13_right__102 : decode cX13_right_ 102 = .ok (.iconst 0, 1) := by decide +kernel
theorem dX13_right__103 : decode cX13_right_ 103 = .ok (.istore 4, 2) := by decide +kernel
theorem dX13_right__105 : decode cX13_right_ 105 = .ok (.iconst 0, 1) := by decide +kernel
theorem dX13_right__106 : decode cX13_right_ 106 = .ok (.istore 5, 2) := by decide +kernel
theorem dX13_right__108 : decode cX13_right_ 108 = .ok (.iload 5, 2) := by decide +kernel
theorem dX13_right__110 : decode cX13_right_ 110 = .ok (.aload_n 0, 1) := by decide +kernel
theorem dX13_right__111 : decode cX13_right_ 111 = .ok (.getfield 627, 3) := by decide +kernel
theorem dX13_right__114 : decode cX13_right_ 114 = .ok (.if_icmp .ge 30, 3) := by decide +kernel
theorem dX13_right__117 : decode cX13_right_ 117 = .ok (.iload 4, 2) := by decide +kernel
theorem dX13_right__119 : decode cX13_right_ 119 = .ok (.aload_n 0, 1) := by decide +kernel
theorem dX13_right__120 : decode cX13_right_ 120 = .ok (.getfield 267, 3) := by decide +kernel
theorem dX13_right__123 : decode cX13_right_ 123 = .ok (.iload 5, 2) := by decide +kernel
theorem dX13_right__125 : decode cX13_right_ 125 = .ok (.iaload, 1) := by decide +kernel
theorem dX13_right__126 : decode cX13_right_ 126 = .ok (.iload_n 2, 1) := by decide +kernel
theorem dX13_right__127 : decode cX13_right_ 127 = .ok (.if_icmp .ne 7, 3) := by decide +kernel
theorem dX13_right__130 : decode cX13_right_ 130 = .ok (.iconst 1, 1) := by decide +kernel
theorem dX13_right__131 : decode cX13_right_ 131 = .ok (.goto 4, 3) := by decide +kernel
theorem dX13_right__134 : decode cX13_right_ 134 = .ok (.iconst 0, 1) := by decide +kernel
theorem dX13_right__135 : decode cX13_right_ 135 = .ok (.iadd, 1) := by decide +kernel
theorem dX13_right__136 : decode cX13_right_ 136 = .ok (.istore 4, 2) := by decide +kernel
theorem dX13_right__138 : decode cX13_right_ 138 = .ok (.iinc 5 1, 3) := by decide +kernel
theorem dX13_right__141 : decode cX13_right_ 141 = .ok (.goto (-33), 3) := by decide +kernel
theorem dX13_right__144 : decode cX13_right_ 144 = .ok (.iload 4, 2) := by decide +kernel
theorem dX13_right__146 : decode cX13_right_ 146 = .ok (.ireturn, 1) := by decide +kernel
theorem dX13_outAsKnown_0 : decode cX13_outAsKnown 0 = .ok (.aload_n 0, 1) := by decide +kernel
theorem dX13_outAsKnown_1 : decode cX13_outAsKnown 1 = .ok (.getfield 261, 3) := by decide +kernel
theorem dX13_outAsKnown_4 : decode cX13_outAsKnown 4 = .ok (.iload_n 1, 1) := by decide +kernel
theorem dX13_outAsKnown_5 : decode cX13_outAsKnown 5 = .ok (.iaload, 1) := by decide +kernel
theorem dX13_outAsKnown_6 : decode cX13_outAsKnown 6 = .ok (.istore_n 3, 1) := by decide +kernel
theorem dX13_outAsKnown_7 : decode cX13_outAsKnown 7 = .ok (.iconst 0, 1) := by decide +kernel
theorem dX13_outAsKnown_8 : decode cX13_outAsKnown 8 = .ok (.istore 4, 2) := by decide +kernel
theorem dX13_outAsKnown_10 : decode cX13_outAsKnown 10 = .ok (.iload 4, 2) := by decide +kernel
theorem dX13_outAsKnown_12 : decode cX13_outAsKnown 12 = .ok (.aload_n 0, 1) := by decide +kernel
theorem dX13_outAsKnown_13 : decode cX13_outAsKnown 13 = .ok (.getfield 627, 3) := by decide +kernel
theorem dX13_outAsKnown_16 : decode cX13_outAsKnown 16 = .ok (.if_icmp .ge 39, 3) := by decide +kernel
theorem dX13_outAsKnown_19 : decode cX13_outAsKnown 19 = .ok (.aload_n 0, 1) := by decide +kernel
theorem dX13_outAsKnown_20 : decode cX13_outAsKnown 20 = .ok (.getfield 267, 3) := by decide +kernel
theorem dX13_outAsKnown_23 : decode cX13_outAsKnown 23 = .ok (.iload 4, 2) := by decide +kernel
theorem dX13_outAsKnown_25 : decode cX13_outAsKnown 25 = .ok (.iaload, 1) := by decide +kernel
theorem dX13_outAsKnown_26 : decode cX13_outAsKnown 26 = .ok (.iload_n 1, 1) := by decide +kernel
theorem dX13_outAsKnown_27 : decode cX13_outAsKnown 27 = .ok (.if_icmp .ne 22, 3) := by decide +kernel
theorem dX13_outAsKnown_30 : decode cX13_outAsKnown 30 = .ok (.aload_n 0, 1) := by decide +kernel
theorem dX13_outAsKnown_31 : decode cX13_outAsKnown 31 = .ok (.getfield 273, 3) := by decide +kernel
theorem dX13_outAsKnown_34 : decode cX13_outAsKnown 34 = .ok (.iload 4, 2) := by decide +kernel
theorem dX13_outAsKnown_36 : decode cX13_outAsKnown 36 = .ok (.iaload, 1) := by decide +kernel
theorem dX13_outAsKnown_37 : decode cX13_outAsKnown 37 = .ok (.iload_n 2, 1) := by decide +kernel
theorem dX13_outAsKnown_38 : decode cX13_outAsKnown 38 = .ok (.if_icmp .gt 11, 3) := by decide +kernel
theorem dX13_outAsKnown_41 : decode cX13_outAsKnown 41 = .ok (.aload_n 0, 1) := by decide +kernel
theorem dX13_outAsKnown_42 : decode cX13_outAsKnown 42 = .ok (.getfield 270, 3) := by decide +kernel
theorem dX13_outAsKnown_45 : decode cX13_outAsKnown 45 = .ok (.iload 4, 2) := by decide +kernel
theorem dX13_outAsKnown_47 : decode cX13_outAsKnown 47 = .ok (.iaload, 1) := by decide +kernel
theorem dX13_outAsKnown_48 : decode cX13_outAsKnown 48 = .ok (.istore_n 3, 1) := by decide +kernel
theorem dX13_outAsKnown_49 : decode cX13_outAsKnown 49 = .ok (.iinc 4 1, 3) := by decide +kernel
theorem dX13_outAsKnown_52 : decode cX13_outAsKnown 52 = .ok (.goto (-42), 3) := by decide +kernel
theorem dX13_outAsKnown_55 : decode cX13_outAsKnown 55 = .ok (.iload_n 3, 1) := by decide +kernel
theorem dX13_outAsKnown_56 : decode cX13_outAsKnown 56 = .ok (.ireturn, 1) := by decide +kernel
theorem dX13_mayBe_0 : decode cX13_mayBe 0 = .ok (.iconst 0, 1) := by decide +kernel
theorem dX13_mayBe_1 : decode cX13_mayBe 1 = .ok (.istore_n 3, 1) := by decide +kernel
theorem dX13_mayBe_2 : decode cX13_mayBe 2 = .ok (.iload_n 3, 1) := by decide +kernel
theorem dX13_mayBe_3 : decode cX13_mayBe 3 = .ok (.aload_n 0, 1) := by decide +kernel
theorem dX13_mayBe_4 : decode cX13_mayBe 4 = .ok (.getfield 624, 3) := by decide +kernel
theorem dX13_mayBe_7 : decode cX13_mayBe 7 = .ok (.if_icmp .ge 44, 3) := by decide +kernel
theorem dX13_mayBe_10 : decode cX13_mayBe 10 = .ok (.aload_n 0, 1) := by decide +kernel
theorem dX13_mayBe_11 : decode cX13_mayBe 11 = .ok (.getfield 264, 3) := by decide +kernel
theorem dX13_mayBe_14 : decode cX13_mayBe 14 = .ok (.iload_n 3, 1) := by decide +kernel
theorem dX13_mayBe_15 : decode cX13_mayBe 15 = .ok (.iaload, 1) := by decide +kernel
theorem dX13_mayBe_16 : decode cX13_mayBe 16 = .ok (.iload_n 2, 1) := by decide +kernel
theorem dX13_mayBe_17 : decode cX13_mayBe 17 = .ok (.if_icmp .gt 28, 3) := by decide +kernel
theorem dX13_mayBe_20 : decode cX13_mayBe 20 = .ok (.aload_n 0, 1) := by decide +kernel
theorem dX13_mayBe_21 : decode cX13_mayBe 21 = .ok (.bipush 7, 2) := by decide +kernel
theorem dX13_mayBe_23 : decode cX13_mayBe 23 = .ok (.aload_n 0, 1) := by decide +kernel
theorem dX13_mayBe_24 : decode cX13_mayBe 24 = .ok (.getfield 258, 3) := by decide +kernel
theorem dX13_mayBe_27 : decode cX13_mayBe 27 = .ok (.iload_n 3, 1) := by decide +kernel
theorem dX13_mayBe_28 : decode cX13_mayBe 28 = .ok (.iaload, 1) := by decide +kernel
theorem dX13_mayBe_29 : decode cX13_mayBe 29 = .ok (.iconst 0, 1) := by decide +kernel
theorem dX13_mayBe_30 : decode cX13_mayBe 30 = .ok (.iload_n 1, 1) := by decide +kernel
theorem dX13_mayBe_31 : decode cX13_mayBe 31 = .ok (.invokevirtual 314, 3) := by decide +kernel
theorem dX13_mayBe_34 : decode cX13_mayBe 34 = .ok (.aload_n 0, 1) := by decide +kernel
theorem dX13_mayBe_35 : decode cX13_mayBe 35 = .ok (.iload_n 3, 1) := by decide +kernel
theorem dX13_mayBe_36 : decode cX13_mayBe 36 = .ok (.iload_n 2, 1) := by decide +kernel
theorem dX13_mayBe_37 : decode cX13_mayBe 37 = .ok (.invokevirtual 637, 3) := by decide +kernel
theorem dX13_mayBe_40 : decode cX13_mayBe 40 = .ok (.if_icmp .eq 5, 3) := by decide +kernel
theorem dX13_mayBe_43 : decode cX13_mayBe 43 = .ok (.iconst 0, 1) := by decide +kernel
theorem dX13_mayBe_44 : decode cX13_mayBe 44 = .ok (.ireturn, 1) := by decide +kernel
theorem dX13_mayBe_45 : decode cX13_mayBe 45 = .ok (.iinc 3 1, 3) := by decide +kernel
theorem dX13_mayBe_48 : decode cX13_mayBe 48 = .ok (.goto (-46), 3) := by decide +kernel
theorem dX13_mayBe_51 : decode cX13_mayBe 51 = .ok (.iconst 1, 1) := by decide +kernel
theorem dX13_mayBe_52 : decode cX13_mayBe 52 = .ok (.ireturn, 1) := by decide +kernel
theorem dX13_fitOf_0 : decode cX13_fitOf 0 = .ok (.aload_n 0, 1) := by decide +kernel
theorem dX13_fitOf_1 : decode cX13_fitOf 1 = .ok (.bipush 40, 2) := by decide +kernel
theorem dX13_fitOf_3 : decode cX13_fitOf 3 = .ok (.iload_n 1, 1) := by decide +kernel
theorem dX13_fitOf_4 : decode cX13_fitOf 4 = .ok (.invokevirtual 640, 3) := by decide +kernel
theorem dX13_fitOf_7 : decode cX13_fitOf 7 = .ok (.ifCond .eq 9, 3) := by decide +kernel
theorem dX13_fitOf_10 : decode cX13_fitOf 10 = .ok (.ldc2_w 643, 3) := by decide +kernel
theorem dX13_fitOf_13 : decode cX13_fitOf 13 = .ok (.goto 4, 3) := by decide +kernel
theorem dX13_fitOf_16 : decode cX13_fitOf 16 = .ok (.lconst 0, 1) := by decide +kernel
theorem dX13_fitOf_17 : decode cX13_fitOf 17 = .ok (.lstore_n 2, 1) := by decide +kernel
theorem dX13_fitOf_18 : decode cX13_fitOf 18 = .ok (.iconst 0, 1) := by decide +kernel
theorem dX13_fitOf_19 : decode cX13_fitOf 19 = .ok (.istore 4, 2) := by decide +kernel
theorem dX13_fitOf_21 : decode cX13_fitOf 21 = .ok (.iload 4, 2) := by decide +kernel
theorem dX13_fitOf_23 : decode cX13_fitOf 23 = .ok (.aload_n 0, 1) := by decide +kernel
theorem dX13_fitOf_24 : decode cX13_fitOf 24 = .ok (.getfield 86, 3) := by decide +kernel
theorem dX13_fitOf_27 : decode cX13_fitOf 27 = .ok (.bipush 7, 2) := by decide +kernel
theorem dX13_fitOf_29 : decode cX13_fitOf 29 = .ok (.iaload, 1) := by decide +kernel
theorem dX13_fitOf_30 : decode cX13_fitOf 30 = .ok (.if_icmp .ge 26, 3) := by decide +kernel
theorem dX13_fitOf_33 : decode cX13_fitOf 33 = .ok (.aload_n 0, 1) := by decide +kernel
theorem dX13_fitOf_34 : decode cX13_fitOf 34 = .ok (.iload 4, 2) := by decide +kernel
theorem dX13_fitOf_36 : decode cX13_fitOf 36 = .ok (.iload_n 1, 1) := by decide +kernel
theorem dX13_fitOf_37 : decode cX13_fitOf 37 = .ok (.invokevirtual 640, 3) := by decide +kernel
theorem dX13_fitOf_40 : decode cX13_fitOf 40 = .ok (.ifCond .eq 10, 3) := by decide +kernel
theorem dX13_fitOf_43 : decode cX13_fitOf 43 = .ok (.lload_n 2, 1) := by decide +kernel
theorem dX13_fitOf_44 : decode cX13_fitOf 44 = .ok (.lconst 1, 1) := by decide +kernel
theorem dX13_fitOf_45 : decode cX13_fitOf 45 = .ok (.iload 4, 2) := by decide +kernel
theorem dX13_fitOf_47 : decode cX13_fitOf 47 = .ok (.lshl, 1) := by decide +kernel
theorem dX13_fitOf_48 : decode cX13_fitOf 48 = .ok (.lor, 1) := by decide +kernel
theorem dX13_fitOf_49 : decode cX13_fitOf 49 = .ok (.lstore_n 2, 1) := by decide +kernel
theorem dX13_fitOf_50 : decode cX13_fitOf 50 = .ok (.iinc 4 1, 3) := by decide +kernel
theorem dX13_fitOf_53 : decode cX13_fitOf 53 = .ok (.goto (-32), 3) := by decide +kernel
theorem dX13_fitOf_56 : decode cX13_fitOf 56 = .ok (.lload_n 2, 1) := by decide +kernel
theorem dX13_fitOf_57 : decode cX13_fitOf 57 = .ok (.lreturn, 1) := by decide +kernel
theorem dX13_fit_0 : decode cX13_fit 0 = .ok (.iload_n 1, 1) := by decide +kernel
theorem dX13_fit_1 : decode cX13_fit 1 = .ok (.i2l, 1) := by decide +kernel
theorem dX13_fit_2 : decode cX13_fit 2 = .ok (.lconst 0, 1) := by decide +kernel
theorem dX13_fit_3 : decode cX13_fit 3 = .ok (.ldc2_w 633, 3) := by decide +kernel
theorem dX13_fit_6 : decode cX13_fit 6 = .ok (.invokestatic 64, 3) := by decide +kernel
theorem dX13_fit_9 : decode cX13_fit 9 = .ok (.ifCond .ne 9, 3) := by decide +kernel
theorem dX13_fit_12 : decode cX13_fit 12 = .ok (.ldc2_w 324, 3) := by decide +kernel
theorem dX13_fit_15 : decode cX13_fit 15 = .ok (.goto 21, 3) := by decide +kernel
theorem dX13_fit_18 : decode cX13_fit 18 = .ok (.aload_n 0, 1) := by decide +kernel
theorem dX13_fit_19 : decode cX13_fit 19 = .ok (.getfield 620, 3) := by decide +kernel
theorem dX13_fit_22 : decode cX13_fit 22 = .ok (.ifCond .eq 11, 3) := by decide +kernel
theorem dX13_fit_25 : decode cX13_fit 25 = .ok (.aload_n 0, 1) := by decide +kernel
theorem dX13_fit_26 : decode cX13_fit 26 = .ok (.iload_n 1, 1) := by decide +kernel
theorem dX13_fit_27 : decode cX13_fit 27 = .ok (.invokevirtual 645, 3) := by decide +kernel
theorem dX13_fit_30 : decode cX13_fit 30 = .ok (.goto 6, 3) := by decide +kernel
theorem dX13_fit_33 : decode cX13_fit 33 = .ok (.ldc2_w 649, 3) := by decide +kernel
theorem dX13_fit_36 : decode cX13_fit 36 = .ok (.lreturn, 1) := by decide +kernel
theorem dX13_look__0 : decode cX13_look_ 0 = .ok (.aload_n 0, 1) := by decide +kernel
theorem dX13_look__1 : decode cX13_look_ 1 = .ok (.getfield 620, 3) := by decide +kernel
theorem dX13_look__4 : decode cX13_look_ 4 = .ok (.ifCond .ne 6, 3) := by decide +kernel
theorem dX13_look__7 : decode cX13_look_ 7 = .ok (.bipush (-4), 2) := by decide +kernel
theorem dX13_look__9 : decode cX13_look_ 9 = .ok (.ireturn, 1) := by decide +kernel
theorem dX13_look__10 : decode cX13_look_ 10 = .ok (.aload_n 0, 1) := by decide +kernel
theorem dX13_look__11 : decode cX13_look_ 11 = .ok (.sipush 999, 3) := by decide +kernel
theorem dX13_look__14 : decode cX13_look_ 14 = .ok (.invokevirtual 645, 3) := by decide +kernel
theorem dX13_look__17 : decode cX13_look_ 17 = .ok (.lstore_n 1, 1) := by decide +kernel
theorem dX13_look__18 : decode cX13_look_ 18 = .ok (.iconst 0, 1) := by decide +kernel
theorem dX13_look__19 : decode cX13_look_ 19 = .ok (.istore_n 3, 1) := by decide +kernel
theorem dX13_look__20 : decode cX13_look_ 20 = .ok (.iconst 0, 1) := by decide +kernel
theorem dX13_look__21 : decode cX13_look_ 21 = .ok (.istore 4, 2) := by decide +kernel
theorem dX13_look__23 : decode cX13_look_ 23 = .ok (.iload 4, 2) := by decide +kernel
theorem dX13_look__25 : decode cX13_look_ 25 = .ok (.bipush 40, 2) := by decide +kernel
theorem dX13_look__27 : decode cX13_look_ 27 = .ok (.if_icmp .gt 19, 3) := by decide +kernel
theorem dX13_look__30 : decode cX13_look_ 30 = .ok (.iload_n 3, 1) := by decide +kernel
theorem dX13_look__31 : decode cX13_look_ 31 = .ok (.lload_n 1, 1) := by decide +kernel
theorem dX13_look__32 : decode cX13_look_ 32 = .ok (.iload 4, 2) := by decide +kernel
theorem dX13_look__34 : decode cX13_look_ 34 = .ok (.lshr, 1) := by decide +kernel
theorem dX13_look__35 : decode cX13_look_ 35 = .ok (.lconst 1, 1) := by decide +kernel
theorem dX13_look__36 : decode cX13_look_ 36 = .ok (.land, 1) := by decide +kernel
theorem dX13_look__37 : decode cX13_look_ 37 = .ok (.l2i, 1) := by decide +kernel
theorem dX13_look__38 : decode cX13_look_ 38 = .ok (.iadd, 1) := by decide +kernel
theorem dX13_look__39 : decode cX13_look_ 39 = .ok (.istore_n 3, 1) := by decide +kernel
theorem dX13_look__40 : decode cX13_look_ 40 = .ok (.iinc 4 1, 3) := by decide +kernel
theorem dX13_look__43 : decode cX13_look_ 43 = .ok (.goto (-20), 3) := by decide +kernel
theorem dX13_look__46 : decode cX13_look_ 46 = .ok (.iconst (-1), 1) := by decide +kernel
theorem dX13_look__47 : decode cX13_look_ 47 = .ok (.istore 4, 2) := by decide +kernel
theorem dX13_look__49 : decode cX13_look_ 49 = .ok (.iconst 0, 1) := by decide +kernel
theorem dX13_look__50 : decode cX13_look_ 50 = .ok (.istore 5, 2) := by decide +kernel
theorem dX13_look__52 : decode cX13_look_ 52 = .ok (.iload 5, 2) := by decide +kernel
theorem dX13_look__54 : decode cX13_look_ 54 = .ok (.iconst 1, 1) := by decide +kernel
theorem dX13_look__55 : decode cX13_look_ 55 = .ok (.aload_n 0, 1) := by decide +kernel
theorem dX13_look__56 : decode cX13_look_ 56 = .ok (.getfield 99, 3) := by decide +kernel
theorem dX13_look__59 : decode cX13_look_ 59 = .ok (.bipush 7, 2) := by decide +kernel
theorem dX13_look__61 : decode cX13_look_ 61 = .ok (.iaload, 1) := by decide +kernel
theorem dX13_look__62 : decode cX13_look_ 62 = .ok (.ishl, 1) := by decide +kernel
theorem dX13_look__63 : decode cX13_look_ 63 = .ok (.if_icmp .ge 127, 3) := by decide +kernel
theorem dX13_look__66 : decode cX13_look_ 66 = .ok (.iconst 0, 1) := by decide +kernel
theorem dX13_look__67 : decode cX13_look_ 67 = .ok (.istore 6, 2) := by decide +kernel
theorem dX13_look__69 : decode cX13_look_ 69 = .ok (.iload 6, 2) := by decide +kernel
theorem dX13_look__71 : decode cX13_look_ 71 = .ok (.iconst 1, 1) := by decide +kernel
theorem dX13_look__72 : decode cX13_look_ 72 = .ok (.aload_n 0, 1) := by decide +kernel
theorem dX13_look__73 : decode cX13_look_ 73 = .ok (.getfield 99, 3) := by decide +kernel
theorem dX13_look__76 : decode cX13_look_ 76 = .ok (.bipush 7, 2) := by decide +kernel
theorem dX13_look__78 : decode cX13_look_ 78 = .ok (.iaload, 1) := by decide +kernel
theorem dX13_look__79 : decode cX13_look_ 79 = .ok (.ishl, 1) := by decide +kernel
theorem dX13_look__80 : decode cX13_look_ 80 = .ok (.if_icmp .ge 17, 3) := by decide +kernel
theorem dX13_look__83 : decode cX13_look_ 83 = .ok (.aload_n 0, 1) := by decide +kernel
theorem dX13_look__84 : decode cX13_look_ 84 = .ok (.getfield 276, 3) := by decide +kernel
theorem dX13_look__87 : decode cX13_look_ 87 = .ok (.iload 6, 2) := by decide +kernel
theorem dX13_look__89 : decode cX13_look_ 89 = .ok (.iconst 0, 1) := by decide +kernel
theorem dX13_look__90 : decode cX13_look_ 90 = .ok (.iastore, 1) := by decide +kernel
theorem dX13_look__91 : decode cX13_look_ 91 = .ok (.iinc 6 1, 3) := by decide +kernel
theorem dX13_look__94 : decode cX13_look_ 94 = .ok (.goto (-25), 3) := by decide +kernel
theorem dX13_look__97 : decode cX13_look_ 97 = .ok (.iconst 0, 1) := by decide +kernel
theorem dX13_look__98 : decode cX13_look_ 98 = .ok (.istore 6, 2) := by decide +kernel
theorem dX13_look__100 : decode cX13_look_ 100 = .ok (.iconst 0, 1) := by decide +kernel
theorem dX13_look__101 : decode cX13_look_ 101 = .ok (.istore 7, 2) := by decide +kernel
theorem dX13_look__103 : decode cX13_look_ 103 = .ok (.iload 7, 2) := by decide +kernel
theorem dX13_look__105 : decode cX13_look_ 105 = .ok (.bipush 40, 2) := by decide +kernel
theorem dX13_look__107 : decode cX13_look_ 107 = .ok (.if_icmp .gt 61, 3) := by decide +kernel
theorem dX13_look__110 : decode cX13_look_ 110 = .ok (.lload_n 1, 1) := by decide +kernel
theorem dX13_look__111 : decode cX13_look_ 111 = .ok (.iload 7, 2) := by decide +kernel
theorem dX13_look__113 : decode cX13_look_ 113 = .ok (.lshr, 1) := by decide +kernel
theorem dX13_look__114 : decode cX13_look_ 114 = .ok (.lconst 1, 1) := by decide +kernel
theorem dX13_look__115 : decode cX13_look_ 115 = .ok (.land, 1) := by decide +kernel
theorem dX13_look__116 : decode cX13_look_ 116 = .ok (.lconst 0, 1) := by decide +kernel
theorem dX13_look__117 : decode cX13_look_ 117 = .ok (.lcmp, 1) := by decide +kernel
theorem dX13_look__118 : decode cX13_look_ 118 = .ok (.ifCond .ne 6, 3) := by decide +kernel
theorem dX13_look__121 : decode cX13_look_ 121 = .ok (.goto 41, 3) := by decide +kernel
theorem dX13_look__124 : decode cX13_look_ 124 = .ok (.aload_n 0, 1) := by decide +kernel
theorem dX13_look__125 : decode cX13_look_ 125 = .ok (.bipush 7, 2) := by decide +kernel
theorem dX13_look__127 : decode cX13_look_ 127 = .ok (.iload 5, 2) := by decide +kernel
theorem dX13_look__129 : decode cX13_look_ 129 = .ok (.iconst 0, 1) := by decide +kernel
theorem dX13_look__130 : decode cX13_look_ 130 = .ok (.iload 7, 2) := by decide +kernel
theorem dX13_look__132 : decode cX13_look_ 132 = .ok (.invokevirtual 314, 3) := by decide +kernel
theorem dX13_look__135 : decode cX13_look_ 135 = .ok (.istore 8, 2) := by decide +kernel
theorem dX13_look__137 : decode cX13_look_ 137 = .ok (.aload_n 0, 1) := by decide +kernel
theorem dX13_look__138 : decode cX13_look_ 138 = .ok (.getfield 276, 3) := by decide +kernel
theorem dX13_look__141 : decode cX13_look_ 141 = .ok (.iload 8, 2) := by decide +kernel
theorem dX13_look__143 : decode cX13_look_ 143 = .ok (.dup2, 1) := by decide +kernel
theorem dX13_look__144 : decode cX13_look_ 144 = .ok (.iaload, 1) := by decide +kernel
theorem dX13_look__145 : decode cX13_look_ 145 = .ok (.iconst 1, 1) := by decide +kernel
theorem dX13_look__146 : decode cX13_look_ 146 = .ok (.iadd, 1) := by decide +kernel
theorem dX13_look__147 : decode cX13_look_ 147 = .ok (.iastore, 1) := by decide +kernel
theorem dX13_look__148 : decode cX13_look_ 148 = .ok (.iload 6, 2) := by decide +kernel
theorem dX13_look__150 : decode cX13_look_ 150 = .ok (.aload_n 0, 1) := by decide +kernel
theorem dX13_look__151 : decode cX13_look_ 151 = .ok (.getfield 276, 3) := by decide +kernel
theorem dX13_look__154 : decode cX13_look_ 154 = .ok (.iload 8, 2) := by decide +kernel
theorem dX13_look__156 : decode cX13_look_ 156 = .ok (.iaload, 1) := by decide +kernel
theorem dX13_look__157 : decode cX13_look_ 157 = .ok (.invokestatic 366, 3) := by decide +kernel
theorem dX13_look__160 : decode cX13_look_ 160 = .ok (.istore 6, 2) := by decide +kernel
theorem dX13_look__162 : decode cX13_look_ 162 = .ok (.iinc 7 1, 3) := by decide +kernel
theorem dX13_look__165 : decode cX13_look_ 165 = .ok (.goto (-62), 3) := by decide +kernel
theorem dX13_look__168 : decode cX13_look_ 168 = .ok (.iload 6, 2) := by decide +kernel
theorem dX13_look__170 : decode cX13_look_ 170 = .ok (.iload_n 3, 1) := by decide +kernel
theorem dX13_look__171 : decode cX13_look_ 171 = .ok (.if_icmp .lt 6, 3) := by decide +kernel
theorem dX13_look__174 : decode cX13_look_ 174 = .ok (.goto 10, 3) := by decide +kernel
theorem dX13_look__177 : decode cX13_look_ 177 = .ok (.iload 6, 2) := by decide +kernel
theorem dX13_look__179 : decode cX13_look_ 179 = .ok (.istore_n 3, 1) := by decide +kernel
theorem dX13_look__180 : decode cX13_look_ 180 = .ok (.iload 5, 2) := by decide +kernel
theorem dX13_look__182 : decode cX13_look_ 182 = .ok (.istore 4, 2) := by decide +kernel
theorem dX13_look__184 : decode cX13_look_ 184 = .ok (.iinc 5 1, 3) := by decide +kernel
theorem dX13_look__187 : decode cX13_look_ 187 = .ok (.goto (-135), 3) := by decide +kernel
theorem dX13_look__190 : decode cX13_look_ 190 = .ok (.iload 4, 2) := by decide +kernel
theorem dX13_look__192 : decode cX13_look_ 192 = .ok (.ireturn, 1) := by decide +kernel
theorem dX13_count_0 : decode cX13_count 0 = .ok (.iload_n 1, 1) := by decide +kernel
theorem dX13_count_1 : decode cX13_count 1 = .ok (.tableswitch 96 0 8 #[51, 56, 61, 66, 71, 76, 81, 86, 91], 51) := by decide +kernel
theorem dX13_count_52 : decode cX13_count 52 = .ok (.aload_n 0, 1) := by decide +kernel
theorem dX13_count_53 : decode cX13_count 53 = .ok (.getfield 497, 3) := by decide +kernel
theorem dX13_count_56 : decode cX13_count 56 = .ok (.ireturn, 1) := by decide +kernel
theorem dX13_count_57 : decode cX13_count 57 = .ok (.aload_n 0, 1) := by decide +kernel
theorem dX13_count_58 : decode cX13_count 58 = .ok (.getfield 575, 3) := by decide +kernel
theorem dX13_count_61 : decode cX13_count 61 = .ok (.ireturn, 1) := by decide +kernel
theorem dX13_count_62 : decode cX13_count 62 = .ok (.aload_n 0, 1) := by decide +kernel
theorem dX13_count_63 : decode cX13_count 63 = .ok (.getfield 578, 3) := by decide +kernel
theorem dX13_count_66 : decode cX13_count 66 = .ok (.ireturn, 1) := by decide +kernel
theorem dX13_count_67 : decode cX13_count 67 = .ok (.aload_n 0, 1) := by decide +kernel
theorem dX13_count_68 : decode cX13_count 68 = .ok (.invokevirtual 603, 3) := by decide +kernel
theorem dX13_count_71 : decode cX13_count 71 = .ok (.ireturn, 1) := by decide +kernel
theorem dX13_count_72 : decode cX13_count 72 = .ok (.aload_n 0, 1) := by decide +kernel
theorem dX13_count_73 : decode cX13_count 73 = .ok (.getfield 279, 3) := by decide +kernel
theorem dX13_count_76 : decode cX13_count 76 = .ok (.ireturn, 1) := by decide +kernel
theorem dX13_count_77 : decode cX13_count 77 = .ok (.aload_n 0, 1) := by decide +kernel
theorem dX13_count_78 : decode cX13_count 78 = .ok (.getfield 282, 3) := by decide +kernel
theorem dX13_count_81 : decode cX13_count 81 = .ok (.ireturn, 1) := by decide +kernel
theorem dX13_count_82 : decode cX13_count 82 = .ok (.aload_n 0, 1) := by decide +kernel
theorem dX13_count_83 : decode cX13_count 83 = .ok (.getfield 624, 3) := by decide +kernel
theorem dX13_count_86 : decode cX13_count 86 = .ok (.ireturn, 1) := by decide +kernel
theorem dX13_count_87 : decode cX13_count 87 = .ok (.aload_n 0, 1) := by decide +kernel
theorem dX13_count_88 : decode cX13_count 88 = .ok (.getfield 627, 3) := by decide +kernel
theorem dX13_count_91 : decode cX13_count 91 = .ok (.ireturn, 1) := by decide +kernel
theorem dX13_count_92 : decode cX13_count 92 = .ok (.aload_n 0, 1) := by decide +kernel
theorem dX13_count_93 : decode cX13_count 93 = .ok (.getfield 83, 3) := by decide +kernel
theorem dX13_count_96 : decode cX13_count 96 = .ok (.ireturn, 1) := by decide +kernel
theorem dX13_count_97 : decode cX13_count 97 = .ok (.iconst (-1), 1) := by decide +kernel
theorem dX13_count_98 : decode cX13_count 98 = .ok (.ireturn, 1) := by decide +kernel
theorem dJ6_bitCount_0f7a4_0 : decode cJ6_bitCount_0f7a4 0 = .ok (.iload_n 0, 1) := by decide +kernel
theorem dJ6_bitCount_0f7a4_1 : decode cJ6_bitCount_0f7a4 1 = .ok (.iload_n 0, 1) := by decide +kernel
theorem dJ6_bitCount_0f7a4_2 : decode cJ6_bitCount_0f7a4 2 = .ok (.iconst 1, 1) := by decide +kernel
theorem dJ6_bitCount_0f7a4_3 : decode cJ6_bitCount_0f7a4 3 = .ok (.iushr, 1) := by decide +kernel
theorem dJ6_bitCount_0f7a4_4 : decode cJ6_bitCount_0f7a4 4 = .ok (.ldc_w 265, 3) := by decide +kernel
theorem dJ6_bitCount_0f7a4_7 : decode cJ6_bitCount_0f7a4 7 = .ok (.iand, 1) := by decide +kernel
theorem dJ6_bitCount_0f7a4_8 : decode cJ6_bitCount_0f7a4 8 = .ok (.isub, 1) := by decide +kernel
theorem dJ6_bitCount_0f7a4_9 : decode cJ6_bitCount_0f7a4 9 = .ok (.istore_n 0, 1) := by decide +kernel
theorem dJ6_bitCount_0f7a4_10 : decode cJ6_bitCount_0f7a4 10 = .ok (.iload_n 0, 1) := by decide +kernel
theorem dJ6_bitCount_0f7a4_11 : decode cJ6_bitCount_0f7a4 11 = .ok (.ldc_w 266, 3) := by decide +kernel
theorem dJ6_bitCount_0f7a4_14 : decode cJ6_bitCount_0f7a4 14 = .ok (.iand, 1) := by decide +kernel
theorem dJ6_bitCount_0f7a4_15 : decode cJ6_bitCount_0f7a4 15 = .ok (.iload_n 0, 1) := by decide +kernel
theorem dJ6_bitCount_0f7a4_16 : decode cJ6_bitCount_0f7a4 16 = .ok (.iconst 2, 1) := by decide +kernel
theorem dJ6_bitCount_0f7a4_17 : decode cJ6_bitCount_0f7a4 17 = .ok (.iushr, 1) := by decide +kernel
theorem dJ6_bitCount_0f7a4_18 : decode cJ6_bitCount_0f7a4 18 = .ok (.ldc_w 266, 3) := by decide +kernel
theorem dJ6_bitCount_0f7a4_21 : decode cJ6_bitCount_0f7a4 21 = .ok (.iand, 1) := by decide +kernel
theorem dJ6_bitCount_0f7a4_22 : decode cJ6_bitCount_0f7a4 22 = .ok (.iadd, 1) := by decide +kernel
theorem dJ6_bitCount_0f7a4_23 : decode cJ6_bitCount_0f7a4 23 = .ok (.istore_n 0, 1) := by decide +kernel
theorem dJ6_bitCount_0f7a4_24 : decode cJ6_bitCount_0f7a4 24 = .ok (.iload_n 0, 1) := by decide +kernel
theorem dJ6_bitCount_0f7a4_25 : decode cJ6_bitCount_0f7a4 25 = .ok (.iload_n 0, 1) := by decide +kernel
theorem dJ6_bitCount_0f7a4_26 : decode cJ6_bitCount_0f7a4 26 = .ok (.iconst 4, 1) := by decide +kernel
theorem dJ6_bitCount_0f7a4_27 : decode cJ6_bitCount_0f7a4 27 = .ok (.iushr, 1) := by decide +kernel
theorem dJ6_bitCount_0f7a4_28 : decode cJ6_bitCount_0f7a4 28 = .ok (.iadd, 1) := by decide +kernel
theorem dJ6_bitCount_0f7a4_29 : decode cJ6_bitCount_0f7a4 29 = .ok (.ldc_w 267, 3) := by decide +kernel
theorem dJ6_bitCount_0f7a4_32 : decode cJ6_bitCount_0f7a4 32 = .ok (.iand, 1) := by decide +kernel
theorem dJ6_bitCount_0f7a4_33 : decode cJ6_bitCount_0f7a4 33 = .ok (.istore_n 0, 1) := by decide +kernel
theorem dJ6_bitCount_0f7a4_34 : decode cJ6_bitCount_0f7a4 34 = .ok (.iload_n 0, 1) := by decide +kernel
theorem dJ6_bitCount_0f7a4_35 : decode cJ6_bitCount_0f7a4 35 = .ok (.iload_n 0, 1) := by decide +kernel
theorem dJ6_bitCount_0f7a4_36 : decode cJ6_bitCount_0f7a4 36 = .ok (.bipush 8, 2) := by decide +kernel
theorem dJ6_bitCount_0f7a4_38 : decode cJ6_bitCount_0f7a4 38 = .ok (.iushr, 1) := by decide +kernel
theorem dJ6_bitCount_0f7a4_39 : decode cJ6_bitCount_0f7a4 39 = .ok (.iadd, 1) := by decide +kernel
theorem dJ6_bitCount_0f7a4_40 : decode cJ6_bitCount_0f7a4 40 = .ok (.istore_n 0, 1) := by decide +kernel
theorem dJ6_bitCount_0f7a4_41 : decode cJ6_bitCount_0f7a4 41 = .ok (.iload_n 0, 1) := by decide +kernel
theorem dJ6_bitCount_0f7a4_42 : decode cJ6_bitCount_0f7a4 42 = .ok (.iload_n 0, 1) := by decide +kernel
theorem dJ6_bitCount_0f7a4_43 : decode cJ6_bitCount_0f7a4 43 = .ok (.bipush 16, 2) := by decide +kernel
theorem dJ6_bitCount_0f7a4_45 : decode cJ6_bitCount_0f7a4 45 = .ok (.iushr, 1) := by decide +kernel
theorem dJ6_bitCount_0f7a4_46 : decode cJ6_bitCount_0f7a4 46 = .ok (.iadd, 1) := by decide +kernel
theorem dJ6_bitCount_0f7a4_47 : decode cJ6_bitCount_0f7a4 47 = .ok (.istore_n 0, 1) := by decide +kernel
theorem dJ6_bitCount_0f7a4_48 : decode cJ6_bitCount_0f7a4 48 = .ok (.iload_n 0, 1) := by decide +kernel
theorem dJ6_bitCount_0f7a4_49 : decode cJ6_bitCount_0f7a4 49 = .ok (.bipush 63, 2) := by decide +kernel
theorem dJ6_bitCount_0f7a4_51 : decode cJ6_bitCount_0f7a4 51 = .ok (.iand, 1) := by decide +kernel
theorem dJ6_bitCount_0f7a4_52 : decode cJ6_bitCount_0f7a4 52 = .ok (.ireturn, 1) := by decide +kernel
theorem dJ13_bitCount_95d88_0 : decode cJ13_bitCount_95d88 0 = .ok (.lload_n 0, 1) := by decide +kernel
theorem dJ13_bitCount_95d88_1 : decode cJ13_bitCount_95d88 1 = .ok (.lload_n 0, 1) := by decide +kernel
theorem dJ13_bitCount_95d88_2 : decode cJ13_bitCount_95d88 2 = .ok (.iconst 1, 1) := by decide +kernel
theorem dJ13_bitCount_95d88_3 : decode cJ13_bitCount_95d88 3 = .ok (.lushr, 1) := by decide +kernel
theorem dJ13_bitCount_95d88_4 : decode cJ13_bitCount_95d88 4 = .ok (.ldc2_w 314, 3) := by decide +kernel
theorem dJ13_bitCount_95d88_7 : decode cJ13_bitCount_95d88 7 = .ok (.land, 1) := by decide +kernel
theorem dJ13_bitCount_95d88_8 : decode cJ13_bitCount_95d88 8 = .ok (.lsub, 1) := by decide +kernel
theorem dJ13_bitCount_95d88_9 : decode cJ13_bitCount_95d88 9 = .ok (.lstore_n 0, 1) := by decide +kernel
theorem dJ13_bitCount_95d88_10 : decode cJ13_bitCount_95d88 10 = .ok (.lload_n 0, 1) := by decide +kernel
theorem dJ13_bitCount_95d88_11 : decode cJ13_bitCount_95d88 11 = .ok (.ldc2_w 316, 3) := by decide +kernel
theorem dJ13_bitCount_95d88_14 : decode cJ13_bitCount_95d88 14 = .ok (.land, 1) := by decide +kernel
theorem dJ13_bitCount_95d88_15 : decode cJ13_bitCount_95d88 15 = .ok (.lload_n 0, 1) := by decide +kernel
theorem dJ13_bitCount_95d88_16 : decode cJ13_bitCount_95d88 16 = .ok (.iconst 2, 1) := by decide +kernel
theorem dJ13_bitCount_95d88_17 : decode cJ13_bitCount_95d88 17 = .ok (.lushr, 1) := by decide +kernel
theorem dJ13_bitCount_95d88_18 : decode cJ13_bitCount_95d88 18 = .ok (.ldc2_w 316, 3) := by decide +kernel
theorem dJ13_bitCount_95d88_21 : decode cJ13_bitCount_95d88 21 = .ok (.land, 1) := by decide +kernel
theorem dJ13_bitCount_95d88_22 : decode cJ13_bitCount_95d88 22 = .ok (.ladd, 1) := by decide +kernel
theorem dJ13_bitCount_95d88_23 : decode cJ13_bitCount_95d88 23 = .ok (.lstore_n 0, 1) := by decide +kernel
theorem dJ13_bitCount_95d88_24 : decode cJ13_bitCount_95d88 24 = .ok (.lload_n 0, 1) := by decide +kernel
theorem dJ13_bitCount_95d88_25 : decode cJ13_bitCount_95d88 25 = .ok (.lload_n 0, 1) := by decide +kernel
theorem dJ13_bitCount_95d88_26 : decode cJ13_bitCount_95d88 26 = .ok (.iconst 4, 1) := by decide +kernel
theorem dJ13_bitCount_95d88_27 : decode cJ13_bitCount_95d88 27 = .ok (.lushr, 1) := by decide +kernel
theorem dJ13_bitCount_95d88_28 : decode cJ13_bitCount_95d88 28 = .ok (.ladd, 1) := by decide +kernel
theorem dJ13_bitCount_95d88_29 : decode cJ13_bitCount_95d88 29 = .ok (.ldc2_w 318, 3) := by decide +kernel
theorem dJ13_bitCount_95d88_32 : decode cJ13_bitCount_95d88 32 = .ok (.land, 1) := by decide +kernel
theorem dJ13_bitCount_95d88_33 : decode cJ13_bitCount_95d88 33 = .ok (.lstore_n 0, 1) := by decide +kernel
theorem dJ13_bitCount_95d88_34 : decode cJ13_bitCount_95d88 34 = .ok (.lload_n 0, 1) := by decide +kernel
theorem dJ13_bitCount_95d88_35 : decode cJ13_bitCount_95d88 35 = .ok (.lload_n 0, 1) := by decide +kernel
theorem dJ13_bitCount_95d88_36 : decode cJ13_bitCount_95d88 36 = .ok (.bipush 8, 2) := by decide +kernel
theorem dJ13_bitCount_95d88_38 : decode cJ13_bitCount_95d88 38 = .ok (.lushr, 1) := by decide +kernel
theorem dJ13_bitCount_95d88_39 : decode cJ13_bitCount_95d88 39 = .ok (.ladd, 1) := by decide +kernel
theorem dJ13_bitCount_95d88_40 : decode cJ13_bitCount_95d88 40 = .ok (.lstore_n 0, 1) := by decide +kernel
theorem dJ13_bitCount_95d88_41 : decode cJ13_bitCount_95d88 41 = .ok (.lload_n 0, 1) := by decide +kernel
theorem dJ13_bitCount_95d88_42 : decode cJ13_bitCount_95d88 42 = .ok (.lload_n 0, 1) := by decide +kernel
theorem dJ13_bitCount_95d88_43 : decode cJ13_bitCount_95d88 43 = .ok (.bipush 16, 2) := by decide +kernel
theorem dJ13_bitCount_95d88_45 : decode cJ13_bitCount_95d88 45 = .ok (.lushr, 1) := by decide +kernel
theorem dJ13_bitCount_95d88_46 : decode cJ13_bitCount_95d88 46 = .ok (.ladd, 1) := by decide +kernel
theorem dJ13_bitCount_95d88_47 : decode cJ13_bitCount_95d88 47 = .ok (.lstore_n 0, 1) := by decide +kernel
theorem dJ13_bitCount_95d88_48 : decode cJ13_bitCount_95d88 48 = .ok (.lload_n 0, 1) := by decide +kernel
theorem dJ13_bitCount_95d88_49 : decode cJ13_bitCount_95d88 49 = .ok (.lload_n 0, 1) := by decide +kernel
theorem dJ13_bitCount_95d88_50 : decode cJ13_bitCount_95d88 50 = .ok (.bipush 32, 2) := by decide +kernel
theorem dJ13_bitCount_95d88_52 : decode cJ13_bitCount_95d88 52 = .ok (.lushr, 1) := by decide +kernel
theorem dJ13_bitCount_95d88_53 : decode cJ13_bitCount_95d88 53 = .ok (.ladd, 1) := by decide +kernel
theorem dJ13_bitCount_95d88_54 : decode cJ13_bitCount_95d88 54 = .ok (.lstore_n 0, 1) := by decide +kernel
theorem dJ13_bitCount_95d88_55 : decode cJ13_bitCount_95d88 55 = .ok (.lload_n 0, 1) := by decide +kernel
theorem dJ13_bitCount_95d88_56 : decode cJ13_bitCount_95d88 56 = .ok (.l2i, 1) := by decide +kernel
theorem dJ13_bitCount_95d88_57 : decode cJ13_bitCount_95d88 57 = .ok (.bipush 127, 2) := by decide +kernel
theorem dJ13_bitCount_95d88_59 : decode cJ13_bitCount_95d88 59 = .ok (.iand, 1) := by decide +kernel
theorem dJ13_bitCount_95d88_60 : decode cJ13_bitCount_95d88 60 = .ok (.ireturn, 1) := by decide +kernel
theorem dJ9_max_7cf53_0 : decode cJ9_max_7cf53 0 = .ok (.iload_n 0, 1) := by decide +kernel
theorem dJ9_max_7cf53_1 : decode cJ9_max_7cf53 1 = .ok (.iload_n 1, 1) := by decide +kernel
theorem dJ9_max_7cf53_2 : decode cJ9_max_7cf53 2 = .ok (.if_icmp .lt 7, 3) := by decide +kernel
theorem dJ9_max_7cf53_5 : decode cJ9_max_7cf53 5 = .ok (.iload_n 0, 1) := by decide +kernel
theorem dJ9_max_7cf53_6 : decode cJ9_max_7cf53 6 = .ok (.goto 4, 3) := by decide +kernel
theorem dJ9_max_7cf53_9 : decode cJ9_max_7cf53 9 = .ok (.iload_n 1, 1) := by decide +kernel
theorem dJ9_max_7cf53_10 : decode cJ9_max_7cf53 10 = .ok (.ireturn, 1) := by decide +kernel
theorem dJ9_min_7cf53_0 : decode cJ9_min_7cf53 0 = .ok (.iload_n 0, 1) := by decide +kernel
theorem dJ9_min_7cf53_1 : decode cJ9_min_7cf53 1 = .ok (.iload_n 1, 1) := by decide +kernel
theorem dJ9_min_7cf53_2 : decode cJ9_min_7cf53 2 = .ok (.if_icmp .gt 7, 3) := by decide +kernel
theorem dJ9_min_7cf53_5 : decode cJ9_min_7cf53 5 = .ok (.iload_n 0, 1) := by decide +kernel
theorem dJ9_min_7cf53_6 : decode cJ9_min_7cf53 6 = .ok (.goto 4, 3) := by decide +kernel
theorem dJ9_min_7cf53_9 : decode cJ9_min_7cf53 9 = .ok (.iload_n 1, 1) := by decide +kernel
theorem dJ9_min_7cf53_10 : decode cJ9_min_7cf53 10 = .ok (.ireturn, 1) := by decide +kernel
theorem dJ0_length_8abf5_0 : decode cJ0_length_8abf5 0 = .ok (.aload_n 0, 1) := by decide +kernel
theorem dJ0_length_8abf5_1 : decode cJ0_length_8abf5 1 = .ok (.getfield 9, 3) := by decide +kernel
theorem dJ0_length_8abf5_4 : decode cJ0_length_8abf5 4 = .ok (.arraylength, 1) := by decide +kernel
theorem dJ0_length_8abf5_5 : decode cJ0_length_8abf5 5 = .ok (.aload_n 0, 1) := by decide +kernel
theorem dJ0_length_8abf5_6 : decode cJ0_length_8abf5 6 = .ok (.invokevirtual 335, 3) := by decide +kernel
theorem dJ0_length_8abf5_9 : decode cJ0_length_8abf5 9 = .ok (.ishr, 1) := by decide +kernel
theorem dJ0_length_8abf5_10 : decode cJ0_length_8abf5 10 = .ok (.ireturn, 1) := by decide +kernel
theorem dJ0_charAt_5068e_0 : decode cJ0_charAt_5068e 0 = .ok (.aload_n 0, 1) := by decide +kernel
theorem dJ0_charAt_5068e_1 : decode cJ0_charAt_5068e 1 = .ok (.invokevirtual 492, 3) := by decide +kernel
theorem dJ0_charAt_5068e_4 : decode cJ0_charAt_5068e 4 = .ok (.ifCond .eq 12, 3) := by decide +kernel
theorem dJ0_charAt_5068e_7 : decode cJ0_charAt_5068e 7 = .ok (.aload_n 0, 1) := by decide +kernel
theorem dJ0_charAt_5068e_8 : decode cJ0_charAt_5068e 8 = .ok (.getfield 9, 3) := by decide +kernel
theorem dJ0_charAt_5068e_11 : decode cJ0_charAt_5068e 11 = .ok (.iload_n 1, 1) := by decide +kernel
theorem dJ0_charAt_5068e_12 : decode cJ0_charAt_5068e 12 = .ok (.invokestatic 495, 3) := by decide +kernel
theorem dJ0_charAt_5068e_15 : decode cJ0_charAt_5068e 15 = .ok (.ireturn, 1) := by decide +kernel
theorem dJ0_charAt_5068e_16 : decode cJ0_charAt_5068e 16 = .ok (.aload_n 0, 1) := by decide +kernel
theorem dJ0_charAt_5068e_17 : decode cJ0_charAt_5068e 17 = .ok (.getfield 9, 3) := by decide +kernel
theorem dJ0_charAt_5068e_20 : decode cJ0_charAt_5068e 20 = .ok (.iload_n 1, 1) := by decide +kernel
theorem dJ0_charAt_5068e_21 : decode cJ0_charAt_5068e 21 = .ok (.invokestatic 498, 3) := by decide +kernel
theorem dJ0_charAt_5068e_24 : decode cJ0_charAt_5068e 24 = .ok (.ireturn, 1) := by decide +kernel
theorem dJ0_coder_7d493_0 : decode cJ0_coder_7d493 0 = .ok (.getstatic 38, 3) := by decide +kernel
theorem dJ0_coder_7d493_3 : decode cJ0_coder_7d493 3 = .ok (.ifCond .eq 10, 3) := by decide +kernel
theorem dJ0_coder_7d493_6 : decode cJ0_coder_7d493 6 = .ok (.aload_n 0, 1) := by decide +kernel
theorem dJ0_coder_7d493_7 : decode cJ0_coder_7d493 7 = .ok (.getfield 15, 3) := by decide +kernel
theorem dJ0_coder_7d493_10 : decode cJ0_coder_7d493 10 = .ok (.goto 4, 3) := by decide +kernel
theorem dJ0_coder_7d493_13 : decode cJ0_coder_7d493 13 = .ok (.iconst 1, 1) := by decide +kernel
theorem dJ0_coder_7d493_14 : decode cJ0_coder_7d493 14 = .ok (.ireturn, 1) := by decide +kernel
theorem dJ0_isLatin1_aae02_0 : decode cJ0_isLatin1_aae02 0 = .ok (.getstatic 38, 3) := by decide +kernel
theorem dJ0_isLatin1_aae02_3 : decode cJ0_isLatin1_aae02 3 = .ok (.ifCond .eq 14, 3) := by decide +kernel
theorem dJ0_isLatin1_aae02_6 : decode cJ0_isLatin1_aae02 6 = .ok (.aload_n 0, 1) := by decide +kernel
theorem dJ0_isLatin1_aae02_7 : decode cJ0_isLatin1_aae02 7 = .ok (.getfield 15, 3) := by decide +kernel
theorem dJ0_isLatin1_aae02_10 : decode cJ0_isLatin1_aae02 10 = .ok (.ifCond .ne 7, 3) := by decide +kernel
theorem dJ0_isLatin1_aae02_13 : decode cJ0_isLatin1_aae02 13 = .ok (.iconst 1, 1) := by decide +kernel
theorem dJ0_isLatin1_aae02_14 : decode cJ0_isLatin1_aae02 14 = .ok (.goto 4, 3) := by decide +kernel
theorem dJ0_isLatin1_aae02_17 : decode cJ0_isLatin1_aae02 17 = .ok (.iconst 0, 1) := by decide +kernel
theorem dJ0_isLatin1_aae02_18 : decode cJ0_isLatin1_aae02 18 = .ok (.ireturn, 1) := by decide +kernel
theorem dJ0_checkIndex_df160_0 : decode cJ0_checkIndex_df160 0 = .ok (.iload_n 0, 1) := by decide +kernel
theorem dJ0_checkIndex_df160_1 : decode cJ0_checkIndex_df160 1 = .ok (.iload_n 1, 1) := by decide +kernel
theorem dJ0_checkIndex_df160_2 : decode cJ0_checkIndex_df160 2 = .ok (.getstatic 1053, 3) := by decide +kernel
theorem dJ0_checkIndex_df160_5 : decode cJ0_checkIndex_df160 5 = .ok (.invokestatic 1059, 3) := by decide +kernel
theorem dJ0_checkIndex_df160_8 : decode cJ0_checkIndex_df160 8 = .ok (.pop, 1) := by decide +kernel
theorem dJ0_checkIndex_df160_9 : decode cJ0_checkIndex_df160 9 = .ok (.return_, 1) := by decide +kernel
theorem dJ1_charAt_3b067_0 : decode cJ1_charAt_3b067 0 = .ok (.iload_n 1, 1) := by decide +kernel
theorem dJ1_charAt_3b067_1 : decode cJ1_charAt_3b067 1 = .ok (.aload_n 0, 1) := by decide +kernel
theorem dJ1_charAt_3b067_2 : decode cJ1_charAt_3b067 2 = .ok (.arraylength, 1) := by decide +kernel
theorem dJ1_charAt_3b067_3 : decode cJ1_charAt_3b067 3 = .ok (.invokestatic 9, 3) := by decide +kernel
theorem dJ1_charAt_3b067_6 : decode cJ1_charAt_3b067 6 = .ok (.aload_n 0, 1) := by decide +kernel
theorem dJ1_charAt_3b067_7 : decode cJ1_charAt_3b067 7 = .ok (.iload_n 1, 1) := by decide +kernel
theorem dJ1_charAt_3b067_8 : decode cJ1_charAt_3b067 8 = .ok (.baload, 1) := by decide +kernel
theorem dJ1_charAt_3b067_9 : decode cJ1_charAt_3b067 9 = .ok (.sipush 255, 3) := by decide +kernel
theorem dJ1_charAt_3b067_12 : decode cJ1_charAt_3b067 12 = .ok (.iand, 1) := by decide +kernel
theorem dJ1_charAt_3b067_13 : decode cJ1_charAt_3b067 13 = .ok (.i2c, 1) := by decide +kernel
theorem dJ1_charAt_3b067_14 : decode cJ1_charAt_3b067 14 = .ok (.ireturn, 1) := by decide +kernel
theorem dJ2_getChar_3b067_0 : decode cJ2_getChar_3b067 0 = .ok (.getstatic 44, 3) := by decide +kernel
theorem dJ2_getChar_3b067_3 : decode cJ2_getChar_3b067 3 = .ok (.ifCond .ne 25, 3) := by decide +kernel
theorem dJ2_getChar_3b067_6 : decode cJ2_getChar_3b067 6 = .ok (.iload_n 1, 1) := by decide +kernel
theorem dJ2_getChar_3b067_7 : decode cJ2_getChar_3b067 7 = .ok (.ifCond .lt 11, 3) := by decide +kernel
theorem dJ2_getChar_3b067_10 : decode cJ2_getChar_3b067 10 = .ok (.iload_n 1, 1) := by decide +kernel
theorem dJ2_getChar_3b067_11 : decode cJ2_getChar_3b067 11 = .ok (.aload_n 0, 1) := by decide +kernel
theorem dJ2_getChar_3b067_12 : decode cJ2_getChar_3b067 12 = .ok (.invokestatic 48, 3) := by decide +kernel
theorem dJ2_getChar_3b067_15 : decode cJ2_getChar_3b067 15 = .ok (.if_icmp .lt 13, 3) := by decide +kernel
theorem dJ2_getChar_3b067_18 : decode cJ2_getChar_3b067 18 = .ok (.new 52, 3) := by decide +kernel
theorem dJ2_getChar_3b067_21 : decode cJ2_getChar_3b067 21 = .ok (.dup, 1) := by decide +kernel
theorem dJ2_getChar_3b067_22 : decode cJ2_getChar_3b067 22 = .ok (.ldc 54, 2) := by decide +kernel
theorem dJ2_getChar_3b067_24 : decode cJ2_getChar_3b067 24 = .ok (.invokespecial 56, 3) := by decide +kernel
theorem dJ2_getChar_3b067_27 : decode cJ2_getChar_3b067 27 = .ok (.athrow, 1) := by decide +kernel
theorem dJ2_getChar_3b067_28 : decode cJ2_getChar_3b067 28 = .ok (.iload_n 1, 1) := by decide +kernel
theorem dJ2_getChar_3b067_29 : decode cJ2_getChar_3b067 29 = .ok (.iconst 1, 1) := by decide +kernel
theorem dJ2_getChar_3b067_30 : decode cJ2_getChar_3b067 30 = .ok (.ishl, 1) := by decide +kernel
theorem dJ2_getChar_3b067_31 : decode cJ2_getChar_3b067 31 = .ok (.istore_n 1, 1) := by decide +kernel
theorem dJ2_getChar_3b067_32 : decode cJ2_getChar_3b067 32 = .ok (.aload_n 0, 1) := by decide +kernel
theorem dJ2_getChar_3b067_33 : decode cJ2_getChar_3b067 33 = .ok (.iload_n 1, 1) := by decide +kernel
theorem dJ2_getChar_3b067_34 : decode cJ2_getChar_3b067 34 = .ok (.iinc 1 1, 3) := by decide +kernel
theorem dJ2_getChar_3b067_37 : decode cJ2_getChar_3b067 37 = .ok (.baload, 1) := by decide +kernel
theorem dJ2_getChar_3b067_38 : decode cJ2_getChar_3b067 38 = .ok (.sipush 255, 3) := by decide +kernel
theorem dJ2_getChar_3b067_41 : decode cJ2_getChar_3b067 41 = .ok (.iand, 1) := by decide +kernel
theorem dJ2_getChar_3b067_42 : decode cJ2_getChar_3b067 42 = .ok (.getstatic 59, 3) := by decide +kernel
theorem dJ2_getChar_3b067_45 : decode cJ2_getChar_3b067 45 = .ok (.ishl, 1) := by decide +kernel
theorem dJ2_getChar_3b067_46 : decode cJ2_getChar_3b067 46 = .ok (.aload_n 0, 1) := by decide +kernel
theorem dJ2_getChar_3b067_47 : decode cJ2_getChar_3b067 47 = .ok (.iload_n 1, 1) := by decide +kernel
theorem dJ2_getChar_3b067_48 : decode cJ2_getChar_3b067 48 = .ok (.baload, 1) := by decide +kernel
theorem dJ2_getChar_3b067_49 : decode cJ2_getChar_3b067 49 = .ok (.sipush 255, 3) := by decide +kernel
theorem dJ2_getChar_3b067_52 : decode cJ2_getChar_3b067 52 = .ok (.iand, 1) := by decide +kernel
theorem dJ2_getChar_3b067_53 : decode cJ2_getChar_3b067 53 = .ok (.getstatic 63, 3) := by decide +kernel
theorem dJ2_getChar_3b067_56 : decode cJ2_getChar_3b067 56 = .ok (.ishl, 1) := by decide +kernel
theorem dJ2_getChar_3b067_57 : decode cJ2_getChar_3b067 57 = .ok (.ior, 1) := by decide +kernel
theorem dJ2_getChar_3b067_58 : decode cJ2_getChar_3b067 58 = .ok (.i2c, 1) := by decide +kernel
theorem dJ2_getChar_3b067_59 : decode cJ2_getChar_3b067 59 = .ok (.ireturn, 1) := by decide +kernel
theorem dJ2_length_9d52b_0 : decode cJ2_length_9d52b 0 = .ok (.aload_n 0, 1) := by decide +kernel
theorem dJ2_length_9d52b_1 : decode cJ2_length_9d52b 1 = .ok (.arraylength, 1) := by decide +kernel
theorem dJ2_length_9d52b_2 : decode cJ2_length_9d52b 2 = .ok (.iconst 1, 1) := by decide +kernel
theorem dJ2_length_9d52b_3 : decode cJ2_length_9d52b 3 = .ok (.ishr, 1) := by decide +kernel
theorem dJ2_length_9d52b_4 : decode cJ2_length_9d52b 4 = .ok (.ireturn, 1) := by decide +kernel
theorem dJ2_charAt_3b067_0 : decode cJ2_charAt_3b067 0 = .ok (.iload_n 1, 1) := by decide +kernel
theorem dJ2_charAt_3b067_1 : decode cJ2_charAt_3b067 1 = .ok (.aload_n 0, 1) := by decide +kernel
theorem dJ2_charAt_3b067_2 : decode cJ2_charAt_3b067 2 = .ok (.invokestatic 67, 3) := by decide +kernel
theorem dJ2_charAt_3b067_5 : decode cJ2_charAt_3b067 5 = .ok (.aload_n 0, 1) := by decide +kernel
theorem dJ2_charAt_3b067_6 : decode cJ2_charAt_3b067 6 = .ok (.iload_n 1, 1) := by decide +kernel
theorem dJ2_charAt_3b067_7 : decode cJ2_charAt_3b067 7 = .ok (.invokestatic 71, 3) := by decide +kernel
theorem dJ2_charAt_3b067_10 : decode cJ2_charAt_3b067 10 = .ok (.ireturn, 1) := by decide +kernel
theorem dJ2_checkIndex_2214a_0 : decode cJ2_checkIndex_2214a 0 = .ok (.iload_n 0, 1) := by decide +kernel
theorem dJ2_checkIndex_2214a_1 : decode cJ2_checkIndex_2214a 1 = .ok (.aload_n 1, 1) := by decide +kernel
theorem dJ2_checkIndex_2214a_2 : decode cJ2_checkIndex_2214a 2 = .ok (.invokestatic 48, 3) := by decide +kernel
theorem dJ2_checkIndex_2214a_5 : decode cJ2_checkIndex_2214a 5 = .ok (.invokestatic 414, 3) := by decide +kernel
theorem dJ2_checkIndex_2214a_8 : decode cJ2_checkIndex_2214a 8 = .ok (.return_, 1) := by decide +kernel
theorem dJ7_rangeCheck_23922_0 : decode cJ7_rangeCheck_23922 0 = .ok (.iload_n 1, 1) := by decide +kernel
theorem dJ7_rangeCheck_23922_1 : decode cJ7_rangeCheck_23922 1 = .ok (.iload_n 2, 1) := by decide +kernel
theorem dJ7_rangeCheck_23922_2 : decode cJ7_rangeCheck_23922 2 = .ok (.if_icmp .le 44, 3) := by decide +kernel
theorem dJ7_rangeCheck_23922_5 : decode cJ7_rangeCheck_23922 5 = .ok (.new 43, 3) := by decide +kernel
theorem dJ7_rangeCheck_23922_8 : decode cJ7_rangeCheck_23922 8 = .ok (.dup, 1) := by decide +kernel
theorem dJ7_rangeCheck_23922_9 : decode cJ7_rangeCheck_23922 9 = .ok (.new 45, 3) := by decide +kernel
theorem dJ7_rangeCheck_23922_12 : decode cJ7_rangeCheck_23922 12 = .ok (.dup, 1) := by decide +kernel
theorem dJ7_rangeCheck_23922_13 : decode cJ7_rangeCheck_23922 13 = .ok (.invokespecial 47, 3) := by decide +kernel
theorem dJ7_rangeCheck_23922_16 : decode cJ7_rangeCheck_23922 16 = .ok (.ldc 48, 2) := by decide +kernel
theorem dJ7_rangeCheck_23922_18 : decode cJ7_rangeCheck_23922 18 = .ok (.invokevirtual 50, 3) := by decide +kernel
theorem dJ7_rangeCheck_23922_21 : decode cJ7_rangeCheck_23922 21 = .ok (.iload_n 1, 1) := by decide +kernel
theorem dJ7_rangeCheck_23922_22 : decode cJ7_rangeCheck_23922 22 = .ok (.invokevirtual 54, 3) := by decide +kernel
theorem dJ7_rangeCheck_23922_25 : decode cJ7_rangeCheck_23922 25 = .ok (.ldc 57, 2) := by decide +kernel
theorem dJ7_rangeCheck_23922_27 : decode cJ7_rangeCheck_23922 27 = .ok (.invokevirtual 50, 3) := by decide +kernel
theorem dJ7_rangeCheck_23922_30 : decode cJ7_rangeCheck_23922 30 = .ok (.iload_n 2, 1) := by decide +kernel
theorem dJ7_rangeCheck_23922_31 : decode cJ7_rangeCheck_23922 31 = .ok (.invokevirtual 54, 3) := by decide +kernel
theorem dJ7_rangeCheck_23922_34 : decode cJ7_rangeCheck_23922 34 = .ok (.ldc 59, 2) := by decide +kernel
theorem dJ7_rangeCheck_23922_36 : decode cJ7_rangeCheck_23922 36 = .ok (.invokevirtual 50, 3) := by decide +kernel
theorem dJ7_rangeCheck_23922_39 : decode cJ7_rangeCheck_23922 39 = .ok (.invokevirtual 61, 3) := by decide +kernel
theorem dJ7_rangeCheck_23922_42 : decode cJ7_rangeCheck_23922 42 = .ok (.invokespecial 65, 3) := by decide +kernel
theorem dJ7_rangeCheck_23922_45 : decode cJ7_rangeCheck_23922 45 = .ok (.athrow, 1) := by decide +kernel
theorem dJ7_rangeCheck_23922_46 : decode cJ7_rangeCheck_23922 46 = .ok (.iload_n 1, 1) := by decide +kernel
theorem dJ7_rangeCheck_23922_47 : decode cJ7_rangeCheck_23922 47 = .ok (.ifCond .ge 12, 3) := by decide +kernel
theorem dJ7_rangeCheck_23922_50 : decode cJ7_rangeCheck_23922 50 = .ok (.new 68, 3) := by decide +kernel
theorem dJ7_rangeCheck_23922_53 : decode cJ7_rangeCheck_23922 53 = .ok (.dup, 1) := by decide +kernel
theorem dJ7_rangeCheck_23922_54 : decode cJ7_rangeCheck_23922 54 = .ok (.iload_n 1, 1) := by decide +kernel
theorem dJ7_rangeCheck_23922_55 : decode cJ7_rangeCheck_23922 55 = .ok (.invokespecial 70, 3) := by decide +kernel
theorem dJ7_rangeCheck_23922_58 : decode cJ7_rangeCheck_23922 58 = .ok (.athrow, 1) := by decide +kernel
theorem dJ7_rangeCheck_23922_59 : decode cJ7_rangeCheck_23922 59 = .ok (.iload_n 2, 1) := by decide +kernel
theorem dJ7_rangeCheck_23922_60 : decode cJ7_rangeCheck_23922 60 = .ok (.iload_n 0, 1) := by decide +kernel
theorem dJ7_rangeCheck_23922_61 : decode cJ7_rangeCheck_23922 61 = .ok (.if_icmp .le 12, 3) := by decide +kernel
theorem dJ7_rangeCheck_23922_64 : decode cJ7_rangeCheck_23922 64 = .ok (.new 68, 3) := by decide +kernel
theorem dJ7_rangeCheck_23922_67 : decode cJ7_rangeCheck_23922 67 = .ok (.dup, 1) := by decide +kernel
theorem dJ7_rangeCheck_23922_68 : decode cJ7_rangeCheck_23922 68 = .ok (.iload_n 2, 1) := by decide +kernel
theorem dJ7_rangeCheck_23922_69 : decode cJ7_rangeCheck_23922 69 = .ok (.invokespecial 70, 3) := by decide +kernel
theorem dJ7_rangeCheck_23922_72 : decode cJ7_rangeCheck_23922 72 = .ok (.athrow, 1) := by decide +kernel
theorem dJ7_rangeCheck_23922_73 : decode cJ7_rangeCheck_23922 73 = .ok (.return_, 1) := by decide +kernel
theorem dJ7_fill_53178_0 : decode cJ7_fill_53178 0 = .ok (.iconst 0, 1) := by decide +kernel
theorem dJ7_fill_53178_1 : decode cJ7_fill_53178 1 = .ok (.istore_n 2, 1) := by decide +kernel
theorem dJ7_fill_53178_2 : decode cJ7_fill_53178 2 = .ok (.aload_n 0, 1) := by decide +kernel
theorem dJ7_fill_53178_3 : decode cJ7_fill_53178 3 = .ok (.arraylength, 1) := by decide +kernel
theorem dJ7_fill_53178_4 : decode cJ7_fill_53178 4 = .ok (.istore_n 3, 1) := by decide +kernel
theorem dJ7_fill_53178_5 : decode cJ7_fill_53178 5 = .ok (.iload_n 2, 1) := by decide +kernel
theorem dJ7_fill_53178_6 : decode cJ7_fill_53178 6 = .ok (.iload_n 3, 1) := by decide +kernel
theorem dJ7_fill_53178_7 : decode cJ7_fill_53178 7 = .ok (.if_icmp .ge 13, 3) := by decide +kernel
theorem dJ7_fill_53178_10 : decode cJ7_fill_53178 10 = .ok (.aload_n 0, 1) := by decide +kernel
theorem dJ7_fill_53178_11 : decode cJ7_fill_53178 11 = .ok (.iload_n 2, 1) := by decide +kernel
theorem dJ7_fill_53178_12 : decode cJ7_fill_53178 12 = .ok (.iload_n 1, 1) := by decide +kernel
theorem dJ7_fill_53178_13 : decode cJ7_fill_53178 13 = .ok (.iastore, 1) := by decide +kernel
theorem dJ7_fill_53178_14 : decode cJ7_fill_53178 14 = .ok (.iinc 2 1, 3) := by decide +kernel
theorem dJ7_fill_53178_17 : decode cJ7_fill_53178 17 = .ok (.goto (-12), 3) := by decide +kernel
theorem dJ7_fill_53178_20 : decode cJ7_fill_53178 20 = .ok (.return_, 1) := by decide +kernel
theorem dJ7_fill_fda19_0 : decode cJ7_fill_fda19 0 = .ok (.aload_n 0, 1) := by decide +kernel
theorem dJ7_fill_fda19_1 : decode cJ7_fill_fda19 1 = .ok (.arraylength, 1) := by decide +kernel
theorem dJ7_fill_fda19_2 : decode cJ7_fill_fda19 2 = .ok (.iload_n 1, 1) := by decide +kernel
theorem dJ7_fill_fda19_3 : decode cJ7_fill_fda19 3 = .ok (.iload_n 2, 1) := by decide +kernel
theorem dJ7_fill_fda19_4 : decode cJ7_fill_fda19 4 = .ok (.invokestatic 13, 3) := by decide +kernel
theorem dJ7_fill_fda19_7 : decode cJ7_fill_fda19 7 = .ok (.iload_n 1, 1) := by decide +kernel
theorem dJ7_fill_fda19_8 : decode cJ7_fill_fda19 8 = .ok (.istore 4, 2) := by decide +kernel
theorem dJ7_fill_fda19_10 : decode cJ7_fill_fda19 10 = .ok (.iload 4, 2) := by decide +kernel
theorem dJ7_fill_fda19_12 : decode cJ7_fill_fda19 12 = .ok (.iload_n 2, 1) := by decide +kernel
theorem dJ7_fill_fda19_13 : decode cJ7_fill_fda19 13 = .ok (.if_icmp .ge 14, 3) := by decide +kernel
theorem dJ7_fill_fda19_16 : decode cJ7_fill_fda19 16 = .ok (.aload_n 0, 1) := by decide +kernel
theorem dJ7_fill_fda19_17 : decode cJ7_fill_fda19 17 = .ok (.iload 4, 2) := by decide +kernel
theorem dJ7_fill_fda19_19 : decode cJ7_fill_fda19 19 = .ok (.iload_n 3, 1) := by decide +kernel
theorem dJ7_fill_fda19_20 : decode cJ7_fill_fda19 20 = .ok (.iastore, 1) := by decide +kernel
theorem dJ7_fill_fda19_21 : decode cJ7_fill_fda19 21 = .ok (.iinc 4 1, 3) := by decide +kernel
theorem dJ7_fill_fda19_24 : decode cJ7_fill_fda19 24 = .ok (.goto (-14), 3) := by decide +kernel
theorem dJ7_fill_fda19_27 : decode cJ7_fill_fda19 27 = .ok (.return_, 1) := by decide +kernel
theorem dJ3_checkIndex_8e157_0 : decode cJ3_checkIndex_8e157 0 = .ok (.iload_n 0, 1) := by decide +kernel
theorem dJ3_checkIndex_8e157_1 : decode cJ3_checkIndex_8e157 1 = .ok (.ifCond .lt 8, 3) := by decide +kernel
theorem dJ3_checkIndex_8e157_4 : decode cJ3_checkIndex_8e157 4 = .ok (.iload_n 0, 1) := by decide +kernel
theorem dJ3_checkIndex_8e157_5 : decode cJ3_checkIndex_8e157 5 = .ok (.iload_n 1, 1) := by decide +kernel
theorem dJ3_checkIndex_8e157_6 : decode cJ3_checkIndex_8e157 6 = .ok (.if_icmp .lt 10, 3) := by decide +kernel
theorem dJ3_checkIndex_8e157_9 : decode cJ3_checkIndex_8e157 9 = .ok (.aload_n 2, 1) := by decide +kernel
theorem dJ3_checkIndex_8e157_10 : decode cJ3_checkIndex_8e157 10 = .ok (.iload_n 0, 1) := by decide +kernel
theorem dJ3_checkIndex_8e157_11 : decode cJ3_checkIndex_8e157 11 = .ok (.iload_n 1, 1) := by decide +kernel
theorem dJ3_checkIndex_8e157_12 : decode cJ3_checkIndex_8e157 12 = .ok (.invokestatic 95, 3) := by decide +kernel
theorem dJ3_checkIndex_8e157_15 : decode cJ3_checkIndex_8e157 15 = .ok (.athrow, 1) := by decide +kernel
theorem dJ3_checkIndex_8e157_16 : decode cJ3_checkIndex_8e157 16 = .ok (.iload_n 0, 1) := by decide +kernel
theorem dJ3_checkIndex_8e157_17 : decode cJ3_checkIndex_8e157 17 = .ok (.ireturn, 1) := by decide +kernel
theorem dL_law_0 : decode cL_law 0 = .ok (.new 7, 3) := by decide +kernel
theorem dL_law_3 : decode cL_law 3 = .ok (.dup, 1) := by decide +kernel
theorem dL_law_4 : decode cL_law 4 = .ok (.invokespecial 9, 3) := by decide +kernel
theorem dL_law_7 : decode cL_law 7 = .ok (.astore_n 1, 1) := by decide +kernel
theorem dL_law_8 : decode cL_law 8 = .ok (.new 10, 3) := by decide +kernel
theorem dL_law_11 : decode cL_law 11 = .ok (.dup, 1) := by decide +kernel
theorem dL_law_12 : decode cL_law 12 = .ok (.invokespecial 12, 3) := by decide +kernel
theorem dL_law_15 : decode cL_law 15 = .ok (.astore_n 2, 1) := by decide +kernel
theorem dL_law_16 : decode cL_law 16 = .ok (.iconst 0, 1) := by decide +kernel
theorem dL_law_17 : decode cL_law 17 = .ok (.istore_n 3, 1) := by decide +kernel
theorem dL_law_18 : decode cL_law 18 = .ok (.iload_n 3, 1) := by decide +kernel
theorem dL_law_19 : decode cL_law 19 = .ok (.aload_n 0, 1) := by decide +kernel
theorem dL_law_20 : decode cL_law 20 = .ok (.arraylength, 1) := by decide +kernel
theorem dL_law_21 : decode cL_law 21 = .ok (.bipush 6, 2) := by decide +kernel
theorem dL_law_23 : decode cL_law 23 = .ok (.isub, 1) := by decide +kernel
theorem dL_law_24 : decode cL_law 24 = .ok (.if_icmp .gt 1278, 3) := by decide +kernel
theorem dL_law_27 : decode cL_law 27 = .ok (.aload_n 0, 1) := by decide +kernel
theorem dL_law_28 : decode cL_law 28 = .ok (.iload_n 3, 1) := by decide +kernel
theorem dL_law_29 : decode cL_law 29 = .ok (.iaload, 1) := by decide +kernel
theorem dL_law_30 : decode cL_law 30 = .ok (.bipush 63, 2) := by decide +kernel
theorem dL_law_32 : decode cL_law 32 = .ok (.iand, 1) := by decide +kernel
theorem dL_law_33 : decode cL_law 33 = .ok (.tableswitch 1263 0 33 #[151, 214, 237, 260, 283, 326, 385, 408, 441, 465, 498, 541, 574, 617, 660, 673, 706, 729, 778, 801, 834, 877, 946, 979, 1002, 1025, 1038, 1071, 1094, 1117, 1160, 1203, 1227, 1240], 151) := by decide +kernel
theorem dL_law_184 : decode cL_law 184 = .ok (.aload_n 1, 1) := by decide +kernel
theorem dL_law_185 : decode cL_law 185 = .ok (.aload_n 0, 1) := by decide +kernel
theorem dL_law_186 : decode cL_law 186 = .ok (.iload_n 3, 1) := by decide +kernel
theorem dL_law_187 : decode cL_law 187 = .ok (.iconst 1, 1) := by decide +kernel
theorem dL_law_188 : decode cL_law 188 = .ok (.iadd, 1) := by decide +kernel
theorem dL_law_189 : decode cL_law 189 = .ok (.iaload, 1) := by decide +kernel
theorem dL_law_190 : decode cL_law 190 = .ok (.aload_n 0, 1) := by decide +kernel
theorem dL_law_191 : decode cL_law 191 = .ok (.iload_n 3, 1) := by decide +kernel
theorem dL_law_192 : decode cL_law 192 = .ok (.iconst 2, 1) := by decide +kernel
theorem dL_law_193 : decode cL_law 193 = .ok (.iadd, 1) := by decide +kernel
theorem dL_law_194 : decode cL_law 194 = .ok (.iaload, 1) := by decide +kernel
theorem dL_law_195 : decode cL_law 195 = .ok (.aload_n 0, 1) := by decide +kernel
theorem dL_law_196 : decode cL_law 196 = .ok (.iload_n 3, 1) := by decide +kernel
theorem dL_law_197 : decode cL_law 197 = .ok (.iconst 3, 1) := by decide +kernel
theorem dL_law_198 : decode cL_law 198 = .ok (.iadd, 1) := by decide +kernel
theorem dL_law_199 : decode cL_law 199 = .ok (.iaload, 1) := by decide +kernel
theorem dL_law_200 : decode cL_law 200 = .ok (.aload_n 0, 1) := by decide +kernel
theorem dL_law_201 : decode cL_law 201 = .ok (.iload_n 3, 1) := by decide +kernel
theorem dL_law_202 : decode cL_law 202 = .ok (.iconst 4, 1) := by decide +kernel
theorem dL_law_203 : decode cL_law 203 = .ok (.iadd, 1) := by decide +kernel
theorem dL_law_204 : decode cL_law 204 = .ok (.iaload, 1) := by decide +kernel
theorem dL_law_205 : decode cL_law 205 = .ok (.aload_n 0, 1) := by decide +kernel
theorem dL_law_206 : decode cL_law 206 = .ok (.iload_n 3, 1) := by decide +kernel
theorem dL_law_207 : decode cL_law 207 = .ok (.iconst 5, 1) := by decide +kernel
theorem dL_law_208 : decode cL_law 208 = .ok (.iadd, 1) := by decide +kernel
theorem dL_law_209 : decode cL_law 209 = .ok (.iaload, 1) := by decide +kernel
theorem dL_law_210 : decode cL_law 210 = .ok (.invokevirtual 13, 3) := by decide +kernel
theorem dL_law_213 : decode cL_law 213 = .ok (.aload_n 2, 1) := by decide +kernel
theorem dL_law_214 : decode cL_law 214 = .ok (.aload_n 0, 1) := by decide +kernel
theorem dL_law_215 : decode cL_law 215 = .ok (.iload_n 3, 1) := by decide +kernel
theorem dL_law_216 : decode cL_law 216 = .ok (.iconst 1, 1) := by decide +kernel
theorem dL_law_217 : decode cL_law 217 = .ok (.iadd, 1) := by decide +kernel
theorem dL_law_218 : decode cL_law 218 = .ok (.iaload, 1) := by decide +kernel
theorem dL_law_219 : decode cL_law 219 = .ok (.aload_n 0, 1) := by decide +kernel
theorem dL_law_220 : decode cL_law 220 = .ok (.iload_n 3, 1) := by decide +kernel
theorem dL_law_221 : decode cL_law 221 = .ok (.iconst 2, 1) := by decide +kernel
theorem dL_law_222 : decode cL_law 222 = .ok (.iadd, 1) := by decide +kernel
theorem dL_law_223 : decode cL_law 223 = .ok (.iaload, 1) := by decide +kernel
theorem dL_law_224 : decode cL_law 224 = .ok (.aload_n 0, 1) := by decide +kernel
theorem dL_law_225 : decode cL_law 225 = .ok (.iload_n 3, 1) := by decide +kernel
theorem dL_law_226 : decode cL_law 226 = .ok (.iconst 3, 1) := by decide +kernel
theorem dL_law_227 : decode cL_law 227 = .ok (.iadd, 1) := by decide +kernel
theorem dL_law_228 : decode cL_law 228 = .ok (.iaload, 1) := by decide +kernel
theorem dL_law_229 : decode cL_law 229 = .ok (.aload_n 0, 1) := by decide +kernel
theorem dL_law_230 : decode cL_law 230 = .ok (.iload_n 3, 1) := by decide +kernel
theorem dL_law_231 : decode cL_law 231 = .ok (.iconst 4, 1) := by decide +kernel
theorem dL_law_232 : decode cL_law 232 = .ok (.iadd, 1) := by decide +kernel
theorem dL_law_233 : decode cL_law 233 = .ok (.iaload, 1) := by decide +kernel
theorem dL_law_234 : decode cL_law 234 = .ok (.aload_n 0, 1) := by decide +kernel
theorem dL_law_235 : decode cL_law 235 = .ok (.iload_n 3, 1) := by decide +kernel
theorem dL_law_236 : decode cL_law 236 = .ok (.iconst 5, 1) := by decide +kernel
theorem dL_law_237 : decode cL_law 237 = .ok (.iadd, 1) := by decide +kernel
theorem dL_law_238 : decode cL_law 238 = .ok (.iaload, 1) := by decide +kernel
theorem dL_law_239 : decode cL_law 239 = .ok (.invokevirtual 17, 3) := by decide +kernel
theorem dL_law_242 : decode cL_law 242 = .ok (.if_icmp .eq 1054, 3) := by decide +kernel
theorem dL_law_245 : decode cL_law 245 = .ok (.iconst 0, 1) := by decide +kernel
theorem dL_law_246 : decode cL_law 246 = .ok (.ireturn, 1) := by decide +kernel
theorem dL_law_247 : decode cL_law 247 = .ok (.aload_n 1, 1) := by decide +kernel
theorem dL_law_248 : decode cL_law 248 = .ok (.aload_n 0, 1) := by decide +kernel
theorem dL_law_249 : decode cL_law 249 = .ok (.iload_n 3, 1) := by decide +kernel
theorem dL_law_250 : decode cL_law 250 = .ok (.iconst 1, 1) := by decide +kernel
theorem dL_law_251 : decode cL_law 251 = .ok (.iadd, 1) := by decide +kernel
theorem dL_law_252 : decode cL_law 252 = .ok (.iaload, 1) := by decide +kernel
theorem dL_law_253 : decode cL_law 253 = .ok (.invokevirtual 18, 3) := by decide +kernel
theorem dL_law_256 : decode cL_law 256 = .ok (.aload_n 2, 1) := by decide +kernel
theorem dL_law_257 : decode cL_law 257 = .ok (.aload_n 0, 1) := by decide +kernel
theorem dL_law_258 : decode cL_law 258 = .ok (.iload_n 3, 1) := by decide +kernel
theorem dL_law_259 : decode cL_law 259 = .ok (.iconst 1, 1) := by decide +kernel
theorem dL_law_260 : decode cL_law 260 = .ok (.iadd, 1) := by decide +kernel
theorem dL_law_261 : decode cL_law 261 = .ok (.iaload, 1) := by decide +kernel
theorem dL_law_262 : decode cL_law 262 = .ok (.invokevirtual 22, 3) := by decide +kernel
theorem dL_law_265 : decode cL_law 265 = .ok (.if_icmp .eq 1031, 3) := by decide +kernel
theorem dL_law_268 : decode cL_law 268 = .ok (.iconst 0, 1) := by decide +kernel
theorem dL_law_269 : decode cL_law 269 = .ok (.ireturn, 1) := by decide +kernel
theorem dL_law_270 : decode cL_law 270 = .ok (.aload_n 1, 1) := by decide +kernel
theorem dL_law_271 : decode cL_law 271 = .ok (.aload_n 0, 1) := by decide +kernel
theorem dL_law_272 : decode cL_law 272 = .ok (.iload_n 3, 1) := by decide +kernel
theorem dL_law_273 : decode cL_law 273 = .ok (.iconst 1, 1) := by decide +kernel
theorem dL_law_274 : decode cL_law 274 = .ok (.iadd, 1) := by decide +kernel
theorem dL_law_275 : decode cL_law 275 = .ok (.iaload, 1) := by decide +kernel
theorem dL_law_276 : decode cL_law 276 = .ok (.invokevirtual 23, 3) := by decide +kernel
theorem dL_law_279 : decode cL_law 279 = .ok (.aload_n 2, 1) := by decide +kernel
theorem dL_law_280 : decode cL_law 280 = .ok (.aload_n 0, 1) := by decide +kernel
theorem dL_law_281 : decode cL_law 281 = .ok (.iload_n 3, 1) := by decide +kernel
theorem dL_law_282 : decode cL_law 282 = .ok (.iconst 1, 1) := by decide +kernel
theorem dL_law_283 : decode cL_law 283 = .ok (.iadd, 1) := by decide +kernel
theorem dL_law_284 : decode cL_law 284 = .ok (.iaload, 1) := by decide +kernel
theorem dL_law_285 : decode cL_law 285 = .ok (.invokevirtual 26, 3) := by decide +kernel
theorem dL_law_288 : decode cL_law 288 = .ok (.if_icmp .eq 1008, 3) := by decide +kernel
theorem dL_law_291 : decode cL_law 291 = .ok (.iconst 0, 1) := by decide +kernel
theorem dL_law_292 : decode cL_law 292 = .ok (.ireturn, 1) := by decide +kernel
theorem dL_law_293 : decode cL_law 293 = .ok (.aload_n 1, 1) := by decide +kernel
theorem dL_law_294 : decode cL_law 294 = .ok (.aload_n 0, 1) := by decide +kernel
theorem dL_law_295 : decode cL_law 295 = .ok (.iload_n 3, 1) := by decide +kernel
theorem dL_law_296 : decode cL_law 296 = .ok (.iconst 1, 1) := by decide +kernel
theorem dL_law_297 : decode cL_law 297 = .ok (.iadd, 1) := by decide +kernel
theorem dL_law_298 : decode cL_law 298 = .ok (.iaload, 1) := by decide +kernel
theorem dL_law_299 : decode cL_law 299 = .ok (.invokevirtual 27, 3) := by decide +kernel
theorem dL_law_302 : decode cL_law 302 = .ok (.aload_n 2, 1) := by decide +kernel
theorem dL_law_303 : decode cL_law 303 = .ok (.aload_n 0, 1) := by decide +kernel
theorem dL_law_304 : decode cL_law 304 = .ok (.iload_n 3, 1) := by decide +kernel
theorem dL_law_305 : decode cL_law 305 = .ok (.iconst 1, 1) := by decide +kernel
theorem dL_law_306 : decode cL_law 306 = .ok (.iadd, 1) := by decide +kernel
theorem dL_law_307 : decode cL_law 307 = .ok (.iaload, 1) := by decide +kernel
theorem dL_law_308 : decode cL_law 308 = .ok (.invokevirtual 30, 3) := by decide +kernel
theorem dL_law_311 : decode cL_law 311 = .ok (.if_icmp .eq 985, 3) := by decide +kernel
theorem dL_law_314 : decode cL_law 314 = .ok (.iconst 0, 1) := by decide +kernel
theorem dL_law_315 : decode cL_law 315 = .ok (.ireturn, 1) := by decide +kernel
theorem dL_law_316 : decode cL_law 316 = .ok (.aload_n 1, 1) := by decide +kernel
theorem dL_law_317 : decode cL_law 317 = .ok (.aload_n 0, 1) := by decide +kernel
theorem dL_law_318 : decode cL_law 318 = .ok (.iload_n 3, 1) := by decide +kernel
theorem dL_law_319 : decode cL_law 319 = .ok (.iconst 1, 1) := by decide +kernel
theorem dL_law_320 : decode cL_law 320 = .ok (.iadd, 1) := by decide +kernel
theorem dL_law_321 : decode cL_law 321 = .ok (.iaload, 1) := by decide +kernel
theorem dL_law_322 : decode cL_law 322 = .ok (.aload_n 0, 1) := by decide +kernel
theorem dL_law_323 : decode cL_law 323 = .ok (.iload_n 3, 1) := by decide +kernel
theorem dL_law_324 : decode cL_law 324 = .ok (.iconst 2, 1) := by decide +kernel
theorem dL_law_325 : decode cL_law 325 = .ok (.iadd, 1) := by decide +kernel
theorem dL_law_326 : decode cL_law 326 = .ok (.iaload, 1) := by decide +kernel
theorem dL_law_327 : decode cL_law 327 = .ok (.aload_n 0, 1) := by decide +kernel
theorem dL_law_328 : decode cL_law 328 = .ok (.iload_n 3, 1) := by decide +kernel
theorem dL_law_329 : decode cL_law 329 = .ok (.iconst 3, 1) := by decide +kernel
theorem dL_law_330 : decode cL_law 330 = .ok (.iadd, 1) := by decide +kernel
theorem dL_law_331 : decode cL_law 331 = .ok (.iaload, 1) := by decide +kernel
theorem dL_law_332 : decode cL_law 332 = .ok (.invokevirtual 31, 3) := by decide +kernel
theorem dL_law_335 : decode cL_law 335 = .ok (.aload_n 2, 1) := by decide +kernel
theorem dL_law_336 : decode cL_law 336 = .ok (.aload_n 0, 1) := by decide +kernel
theorem dL_law_337 : decode cL_law 337 = .ok (.iload_n 3, 1) := by decide +kernel
theorem dL_law_338 : decode cL_law 338 = .ok (.iconst 1, 1) := by decide +kernel
theorem dL_law_339 : decode cL_law 339 = .ok (.iadd, 1) := by decide +kernel
theorem dL_law_340 : decode cL_law 340 = .ok (.iaload, 1) := by decide +kernel
theorem dL_law_341 : decode cL_law 341 = .ok (.aload_n 0, 1) := by decide +kernel
theorem dL_law_342 : decode cL_law 342 = .ok (.iload_n 3, 1) := by decide +kernel
theorem dL_law_343 : decode cL_law 343 = .ok (.iconst 2, 1) := by decide +kernel
theorem dL_law_344 : decode cL_law 344 = .ok (.iadd, 1) := by decide +kernel
theorem dL_law_345 : decode cL_law 345 = .ok (.iaload, 1) := by decide +kernel
theorem dL_law_346 : decode cL_law 346 = .ok (.aload_n 0, 1) := by decide +kernel
theorem dL_law_347 : decode cL_law 347 = .ok (.iload_n 3, 1) := by decide +kernel
theorem dL_law_348 : decode cL_law 348 = .ok (.iconst 3, 1) := by decide +kernel
theorem dL_law_349 : decode cL_law 349 = .ok (.iadd, 1) := by decide +kernel
theorem dL_law_350 : decode cL_law 350 = .ok (.iaload, 1) := by decide +kernel
theorem dL_law_351 : decode cL_law 351 = .ok (.invokevirtual 35, 3) := by decide +kernel
theorem dL_law_354 : decode cL_law 354 = .ok (.if_icmp .eq 942, 3) := by decide +kernel
theorem dL_law_357 : decode cL_law 357 = .ok (.iconst 0, 1) := by decide +kernel
theorem dL_law_358 : decode cL_law 358 = .ok (.ireturn, 1) := by decide +kernel
theorem dL_law_359 : decode cL_law 359 = .ok (.aload_n 1, 1) := by decide +kernel
theorem dL_law_360 : decode cL_law 360 = .ok (.aload_n 0, 1) := by decide +kernel
theorem dL_law_361 : decode cL_law 361 = .ok (.iload_n 3, 1) := by decide +kernel
theorem dL_law_362 : decode cL_law 362 = .ok (.iconst 1, 1) := by decide +kernel
theorem dL_law_363 : decode cL_law 363 = .ok (.iadd, 1) := by decide +kernel
theorem dL_law_364 : decode cL_law 364 = .ok (.iaload, 1) := by decide +kernel
theorem dL_law_365 : decode cL_law 365 = .ok (.aload_n 0, 1) := by decide +kernel
theorem dL_law_366 : decode cL_law 366 = .ok (.iload_n 3, 1) := by decide +kernel
theorem dL_law_367 : decode cL_law 367 = .ok (.iconst 2, 1) := by decide +kernel
theorem dL_law_368 : decode cL_law 368 = .ok (.iadd, 1) := by decide +kernel
theorem dL_law_369 : decode cL_law 369 = .ok (.iaload, 1) := by decide +kernel
theorem dL_law_370 : decode cL_law 370 = .ok (.aload_n 0, 1) := by decide +kernel
theorem dL_law_371 : decode cL_law 371 = .ok (.iload_n 3, 1) := by decide +kernel
theorem dL_law_372 : decode cL_law 372 = .ok (.iconst 3, 1) := by decide +kernel
theorem dL_law_373 : decode cL_law 373 = .ok (.iadd, 1) := by decide +kernel
theorem dL_law_374 : decode cL_law 374 = .ok (.iaload, 1) := by decide +kernel
theorem dL_law_375 : decode cL_law 375 = .ok (.ifCond .eq 7, 3) := by decide +kernel
theorem dL_law_378 : decode cL_law 378 = .ok (.iconst 1, 1) := by decide +kernel
theorem dL_law_379 : decode cL_law 379 = .ok (.goto 4, 3) := by decide +kernel
theorem dL_law_382 : decode cL_law 382 = .ok (.iconst 0, 1) := by decide +kernel
theorem dL_law_383 : decode cL_law 383 = .ok (.invokevirtual 36, 3) := by decide +kernel
theorem dL_law_386 : decode cL_law 386 = .ok (.aload_n 2, 1) := by decide +kernel
theorem dL_law_387 : decode cL_law 387 = .ok (.aload_n 0, 1) := by decide +kernel
theorem dL_law_388 : decode cL_law 388 = .ok (.iload_n 3, 1) := by decide +kernel
theorem dL_law_389 : decode cL_law 389 = .ok (.iconst 1, 1) := by decide +kernel
theorem dL_law_390 : decode cL_law 390 = .ok (.iadd, 1) := by decide +kernel
theorem dL_law_391 : decode cL_law 391 = .ok (.iaload, 1) := by decide +kernel
theorem dL_law_392 : decode cL_law 392 = .ok (.aload_n 0, 1) := by decide +kernel
theorem dL_law_393 : decode cL_law 393 = .ok (.iload_n 3, 1) := by decide +kernel
theorem dL_law_394 : decode cL_law 394 = .ok (.iconst 2, 1) := by decide +kernel
theorem dL_law_395 : decode cL_law 395 = .ok (.iadd, 1) := by decide +kernel
theorem dL_law_396 : decode cL_law 396 = .ok (.iaload, 1) := by decide +kernel
theorem dL_law_397 : decode cL_law 397 = .ok (.aload_n 0, 1) := by decide +kernel
theorem dL_law_398 : decode cL_law 398 = .ok (.iload_n 3, 1) := by decide +kernel
theorem dL_law_399 : decode cL_law 399 = .ok (.iconst 3, 1) := by decide +kernel
theorem dL_law_400 : decode cL_law 400 = .ok (.iadd, 1) := by decide +kernel
theorem dL_law_401 : decode cL_law 401 = .ok (.iaload, 1) := by decide +kernel
theorem dL_law_402 : decode cL_law 402 = .ok (.ifCond .eq 7, 3) := by decide +kernel
theorem dL_law_405 : decode cL_law 405 = .ok (.iconst 1, 1) := by decide +kernel
theorem dL_law_406 : decode cL_law 406 = .ok (.goto 4, 3) := by decide +kernel
theorem dL_law_409 : decode cL_law 409 = .ok (.iconst 0, 1) := by decide +kernel
theorem dL_law_410 : decode cL_law 410 = .ok (.invokevirtual 40, 3) := by decide +kernel
theorem dL_law_413 : decode cL_law 413 = .ok (.if_icmp .eq 883, 3) := by decide +kernel
theorem dL_law_416 : decode cL_law 416 = .ok (.iconst 0, 1) := by decide +kernel
theorem dL_law_417 : decode cL_law 417 = .ok (.ireturn, 1) := by decide +kernel
theorem dL_law_418 : decode cL_law 418 = .ok (.aload_n 1, 1) := by decide +kernel
theorem dL_law_419 : decode cL_law 419 = .ok (.aload_n 0, 1) := by decide +kernel
theorem dL_law_420 : decode cL_law 420 = .ok (.iload_n 3, 1) := by decide +kernel
theorem dL_law_421 : decode cL_law 421 = .ok (.iconst 1, 1) := by decide +kernel
theorem dL_law_422 : decode cL_law 422 = .ok (.iadd, 1) := by decide +kernel
theorem dL_law_423 : decode cL_law 423 = .ok (.iaload, 1) := by decide +kernel
theorem dL_law_424 : decode cL_law 424 = .ok (.invokevirtual 41, 3) := by decide +kernel
theorem dL_law_427 : decode cL_law 427 = .ok (.aload_n 2, 1) := by decide +kernel
theorem dL_law_428 : decode cL_law 428 = .ok (.aload_n 0, 1) := by decide +kernel
theorem dL_law_429 : decode cL_law 429 = .ok (.iload_n 3, 1) := by decide +kernel
theorem dL_law_430 : decode cL_law 430 = .ok (.iconst 1, 1) := by decide +kernel
theorem dL_law_431 : decode cL_law 431 = .ok (.iadd, 1) := by decide +kernel
theorem dL_law_432 : decode cL_law 432 = .ok (.iaload, 1) := by decide +kernel
theorem dL_law_433 : decode cL_law 433 = .ok (.invokevirtual 44, 3) := by decide +kernel
theorem dL_law_436 : decode cL_law 436 = .ok (.if_icmp .eq 860, 3) := by decide +kernel
theorem dL_law_439 : decode cL_law 439 = .ok (.iconst 0, 1) := by decide +kernel
theorem dL_law_440 : decode cL_law 440 = .ok (.ireturn, 1) := by decide +kernel
theorem dL_law_441 : decode cL_law 441 = .ok (.aload_n 1, 1) := by decide +kernel
theorem dL_law_442 : decode cL_law 442 = .ok (.aload_n 0, 1) := by decide +kernel
theorem dL_law_443 : decode cL_law 443 = .ok (.iload_n 3, 1) := by decide +kernel
theorem dL_law_444 : decode cL_law 444 = .ok (.iconst 1, 1) := by decide +kernel
theorem dL_law_445 : decode cL_law 445 = .ok (.iadd, 1) := by decide +kernel
theorem dL_law_446 : decode cL_law 446 = .ok (.iaload, 1) := by decide +kernel
theorem dL_law_447 : decode cL_law 447 = .ok (.aload_n 0, 1) := by decide +kernel
theorem dL_law_448 : decode cL_law 448 = .ok (.iload_n 3, 1) := by decide +kernel
theorem dL_law_449 : decode cL_law 449 = .ok (.iconst 2, 1) := by decide +kernel
theorem dL_law_450 : decode cL_law 450 = .ok (.iadd, 1) := by decide +kernel
theorem dL_law_451 : decode cL_law 451 = .ok (.iaload, 1) := by decide +kernel
theorem dL_law_452 : decode cL_law 452 = .ok (.invokevirtual 45, 3) := by decide +kernel
theorem dL_law_455 : decode cL_law 455 = .ok (.aload_n 2, 1) := by decide +kernel
theorem dL_law_456 : decode cL_law 456 = .ok (.aload_n 0, 1) := by decide +kernel
theorem dL_law_457 : decode cL_law 457 = .ok (.iload_n 3, 1) := by decide +kernel
theorem dL_law_458 : decode cL_law 458 = .ok (.iconst 1, 1) := by decide +kernel
theorem dL_law_459 : decode cL_law 459 = .ok (.iadd, 1) := by decide +kernel
theorem dL_law_460 : decode cL_law 460 = .ok (.iaload, 1) := by decide +kernel
theorem dL_law_461 : decode cL_law 461 = .ok (.aload_n 0, 1) := by decide +kernel
theorem dL_law_462 : decode cL_law 462 = .ok (.iload_n 3, 1) := by decide +kernel
theorem dL_law_463 : decode cL_law 463 = .ok (.iconst 2, 1) := by decide +kernel
theorem dL_law_464 : decode cL_law 464 = .ok (.iadd, 1) := by decide +kernel
theorem dL_law_465 : decode cL_law 465 = .ok (.iaload, 1) := by decide +kernel
theorem dL_law_466 : decode cL_law 466 = .ok (.invokevirtual 49, 3) := by decide +kernel
theorem dL_law_469 : decode cL_law 469 = .ok (.if_icmp .eq 827, 3) := by decide +kernel
theorem dL_law_472 : decode cL_law 472 = .ok (.iconst 0, 1) := by decide +kernel
theorem dL_law_473 : decode cL_law 473 = .ok (.ireturn, 1) := by decide +kernel
theorem dL_law_474 : decode cL_law 474 = .ok (.aload_n 1, 1) := by decide +kernel
theorem dL_law_475 : decode cL_law 475 = .ok (.aload_n 0, 1) := by decide +kernel
theorem dL_law_476 : decode cL_law 476 = .ok (.iload_n 3, 1) := by decide +kernel
theorem dL_law_477 : decode cL_law 477 = .ok (.iconst 1, 1) := by decide +kernel
theorem dL_law_478 : decode cL_law 478 = .ok (.iadd, 1) := by decide +kernel
theorem dL_law_479 : decode cL_law 479 = .ok (.iaload, 1) := by decide +kernel
theorem dL_law_480 : decode cL_law 480 = .ok (.invokevirtual 50, 3) := by decide +kernel
theorem dL_law_483 : decode cL_law 483 = .ok (.aload_n 2, 1) := by decide +kernel
theorem dL_law_484 : decode cL_law 484 = .ok (.aload_n 0, 1) := by decide +kernel
theorem dL_law_485 : decode cL_law 485 = .ok (.iload_n 3, 1) := by decide +kernel
theorem dL_law_486 : decode cL_law 486 = .ok (.iconst 1, 1) := by decide +kernel
theorem dL_law_487 : decode cL_law 487 = .ok (.iadd, 1) := by decide +kernel
theorem dL_law_488 : decode cL_law 488 = .ok (.iaload, 1) := by decide +kernel
theorem dL_law_489 : decode cL_law 489 = .ok (.invokevirtual 54, 3) := by decide +kernel
theorem dL_law_492 : decode cL_law 492 = .ok (.lcmp, 1) := by decide +kernel
theorem dL_law_493 : decode cL_law 493 = .ok (.ifCond .eq 803, 3) := by decide +kernel
theorem dL_law_496 : decode cL_law 496 = .ok (.iconst 0, 1) := by decide +kernel
theorem dL_law_497 : decode cL_law 497 = .ok (.ireturn, 1) := by decide +kernel
theorem dL_law_498 : decode cL_law 498 = .ok (.aload_n 1, 1) := by decide +kernel
theorem dL_law_499 : decode cL_law 499 = .ok (.aload_n 0, 1) := by decide +kernel
theorem dL_law_500 : decode cL_law 500 = .ok (.iload_n 3, 1) := by decide +kernel
theorem dL_law_501 : decode cL_law 501 = .ok (.iconst 1, 1) := by decide +kernel
theorem dL_law_502 : decode cL_law 502 = .ok (.iadd, 1) := by decide +kernel
theorem dL_law_503 : decode cL_law 503 = .ok (.iaload, 1) := by decide +kernel
theorem dL_law_504 : decode cL_law 504 = .ok (.aload_n 0, 1) := by decide +kernel
theorem dL_law_505 : decode cL_law 505 = .ok (.iload_n 3, 1) := by decide +kernel
theorem dL_law_506 : decode cL_law 506 = .ok (.iconst 2, 1) := by decide +kernel
theorem dL_law_507 : decode cL_law 507 = .ok (.iadd, 1) := by decide +kernel
theorem dL_law_508 : decode cL_law 508 = .ok (.iaload, 1) := by decide +kernel
theorem dL_law_509 : decode cL_law 509 = .ok (.invokevirtual 55, 3) := by decide +kernel
theorem dL_law_512 : decode cL_law 512 = .ok (.aload_n 2, 1) := by decide +kernel
theorem dL_law_513 : decode cL_law 513 = .ok (.aload_n 0, 1) := by decide +kernel
theorem dL_law_514 : decode cL_law 514 = .ok (.iload_n 3, 1) := by decide +kernel
theorem dL_law_515 : decode cL_law 515 = .ok (.iconst 1, 1) := by decide +kernel
theorem dL_law_516 : decode cL_law 516 = .ok (.iadd, 1) := by decide +kernel
theorem dL_law_517 : decode cL_law 517 = .ok (.iaload, 1) := by decide +kernel
theorem dL_law_518 : decode cL_law 518 = .ok (.aload_n 0, 1) := by decide +kernel
theorem dL_law_519 : decode cL_law 519 = .ok (.iload_n 3, 1) := by decide +kernel
theorem dL_law_520 : decode cL_law 520 = .ok (.iconst 2, 1) := by decide +kernel
theorem dL_law_521 : decode cL_law 521 = .ok (.iadd, 1) := by decide +kernel
theorem dL_law_522 : decode cL_law 522 = .ok (.iaload, 1) := by decide +kernel
theorem dL_law_523 : decode cL_law 523 = .ok (.invokevirtual 58, 3) := by decide +kernel
theorem dL_law_526 : decode cL_law 526 = .ok (.if_icmp .eq 770, 3) := by decide +kernel
theorem dL_law_529 : decode cL_law 529 = .ok (.iconst 0, 1) := by decide +kernel
theorem dL_law_530 : decode cL_law 530 = .ok (.ireturn, 1) := by decide +kernel
theorem dL_law_531 : decode cL_law 531 = .ok (.aload_n 1, 1) := by decide +kernel
theorem dL_law_532 : decode cL_law 532 = .ok (.aload_n 0, 1) := by decide +kernel
theorem dL_law_533 : decode cL_law 533 = .ok (.iload_n 3, 1) := by decide +kernel
theorem dL_law_534 : decode cL_law 534 = .ok (.iconst 1, 1) := by decide +kernel
theorem dL_law_535 : decode cL_law 535 = .ok (.iadd, 1) := by decide +kernel
theorem dL_law_536 : decode cL_law 536 = .ok (.iaload, 1) := by decide +kernel
theorem dL_law_537 : decode cL_law 537 = .ok (.aload_n 0, 1) := by decide +kernel
theorem dL_law_538 : decode cL_law 538 = .ok (.iload_n 3, 1) := by decide +kernel
theorem dL_law_539 : decode cL_law 539 = .ok (.iconst 2, 1) := by decide +kernel
theorem dL_law_540 : decode cL_law 540 = .ok (.iadd, 1) := by decide +kernel
theorem dL_law_541 : decode cL_law 541 = .ok (.iaload, 1) := by decide +kernel
theorem dL_law_542 : decode cL_law 542 = .ok (.aload_n 0, 1) := by decide +kernel
theorem dL_law_543 : decode cL_law 543 = .ok (.iload_n 3, 1) := by decide +kernel
theorem dL_law_544 : decode cL_law 544 = .ok (.iconst 3, 1) := by decide +kernel
theorem dL_law_545 : decode cL_law 545 = .ok (.iadd, 1) := by decide +kernel
theorem dL_law_546 : decode cL_law 546 = .ok (.iaload, 1) := by decide +kernel
theorem dL_law_547 : decode cL_law 547 = .ok (.invokevirtual 59, 3) := by decide +kernel
theorem dL_law_550 : decode cL_law 550 = .ok (.aload_n 2, 1) := by decide +kernel
theorem dL_law_551 : decode cL_law 551 = .ok (.aload_n 0, 1) := by decide +kernel
theorem dL_law_552 : decode cL_law 552 = .ok (.iload_n 3, 1) := by decide +kernel
theorem dL_law_553 : decode cL_law 553 = .ok (.iconst 1, 1) := by decide +kernel
theorem dL_law_554 : decode cL_law 554 = .ok (.iadd, 1) := by decide +kernel
theorem dL_law_555 : decode cL_law 555 = .ok (.iaload, 1) := by decide +kernel
theorem dL_law_556 : decode cL_law 556 = .ok (.aload_n 0, 1) := by decide +kernel
theorem dL_law_557 : decode cL_law 557 = .ok (.iload_n 3, 1) := by decide +kernel
theorem dL_law_558 : decode cL_law 558 = .ok (.iconst 2, 1) := by decide +kernel
theorem dL_law_559 : decode cL_law 559 = .ok (.iadd, 1) := by decide +kernel
theorem dL_law_560 : decode cL_law 560 = .ok (.iaload, 1) := by decide +kernel
theorem dL_law_561 : decode cL_law 561 = .ok (.aload_n 0, 1) := by decide +kernel
theorem dL_law_562 : decode cL_law 562 = .ok (.iload_n 3, 1) := by decide +kernel
theorem dL_law_563 : decode cL_law 563 = .ok (.iconst 3, 1) := by decide +kernel
theorem dL_law_564 : decode cL_law 564 = .ok (.iadd, 1) := by decide +kernel
theorem dL_law_565 : decode cL_law 565 = .ok (.iaload, 1) := by decide +kernel
theorem dL_law_566 : decode cL_law 566 = .ok (.invokevirtual 62, 3) := by decide +kernel
theorem dL_law_569 : decode cL_law 569 = .ok (.if_icmp .eq 727, 3) := by decide +kernel
theorem dL_law_572 : decode cL_law 572 = .ok (.iconst 0, 1) := by decide +kernel
theorem dL_law_573 : decode cL_law 573 = .ok (.ireturn, 1) := by decide +kernel
theorem dL_law_574 : decode cL_law 574 = .ok (.aload_n 1, 1) := by decide +kernel
theorem dL_law_575 : decode cL_law 575 = .ok (.aload_n 0, 1) := by decide +kernel
theorem dL_law_576 : decode cL_law 576 = .ok (.iload_n 3, 1) := by decide +kernel
theorem dL_law_577 : decode cL_law 577 = .ok (.iconst 1, 1) := by decide +kernel
theorem dL_law_578 : decode cL_law 578 = .ok (.iadd, 1) := by decide +kernel
theorem dL_law_579 : decode cL_law 579 = .ok (.iaload, 1) := by decide +kernel
theorem dL_law_580 : decode cL_law 580 = .ok (.aload_n 0, 1) := by decide +kernel
theorem dL_law_581 : decode cL_law 581 = .ok (.iload_n 3, 1) := by decide +kernel
theorem dL_law_582 : decode cL_law 582 = .ok (.iconst 2, 1) := by decide +kernel
theorem dL_law_583 : decode cL_law 583 = .ok (.iadd, 1) := by decide +kernel
theorem dL_law_584 : decode cL_law 584 = .ok (.iaload, 1) := by decide +kernel
theorem dL_law_585 : decode cL_law 585 = .ok (.invokevirtual 63, 3) := by decide +kernel
theorem dL_law_588 : decode cL_law 588 = .ok (.aload_n 2, 1) := by decide +kernel
theorem dL_law_589 : decode cL_law 589 = .ok (.aload_n 0, 1) := by decide +kernel
theorem dL_law_590 : decode cL_law 590 = .ok (.iload_n 3, 1) := by decide +kernel
theorem dL_law_591 : decode cL_law 591 = .ok (.iconst 1, 1) := by decide +kernel
theorem dL_law_592 : decode cL_law 592 = .ok (.iadd, 1) := by decide +kernel
theorem dL_law_593 : decode cL_law 593 = .ok (.iaload, 1) := by decide +kernel
theorem dL_law_594 : decode cL_law 594 = .ok (.aload_n 0, 1) := by decide +kernel
theorem dL_law_595 : decode cL_law 595 = .ok (.iload_n 3, 1) := by decide +kernel
theorem dL_law_596 : decode cL_law 596 = .ok (.iconst 2, 1) := by decide +kernel
theorem dL_law_597 : decode cL_law 597 = .ok (.iadd, 1) := by decide +kernel
theorem dL_law_598 : decode cL_law 598 = .ok (.iaload, 1) := by decide +kernel
theorem dL_law_599 : decode cL_law 599 = .ok (.invokevirtual 66, 3) := by decide +kernel
theorem dL_law_602 : decode cL_law 602 = .ok (.if_icmp .eq 694, 3) := by decide +kernel
theorem dL_law_605 : decode cL_law 605 = .ok (.iconst 0, 1) := by decide +kernel
theorem dL_law_606 : decode cL_law 606 = .ok (.ireturn, 1) := by decide +kernel
theorem dL_law_607 : decode cL_law 607 = .ok (.aload_n 1, 1) := by decide +kernel
theorem dL_law_608 : decode cL_law 608 = .ok (.aload_n 0, 1) := by decide +kernel
theorem dL_law_609 : decode cL_law 609 = .ok (.iload_n 3, 1) := by decide +kernel
theorem dL_law_610 : decode cL_law 610 = .ok (.iconst 1, 1) := by decide +kernel
theorem dL_law_611 : decode cL_law 611 = .ok (.iadd, 1) := by decide +kernel
theorem dL_law_612 : decode cL_law 612 = .ok (.iaload, 1) := by decide +kernel
theorem dL_law_613 : decode cL_law 613 = .ok (.aload_n 0, 1) := by decide +kernel
theorem dL_law_614 : decode cL_law 614 = .ok (.iload_n 3, 1) := by decide +kernel
theorem dL_law_615 : decode cL_law 615 = .ok (.iconst 2, 1) := by decide +kernel
theorem dL_law_616 : decode cL_law 616 = .ok (.iadd, 1) := by decide +kernel
theorem dL_law_617 : decode cL_law 617 = .ok (.iaload, 1) := by decide +kernel
theorem dL_law_618 : decode cL_law 618 = .ok (.aload_n 0, 1) := by decide +kernel
theorem dL_law_619 : decode cL_law 619 = .ok (.iload_n 3, 1) := by decide +kernel
theorem dL_law_620 : decode cL_law 620 = .ok (.iconst 3, 1) := by decide +kernel
theorem dL_law_621 : decode cL_law 621 = .ok (.iadd, 1) := by decide +kernel
theorem dL_law_622 : decode cL_law 622 = .ok (.iaload, 1) := by decide +kernel
theorem dL_law_623 : decode cL_law 623 = .ok (.invokevirtual 67, 3) := by decide +kernel
theorem dL_law_626 : decode cL_law 626 = .ok (.aload_n 2, 1) := by decide +kernel
theorem dL_law_627 : decode cL_law 627 = .ok (.aload_n 0, 1) := by decide +kernel
theorem dL_law_628 : decode cL_law 628 = .ok (.iload_n 3, 1) := by decide +kernel
theorem dL_law_629 : decode cL_law 629 = .ok (.iconst 1, 1) := by decide +kernel
theorem dL_law_630 : decode cL_law 630 = .ok (.iadd, 1) := by decide +kernel
theorem dL_law_631 : decode cL_law 631 = .ok (.iaload, 1) := by decide +kernel
theorem dL_law_632 : decode cL_law 632 = .ok (.aload_n 0, 1) := by decide +kernel
theorem dL_law_633 : decode cL_law 633 = .ok (.iload_n 3, 1) := by decide +kernel
theorem dL_law_634 : decode cL_law 634 = .ok (.iconst 2, 1) := by decide +kernel
theorem dL_law_635 : decode cL_law 635 = .ok (.iadd, 1) := by decide +kernel
theorem dL_law_636 : decode cL_law 636 = .ok (.iaload, 1) := by decide +kernel
theorem dL_law_637 : decode cL_law 637 = .ok (.aload_n 0, 1) := by decide +kernel
theorem dL_law_638 : decode cL_law 638 = .ok (.iload_n 3, 1) := by decide +kernel
theorem dL_law_639 : decode cL_law 639 = .ok (.iconst 3, 1) := by decide +kernel
theorem dL_law_640 : decode cL_law 640 = .ok (.iadd, 1) := by decide +kernel
theorem dL_law_641 : decode cL_law 641 = .ok (.iaload, 1) := by decide +kernel
theorem dL_law_642 : decode cL_law 642 = .ok (.invokevirtual 70, 3) := by decide +kernel
theorem dL_law_645 : decode cL_law 645 = .ok (.if_icmp .eq 651, 3) := by decide +kernel
theorem dL_law_648 : decode cL_law 648 = .ok (.iconst 0, 1) := by decide +kernel
theorem dL_law_649 : decode cL_law 649 = .ok (.ireturn, 1) := by decide +kernel
theorem dL_law_650 : decode cL_law 650 = .ok (.aload_n 1, 1) := by decide +kernel
theorem dL_law_651 : decode cL_law 651 = .ok (.aload_n 0, 1) := by decide +kernel
theorem dL_law_652 : decode cL_law 652 = .ok (.iload_n 3, 1) := by decide +kernel
theorem dL_law_653 : decode cL_law 653 = .ok (.iconst 1, 1) := by decide +kernel
theorem dL_law_654 : decode cL_law 654 = .ok (.iadd, 1) := by decide +kernel
theorem dL_law_655 : decode cL_law 655 = .ok (.iaload, 1) := by decide +kernel
theorem dL_law_656 : decode cL_law 656 = .ok (.aload_n 0, 1) := by decide +kernel
theorem dL_law_657 : decode cL_law 657 = .ok (.iload_n 3, 1) := by decide +kernel
theorem dL_law_658 : decode cL_law 658 = .ok (.iconst 2, 1) := by decide +kernel
theorem dL_law_659 : decode cL_law 659 = .ok (.iadd, 1) := by decide +kernel
theorem dL_law_660 : decode cL_law 660 = .ok (.iaload, 1) := by decide +kernel
theorem dL_law_661 : decode cL_law 661 = .ok (.aload_n 0, 1) := by decide +kernel
theorem dL_law_662 : decode cL_law 662 = .ok (.iload_n 3, 1) := by decide +kernel
theorem dL_law_663 : decode cL_law 663 = .ok (.iconst 3, 1) := by decide +kernel
theorem dL_law_664 : decode cL_law 664 = .ok (.iadd, 1) := by decide +kernel
theorem dL_law_665 : decode cL_law 665 = .ok (.iaload, 1) := by decide +kernel
theorem dL_law_666 : decode cL_law 666 = .ok (.invokevirtual 71, 3) := by decide +kernel
theorem dL_law_669 : decode cL_law 669 = .ok (.aload_n 2, 1) := by decide +kernel
theorem dL_law_670 : decode cL_law 670 = .ok (.aload_n 0, 1) := by decide +kernel
theorem dL_law_671 : decode cL_law 671 = .ok (.iload_n 3, 1) := by decide +kernel
theorem dL_law_672 : decode cL_law 672 = .ok (.iconst 1, 1) := by decide +kernel
theorem dL_law_673 : decode cL_law 673 = .ok (.iadd, 1) := by decide +kernel
theorem dL_law_674 : decode cL_law 674 = .ok (.iaload, 1) := by decide +kernel
theorem dL_law_675 : decode cL_law 675 = .ok (.aload_n 0, 1) := by decide +kernel
theorem dL_law_676 : decode cL_law 676 = .ok (.iload_n 3, 1) := by decide +kernel
theorem dL_law_677 : decode cL_law 677 = .ok (.iconst 2, 1) := by decide +kernel
theorem dL_law_678 : decode cL_law 678 = .ok (.iadd, 1) := by decide +kernel
theorem dL_law_679 : decode cL_law 679 = .ok (.iaload, 1) := by decide +kernel
theorem dL_law_680 : decode cL_law 680 = .ok (.aload_n 0, 1) := by decide +kernel
theorem dL_law_681 : decode cL_law 681 = .ok (.iload_n 3, 1) := by decide +kernel
theorem dL_law_682 : decode cL_law 682 = .ok (.iconst 3, 1) := by decide +kernel
theorem dL_law_683 : decode cL_law 683 = .ok (.iadd, 1) := by decide +kernel
theorem dL_law_684 : decode cL_law 684 = .ok (.iaload, 1) := by decide +kernel
theorem dL_law_685 : decode cL_law 685 = .ok (.invokevirtual 74, 3) := by decide +kernel
theorem dL_law_688 : decode cL_law 688 = .ok (.if_icmp .eq 608, 3) := by decide +kernel
theorem dL_law_691 : decode cL_law 691 = .ok (.iconst 0, 1) := by decide +kernel
theorem dL_law_692 : decode cL_law 692 = .ok (.ireturn, 1) := by decide +kernel
theorem dL_law_693 : decode cL_law 693 = .ok (.aload_n 1, 1) := by decide +kernel
theorem dL_law_694 : decode cL_law 694 = .ok (.invokevirtual 75, 3) := by decide +kernel
theorem dL_law_697 : decode cL_law 697 = .ok (.aload_n 2, 1) := by decide +kernel
theorem dL_law_698 : decode cL_law 698 = .ok (.invokevirtual 79, 3) := by decide +kernel
theorem dL_law_701 : decode cL_law 701 = .ok (.if_icmp .eq 595, 3) := by decide +kernel
theorem dL_law_704 : decode cL_law 704 = .ok (.iconst 0, 1) := by decide +kernel
theorem dL_law_705 : decode cL_law 705 = .ok (.ireturn, 1) := by decide +kernel
theorem dL_law_706 : decode cL_law 706 = .ok (.aload_n 1, 1) := by decide +kernel
theorem dL_law_707 : decode cL_law 707 = .ok (.aload_n 0, 1) := by decide +kernel
theorem dL_law_708 : decode cL_law 708 = .ok (.iload_n 3, 1) := by decide +kernel
theorem dL_law_709 : decode cL_law 709 = .ok (.iconst 1, 1) := by decide +kernel
theorem dL_law_710 : decode cL_law 710 = .ok (.iadd, 1) := by decide +kernel
theorem dL_law_711 : decode cL_law 711 = .ok (.iaload, 1) := by decide +kernel
theorem dL_law_712 : decode cL_law 712 = .ok (.aload_n 0, 1) := by decide +kernel
theorem dL_law_713 : decode cL_law 713 = .ok (.iload_n 3, 1) := by decide +kernel
theorem dL_law_714 : decode cL_law 714 = .ok (.iconst 2, 1) := by decide +kernel
theorem dL_law_715 : decode cL_law 715 = .ok (.iadd, 1) := by decide +kernel
theorem dL_law_716 : decode cL_law 716 = .ok (.iaload, 1) := by decide +kernel
theorem dL_law_717 : decode cL_law 717 = .ok (.invokevirtual 80, 3) := by decide +kernel
theorem dL_law_720 : decode cL_law 720 = .ok (.aload_n 2, 1) := by decide +kernel
theorem dL_law_721 : decode cL_law 721 = .ok (.aload_n 0, 1) := by decide +kernel
theorem dL_law_722 : decode cL_law 722 = .ok (.iload_n 3, 1) := by decide +kernel
theorem dL_law_723 : decode cL_law 723 = .ok (.iconst 1, 1) := by decide +kernel
theorem dL_law_724 : decode cL_law 724 = .ok (.iadd, 1) := by decide +kernel
theorem dL_law_725 : decode cL_law 725 = .ok (.iaload, 1) := by decide +kernel
theorem dL_law_726 : decode cL_law 726 = .ok (.aload_n 0, 1) := by decide +kernel
theorem dL_law_727 : decode cL_law 727 = .ok (.iload_n 3, 1) := by decide +kernel
theorem dL_law_728 : decode cL_law 728 = .ok (.iconst 2, 1) := by decide +kernel
theorem dL_law_729 : decode cL_law 729 = .ok (.iadd, 1) := by decide +kernel
theorem dL_law_730 : decode cL_law 730 = .ok (.iaload, 1) := by decide +kernel
theorem dL_law_731 : decode cL_law 731 = .ok (.invokevirtual 83, 3) := by decide +kernel
theorem dL_law_734 : decode cL_law 734 = .ok (.if_icmp .eq 562, 3) := by decide +kernel
theorem dL_law_737 : decode cL_law 737 = .ok (.iconst 0, 1) := by decide +kernel
theorem dL_law_738 : decode cL_law 738 = .ok (.ireturn, 1) := by decide +kernel
theorem dL_law_739 : decode cL_law 739 = .ok (.aload_n 1, 1) := by decide +kernel
theorem dL_law_740 : decode cL_law 740 = .ok (.aload_n 0, 1) := by decide +kernel
theorem dL_law_741 : decode cL_law 741 = .ok (.iload_n 3, 1) := by decide +kernel
theorem dL_law_742 : decode cL_law 742 = .ok (.iconst 1, 1) := by decide +kernel
theorem dL_law_743 : decode cL_law 743 = .ok (.iadd, 1) := by decide +kernel
theorem dL_law_744 : decode cL_law 744 = .ok (.iaload, 1) := by decide +kernel
theorem dL_law_745 : decode cL_law 745 = .ok (.invokevirtual 84, 3) := by decide +kernel
theorem dL_law_748 : decode cL_law 748 = .ok (.aload_n 2, 1) := by decide +kernel
theorem dL_law_749 : decode cL_law 749 = .ok (.aload_n 0, 1) := by decide +kernel
theorem dL_law_750 : decode cL_law 750 = .ok (.iload_n 3, 1) := by decide +kernel
theorem dL_law_751 : decode cL_law 751 = .ok (.iconst 1, 1) := by decide +kernel
theorem dL_law_752 : decode cL_law 752 = .ok (.iadd, 1) := by decide +kernel
theorem dL_law_753 : decode cL_law 753 = .ok (.iaload, 1) := by decide +kernel
theorem dL_law_754 : decode cL_law 754 = .ok (.invokevirtual 87, 3) := by decide +kernel
theorem dL_law_757 : decode cL_law 757 = .ok (.if_icmp .eq 539, 3) := by decide +kernel
theorem dL_law_760 : decode cL_law 760 = .ok (.iconst 0, 1) := by decide +kernel
theorem dL_law_761 : decode cL_law 761 = .ok (.ireturn, 1) := by decide +kernel
theorem dL_law_762 : decode cL_law 762 = .ok (.aload_n 1, 1) := by decide +kernel
theorem dL_law_763 : decode cL_law 763 = .ok (.aload_n 0, 1) := by decide +kernel
theorem dL_law_764 : decode cL_law 764 = .ok (.iload_n 3, 1) := by decide +kernel
theorem dL_law_765 : decode cL_law 765 = .ok (.iconst 1, 1) := by decide +kernel
theorem dL_law_766 : decode cL_law 766 = .ok (.iadd, 1) := by decide +kernel
theorem dL_law_767 : decode cL_law 767 = .ok (.iaload, 1) := by decide +kernel
theorem dL_law_768 : decode cL_law 768 = .ok (.aload_n 0, 1) := by decide +kernel
theorem dL_law_769 : decode cL_law 769 = .ok (.iload_n 3, 1) := by decide +kernel
theorem dL_law_770 : decode cL_law 770 = .ok (.iconst 2, 1) := by decide +kernel
theorem dL_law_771 : decode cL_law 771 = .ok (.iadd, 1) := by decide +kernel
theorem dL_law_772 : decode cL_law 772 = .ok (.iaload, 1) := by decide +kernel
theorem dL_law_773 : decode cL_law 773 = .ok (.ifCond .eq 7, 3) := by decide +kernel
theorem dL_law_776 : decode cL_law 776 = .ok (.iconst 1, 1) := by decide +kernel
theorem dL_law_777 : decode cL_law 777 = .ok (.goto 4, 3) := by decide +kernel
theorem dL_law_780 : decode cL_law 780 = .ok (.iconst 0, 1) := by decide +kernel
theorem dL_law_781 : decode cL_law 781 = .ok (.invokevirtual 88, 3) := by decide +kernel
theorem dL_law_784 : decode cL_law 784 = .ok (.aload_n 2, 1) := by decide +kernel
theorem dL_law_785 : decode cL_law 785 = .ok (.aload_n 0, 1) := by decide +kernel
theorem dL_law_786 : decode cL_law 786 = .ok (.iload_n 3, 1) := by decide +kernel
theorem dL_law_787 : decode cL_law 787 = .ok (.iconst 1, 1) := by decide +kernel
theorem dL_law_788 : decode cL_law 788 = .ok (.iadd, 1) := by decide +kernel
theorem dL_law_789 : decode cL_law 789 = .ok (.iaload, 1) := by decide +kernel
theorem dL_law_790 : decode cL_law 790 = .ok (.aload_n 0, 1) := by decide +kernel
theorem dL_law_791 : decode cL_law 791 = .ok (.iload_n 3, 1) := by decide +kernel
theorem dL_law_792 : decode cL_law 792 = .ok (.iconst 2, 1) := by decide +kernel
theorem dL_law_793 : decode cL_law 793 = .ok (.iadd, 1) := by decide +kernel
theorem dL_law_794 : decode cL_law 794 = .ok (.iaload, 1) := by decide +kernel
theorem dL_law_795 : decode cL_law 795 = .ok (.ifCond .eq 7, 3) := by decide +kernel
theorem dL_law_798 : decode cL_law 798 = .ok (.iconst 1, 1) := by decide +kernel
theorem dL_law_799 : decode cL_law 799 = .ok (.goto 4, 3) := by decide +kernel
theorem dL_law_802 : decode cL_law 802 = .ok (.iconst 0, 1) := by decide +kernel
theorem dL_law_803 : decode cL_law 803 = .ok (.invokevirtual 92, 3) := by decide +kernel
theorem dL_law_806 : decode cL_law 806 = .ok (.if_icmp .eq 490, 3) := by decide +kernel
theorem dL_law_809 : decode cL_law 809 = .ok (.iconst 0, 1) := by decide +kernel
theorem dL_law_810 : decode cL_law 810 = .ok (.ireturn, 1) := by decide +kernel
theorem dL_law_811 : decode cL_law 811 = .ok (.aload_n 1, 1) := by decide +kernel
theorem dL_law_812 : decode cL_law 812 = .ok (.aload_n 0, 1) := by decide +kernel
theorem dL_law_813 : decode cL_law 813 = .ok (.iload_n 3, 1) := by decide +kernel
theorem dL_law_814 : decode cL_law 814 = .ok (.iconst 1, 1) := by decide +kernel
theorem dL_law_815 : decode cL_law 815 = .ok (.iadd, 1) := by decide +kernel
theorem dL_law_816 : decode cL_law 816 = .ok (.iaload, 1) := by decide +kernel
theorem dL_law_817 : decode cL_law 817 = .ok (.invokevirtual 93, 3) := by decide +kernel
theorem dL_law_820 : decode cL_law 820 = .ok (.aload_n 2, 1) := by decide +kernel
theorem dL_law_821 : decode cL_law 821 = .ok (.aload_n 0, 1) := by decide +kernel
theorem dL_law_822 : decode cL_law 822 = .ok (.iload_n 3, 1) := by decide +kernel
theorem dL_law_823 : decode cL_law 823 = .ok (.iconst 1, 1) := by decide +kernel
theorem dL_law_824 : decode cL_law 824 = .ok (.iadd, 1) := by decide +kernel
theorem dL_law_825 : decode cL_law 825 = .ok (.iaload, 1) := by decide +kernel
theorem dL_law_826 : decode cL_law 826 = .ok (.invokevirtual 96, 3) := by decide +kernel
theorem dL_law_829 : decode cL_law 829 = .ok (.if_icmp .eq 467, 3) := by decide +kernel
theorem dL_law_832 : decode cL_law 832 = .ok (.iconst 0, 1) := by decide +kernel
theorem dL_law_833 : decode cL_law 833 = .ok (.ireturn, 1) := by decide +kernel
theorem dL_law_834 : decode cL_law 834 = .ok (.aload_n 1, 1) := by decide +kernel
theorem dL_law_835 : decode cL_law 835 = .ok (.aload_n 0, 1) := by decide +kernel
theorem dL_law_836 : decode cL_law 836 = .ok (.iload_n 3, 1) := by decide +kernel
theorem dL_law_837 : decode cL_law 837 = .ok (.iconst 1, 1) := by decide +kernel
theorem dL_law_838 : decode cL_law 838 = .ok (.iadd, 1) := by decide +kernel
theorem dL_law_839 : decode cL_law 839 = .ok (.iaload, 1) := by decide +kernel
theorem dL_law_840 : decode cL_law 840 = .ok (.aload_n 0, 1) := by decide +kernel
theorem dL_law_841 : decode cL_law 841 = .ok (.iload_n 3, 1) := by decide +kernel
theorem dL_law_842 : decode cL_law 842 = .ok (.iconst 2, 1) := by decide +kernel
theorem dL_law_843 : decode cL_law 843 = .ok (.iadd, 1) := by decide +kernel
theorem dL_law_844 : decode cL_law 844 = .ok (.iaload, 1) := by decide +kernel
theorem dL_law_845 : decode cL_law 845 = .ok (.invokevirtual 97, 3) := by decide +kernel
theorem dL_law_848 : decode cL_law 848 = .ok (.aload_n 2, 1) := by decide +kernel
theorem dL_law_849 : decode cL_law 849 = .ok (.aload_n 0, 1) := by decide +kernel
theorem dL_law_850 : decode cL_law 850 = .ok (.iload_n 3, 1) := by decide +kernel
theorem dL_law_851 : decode cL_law 851 = .ok (.iconst 1, 1) := by decide +kernel
theorem dL_law_852 : decode cL_law 852 = .ok (.iadd, 1) := by decide +kernel
theorem dL_law_853 : decode cL_law 853 = .ok (.iaload, 1) := by decide +kernel
theorem dL_law_854 : decode cL_law 854 = .ok (.aload_n 0, 1) := by decide +kernel
theorem dL_law_855 : decode cL_law 855 = .ok (.iload_n 3, 1) := by decide +kernel
theorem dL_law_856 : decode cL_law 856 = .ok (.iconst 2, 1) := by decide +kernel
theorem dL_law_857 : decode cL_law 857 = .ok (.iadd, 1) := by decide +kernel
theorem dL_law_858 : decode cL_law 858 = .ok (.iaload, 1) := by decide +kernel
theorem dL_law_859 : decode cL_law 859 = .ok (.invokevirtual 100, 3) := by decide +kernel
theorem dL_law_862 : decode cL_law 862 = .ok (.if_icmp .eq 434, 3) := by decide +kernel
theorem dL_law_865 : decode cL_law 865 = .ok (.iconst 0, 1) := by decide +kernel
theorem dL_law_866 : decode cL_law 866 = .ok (.ireturn, 1) := by decide +kernel
theorem dL_law_867 : decode cL_law 867 = .ok (.aload_n 1, 1) := by decide +kernel
theorem dL_law_868 : decode cL_law 868 = .ok (.aload_n 0, 1) := by decide +kernel
theorem dL_law_869 : decode cL_law 869 = .ok (.iload_n 3, 1) := by decide +kernel
theorem dL_law_870 : decode cL_law 870 = .ok (.iconst 1, 1) := by decide +kernel
theorem dL_law_871 : decode cL_law 871 = .ok (.iadd, 1) := by decide +kernel
theorem dL_law_872 : decode cL_law 872 = .ok (.iaload, 1) := by decide +kernel
theorem dL_law_873 : decode cL_law 873 = .ok (.aload_n 0, 1) := by decide +kernel
theorem dL_law_874 : decode cL_law 874 = .ok (.iload_n 3, 1) := by decide +kernel
theorem dL_law_875 : decode cL_law 875 = .ok (.iconst 2, 1) := by decide +kernel
theorem dL_law_876 : decode cL_law 876 = .ok (.iadd, 1) := by decide +kernel
theorem dL_law_877 : decode cL_law 877 = .ok (.iaload, 1) := by decide +kernel
theorem dL_law_878 : decode cL_law 878 = .ok (.aload_n 0, 1) := by decide +kernel
theorem dL_law_879 : decode cL_law 879 = .ok (.iload_n 3, 1) := by decide +kernel
theorem dL_law_880 : decode cL_law 880 = .ok (.iconst 3, 1) := by decide +kernel
theorem dL_law_881 : decode cL_law 881 = .ok (.iadd, 1) := by decide +kernel
theorem dL_law_882 : decode cL_law 882 = .ok (.iaload, 1) := by decide +kernel
theorem dL_law_883 : decode cL_law 883 = .ok (.invokevirtual 101, 3) := by decide +kernel
theorem dL_law_886 : decode cL_law 886 = .ok (.aload_n 2, 1) := by decide +kernel
theorem dL_law_887 : decode cL_law 887 = .ok (.aload_n 0, 1) := by decide +kernel
theorem dL_law_888 : decode cL_law 888 = .ok (.iload_n 3, 1) := by decide +kernel
theorem dL_law_889 : decode cL_law 889 = .ok (.iconst 1, 1) := by decide +kernel
theorem dL_law_890 : decode cL_law 890 = .ok (.iadd, 1) := by decide +kernel
theorem dL_law_891 : decode cL_law 891 = .ok (.iaload, 1) := by decide +kernel
theorem dL_law_892 : decode cL_law 892 = .ok (.aload_n 0, 1) := by decide +kernel
theorem dL_law_893 : decode cL_law 893 = .ok (.iload_n 3, 1) := by decide +kernel
theorem dL_law_894 : decode cL_law 894 = .ok (.iconst 2, 1) := by decide +kernel
theorem dL_law_895 : decode cL_law 895 = .ok (.iadd, 1) := by decide +kernel
theorem dL_law_896 : decode cL_law 896 = .ok (.iaload, 1) := by decide +kernel
theorem dL_law_897 : decode cL_law 897 = .ok (.aload_n 0, 1) := by decide +kernel
theorem dL_law_898 : decode cL_law 898 = .ok (.iload_n 3, 1) := by decide +kernel
theorem dL_law_899 : decode cL_law 899 = .ok (.iconst 3, 1) := by decide +kernel
theorem dL_law_900 : decode cL_law 900 = .ok (.iadd, 1) := by decide +kernel
theorem dL_law_901 : decode cL_law 901 = .ok (.iaload, 1) := by decide +kernel
theorem dL_law_902 : decode cL_law 902 = .ok (.invokevirtual 104, 3) := by decide +kernel
theorem dL_law_905 : decode cL_law 905 = .ok (.if_icmp .eq 391, 3) := by decide +kernel
theorem dL_law_908 : decode cL_law 908 = .ok (.iconst 0, 1) := by decide +kernel
theorem dL_law_909 : decode cL_law 909 = .ok (.ireturn, 1) := by decide +kernel
theorem dL_law_910 : decode cL_law 910 = .ok (.aload_n 1, 1) := by decide +kernel
theorem dL_law_911 : decode cL_law 911 = .ok (.aload_n 0, 1) := by decide +kernel
theorem dL_law_912 : decode cL_law 912 = .ok (.iload_n 3, 1) := by decide +kernel
theorem dL_law_913 : decode cL_law 913 = .ok (.iconst 1, 1) := by decide +kernel
theorem dL_law_914 : decode cL_law 914 = .ok (.iadd, 1) := by decide +kernel
theorem dL_law_915 : decode cL_law 915 = .ok (.iaload, 1) := by decide +kernel
theorem dL_law_916 : decode cL_law 916 = .ok (.aload_n 0, 1) := by decide +kernel
theorem dL_law_917 : decode cL_law 917 = .ok (.iload_n 3, 1) := by decide +kernel
theorem dL_law_918 : decode cL_law 918 = .ok (.iconst 2, 1) := by decide +kernel
theorem dL_law_919 : decode cL_law 919 = .ok (.iadd, 1) := by decide +kernel
theorem dL_law_920 : decode cL_law 920 = .ok (.iaload, 1) := by decide +kernel
theorem dL_law_921 : decode cL_law 921 = .ok (.aload_n 0, 1) := by decide +kernel
theorem dL_law_922 : decode cL_law 922 = .ok (.iload_n 3, 1) := by decide +kernel
theorem dL_law_923 : decode cL_law 923 = .ok (.iconst 3, 1) := by decide +kernel
theorem dL_law_924 : decode cL_law 924 = .ok (.iadd, 1) := by decide +kernel
theorem dL_law_925 : decode cL_law 925 = .ok (.iaload, 1) := by decide +kernel
theorem dL_law_926 : decode cL_law 926 = .ok (.aload_n 0, 1) := by decide +kernel
theorem dL_law_927 : decode cL_law 927 = .ok (.iload_n 3, 1) := by decide +kernel
theorem dL_law_928 : decode cL_law 928 = .ok (.iconst 4, 1) := by decide +kernel
theorem dL_law_929 : decode cL_law 929 = .ok (.iadd, 1) := by decide +kernel
theorem dL_law_930 : decode cL_law 930 = .ok (.iaload, 1) := by decide +kernel
theorem dL_law_931 : decode cL_law 931 = .ok (.ifCond .eq 7, 3) := by decide +kernel
theorem dL_law_934 : decode cL_law 934 = .ok (.iconst 1, 1) := by decide +kernel
theorem dL_law_935 : decode cL_law 935 = .ok (.goto 4, 3) := by decide +kernel
theorem dL_law_938 : decode cL_law 938 = .ok (.iconst 0, 1) := by decide +kernel
theorem dL_law_939 : decode cL_law 939 = .ok (.invokevirtual 105, 3) := by decide +kernel
theorem dL_law_942 : decode cL_law 942 = .ok (.aload_n 2, 1) := by decide +kernel
theorem dL_law_943 : decode cL_law 943 = .ok (.aload_n 0, 1) := by decide +kernel
theorem dL_law_944 : decode cL_law 944 = .ok (.iload_n 3, 1) := by decide +kernel
theorem dL_law_945 : decode cL_law 945 = .ok (.iconst 1, 1) := by decide +kernel
theorem dL_law_946 : decode cL_law 946 = .ok (.iadd, 1) := by decide +kernel
theorem dL_law_947 : decode cL_law 947 = .ok (.iaload, 1) := by decide +kernel
theorem dL_law_948 : decode cL_law 948 = .ok (.aload_n 0, 1) := by decide +kernel
theorem dL_law_949 : decode cL_law 949 = .ok (.iload_n 3, 1) := by decide +kernel
theorem dL_law_950 : decode cL_law 950 = .ok (.iconst 2, 1) := by decide +kernel
theorem dL_law_951 : decode cL_law 951 = .ok (.iadd, 1) := by decide +kernel
theorem dL_law_952 : decode cL_law 952 = .ok (.iaload, 1) := by decide +kernel
theorem dL_law_953 : decode cL_law 953 = .ok (.aload_n 0, 1) := by decide +kernel
theorem dL_law_954 : decode cL_law 954 = .ok (.iload_n 3, 1) := by decide +kernel
theorem dL_law_955 : decode cL_law 955 = .ok (.iconst 3, 1) := by decide +kernel
theorem dL_law_956 : decode cL_law 956 = .ok (.iadd, 1) := by decide +kernel
theorem dL_law_957 : decode cL_law 957 = .ok (.iaload, 1) := by decide +kernel
theorem dL_law_958 : decode cL_law 958 = .ok (.aload_n 0, 1) := by decide +kernel
theorem dL_law_959 : decode cL_law 959 = .ok (.iload_n 3, 1) := by decide +kernel
theorem dL_law_960 : decode cL_law 960 = .ok (.iconst 4, 1) := by decide +kernel
theorem dL_law_961 : decode cL_law 961 = .ok (.iadd, 1) := by decide +kernel
theorem dL_law_962 : decode cL_law 962 = .ok (.iaload, 1) := by decide +kernel
theorem dL_law_963 : decode cL_law 963 = .ok (.ifCond .eq 7, 3) := by decide +kernel
theorem dL_law_966 : decode cL_law 966 = .ok (.iconst 1, 1) := by decide +kernel
theorem dL_law_967 : decode cL_law 967 = .ok (.goto 4, 3) := by decide +kernel
theorem dL_law_970 : decode cL_law 970 = .ok (.iconst 0, 1) := by decide +kernel
theorem dL_law_971 : decode cL_law 971 = .ok (.invokevirtual 109, 3) := by decide +kernel
theorem dL_law_974 : decode cL_law 974 = .ok (.if_icmp .eq 322, 3) := by decide +kernel
theorem dL_law_977 : decode cL_law 977 = .ok (.iconst 0, 1) := by decide +kernel
theorem dL_law_978 : decode cL_law 978 = .ok (.ireturn, 1) := by decide +kernel
theorem dL_law_979 : decode cL_law 979 = .ok (.aload_n 1, 1) := by decide +kernel
theorem dL_law_980 : decode cL_law 980 = .ok (.aload_n 0, 1) := by decide +kernel
theorem dL_law_981 : decode cL_law 981 = .ok (.iload_n 3, 1) := by decide +kernel
theorem dL_law_982 : decode cL_law 982 = .ok (.iconst 1, 1) := by decide +kernel
theorem dL_law_983 : decode cL_law 983 = .ok (.iadd, 1) := by decide +kernel
theorem dL_law_984 : decode cL_law 984 = .ok (.iaload, 1) := by decide +kernel
theorem dL_law_985 : decode cL_law 985 = .ok (.aload_n 0, 1) := by decide +kernel
theorem dL_law_986 : decode cL_law 986 = .ok (.iload_n 3, 1) := by decide +kernel
theorem dL_law_987 : decode cL_law 987 = .ok (.iconst 2, 1) := by decide +kernel
theorem dL_law_988 : decode cL_law 988 = .ok (.iadd, 1) := by decide +kernel
theorem dL_law_989 : decode cL_law 989 = .ok (.iaload, 1) := by decide +kernel
theorem dL_law_990 : decode cL_law 990 = .ok (.invokevirtual 110, 3) := by decide +kernel
theorem dL_law_993 : decode cL_law 993 = .ok (.aload_n 2, 1) := by decide +kernel
theorem dL_law_994 : decode cL_law 994 = .ok (.aload_n 0, 1) := by decide +kernel
theorem dL_law_995 : decode cL_law 995 = .ok (.iload_n 3, 1) := by decide +kernel
theorem dL_law_996 : decode cL_law 996 = .ok (.iconst 1, 1) := by decide +kernel
theorem dL_law_997 : decode cL_law 997 = .ok (.iadd, 1) := by decide +kernel
theorem dL_law_998 : decode cL_law 998 = .ok (.iaload, 1) := by decide +kernel
theorem dL_law_999 : decode cL_law 999 = .ok (.aload_n 0, 1) := by decide +kernel
theorem dL_law_1000 : decode cL_law 1000 = .ok (.iload_n 3, 1) := by decide +kernel
theorem dL_law_1001 : decode cL_law 1001 = .ok (.iconst 2, 1) := by decide +kernel
theorem dL_law_1002 : decode cL_law 1002 = .ok (.iadd, 1) := by decide +kernel
theorem dL_law_1003 : decode cL_law 1003 = .ok (.iaload, 1) := by decide +kernel
theorem dL_law_1004 : decode cL_law 1004 = .ok (.invokevirtual 113, 3) := by decide +kernel
theorem dL_law_1007 : decode cL_law 1007 = .ok (.if_icmp .eq 289, 3) := by decide +kernel
theorem dL_law_1010 : decode cL_law 1010 = .ok (.iconst 0, 1) := by decide +kernel
theorem dL_law_1011 : decode cL_law 1011 = .ok (.ireturn, 1) := by decide +kernel
theorem dL_law_1012 : decode cL_law 1012 = .ok (.aload_n 1, 1) := by decide +kernel
theorem dL_law_1013 : decode cL_law 1013 = .ok (.aload_n 0, 1) := by decide +kernel
theorem dL_law_1014 : decode cL_law 1014 = .ok (.iload_n 3, 1) := by decide +kernel
theorem dL_law_1015 : decode cL_law 1015 = .ok (.iconst 1, 1) := by decide +kernel
theorem dL_law_1016 : decode cL_law 1016 = .ok (.iadd, 1) := by decide +kernel
theorem dL_law_1017 : decode cL_law 1017 = .ok (.iaload, 1) := by decide +kernel
theorem dL_law_1018 : decode cL_law 1018 = .ok (.invokevirtual 114, 3) := by decide +kernel
theorem dL_law_1021 : decode cL_law 1021 = .ok (.aload_n 2, 1) := by decide +kernel
theorem dL_law_1022 : decode cL_law 1022 = .ok (.aload_n 0, 1) := by decide +kernel
theorem dL_law_1023 : decode cL_law 1023 = .ok (.iload_n 3, 1) := by decide +kernel
theorem dL_law_1024 : decode cL_law 1024 = .ok (.iconst 1, 1) := by decide +kernel
theorem dL_law_1025 : decode cL_law 1025 = .ok (.iadd, 1) := by decide +kernel
theorem dL_law_1026 : decode cL_law 1026 = .ok (.iaload, 1) := by decide +kernel
theorem dL_law_1027 : decode cL_law 1027 = .ok (.invokevirtual 117, 3) := by decide +kernel
theorem dL_law_1030 : decode cL_law 1030 = .ok (.if_icmp .eq 266, 3) := by decide +kernel
theorem dL_law_1033 : decode cL_law 1033 = .ok (.iconst 0, 1) := by decide +kernel
theorem dL_law_1034 : decode cL_law 1034 = .ok (.ireturn, 1) := by decide +kernel
theorem dL_law_1035 : decode cL_law 1035 = .ok (.aload_n 1, 1) := by decide +kernel
theorem dL_law_1036 : decode cL_law 1036 = .ok (.aload_n 0, 1) := by decide +kernel
theorem dL_law_1037 : decode cL_law 1037 = .ok (.iload_n 3, 1) := by decide +kernel
theorem dL_law_1038 : decode cL_law 1038 = .ok (.iconst 1, 1) := by decide +kernel
theorem dL_law_1039 : decode cL_law 1039 = .ok (.iadd, 1) := by decide +kernel
theorem dL_law_1040 : decode cL_law 1040 = .ok (.iaload, 1) := by decide +kernel
theorem dL_law_1041 : decode cL_law 1041 = .ok (.invokevirtual 118, 3) := by decide +kernel
theorem dL_law_1044 : decode cL_law 1044 = .ok (.aload_n 2, 1) := by decide +kernel
theorem dL_law_1045 : decode cL_law 1045 = .ok (.aload_n 0, 1) := by decide +kernel
theorem dL_law_1046 : decode cL_law 1046 = .ok (.iload_n 3, 1) := by decide +kernel
theorem dL_law_1047 : decode cL_law 1047 = .ok (.iconst 1, 1) := by decide +kernel
theorem dL_law_1048 : decode cL_law 1048 = .ok (.iadd, 1) := by decide +kernel
theorem dL_law_1049 : decode cL_law 1049 = .ok (.iaload, 1) := by decide +kernel
theorem dL_law_1050 : decode cL_law 1050 = .ok (.invokevirtual 121, 3) := by decide +kernel
theorem dL_law_1053 : decode cL_law 1053 = .ok (.if_icmp .eq 243, 3) := by decide +kernel
theorem dL_law_1056 : decode cL_law 1056 = .ok (.iconst 0, 1) := by decide +kernel
theorem dL_law_1057 : decode cL_law 1057 = .ok (.ireturn, 1) := by decide +kernel
theorem dL_law_1058 : decode cL_law 1058 = .ok (.aload_n 1, 1) := by decide +kernel
theorem dL_law_1059 : decode cL_law 1059 = .ok (.invokevirtual 122, 3) := by decide +kernel
theorem dL_law_1062 : decode cL_law 1062 = .ok (.aload_n 2, 1) := by decide +kernel
theorem dL_law_1063 : decode cL_law 1063 = .ok (.invokevirtual 125, 3) := by decide +kernel
theorem dL_law_1066 : decode cL_law 1066 = .ok (.if_icmp .eq 230, 3) := by decide +kernel
theorem dL_law_1069 : decode cL_law 1069 = .ok (.iconst 0, 1) := by decide +kernel
theorem dL_law_1070 : decode cL_law 1070 = .ok (.ireturn, 1) := by decide +kernel
