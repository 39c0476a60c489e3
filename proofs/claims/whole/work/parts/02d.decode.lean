theorem dX9_seesName_8 : decode cX9_seesName 8 = .ok (.aload_n 0, 1) := by decide +kernel
theorem dX9_seesName_9 : decode cX9_seesName 9 = .ok (.getfield 24, 3) := by decide +kernel
theorem dX9_seesName_12 : decode cX9_seesName 12 = .ok (.aload_n 0, 1) := by decide +kernel
theorem dX9_seesName_13 : decode cX9_seesName 13 = .ok (.getfield 45, 3) := by decide +kernel
theorem dX9_seesName_16 : decode cX9_seesName 16 = .ok (.laload, 1) := by decide +kernel
theorem dX9_seesName_17 : decode cX9_seesName 17 = .ok (.ldc2_w 91, 3) := by decide +kernel
theorem dX9_seesName_20 : decode cX9_seesName 20 = .ok (.lcmp, 1) := by decide +kernel
theorem dX9_seesName_21 : decode cX9_seesName 21 = .ok (.ifCond .le 23, 3) := by decide +kernel
theorem dX9_seesName_24 : decode cX9_seesName 24 = .ok (.aload_n 0, 1) := by decide +kernel
theorem dX9_seesName_25 : decode cX9_seesName 25 = .ok (.getfield 51, 3) := by decide +kernel
theorem dX9_seesName_28 : decode cX9_seesName 28 = .ok (.ifCond .lt 12, 3) := by decide +kernel
theorem dX9_seesName_31 : decode cX9_seesName 31 = .ok (.aload_n 0, 1) := by decide +kernel
theorem dX9_seesName_32 : decode cX9_seesName 32 = .ok (.getfield 51, 3) := by decide +kernel
theorem dX9_seesName_35 : decode cX9_seesName 35 = .ok (.bipush 16, 2) := by decide +kernel
theorem dX9_seesName_37 : decode cX9_seesName 37 = .ok (.if_icmp .le 7, 3) := by decide +kernel
theorem dX9_seesName_40 : decode cX9_seesName 40 = .ok (.iconst 1, 1) := by decide +kernel
theorem dX9_seesName_41 : decode cX9_seesName 41 = .ok (.goto 4, 3) := by decide +kernel
theorem dX9_seesName_44 : decode cX9_seesName 44 = .ok (.iconst 0, 1) := by decide +kernel
theorem dX9_seesName_45 : decode cX9_seesName 45 = .ok (.ireturn, 1) := by decide +kernel
theorem dX9_wantKey_0 : decode cX9_wantKey 0 = .ok (.aload_n 0, 1) := by decide +kernel
theorem dX9_wantKey_1 : decode cX9_wantKey 1 = .ok (.getfield 51, 3) := by decide +kernel
theorem dX9_wantKey_4 : decode cX9_wantKey 4 = .ok (.iload_n 1, 1) := by decide +kernel
theorem dX9_wantKey_5 : decode cX9_wantKey 5 = .ok (.if_icmp .ne 10, 3) := by decide +kernel
theorem dX9_wantKey_8 : decode cX9_wantKey 8 = .ok (.aload_n 0, 1) := by decide +kernel
theorem dX9_wantKey_9 : decode cX9_wantKey 9 = .ok (.invokevirtual 93, 3) := by decide +kernel
theorem dX9_wantKey_12 : decode cX9_wantKey 12 = .ok (.goto 8, 3) := by decide +kernel
theorem dX9_wantKey_15 : decode cX9_wantKey 15 = .ok (.aload_n 0, 1) := by decide +kernel
theorem dX9_wantKey_16 : decode cX9_wantKey 16 = .ok (.iconst 1, 1) := by decide +kernel
theorem dX9_wantKey_17 : decode cX9_wantKey 17 = .ok (.invokevirtual 96, 3) := by decide +kernel
theorem dX9_wantKey_20 : decode cX9_wantKey 20 = .ok (.return_, 1) := by decide +kernel
theorem dX9_wantKind_0 : decode cX9_wantKind 0 = .ok (.aload_n 0, 1) := by decide +kernel
theorem dX9_wantKind_1 : decode cX9_wantKind 1 = .ok (.getfield 48, 3) := by decide +kernel
theorem dX9_wantKind_4 : decode cX9_wantKind 4 = .ok (.iload_n 1, 1) := by decide +kernel
theorem dX9_wantKind_5 : decode cX9_wantKind 5 = .ok (.if_icmp .ne 10, 3) := by decide +kernel
theorem dX9_wantKind_8 : decode cX9_wantKind 8 = .ok (.aload_n 0, 1) := by decide +kernel
theorem dX9_wantKind_9 : decode cX9_wantKind 9 = .ok (.invokevirtual 93, 3) := by decide +kernel
theorem dX9_wantKind_12 : decode cX9_wantKind 12 = .ok (.goto 8, 3) := by decide +kernel
theorem dX9_wantKind_15 : decode cX9_wantKind 15 = .ok (.aload_n 0, 1) := by decide +kernel
theorem dX9_wantKind_16 : decode cX9_wantKind 16 = .ok (.iconst 1, 1) := by decide +kernel
theorem dX9_wantKind_17 : decode cX9_wantKind 17 = .ok (.invokevirtual 96, 3) := by decide +kernel
theorem dX9_wantKind_20 : decode cX9_wantKind 20 = .ok (.return_, 1) := by decide +kernel
theorem dX9_wantName_0 : decode cX9_wantName 0 = .ok (.aload_n 0, 1) := by decide +kernel
theorem dX9_wantName_1 : decode cX9_wantName 1 = .ok (.invokevirtual 99, 3) := by decide +kernel
theorem dX9_wantName_4 : decode cX9_wantName 4 = .ok (.ifCond .eq 10, 3) := by decide +kernel
theorem dX9_wantName_7 : decode cX9_wantName 7 = .ok (.aload_n 0, 1) := by decide +kernel
theorem dX9_wantName_8 : decode cX9_wantName 8 = .ok (.invokevirtual 93, 3) := by decide +kernel
theorem dX9_wantName_11 : decode cX9_wantName 11 = .ok (.goto 8, 3) := by decide +kernel
theorem dX9_wantName_14 : decode cX9_wantName 14 = .ok (.aload_n 0, 1) := by decide +kernel
theorem dX9_wantName_15 : decode cX9_wantName 15 = .ok (.iconst 1, 1) := by decide +kernel
theorem dX9_wantName_16 : decode cX9_wantName 16 = .ok (.invokevirtual 96, 3) := by decide +kernel
theorem dX9_wantName_19 : decode cX9_wantName 19 = .ok (.return_, 1) := by decide +kernel
theorem dX9_wantNumber_0 : decode cX9_wantNumber 0 = .ok (.aload_n 0, 1) := by decide +kernel
theorem dX9_wantNumber_1 : decode cX9_wantNumber 1 = .ok (.getfield 24, 3) := by decide +kernel
theorem dX9_wantNumber_4 : decode cX9_wantNumber 4 = .ok (.aload_n 0, 1) := by decide +kernel
theorem dX9_wantNumber_5 : decode cX9_wantNumber 5 = .ok (.getfield 45, 3) := by decide +kernel
theorem dX9_wantNumber_8 : decode cX9_wantNumber 8 = .ok (.laload, 1) := by decide +kernel
theorem dX9_wantNumber_9 : decode cX9_wantNumber 9 = .ok (.l2i, 1) := by decide +kernel
theorem dX9_wantNumber_10 : decode cX9_wantNumber 10 = .ok (.istore_n 3, 1) := by decide +kernel
theorem dX9_wantNumber_11 : decode cX9_wantNumber 11 = .ok (.aload_n 0, 1) := by decide +kernel
theorem dX9_wantNumber_12 : decode cX9_wantNumber 12 = .ok (.getfield 48, 3) := by decide +kernel
theorem dX9_wantNumber_15 : decode cX9_wantNumber 15 = .ok (.iconst 2, 1) := by decide +kernel
theorem dX9_wantNumber_16 : decode cX9_wantNumber 16 = .ok (.if_icmp .eq 10, 3) := by decide +kernel
theorem dX9_wantNumber_19 : decode cX9_wantNumber 19 = .ok (.aload_n 0, 1) := by decide +kernel
theorem dX9_wantNumber_20 : decode cX9_wantNumber 20 = .ok (.iconst 1, 1) := by decide +kernel
theorem dX9_wantNumber_21 : decode cX9_wantNumber 21 = .ok (.invokevirtual 96, 3) := by decide +kernel
theorem dX9_wantNumber_24 : decode cX9_wantNumber 24 = .ok (.iload_n 1, 1) := by decide +kernel
theorem dX9_wantNumber_25 : decode cX9_wantNumber 25 = .ok (.ireturn, 1) := by decide +kernel
theorem dX9_wantNumber_26 : decode cX9_wantNumber 26 = .ok (.iload_n 3, 1) := by decide +kernel
theorem dX9_wantNumber_27 : decode cX9_wantNumber 27 = .ok (.iload_n 1, 1) := by decide +kernel
theorem dX9_wantNumber_28 : decode cX9_wantNumber 28 = .ok (.if_icmp .lt 8, 3) := by decide +kernel
theorem dX9_wantNumber_31 : decode cX9_wantNumber 31 = .ok (.iload_n 3, 1) := by decide +kernel
theorem dX9_wantNumber_32 : decode cX9_wantNumber 32 = .ok (.iload_n 2, 1) := by decide +kernel
theorem dX9_wantNumber_33 : decode cX9_wantNumber 33 = .ok (.if_icmp .le 10, 3) := by decide +kernel
theorem dX9_wantNumber_36 : decode cX9_wantNumber 36 = .ok (.aload_n 0, 1) := by decide +kernel
theorem dX9_wantNumber_37 : decode cX9_wantNumber 37 = .ok (.iconst 2, 1) := by decide +kernel
theorem dX9_wantNumber_38 : decode cX9_wantNumber 38 = .ok (.invokevirtual 96, 3) := by decide +kernel
theorem dX9_wantNumber_41 : decode cX9_wantNumber 41 = .ok (.iload_n 1, 1) := by decide +kernel
theorem dX9_wantNumber_42 : decode cX9_wantNumber 42 = .ok (.ireturn, 1) := by decide +kernel
theorem dX9_wantNumber_43 : decode cX9_wantNumber 43 = .ok (.aload_n 0, 1) := by decide +kernel
theorem dX9_wantNumber_44 : decode cX9_wantNumber 44 = .ok (.invokevirtual 93, 3) := by decide +kernel
theorem dX9_wantNumber_47 : decode cX9_wantNumber 47 = .ok (.iload_n 3, 1) := by decide +kernel
theorem dX9_wantNumber_48 : decode cX9_wantNumber 48 = .ok (.ireturn, 1) := by decide +kernel
theorem dX10_init_0 : decode cX10_init 0 = .ok (.aload_n 0, 1) := by decide +kernel
theorem dX10_init_1 : decode cX10_init 1 = .ok (.invokespecial 3, 3) := by decide +kernel
theorem dX10_init_4 : decode cX10_init 4 = .ok (.aload_n 0, 1) := by decide +kernel
theorem dX10_init_5 : decode cX10_init 5 = .ok (.iconst 0, 1) := by decide +kernel
theorem dX10_init_6 : decode cX10_init 6 = .ok (.newarray .int, 2) := by decide +kernel
theorem dX10_init_8 : decode cX10_init 8 = .ok (.putfield 9, 3) := by decide +kernel
theorem dX10_init_11 : decode cX10_init 11 = .ok (.aload_n 0, 1) := by decide +kernel
theorem dX10_init_12 : decode cX10_init 12 = .ok (.iconst 0, 1) := by decide +kernel
theorem dX10_init_13 : decode cX10_init 13 = .ok (.newarray .int, 2) := by decide +kernel
theorem dX10_init_15 : decode cX10_init 15 = .ok (.putfield 15, 3) := by decide +kernel
theorem dX10_init_18 : decode cX10_init 18 = .ok (.aload_n 0, 1) := by decide +kernel
theorem dX10_init_19 : decode cX10_init 19 = .ok (.iconst 0, 1) := by decide +kernel
theorem dX10_init_20 : decode cX10_init 20 = .ok (.newarray .int, 2) := by decide +kernel
theorem dX10_init_22 : decode cX10_init 22 = .ok (.putfield 18, 3) := by decide +kernel
theorem dX10_init_25 : decode cX10_init 25 = .ok (.return_, 1) := by decide +kernel
theorem dX10_fewestMoves_0 : decode cX10_fewestMoves 0 = .ok (.aload_n 0, 1) := by decide +kernel
theorem dX10_fewestMoves_1 : decode cX10_fewestMoves 1 = .ok (.getfield 9, 3) := by decide +kernel
theorem dX10_fewestMoves_4 : decode cX10_fewestMoves 4 = .ok (.arraylength, 1) := by decide +kernel
theorem dX10_fewestMoves_5 : decode cX10_fewestMoves 5 = .ok (.ifCond .ne 30, 3) := by decide +kernel
theorem dX10_fewestMoves_8 : decode cX10_fewestMoves 8 = .ok (.aload_n 0, 1) := by decide +kernel
theorem dX10_fewestMoves_9 : decode cX10_fewestMoves 9 = .ok (.sipush 4096, 3) := by decide +kernel
theorem dX10_fewestMoves_12 : decode cX10_fewestMoves 12 = .ok (.newarray .int, 2) := by decide +kernel
theorem dX10_fewestMoves_14 : decode cX10_fewestMoves 14 = .ok (.putfield 9, 3) := by decide +kernel
theorem dX10_fewestMoves_17 : decode cX10_fewestMoves 17 = .ok (.aload_n 0, 1) := by decide +kernel
theorem dX10_fewestMoves_18 : decode cX10_fewestMoves 18 = .ok (.sipush 4096, 3) := by decide +kernel
theorem dX10_fewestMoves_21 : decode cX10_fewestMoves 21 = .ok (.newarray .int, 2) := by decide +kernel
theorem dX10_fewestMoves_23 : decode cX10_fewestMoves 23 = .ok (.putfield 15, 3) := by decide +kernel
theorem dX10_fewestMoves_26 : decode cX10_fewestMoves 26 = .ok (.aload_n 0, 1) := by decide +kernel
theorem dX10_fewestMoves_27 : decode cX10_fewestMoves 27 = .ok (.sipush 4096, 3) := by decide +kernel
theorem dX10_fewestMoves_30 : decode cX10_fewestMoves 30 = .ok (.newarray .int, 2) := by decide +kernel
theorem dX10_fewestMoves_32 : decode cX10_fewestMoves 32 = .ok (.putfield 18, 3) := by decide +kernel
theorem dX10_fewestMoves_35 : decode cX10_fewestMoves 35 = .ok (.aload_n 0, 1) := by decide +kernel
theorem dX10_fewestMoves_36 : decode cX10_fewestMoves 36 = .ok (.iload_n 1, 1) := by decide +kernel
theorem dX10_fewestMoves_37 : decode cX10_fewestMoves 37 = .ok (.iload_n 2, 1) := by decide +kernel
theorem dX10_fewestMoves_38 : decode cX10_fewestMoves 38 = .ok (.invokevirtual 21, 3) := by decide +kernel
theorem dX10_fewestMoves_41 : decode cX10_fewestMoves 41 = .ok (.aload_n 0, 1) := by decide +kernel
theorem dX10_fewestMoves_42 : decode cX10_fewestMoves 42 = .ok (.getfield 9, 3) := by decide +kernel
theorem dX10_fewestMoves_45 : decode cX10_fewestMoves 45 = .ok (.iconst 0, 1) := by decide +kernel
theorem dX10_fewestMoves_46 : decode cX10_fewestMoves 46 = .ok (.iaload, 1) := by decide +kernel
theorem dX10_fewestMoves_47 : decode cX10_fewestMoves 47 = .ok (.iconst (-1), 1) := by decide +kernel
theorem dX10_fewestMoves_48 : decode cX10_fewestMoves 48 = .ok (.if_icmp .ne 5, 3) := by decide +kernel
theorem dX10_fewestMoves_51 : decode cX10_fewestMoves 51 = .ok (.iconst (-1), 1) := by decide +kernel
theorem dX10_fewestMoves_52 : decode cX10_fewestMoves 52 = .ok (.ireturn, 1) := by decide +kernel
theorem dX10_fewestMoves_53 : decode cX10_fewestMoves 53 = .ok (.aload_n 0, 1) := by decide +kernel
theorem dX10_fewestMoves_54 : decode cX10_fewestMoves 54 = .ok (.aload_n 0, 1) := by decide +kernel
theorem dX10_fewestMoves_55 : decode cX10_fewestMoves 55 = .ok (.getfield 9, 3) := by decide +kernel
theorem dX10_fewestMoves_58 : decode cX10_fewestMoves 58 = .ok (.iconst 0, 1) := by decide +kernel
theorem dX10_fewestMoves_59 : decode cX10_fewestMoves 59 = .ok (.iaload, 1) := by decide +kernel
theorem dX10_fewestMoves_60 : decode cX10_fewestMoves 60 = .ok (.putfield 25, 3) := by decide +kernel
theorem dX10_fewestMoves_63 : decode cX10_fewestMoves 63 = .ok (.iconst 0, 1) := by decide +kernel
theorem dX10_fewestMoves_64 : decode cX10_fewestMoves 64 = .ok (.istore_n 3, 1) := by decide +kernel
theorem dX10_fewestMoves_65 : decode cX10_fewestMoves 65 = .ok (.iconst 0, 1) := by decide +kernel
theorem dX10_fewestMoves_66 : decode cX10_fewestMoves 66 = .ok (.istore 4, 2) := by decide +kernel
theorem dX10_fewestMoves_68 : decode cX10_fewestMoves 68 = .ok (.iload 4, 2) := by decide +kernel
theorem dX10_fewestMoves_70 : decode cX10_fewestMoves 70 = .ok (.aload_n 0, 1) := by decide +kernel
theorem dX10_fewestMoves_71 : decode cX10_fewestMoves 71 = .ok (.getfield 25, 3) := by decide +kernel
theorem dX10_fewestMoves_74 : decode cX10_fewestMoves 74 = .ok (.if_icmp .ge 43, 3) := by decide +kernel
theorem dX10_fewestMoves_77 : decode cX10_fewestMoves 77 = .ok (.aload_n 0, 1) := by decide +kernel
theorem dX10_fewestMoves_78 : decode cX10_fewestMoves 78 = .ok (.iload_n 3, 1) := by decide +kernel
theorem dX10_fewestMoves_79 : decode cX10_fewestMoves 79 = .ok (.iload_n 1, 1) := by decide +kernel
theorem dX10_fewestMoves_80 : decode cX10_fewestMoves 80 = .ok (.aload_n 0, 1) := by decide +kernel
theorem dX10_fewestMoves_81 : decode cX10_fewestMoves 81 = .ok (.getfield 9, 3) := by decide +kernel
theorem dX10_fewestMoves_84 : decode cX10_fewestMoves 84 = .ok (.iload_n 3, 1) := by decide +kernel
theorem dX10_fewestMoves_85 : decode cX10_fewestMoves 85 = .ok (.iaload, 1) := by decide +kernel
theorem dX10_fewestMoves_86 : decode cX10_fewestMoves 86 = .ok (.iconst 1, 1) := by decide +kernel
theorem dX10_fewestMoves_87 : decode cX10_fewestMoves 87 = .ok (.isub, 1) := by decide +kernel
theorem dX10_fewestMoves_88 : decode cX10_fewestMoves 88 = .ok (.invokevirtual 29, 3) := by decide +kernel
theorem dX10_fewestMoves_91 : decode cX10_fewestMoves 91 = .ok (.istore 5, 2) := by decide +kernel
theorem dX10_fewestMoves_93 : decode cX10_fewestMoves 93 = .ok (.aload_n 0, 1) := by decide +kernel
theorem dX10_fewestMoves_94 : decode cX10_fewestMoves 94 = .ok (.getfield 18, 3) := by decide +kernel
theorem dX10_fewestMoves_97 : decode cX10_fewestMoves 97 = .ok (.iload 4, 2) := by decide +kernel
theorem dX10_fewestMoves_99 : decode cX10_fewestMoves 99 = .ok (.iload 5, 2) := by decide +kernel
theorem dX10_fewestMoves_101 : decode cX10_fewestMoves 101 = .ok (.iconst 1, 1) := by decide +kernel
theorem dX10_fewestMoves_102 : decode cX10_fewestMoves 102 = .ok (.iadd, 1) := by decide +kernel
theorem dX10_fewestMoves_103 : decode cX10_fewestMoves 103 = .ok (.iastore, 1) := by decide +kernel
theorem dX10_fewestMoves_104 : decode cX10_fewestMoves 104 = .ok (.iload_n 3, 1) := by decide +kernel
theorem dX10_fewestMoves_105 : decode cX10_fewestMoves 105 = .ok (.iconst 1, 1) := by decide +kernel
theorem dX10_fewestMoves_106 : decode cX10_fewestMoves 106 = .ok (.iload 5, 2) := by decide +kernel
theorem dX10_fewestMoves_108 : decode cX10_fewestMoves 108 = .ok (.ishl, 1) := by decide +kernel
theorem dX10_fewestMoves_109 : decode cX10_fewestMoves 109 = .ok (.ixor, 1) := by decide +kernel
theorem dX10_fewestMoves_110 : decode cX10_fewestMoves 110 = .ok (.istore_n 3, 1) := by decide +kernel
theorem dX10_fewestMoves_111 : decode cX10_fewestMoves 111 = .ok (.iinc 4 1, 3) := by decide +kernel
theorem dX10_fewestMoves_114 : decode cX10_fewestMoves 114 = .ok (.goto (-46), 3) := by decide +kernel
theorem dX10_fewestMoves_117 : decode cX10_fewestMoves 117 = .ok (.aload_n 0, 1) := by decide +kernel
theorem dX10_fewestMoves_118 : decode cX10_fewestMoves 118 = .ok (.getfield 25, 3) := by decide +kernel
theorem dX10_fewestMoves_121 : decode cX10_fewestMoves 121 = .ok (.ireturn, 1) := by decide +kernel
theorem dX10_measure_0 : decode cX10_measure 0 = .ok (.aload_n 0, 1) := by decide +kernel
theorem dX10_measure_1 : decode cX10_measure 1 = .ok (.getfield 9, 3) := by decide +kernel
theorem dX10_measure_4 : decode cX10_measure 4 = .ok (.iconst 0, 1) := by decide +kernel
theorem dX10_measure_5 : decode cX10_measure 5 = .ok (.iconst 1, 1) := by decide +kernel
theorem dX10_measure_6 : decode cX10_measure 6 = .ok (.iload_n 1, 1) := by decide +kernel
theorem dX10_measure_7 : decode cX10_measure 7 = .ok (.ishl, 1) := by decide +kernel
theorem dX10_measure_8 : decode cX10_measure 8 = .ok (.iconst (-1), 1) := by decide +kernel
theorem dX10_measure_9 : decode cX10_measure 9 = .ok (.invokestatic 33, 3) := by decide +kernel
theorem dX10_measure_12 : decode cX10_measure 12 = .ok (.iconst 1, 1) := by decide +kernel
theorem dX10_measure_13 : decode cX10_measure 13 = .ok (.iload_n 1, 1) := by decide +kernel
theorem dX10_measure_14 : decode cX10_measure 14 = .ok (.iconst 1, 1) := by decide +kernel
theorem dX10_measure_15 : decode cX10_measure 15 = .ok (.isub, 1) := by decide +kernel
theorem dX10_measure_16 : decode cX10_measure 16 = .ok (.ishl, 1) := by decide +kernel
theorem dX10_measure_17 : decode cX10_measure 17 = .ok (.istore_n 3, 1) := by decide +kernel
theorem dX10_measure_18 : decode cX10_measure 18 = .ok (.aload_n 0, 1) := by decide +kernel
theorem dX10_measure_19 : decode cX10_measure 19 = .ok (.getfield 9, 3) := by decide +kernel
theorem dX10_measure_22 : decode cX10_measure 22 = .ok (.iload_n 3, 1) := by decide +kernel
theorem dX10_measure_23 : decode cX10_measure 23 = .ok (.iconst 0, 1) := by decide +kernel
theorem dX10_measure_24 : decode cX10_measure 24 = .ok (.iastore, 1) := by decide +kernel
theorem dX10_measure_25 : decode cX10_measure 25 = .ok (.aload_n 0, 1) := by decide +kernel
theorem dX10_measure_26 : decode cX10_measure 26 = .ok (.getfield 15, 3) := by decide +kernel
theorem dX10_measure_29 : decode cX10_measure 29 = .ok (.iconst 0, 1) := by decide +kernel
theorem dX10_measure_30 : decode cX10_measure 30 = .ok (.iload_n 3, 1) := by decide +kernel
theorem dX10_measure_31 : decode cX10_measure 31 = .ok (.iastore, 1) := by decide +kernel
theorem dX10_measure_32 : decode cX10_measure 32 = .ok (.iconst 1, 1) := by decide +kernel
theorem dX10_measure_33 : decode cX10_measure 33 = .ok (.istore 4, 2) := by decide +kernel
theorem dX10_measure_35 : decode cX10_measure 35 = .ok (.iconst 0, 1) := by decide +kernel
theorem dX10_measure_36 : decode cX10_measure 36 = .ok (.istore 5, 2) := by decide +kernel
theorem dX10_measure_38 : decode cX10_measure 38 = .ok (.iload 5, 2) := by decide +kernel
theorem dX10_measure_40 : decode cX10_measure 40 = .ok (.sipush 4096, 3) := by decide +kernel
theorem dX10_measure_43 : decode cX10_measure 43 = .ok (.if_icmp .ge 137, 3) := by decide +kernel
theorem dX10_measure_46 : decode cX10_measure 46 = .ok (.iload 5, 2) := by decide +kernel
theorem dX10_measure_48 : decode cX10_measure 48 = .ok (.iload 4, 2) := by decide +kernel
theorem dX10_measure_50 : decode cX10_measure 50 = .ok (.if_icmp .ge 130, 3) := by decide +kernel
theorem dX10_measure_53 : decode cX10_measure 53 = .ok (.aload_n 0, 1) := by decide +kernel
theorem dX10_measure_54 : decode cX10_measure 54 = .ok (.getfield 9, 3) := by decide +kernel
theorem dX10_measure_57 : decode cX10_measure 57 = .ok (.iconst 0, 1) := by decide +kernel
theorem dX10_measure_58 : decode cX10_measure 58 = .ok (.iaload, 1) := by decide +kernel
theorem dX10_measure_59 : decode cX10_measure 59 = .ok (.iconst (-1), 1) := by decide +kernel
theorem dX10_measure_60 : decode cX10_measure 60 = .ok (.if_icmp .ne 120, 3) := by decide +kernel
theorem dX10_measure_63 : decode cX10_measure 63 = .ok (.aload_n 0, 1) := by decide +kernel
theorem dX10_measure_64 : decode cX10_measure 64 = .ok (.getfield 15, 3) := by decide +kernel
theorem dX10_measure_67 : decode cX10_measure 67 = .ok (.iload 5, 2) := by decide +kernel
theorem dX10_measure_69 : decode cX10_measure 69 = .ok (.iaload, 1) := by decide +kernel
theorem dX10_measure_70 : decode cX10_measure 70 = .ok (.istore 6, 2) := by decide +kernel
theorem dX10_measure_72 : decode cX10_measure 72 = .ok (.iconst 0, 1) := by decide +kernel
theorem dX10_measure_73 : decode cX10_measure 73 = .ok (.istore 7, 2) := by decide +kernel
theorem dX10_measure_75 : decode cX10_measure 75 = .ok (.iload 7, 2) := by decide +kernel
theorem dX10_measure_77 : decode cX10_measure 77 = .ok (.iload_n 1, 1) := by decide +kernel
theorem dX10_measure_78 : decode cX10_measure 78 = .ok (.if_icmp .ge 96, 3) := by decide +kernel
theorem dX10_measure_81 : decode cX10_measure 81 = .ok (.iload 6, 2) := by decide +kernel
theorem dX10_measure_83 : decode cX10_measure 83 = .ok (.iconst 1, 1) := by decide +kernel
theorem dX10_measure_84 : decode cX10_measure 84 = .ok (.iload 7, 2) := by decide +kernel
theorem dX10_measure_86 : decode cX10_measure 86 = .ok (.ishl, 1) := by decide +kernel
theorem dX10_measure_87 : decode cX10_measure 87 = .ok (.ixor, 1) := by decide +kernel
theorem dX10_measure_88 : decode cX10_measure 88 = .ok (.istore 8, 2) := by decide +kernel
theorem dX10_measure_90 : decode cX10_measure 90 = .ok (.aload_n 0, 1) := by decide +kernel
theorem dX10_measure_91 : decode cX10_measure 91 = .ok (.getfield 9, 3) := by decide +kernel
theorem dX10_measure_94 : decode cX10_measure 94 = .ok (.iload 8, 2) := by decide +kernel
theorem dX10_measure_96 : decode cX10_measure 96 = .ok (.iaload, 1) := by decide +kernel
theorem dX10_measure_97 : decode cX10_measure 97 = .ok (.iconst (-1), 1) := by decide +kernel
theorem dX10_measure_98 : decode cX10_measure 98 = .ok (.if_icmp .ne 15, 3) := by decide +kernel
theorem dX10_measure_101 : decode cX10_measure 101 = .ok (.iload 4, 2) := by decide +kernel
theorem dX10_measure_103 : decode cX10_measure 103 = .ok (.sipush 4096, 3) := by decide +kernel
theorem dX10_measure_106 : decode cX10_measure 106 = .ok (.if_icmp .ge 7, 3) := by decide +kernel
theorem dX10_measure_109 : decode cX10_measure 109 = .ok (.iconst 1, 1) := by decide +kernel
theorem dX10_measure_110 : decode cX10_measure 110 = .ok (.goto 4, 3) := by decide +kernel
theorem dX10_measure_113 : decode cX10_measure 113 = .ok (.iconst 0, 1) := by decide +kernel
theorem dX10_measure_114 : decode cX10_measure 114 = .ok (.istore 9, 2) := by decide +kernel
theorem dX10_measure_116 : decode cX10_measure 116 = .ok (.iload 9, 2) := by decide +kernel
theorem dX10_measure_118 : decode cX10_measure 118 = .ok (.ifCond .eq 50, 3) := by decide +kernel
theorem dX10_measure_121 : decode cX10_measure 121 = .ok (.iload 6, 2) := by decide +kernel
theorem dX10_measure_123 : decode cX10_measure 123 = .ok (.iload 7, 2) := by decide +kernel
theorem dX10_measure_125 : decode cX10_measure 125 = .ok (.invokestatic 39, 3) := by decide +kernel
theorem dX10_measure_128 : decode cX10_measure 128 = .ok (.ifCond .eq 40, 3) := by decide +kernel
theorem dX10_measure_131 : decode cX10_measure 131 = .ok (.iload 8, 2) := by decide +kernel
theorem dX10_measure_133 : decode cX10_measure 133 = .ok (.invokestatic 43, 3) := by decide +kernel
theorem dX10_measure_136 : decode cX10_measure 136 = .ok (.iload_n 2, 1) := by decide +kernel
theorem dX10_measure_137 : decode cX10_measure 137 = .ok (.if_icmp .gt 31, 3) := by decide +kernel
theorem dX10_measure_140 : decode cX10_measure 140 = .ok (.aload_n 0, 1) := by decide +kernel
theorem dX10_measure_141 : decode cX10_measure 141 = .ok (.getfield 9, 3) := by decide +kernel
theorem dX10_measure_144 : decode cX10_measure 144 = .ok (.iload 8, 2) := by decide +kernel
theorem dX10_measure_146 : decode cX10_measure 146 = .ok (.aload_n 0, 1) := by decide +kernel
theorem dX10_measure_147 : decode cX10_measure 147 = .ok (.getfield 9, 3) := by decide +kernel
theorem dX10_measure_150 : decode cX10_measure 150 = .ok (.iload 6, 2) := by decide +kernel
theorem dX10_measure_152 : decode cX10_measure 152 = .ok (.iaload, 1) := by decide +kernel
theorem dX10_measure_153 : decode cX10_measure 153 = .ok (.iconst 1, 1) := by decide +kernel
theorem dX10_measure_154 : decode cX10_measure 154 = .ok (.iadd, 1) := by decide +kernel
theorem dX10_measure_155 : decode cX10_measure 155 = .ok (.iastore, 1) := by decide +kernel
theorem dX10_measure_156 : decode cX10_measure 156 = .ok (.aload_n 0, 1) := by decide +kernel
theorem dX10_measure_157 : decode cX10_measure 157 = .ok (.getfield 15, 3) := by decide +kernel
theorem dX10_measure_160 : decode cX10_measure 160 = .ok (.iload 4, 2) := by decide +kernel
theorem dX10_measure_162 : decode cX10_measure 162 = .ok (.iload 8, 2) := by decide +kernel
theorem dX10_measure_164 : decode cX10_measure 164 = .ok (.iastore, 1) := by decide +kernel
theorem dX10_measure_165 : decode cX10_measure 165 = .ok (.iinc 4 1, 3) := by decide +kernel
theorem dX10_measure_168 : decode cX10_measure 168 = .ok (.iinc 7 1, 3) := by decide +kernel
theorem dX10_measure_171 : decode cX10_measure 171 = .ok (.goto (-96), 3) := by decide +kernel
theorem dX10_measure_174 : decode cX10_measure 174 = .ok (.iinc 5 1, 3) := by decide +kernel
theorem dX10_measure_177 : decode cX10_measure 177 = .ok (.goto (-139), 3) := by decide +kernel
theorem dX10_measure_180 : decode cX10_measure 180 = .ok (.return_, 1) := by decide +kernel
theorem dX10_mayChange_0 : decode cX10_mayChange 0 = .ok (.iload_n 1, 1) := by decide +kernel
theorem dX10_mayChange_1 : decode cX10_mayChange 1 = .ok (.ifCond .eq 13, 3) := by decide +kernel
theorem dX10_mayChange_4 : decode cX10_mayChange 4 = .ok (.iload_n 0, 1) := by decide +kernel
theorem dX10_mayChange_5 : decode cX10_mayChange 5 = .ok (.iload_n 1, 1) := by decide +kernel
theorem dX10_mayChange_6 : decode cX10_mayChange 6 = .ok (.iconst 1, 1) := by decide +kernel
theorem dX10_mayChange_7 : decode cX10_mayChange 7 = .ok (.isub, 1) := by decide +kernel
theorem dX10_mayChange_8 : decode cX10_mayChange 8 = .ok (.ishr, 1) := by decide +kernel
theorem dX10_mayChange_9 : decode cX10_mayChange 9 = .ok (.iconst 1, 1) := by decide +kernel
theorem dX10_mayChange_10 : decode cX10_mayChange 10 = .ok (.iand, 1) := by decide +kernel
theorem dX10_mayChange_11 : decode cX10_mayChange 11 = .ok (.ifCond .eq 7, 3) := by decide +kernel
theorem dX10_mayChange_14 : decode cX10_mayChange 14 = .ok (.iconst 1, 1) := by decide +kernel
theorem dX10_mayChange_15 : decode cX10_mayChange 15 = .ok (.goto 4, 3) := by decide +kernel
theorem dX10_mayChange_18 : decode cX10_mayChange 18 = .ok (.iconst 0, 1) := by decide +kernel
theorem dX10_mayChange_19 : decode cX10_mayChange 19 = .ok (.ireturn, 1) := by decide +kernel
theorem dX10_placeNearer_0 : decode cX10_placeNearer 0 = .ok (.iconst 0, 1) := by decide +kernel
theorem dX10_placeNearer_1 : decode cX10_placeNearer 1 = .ok (.istore 4, 2) := by decide +kernel
theorem dX10_placeNearer_3 : decode cX10_placeNearer 3 = .ok (.iload 4, 2) := by decide +kernel
theorem dX10_placeNearer_5 : decode cX10_placeNearer 5 = .ok (.iload_n 2, 1) := by decide +kernel
theorem dX10_placeNearer_6 : decode cX10_placeNearer 6 = .ok (.if_icmp .ge 36, 3) := by decide +kernel
theorem dX10_placeNearer_9 : decode cX10_placeNearer 9 = .ok (.iload_n 1, 1) := by decide +kernel
theorem dX10_placeNearer_10 : decode cX10_placeNearer 10 = .ok (.iload 4, 2) := by decide +kernel
theorem dX10_placeNearer_12 : decode cX10_placeNearer 12 = .ok (.invokestatic 39, 3) := by decide +kernel
theorem dX10_placeNearer_15 : decode cX10_placeNearer 15 = .ok (.ifCond .eq 21, 3) := by decide +kernel
theorem dX10_placeNearer_18 : decode cX10_placeNearer 18 = .ok (.aload_n 0, 1) := by decide +kernel
theorem dX10_placeNearer_19 : decode cX10_placeNearer 19 = .ok (.getfield 9, 3) := by decide +kernel
theorem dX10_placeNearer_22 : decode cX10_placeNearer 22 = .ok (.iload_n 1, 1) := by decide +kernel
theorem dX10_placeNearer_23 : decode cX10_placeNearer 23 = .ok (.iconst 1, 1) := by decide +kernel
theorem dX10_placeNearer_24 : decode cX10_placeNearer 24 = .ok (.iload 4, 2) := by decide +kernel
theorem dX10_placeNearer_26 : decode cX10_placeNearer 26 = .ok (.ishl, 1) := by decide +kernel
theorem dX10_placeNearer_27 : decode cX10_placeNearer 27 = .ok (.ixor, 1) := by decide +kernel
theorem dX10_placeNearer_28 : decode cX10_placeNearer 28 = .ok (.iaload, 1) := by decide +kernel
theorem dX10_placeNearer_29 : decode cX10_placeNearer 29 = .ok (.iload_n 3, 1) := by decide +kernel
theorem dX10_placeNearer_30 : decode cX10_placeNearer 30 = .ok (.if_icmp .ne 6, 3) := by decide +kernel
theorem dX10_placeNearer_33 : decode cX10_placeNearer 33 = .ok (.iload 4, 2) := by decide +kernel
theorem dX10_placeNearer_35 : decode cX10_placeNearer 35 = .ok (.ireturn, 1) := by decide +kernel
theorem dX10_placeNearer_36 : decode cX10_placeNearer 36 = .ok (.iinc 4 1, 3) := by decide +kernel
theorem dX10_placeNearer_39 : decode cX10_placeNearer 39 = .ok (.goto (-36), 3) := by decide +kernel
theorem dX10_placeNearer_42 : decode cX10_placeNearer 42 = .ok (.iconst 0, 1) := by decide +kernel
theorem dX10_placeNearer_43 : decode cX10_placeNearer 43 = .ok (.ireturn, 1) := by decide +kernel
theorem dX10_moveAt_0 : decode cX10_moveAt 0 = .ok (.iload_n 1, 1) := by decide +kernel
theorem dX10_moveAt_1 : decode cX10_moveAt 1 = .ok (.ifCond .lt 11, 3) := by decide +kernel
theorem dX10_moveAt_4 : decode cX10_moveAt 4 = .ok (.iload_n 1, 1) := by decide +kernel
theorem dX10_moveAt_5 : decode cX10_moveAt 5 = .ok (.aload_n 0, 1) := by decide +kernel
theorem dX10_moveAt_6 : decode cX10_moveAt 6 = .ok (.getfield 25, 3) := by decide +kernel
theorem dX10_moveAt_9 : decode cX10_moveAt 9 = .ok (.if_icmp .lt 7, 3) := by decide +kernel
theorem dX10_moveAt_12 : decode cX10_moveAt 12 = .ok (.iconst (-1), 1) := by decide +kernel
theorem dX10_moveAt_13 : decode cX10_moveAt 13 = .ok (.goto 9, 3) := by decide +kernel
theorem dX10_moveAt_16 : decode cX10_moveAt 16 = .ok (.aload_n 0, 1) := by decide +kernel
theorem dX10_moveAt_17 : decode cX10_moveAt 17 = .ok (.getfield 18, 3) := by decide +kernel
theorem dX10_moveAt_20 : decode cX10_moveAt 20 = .ok (.iload_n 1, 1) := by decide +kernel
theorem dX10_moveAt_21 : decode cX10_moveAt 21 = .ok (.iaload, 1) := by decide +kernel
theorem dX10_moveAt_22 : decode cX10_moveAt 22 = .ok (.ireturn, 1) := by decide +kernel
theorem dX11_init_0 : decode cX11_init 0 = .ok (.aload_n 0, 1) := by decide +kernel
theorem dX11_init_1 : decode cX11_init 1 = .ok (.invokespecial 1, 3) := by decide +kernel
theorem dX11_init_4 : decode cX11_init 4 = .ok (.aload_n 0, 1) := by decide +kernel
theorem dX11_init_5 : decode cX11_init 5 = .ok (.new 7, 3) := by decide +kernel
theorem dX11_init_8 : decode cX11_init 8 = .ok (.dup, 1) := by decide +kernel
theorem dX11_init_9 : decode cX11_init 9 = .ok (.invokespecial 9, 3) := by decide +kernel
theorem dX11_init_12 : decode cX11_init 12 = .ok (.putfield 10, 3) := by decide +kernel
theorem dX11_init_15 : decode cX11_init 15 = .ok (.aload_n 0, 1) := by decide +kernel
theorem dX11_init_16 : decode cX11_init 16 = .ok (.bipush 6, 2) := by decide +kernel
theorem dX11_init_18 : decode cX11_init 18 = .ok (.anewarray 16, 3) := by decide +kernel
theorem dX11_init_21 : decode cX11_init 21 = .ok (.putfield 18, 3) := by decide +kernel
theorem dX11_init_24 : decode cX11_init 24 = .ok (.aload_n 0, 1) := by decide +kernel
theorem dX11_init_25 : decode cX11_init 25 = .ok (.new 16, 3) := by decide +kernel
theorem dX11_init_28 : decode cX11_init 28 = .ok (.dup, 1) := by decide +kernel
theorem dX11_init_29 : decode cX11_init 29 = .ok (.invokespecial 22, 3) := by decide +kernel
theorem dX11_init_32 : decode cX11_init 32 = .ok (.putfield 23, 3) := by decide +kernel
theorem dX11_init_35 : decode cX11_init 35 = .ok (.aload_n 0, 1) := by decide +kernel
theorem dX11_init_36 : decode cX11_init 36 = .ok (.new 27, 3) := by decide +kernel
theorem dX11_init_39 : decode cX11_init 39 = .ok (.dup, 1) := by decide +kernel
theorem dX11_init_40 : decode cX11_init 40 = .ok (.aload_n 0, 1) := by decide +kernel
theorem dX11_init_41 : decode cX11_init 41 = .ok (.getfield 10, 3) := by decide +kernel
theorem dX11_init_44 : decode cX11_init 44 = .ok (.invokespecial 29, 3) := by decide +kernel
theorem dX11_init_47 : decode cX11_init 47 = .ok (.putfield 32, 3) := by decide +kernel
theorem dX11_init_50 : decode cX11_init 50 = .ok (.aload_n 0, 1) := by decide +kernel
theorem dX11_init_51 : decode cX11_init 51 = .ok (.new 36, 3) := by decide +kernel
theorem dX11_init_54 : decode cX11_init 54 = .ok (.dup, 1) := by decide +kernel
theorem dX11_init_55 : decode cX11_init 55 = .ok (.invokespecial 38, 3) := by decide +kernel
theorem dX11_init_58 : decode cX11_init 58 = .ok (.putfield 39, 3) := by decide +kernel
theorem dX11_init_61 : decode cX11_init 61 = .ok (.aload_n 0, 1) := by decide +kernel
theorem dX11_init_62 : decode cX11_init 62 = .ok (.new 43, 3) := by decide +kernel
theorem dX11_init_65 : decode cX11_init 65 = .ok (.dup, 1) := by decide +kernel
theorem dX11_init_66 : decode cX11_init 66 = .ok (.invokespecial 45, 3) := by decide +kernel
theorem dX11_init_69 : decode cX11_init 69 = .ok (.putfield 46, 3) := by decide +kernel
theorem dX11_init_72 : decode cX11_init 72 = .ok (.aload_n 0, 1) := by decide +kernel
theorem dX11_init_73 : decode cX11_init 73 = .ok (.new 50, 3) := by decide +kernel
theorem dX11_init_76 : decode cX11_init 76 = .ok (.dup, 1) := by decide +kernel
theorem dX11_init_77 : decode cX11_init 77 = .ok (.invokespecial 52, 3) := by decide +kernel
theorem dX11_init_80 : decode cX11_init 80 = .ok (.putfield 53, 3) := by decide +kernel
theorem dX11_init_83 : decode cX11_init 83 = .ok (.aload_n 0, 1) := by decide +kernel
theorem dX11_init_84 : decode cX11_init 84 = .ok (.new 50, 3) := by decide +kernel
theorem dX11_init_87 : decode cX11_init 87 = .ok (.dup, 1) := by decide +kernel
theorem dX11_init_88 : decode cX11_init 88 = .ok (.invokespecial 52, 3) := by decide +kernel
theorem dX11_init_91 : decode cX11_init 91 = .ok (.putfield 57, 3) := by decide +kernel
theorem dX11_init_94 : decode cX11_init 94 = .ok (.aload_n 0, 1) := by decide +kernel
theorem dX11_init_95 : decode cX11_init 95 = .ok (.new 60, 3) := by decide +kernel
theorem dX11_init_98 : decode cX11_init 98 = .ok (.dup, 1) := by decide +kernel
theorem dX11_init_99 : decode cX11_init 99 = .ok (.aload_n 0, 1) := by decide +kernel
theorem dX11_init_100 : decode cX11_init 100 = .ok (.getfield 10, 3) := by decide +kernel
theorem dX11_init_103 : decode cX11_init 103 = .ok (.aload_n 0, 1) := by decide +kernel
theorem dX11_init_104 : decode cX11_init 104 = .ok (.getfield 57, 3) := by decide +kernel
theorem dX11_init_107 : decode cX11_init 107 = .ok (.invokespecial 62, 3) := by decide +kernel
theorem dX11_init_110 : decode cX11_init 110 = .ok (.putfield 65, 3) := by decide +kernel
theorem dX11_init_113 : decode cX11_init 113 = .ok (.aload_n 0, 1) := by decide +kernel
theorem dX11_init_114 : decode cX11_init 114 = .ok (.new 69, 3) := by decide +kernel
theorem dX11_init_117 : decode cX11_init 117 = .ok (.dup, 1) := by decide +kernel
theorem dX11_init_118 : decode cX11_init 118 = .ok (.aload_n 0, 1) := by decide +kernel
theorem dX11_init_119 : decode cX11_init 119 = .ok (.getfield 53, 3) := by decide +kernel
theorem dX11_init_122 : decode cX11_init 122 = .ok (.invokespecial 71, 3) := by decide +kernel
theorem dX11_init_125 : decode cX11_init 125 = .ok (.putfield 74, 3) := by decide +kernel
theorem dX11_init_128 : decode cX11_init 128 = .ok (.aload_n 0, 1) := by decide +kernel
theorem dX11_init_129 : decode cX11_init 129 = .ok (.new 78, 3) := by decide +kernel
theorem dX11_init_132 : decode cX11_init 132 = .ok (.dup, 1) := by decide +kernel
theorem dX11_init_133 : decode cX11_init 133 = .ok (.invokespecial 80, 3) := by decide +kernel
theorem dX11_init_136 : decode cX11_init 136 = .ok (.putfield 81, 3) := by decide +kernel
theorem dX11_init_139 : decode cX11_init 139 = .ok (.aload_n 0, 1) := by decide +kernel
theorem dX11_init_140 : decode cX11_init 140 = .ok (.new 85, 3) := by decide +kernel
theorem dX11_init_143 : decode cX11_init 143 = .ok (.dup, 1) := by decide +kernel
theorem dX11_init_144 : decode cX11_init 144 = .ok (.invokespecial 87, 3) := by decide +kernel
theorem dX11_init_147 : decode cX11_init 147 = .ok (.putfield 88, 3) := by decide +kernel
theorem dX11_init_150 : decode cX11_init 150 = .ok (.aload_n 0, 1) := by decide +kernel
theorem dX11_init_151 : decode cX11_init 151 = .ok (.new 92, 3) := by decide +kernel
theorem dX11_init_154 : decode cX11_init 154 = .ok (.dup, 1) := by decide +kernel
theorem dX11_init_155 : decode cX11_init 155 = .ok (.invokespecial 94, 3) := by decide +kernel
theorem dX11_init_158 : decode cX11_init 158 = .ok (.putfield 95, 3) := by decide +kernel
theorem dX11_init_161 : decode cX11_init 161 = .ok (.iconst 0, 1) := by decide +kernel
theorem dX11_init_162 : decode cX11_init 162 = .ok (.istore_n 1, 1) := by decide +kernel
theorem dX11_init_163 : decode cX11_init 163 = .ok (.iload_n 1, 1) := by decide +kernel
theorem dX11_init_164 : decode cX11_init 164 = .ok (.bipush 6, 2) := by decide +kernel
theorem dX11_init_166 : decode cX11_init 166 = .ok (.if_icmp .ge 22, 3) := by decide +kernel
theorem dX11_init_169 : decode cX11_init 169 = .ok (.aload_n 0, 1) := by decide +kernel
theorem dX11_init_170 : decode cX11_init 170 = .ok (.getfield 18, 3) := by decide +kernel
theorem dX11_init_173 : decode cX11_init 173 = .ok (.iload_n 1, 1) := by decide +kernel
theorem dX11_init_174 : decode cX11_init 174 = .ok (.new 16, 3) := by decide +kernel
theorem dX11_init_177 : decode cX11_init 177 = .ok (.dup, 1) := by decide +kernel
theorem dX11_init_178 : decode cX11_init 178 = .ok (.invokespecial 22, 3) := by decide +kernel
theorem dX11_init_181 : decode cX11_init 181 = .ok (.aastore, 1) := by decide +kernel
theorem dX11_init_182 : decode cX11_init 182 = .ok (.iinc 1 1, 3) := by decide +kernel
theorem dX11_init_185 : decode cX11_init 185 = .ok (.goto (-22), 3) := by decide +kernel
theorem dX11_init_188 : decode cX11_init 188 = .ok (.return_, 1) := by decide +kernel
theorem dX11_feed_0 : decode cX11_feed 0 = .ok (.aload_n 0, 1) := by decide +kernel
theorem dX11_feed_1 : decode cX11_feed 1 = .ok (.getfield 10, 3) := by decide +kernel
theorem dX11_feed_4 : decode cX11_feed 4 = .ok (.iload_n 1, 1) := by decide +kernel
theorem dX11_feed_5 : decode cX11_feed 5 = .ok (.iload_n 2, 1) := by decide +kernel
theorem dX11_feed_6 : decode cX11_feed 6 = .ok (.iload_n 3, 1) := by decide +kernel
theorem dX11_feed_7 : decode cX11_feed 7 = .ok (.iload 4, 2) := by decide +kernel
theorem dX11_feed_9 : decode cX11_feed 9 = .ok (.iload 5, 2) := by decide +kernel
theorem dX11_feed_11 : decode cX11_feed 11 = .ok (.invokevirtual 99, 3) := by decide +kernel
theorem dX11_feed_14 : decode cX11_feed 14 = .ok (.ireturn, 1) := by decide +kernel
theorem dX11_end_0 : decode cX11_end 0 = .ok (.aload_n 0, 1) := by decide +kernel
theorem dX11_end_1 : decode cX11_end 1 = .ok (.getfield 10, 3) := by decide +kernel
theorem dX11_end_4 : decode cX11_end 4 = .ok (.iload_n 1, 1) := by decide +kernel
theorem dX11_end_5 : decode cX11_end 5 = .ok (.invokevirtual 103, 3) := by decide +kernel
theorem dX11_end_8 : decode cX11_end 8 = .ok (.ireturn, 1) := by decide +kernel
theorem dX11_floor_0 : decode cX11_floor 0 = .ok (.iload_n 1, 1) := by decide +kernel
theorem dX11_floor_1 : decode cX11_floor 1 = .ok (.invokestatic 107, 3) := by decide +kernel
theorem dX11_floor_4 : decode cX11_floor 4 = .ok (.ifCond .eq 13, 3) := by decide +kernel
theorem dX11_floor_7 : decode cX11_floor 7 = .ok (.aload_n 0, 1) := by decide +kernel
theorem dX11_floor_8 : decode cX11_floor 8 = .ok (.getfield 10, 3) := by decide +kernel
theorem dX11_floor_11 : decode cX11_floor 11 = .ok (.invokevirtual 111, 3) := by decide +kernel
theorem dX11_floor_14 : decode cX11_floor 14 = .ok (.bipush (-2), 2) := by decide +kernel
theorem dX11_floor_16 : decode cX11_floor 16 = .ok (.ireturn, 1) := by decide +kernel
theorem dX11_floor_17 : decode cX11_floor 17 = .ok (.aload_n 0, 1) := by decide +kernel
theorem dX11_floor_18 : decode cX11_floor 18 = .ok (.getfield 32, 3) := by decide +kernel
theorem dX11_floor_21 : decode cX11_floor 21 = .ok (.aload_n 0, 1) := by decide +kernel
theorem dX11_floor_22 : decode cX11_floor 22 = .ok (.getfield 23, 3) := by decide +kernel
theorem dX11_floor_25 : decode cX11_floor 25 = .ok (.invokevirtual 114, 3) := by decide +kernel
theorem dX11_floor_28 : decode cX11_floor 28 = .ok (.istore_n 2, 1) := by decide +kernel
theorem dX11_floor_29 : decode cX11_floor 29 = .ok (.aload_n 0, 1) := by decide +kernel
theorem dX11_floor_30 : decode cX11_floor 30 = .ok (.getfield 10, 3) := by decide +kernel
theorem dX11_floor_33 : decode cX11_floor 33 = .ok (.invokevirtual 111, 3) := by decide +kernel
theorem dX11_floor_36 : decode cX11_floor 36 = .ok (.iload_n 2, 1) := by decide +kernel
theorem dX11_floor_37 : decode cX11_floor 37 = .ok (.ifCond .ne 5, 3) := by decide +kernel
theorem dX11_floor_40 : decode cX11_floor 40 = .ok (.iconst (-1), 1) := by decide +kernel
theorem dX11_floor_41 : decode cX11_floor 41 = .ok (.ireturn, 1) := by decide +kernel
theorem dX11_floor_42 : decode cX11_floor 42 = .ok (.aload_n 0, 1) := by decide +kernel
theorem dX11_floor_43 : decode cX11_floor 43 = .ok (.iload_n 1, 1) := by decide +kernel
theorem dX11_floor_44 : decode cX11_floor 44 = .ok (.invokevirtual 118, 3) := by decide +kernel
theorem dX11_floor_47 : decode cX11_floor 47 = .ok (.ireturn, 1) := by decide +kernel
theorem dX11_fault_0 : decode cX11_fault 0 = .ok (.iload_n 1, 1) := by decide +kernel
theorem dX11_fault_1 : decode cX11_fault 1 = .ok (.ifCond .ne 11, 3) := by decide +kernel
theorem dX11_fault_4 : decode cX11_fault 4 = .ok (.aload_n 0, 1) := by decide +kernel
theorem dX11_fault_5 : decode cX11_fault 5 = .ok (.getfield 10, 3) := by decide +kernel
theorem dX11_fault_8 : decode cX11_fault 8 = .ok (.invokevirtual 121, 3) := by decide +kernel
theorem dX11_fault_11 : decode cX11_fault 11 = .ok (.ireturn, 1) := by decide +kernel
theorem dX11_fault_12 : decode cX11_fault 12 = .ok (.iload_n 1, 1) := by decide +kernel
theorem dX11_fault_13 : decode cX11_fault 13 = .ok (.iconst 1, 1) := by decide +kernel
theorem dX11_fault_14 : decode cX11_fault 14 = .ok (.if_icmp .ne 11, 3) := by decide +kernel
theorem dX11_fault_17 : decode cX11_fault 17 = .ok (.aload_n 0, 1) := by decide +kernel
theorem dX11_fault_18 : decode cX11_fault 18 = .ok (.getfield 10, 3) := by decide +kernel
theorem dX11_fault_21 : decode cX11_fault 21 = .ok (.invokevirtual 125, 3) := by decide +kernel
theorem dX11_fault_24 : decode cX11_fault 24 = .ok (.ireturn, 1) := by decide +kernel
theorem dX11_fault_25 : decode cX11_fault 25 = .ok (.iconst (-1), 1) := by decide +kernel
theorem dX11_fault_26 : decode cX11_fault 26 = .ok (.ireturn, 1) := by decide +kernel
theorem dX11_step_0 : decode cX11_step 0 = .ok (.iload_n 1, 1) := by decide +kernel
theorem dX11_step_1 : decode cX11_step 1 = .ok (.invokestatic 107, 3) := by decide +kernel
theorem dX11_step_4 : decode cX11_step 4 = .ok (.ifCond .eq 7, 3) := by decide +kernel
theorem dX11_step_7 : decode cX11_step 7 = .ok (.iconst (-1), 1) := by decide +kernel
theorem dX11_step_8 : decode cX11_step 8 = .ok (.goto 14, 3) := by decide +kernel
theorem dX11_step_11 : decode cX11_step 11 = .ok (.aload_n 0, 1) := by decide +kernel
theorem dX11_step_12 : decode cX11_step 12 = .ok (.getfield 18, 3) := by decide +kernel
theorem dX11_step_15 : decode cX11_step 15 = .ok (.iload_n 1, 1) := by decide +kernel
theorem dX11_step_16 : decode cX11_step 16 = .ok (.aaload, 1) := by decide +kernel
theorem dX11_step_17 : decode cX11_step 17 = .ok (.iload_n 2, 1) := by decide +kernel
theorem dX11_step_18 : decode cX11_step 18 = .ok (.iload_n 3, 1) := by decide +kernel
theorem dX11_step_19 : decode cX11_step 19 = .ok (.invokevirtual 128, 3) := by decide +kernel
theorem dX11_step_22 : decode cX11_step 22 = .ok (.ireturn, 1) := by decide +kernel
theorem dX11_out_0 : decode cX11_out 0 = .ok (.iload_n 1, 1) := by decide +kernel
theorem dX11_out_1 : decode cX11_out 1 = .ok (.invokestatic 107, 3) := by decide +kernel
theorem dX11_out_4 : decode cX11_out 4 = .ok (.ifCond .ne 16, 3) := by decide +kernel
theorem dX11_out_7 : decode cX11_out 7 = .ok (.aload_n 0, 1) := by decide +kernel
theorem dX11_out_8 : decode cX11_out 8 = .ok (.getfield 18, 3) := by decide +kernel
theorem dX11_out_11 : decode cX11_out 11 = .ok (.iload_n 1, 1) := by decide +kernel
theorem dX11_out_12 : decode cX11_out 12 = .ok (.aaload, 1) := by decide +kernel
theorem dX11_out_13 : decode cX11_out 13 = .ok (.iload_n 2, 1) := by decide +kernel
theorem dX11_out_14 : decode cX11_out 14 = .ok (.invokevirtual 132, 3) := by decide +kernel
theorem dX11_out_17 : decode cX11_out 17 = .ok (.ifCond .eq 6, 3) := by decide +kernel
theorem dX11_out_20 : decode cX11_out 20 = .ok (.bipush (-2), 2) := by decide +kernel
theorem dX11_out_22 : decode cX11_out 22 = .ok (.ireturn, 1) := by decide +kernel
theorem dX11_out_23 : decode cX11_out 23 = .ok (.aload_n 0, 1) := by decide +kernel
theorem dX11_out_24 : decode cX11_out 24 = .ok (.getfield 18, 3) := by decide +kernel
theorem dX11_out_27 : decode cX11_out 27 = .ok (.iload_n 1, 1) := by decide +kernel
theorem dX11_out_28 : decode cX11_out 28 = .ok (.aaload, 1) := by decide +kernel
theorem dX11_out_29 : decode cX11_out 29 = .ok (.iload_n 2, 1) := by decide +kernel
theorem dX11_out_30 : decode cX11_out 30 = .ok (.iload_n 3, 1) := by decide +kernel
theorem dX11_out_31 : decode cX11_out 31 = .ok (.invokevirtual 135, 3) := by decide +kernel
theorem dX11_out_34 : decode cX11_out 34 = .ok (.ireturn, 1) := by decide +kernel
theorem dX11_odd_0 : decode cX11_odd 0 = .ok (.iload_n 1, 1) := by decide +kernel
theorem dX11_odd_1 : decode cX11_odd 1 = .ok (.invokestatic 107, 3) := by decide +kernel
theorem dX11_odd_4 : decode cX11_odd 4 = .ok (.ifCond .eq 8, 3) := by decide +kernel
theorem dX11_odd_7 : decode cX11_odd 7 = .ok (.bipush (-2), 2) := by decide +kernel
theorem dX11_odd_9 : decode cX11_odd 9 = .ok (.goto 16, 3) := by decide +kernel
theorem dX11_odd_12 : decode cX11_odd 12 = .ok (.aload_n 0, 1) := by decide +kernel
theorem dX11_odd_13 : decode cX11_odd 13 = .ok (.getfield 39, 3) := by decide +kernel
theorem dX11_odd_16 : decode cX11_odd 16 = .ok (.aload_n 0, 1) := by decide +kernel
theorem dX11_odd_17 : decode cX11_odd 17 = .ok (.getfield 18, 3) := by decide +kernel
theorem dX11_odd_20 : decode cX11_odd 20 = .ok (.iload_n 1, 1) := by decide +kernel
theorem dX11_odd_21 : decode cX11_odd 21 = .ok (.aaload, 1) := by decide +kernel
theorem dX11_odd_22 : decode cX11_odd 22 = .ok (.invokevirtual 139, 3) := by decide +kernel
theorem dX11_odd_25 : decode cX11_odd 25 = .ok (.ireturn, 1) := by decide +kernel
theorem dX11_cycle_0 : decode cX11_cycle 0 = .ok (.iload_n 1, 1) := by decide +kernel
theorem dX11_cycle_1 : decode cX11_cycle 1 = .ok (.invokestatic 107, 3) := by decide +kernel
theorem dX11_cycle_4 : decode cX11_cycle 4 = .ok (.ifCond .ne 16, 3) := by decide +kernel
theorem dX11_cycle_7 : decode cX11_cycle 7 = .ok (.aload_n 0, 1) := by decide +kernel
theorem dX11_cycle_8 : decode cX11_cycle 8 = .ok (.getfield 18, 3) := by decide +kernel
theorem dX11_cycle_11 : decode cX11_cycle 11 = .ok (.iload_n 1, 1) := by decide +kernel
theorem dX11_cycle_12 : decode cX11_cycle 12 = .ok (.aaload, 1) := by decide +kernel
theorem dX11_cycle_13 : decode cX11_cycle 13 = .ok (.iload_n 2, 1) := by decide +kernel
theorem dX11_cycle_14 : decode cX11_cycle 14 = .ok (.invokevirtual 132, 3) := by decide +kernel
theorem dX11_cycle_17 : decode cX11_cycle 17 = .ok (.ifCond .eq 6, 3) := by decide +kernel
theorem dX11_cycle_20 : decode cX11_cycle 20 = .ok (.bipush (-2), 2) := by decide +kernel
theorem dX11_cycle_22 : decode cX11_cycle 22 = .ok (.ireturn, 1) := by decide +kernel
theorem dX11_cycle_23 : decode cX11_cycle 23 = .ok (.aload_n 0, 1) := by decide +kernel
theorem dX11_cycle_24 : decode cX11_cycle 24 = .ok (.getfield 18, 3) := by decide +kernel
theorem dX11_cycle_27 : decode cX11_cycle 27 = .ok (.iload_n 1, 1) := by decide +kernel
theorem dX11_cycle_28 : decode cX11_cycle 28 = .ok (.aaload, 1) := by decide +kernel
theorem dX11_cycle_29 : decode cX11_cycle 29 = .ok (.iload_n 2, 1) := by decide +kernel
theorem dX11_cycle_30 : decode cX11_cycle 30 = .ok (.invokevirtual 143, 3) := by decide +kernel
theorem dX11_cycle_33 : decode cX11_cycle 33 = .ok (.ireturn, 1) := by decide +kernel
theorem dX11_order_0 : decode cX11_order 0 = .ok (.iload_n 1, 1) := by decide +kernel
theorem dX11_order_1 : decode cX11_order 1 = .ok (.invokestatic 107, 3) := by decide +kernel
theorem dX11_order_4 : decode cX11_order 4 = .ok (.ifCond .eq 9, 3) := by decide +kernel
theorem dX11_order_7 : decode cX11_order 7 = .ok (.ldc2_w 146, 3) := by decide +kernel
theorem dX11_order_10 : decode cX11_order 10 = .ok (.goto 16, 3) := by decide +kernel
theorem dX11_order_13 : decode cX11_order 13 = .ok (.aload_n 0, 1) := by decide +kernel
theorem dX11_order_14 : decode cX11_order 14 = .ok (.getfield 39, 3) := by decide +kernel
theorem dX11_order_17 : decode cX11_order 17 = .ok (.aload_n 0, 1) := by decide +kernel
theorem dX11_order_18 : decode cX11_order 18 = .ok (.getfield 18, 3) := by decide +kernel
theorem dX11_order_21 : decode cX11_order 21 = .ok (.iload_n 1, 1) := by decide +kernel
theorem dX11_order_22 : decode cX11_order 22 = .ok (.aaload, 1) := by decide +kernel
theorem dX11_order_23 : decode cX11_order 23 = .ok (.invokevirtual 148, 3) := by decide +kernel
theorem dX11_order_26 : decode cX11_order 26 = .ok (.lreturn, 1) := by decide +kernel
theorem dX11_apart_0 : decode cX11_apart 0 = .ok (.iload_n 1, 1) := by decide +kernel
theorem dX11_apart_1 : decode cX11_apart 1 = .ok (.invokestatic 107, 3) := by decide +kernel
theorem dX11_apart_4 : decode cX11_apart 4 = .ok (.ifCond .ne 10, 3) := by decide +kernel
theorem dX11_apart_7 : decode cX11_apart 7 = .ok (.iload_n 2, 1) := by decide +kernel
theorem dX11_apart_8 : decode cX11_apart 8 = .ok (.invokestatic 107, 3) := by decide +kernel
theorem dX11_apart_11 : decode cX11_apart 11 = .ok (.ifCond .eq 6, 3) := by decide +kernel
theorem dX11_apart_14 : decode cX11_apart 14 = .ok (.bipush (-2), 2) := by decide +kernel
theorem dX11_apart_16 : decode cX11_apart 16 = .ok (.ireturn, 1) := by decide +kernel
theorem dX11_apart_17 : decode cX11_apart 17 = .ok (.aload_n 0, 1) := by decide +kernel
theorem dX11_apart_18 : decode cX11_apart 18 = .ok (.getfield 18, 3) := by decide +kernel
theorem dX11_apart_21 : decode cX11_apart 21 = .ok (.iload_n 1, 1) := by decide +kernel
theorem dX11_apart_22 : decode cX11_apart 22 = .ok (.aaload, 1) := by decide +kernel
theorem dX11_apart_23 : decode cX11_apart 23 = .ok (.invokevirtual 152, 3) := by decide +kernel
theorem dX11_apart_26 : decode cX11_apart 26 = .ok (.aload_n 0, 1) := by decide +kernel
theorem dX11_apart_27 : decode cX11_apart 27 = .ok (.getfield 18, 3) := by decide +kernel
theorem dX11_apart_30 : decode cX11_apart 30 = .ok (.iload_n 2, 1) := by decide +kernel
theorem dX11_apart_31 : decode cX11_apart 31 = .ok (.aaload, 1) := by decide +kernel
theorem dX11_apart_32 : decode cX11_apart 32 = .ok (.invokevirtual 152, 3) := by decide +kernel
theorem dX11_apart_35 : decode cX11_apart 35 = .ok (.if_icmp .eq 6, 3) := by decide +kernel
theorem dX11_apart_38 : decode cX11_apart 38 = .ok (.bipush (-4), 2) := by decide +kernel
theorem dX11_apart_40 : decode cX11_apart 40 = .ok (.ireturn, 1) := by decide +kernel
theorem dX11_apart_41 : decode cX11_apart 41 = .ok (.aload_n 0, 1) := by decide +kernel
theorem dX11_apart_42 : decode cX11_apart 42 = .ok (.getfield 18, 3) := by decide +kernel
theorem dX11_apart_45 : decode cX11_apart 45 = .ok (.iload_n 1, 1) := by decide +kernel
theorem dX11_apart_46 : decode cX11_apart 46 = .ok (.aaload, 1) := by decide +kernel
theorem dX11_apart_47 : decode cX11_apart 47 = .ok (.aload_n 0, 1) := by decide +kernel
theorem dX11_apart_48 : decode cX11_apart 48 = .ok (.getfield 18, 3) := by decide +kernel
theorem dX11_apart_51 : decode cX11_apart 51 = .ok (.iload_n 2, 1) := by decide +kernel
theorem dX11_apart_52 : decode cX11_apart 52 = .ok (.aaload, 1) := by decide +kernel
theorem dX11_apart_53 : decode cX11_apart 53 = .ok (.invokevirtual 155, 3) := by decide +kernel
theorem dX11_apart_56 : decode cX11_apart 56 = .ok (.ireturn, 1) := by decide +kernel
theorem dX11_least_0 : decode cX11_least 0 = .ok (.iload_n 1, 1) := by decide +kernel
theorem dX11_least_1 : decode cX11_least 1 = .ok (.invokestatic 107, 3) := by decide +kernel
theorem dX11_least_4 : decode cX11_least 4 = .ok (.ifCond .ne 20, 3) := by decide +kernel
theorem dX11_least_7 : decode cX11_least 7 = .ok (.iload_n 3, 1) := by decide +kernel
theorem dX11_least_8 : decode cX11_least 8 = .ok (.invokestatic 107, 3) := by decide +kernel
theorem dX11_least_11 : decode cX11_least 11 = .ok (.ifCond .ne 13, 3) := by decide +kernel
theorem dX11_least_14 : decode cX11_least 14 = .ok (.iload_n 2, 1) := by decide +kernel
theorem dX11_least_15 : decode cX11_least 15 = .ok (.ifCond .lt 9, 3) := by decide +kernel
theorem dX11_least_18 : decode cX11_least 18 = .ok (.iload_n 2, 1) := by decide +kernel
theorem dX11_least_19 : decode cX11_least 19 = .ok (.bipush 31, 2) := by decide +kernel
theorem dX11_least_21 : decode cX11_least 21 = .ok (.if_icmp .le 6, 3) := by decide +kernel
theorem dX11_least_24 : decode cX11_least 24 = .ok (.bipush (-2), 2) := by decide +kernel
theorem dX11_least_26 : decode cX11_least 26 = .ok (.ireturn, 1) := by decide +kernel
theorem dX11_least_27 : decode cX11_least 27 = .ok (.aload_n 0, 1) := by decide +kernel
theorem dX11_least_28 : decode cX11_least 28 = .ok (.getfield 18, 3) := by decide +kernel
theorem dX11_least_31 : decode cX11_least 31 = .ok (.iload_n 1, 1) := by decide +kernel
theorem dX11_least_32 : decode cX11_least 32 = .ok (.aaload, 1) := by decide +kernel
theorem dX11_least_33 : decode cX11_least 33 = .ok (.invokevirtual 152, 3) := by decide +kernel
theorem dX11_least_36 : decode cX11_least 36 = .ok (.iconst 3, 1) := by decide +kernel
theorem dX11_least_37 : decode cX11_least 37 = .ok (.if_icmp .eq 6, 3) := by decide +kernel
theorem dX11_least_40 : decode cX11_least 40 = .ok (.bipush (-4), 2) := by decide +kernel
theorem dX11_least_42 : decode cX11_least 42 = .ok (.ireturn, 1) := by decide +kernel
theorem dX11_least_43 : decode cX11_least 43 = .ok (.aload_n 0, 1) := by decide +kernel
theorem dX11_least_44 : decode cX11_least 44 = .ok (.getfield 46, 3) := by decide +kernel
theorem dX11_least_47 : decode cX11_least 47 = .ok (.aload_n 0, 1) := by decide +kernel
theorem dX11_least_48 : decode cX11_least 48 = .ok (.getfield 18, 3) := by decide +kernel
theorem dX11_least_51 : decode cX11_least 51 = .ok (.iload_n 1, 1) := by decide +kernel
theorem dX11_least_52 : decode cX11_least 52 = .ok (.aaload, 1) := by decide +kernel
theorem dX11_least_53 : decode cX11_least 53 = .ok (.iload_n 2, 1) := by decide +kernel
theorem dX11_least_54 : decode cX11_least 54 = .ok (.aload_n 0, 1) := by decide +kernel
theorem dX11_least_55 : decode cX11_least 55 = .ok (.getfield 23, 3) := by decide +kernel
theorem dX11_least_58 : decode cX11_least 58 = .ok (.invokevirtual 158, 3) := by decide +kernel
theorem dX11_least_61 : decode cX11_least 61 = .ok (.ifCond .ne 5, 3) := by decide +kernel
theorem dX11_least_64 : decode cX11_least 64 = .ok (.iconst (-1), 1) := by decide +kernel
theorem dX11_least_65 : decode cX11_least 65 = .ok (.ireturn, 1) := by decide +kernel
theorem dX11_least_66 : decode cX11_least 66 = .ok (.aload_n 0, 1) := by decide +kernel
theorem dX11_least_67 : decode cX11_least 67 = .ok (.iload_n 3, 1) := by decide +kernel
theorem dX11_least_68 : decode cX11_least 68 = .ok (.invokevirtual 118, 3) := by decide +kernel
theorem dX11_least_71 : decode cX11_least 71 = .ok (.ireturn, 1) := by decide +kernel
theorem dX11_lay_0 : decode cX11_lay 0 = .ok (.iload_n 1, 1) := by decide +kernel
theorem dX11_lay_1 : decode cX11_lay 1 = .ok (.invokestatic 107, 3) := by decide +kernel
theorem dX11_lay_4 : decode cX11_lay 4 = .ok (.ifCond .ne 10, 3) := by decide +kernel
theorem dX11_lay_7 : decode cX11_lay 7 = .ok (.iload_n 2, 1) := by decide +kernel
theorem dX11_lay_8 : decode cX11_lay 8 = .ok (.invokestatic 107, 3) := by decide +kernel
theorem dX11_lay_11 : decode cX11_lay 11 = .ok (.ifCond .eq 6, 3) := by decide +kernel
theorem dX11_lay_14 : decode cX11_lay 14 = .ok (.bipush (-2), 2) := by decide +kernel
theorem dX11_lay_16 : decode cX11_lay 16 = .ok (.ireturn, 1) := by decide +kernel
theorem dX11_lay_17 : decode cX11_lay 17 = .ok (.aload_n 0, 1) := by decide +kernel
theorem dX11_lay_18 : decode cX11_lay 18 = .ok (.getfield 39, 3) := by decide +kernel
theorem dX11_lay_21 : decode cX11_lay 21 = .ok (.aload_n 0, 1) := by decide +kernel
theorem dX11_lay_22 : decode cX11_lay 22 = .ok (.getfield 18, 3) := by decide +kernel
theorem dX11_lay_25 : decode cX11_lay 25 = .ok (.iload_n 1, 1) := by decide +kernel
theorem dX11_lay_26 : decode cX11_lay 26 = .ok (.aaload, 1) := by decide +kernel
theorem dX11_lay_27 : decode cX11_lay 27 = .ok (.aload_n 0, 1) := by decide +kernel
theorem dX11_lay_28 : decode cX11_lay 28 = .ok (.getfield 23, 3) := by decide +kernel
theorem dX11_lay_31 : decode cX11_lay 31 = .ok (.invokevirtual 162, 3) := by decide +kernel
theorem dX11_lay_34 : decode cX11_lay 34 = .ok (.ifCond .ne 6, 3) := by decide +kernel
theorem dX11_lay_37 : decode cX11_lay 37 = .ok (.bipush (-3), 2) := by decide +kernel
theorem dX11_lay_39 : decode cX11_lay 39 = .ok (.ireturn, 1) := by decide +kernel
theorem dX11_lay_40 : decode cX11_lay 40 = .ok (.aload_n 0, 1) := by decide +kernel
theorem dX11_lay_41 : decode cX11_lay 41 = .ok (.iload_n 2, 1) := by decide +kernel
theorem dX11_lay_42 : decode cX11_lay 42 = .ok (.invokevirtual 118, 3) := by decide +kernel
theorem dX11_lay_45 : decode cX11_lay 45 = .ok (.ireturn, 1) := by decide +kernel
theorem dX11_roll_0 : decode cX11_roll 0 = .ok (.iload_n 1, 1) := by decide +kernel
theorem dX11_roll_1 : decode cX11_roll 1 = .ok (.invokestatic 107, 3) := by decide +kernel
theorem dX11_roll_4 : decode cX11_roll 4 = .ok (.ifCond .ne 28, 3) := by decide +kernel
theorem dX11_roll_7 : decode cX11_roll 7 = .ok (.iload_n 3, 1) := by decide +kernel
theorem dX11_roll_8 : decode cX11_roll 8 = .ok (.invokestatic 107, 3) := by decide +kernel
theorem dX11_roll_11 : decode cX11_roll 11 = .ok (.ifCond .ne 21, 3) := by decide +kernel
theorem dX11_roll_14 : decode cX11_roll 14 = .ok (.iload_n 2, 1) := by decide +kernel
theorem dX11_roll_15 : decode cX11_roll 15 = .ok (.iconst 1, 1) := by decide +kernel
theorem dX11_roll_16 : decode cX11_roll 16 = .ok (.if_icmp .lt 16, 3) := by decide +kernel
theorem dX11_roll_19 : decode cX11_roll 19 = .ok (.aload_n 0, 1) := by decide +kernel
theorem dX11_roll_20 : decode cX11_roll 20 = .ok (.getfield 18, 3) := by decide +kernel
theorem dX11_roll_23 : decode cX11_roll 23 = .ok (.iload_n 1, 1) := by decide +kernel
theorem dX11_roll_24 : decode cX11_roll 24 = .ok (.aaload, 1) := by decide +kernel
theorem dX11_roll_25 : decode cX11_roll 25 = .ok (.iload_n 2, 1) := by decide +kernel
theorem dX11_roll_26 : decode cX11_roll 26 = .ok (.invokevirtual 132, 3) := by decide +kernel
theorem dX11_roll_29 : decode cX11_roll 29 = .ok (.ifCond .eq 6, 3) := by decide +kernel
theorem dX11_roll_32 : decode cX11_roll 32 = .ok (.bipush (-2), 2) := by decide +kernel
theorem dX11_roll_34 : decode cX11_roll 34 = .ok (.ireturn, 1) := by decide +kernel
theorem dX11_roll_35 : decode cX11_roll 35 = .ok (.aload_n 0, 1) := by decide +kernel
theorem dX11_roll_36 : decode cX11_roll 36 = .ok (.getfield 18, 3) := by decide +kernel
theorem dX11_roll_39 : decode cX11_roll 39 = .ok (.iload_n 1, 1) := by decide +kernel
theorem dX11_roll_40 : decode cX11_roll 40 = .ok (.aaload, 1) := by decide +kernel
theorem dX11_roll_41 : decode cX11_roll 41 = .ok (.astore 4, 2) := by decide +kernel
theorem dX11_roll_43 : decode cX11_roll 43 = .ok (.iload_n 2, 1) := by decide +kernel
theorem dX11_roll_44 : decode cX11_roll 44 = .ok (.invokestatic 166, 3) := by decide +kernel
theorem dX11_roll_47 : decode cX11_roll 47 = .ok (.istore 5, 2) := by decide +kernel
theorem dX11_roll_49 : decode cX11_roll 49 = .ok (.aload 4, 2) := by decide +kernel
theorem dX11_roll_51 : decode cX11_roll 51 = .ok (.invokevirtual 152, 3) := by decide +kernel
theorem dX11_roll_54 : decode cX11_roll 54 = .ok (.iload 5, 2) := by decide +kernel
theorem dX11_roll_56 : decode cX11_roll 56 = .ok (.iadd, 1) := by decide +kernel
theorem dX11_roll_57 : decode cX11_roll 57 = .ok (.bipush 8, 2) := by decide +kernel
theorem dX11_roll_59 : decode cX11_roll 59 = .ok (.if_icmp .gt 18, 3) := by decide +kernel
theorem dX11_roll_62 : decode cX11_roll 62 = .ok (.iconst 2, 1) := by decide +kernel
theorem dX11_roll_63 : decode cX11_roll 63 = .ok (.aload 4, 2) := by decide +kernel
theorem dX11_roll_65 : decode cX11_roll 65 = .ok (.invokevirtual 171, 3) := by decide +kernel
theorem dX11_roll_68 : decode cX11_roll 68 = .ok (.imul, 1) := by decide +kernel
theorem dX11_roll_69 : decode cX11_roll 69 = .ok (.iload 5, 2) := by decide +kernel
theorem dX11_roll_71 : decode cX11_roll 71 = .ok (.iadd, 1) := by decide +kernel
theorem dX11_roll_72 : decode cX11_roll 72 = .ok (.bipush 40, 2) := by decide +kernel
theorem dX11_roll_74 : decode cX11_roll 74 = .ok (.if_icmp .le 6, 3) := by decide +kernel
theorem dX11_roll_77 : decode cX11_roll 77 = .ok (.bipush (-3), 2) := by decide +kernel
theorem dX11_roll_79 : decode cX11_roll 79 = .ok (.ireturn, 1) := by decide +kernel
theorem dX11_roll_80 : decode cX11_roll 80 = .ok (.aload_n 0, 1) := by decide +kernel
theorem dX11_roll_81 : decode cX11_roll 81 = .ok (.getfield 23, 3) := by decide +kernel
theorem dX11_roll_84 : decode cX11_roll 84 = .ok (.aload 4, 2) := by decide +kernel
theorem dX11_roll_86 : decode cX11_roll 86 = .ok (.iload_n 2, 1) := by decide +kernel
theorem dX11_roll_87 : decode cX11_roll 87 = .ok (.invokevirtual 174, 3) := by decide +kernel
theorem dX11_roll_90 : decode cX11_roll 90 = .ok (.aload_n 0, 1) := by decide +kernel
theorem dX11_roll_91 : decode cX11_roll 91 = .ok (.iload_n 3, 1) := by decide +kernel
theorem dX11_roll_92 : decode cX11_roll 92 = .ok (.invokevirtual 118, 3) := by decide +kernel
theorem dX11_roll_95 : decode cX11_roll 95 = .ok (.ireturn, 1) := by decide +kernel
theorem dX11_chain_0 : decode cX11_chain 0 = .ok (.iload_n 1, 1) := by decide +kernel
theorem dX11_chain_1 : decode cX11_chain 1 = .ok (.invokestatic 107, 3) := by decide +kernel
theorem dX11_chain_4 : decode cX11_chain 4 = .ok (.ifCond .ne 17, 3) := by decide +kernel
theorem dX11_chain_7 : decode cX11_chain 7 = .ok (.iload_n 2, 1) := by decide +kernel
theorem dX11_chain_8 : decode cX11_chain 8 = .ok (.invokestatic 107, 3) := by decide +kernel
theorem dX11_chain_11 : decode cX11_chain 11 = .ok (.ifCond .ne 10, 3) := by decide +kernel
theorem dX11_chain_14 : decode cX11_chain 14 = .ok (.iload_n 3, 1) := by decide +kernel
theorem dX11_chain_15 : decode cX11_chain 15 = .ok (.invokestatic 107, 3) := by decide +kernel
theorem dX11_chain_18 : decode cX11_chain 18 = .ok (.ifCond .eq 6, 3) := by decide +kernel
theorem dX11_chain_21 : decode cX11_chain 21 = .ok (.bipush (-2), 2) := by decide +kernel
theorem dX11_chain_23 : decode cX11_chain 23 = .ok (.ireturn, 1) := by decide +kernel
theorem dX11_chain_24 : decode cX11_chain 24 = .ok (.aload_n 0, 1) := by decide +kernel
theorem dX11_chain_25 : decode cX11_chain 25 = .ok (.getfield 18, 3) := by decide +kernel
theorem dX11_chain_28 : decode cX11_chain 28 = .ok (.iload_n 1, 1) := by decide +kernel
theorem dX11_chain_29 : decode cX11_chain 29 = .ok (.aaload, 1) := by decide +kernel
theorem dX11_chain_30 : decode cX11_chain 30 = .ok (.invokevirtual 171, 3) := by decide +kernel
theorem dX11_chain_33 : decode cX11_chain 33 = .ok (.aload_n 0, 1) := by decide +kernel
theorem dX11_chain_34 : decode cX11_chain 34 = .ok (.getfield 18, 3) := by decide +kernel
theorem dX11_chain_37 : decode cX11_chain 37 = .ok (.iload_n 2, 1) := by decide +kernel
theorem dX11_chain_38 : decode cX11_chain 38 = .ok (.aaload, 1) := by decide +kernel
theorem dX11_chain_39 : decode cX11_chain 39 = .ok (.invokevirtual 171, 3) := by decide +kernel
theorem dX11_chain_42 : decode cX11_chain 42 = .ok (.iadd, 1) := by decide +kernel
theorem dX11_chain_43 : decode cX11_chain 43 = .ok (.bipush 40, 2) := by decide +kernel
theorem dX11_chain_45 : decode cX11_chain 45 = .ok (.if_icmp .le 6, 3) := by decide +kernel
theorem dX11_chain_48 : decode cX11_chain 48 = .ok (.bipush (-3), 2) := by decide +kernel
theorem dX11_chain_50 : decode cX11_chain 50 = .ok (.ireturn, 1) := by decide +kernel
theorem dX11_chain_51 : decode cX11_chain 51 = .ok (.aload_n 0, 1) := by decide +kernel
theorem dX11_chain_52 : decode cX11_chain 52 = .ok (.getfield 23, 3) := by decide +kernel
theorem dX11_chain_55 : decode cX11_chain 55 = .ok (.aload_n 0, 1) := by decide +kernel
theorem dX11_chain_56 : decode cX11_chain 56 = .ok (.getfield 18, 3) := by decide +kernel
theorem dX11_chain_59 : decode cX11_chain 59 = .ok (.iload_n 1, 1) := by decide +kernel
theorem dX11_chain_60 : decode cX11_chain 60 = .ok (.aaload, 1) := by decide +kernel
theorem dX11_chain_61 : decode cX11_chain 61 = .ok (.aload_n 0, 1) := by decide +kernel
theorem dX11_chain_62 : decode cX11_chain 62 = .ok (.getfield 18, 3) := by decide +kernel
theorem dX11_chain_65 : decode cX11_chain 65 = .ok (.iload_n 2, 1) := by decide +kernel
theorem dX11_chain_66 : decode cX11_chain 66 = .ok (.aaload, 1) := by decide +kernel
theorem dX11_chain_67 : decode cX11_chain 67 = .ok (.invokevirtual 178, 3) := by decide +kernel
theorem dX11_chain_70 : decode cX11_chain 70 = .ok (.aload_n 0, 1) := by decide +kernel
theorem dX11_chain_71 : decode cX11_chain 71 = .ok (.iload_n 3, 1) := by decide +kernel
theorem dX11_chain_72 : decode cX11_chain 72 = .ok (.invokevirtual 118, 3) := by decide +kernel
theorem dX11_chain_75 : decode cX11_chain 75 = .ok (.ireturn, 1) := by decide +kernel
theorem dX11_program_0 : decode cX11_program 0 = .ok (.aload_n 0, 1) := by decide +kernel
theorem dX11_program_1 : decode cX11_program 1 = .ok (.getfield 65, 3) := by decide +kernel
theorem dX11_program_4 : decode cX11_program 4 = .ok (.aload_n 0, 1) := by decide +kernel
theorem dX11_program_5 : decode cX11_program 5 = .ok (.getfield 57, 3) := by decide +kernel
theorem dX11_program_8 : decode cX11_program 8 = .ok (.invokevirtual 182, 3) := by decide +kernel
theorem dX11_program_11 : decode cX11_program 11 = .ok (.istore_n 1, 1) := by decide +kernel
theorem dX11_program_12 : decode cX11_program 12 = .ok (.aload_n 0, 1) := by decide +kernel
theorem dX11_program_13 : decode cX11_program 13 = .ok (.getfield 10, 3) := by decide +kernel
theorem dX11_program_16 : decode cX11_program 16 = .ok (.invokevirtual 111, 3) := by decide +kernel
theorem dX11_program_19 : decode cX11_program 19 = .ok (.iload_n 1, 1) := by decide +kernel
theorem dX11_program_20 : decode cX11_program 20 = .ok (.ifCond .ne 5, 3) := by decide +kernel
theorem dX11_program_23 : decode cX11_program 23 = .ok (.iconst (-1), 1) := by decide +kernel
theorem dX11_program_24 : decode cX11_program 24 = .ok (.ireturn, 1) := by decide +kernel
theorem dX11_program_25 : decode cX11_program 25 = .ok (.aload_n 0, 1) := by decide +kernel
theorem dX11_program_26 : decode cX11_program 26 = .ok (.getfield 53, 3) := by decide +kernel
theorem dX11_program_29 : decode cX11_program 29 = .ok (.astore_n 2, 1) := by decide +kernel
theorem dX11_program_30 : decode cX11_program 30 = .ok (.aload_n 0, 1) := by decide +kernel
theorem dX11_program_31 : decode cX11_program 31 = .ok (.aload_n 0, 1) := by decide +kernel
theorem dX11_program_32 : decode cX11_program 32 = .ok (.getfield 57, 3) := by decide +kernel
theorem dX11_program_35 : decode cX11_program 35 = .ok (.putfield 53, 3) := by decide +kernel
theorem dX11_program_38 : decode cX11_program 38 = .ok (.aload_n 0, 1) := by decide +kernel
theorem dX11_program_39 : decode cX11_program 39 = .ok (.aload_n 2, 1) := by decide +kernel
theorem dX11_program_40 : decode cX11_program 40 = .ok (.putfield 57, 3) := by decide +kernel
theorem dX11_program_43 : decode cX11_program 43 = .ok (.aload_n 0, 1) := by decide +kernel
theorem dX11_program_44 : decode cX11_program 44 = .ok (.getfield 53, 3) := by decide +kernel
theorem dX11_program_47 : decode cX11_program 47 = .ok (.invokevirtual 185, 3) := by decide +kernel
theorem dX11_program_50 : decode cX11_program 50 = .ok (.ireturn, 1) := by decide +kernel
theorem dX11_let_0 : decode cX11_let 0 = .ok (.iload_n 1, 1) := by decide +kernel
theorem dX11_let_1 : decode cX11_let 1 = .ok (.invokestatic 188, 3) := by decide +kernel
theorem dX11_let_4 : decode cX11_let 4 = .ok (.ifCond .eq 6, 3) := by decide +kernel
theorem dX11_let_7 : decode cX11_let 7 = .ok (.ldc 191, 2) := by decide +kernel
theorem dX11_let_9 : decode cX11_let 9 = .ok (.ireturn, 1) := by decide +kernel
theorem dX11_let_10 : decode cX11_let 10 = .ok (.aload_n 0, 1) := by decide +kernel
theorem dX11_let_11 : decode cX11_let 11 = .ok (.getfield 74, 3) := by decide +kernel
theorem dX11_let_14 : decode cX11_let 14 = .ok (.iload_n 1, 1) := by decide +kernel
theorem dX11_let_15 : decode cX11_let 15 = .ok (.iload_n 2, 1) := by decide +kernel
theorem dX11_let_16 : decode cX11_let 16 = .ok (.invokevirtual 192, 3) := by decide +kernel
theorem dX11_let_19 : decode cX11_let 19 = .ok (.ireturn, 1) := by decide +kernel
theorem dX11_value_0 : decode cX11_value 0 = .ok (.iload_n 1, 1) := by decide +kernel
theorem dX11_value_1 : decode cX11_value 1 = .ok (.invokestatic 188, 3) := by decide +kernel
theorem dX11_value_4 : decode cX11_value 4 = .ok (.ifCond .eq 8, 3) := by decide +kernel
theorem dX11_value_7 : decode cX11_value 7 = .ok (.ldc 191, 2) := by decide +kernel
theorem dX11_value_9 : decode cX11_value 9 = .ok (.goto 11, 3) := by decide +kernel
theorem dX11_value_12 : decode cX11_value 12 = .ok (.aload_n 0, 1) := by decide +kernel
theorem dX11_value_13 : decode cX11_value 13 = .ok (.getfield 74, 3) := by decide +kernel
theorem dX11_value_16 : decode cX11_value 16 = .ok (.iload_n 1, 1) := by decide +kernel
theorem dX11_value_17 : decode cX11_value 17 = .ok (.invokevirtual 195, 3) := by decide +kernel
theorem dX11_value_20 : decode cX11_value 20 = .ok (.ireturn, 1) := by decide +kernel
theorem dX11_run_0 : decode cX11_run 0 = .ok (.iload_n 1, 1) := by decide +kernel
theorem dX11_run_1 : decode cX11_run 1 = .ok (.ifCond .lt 14, 3) := by decide +kernel
theorem dX11_run_4 : decode cX11_run 4 = .ok (.iload_n 1, 1) := by decide +kernel
theorem dX11_run_5 : decode cX11_run 5 = .ok (.aload_n 0, 1) := by decide +kernel
theorem dX11_run_6 : decode cX11_run 6 = .ok (.getfield 53, 3) := by decide +kernel
theorem dX11_run_9 : decode cX11_run 9 = .ok (.invokevirtual 185, 3) := by decide +kernel
theorem dX11_run_12 : decode cX11_run 12 = .ok (.if_icmp .lt 6, 3) := by decide +kernel
theorem dX11_run_15 : decode cX11_run 15 = .ok (.bipush (-2), 2) := by decide +kernel
theorem dX11_run_17 : decode cX11_run 17 = .ok (.ireturn, 1) := by decide +kernel
theorem dX11_run_18 : decode cX11_run 18 = .ok (.aload_n 0, 1) := by decide +kernel
theorem dX11_run_19 : decode cX11_run 19 = .ok (.getfield 74, 3) := by decide +kernel
theorem dX11_run_22 : decode cX11_run 22 = .ok (.aload_n 0, 1) := by decide +kernel
theorem dX11_run_23 : decode cX11_run 23 = .ok (.getfield 53, 3) := by decide +kernel
theorem dX11_run_26 : decode cX11_run 26 = .ok (.iload_n 1, 1) := by decide +kernel
theorem dX11_run_27 : decode cX11_run 27 = .ok (.iload_n 2, 1) := by decide +kernel
theorem dX11_run_28 : decode cX11_run 28 = .ok (.invokevirtual 198, 3) := by decide +kernel
theorem dX11_run_31 : decode cX11_run 31 = .ok (.ireturn, 1) := by decide +kernel
theorem dX11_trouble_0 : decode cX11_trouble 0 = .ok (.iload_n 1, 1) := by decide +kernel
theorem dX11_trouble_1 : decode cX11_trouble 1 = .ok (.ifCond .ne 11, 3) := by decide +kernel
theorem dX11_trouble_4 : decode cX11_trouble 4 = .ok (.aload_n 0, 1) := by decide +kernel
theorem dX11_trouble_5 : decode cX11_trouble 5 = .ok (.getfield 74, 3) := by decide +kernel
theorem dX11_trouble_8 : decode cX11_trouble 8 = .ok (.invokevirtual 202, 3) := by decide +kernel
theorem dX11_trouble_11 : decode cX11_trouble 11 = .ok (.ireturn, 1) := by decide +kernel
theorem dX11_trouble_12 : decode cX11_trouble 12 = .ok (.iload_n 1, 1) := by decide +kernel
theorem dX11_trouble_13 : decode cX11_trouble 13 = .ok (.iconst 1, 1) := by decide +kernel
theorem dX11_trouble_14 : decode cX11_trouble 14 = .ok (.if_icmp .ne 11, 3) := by decide +kernel
theorem dX11_trouble_17 : decode cX11_trouble 17 = .ok (.aload_n 0, 1) := by decide +kernel
theorem dX11_trouble_18 : decode cX11_trouble 18 = .ok (.getfield 74, 3) := by decide +kernel
theorem dX11_trouble_21 : decode cX11_trouble 21 = .ok (.invokevirtual 205, 3) := by decide +kernel
theorem dX11_trouble_24 : decode cX11_trouble 24 = .ok (.ireturn, 1) := by decide +kernel
theorem dX11_trouble_25 : decode cX11_trouble 25 = .ok (.iconst (-1), 1) := by decide +kernel
theorem dX11_trouble_26 : decode cX11_trouble 26 = .ok (.ireturn, 1) := by decide +kernel
theorem dX11_table_0 : decode cX11_table 0 = .ok (.iload_n 1, 1) := by decide +kernel
theorem dX11_table_1 : decode cX11_table 1 = .ok (.iconst 2, 1) := by decide +kernel
theorem dX11_table_2 : decode cX11_table 2 = .ok (.if_icmp .lt 20, 3) := by decide +kernel
theorem dX11_table_5 : decode cX11_table 5 = .ok (.iload_n 1, 1) := by decide +kernel
theorem dX11_table_6 : decode cX11_table 6 = .ok (.bipush 10, 2) := by decide +kernel
theorem dX11_table_8 : decode cX11_table 8 = .ok (.if_icmp .gt 14, 3) := by decide +kernel
theorem dX11_table_11 : decode cX11_table 11 = .ok (.iload_n 2, 1) := by decide +kernel
theorem dX11_table_12 : decode cX11_table 12 = .ok (.iconst 2, 1) := by decide +kernel
theorem dX11_table_13 : decode cX11_table 13 = .ok (.if_icmp .lt 9, 3) := by decide +kernel
theorem dX11_table_16 : decode cX11_table 16 = .ok (.iload_n 2, 1) := by decide +kernel
theorem dX11_table_17 : decode cX11_table 17 = .ok (.bipush 10, 2) := by decide +kernel
theorem dX11_table_19 : decode cX11_table 19 = .ok (.if_icmp .le 6, 3) := by decide +kernel
theorem dX11_table_22 : decode cX11_table 22 = .ok (.bipush (-2), 2) := by decide +kernel
theorem dX11_table_24 : decode cX11_table 24 = .ok (.ireturn, 1) := by decide +kernel
theorem dX11_table_25 : decode cX11_table 25 = .ok (.aload_n 0, 1) := by decide +kernel
theorem dX11_table_26 : decode cX11_table 26 = .ok (.getfield 81, 3) := by decide +kernel
theorem dX11_table_29 : decode cX11_table 29 = .ok (.iload_n 1, 1) := by decide +kernel
theorem dX11_table_30 : decode cX11_table 30 = .ok (.iload_n 2, 1) := by decide +kernel
theorem dX11_table_31 : decode cX11_table 31 = .ok (.invokevirtual 208, 3) := by decide +kernel
theorem dX11_table_34 : decode cX11_table 34 = .ok (.iconst 1, 1) := by decide +kernel
theorem dX11_table_35 : decode cX11_table 35 = .ok (.ireturn, 1) := by decide +kernel
theorem dX11_part_0 : decode cX11_part 0 = .ok (.aload_n 0, 1) := by decide +kernel
theorem dX11_part_1 : decode cX11_part 1 = .ok (.getfield 81, 3) := by decide +kernel
theorem dX11_part_4 : decode cX11_part 4 = .ok (.iload_n 1, 1) := by decide +kernel
theorem dX11_part_5 : decode cX11_part 5 = .ok (.iload_n 2, 1) := by decide +kernel
theorem dX11_part_6 : decode cX11_part 6 = .ok (.invokevirtual 212, 3) := by decide +kernel
theorem dX11_part_9 : decode cX11_part 9 = .ok (.ifCond .ne 12, 3) := by decide +kernel
theorem dX11_part_12 : decode cX11_part 12 = .ok (.iload_n 3, 1) := by decide +kernel
theorem dX11_part_13 : decode cX11_part 13 = .ok (.ifCond .lt 8, 3) := by decide +kernel
theorem dX11_part_16 : decode cX11_part 16 = .ok (.iload_n 3, 1) := by decide +kernel
theorem dX11_part_17 : decode cX11_part 17 = .ok (.iconst 4, 1) := by decide +kernel
theorem dX11_part_18 : decode cX11_part 18 = .ok (.if_icmp .lt 6, 3) := by decide +kernel
theorem dX11_part_21 : decode cX11_part 21 = .ok (.bipush (-2), 2) := by decide +kernel
theorem dX11_part_23 : decode cX11_part 23 = .ok (.ireturn, 1) := by decide +kernel
theorem dX11_part_24 : decode cX11_part 24 = .ok (.aload_n 0, 1) := by decide +kernel
theorem dX11_part_25 : decode cX11_part 25 = .ok (.getfield 81, 3) := by decide +kernel
theorem dX11_part_28 : decode cX11_part 28 = .ok (.iload_n 1, 1) := by decide +kernel
theorem dX11_part_29 : decode cX11_part 29 = .ok (.iload_n 2, 1) := by decide +kernel
theorem dX11_part_30 : decode cX11_part 30 = .ok (.iload_n 3, 1) := by decide +kernel
theorem dX11_part_31 : decode cX11_part 31 = .ok (.invokevirtual 216, 3) := by decide +kernel
theorem dX11_part_34 : decode cX11_part 34 = .ok (.ireturn, 1) := by decide +kernel
theorem dX11_ball_0 : decode cX11_ball 0 = .ok (.aload_n 0, 1) := by decide +kernel
theorem dX11_ball_1 : decode cX11_ball 1 = .ok (.getfield 81, 3) := by decide +kernel
theorem dX11_ball_4 : decode cX11_ball 4 = .ok (.iload_n 1, 1) := by decide +kernel
theorem dX11_ball_5 : decode cX11_ball 5 = .ok (.iload_n 2, 1) := by decide +kernel
theorem dX11_ball_6 : decode cX11_ball 6 = .ok (.invokevirtual 212, 3) := by decide +kernel
theorem dX11_ball_9 : decode cX11_ball 9 = .ok (.ifCond .ne 12, 3) := by decide +kernel
theorem dX11_ball_12 : decode cX11_ball 12 = .ok (.iload_n 3, 1) := by decide +kernel
theorem dX11_ball_13 : decode cX11_ball 13 = .ok (.ifCond .lt 8, 3) := by decide +kernel
theorem dX11_ball_16 : decode cX11_ball 16 = .ok (.iload_n 3, 1) := by decide +kernel
theorem dX11_ball_17 : decode cX11_ball 17 = .ok (.iconst 4, 1) := by decide +kernel
theorem dX11_ball_18 : decode cX11_ball 18 = .ok (.if_icmp .lt 6, 3) := by decide +kernel
theorem dX11_ball_21 : decode cX11_ball 21 = .ok (.bipush (-2), 2) := by decide +kernel
theorem dX11_ball_23 : decode cX11_ball 23 = .ok (.ireturn, 1) := by decide +kernel
theorem dX11_ball_24 : decode cX11_ball 24 = .ok (.aload_n 0, 1) := by decide +kernel
theorem dX11_ball_25 : decode cX11_ball 25 = .ok (.getfield 81, 3) := by decide +kernel
theorem dX11_ball_28 : decode cX11_ball 28 = .ok (.iload_n 1, 1) := by decide +kernel
theorem dX11_ball_29 : decode cX11_ball 29 = .ok (.iload_n 2, 1) := by decide +kernel
theorem dX11_ball_30 : decode cX11_ball 30 = .ok (.iload_n 3, 1) := by decide +kernel
theorem dX11_ball_31 : decode cX11_ball 31 = .ok (.iload 4, 2) := by decide +kernel
theorem dX11_ball_33 : decode cX11_ball 33 = .ok (.invokevirtual 220, 3) := by decide +kernel
theorem dX11_ball_36 : decode cX11_ball 36 = .ok (.ireturn, 1) := by decide +kernel
theorem dX11_cell_0 : decode cX11_cell 0 = .ok (.aload_n 0, 1) := by decide +kernel
theorem dX11_cell_1 : decode cX11_cell 1 = .ok (.getfield 81, 3) := by decide +kernel
theorem dX11_cell_4 : decode cX11_cell 4 = .ok (.iload_n 1, 1) := by decide +kernel
theorem dX11_cell_5 : decode cX11_cell 5 = .ok (.iload_n 2, 1) := by decide +kernel
theorem dX11_cell_6 : decode cX11_cell 6 = .ok (.invokevirtual 212, 3) := by decide +kernel
theorem dX11_cell_9 : decode cX11_cell 9 = .ok (.ifCond .eq 8, 3) := by decide +kernel
theorem dX11_cell_12 : decode cX11_cell 12 = .ok (.bipush (-2), 2) := by decide +kernel
theorem dX11_cell_14 : decode cX11_cell 14 = .ok (.goto 12, 3) := by decide +kernel
theorem dX11_cell_17 : decode cX11_cell 17 = .ok (.aload_n 0, 1) := by decide +kernel
theorem dX11_cell_18 : decode cX11_cell 18 = .ok (.getfield 81, 3) := by decide +kernel
theorem dX11_cell_21 : decode cX11_cell 21 = .ok (.iload_n 1, 1) := by decide +kernel
theorem dX11_cell_22 : decode cX11_cell 22 = .ok (.iload_n 2, 1) := by decide +kernel
theorem dX11_cell_23 : decode cX11_cell 23 = .ok (.invokevirtual 224, 3) := by decide +kernel
theorem dX11_cell_26 : decode cX11_cell 26 = .ok (.ireturn, 1) := by decide +kernel
theorem dX11_beat_0 : decode cX11_beat 0 = .ok (.iload_n 1, 1) := by decide +kernel
theorem dX11_beat_1 : decode cX11_beat 1 = .ok (.iconst 1, 1) := by decide +kernel
theorem dX11_beat_2 : decode cX11_beat 2 = .ok (.if_icmp .lt 10, 3) := by decide +kernel
theorem dX11_beat_5 : decode cX11_beat 5 = .ok (.iload_n 1, 1) := by decide +kernel
theorem dX11_beat_6 : decode cX11_beat 6 = .ok (.sipush 500, 3) := by decide +kernel
theorem dX11_beat_9 : decode cX11_beat 9 = .ok (.if_icmp .le 6, 3) := by decide +kernel
theorem dX11_beat_12 : decode cX11_beat 12 = .ok (.bipush (-2), 2) := by decide +kernel
theorem dX11_beat_14 : decode cX11_beat 14 = .ok (.ireturn, 1) := by decide +kernel
theorem dX11_beat_15 : decode cX11_beat 15 = .ok (.aload_n 0, 1) := by decide +kernel
theorem dX11_beat_16 : decode cX11_beat 16 = .ok (.getfield 81, 3) := by decide +kernel
theorem dX11_beat_19 : decode cX11_beat 19 = .ok (.iload_n 1, 1) := by decide +kernel
theorem dX11_beat_20 : decode cX11_beat 20 = .ok (.invokevirtual 227, 3) := by decide +kernel
theorem dX11_beat_23 : decode cX11_beat 23 = .ok (.aload_n 0, 1) := by decide +kernel
theorem dX11_beat_24 : decode cX11_beat 24 = .ok (.getfield 81, 3) := by decide +kernel
theorem dX11_beat_27 : decode cX11_beat 27 = .ok (.invokevirtual 231, 3) := by decide +kernel
theorem dX11_beat_30 : decode cX11_beat 30 = .ok (.ireturn, 1) := by decide +kernel
theorem dX11_back_0 : decode cX11_back 0 = .ok (.iload_n 1, 1) := by decide +kernel
theorem dX11_back_1 : decode cX11_back 1 = .ok (.iconst 1, 1) := by decide +kernel
theorem dX11_back_2 : decode cX11_back 2 = .ok (.if_icmp .lt 10, 3) := by decide +kernel
theorem dX11_back_5 : decode cX11_back 5 = .ok (.iload_n 1, 1) := by decide +kernel
theorem dX11_back_6 : decode cX11_back 6 = .ok (.sipush 500, 3) := by decide +kernel
theorem dX11_back_9 : decode cX11_back 9 = .ok (.if_icmp .le 6, 3) := by decide +kernel
theorem dX11_back_12 : decode cX11_back 12 = .ok (.bipush (-2), 2) := by decide +kernel
theorem dX11_back_14 : decode cX11_back 14 = .ok (.ireturn, 1) := by decide +kernel
theorem dX11_back_15 : decode cX11_back 15 = .ok (.iload_n 1, 1) := by decide +kernel
theorem dX11_back_16 : decode cX11_back 16 = .ok (.aload_n 0, 1) := by decide +kernel
theorem dX11_back_17 : decode cX11_back 17 = .ok (.getfield 81, 3) := by decide +kernel
theorem dX11_back_20 : decode cX11_back 20 = .ok (.invokevirtual 234, 3) := by decide +kernel
theorem dX11_back_23 : decode cX11_back 23 = .ok (.if_icmp .le 6, 3) := by decide +kernel
theorem dX11_back_26 : decode cX11_back 26 = .ok (.bipush (-4), 2) := by decide +kernel
theorem dX11_back_28 : decode cX11_back 28 = .ok (.ireturn, 1) := by decide +kernel
theorem dX11_back_29 : decode cX11_back 29 = .ok (.aload_n 0, 1) := by decide +kernel
theorem dX11_back_30 : decode cX11_back 30 = .ok (.getfield 81, 3) := by decide +kernel
theorem dX11_back_33 : decode cX11_back 33 = .ok (.iload_n 1, 1) := by decide +kernel
theorem dX11_back_34 : decode cX11_back 34 = .ok (.invokevirtual 237, 3) := by decide +kernel
theorem dX11_back_37 : decode cX11_back 37 = .ok (.aload_n 0, 1) := by decide +kernel
theorem dX11_back_38 : decode cX11_back 38 = .ok (.getfield 81, 3) := by decide +kernel
theorem dX11_back_41 : decode cX11_back 41 = .ok (.invokevirtual 231, 3) := by decide +kernel
theorem dX11_back_44 : decode cX11_back 44 = .ok (.ireturn, 1) := by decide +kernel
theorem dX11_round_0 : decode cX11_round 0 = .ok (.aload_n 0, 1) := by decide +kernel
theorem dX11_round_1 : decode cX11_round 1 = .ok (.getfield 81, 3) := by decide +kernel
theorem dX11_round_4 : decode cX11_round 4 = .ok (.invokevirtual 240, 3) := by decide +kernel
theorem dX11_round_7 : decode cX11_round 7 = .ok (.ireturn, 1) := by decide +kernel
theorem dX11_trail_0 : decode cX11_trail 0 = .ok (.iload_n 1, 1) := by decide +kernel
theorem dX11_trail_1 : decode cX11_trail 1 = .ok (.iconst 1, 1) := by decide +kernel
theorem dX11_trail_2 : decode cX11_trail 2 = .ok (.if_icmp .lt 20, 3) := by decide +kernel
theorem dX11_trail_5 : decode cX11_trail 5 = .ok (.iload_n 1, 1) := by decide +kernel
theorem dX11_trail_6 : decode cX11_trail 6 = .ok (.bipush 12, 2) := by decide +kernel
theorem dX11_trail_8 : decode cX11_trail 8 = .ok (.if_icmp .gt 14, 3) := by decide +kernel
theorem dX11_trail_11 : decode cX11_trail 11 = .ok (.iload_n 2, 1) := by decide +kernel
theorem dX11_trail_12 : decode cX11_trail 12 = .ok (.iconst 1, 1) := by decide +kernel
theorem dX11_trail_13 : decode cX11_trail 13 = .ok (.if_icmp .lt 9, 3) := by decide +kernel
theorem dX11_trail_16 : decode cX11_trail 16 = .ok (.iload_n 2, 1) := by decide +kernel
theorem dX11_trail_17 : decode cX11_trail 17 = .ok (.bipush 12, 2) := by decide +kernel
theorem dX11_trail_19 : decode cX11_trail 19 = .ok (.if_icmp .le 6, 3) := by decide +kernel
theorem dX11_trail_22 : decode cX11_trail 22 = .ok (.bipush (-2), 2) := by decide +kernel
theorem dX11_trail_24 : decode cX11_trail 24 = .ok (.ireturn, 1) := by decide +kernel
theorem dX11_trail_25 : decode cX11_trail 25 = .ok (.aload_n 0, 1) := by decide +kernel
theorem dX11_trail_26 : decode cX11_trail 26 = .ok (.getfield 88, 3) := by decide +kernel
theorem dX11_trail_29 : decode cX11_trail 29 = .ok (.iload_n 1, 1) := by decide +kernel
theorem dX11_trail_30 : decode cX11_trail 30 = .ok (.iload_n 2, 1) := by decide +kernel
theorem dX11_trail_31 : decode cX11_trail 31 = .ok (.invokevirtual 243, 3) := by decide +kernel
theorem dX11_trail_34 : decode cX11_trail 34 = .ok (.ireturn, 1) := by decide +kernel
theorem dX11_move_0 : decode cX11_move 0 = .ok (.aload_n 0, 1) := by decide +kernel
theorem dX11_move_1 : decode cX11_move 1 = .ok (.getfield 88, 3) := by decide +kernel
theorem dX11_move_4 : decode cX11_move 4 = .ok (.iload_n 1, 1) := by decide +kernel
theorem dX11_move_5 : decode cX11_move 5 = .ok (.invokevirtual 246, 3) := by decide +kernel
theorem dX11_move_8 : decode cX11_move 8 = .ok (.ireturn, 1) := by decide +kernel
theorem dX11_watch_0 : decode cX11_watch 0 = .ok (.iload_n 1, 1) := by decide +kernel
theorem dX11_watch_1 : decode cX11_watch 1 = .ok (.invokestatic 107, 3) := by decide +kernel
theorem dX11_watch_4 : decode cX11_watch 4 = .ok (.ifCond .eq 6, 3) := by decide +kernel
theorem dX11_watch_7 : decode cX11_watch 7 = .ok (.bipush (-2), 2) := by decide +kernel
theorem dX11_watch_9 : decode cX11_watch 9 = .ok (.ireturn, 1) := by decide +kernel
theorem dX11_watch_10 : decode cX11_watch 10 = .ok (.aload_n 0, 1) := by decide +kernel
theorem dX11_watch_11 : decode cX11_watch 11 = .ok (.getfield 95, 3) := by decide +kernel
theorem dX11_watch_14 : decode cX11_watch 14 = .ok (.aload_n 0, 1) := by decide +kernel
theorem dX11_watch_15 : decode cX11_watch 15 = .ok (.getfield 18, 3) := by decide +kernel
theorem dX11_watch_18 : decode cX11_watch 18 = .ok (.iload_n 1, 1) := by decide +kernel
theorem dX11_watch_19 : decode cX11_watch 19 = .ok (.aaload, 1) := by decide +kernel
theorem dX11_watch_20 : decode cX11_watch 20 = .ok (.invokevirtual 249, 3) := by decide +kernel
theorem dX11_watch_23 : decode cX11_watch 23 = .ok (.aload_n 0, 1) := by decide +kernel
theorem dX11_watch_24 : decode cX11_watch 24 = .ok (.getfield 18, 3) := by decide +kernel
theorem dX11_watch_27 : decode cX11_watch 27 = .ok (.iload_n 1, 1) := by decide +kernel
theorem dX11_watch_28 : decode cX11_watch 28 = .ok (.aaload, 1) := by decide +kernel
theorem dX11_watch_29 : decode cX11_watch 29 = .ok (.invokevirtual 171, 3) := by decide +kernel
theorem dX11_watch_32 : decode cX11_watch 32 = .ok (.ireturn, 1) := by decide +kernel
theorem dX11_see_0 : decode cX11_see 0 = .ok (.aload_n 0, 1) := by decide +kernel
theorem dX11_see_1 : decode cX11_see 1 = .ok (.getfield 95, 3) := by decide +kernel
theorem dX11_see_4 : decode cX11_see 4 = .ok (.iload_n 1, 1) := by decide +kernel
theorem dX11_see_5 : decode cX11_see 5 = .ok (.iload_n 2, 1) := by decide +kernel
theorem dX11_see_6 : decode cX11_see 6 = .ok (.iload_n 3, 1) := by decide +kernel
theorem dX11_see_7 : decode cX11_see 7 = .ok (.invokevirtual 253, 3) := by decide +kernel
theorem dX11_see_10 : decode cX11_see 10 = .ok (.ireturn, 1) := by decide +kernel
theorem dX11_right_0 : decode cX11_right 0 = .ok (.aload_n 0, 1) := by decide +kernel
theorem dX11_right_1 : decode cX11_right 1 = .ok (.getfield 95, 3) := by decide +kernel
theorem dX11_right_4 : decode cX11_right 4 = .ok (.iload_n 1, 1) := by decide +kernel
theorem dX11_right_5 : decode cX11_right 5 = .ok (.iload_n 2, 1) := by decide +kernel
theorem dX11_right_6 : decode cX11_right 6 = .ok (.iload_n 3, 1) := by decide +kernel
theorem dX11_right_7 : decode cX11_right 7 = .ok (.invokevirtual 256, 3) := by decide +kernel
theorem dX11_right_10 : decode cX11_right 10 = .ok (.ireturn, 1) := by decide +kernel
theorem dX11_fit_0 : decode cX11_fit 0 = .ok (.iload_n 1, 1) := by decide +kernel
theorem dX11_fit_1 : decode cX11_fit 1 = .ok (.ifCond .lt 10, 3) := by decide +kernel
theorem dX11_fit_4 : decode cX11_fit 4 = .ok (.iload_n 1, 1) := by decide +kernel
theorem dX11_fit_5 : decode cX11_fit 5 = .ok (.sipush 999, 3) := by decide +kernel
theorem dX11_fit_8 : decode cX11_fit 8 = .ok (.if_icmp .le 7, 3) := by decide +kernel
theorem dX11_fit_11 : decode cX11_fit 11 = .ok (.ldc2_w 146, 3) := by decide +kernel
theorem dX11_fit_14 : decode cX11_fit 14 = .ok (.lreturn, 1) := by decide +kernel
theorem dX11_fit_15 : decode cX11_fit 15 = .ok (.aload_n 0, 1) := by decide +kernel
theorem dX11_fit_16 : decode cX11_fit 16 = .ok (.getfield 95, 3) := by decide +kernel
theorem dX11_fit_19 : decode cX11_fit 19 = .ok (.invokevirtual 259, 3) := by decide +kernel
theorem dX11_fit_22 : decode cX11_fit 22 = .ok (.ifCond .eq 14, 3) := by decide +kernel
theorem dX11_fit_25 : decode cX11_fit 25 = .ok (.aload_n 0, 1) := by decide +kernel
theorem dX11_fit_26 : decode cX11_fit 26 = .ok (.getfield 95, 3) := by decide +kernel
theorem dX11_fit_29 : decode cX11_fit 29 = .ok (.iload_n 1, 1) := by decide +kernel
theorem dX11_fit_30 : decode cX11_fit 30 = .ok (.invokevirtual 263, 3) := by decide +kernel
theorem dX11_fit_33 : decode cX11_fit 33 = .ok (.goto 6, 3) := by decide +kernel
theorem dX11_fit_36 : decode cX11_fit 36 = .ok (.ldc2_w 267, 3) := by decide +kernel
theorem dX11_fit_39 : decode cX11_fit 39 = .ok (.lreturn, 1) := by decide +kernel
theorem dX11_look_0 : decode cX11_look 0 = .ok (.aload_n 0, 1) := by decide +kernel
theorem dX11_look_1 : decode cX11_look 1 = .ok (.getfield 95, 3) := by decide +kernel
theorem dX11_look_4 : decode cX11_look 4 = .ok (.invokevirtual 259, 3) := by decide +kernel
theorem dX11_look_7 : decode cX11_look 7 = .ok (.ifCond .eq 13, 3) := by decide +kernel
theorem dX11_look_10 : decode cX11_look 10 = .ok (.aload_n 0, 1) := by decide +kernel
theorem dX11_look_11 : decode cX11_look 11 = .ok (.getfield 95, 3) := by decide +kernel
theorem dX11_look_14 : decode cX11_look 14 = .ok (.invokevirtual 269, 3) := by decide +kernel
theorem dX11_look_17 : decode cX11_look 17 = .ok (.goto 5, 3) := by decide +kernel
theorem dX11_look_20 : decode cX11_look 20 = .ok (.bipush (-4), 2) := by decide +kernel
theorem dX11_look_22 : decode cX11_look 22 = .ok (.ireturn, 1) := by decide +kernel
theorem dX11_count_0 : decode cX11_count 0 = .ok (.iload_n 1, 1) := by decide +kernel
theorem dX11_count_1 : decode cX11_count 1 = .ok (.tableswitch 123 0 8 #[51, 59, 67, 75, 83, 91, 99, 107, 115], 51) := by decide +kernel
theorem dX11_count_52 : decode cX11_count 52 = .ok (.aload_n 0, 1) := by decide +kernel
theorem dX11_count_53 : decode cX11_count 53 = .ok (.getfield 53, 3) := by decide +kernel
theorem dX11_count_56 : decode cX11_count 56 = .ok (.invokevirtual 185, 3) := by decide +kernel
theorem dX11_count_59 : decode cX11_count 59 = .ok (.ireturn, 1) := by decide +kernel
theorem dX11_count_60 : decode cX11_count 60 = .ok (.aload_n 0, 1) := by decide +kernel
theorem dX11_count_61 : decode cX11_count 61 = .ok (.getfield 81, 3) := by decide +kernel
theorem dX11_count_64 : decode cX11_count 64 = .ok (.invokevirtual 272, 3) := by decide +kernel
theorem dX11_count_67 : decode cX11_count 67 = .ok (.ireturn, 1) := by decide +kernel
theorem dX11_count_68 : decode cX11_count 68 = .ok (.aload_n 0, 1) := by decide +kernel
theorem dX11_count_69 : decode cX11_count 69 = .ok (.getfield 81, 3) := by decide +kernel
theorem dX11_count_72 : decode cX11_count 72 = .ok (.invokevirtual 234, 3) := by decide +kernel
theorem dX11_count_75 : decode cX11_count 75 = .ok (.ireturn, 1) := by decide +kernel
theorem dX11_count_76 : decode cX11_count 76 = .ok (.aload_n 0, 1) := by decide +kernel
theorem dX11_count_77 : decode cX11_count 77 = .ok (.getfield 81, 3) := by decide +kernel
theorem dX11_count_80 : decode cX11_count 80 = .ok (.invokevirtual 231, 3) := by decide +kernel
theorem dX11_count_83 : decode cX11_count 83 = .ok (.ireturn, 1) := by decide +kernel
theorem dX11_count_84 : decode cX11_count 84 = .ok (.aload_n 0, 1) := by decide +kernel
theorem dX11_count_85 : decode cX11_count 85 = .ok (.getfield 81, 3) := by decide +kernel
theorem dX11_count_88 : decode cX11_count 88 = .ok (.invokevirtual 275, 3) := by decide +kernel
theorem dX11_count_91 : decode cX11_count 91 = .ok (.ireturn, 1) := by decide +kernel
theorem dX11_count_92 : decode cX11_count 92 = .ok (.aload_n 0, 1) := by decide +kernel
theorem dX11_count_93 : decode cX11_count 93 = .ok (.getfield 81, 3) := by decide +kernel
theorem dX11_count_96 : decode cX11_count 96 = .ok (.invokevirtual 278, 3) := by decide +kernel
theorem dX11_count_99 : decode cX11_count 99 = .ok (.ireturn, 1) := by decide +kernel
theorem dX11_count_100 : decode cX11_count 100 = .ok (.aload_n 0, 1) := by decide +kernel
theorem dX11_count_101 : decode cX11_count 101 = .ok (.getfield 95, 3) := by decide +kernel
theorem dX11_count_104 : decode cX11_count 104 = .ok (.invokevirtual 281, 3) := by decide +kernel
theorem dX11_count_107 : decode cX11_count 107 = .ok (.ireturn, 1) := by decide +kernel
theorem dX11_count_108 : decode cX11_count 108 = .ok (.aload_n 0, 1) := by decide +kernel
theorem dX11_count_109 : decode cX11_count 109 = .ok (.getfield 95, 3) := by decide +kernel
theorem dX11_count_112 : decode cX11_count 112 = .ok (.invokevirtual 284, 3) := by decide +kernel
theorem dX11_count_115 : decode cX11_count 115 = .ok (.ireturn, 1) := by decide +kernel
theorem dX11_count_116 : decode cX11_count 116 = .ok (.aload_n 0, 1) := by decide +kernel
theorem dX11_count_117 : decode cX11_count 117 = .ok (.getfield 10, 3) := by decide +kernel
theorem dX11_count_120 : decode cX11_count 120 = .ok (.invokevirtual 287, 3) := by decide +kernel
theorem dX11_count_123 : decode cX11_count 123 = .ok (.ireturn, 1) := by decide +kernel
theorem dX11_count_124 : decode cX11_count 124 = .ok (.iconst (-1), 1) := by decide +kernel
theorem dX11_count_125 : decode cX11_count 125 = .ok (.ireturn, 1) := by decide +kernel
theorem dX11_noFloor_0 : decode cX11_noFloor 0 = .ok (.iload_n 0, 1) := by decide +kernel
theorem dX11_noFloor_1 : decode cX11_noFloor 1 = .ok (.ifCond .lt 9, 3) := by decide +kernel
theorem dX11_noFloor_4 : decode cX11_noFloor 4 = .ok (.iload_n 0, 1) := by decide +kernel
theorem dX11_noFloor_5 : decode cX11_noFloor 5 = .ok (.bipush 6, 2) := by decide +kernel
theorem dX11_noFloor_7 : decode cX11_noFloor 7 = .ok (.if_icmp .lt 7, 3) := by decide +kernel
theorem dX11_noFloor_10 : decode cX11_noFloor 10 = .ok (.iconst 1, 1) := by decide +kernel
theorem dX11_noFloor_11 : decode cX11_noFloor 11 = .ok (.goto 4, 3) := by decide +kernel
theorem dX11_noFloor_14 : decode cX11_noFloor 14 = .ok (.iconst 0, 1) := by decide +kernel
theorem dX11_noFloor_15 : decode cX11_noFloor 15 = .ok (.ireturn, 1) := by decide +kernel
theorem dX11_settle_0 : decode cX11_settle 0 = .ok (.aload_n 0, 1) := by decide +kernel
theorem dX11_settle_1 : decode cX11_settle 1 = .ok (.getfield 18, 3) := by decide +kernel
theorem dX11_settle_4 : decode cX11_settle 4 = .ok (.iload_n 1, 1) := by decide +kernel
theorem dX11_settle_5 : decode cX11_settle 5 = .ok (.aaload, 1) := by decide +kernel
theorem dX11_settle_6 : decode cX11_settle 6 = .ok (.aload_n 0, 1) := by decide +kernel
theorem dX11_settle_7 : decode cX11_settle 7 = .ok (.getfield 23, 3) := by decide +kernel
theorem dX11_settle_10 : decode cX11_settle 10 = .ok (.invokevirtual 290, 3) := by decide +kernel
theorem dX11_settle_13 : decode cX11_settle 13 = .ok (.aload_n 0, 1) := by decide +kernel
theorem dX11_settle_14 : decode cX11_settle 14 = .ok (.getfield 18, 3) := by decide +kernel
theorem dX11_settle_17 : decode cX11_settle 17 = .ok (.iload_n 1, 1) := by decide +kernel
theorem dX11_settle_18 : decode cX11_settle 18 = .ok (.aaload, 1) := by decide +kernel
theorem dX11_settle_19 : decode cX11_settle 19 = .ok (.invokevirtual 171, 3) := by decide +kernel
theorem dX11_settle_22 : decode cX11_settle 22 = .ok (.ireturn, 1) := by decide +kernel
theorem dX12_init_0 : decode cX12_init 0 = .ok (.aload_n 0, 1) := by decide +kernel
theorem dX12_init_1 : decode cX12_init 1 = .ok (.aconst_null, 1) := by decide +kernel
theorem dX12_init_2 : decode cX12_init 2 = .ok (.aconst_null, 1) := by decide +kernel
theorem dX12_init_3 : decode cX12_init 3 = .ok (.iconst 0, 1) := by decide +kernel
theorem dX12_init_4 : decode cX12_init 4 = .ok (.iconst 0, 1) := by decide +kernel
theorem dX12_init_5 : decode cX12_init 5 = .ok (.invokespecial 1, 3) := by decide +kernel
theorem dX12_init_8 : decode cX12_init 8 = .ok (.return_, 1) := by decide +kernel
theorem dX13_in_0 : decode cX13_in 0 = .ok (.lload_n 0, 1) := by decide +kernel
theorem dX13_in_1 : decode cX13_in 1 = .ok (.lload_n 2, 1) := by decide +kernel
theorem dX13_in_2 : decode cX13_in 2 = .ok (.lcmp, 1) := by decide +kernel
theorem dX13_in_3 : decode cX13_in 3 = .ok (.ifCond .lt 14, 3) := by decide +kernel
theorem dX13_in_6 : decode cX13_in 6 = .ok (.lload_n 0, 1) := by decide +kernel
theorem dX13_in_7 : decode cX13_in 7 = .ok (.lload 4, 2) := by decide +kernel
theorem dX13_in_9 : decode cX13_in 9 = .ok (.lcmp, 1) := by decide +kernel
theorem dX13_in_10 : decode cX13_in 10 = .ok (.ifCond .gt 7, 3) := by decide +kernel
theorem dX13_in_13 : decode cX13_in 13 = .ok (.iconst 1, 1) := by decide +kernel
theorem dX13_in_14 : decode cX13_in 14 = .ok (.goto 4, 3) := by decide +kernel
theorem dX13_in_17 : decode cX13_in 17 = .ok (.iconst 0, 1) := by decide +kernel
theorem dX13_in_18 : decode cX13_in 18 = .ok (.ireturn, 1) := by decide +kernel
theorem dX13_wrong_0 : decode cX13_wrong 0 = .ok (.aload_n 0, 1) := by decide +kernel
theorem dX13_wrong_1 : decode cX13_wrong 1 = .ok (.iload_n 1, 1) := by decide +kernel
theorem dX13_wrong_2 : decode cX13_wrong 2 = .ok (.putfield 3, 3) := by decide +kernel
theorem dX13_wrong_5 : decode cX13_wrong 5 = .ok (.aload_n 0, 1) := by decide +kernel
theorem dX13_wrong_6 : decode cX13_wrong 6 = .ok (.aload_n 0, 1) := by decide +kernel
theorem dX13_wrong_7 : decode cX13_wrong 7 = .ok (.getfield 7, 3) := by decide +kernel
theorem dX13_wrong_10 : decode cX13_wrong 10 = .ok (.putfield 10, 3) := by decide +kernel
theorem dX13_wrong_13 : decode cX13_wrong 13 = .ok (.aload_n 0, 1) := by decide +kernel
theorem dX13_wrong_14 : decode cX13_wrong 14 = .ok (.getfield 13, 3) := by decide +kernel
theorem dX13_wrong_17 : decode cX13_wrong 17 = .ok (.areturn, 1) := by decide +kernel
theorem dX13_byteAt_0 : decode cX13_byteAt 0 = .ok (.iload_n 1, 1) := by decide +kernel
theorem dX13_byteAt_1 : decode cX13_byteAt 1 = .ok (.aload_n 0, 1) := by decide +kernel
theorem dX13_byteAt_2 : decode cX13_byteAt 2 = .ok (.getfield 17, 3) := by decide +kernel
theorem dX13_byteAt_5 : decode cX13_byteAt 5 = .ok (.if_icmp .ge 16, 3) := by decide +kernel
theorem dX13_byteAt_8 : decode cX13_byteAt 8 = .ok (.aload_n 0, 1) := by decide +kernel
theorem dX13_byteAt_9 : decode cX13_byteAt 9 = .ok (.getfield 20, 3) := by decide +kernel
theorem dX13_byteAt_12 : decode cX13_byteAt 12 = .ok (.iload_n 1, 1) := by decide +kernel
theorem dX13_byteAt_13 : decode cX13_byteAt 13 = .ok (.baload, 1) := by decide +kernel
theorem dX13_byteAt_14 : decode cX13_byteAt 14 = .ok (.sipush 255, 3) := by decide +kernel
theorem dX13_byteAt_17 : decode cX13_byteAt 17 = .ok (.iand, 1) := by decide +kernel
theorem dX13_byteAt_18 : decode cX13_byteAt 18 = .ok (.goto 4, 3) := by decide +kernel
theorem dX13_byteAt_21 : decode cX13_byteAt 21 = .ok (.iconst 0, 1) := by decide +kernel
theorem dX13_byteAt_22 : decode cX13_byteAt 22 = .ok (.ireturn, 1) := by decide +kernel
theorem dX13_isSmall_0 : decode cX13_isSmall 0 = .ok (.iload_n 0, 1) := by decide +kernel
theorem dX13_isSmall_1 : decode cX13_isSmall 1 = .ok (.bipush 97, 2) := by decide +kernel
theorem dX13_isSmall_3 : decode cX13_isSmall 3 = .ok (.if_icmp .lt 13, 3) := by decide +kernel
theorem dX13_isSmall_6 : decode cX13_isSmall 6 = .ok (.iload_n 0, 1) := by decide +kernel
theorem dX13_isSmall_7 : decode cX13_isSmall 7 = .ok (.bipush 122, 2) := by decide +kernel
theorem dX13_isSmall_9 : decode cX13_isSmall 9 = .ok (.if_icmp .gt 7, 3) := by decide +kernel
theorem dX13_isSmall_12 : decode cX13_isSmall 12 = .ok (.iconst 1, 1) := by decide +kernel
theorem dX13_isSmall_13 : decode cX13_isSmall 13 = .ok (.goto 4, 3) := by decide +kernel
theorem dX13_isSmall_16 : decode cX13_isSmall 16 = .ok (.iconst 0, 1) := by decide +kernel
theorem dX13_isSmall_17 : decode cX13_isSmall 17 = .ok (.ireturn, 1) := by decide +kernel
theorem dX13_isDigit_0 : decode cX13_isDigit 0 = .ok (.iload_n 0, 1) := by decide +kernel
theorem dX13_isDigit_1 : decode cX13_isDigit 1 = .ok (.bipush 48, 2) := by decide +kernel
theorem dX13_isDigit_3 : decode cX13_isDigit 3 = .ok (.if_icmp .lt 13, 3) := by decide +kernel
theorem dX13_isDigit_6 : decode cX13_isDigit 6 = .ok (.iload_n 0, 1) := by decide +kernel
theorem dX13_isDigit_7 : decode cX13_isDigit 7 = .ok (.bipush 57, 2) := by decide +kernel
theorem dX13_isDigit_9 : decode cX13_isDigit 9 = .ok (.if_icmp .gt 7, 3) := by decide +kernel
theorem dX13_isDigit_12 : decode cX13_isDigit 12 = .ok (.iconst 1, 1) := by decide +kernel
theorem dX13_isDigit_13 : decode cX13_isDigit 13 = .ok (.goto 4, 3) := by decide +kernel
theorem dX13_isDigit_16 : decode cX13_isDigit 16 = .ok (.iconst 0, 1) := by decide +kernel
theorem dX13_isDigit_17 : decode cX13_isDigit 17 = .ok (.ireturn, 1) := by decide +kernel
theorem dX13_isSignByte_0 : decode cX13_isSignByte 0 = .ok (.iload_n 0, 1) := by decide +kernel
theorem dX13_isSignByte_1 : decode cX13_isSignByte 1 = .ok (.bipush 59, 2) := by decide +kernel
theorem dX13_isSignByte_3 : decode cX13_isSignByte 3 = .ok (.if_icmp .eq 87, 3) := by decide +kernel
theorem dX13_isSignByte_6 : decode cX13_isSignByte 6 = .ok (.iload_n 0, 1) := by decide +kernel
theorem dX13_isSignByte_7 : decode cX13_isSignByte 7 = .ok (.bipush 61, 2) := by decide +kernel
theorem dX13_isSignByte_9 : decode cX13_isSignByte 9 = .ok (.if_icmp .eq 81, 3) := by decide +kernel
theorem dX13_isSignByte_12 : decode cX13_isSignByte 12 = .ok (.iload_n 0, 1) := by decide +kernel
theorem dX13_isSignByte_13 : decode cX13_isSignByte 13 = .ok (.bipush 60, 2) := by decide +kernel
theorem dX13_isSignByte_15 : decode cX13_isSignByte 15 = .ok (.if_icmp .eq 75, 3) := by decide +kernel
theorem dX13_isSignByte_18 : decode cX13_isSignByte 18 = .ok (.iload_n 0, 1) := by decide +kernel
theorem dX13_isSignByte_19 : decode cX13_isSignByte 19 = .ok (.bipush 62, 2) := by decide +kernel
theorem dX13_isSignByte_21 : decode cX13_isSignByte 21 = .ok (.if_icmp .eq 69, 3) := by decide +kernel
theorem dX13_isSignByte_24 : decode cX13_isSignByte 24 = .ok (.iload_n 0, 1) := by decide +kernel
theorem dX13_isSignByte_25 : decode cX13_isSignByte 25 = .ok (.bipush 33, 2) := by decide +kernel
theorem dX13_isSignByte_27 : decode cX13_isSignByte 27 = .ok (.if_icmp .eq 63, 3) := by decide +kernel
theorem dX13_isSignByte_30 : decode cX13_isSignByte 30 = .ok (.iload_n 0, 1) := by decide +kernel
theorem dX13_isSignByte_31 : decode cX13_isSignByte 31 = .ok (.bipush 43, 2) := by decide +kernel
theorem dX13_isSignByte_33 : decode cX13_isSignByte 33 = .ok (.if_icmp .eq 57, 3) := by decide +kernel
theorem dX13_isSignByte_36 : decode cX13_isSignByte 36 = .ok (.iload_n 0, 1) := by decide +kernel
theorem dX13_isSignByte_37 : decode cX13_isSignByte 37 = .ok (.bipush 45, 2) := by decide +kernel
theorem dX13_isSignByte_39 : decode cX13_isSignByte 39 = .ok (.if_icmp .eq 51, 3) := by decide +kernel
theorem dX13_isSignByte_42 : decode cX13_isSignByte 42 = .ok (.iload_n 0, 1) := by decide +kernel
theorem dX13_isSignByte_43 : decode cX13_isSignByte 43 = .ok (.bipush 42, 2) := by decide +kernel
theorem dX13_isSignByte_45 : decode cX13_isSignByte 45 = .ok (.if_icmp .eq 45, 3) := by decide +kernel
theorem dX13_isSignByte_48 : decode cX13_isSignByte 48 = .ok (.iload_n 0, 1) := by decide +kernel
theorem dX13_isSignByte_49 : decode cX13_isSignByte 49 = .ok (.bipush 47, 2) := by decide +kernel
theorem dX13_isSignByte_51 : decode cX13_isSignByte 51 = .ok (.if_icmp .eq 39, 3) := by decide +kernel
theorem dX13_isSignByte_54 : decode cX13_isSignByte 54 = .ok (.iload_n 0, 1) := by decide +kernel
theorem dX13_isSignByte_55 : decode cX13_isSignByte 55 = .ok (.bipush 37, 2) := by decide +kernel
theorem dX13_isSignByte_57 : decode cX13_isSignByte 57 = .ok (.if_icmp .eq 33, 3) := by decide +kernel
theorem dX13_isSignByte_60 : decode cX13_isSignByte 60 = .ok (.iload_n 0, 1) := by decide +kernel
theorem dX13_isSignByte_61 : decode cX13_isSignByte 61 = .ok (.bipush 38, 2) := by decide +kernel
theorem dX13_isSignByte_63 : decode cX13_isSignByte 63 = .ok (.if_icmp .eq 27, 3) := by decide +kernel
theorem dX13_isSignByte_66 : decode cX13_isSignByte 66 = .ok (.iload_n 0, 1) := by decide +kernel
theorem dX13_isSignByte_67 : decode cX13_isSignByte 67 = .ok (.bipush 40, 2) := by decide +kernel
theorem dX13_isSignByte_69 : decode cX13_isSignByte 69 = .ok (.if_icmp .eq 21, 3) := by decide +kernel
theorem dX13_isSignByte_72 : decode cX13_isSignByte 72 = .ok (.iload_n 0, 1) := by decide +kernel
theorem dX13_isSignByte_73 : decode cX13_isSignByte 73 = .ok (.bipush 41, 2) := by decide +kernel
theorem dX13_isSignByte_75 : decode cX13_isSignByte 75 = .ok (.if_icmp .eq 15, 3) := by decide +kernel
theorem dX13_isSignByte_78 : decode cX13_isSignByte 78 = .ok (.iload_n 0, 1) := by decide +kernel
theorem dX13_isSignByte_79 : decode cX13_isSignByte 79 = .ok (.bipush 91, 2) := by decide +kernel
theorem dX13_isSignByte_81 : decode cX13_isSignByte 81 = .ok (.if_icmp .eq 9, 3) := by decide +kernel
theorem dX13_isSignByte_84 : decode cX13_isSignByte 84 = .ok (.iload_n 0, 1) := by decide +kernel
theorem dX13_isSignByte_85 : decode cX13_isSignByte 85 = .ok (.bipush 93, 2) := by decide +kernel
theorem dX13_isSignByte_87 : decode cX13_isSignByte 87 = .ok (.if_icmp .ne 7, 3) := by decide +kernel
theorem dX13_isSignByte_90 : decode cX13_isSignByte 90 = .ok (.iconst 1, 1) := by decide +kernel
theorem dX13_isSignByte_91 : decode cX13_isSignByte 91 = .ok (.goto 4, 3) := by decide +kernel
theorem dX13_isSignByte_94 : decode cX13_isSignByte 94 = .ok (.iconst 0, 1) := by decide +kernel
theorem dX13_isSignByte_95 : decode cX13_isSignByte 95 = .ok (.ireturn, 1) := by decide +kernel
theorem dX13_scan_0 : decode cX13_scan 0 = .ok (.aload_n 0, 1) := by decide +kernel
theorem dX13_scan_1 : decode cX13_scan 1 = .ok (.getfield 24, 3) := by decide +kernel
theorem dX13_scan_4 : decode cX13_scan 4 = .ok (.aload_n 0, 1) := by decide +kernel
theorem dX13_scan_5 : decode cX13_scan 5 = .ok (.getfield 17, 3) := by decide +kernel
theorem dX13_scan_8 : decode cX13_scan 8 = .ok (.if_icmp .ge 44, 3) := by decide +kernel
theorem dX13_scan_11 : decode cX13_scan 11 = .ok (.aload_n 0, 1) := by decide +kernel
theorem dX13_scan_12 : decode cX13_scan 12 = .ok (.getfield 20, 3) := by decide +kernel
theorem dX13_scan_15 : decode cX13_scan 15 = .ok (.aload_n 0, 1) := by decide +kernel
theorem dX13_scan_16 : decode cX13_scan 16 = .ok (.getfield 24, 3) := by decide +kernel
theorem dX13_scan_19 : decode cX13_scan 19 = .ok (.baload, 1) := by decide +kernel
theorem dX13_scan_20 : decode cX13_scan 20 = .ok (.bipush 32, 2) := by decide +kernel
theorem dX13_scan_22 : decode cX13_scan 22 = .ok (.if_icmp .eq 17, 3) := by decide +kernel
theorem dX13_scan_25 : decode cX13_scan 25 = .ok (.aload_n 0, 1) := by decide +kernel
theorem dX13_scan_26 : decode cX13_scan 26 = .ok (.getfield 20, 3) := by decide +kernel
theorem dX13_scan_29 : decode cX13_scan 29 = .ok (.aload_n 0, 1) := by decide +kernel
theorem dX13_scan_30 : decode cX13_scan 30 = .ok (.getfield 24, 3) := by decide +kernel
theorem dX13_scan_33 : decode cX13_scan 33 = .ok (.baload, 1) := by decide +kernel
theorem dX13_scan_34 : decode cX13_scan 34 = .ok (.bipush 10, 2) := by decide +kernel
theorem dX13_scan_36 : decode cX13_scan 36 = .ok (.if_icmp .ne 16, 3) := by decide +kernel
theorem dX13_scan_39 : decode cX13_scan 39 = .ok (.aload_n 0, 1) := by decide +kernel
theorem dX13_scan_40 : decode cX13_scan 40 = .ok (.dup, 1) := by decide +kernel
theorem dX13_scan_41 : decode cX13_scan 41 = .ok (.getfield 24, 3) := by decide +kernel
theorem dX13_scan_44 : decode cX13_scan 44 = .ok (.iconst 1, 1) := by decide +kernel
theorem dX13_scan_45 : decode cX13_scan 45 = .ok (.iadd, 1) := by decide +kernel
theorem dX13_scan_46 : decode cX13_scan 46 = .ok (.putfield 24, 3) := by decide +kernel
theorem dX13_scan_49 : decode cX13_scan 49 = .ok (.goto (-49), 3) := by decide +kernel
theorem dX13_scan_52 : decode cX13_scan 52 = .ok (.aload_n 0, 1) := by decide +kernel
theorem dX13_scan_53 : decode cX13_scan 53 = .ok (.aload_n 0, 1) := by decide +kernel
theorem dX13_scan_54 : decode cX13_scan 54 = .ok (.getfield 24, 3) := by decide +kernel
theorem dX13_scan_57 : decode cX13_scan 57 = .ok (.putfield 7, 3) := by decide +kernel
theorem dX13_scan_60 : decode cX13_scan 60 = .ok (.aload_n 0, 1) := by decide +kernel
theorem dX13_scan_61 : decode cX13_scan 61 = .ok (.aload_n 0, 1) := by decide +kernel
theorem dX13_scan_62 : decode cX13_scan 62 = .ok (.getfield 7, 3) := by decide +kernel
theorem dX13_scan_65 : decode cX13_scan 65 = .ok (.invokevirtual 27, 3) := by decide +kernel
theorem dX13_scan_68 : decode cX13_scan 68 = .ok (.istore_n 1, 1) := by decide +kernel
theorem dX13_scan_69 : decode cX13_scan 69 = .ok (.aload_n 0, 1) := by decide +kernel
theorem dX13_scan_70 : decode cX13_scan 70 = .ok (.getfield 7, 3) := by decide +kernel
theorem dX13_scan_73 : decode cX13_scan 73 = .ok (.aload_n 0, 1) := by decide +kernel
theorem dX13_scan_74 : decode cX13_scan 74 = .ok (.getfield 17, 3) := by decide +kernel
theorem dX13_scan_77 : decode cX13_scan 77 = .ok (.if_icmp .ne 11, 3) := by decide +kernel
theorem dX13_scan_80 : decode cX13_scan 80 = .ok (.aload_n 0, 1) := by decide +kernel
theorem dX13_scan_81 : decode cX13_scan 81 = .ok (.iconst 0, 1) := by decide +kernel
theorem dX13_scan_82 : decode cX13_scan 82 = .ok (.putfield 31, 3) := by decide +kernel
theorem dX13_scan_85 : decode cX13_scan 85 = .ok (.goto 194, 3) := by decide +kernel
theorem dX13_scan_88 : decode cX13_scan 88 = .ok (.iload_n 1, 1) := by decide +kernel
theorem dX13_scan_89 : decode cX13_scan 89 = .ok (.invokestatic 34, 3) := by decide +kernel
theorem dX13_scan_92 : decode cX13_scan 92 = .ok (.ifCond .eq 56, 3) := by decide +kernel
theorem dX13_scan_95 : decode cX13_scan 95 = .ok (.aload_n 0, 1) := by decide +kernel
theorem dX13_scan_96 : decode cX13_scan 96 = .ok (.aload_n 0, 1) := by decide +kernel
theorem dX13_scan_97 : decode cX13_scan 97 = .ok (.getfield 24, 3) := by decide +kernel
theorem dX13_scan_100 : decode cX13_scan 100 = .ok (.invokevirtual 27, 3) := by decide +kernel
theorem dX13_scan_103 : decode cX13_scan 103 = .ok (.invokestatic 34, 3) := by decide +kernel
theorem dX13_scan_106 : decode cX13_scan 106 = .ok (.ifCond .eq 16, 3) := by decide +kernel
theorem dX13_scan_109 : decode cX13_scan 109 = .ok (.aload_n 0, 1) := by decide +kernel
theorem dX13_scan_110 : decode cX13_scan 110 = .ok (.dup, 1) := by decide +kernel
theorem dX13_scan_111 : decode cX13_scan 111 = .ok (.getfield 24, 3) := by decide +kernel
theorem dX13_scan_114 : decode cX13_scan 114 = .ok (.iconst 1, 1) := by decide +kernel
theorem dX13_scan_115 : decode cX13_scan 115 = .ok (.iadd, 1) := by decide +kernel
theorem dX13_scan_116 : decode cX13_scan 116 = .ok (.putfield 24, 3) := by decide +kernel
theorem dX13_scan_119 : decode cX13_scan 119 = .ok (.goto (-24), 3) := by decide +kernel
theorem dX13_scan_122 : decode cX13_scan 122 = .ok (.aload_n 0, 1) := by decide +kernel
theorem dX13_scan_123 : decode cX13_scan 123 = .ok (.aload_n 0, 1) := by decide +kernel
theorem dX13_scan_124 : decode cX13_scan 124 = .ok (.getfield 24, 3) := by decide +kernel
theorem dX13_scan_127 : decode cX13_scan 127 = .ok (.aload_n 0, 1) := by decide +kernel
theorem dX13_scan_128 : decode cX13_scan 128 = .ok (.getfield 7, 3) := by decide +kernel
theorem dX13_scan_131 : decode cX13_scan 131 = .ok (.isub, 1) := by decide +kernel
theorem dX13_scan_132 : decode cX13_scan 132 = .ok (.bipush 8, 2) := by decide +kernel
theorem dX13_scan_134 : decode cX13_scan 134 = .ok (.if_icmp .le 7, 3) := by decide +kernel
theorem dX13_scan_137 : decode cX13_scan 137 = .ok (.iconst 4, 1) := by decide +kernel
theorem dX13_scan_138 : decode cX13_scan 138 = .ok (.goto 4, 3) := by decide +kernel
theorem dX13_scan_141 : decode cX13_scan 141 = .ok (.iconst 1, 1) := by decide +kernel
theorem dX13_scan_142 : decode cX13_scan 142 = .ok (.putfield 31, 3) := by decide +kernel
theorem dX13_scan_145 : decode cX13_scan 145 = .ok (.goto 134, 3) := by decide +kernel
theorem dX13_scan_148 : decode cX13_scan 148 = .ok (.iload_n 1, 1) := by decide +kernel
theorem dX13_scan_149 : decode cX13_scan 149 = .ok (.invokestatic 38, 3) := by decide +kernel
theorem dX13_scan_152 : decode cX13_scan 152 = .ok (.ifCond .eq 96, 3) := by decide +kernel
theorem dX13_scan_155 : decode cX13_scan 155 = .ok (.aload_n 0, 1) := by decide +kernel
theorem dX13_scan_156 : decode cX13_scan 156 = .ok (.iconst 0, 1) := by decide +kernel
theorem dX13_scan_157 : decode cX13_scan 157 = .ok (.putfield 41, 3) := by decide +kernel
theorem dX13_scan_160 : decode cX13_scan 160 = .ok (.aload_n 0, 1) := by decide +kernel
theorem dX13_scan_161 : decode cX13_scan 161 = .ok (.aload_n 0, 1) := by decide +kernel
theorem dX13_scan_162 : decode cX13_scan 162 = .ok (.getfield 24, 3) := by decide +kernel
theorem dX13_scan_165 : decode cX13_scan 165 = .ok (.invokevirtual 27, 3) := by decide +kernel
theorem dX13_scan_168 : decode cX13_scan 168 = .ok (.invokestatic 38, 3) := by decide +kernel
theorem dX13_scan_171 : decode cX13_scan 171 = .ok (.ifCond .eq 52, 3) := by decide +kernel
theorem dX13_scan_174 : decode cX13_scan 174 = .ok (.aload_n 0, 1) := by decide +kernel
theorem dX13_scan_175 : decode cX13_scan 175 = .ok (.getfield 24, 3) := by decide +kernel
theorem dX13_scan_178 : decode cX13_scan 178 = .ok (.aload_n 0, 1) := by decide +kernel
theorem dX13_scan_179 : decode cX13_scan 179 = .ok (.getfield 7, 3) := by decide +kernel
theorem dX13_scan_182 : decode cX13_scan 182 = .ok (.isub, 1) := by decide +kernel
theorem dX13_scan_183 : decode cX13_scan 183 = .ok (.iconst 4, 1) := by decide +kernel
theorem dX13_scan_184 : decode cX13_scan 184 = .ok (.if_icmp .ge 26, 3) := by decide +kernel
theorem dX13_scan_187 : decode cX13_scan 187 = .ok (.aload_n 0, 1) := by decide +kernel
theorem dX13_scan_188 : decode cX13_scan 188 = .ok (.bipush 10, 2) := by decide +kernel
theorem dX13_scan_190 : decode cX13_scan 190 = .ok (.aload_n 0, 1) := by decide +kernel
theorem dX13_scan_191 : decode cX13_scan 191 = .ok (.getfield 41, 3) := by decide +kernel
theorem dX13_scan_194 : decode cX13_scan 194 = .ok (.imul, 1) := by decide +kernel
theorem dX13_scan_195 : decode cX13_scan 195 = .ok (.aload_n 0, 1) := by decide +kernel
theorem dX13_scan_196 : decode cX13_scan 196 = .ok (.aload_n 0, 1) := by decide +kernel
theorem dX13_scan_197 : decode cX13_scan 197 = .ok (.getfield 24, 3) := by decide +kernel
theorem dX13_scan_200 : decode cX13_scan 200 = .ok (.invokevirtual 27, 3) := by decide +kernel
theorem dX13_scan_203 : decode cX13_scan 203 = .ok (.iadd, 1) := by decide +kernel
theorem dX13_scan_204 : decode cX13_scan 204 = .ok (.bipush 48, 2) := by decide +kernel
theorem dX13_scan_206 : decode cX13_scan 206 = .ok (.isub, 1) := by decide +kernel
theorem dX13_scan_207 : decode cX13_scan 207 = .ok (.putfield 41, 3) := by decide +kernel
theorem dX13_scan_210 : decode cX13_scan 210 = .ok (.aload_n 0, 1) := by decide +kernel
theorem dX13_scan_211 : decode cX13_scan 211 = .ok (.dup, 1) := by decide +kernel
theorem dX13_scan_212 : decode cX13_scan 212 = .ok (.getfield 24, 3) := by decide +kernel
theorem dX13_scan_215 : decode cX13_scan 215 = .ok (.iconst 1, 1) := by decide +kernel
theorem dX13_scan_216 : decode cX13_scan 216 = .ok (.iadd, 1) := by decide +kernel
theorem dX13_scan_217 : decode cX13_scan 217 = .ok (.putfield 24, 3) := by decide +kernel
theorem dX13_scan_220 : decode cX13_scan 220 = .ok (.goto (-60), 3) := by decide +kernel
theorem dX13_scan_223 : decode cX13_scan 223 = .ok (.aload_n 0, 1) := by decide +kernel
theorem dX13_scan_224 : decode cX13_scan 224 = .ok (.aload_n 0, 1) := by decide +kernel
theorem dX13_scan_225 : decode cX13_scan 225 = .ok (.getfield 24, 3) := by decide +kernel
theorem dX13_scan_228 : decode cX13_scan 228 = .ok (.aload_n 0, 1) := by decide +kernel
theorem dX13_scan_229 : decode cX13_scan 229 = .ok (.getfield 7, 3) := by decide +kernel
theorem dX13_scan_232 : decode cX13_scan 232 = .ok (.isub, 1) := by decide +kernel
theorem dX13_scan_233 : decode cX13_scan 233 = .ok (.iconst 4, 1) := by decide +kernel
theorem dX13_scan_234 : decode cX13_scan 234 = .ok (.if_icmp .le 7, 3) := by decide +kernel
theorem dX13_scan_237 : decode cX13_scan 237 = .ok (.iconst 4, 1) := by decide +kernel
theorem dX13_scan_238 : decode cX13_scan 238 = .ok (.goto 4, 3) := by decide +kernel
theorem dX13_scan_241 : decode cX13_scan 241 = .ok (.iconst 2, 1) := by decide +kernel
theorem dX13_scan_242 : decode cX13_scan 242 = .ok (.putfield 31, 3) := by decide +kernel
theorem dX13_scan_245 : decode cX13_scan 245 = .ok (.goto 34, 3) := by decide +kernel
theorem dX13_scan_248 : decode cX13_scan 248 = .ok (.aload_n 0, 1) := by decide +kernel
theorem dX13_scan_249 : decode cX13_scan 249 = .ok (.iload_n 1, 1) := by decide +kernel
theorem dX13_scan_250 : decode cX13_scan 250 = .ok (.invokestatic 44, 3) := by decide +kernel
theorem dX13_scan_253 : decode cX13_scan 253 = .ok (.ifCond .eq 7, 3) := by decide +kernel
theorem dX13_scan_256 : decode cX13_scan 256 = .ok (.iconst 3, 1) := by decide +kernel
theorem dX13_scan_257 : decode cX13_scan 257 = .ok (.goto 4, 3) := by decide +kernel
theorem dX13_scan_260 : decode cX13_scan 260 = .ok (.iconst 4, 1) := by decide +kernel
theorem dX13_scan_261 : decode cX13_scan 261 = .ok (.putfield 31, 3) := by decide +kernel
theorem dX13_scan_264 : decode cX13_scan 264 = .ok (.aload_n 0, 1) := by decide +kernel
theorem dX13_scan_265 : decode cX13_scan 265 = .ok (.iload_n 1, 1) := by decide +kernel
theorem dX13_scan_266 : decode cX13_scan 266 = .ok (.putfield 41, 3) := by decide +kernel
theorem dX13_scan_269 : decode cX13_scan 269 = .ok (.aload_n 0, 1) := by decide +kernel
theorem dX13_scan_270 : decode cX13_scan 270 = .ok (.dup, 1) := by decide +kernel
theorem dX13_scan_271 : decode cX13_scan 271 = .ok (.getfield 24, 3) := by decide +kernel
theorem dX13_scan_274 : decode cX13_scan 274 = .ok (.iconst 1, 1) := by decide +kernel
theorem dX13_scan_275 : decode cX13_scan 275 = .ok (.iadd, 1) := by decide +kernel
theorem dX13_scan_276 : decode cX13_scan 276 = .ok (.putfield 24, 3) := by decide +kernel
theorem dX13_scan_279 : decode cX13_scan 279 = .ok (.return_, 1) := by decide +kernel
theorem dX13_isSign_0 : decode cX13_isSign 0 = .ok (.aload_n 0, 1) := by decide +kernel
theorem dX13_isSign_1 : decode cX13_isSign 1 = .ok (.getfield 31, 3) := by decide +kernel
theorem dX13_isSign_4 : decode cX13_isSign 4 = .ok (.iconst 3, 1) := by decide +kernel
theorem dX13_isSign_5 : decode cX13_isSign 5 = .ok (.if_icmp .ne 15, 3) := by decide +kernel
theorem dX13_isSign_8 : decode cX13_isSign 8 = .ok (.aload_n 0, 1) := by decide +kernel
theorem dX13_isSign_9 : decode cX13_isSign 9 = .ok (.getfield 41, 3) := by decide +kernel
theorem dX13_isSign_12 : decode cX13_isSign 12 = .ok (.iload_n 1, 1) := by decide +kernel
theorem dX13_isSign_13 : decode cX13_isSign 13 = .ok (.if_icmp .ne 7, 3) := by decide +kernel
theorem dX13_isSign_16 : decode cX13_isSign 16 = .ok (.iconst 1, 1) := by decide +kernel
theorem dX13_isSign_17 : decode cX13_isSign 17 = .ok (.goto 4, 3) := by decide +kernel
theorem dX13_isSign_20 : decode cX13_isSign 20 = .ok (.iconst 0, 1) := by decide +kernel
theorem dX13_isSign_21 : decode cX13_isSign 21 = .ok (.ireturn, 1) := by decide +kernel
theorem dX13_is_0 : decode cX13_is 0 = .ok (.aload_n 0, 1) := by decide +kernel
theorem dX13_is_1 : decode cX13_is 1 = .ok (.getfield 31, 3) := by decide +kernel
theorem dX13_is_4 : decode cX13_is 4 = .ok (.iconst 1, 1) := by decide +kernel
theorem dX13_is_5 : decode cX13_is 5 = .ok (.if_icmp .ne 23, 3) := by decide +kernel
theorem dX13_is_8 : decode cX13_is 8 = .ok (.aload_n 0, 1) := by decide +kernel
theorem dX13_is_9 : decode cX13_is 9 = .ok (.getfield 24, 3) := by decide +kernel
theorem dX13_is_12 : decode cX13_is 12 = .ok (.aload_n 0, 1) := by decide +kernel
theorem dX13_is_13 : decode cX13_is 13 = .ok (.getfield 7, 3) := by decide +kernel
theorem dX13_is_16 : decode cX13_is 16 = .ok (.isub, 1) := by decide +kernel
theorem dX13_is_17 : decode cX13_is 17 = .ok (.aload_n 1, 1) := by decide +kernel
theorem dX13_is_18 : decode cX13_is 18 = .ok (.invokevirtual 47, 3) := by decide +kernel
theorem dX13_is_21 : decode cX13_is 21 = .ok (.if_icmp .ne 7, 3) := by decide +kernel
theorem dX13_is_24 : decode cX13_is 24 = .ok (.iconst 1, 1) := by decide +kernel
theorem dX13_is_25 : decode cX13_is 25 = .ok (.goto 4, 3) := by decide +kernel
theorem dX13_is_28 : decode cX13_is 28 = .ok (.iconst 0, 1) := by decide +kernel
theorem dX13_is_29 : decode cX13_is 29 = .ok (.istore_n 2, 1) := by decide +kernel
theorem dX13_is_30 : decode cX13_is 30 = .ok (.iconst 0, 1) := by decide +kernel
theorem dX13_is_31 : decode cX13_is 31 = .ok (.istore_n 3, 1) := by decide +kernel
theorem dX13_is_32 : decode cX13_is 32 = .ok (.iload_n 3, 1) := by decide +kernel
theorem dX13_is_33 : decode cX13_is 33 = .ok (.aload_n 1, 1) := by decide +kernel
theorem dX13_is_34 : decode cX13_is 34 = .ok (.invokevirtual 47, 3) := by decide +kernel
theorem dX13_is_37 : decode cX13_is 37 = .ok (.if_icmp .ge 38, 3) := by decide +kernel
theorem dX13_is_40 : decode cX13_is 40 = .ok (.iload_n 2, 1) := by decide +kernel
theorem dX13_is_41 : decode cX13_is 41 = .ok (.ifCond .eq 34, 3) := by decide +kernel
theorem dX13_is_44 : decode cX13_is 44 = .ok (.aload_n 0, 1) := by decide +kernel
theorem dX13_is_45 : decode cX13_is 45 = .ok (.getfield 20, 3) := by decide +kernel
theorem dX13_is_48 : decode cX13_is 48 = .ok (.aload_n 0, 1) := by decide +kernel
theorem dX13_is_49 : decode cX13_is 49 = .ok (.getfield 7, 3) := by decide +kernel
theorem dX13_is_52 : decode cX13_is 52 = .ok (.iload_n 3, 1) := by decide +kernel
theorem dX13_is_53 : decode cX13_is 53 = .ok (.iadd, 1) := by decide +kernel
theorem dX13_is_54 : decode cX13_is 54 = .ok (.baload, 1) := by decide +kernel
theorem dX13_is_55 : decode cX13_is 55 = .ok (.aload_n 1, 1) := by decide +kernel
theorem dX13_is_56 : decode cX13_is 56 = .ok (.iload_n 3, 1) := by decide +kernel
theorem dX13_is_57 : decode cX13_is 57 = .ok (.invokevirtual 52, 3) := by decide +kernel
theorem dX13_is_60 : decode cX13_is 60 = .ok (.if_icmp .ne 7, 3) := by decide +kernel
theorem dX13_is_63 : decode cX13_is 63 = .ok (.iconst 1, 1) := by decide +kernel
theorem dX13_is_64 : decode cX13_is 64 = .ok (.goto 4, 3) := by decide +kernel
theorem dX13_is_67 : decode cX13_is 67 = .ok (.iconst 0, 1) := by decide +kernel
theorem dX13_is_68 : decode cX13_is 68 = .ok (.istore_n 2, 1) := by decide +kernel
theorem dX13_is_69 : decode cX13_is 69 = .ok (.iinc 3 1, 3) := by decide +kernel
theorem dX13_is_72 : decode cX13_is 72 = .ok (.goto (-40), 3) := by decide +kernel
theorem dX13_is_75 : decode cX13_is 75 = .ok (.iload_n 2, 1) := by decide +kernel
theorem dX13_is_76 : decode cX13_is 76 = .ok (.ireturn, 1) := by decide +kernel
theorem dX13_need_0 : decode cX13_need 0 = .ok (.iload_n 1, 1) := by decide +kernel
theorem dX13_need_1 : decode cX13_need 1 = .ok (.ifCond .ne 9, 3) := by decide +kernel
theorem dX13_need_4 : decode cX13_need 4 = .ok (.aload_n 0, 1) := by decide +kernel
theorem dX13_need_5 : decode cX13_need 5 = .ok (.iload_n 2, 1) := by decide +kernel
theorem dX13_need_6 : decode cX13_need 6 = .ok (.invokevirtual 56, 3) := by decide +kernel
theorem dX13_need_9 : decode cX13_need 9 = .ok (.athrow, 1) := by decide +kernel
theorem dX13_need_10 : decode cX13_need 10 = .ok (.return_, 1) := by decide +kernel
theorem dX13_look_0 : decode cX13_look 0 = .ok (.aload_n 0, 1) := by decide +kernel
theorem dX13_look_1 : decode cX13_look 1 = .ok (.aload_n 0, 1) := by decide +kernel
theorem dX13_look_2 : decode cX13_look 2 = .ok (.getfield 31, 3) := by decide +kernel
theorem dX13_look_5 : decode cX13_look 5 = .ok (.iconst 2, 1) := by decide +kernel
theorem dX13_look_6 : decode cX13_look 6 = .ok (.if_icmp .ne 7, 3) := by decide +kernel
theorem dX13_look_9 : decode cX13_look 9 = .ok (.iconst 1, 1) := by decide +kernel
theorem dX13_look_10 : decode cX13_look 10 = .ok (.goto 4, 3) := by decide +kernel
theorem dX13_look_13 : decode cX13_look 13 = .ok (.iconst 0, 1) := by decide +kernel
theorem dX13_look_14 : decode cX13_look 14 = .ok (.iconst 1, 1) := by decide +kernel
theorem dX13_look_15 : decode cX13_look 15 = .ok (.invokevirtual 60, 3) := by decide +kernel
theorem dX13_look_18 : decode cX13_look 18 = .ok (.aload_n 0, 1) := by decide +kernel
theorem dX13_look_19 : decode cX13_look 19 = .ok (.aload_n 0, 1) := by decide +kernel
theorem dX13_look_20 : decode cX13_look 20 = .ok (.getfield 41, 3) := by decide +kernel
theorem dX13_look_23 : decode cX13_look 23 = .ok (.i2l, 1) := by decide +kernel
theorem dX13_look_24 : decode cX13_look 24 = .ok (.iload_n 1, 1) := by decide +kernel
theorem dX13_look_25 : decode cX13_look 25 = .ok (.i2l, 1) := by decide +kernel
theorem dX13_look_26 : decode cX13_look 26 = .ok (.iload_n 2, 1) := by decide +kernel
theorem dX13_look_27 : decode cX13_look 27 = .ok (.i2l, 1) := by decide +kernel
theorem dX13_look_28 : decode cX13_look 28 = .ok (.invokestatic 64, 3) := by decide +kernel
theorem dX13_look_31 : decode cX13_look 31 = .ok (.iconst 2, 1) := by decide +kernel
theorem dX13_look_32 : decode cX13_look 32 = .ok (.invokevirtual 60, 3) := by decide +kernel
theorem dX13_look_35 : decode cX13_look 35 = .ok (.aload_n 0, 1) := by decide +kernel
theorem dX13_look_36 : decode cX13_look 36 = .ok (.getfield 41, 3) := by decide +kernel
theorem dX13_look_39 : decode cX13_look 39 = .ok (.ireturn, 1) := by decide +kernel
theorem dX13_number_0 : decode cX13_number 0 = .ok (.aload_n 0, 1) := by decide +kernel
theorem dX13_number_1 : decode cX13_number 1 = .ok (.iload_n 1, 1) := by decide +kernel
theorem dX13_number_2 : decode cX13_number 2 = .ok (.iload_n 2, 1) := by decide +kernel
theorem dX13_number_3 : decode cX13_number 3 = .ok (.invokevirtual 68, 3) := by decide +kernel
theorem dX13_number_6 : decode cX13_number 6 = .ok (.istore_n 3, 1) := by decide +kernel
theorem dX13_number_7 : decode cX13_number 7 = .ok (.aload_n 0, 1) := by decide +kernel
theorem dX13_number_8 : decode cX13_number 8 = .ok (.invokevirtual 72, 3) := by decide +kernel
theorem dX13_number_11 : decode cX13_number 11 = .ok (.iload_n 3, 1) := by decide +kernel
theorem dX13_number_12 : decode cX13_number 12 = .ok (.ireturn, 1) := by decide +kernel
theorem dX13_word_0 : decode cX13_word 0 = .ok (.aload_n 0, 1) := by decide +kernel
theorem dX13_word_1 : decode cX13_word 1 = .ok (.aload_n 0, 1) := by decide +kernel
theorem dX13_word_2 : decode cX13_word 2 = .ok (.aload_n 1, 1) := by decide +kernel
theorem dX13_word_3 : decode cX13_word 3 = .ok (.invokevirtual 76, 3) := by decide +kernel
theorem dX13_word_6 : decode cX13_word 6 = .ok (.iconst 1, 1) := by decide +kernel
theorem dX13_word_7 : decode cX13_word 7 = .ok (.invokevirtual 60, 3) := by decide +kernel
theorem dX13_word_10 : decode cX13_word 10 = .ok (.aload_n 0, 1) := by decide +kernel
theorem dX13_word_11 : decode cX13_word 11 = .ok (.invokevirtual 72, 3) := by decide +kernel
theorem dX13_word_14 : decode cX13_word 14 = .ok (.return_, 1) := by decide +kernel
theorem dX13_sign_0 : decode cX13_sign 0 = .ok (.aload_n 0, 1) := by decide +kernel
theorem dX13_sign_1 : decode cX13_sign 1 = .ok (.aload_n 0, 1) := by decide +kernel
theorem dX13_sign_2 : decode cX13_sign 2 = .ok (.iload_n 1, 1) := by decide +kernel
theorem dX13_sign_3 : decode cX13_sign 3 = .ok (.invokevirtual 80, 3) := by decide +kernel
theorem dX13_sign_6 : decode cX13_sign 6 = .ok (.iconst 1, 1) := by decide +kernel
theorem dX13_sign_7 : decode cX13_sign 7 = .ok (.invokevirtual 60, 3) := by decide +kernel
theorem dX13_sign_10 : decode cX13_sign 10 = .ok (.aload_n 0, 1) := by decide +kernel
theorem dX13_sign_11 : decode cX13_sign 11 = .ok (.invokevirtual 72, 3) := by decide +kernel
theorem dX13_sign_14 : decode cX13_sign 14 = .ok (.return_, 1) := by decide +kernel
theorem dX13_begin_0 : decode cX13_begin 0 = .ok (.aload_n 0, 1) := by decide +kernel
theorem dX13_begin_1 : decode cX13_begin 1 = .ok (.aload_n 0, 1) := by decide +kernel
theorem dX13_begin_2 : decode cX13_begin 2 = .ok (.getfield 83, 3) := by decide +kernel
theorem dX13_begin_5 : decode cX13_begin 5 = .ok (.putfield 17, 3) := by decide +kernel
theorem dX13_begin_8 : decode cX13_begin 8 = .ok (.aload_n 0, 1) := by decide +kernel
theorem dX13_begin_9 : decode cX13_begin 9 = .ok (.iconst 0, 1) := by decide +kernel
theorem dX13_begin_10 : decode cX13_begin 10 = .ok (.putfield 83, 3) := by decide +kernel
theorem dX13_begin_13 : decode cX13_begin 13 = .ok (.aload_n 0, 1) := by decide +kernel
theorem dX13_begin_14 : decode cX13_begin 14 = .ok (.iconst 0, 1) := by decide +kernel
theorem dX13_begin_15 : decode cX13_begin 15 = .ok (.putfield 24, 3) := by decide +kernel
theorem dX13_begin_18 : decode cX13_begin 18 = .ok (.aload_n 0, 1) := by decide +kernel
theorem dX13_begin_19 : decode cX13_begin 19 = .ok (.iconst 0, 1) := by decide +kernel
theorem dX13_begin_20 : decode cX13_begin 20 = .ok (.putfield 3, 3) := by decide +kernel
theorem dX13_begin_23 : decode cX13_begin 23 = .ok (.aload_n 0, 1) := by decide +kernel
theorem dX13_begin_24 : decode cX13_begin 24 = .ok (.iconst (-1), 1) := by decide +kernel
theorem dX13_begin_25 : decode cX13_begin 25 = .ok (.putfield 10, 3) := by decide +kernel
theorem dX13_begin_28 : decode cX13_begin 28 = .ok (.aload_n 0, 1) := by decide +kernel
theorem dX13_begin_29 : decode cX13_begin 29 = .ok (.invokevirtual 72, 3) := by decide +kernel
theorem dX13_begin_32 : decode cX13_begin 32 = .ok (.return_, 1) := by decide +kernel
theorem dX13_add_0 : decode cX13_add 0 = .ok (.sipush 240, 3) := by decide +kernel
theorem dX13_add_3 : decode cX13_add 3 = .ok (.aload_n 0, 1) := by decide +kernel
theorem dX13_add_4 : decode cX13_add 4 = .ok (.getfield 86, 3) := by decide +kernel
theorem dX13_add_7 : decode cX13_add 7 = .ok (.bipush 6, 2) := by decide +kernel
theorem dX13_add_9 : decode cX13_add 9 = .ok (.iaload, 1) := by decide +kernel
theorem dX13_add_10 : decode cX13_add 10 = .ok (.iadd, 1) := by decide +kernel
theorem dX13_add_11 : decode cX13_add 11 = .ok (.istore 4, 2) := by decide +kernel
theorem dX13_add_13 : decode cX13_add 13 = .ok (.aload_n 0, 1) := by decide +kernel
theorem dX13_add_14 : decode cX13_add 14 = .ok (.getfield 90, 3) := by decide +kernel
theorem dX13_add_17 : decode cX13_add 17 = .ok (.iload 4, 2) := by decide +kernel
theorem dX13_add_19 : decode cX13_add 19 = .ok (.iload_n 1, 1) := by decide +kernel
theorem dX13_add_20 : decode cX13_add 20 = .ok (.iastore, 1) := by decide +kernel
theorem dX13_add_21 : decode cX13_add 21 = .ok (.aload_n 0, 1) := by decide +kernel
theorem dX13_add_22 : decode cX13_add 22 = .ok (.getfield 93, 3) := by decide +kernel
theorem dX13_add_25 : decode cX13_add 25 = .ok (.iload 4, 2) := by decide +kernel
theorem dX13_add_27 : decode cX13_add 27 = .ok (.iload_n 2, 1) := by decide +kernel
theorem dX13_add_28 : decode cX13_add 28 = .ok (.iastore, 1) := by decide +kernel
theorem dX13_add_29 : decode cX13_add 29 = .ok (.aload_n 0, 1) := by decide +kernel
theorem dX13_add_30 : decode cX13_add 30 = .ok (.getfield 96, 3) := by decide +kernel
theorem dX13_add_33 : decode cX13_add 33 = .ok (.iload 4, 2) := by decide +kernel
theorem dX13_add_35 : decode cX13_add 35 = .ok (.iload_n 3, 1) := by decide +kernel
theorem dX13_add_36 : decode cX13_add 36 = .ok (.iastore, 1) := by decide +kernel
theorem dX13_add_37 : decode cX13_add 37 = .ok (.aload_n 0, 1) := by decide +kernel
theorem dX13_add_38 : decode cX13_add 38 = .ok (.getfield 86, 3) := by decide +kernel
theorem dX13_add_41 : decode cX13_add 41 = .ok (.bipush 6, 2) := by decide +kernel
theorem dX13_add_43 : decode cX13_add 43 = .ok (.dup2, 1) := by decide +kernel
theorem dX13_add_44 : decode cX13_add 44 = .ok (.iaload, 1) := by decide +kernel
theorem dX13_add_45 : decode cX13_add 45 = .ok (.iconst 1, 1) := by decide +kernel
theorem dX13_add_46 : decode cX13_add 46 = .ok (.iadd, 1) := by decide +kernel
theorem dX13_add_47 : decode cX13_add 47 = .ok (.iastore, 1) := by decide +kernel
theorem dX13_add_48 : decode cX13_add 48 = .ok (.return_, 1) := by decide +kernel
theorem dX13_copyFloor_0 : decode cX13_copyFloor 0 = .ok (.aload_n 0, 1) := by decide +kernel
theorem dX13_copyFloor_1 : decode cX13_copyFloor 1 = .ok (.getfield 99, 3) := by decide +kernel
theorem dX13_copyFloor_4 : decode cX13_copyFloor 4 = .ok (.iload_n 2, 1) := by decide +kernel
theorem dX13_copyFloor_5 : decode cX13_copyFloor 5 = .ok (.aload_n 0, 1) := by decide +kernel
theorem dX13_copyFloor_6 : decode cX13_copyFloor 6 = .ok (.getfield 99, 3) := by decide +kernel
theorem dX13_copyFloor_9 : decode cX13_copyFloor 9 = .ok (.iload_n 1, 1) := by decide +kernel
theorem dX13_copyFloor_10 : decode cX13_copyFloor 10 = .ok (.iaload, 1) := by decide +kernel
theorem dX13_copyFloor_11 : decode cX13_copyFloor 11 = .ok (.iastore, 1) := by decide +kernel
theorem dX13_copyFloor_12 : decode cX13_copyFloor 12 = .ok (.aload_n 0, 1) := by decide +kernel
theorem dX13_copyFloor_13 : decode cX13_copyFloor 13 = .ok (.getfield 86, 3) := by decide +kernel
theorem dX13_copyFloor_16 : decode cX13_copyFloor 16 = .ok (.iload_n 2, 1) := by decide +kernel
theorem dX13_copyFloor_17 : decode cX13_copyFloor 17 = .ok (.aload_n 0, 1) := by decide +kernel
theorem dX13_copyFloor_18 : decode cX13_copyFloor 18 = .ok (.getfield 86, 3) := by decide +kernel
theorem dX13_copyFloor_21 : decode cX13_copyFloor 21 = .ok (.iload_n 1, 1) := by decide +kernel
theorem dX13_copyFloor_22 : decode cX13_copyFloor 22 = .ok (.iaload, 1) := by decide +kernel
theorem dX13_copyFloor_23 : decode cX13_copyFloor 23 = .ok (.iastore, 1) := by decide +kernel
theorem dX13_copyFloor_24 : decode cX13_copyFloor 24 = .ok (.iconst 0, 1) := by decide +kernel
theorem dX13_copyFloor_25 : decode cX13_copyFloor 25 = .ok (.istore_n 3, 1) := by decide +kernel
theorem dX13_copyFloor_26 : decode cX13_copyFloor 26 = .ok (.iload_n 3, 1) := by decide +kernel
theorem dX13_copyFloor_27 : decode cX13_copyFloor 27 = .ok (.aload_n 0, 1) := by decide +kernel
theorem dX13_copyFloor_28 : decode cX13_copyFloor 28 = .ok (.getfield 86, 3) := by decide +kernel
theorem dX13_copyFloor_31 : decode cX13_copyFloor 31 = .ok (.iload_n 1, 1) := by decide +kernel
theorem dX13_copyFloor_32 : decode cX13_copyFloor 32 = .ok (.iaload, 1) := by decide +kernel
theorem dX13_copyFloor_33 : decode cX13_copyFloor 33 = .ok (.if_icmp .ge 75, 3) := by decide +kernel
theorem dX13_copyFloor_36 : decode cX13_copyFloor 36 = .ok (.aload_n 0, 1) := by decide +kernel
theorem dX13_copyFloor_37 : decode cX13_copyFloor 37 = .ok (.getfield 90, 3) := by decide +kernel
theorem dX13_copyFloor_40 : decode cX13_copyFloor 40 = .ok (.bipush 40, 2) := by decide +kernel
theorem dX13_copyFloor_42 : decode cX13_copyFloor 42 = .ok (.iload_n 2, 1) := by decide +kernel
theorem dX13_copyFloor_43 : decode cX13_copyFloor 43 = .ok (.imul, 1) := by decide +kernel
theorem dX13_copyFloor_44 : decode cX13_copyFloor 44 = .ok (.iload_n 3, 1) := by decide +kernel
theorem dX13_copyFloor_45 : decode cX13_copyFloor 45 = .ok (.iadd, 1) := by decide +kernel
theorem dX13_copyFloor_46 : decode cX13_copyFloor 46 = .ok (.aload_n 0, 1) := by decide +kernel
theorem dX13_copyFloor_47 : decode cX13_copyFloor 47 = .ok (.getfield 90, 3) := by decide +kernel
theorem dX13_copyFloor_50 : decode cX13_copyFloor 50 = .ok (.bipush 40, 2) := by decide +kernel
theorem dX13_copyFloor_52 : decode cX13_copyFloor 52 = .ok (.iload_n 1, 1) := by decide +kernel
theorem dX13_copyFloor_53 : decode cX13_copyFloor 53 = .ok (.imul, 1) := by decide +kernel
theorem dX13_copyFloor_54 : decode cX13_copyFloor 54 = .ok (.iload_n 3, 1) := by decide +kernel
theorem dX13_copyFloor_55 : decode cX13_copyFloor 55 = .ok (.iadd, 1) := by decide +kernel
theorem dX13_copyFloor_56 : decode cX13_copyFloor 56 = .ok (.iaload, 1) := by decide +kernel
theorem dX13_copyFloor_57 : decode cX13_copyFloor 57 = .ok (.iastore, 1) := by decide +kernel
theorem dX13_copyFloor_58 : decode cX13_copyFloor 58 = .ok (.aload_n 0, 1) := by decide +kernel
theorem dX13_copyFloor_59 : decode cX13_copyFloor 59 = .ok (.getfield 93, 3) := by decide +kernel
theorem dX13_copyFloor_62 : decode cX13_copyFloor 62 = .ok (.bipush 40, 2) := by decide +kernel
theorem dX13_copyFloor_64 : decode cX13_copyFloor 64 = .ok (.iload_n 2, 1) := by decide +kernel
theorem dX13_copyFloor_65 : decode cX13_copyFloor 65 = .ok (.imul, 1) := by decide +kernel
theorem dX13_copyFloor_66 : decode cX13_copyFloor 66 = .ok (.iload_n 3, 1) := by decide +kernel
theorem dX13_copyFloor_67 : decode cX13_copyFloor 67 = .ok (.iadd, 1) := by decide +kernel
theorem dX13_copyFloor_68 : decode cX13_copyFloor 68 = .ok (.aload_n 0, 1) := by decide +kernel
theorem dX13_copyFloor_69 : decode cX13_copyFloor 69 = .ok (.getfield 93, 3) := by decide +kernel
theorem dX13_copyFloor_72 : decode cX13_copyFloor 72 = .ok (.bipush 40, 2) := by decide +kernel
theorem dX13_copyFloor_74 : decode cX13_copyFloor 74 = .ok (.iload_n 1, 1) := by decide +kernel
theorem dX13_copyFloor_75 : decode cX13_copyFloor 75 = .ok (.imul, 1) := by decide +kernel
theorem dX13_copyFloor_76 : decode cX13_copyFloor 76 = .ok (.iload_n 3, 1) := by decide +kernel
theorem dX13_copyFloor_77 : decode cX13_copyFloor 77 = .ok (.iadd, 1) := by decide +kernel
theorem dX13_copyFloor_78 : decode cX13_copyFloor 78 = .ok (.iaload, 1) := by decide +kernel
theorem dX13_copyFloor_79 : decode cX13_copyFloor 79 = .ok (.iastore, 1) := by decide +kernel
theorem dX13_copyFloor_80 : decode cX13_copyFloor 80 = .ok (.aload_n 0, 1) := by decide +kernel
theorem dX13_copyFloor_81 : decode cX13_copyFloor 81 = .ok (.getfield 96, 3) := by decide +kernel
theorem dX13_copyFloor_84 : decode cX13_copyFloor 84 = .ok (.bipush 40, 2) := by decide +kernel
theorem dX13_copyFloor_86 : decode cX13_copyFloor 86 = .ok (.iload_n 2, 1) := by decide +kernel
theorem dX13_copyFloor_87 : decode cX13_copyFloor 87 = .ok (.imul, 1) := by decide +kernel
theorem dX13_copyFloor_88 : decode cX13_copyFloor 88 = .ok (.iload_n 3, 1) := by decide +kernel
theorem dX13_copyFloor_89 : decode cX13_copyFloor 89 = .ok (.iadd, 1) := by decide +kernel
theorem dX13_copyFloor_90 : decode cX13_copyFloor 90 = .ok (.aload_n 0, 1) := by decide +kernel
theorem dX13_copyFloor_91 : decode cX13_copyFloor 91 = .ok (.getfield 96, 3) := by decide +kernel
theorem dX13_copyFloor_94 : decode cX13_copyFloor 94 = .ok (.bipush 40, 2) := by decide +kernel
theorem dX13_copyFloor_96 : decode cX13_copyFloor 96 = .ok (.iload_n 1, 1) := by decide +kernel
theorem dX13_copyFloor_97 : decode cX13_copyFloor 97 = .ok (.imul, 1) := by decide +kernel
theorem dX13_copyFloor_98 : decode cX13_copyFloor 98 = .ok (.iload_n 3, 1) := by decide +kernel
theorem dX13_copyFloor_99 : decode cX13_copyFloor 99 = .ok (.iadd, 1) := by decide +kernel
theorem dX13_copyFloor_100 : decode cX13_copyFloor 100 = .ok (.iaload, 1) := by decide +kernel
theorem dX13_copyFloor_101 : decode cX13_copyFloor 101 = .ok (.iastore, 1) := by decide +kernel
theorem dX13_copyFloor_102 : decode cX13_copyFloor 102 = .ok (.iinc 3 1, 3) := by decide +kernel
theorem dX13_copyFloor_105 : decode cX13_copyFloor 105 = .ok (.goto (-79), 3) := by decide +kernel
theorem dX13_copyFloor_108 : decode cX13_copyFloor 108 = .ok (.return_, 1) := by decide +kernel
theorem dX13_lane_0 : decode cX13_lane 0 = .ok (.aload_n 0, 1) := by decide +kernel
theorem dX13_lane_1 : decode cX13_lane 1 = .ok (.iconst 0, 1) := by decide +kernel
theorem dX13_lane_2 : decode cX13_lane 2 = .ok (.aload_n 0, 1) := by decide +kernel
theorem dX13_lane_3 : decode cX13_lane 3 = .ok (.getfield 99, 3) := by decide +kernel
theorem dX13_lane_6 : decode cX13_lane 6 = .ok (.bipush 6, 2) := by decide +kernel
theorem dX13_lane_8 : decode cX13_lane 8 = .ok (.iaload, 1) := by decide +kernel
theorem dX13_lane_9 : decode cX13_lane 9 = .ok (.iconst 1, 1) := by decide +kernel
theorem dX13_lane_10 : decode cX13_lane 10 = .ok (.isub, 1) := by decide +kernel
theorem dX13_lane_11 : decode cX13_lane 11 = .ok (.invokevirtual 68, 3) := by decide +kernel
theorem dX13_lane_14 : decode cX13_lane 14 = .ok (.istore_n 2, 1) := by decide +kernel
theorem dX13_lane_15 : decode cX13_lane 15 = .ok (.aload_n 0, 1) := by decide +kernel
theorem dX13_lane_16 : decode cX13_lane 16 = .ok (.iload_n 1, 1) := by decide +kernel
theorem dX13_lane_17 : decode cX13_lane 17 = .ok (.iload_n 2, 1) := by decide +kernel
theorem dX13_lane_18 : decode cX13_lane 18 = .ok (.ishr, 1) := by decide +kernel
theorem dX13_lane_19 : decode cX13_lane 19 = .ok (.iconst 1, 1) := by decide +kernel
theorem dX13_lane_20 : decode cX13_lane 20 = .ok (.iand, 1) := by decide +kernel
theorem dX13_lane_21 : decode cX13_lane 21 = .ok (.ifCond .ne 7, 3) := by decide +kernel
theorem dX13_lane_24 : decode cX13_lane 24 = .ok (.iconst 1, 1) := by decide +kernel
theorem dX13_lane_25 : decode cX13_lane 25 = .ok (.goto 4, 3) := by decide +kernel
theorem dX13_lane_28 : decode cX13_lane 28 = .ok (.iconst 0, 1) := by decide +kernel
theorem dX13_lane_29 : decode cX13_lane 29 = .ok (.iconst 3, 1) := by decide +kernel
theorem dX13_lane_30 : decode cX13_lane 30 = .ok (.invokevirtual 60, 3) := by decide +kernel
theorem dX13_lane_33 : decode cX13_lane 33 = .ok (.aload_n 0, 1) := by decide +kernel
theorem dX13_lane_34 : decode cX13_lane 34 = .ok (.invokevirtual 72, 3) := by decide +kernel
theorem dX13_lane_37 : decode cX13_lane 37 = .ok (.iload_n 2, 1) := by decide +kernel
theorem dX13_lane_38 : decode cX13_lane 38 = .ok (.ireturn, 1) := by decide +kernel
theorem dX13_readStep_0 : decode cX13_readStep 0 = .ok (.aload_n 0, 1) := by decide +kernel
theorem dX13_readStep_1 : decode cX13_readStep 1 = .ok (.ldc 102, 2) := by decide +kernel
theorem dX13_readStep_3 : decode cX13_readStep 3 = .ok (.invokevirtual 76, 3) := by decide +kernel
theorem dX13_readStep_6 : decode cX13_readStep 6 = .ok (.istore_n 1, 1) := by decide +kernel
theorem dX13_readStep_7 : decode cX13_readStep 7 = .ok (.aload_n 0, 1) := by decide +kernel
theorem dX13_readStep_8 : decode cX13_readStep 8 = .ok (.iload_n 1, 1) := by decide +kernel
theorem dX13_readStep_9 : decode cX13_readStep 9 = .ok (.ifCond .ne 12, 3) := by decide +kernel
theorem dX13_readStep_12 : decode cX13_readStep 12 = .ok (.aload_n 0, 1) := by decide +kernel
theorem dX13_readStep_13 : decode cX13_readStep 13 = .ok (.ldc 104, 2) := by decide +kernel
theorem dX13_readStep_15 : decode cX13_readStep 15 = .ok (.invokevirtual 76, 3) := by decide +kernel
theorem dX13_readStep_18 : decode cX13_readStep 18 = .ok (.ifCond .eq 7, 3) := by decide +kernel
theorem dX13_readStep_21 : decode cX13_readStep 21 = .ok (.iconst 1, 1) := by decide +kernel
theorem dX13_readStep_22 : decode cX13_readStep 22 = .ok (.goto 4, 3) := by decide +kernel
theorem dX13_readStep_25 : decode cX13_readStep 25 = .ok (.iconst 0, 1) := by decide +kernel
theorem dX13_readStep_26 : decode cX13_readStep 26 = .ok (.iconst 1, 1) := by decide +kernel
theorem dX13_readStep_27 : decode cX13_readStep 27 = .ok (.invokevirtual 60, 3) := by decide +kernel
theorem dX13_readStep_30 : decode cX13_readStep 30 = .ok (.aload_n 0, 1) := by decide +kernel
theorem dX13_readStep_31 : decode cX13_readStep 31 = .ok (.aload_n 0, 1) := by decide +kernel
theorem dX13_readStep_32 : decode cX13_readStep 32 = .ok (.getfield 86, 3) := by decide +kernel
theorem dX13_readStep_35 : decode cX13_readStep 35 = .ok (.bipush 6, 2) := by decide +kernel
theorem dX13_readStep_37 : decode cX13_readStep 37 = .ok (.iaload, 1) := by decide +kernel
theorem dX13_readStep_38 : decode cX13_readStep 38 = .ok (.bipush 40, 2) := by decide +kernel
theorem dX13_readStep_40 : decode cX13_readStep 40 = .ok (.if_icmp .ge 7, 3) := by decide +kernel
theorem dX13_readStep_43 : decode cX13_readStep 43 = .ok (.iconst 1, 1) := by decide +kernel
theorem dX13_readStep_44 : decode cX13_readStep 44 = .ok (.goto 4, 3) := by decide +kernel
theorem dX13_readStep_47 : decode cX13_readStep 47 = .ok (.iconst 0, 1) := by decide +kernel
theorem dX13_readStep_48 : decode cX13_readStep 48 = .ok (.iconst 4, 1) := by decide +kernel
theorem dX13_readStep_49 : decode cX13_readStep 49 = .ok (.invokevirtual 60, 3) := by decide +kernel
theorem dX13_readStep_52 : decode cX13_readStep 52 = .ok (.aload_n 0, 1) := by decide +kernel
theorem dX13_readStep_53 : decode cX13_readStep 53 = .ok (.invokevirtual 72, 3) := by decide +kernel
theorem dX13_readStep_56 : decode cX13_readStep 56 = .ok (.aload_n 0, 1) := by decide +kernel
theorem dX13_readStep_57 : decode cX13_readStep 57 = .ok (.iconst 0, 1) := by decide +kernel
theorem dX13_readStep_58 : decode cX13_readStep 58 = .ok (.invokevirtual 106, 3) := by decide +kernel
theorem dX13_readStep_61 : decode cX13_readStep 61 = .ok (.istore_n 2, 1) := by decide +kernel
theorem dX13_readStep_62 : decode cX13_readStep 62 = .ok (.iload_n 1, 1) := by decide +kernel
theorem dX13_readStep_63 : decode cX13_readStep 63 = .ok (.ifCond .eq 13, 3) := by decide +kernel
theorem dX13_readStep_66 : decode cX13_readStep 66 = .ok (.aload_n 0, 1) := by decide +kernel
theorem dX13_readStep_67 : decode cX13_readStep 67 = .ok (.iconst 1, 1) := by decide +kernel
theorem dX13_readStep_68 : decode cX13_readStep 68 = .ok (.iload_n 2, 1) := by decide +kernel
theorem dX13_readStep_69 : decode cX13_readStep 69 = .ok (.ishl, 1) := by decide +kernel
theorem dX13_readStep_70 : decode cX13_readStep 70 = .ok (.invokevirtual 106, 3) := by decide +kernel
theorem dX13_readStep_73 : decode cX13_readStep 73 = .ok (.goto 4, 3) := by decide +kernel
theorem dX13_readStep_76 : decode cX13_readStep 76 = .ok (.iconst (-1), 1) := by decide +kernel
theorem dX13_readStep_77 : decode cX13_readStep 77 = .ok (.istore_n 3, 1) := by decide +kernel
theorem dX13_readStep_78 : decode cX13_readStep 78 = .ok (.iconst 1, 1) := by decide +kernel
theorem dX13_readStep_79 : decode cX13_readStep 79 = .ok (.iload_n 2, 1) := by decide +kernel
theorem dX13_readStep_80 : decode cX13_readStep 80 = .ok (.ishl, 1) := by decide +kernel
theorem dX13_readStep_81 : decode cX13_readStep 81 = .ok (.iload_n 1, 1) := by decide +kernel
theorem dX13_readStep_82 : decode cX13_readStep 82 = .ok (.ifCond .eq 9, 3) := by decide +kernel
theorem dX13_readStep_85 : decode cX13_readStep 85 = .ok (.iconst 1, 1) := by decide +kernel
theorem dX13_readStep_86 : decode cX13_readStep 86 = .ok (.iload_n 3, 1) := by decide +kernel
theorem dX13_readStep_87 : decode cX13_readStep 87 = .ok (.ishl, 1) := by decide +kernel
theorem dX13_readStep_88 : decode cX13_readStep 88 = .ok (.goto 4, 3) := by decide +kernel
theorem dX13_readStep_91 : decode cX13_readStep 91 = .ok (.iconst 0, 1) := by decide +kernel
theorem dX13_readStep_92 : decode cX13_readStep 92 = .ok (.ior, 1) := by decide +kernel
theorem dX13_readStep_93 : decode cX13_readStep 93 = .ok (.istore 4, 2) := by decide +kernel
theorem dX13_readStep_95 : decode cX13_readStep 95 = .ok (.iconst 0, 1) := by decide +kernel
theorem dX13_readStep_96 : decode cX13_readStep 96 = .ok (.istore 5, 2) := by decide +kernel
theorem dX13_readStep_98 : decode cX13_readStep 98 = .ok (.aload_n 0, 1) := by decide +kernel
theorem dX13_readStep_99 : decode cX13_readStep 99 = .ok (.ldc 109, 2) := by decide +kernel
theorem dX13_readStep_101 : decode cX13_readStep 101 = .ok (.invokevirtual 76, 3) := by decide +kernel
theorem dX13_readStep_104 : decode cX13_readStep 104 = .ok (.ifCond .eq 26, 3) := by decide +kernel
theorem dX13_readStep_107 : decode cX13_readStep 107 = .ok (.aload_n 0, 1) := by decide +kernel
theorem dX13_readStep_108 : decode cX13_readStep 108 = .ok (.invokevirtual 72, 3) := by decide +kernel
theorem dX13_readStep_111 : decode cX13_readStep 111 = .ok (.iload 5, 2) := by decide +kernel
theorem dX13_readStep_113 : decode cX13_readStep 113 = .ok (.iconst 1, 1) := by decide +kernel
theorem dX13_readStep_114 : decode cX13_readStep 114 = .ok (.aload_n 0, 1) := by decide +kernel
theorem dX13_readStep_115 : decode cX13_readStep 115 = .ok (.iload 4, 2) := by decide +kernel
theorem dX13_readStep_117 : decode cX13_readStep 117 = .ok (.iload 5, 2) := by decide +kernel
theorem dX13_readStep_119 : decode cX13_readStep 119 = .ok (.ior, 1) := by decide +kernel
theorem dX13_readStep_120 : decode cX13_readStep 120 = .ok (.invokevirtual 106, 3) := by decide +kernel
theorem dX13_readStep_123 : decode cX13_readStep 123 = .ok (.ishl, 1) := by decide +kernel
theorem dX13_readStep_124 : decode cX13_readStep 124 = .ok (.ior, 1) := by decide +kernel
theorem dX13_readStep_125 : decode cX13_readStep 125 = .ok (.istore 5, 2) := by decide +kernel
theorem dX13_readStep_127 : decode cX13_readStep 127 = .ok (.goto (-29), 3) := by decide +kernel
theorem dX13_readStep_130 : decode cX13_readStep 130 = .ok (.aload_n 0, 1) := by decide +kernel
theorem dX13_readStep_131 : decode cX13_readStep 131 = .ok (.bipush 59, 2) := by decide +kernel
theorem dX13_readStep_133 : decode cX13_readStep 133 = .ok (.invokevirtual 111, 3) := by decide +kernel
theorem dX13_readStep_136 : decode cX13_readStep 136 = .ok (.aload_n 0, 1) := by decide +kernel
theorem dX13_readStep_137 : decode cX13_readStep 137 = .ok (.iload_n 2, 1) := by decide +kernel
theorem dX13_readStep_138 : decode cX13_readStep 138 = .ok (.iload_n 3, 1) := by decide +kernel
theorem dX13_readStep_139 : decode cX13_readStep 139 = .ok (.iload 5, 2) := by decide +kernel
theorem dX13_readStep_141 : decode cX13_readStep 141 = .ok (.invokevirtual 115, 3) := by decide +kernel
theorem dX13_readStep_144 : decode cX13_readStep 144 = .ok (.return_, 1) := by decide +kernel
theorem dX13_readFloor_0 : decode cX13_readFloor 0 = .ok (.aload_n 0, 1) := by decide +kernel
theorem dX13_readFloor_1 : decode cX13_readFloor 1 = .ok (.getfield 86, 3) := by decide +kernel
theorem dX13_readFloor_4 : decode cX13_readFloor 4 = .ok (.bipush 6, 2) := by decide +kernel
theorem dX13_readFloor_6 : decode cX13_readFloor 6 = .ok (.iconst 0, 1) := by decide +kernel
theorem dX13_readFloor_7 : decode cX13_readFloor 7 = .ok (.iastore, 1) := by decide +kernel
theorem dX13_readFloor_8 : decode cX13_readFloor 8 = .ok (.aload_n 0, 1) := by decide +kernel
theorem dX13_readFloor_9 : decode cX13_readFloor 9 = .ok (.ldc 119, 2) := by decide +kernel
theorem dX13_readFloor_11 : decode cX13_readFloor 11 = .ok (.invokevirtual 120, 3) := by decide +kernel
theorem dX13_readFloor_14 : decode cX13_readFloor 14 = .ok (.aload_n 0, 1) := by decide +kernel
theorem dX13_readFloor_15 : decode cX13_readFloor 15 = .ok (.getfield 99, 3) := by decide +kernel
theorem dX13_readFloor_18 : decode cX13_readFloor 18 = .ok (.bipush 6, 2) := by decide +kernel
theorem dX13_readFloor_20 : decode cX13_readFloor 20 = .ok (.aload_n 0, 1) := by decide +kernel
theorem dX13_readFloor_21 : decode cX13_readFloor 21 = .ok (.iconst 1, 1) := by decide +kernel
theorem dX13_readFloor_22 : decode cX13_readFloor 22 = .ok (.bipush 8, 2) := by decide +kernel
theorem dX13_readFloor_24 : decode cX13_readFloor 24 = .ok (.invokevirtual 124, 3) := by decide +kernel
theorem dX13_readFloor_27 : decode cX13_readFloor 27 = .ok (.iastore, 1) := by decide +kernel
theorem dX13_readFloor_28 : decode cX13_readFloor 28 = .ok (.aload_n 0, 1) := by decide +kernel
theorem dX13_readFloor_29 : decode cX13_readFloor 29 = .ok (.bipush 59, 2) := by decide +kernel
theorem dX13_readFloor_31 : decode cX13_readFloor 31 = .ok (.invokevirtual 111, 3) := by decide +kernel
theorem dX13_readFloor_34 : decode cX13_readFloor 34 = .ok (.aload_n 0, 1) := by decide +kernel
theorem dX13_readFloor_35 : decode cX13_readFloor 35 = .ok (.getfield 31, 3) := by decide +kernel
theorem dX13_readFloor_38 : decode cX13_readFloor 38 = .ok (.ifCond .eq 10, 3) := by decide +kernel
theorem dX13_readFloor_41 : decode cX13_readFloor 41 = .ok (.aload_n 0, 1) := by decide +kernel
theorem dX13_readFloor_42 : decode cX13_readFloor 42 = .ok (.invokevirtual 127, 3) := by decide +kernel
theorem dX13_readFloor_45 : decode cX13_readFloor 45 = .ok (.goto (-11), 3) := by decide +kernel
theorem dX13_readFloor_48 : decode cX13_readFloor 48 = .ok (.return_, 1) := by decide +kernel
theorem dX13_init_0 : decode cX13_init 0 = .ok (.aload_n 0, 1) := by decide +kernel
theorem dX13_init_1 : decode cX13_init 1 = .ok (.invokespecial 130, 3) := by decide +kernel
theorem dX13_init_4 : decode cX13_init 4 = .ok (.aload_n 0, 1) := by decide +kernel
theorem dX13_init_5 : decode cX13_init 5 = .ok (.new 135, 3) := by decide +kernel
theorem dX13_init_8 : decode cX13_init 8 = .ok (.dup, 1) := by decide +kernel
theorem dX13_init_9 : decode cX13_init 9 = .ok (.invokespecial 137, 3) := by decide +kernel
theorem dX13_init_12 : decode cX13_init 12 = .ok (.putfield 13, 3) := by decide +kernel
theorem dX13_init_15 : decode cX13_init 15 = .ok (.aload_n 0, 1) := by decide +kernel
theorem dX13_init_16 : decode cX13_init 16 = .ok (.sipush 900, 3) := by decide +kernel
theorem dX13_init_19 : decode cX13_init 19 = .ok (.newarray .byte, 2) := by decide +kernel
theorem dX13_init_21 : decode cX13_init 21 = .ok (.putfield 20, 3) := by decide +kernel
theorem dX13_init_24 : decode cX13_init 24 = .ok (.aload_n 0, 1) := by decide +kernel
theorem dX13_init_25 : decode cX13_init 25 = .ok (.iconst (-1), 1) := by decide +kernel
theorem dX13_init_26 : decode cX13_init 26 = .ok (.putfield 10, 3) := by decide +kernel
theorem dX13_init_29 : decode cX13_init 29 = .ok (.aload_n 0, 1) := by decide +kernel
theorem dX13_init_30 : decode cX13_init 30 = .ok (.bipush 8, 2) := by decide +kernel
theorem dX13_init_32 : decode cX13_init 32 = .ok (.newarray .int, 2) := by decide +kernel
theorem dX13_init_34 : decode cX13_init 34 = .ok (.putfield 99, 3) := by decide +kernel
theorem dX13_init_37 : decode cX13_init 37 = .ok (.aload_n 0, 1) := by decide +kernel
theorem dX13_init_38 : decode cX13_init 38 = .ok (.bipush 8, 2) := by decide +kernel
theorem dX13_init_40 : decode cX13_init 40 = .ok (.newarray .int, 2) := by decide +kernel
theorem dX13_init_42 : decode cX13_init 42 = .ok (.putfield 86, 3) := by decide +kernel
theorem dX13_init_45 : decode cX13_init 45 = .ok (.aload_n 0, 1) := by decide +kernel
theorem dX13_init_46 : decode cX13_init 46 = .ok (.sipush 320, 3) := by decide +kernel
theorem dX13_init_49 : decode cX13_init 49 = .ok (.newarray .int, 2) := by decide +kernel
theorem dX13_init_51 : decode cX13_init 51 = .ok (.putfield 90, 3) := by decide +kernel
theorem dX13_init_54 : decode cX13_init 54 = .ok (.aload_n 0, 1) := by decide +kernel
theorem dX13_init_55 : decode cX13_init 55 = .ok (.sipush 320, 3) := by decide +kernel
theorem dX13_init_58 : decode cX13_init 58 = .ok (.newarray .int, 2) := by decide +kernel
theorem dX13_init_60 : decode cX13_init 60 = .ok (.putfield 93, 3) := by decide +kernel
theorem dX13_init_63 : decode cX13_init 63 = .ok (.aload_n 0, 1) := by decide +kernel
theorem dX13_init_64 : decode cX13_init 64 = .ok (.sipush 320, 3) := by decide +kernel
theorem dX13_init_67 : decode cX13_init 67 = .ok (.newarray .int, 2) := by decide +kernel
theorem dX13_init_69 : decode cX13_init 69 = .ok (.putfield 96, 3) := by decide +kernel
theorem dX13_init_72 : decode cX13_init 72 = .ok (.aload_n 0, 1) := by decide +kernel
theorem dX13_init_73 : decode cX13_init 73 = .ok (.sipush 256, 3) := by decide +kernel
theorem dX13_init_76 : decode cX13_init 76 = .ok (.newarray .int, 2) := by decide +kernel
theorem dX13_init_78 : decode cX13_init 78 = .ok (.putfield 138, 3) := by decide +kernel
theorem dX13_init_81 : decode cX13_init 81 = .ok (.aload_n 0, 1) := by decide +kernel
theorem dX13_init_82 : decode cX13_init 82 = .ok (.sipush 256, 3) := by decide +kernel
theorem dX13_init_85 : decode cX13_init 85 = .ok (.newarray .boolean, 2) := by decide +kernel
theorem dX13_init_87 : decode cX13_init 87 = .ok (.putfield 141, 3) := by decide +kernel
theorem dX13_init_90 : decode cX13_init 90 = .ok (.aload_n 0, 1) := by decide +kernel
theorem dX13_init_91 : decode cX13_init 91 = .ok (.ldc 145, 2) := by decide +kernel
theorem dX13_init_93 : decode cX13_init 93 = .ok (.newarray .byte, 2) := by decide +kernel
theorem dX13_init_95 : decode cX13_init 95 = .ok (.putfield 146, 3) := by decide +kernel
theorem dX13_init_98 : decode cX13_init 98 = .ok (.aload_n 0, 1) := by decide +kernel
theorem dX13_init_99 : decode cX13_init 99 = .ok (.ldc 145, 2) := by decide +kernel
theorem dX13_init_101 : decode cX13_init 101 = .ok (.newarray .int, 2) := by decide +kernel
theorem dX13_init_103 : decode cX13_init 103 = .ok (.putfield 149, 3) := by decide +kernel
theorem dX13_init_106 : decode cX13_init 106 = .ok (.aload_n 0, 1) := by decide +kernel
theorem dX13_init_107 : decode cX13_init 107 = .ok (.bipush 8, 2) := by decide +kernel
theorem dX13_init_109 : decode cX13_init 109 = .ok (.newarray .int, 2) := by decide +kernel
theorem dX13_init_111 : decode cX13_init 111 = .ok (.putfield 152, 3) := by decide +kernel
theorem dX13_init_114 : decode cX13_init 114 = .ok (.aload_n 0, 1) := by decide +kernel
theorem dX13_init_115 : decode cX13_init 115 = .ok (.bipush 8, 2) := by decide +kernel
theorem dX13_init_117 : decode cX13_init 117 = .ok (.newarray .int, 2) := by decide +kernel
theorem dX13_init_119 : decode cX13_init 119 = .ok (.putfield 155, 3) := by decide +kernel
theorem dX13_init_122 : decode cX13_init 122 = .ok (.aload_n 0, 1) := by decide +kernel
theorem dX13_init_123 : decode cX13_init 123 = .ok (.bipush 18, 2) := by decide +kernel
theorem dX13_init_125 : decode cX13_init 125 = .ok (.newarray .int, 2) := by decide +kernel
theorem dX13_init_127 : decode cX13_init 127 = .ok (.putfield 158, 3) := by decide +kernel
theorem dX13_init_130 : decode cX13_init 130 = .ok (.aload_n 0, 1) := by decide +kernel
theorem dX13_init_131 : decode cX13_init 131 = .ok (.bipush 18, 2) := by decide +kernel
theorem dX13_init_133 : decode cX13_init 133 = .ok (.newarray .int, 2) := by decide +kernel
theorem dX13_init_135 : decode cX13_init 135 = .ok (.putfield 161, 3) := by decide +kernel
theorem dX13_init_138 : decode cX13_init 138 = .ok (.aload_n 0, 1) := by decide +kernel
theorem dX13_init_139 : decode cX13_init 139 = .ok (.bipush 18, 2) := by decide +kernel
theorem dX13_init_141 : decode cX13_init 141 = .ok (.newarray .int, 2) := by decide +kernel
theorem dX13_init_143 : decode cX13_init 143 = .ok (.putfield 164, 3) := by decide +kernel
theorem dX13_init_146 : decode cX13_init 146 = .ok (.aload_n 0, 1) := by decide +kernel
theorem dX13_init_147 : decode cX13_init 147 = .ok (.iconst (-1), 1) := by decide +kernel
theorem dX13_init_148 : decode cX13_init 148 = .ok (.putfield 167, 3) := by decide +kernel
theorem dX13_init_151 : decode cX13_init 151 = .ok (.aload_n 0, 1) := by decide +kernel
theorem dX13_init_152 : decode cX13_init 152 = .ok (.bipush 8, 2) := by decide +kernel
theorem dX13_init_154 : decode cX13_init 154 = .ok (.newarray .int, 2) := by decide +kernel
theorem dX13_init_156 : decode cX13_init 156 = .ok (.putfield 170, 3) := by decide +kernel
theorem dX13_init_159 : decode cX13_init 159 = .ok (.aload_n 0, 1) := by decide +kernel
theorem dX13_init_160 : decode cX13_init 160 = .ok (.bipush 120, 2) := by decide +kernel
theorem dX13_init_162 : decode cX13_init 162 = .ok (.newarray .int, 2) := by decide +kernel
theorem dX13_init_164 : decode cX13_init 164 = .ok (.putfield 173, 3) := by decide +kernel
theorem dX13_init_167 : decode cX13_init 167 = .ok (.aload_n 0, 1) := by decide +kernel
theorem dX13_init_168 : decode cX13_init 168 = .ok (.bipush 120, 2) := by decide +kernel
theorem dX13_init_170 : decode cX13_init 170 = .ok (.newarray .int, 2) := by decide +kernel
theorem dX13_init_172 : decode cX13_init 172 = .ok (.putfield 176, 3) := by decide +kernel
theorem dX13_init_175 : decode cX13_init 175 = .ok (.aload_n 0, 1) := by decide +kernel
theorem dX13_init_176 : decode cX13_init 176 = .ok (.bipush 120, 2) := by decide +kernel
theorem dX13_init_178 : decode cX13_init 178 = .ok (.newarray .int, 2) := by decide +kernel
theorem dX13_init_180 : decode cX13_init 180 = .ok (.putfield 179, 3) := by decide +kernel
theorem dX13_init_183 : decode cX13_init 183 = .ok (.aload_n 0, 1) := by decide +kernel
theorem dX13_init_184 : decode cX13_init 184 = .ok (.bipush 120, 2) := by decide +kernel
theorem dX13_init_186 : decode cX13_init 186 = .ok (.newarray .int, 2) := by decide +kernel
theorem dX13_init_188 : decode cX13_init 188 = .ok (.putfield 182, 3) := by decide +kernel
theorem dX13_init_191 : decode cX13_init 191 = .ok (.aload_n 0, 1) := by decide +kernel
theorem dX13_init_192 : decode cX13_init 192 = .ok (.sipush 240, 3) := by decide +kernel
theorem dX13_init_195 : decode cX13_init 195 = .ok (.newarray .int, 2) := by decide +kernel
theorem dX13_init_197 : decode cX13_init 197 = .ok (.putfield 185, 3) := by decide +kernel
theorem dX13_init_200 : decode cX13_init 200 = .ok (.aload_n 0, 1) := by decide +kernel
theorem dX13_init_201 : decode cX13_init 201 = .ok (.sipush 240, 3) := by decide +kernel
theorem dX13_init_204 : decode cX13_init 204 = .ok (.newarray .int, 2) := by decide +kernel
theorem dX13_init_206 : decode cX13_init 206 = .ok (.putfield 188, 3) := by decide +kernel
theorem dX13_init_209 : decode cX13_init 209 = .ok (.aload_n 0, 1) := by decide +kernel
theorem dX13_init_210 : decode cX13_init 210 = .ok (.sipush 480, 3) := by decide +kernel
theorem dX13_init_213 : decode cX13_init 213 = .ok (.newarray .int, 2) := by decide +kernel
theorem dX13_init_215 : decode cX13_init 215 = .ok (.putfield 191, 3) := by decide +kernel
theorem dX13_init_218 : decode cX13_init 218 = .ok (.aload_n 0, 1) := by decide +kernel
theorem dX13_init_219 : decode cX13_init 219 = .ok (.sipush 480, 3) := by decide +kernel
theorem dX13_init_222 : decode cX13_init 222 = .ok (.newarray .int, 2) := by decide +kernel
theorem dX13_init_224 : decode cX13_init 224 = .ok (.putfield 194, 3) := by decide +kernel
theorem dX13_init_227 : decode cX13_init 227 = .ok (.aload_n 0, 1) := by decide +kernel
theorem dX13_init_228 : decode cX13_init 228 = .ok (.sipush 240, 3) := by decide +kernel
theorem dX13_init_231 : decode cX13_init 231 = .ok (.newarray .int, 2) := by decide +kernel
theorem dX13_init_233 : decode cX13_init 233 = .ok (.putfield 197, 3) := by decide +kernel
theorem dX13_init_236 : decode cX13_init 236 = .ok (.aload_n 0, 1) := by decide +kernel
theorem dX13_init_237 : decode cX13_init 237 = .ok (.sipush 240, 3) := by decide +kernel
theorem dX13_init_240 : decode cX13_init 240 = .ok (.newarray .int, 2) := by decide +kernel
theorem dX13_init_242 : decode cX13_init 242 = .ok (.putfield 200, 3) := by decide +kernel
theorem dX13_init_245 : decode cX13_init 245 = .ok (.aload_n 0, 1) := by decide +kernel
theorem dX13_init_246 : decode cX13_init 246 = .ok (.sipush 240, 3) := by decide +kernel
theorem dX13_init_249 : decode cX13_init 249 = .ok (.newarray .int, 2) := by decide +kernel
theorem dX13_init_251 : decode cX13_init 251 = .ok (.putfield 203, 3) := by decide +kernel
theorem dX13_init_254 : decode cX13_init 254 = .ok (.aload_n 0, 1) := by decide +kernel
theorem dX13_init_255 : decode cX13_init 255 = .ok (.sipush 2000, 3) := by decide +kernel
theorem dX13_init_258 : decode cX13_init 258 = .ok (.newarray .int, 2) := by decide +kernel
theorem dX13_init_260 : decode cX13_init 260 = .ok (.putfield 206, 3) := by decide +kernel
theorem dX13_init_263 : decode cX13_init 263 = .ok (.aload_n 0, 1) := by decide +kernel
theorem dX13_init_264 : decode cX13_init 264 = .ok (.sipush 2000, 3) := by decide +kernel
theorem dX13_init_267 : decode cX13_init 267 = .ok (.newarray .int, 2) := by decide +kernel
theorem dX13_init_269 : decode cX13_init 269 = .ok (.putfield 209, 3) := by decide +kernel
theorem dX13_init_272 : decode cX13_init 272 = .ok (.aload_n 0, 1) := by decide +kernel
theorem dX13_init_273 : decode cX13_init 273 = .ok (.sipush 2000, 3) := by decide +kernel
theorem dX13_init_276 : decode cX13_init 276 = .ok (.newarray .int, 2) := by decide +kernel
theorem dX13_init_278 : decode cX13_init 278 = .ok (.putfield 212, 3) := by decide +kernel
theorem dX13_init_281 : decode cX13_init 281 = .ok (.aload_n 0, 1) := by decide +kernel
theorem dX13_init_282 : decode cX13_init 282 = .ok (.bipush 12, 2) := by decide +kernel
theorem dX13_init_284 : decode cX13_init 284 = .ok (.newarray .int, 2) := by decide +kernel
theorem dX13_init_286 : decode cX13_init 286 = .ok (.putfield 215, 3) := by decide +kernel
theorem dX13_init_289 : decode cX13_init 289 = .ok (.aload_n 0, 1) := by decide +kernel
theorem dX13_init_290 : decode cX13_init 290 = .ok (.bipush 12, 2) := by decide +kernel
theorem dX13_init_292 : decode cX13_init 292 = .ok (.newarray .int, 2) := by decide +kernel
theorem dX13_init_294 : decode cX13_init 294 = .ok (.putfield 218, 3) := by decide +kernel
theorem dX13_init_297 : decode cX13_init 297 = .ok (.aload_n 0, 1) := by decide +kernel
theorem dX13_init_298 : decode cX13_init 298 = .ok (.bipush 6, 2) := by decide +kernel
theorem dX13_init_300 : decode cX13_init 300 = .ok (.newarray .long, 2) := by decide +kernel
theorem dX13_init_302 : decode cX13_init 302 = .ok (.putfield 221, 3) := by decide +kernel
theorem dX13_init_305 : decode cX13_init 305 = .ok (.aload_n 0, 1) := by decide +kernel
theorem dX13_init_306 : decode cX13_init 306 = .ok (.bipush 60, 2) := by decide +kernel
theorem dX13_init_308 : decode cX13_init 308 = .ok (.newarray .long, 2) := by decide +kernel
theorem dX13_init_310 : decode cX13_init 310 = .ok (.putfield 225, 3) := by decide +kernel
theorem dX13_init_313 : decode cX13_init 313 = .ok (.aload_n 0, 1) := by decide +kernel
theorem dX13_init_314 : decode cX13_init 314 = .ok (.bipush 18, 2) := by decide +kernel
theorem dX13_init_316 : decode cX13_init 316 = .ok (.newarray .int, 2) := by decide +kernel
theorem dX13_init_318 : decode cX13_init 318 = .ok (.putfield 228, 3) := by decide +kernel
theorem dX13_init_321 : decode cX13_init 321 = .ok (.aload_n 0, 1) := by decide +kernel
theorem dX13_init_322 : decode cX13_init 322 = .ok (.bipush 18, 2) := by decide +kernel
theorem dX13_init_324 : decode cX13_init 324 = .ok (.newarray .int, 2) := by decide +kernel
theorem dX13_init_326 : decode cX13_init 326 = .ok (.putfield 231, 3) := by decide +kernel
theorem dX13_init_329 : decode cX13_init 329 = .ok (.aload_n 0, 1) := by decide +kernel
theorem dX13_init_330 : decode cX13_init 330 = .ok (.bipush 64, 2) := by decide +kernel
theorem dX13_init_332 : decode cX13_init 332 = .ok (.newarray .int, 2) := by decide +kernel
theorem dX13_init_334 : decode cX13_init 334 = .ok (.putfield 234, 3) := by decide +kernel
theorem dX13_init_337 : decode cX13_init 337 = .ok (.aload_n 0, 1) := by decide +kernel
theorem dX13_init_338 : decode cX13_init 338 = .ok (.bipush 100, 2) := by decide +kernel
theorem dX13_init_340 : decode cX13_init 340 = .ok (.newarray .int, 2) := by decide +kernel
theorem dX13_init_342 : decode cX13_init 342 = .ok (.putfield 237, 3) := by decide +kernel
theorem dX13_init_345 : decode cX13_init 345 = .ok (.aload_n 0, 1) := by decide +kernel
theorem dX13_init_346 : decode cX13_init 346 = .ok (.bipush 100, 2) := by decide +kernel
theorem dX13_init_348 : decode cX13_init 348 = .ok (.newarray .int, 2) := by decide +kernel
theorem dX13_init_350 : decode cX13_init 350 = .ok (.putfield 240, 3) := by decide +kernel
theorem dX13_init_353 : decode cX13_init 353 = .ok (.aload_n 0, 1) := by decide +kernel
theorem dX13_init_354 : decode cX13_init 354 = .ok (.bipush 100, 2) := by decide +kernel
theorem dX13_init_356 : decode cX13_init 356 = .ok (.newarray .int, 2) := by decide +kernel
theorem dX13_init_358 : decode cX13_init 358 = .ok (.putfield 243, 3) := by decide +kernel
theorem dX13_init_361 : decode cX13_init 361 = .ok (.aload_n 0, 1) := by decide +kernel
theorem dX13_init_362 : decode cX13_init 362 = .ok (.bipush 100, 2) := by decide +kernel
theorem dX13_init_364 : decode cX13_init 364 = .ok (.newarray .int, 2) := by decide +kernel
theorem dX13_init_366 : decode cX13_init 366 = .ok (.putfield 246, 3) := by decide +kernel
theorem dX13_init_369 : decode cX13_init 369 = .ok (.aload_n 0, 1) := by decide +kernel
theorem dX13_init_370 : decode cX13_init 370 = .ok (.sipush 4096, 3) := by decide +kernel
theorem dX13_init_373 : decode cX13_init 373 = .ok (.newarray .int, 2) := by decide +kernel
theorem dX13_init_375 : decode cX13_init 375 = .ok (.putfield 249, 3) := by decide +kernel
theorem dX13_init_378 : decode cX13_init 378 = .ok (.aload_n 0, 1) := by decide +kernel
theorem dX13_init_379 : decode cX13_init 379 = .ok (.sipush 4096, 3) := by decide +kernel
theorem dX13_init_382 : decode cX13_init 382 = .ok (.newarray .int, 2) := by decide +kernel
theorem dX13_init_384 : decode cX13_init 384 = .ok (.putfield 252, 3) := by decide +kernel
theorem dX13_init_387 : decode cX13_init 387 = .ok (.aload_n 0, 1) := by decide +kernel
theorem dX13_init_388 : decode cX13_init 388 = .ok (.sipush 4096, 3) := by decide +kernel
theorem dX13_init_391 : decode cX13_init 391 = .ok (.newarray .int, 2) := by decide +kernel
theorem dX13_init_393 : decode cX13_init 393 = .ok (.putfield 255, 3) := by decide +kernel
theorem dX13_init_396 : decode cX13_init 396 = .ok (.aload_n 0, 1) := by decide +kernel
theorem dX13_init_397 : decode cX13_init 397 = .ok (.bipush 20, 2) := by decide +kernel
theorem dX13_init_399 : decode cX13_init 399 = .ok (.newarray .int, 2) := by decide +kernel
theorem dX13_init_401 : decode cX13_init 401 = .ok (.putfield 258, 3) := by decide +kernel
theorem dX13_init_404 : decode cX13_init 404 = .ok (.aload_n 0, 1) := by decide +kernel
theorem dX13_init_405 : decode cX13_init 405 = .ok (.bipush 20, 2) := by decide +kernel
theorem dX13_init_407 : decode cX13_init 407 = .ok (.newarray .int, 2) := by decide +kernel
theorem dX13_init_409 : decode cX13_init 409 = .ok (.putfield 261, 3) := by decide +kernel
theorem dX13_init_412 : decode cX13_init 412 = .ok (.aload_n 0, 1) := by decide +kernel
theorem dX13_init_413 : decode cX13_init 413 = .ok (.bipush 20, 2) := by decide +kernel
theorem dX13_init_415 : decode cX13_init 415 = .ok (.newarray .int, 2) := by decide +kernel
theorem dX13_init_417 : decode cX13_init 417 = .ok (.putfield 264, 3) := by decide +kernel
theorem dX13_init_420 : decode cX13_init 420 = .ok (.aload_n 0, 1) := by decide +kernel
theorem dX13_init_421 : decode cX13_init 421 = .ok (.bipush 20, 2) := by decide +kernel
theorem dX13_init_423 : decode cX13_init 423 = .ok (.newarray .int, 2) := by decide +kernel
theorem dX13_init_425 : decode cX13_init 425 = .ok (.putfield 267, 3) := by decide +kernel
theorem dX13_init_428 : decode cX13_init 428 = .ok (.aload_n 0, 1) := by decide +kernel
theorem dX13_init_429 : decode cX13_init 429 = .ok (.bipush 20, 2) := by decide +kernel
theorem dX13_init_431 : decode cX13_init 431 = .ok (.newarray .int, 2) := by decide +kernel
theorem dX13_init_433 : decode cX13_init 433 = .ok (.putfield 270, 3) := by decide +kernel
theorem dX13_init_436 : decode cX13_init 436 = .ok (.aload_n 0, 1) := by decide +kernel
theorem dX13_init_437 : decode cX13_init 437 = .ok (.bipush 20, 2) := by decide +kernel
theorem dX13_init_439 : decode cX13_init 439 = .ok (.newarray .int, 2) := by decide +kernel
theorem dX13_init_441 : decode cX13_init 441 = .ok (.putfield 273, 3) := by decide +kernel
theorem dX13_init_444 : decode cX13_init 444 = .ok (.aload_n 0, 1) := by decide +kernel
theorem dX13_init_445 : decode cX13_init 445 = .ok (.sipush 256, 3) := by decide +kernel
theorem dX13_init_448 : decode cX13_init 448 = .ok (.newarray .int, 2) := by decide +kernel
theorem dX13_init_450 : decode cX13_init 450 = .ok (.putfield 276, 3) := by decide +kernel
theorem dX13_init_453 : decode cX13_init 453 = .ok (.iconst 0, 1) := by decide +kernel
theorem dX13_init_454 : decode cX13_init 454 = .ok (.istore_n 1, 1) := by decide +kernel
theorem dX13_init_455 : decode cX13_init 455 = .ok (.iload_n 1, 1) := by decide +kernel
theorem dX13_init_456 : decode cX13_init 456 = .ok (.bipush 6, 2) := by decide +kernel
theorem dX13_init_458 : decode cX13_init 458 = .ok (.if_icmp .ge 16, 3) := by decide +kernel
theorem dX13_init_461 : decode cX13_init 461 = .ok (.aload_n 0, 1) := by decide +kernel
theorem dX13_init_462 : decode cX13_init 462 = .ok (.getfield 99, 3) := by decide +kernel
theorem dX13_init_465 : decode cX13_init 465 = .ok (.iload_n 1, 1) := by decide +kernel
theorem dX13_init_466 : decode cX13_init 466 = .ok (.iconst 1, 1) := by decide +kernel
theorem dX13_init_467 : decode cX13_init 467 = .ok (.iastore, 1) := by decide +kernel
theorem dX13_init_468 : decode cX13_init 468 = .ok (.iinc 1 1, 3) := by decide +kernel
theorem dX13_init_471 : decode cX13_init 471 = .ok (.goto (-16), 3) := by decide +kernel
theorem dX13_init_474 : decode cX13_init 474 = .ok (.aload_n 0, 1) := by decide +kernel
theorem dX13_init_475 : decode cX13_init 475 = .ok (.iconst 4, 1) := by decide +kernel
theorem dX13_init_476 : decode cX13_init 476 = .ok (.putfield 279, 3) := by decide +kernel
theorem dX13_init_479 : decode cX13_init 479 = .ok (.aload_n 0, 1) := by decide +kernel
theorem dX13_init_480 : decode cX13_init 480 = .ok (.iconst 4, 1) := by decide +kernel
theorem dX13_init_481 : decode cX13_init 481 = .ok (.putfield 282, 3) := by decide +kernel
theorem dX13_init_484 : decode cX13_init 484 = .ok (.return_, 1) := by decide +kernel
theorem dX13_feed_0 : decode cX13_feed 0 = .ok (.aload_n 0, 1) := by decide +kernel
theorem dX13_feed_1 : decode cX13_feed 1 = .ok (.getfield 83, 3) := by decide +kernel
theorem dX13_feed_4 : decode cX13_feed 4 = .ok (.bipush 20, 2) := by decide +kernel
theorem dX13_feed_6 : decode cX13_feed 6 = .ok (.iadd, 1) := by decide +kernel
theorem dX13_feed_7 : decode cX13_feed 7 = .ok (.sipush 900, 3) := by decide +kernel
theorem dX13_feed_10 : decode cX13_feed 10 = .ok (.if_icmp .le 6, 3) := by decide +kernel
theorem dX13_feed_13 : decode cX13_feed 13 = .ok (.bipush (-3), 2) := by decide +kernel
theorem dX13_feed_15 : decode cX13_feed 15 = .ok (.ireturn, 1) := by decide +kernel
theorem dX13_feed_16 : decode cX13_feed 16 = .ok (.aload_n 0, 1) := by decide +kernel
theorem dX13_feed_17 : decode cX13_feed 17 = .ok (.iload_n 1, 1) := by decide +kernel
theorem dX13_feed_18 : decode cX13_feed 18 = .ok (.invokevirtual 285, 3) := by decide +kernel
theorem dX13_feed_21 : decode cX13_feed 21 = .ok (.aload_n 0, 1) := by decide +kernel
theorem dX13_feed_22 : decode cX13_feed 22 = .ok (.iload_n 2, 1) := by decide +kernel
theorem dX13_feed_23 : decode cX13_feed 23 = .ok (.invokevirtual 285, 3) := by decide +kernel
theorem dX13_feed_26 : decode cX13_feed 26 = .ok (.aload_n 0, 1) := by decide +kernel
theorem dX13_feed_27 : decode cX13_feed 27 = .ok (.iload_n 3, 1) := by decide +kernel
theorem dX13_feed_28 : decode cX13_feed 28 = .ok (.invokevirtual 285, 3) := by decide +kernel
theorem dX13_feed_31 : decode cX13_feed 31 = .ok (.aload_n 0, 1) := by decide +kernel
theorem dX13_feed_32 : decode cX13_feed 32 = .ok (.iload 4, 2) := by decide +kernel
theorem dX13_feed_34 : decode cX13_feed 34 = .ok (.invokevirtual 285, 3) := by decide +kernel
theorem dX13_feed_37 : decode cX13_feed 37 = .ok (.aload_n 0, 1) := by decide +kernel
theorem dX13_feed_38 : decode cX13_feed 38 = .ok (.iload 5, 2) := by decide +kernel
theorem dX13_feed_40 : decode cX13_feed 40 = .ok (.invokevirtual 285, 3) := by decide +kernel
theorem dX13_feed_43 : decode cX13_feed 43 = .ok (.aload_n 0, 1) := by decide +kernel
theorem dX13_feed_44 : decode cX13_feed 44 = .ok (.getfield 83, 3) := by decide +kernel
theorem dX13_feed_47 : decode cX13_feed 47 = .ok (.ireturn, 1) := by decide +kernel
theorem dX13_putFour_0 : decode cX13_putFour 0 = .ok (.bipush 24, 2) := by decide +kernel
theorem dX13_putFour_2 : decode cX13_putFour 2 = .ok (.istore_n 2, 1) := by decide +kernel
theorem dX13_putFour_3 : decode cX13_putFour 3 = .ok (.iload_n 2, 1) := by decide +kernel
theorem dX13_putFour_4 : decode cX13_putFour 4 = .ok (.ifCond .lt 32, 3) := by decide +kernel
theorem dX13_putFour_7 : decode cX13_putFour 7 = .ok (.aload_n 0, 1) := by decide +kernel
theorem dX13_putFour_8 : decode cX13_putFour 8 = .ok (.getfield 20, 3) := by decide +kernel
theorem dX13_putFour_11 : decode cX13_putFour 11 = .ok (.aload_n 0, 1) := by decide +kernel
theorem dX13_putFour_12 : decode cX13_putFour 12 = .ok (.getfield 83, 3) := by decide +kernel
theorem dX13_putFour_15 : decode cX13_putFour 15 = .ok (.iload_n 1, 1) := by decide +kernel
theorem dX13_putFour_16 : decode cX13_putFour 16 = .ok (.iload_n 2, 1) := by decide +kernel
theorem dX13_putFour_17 : decode cX13_putFour 17 = .ok (.ishr, 1) := by decide +kernel
theorem dX13_putFour_18 : decode cX13_putFour 18 = .ok (.i2b, 1) := by decide +kernel
theorem dX13_putFour_19 : decode cX13_putFour 19 = .ok (.bastore, 1) := by decide +kernel
theorem dX13_putFour_20 : decode cX13_putFour 20 = .ok (.aload_n 0, 1) := by decide +kernel
theorem dX13_putFour_21 : decode cX13_putFour 21 = .ok (.dup, 1) := by decide +kernel
theorem dX13_putFour_22 : decode cX13_putFour 22 = .ok (.getfield 83, 3) := by decide +kernel
theorem dX13_putFour_25 : decode cX13_putFour 25 = .ok (.iconst 1, 1) := by decide +kernel
theorem dX13_putFour_26 : decode cX13_putFour 26 = .ok (.iadd, 1) := by decide +kernel
theorem dX13_putFour_27 : decode cX13_putFour 27 = .ok (.putfield 83, 3) := by decide +kernel
theorem dX13_putFour_30 : decode cX13_putFour 30 = .ok (.iinc 2 (-8), 3) := by decide +kernel
theorem dX13_putFour_33 : decode cX13_putFour 33 = .ok (.goto (-30), 3) := by decide +kernel
theorem dX13_putFour_36 : decode cX13_putFour 36 = .ok (.return_, 1) := by decide +kernel
theorem dX13_end_0 : decode cX13_end 0 = .ok (.iload_n 1, 1) := by decide +kernel
theorem dX13_end_1 : decode cX13_end 1 = .ok (.i2l, 1) := by decide +kernel
theorem dX13_end_2 : decode cX13_end 2 = .ok (.lconst 0, 1) := by decide +kernel
theorem dX13_end_3 : decode cX13_end 3 = .ok (.aload_n 0, 1) := by decide +kernel
theorem dX13_end_4 : decode cX13_end 4 = .ok (.getfield 83, 3) := by decide +kernel
theorem dX13_end_7 : decode cX13_end 7 = .ok (.i2l, 1) := by decide +kernel
theorem dX13_end_8 : decode cX13_end 8 = .ok (.invokestatic 64, 3) := by decide +kernel
theorem dX13_end_11 : decode cX13_end 11 = .ok (.ifCond .ne 5, 3) := by decide +kernel
theorem dX13_end_14 : decode cX13_end 14 = .ok (.iconst (-1), 1) := by decide +kernel
theorem dX13_end_15 : decode cX13_end 15 = .ok (.ireturn, 1) := by decide +kernel
theorem dX13_end_16 : decode cX13_end 16 = .ok (.aload_n 0, 1) := by decide +kernel
theorem dX13_end_17 : decode cX13_end 17 = .ok (.iload_n 1, 1) := by decide +kernel
theorem dX13_end_18 : decode cX13_end 18 = .ok (.putfield 83, 3) := by decide +kernel
theorem dX13_end_21 : decode cX13_end 21 = .ok (.iload_n 1, 1) := by decide +kernel
theorem dX13_end_22 : decode cX13_end 22 = .ok (.ireturn, 1) := by decide +kernel
theorem dX13_isFloor_0 : decode cX13_isFloor 0 = .ok (.iload_n 0, 1) := by decide +kernel
theorem dX13_isFloor_1 : decode cX13_isFloor 1 = .ok (.i2l, 1) := by decide +kernel
theorem dX13_isFloor_2 : decode cX13_isFloor 2 = .ok (.lconst 0, 1) := by decide +kernel
theorem dX13_isFloor_3 : decode cX13_isFloor 3 = .ok (.ldc2_w 288, 3) := by decide +kernel
theorem dX13_isFloor_6 : decode cX13_isFloor 6 = .ok (.invokestatic 64, 3) := by decide +kernel
theorem dX13_isFloor_9 : decode cX13_isFloor 9 = .ok (.ireturn, 1) := by decide +kernel
theorem dX13_floor_0 : decode cX13_floor 0 = .ok (.iload_n 1, 1) := by decide +kernel
theorem dX13_floor_1 : decode cX13_floor 1 = .ok (.invokestatic 290, 3) := by decide +kernel
theorem dX13_floor_4 : decode cX13_floor 4 = .ok (.ifCond .ne 11, 3) := by decide +kernel
theorem dX13_floor_7 : decode cX13_floor 7 = .ok (.aload_n 0, 1) := by decide +kernel
theorem dX13_floor_8 : decode cX13_floor 8 = .ok (.iconst 0, 1) := by decide +kernel
theorem dX13_floor_9 : decode cX13_floor 9 = .ok (.putfield 83, 3) := by decide +kernel
theorem dX13_floor_12 : decode cX13_floor 12 = .ok (.bipush (-2), 2) := by decide +kernel
theorem dX13_floor_14 : decode cX13_floor 14 = .ok (.ireturn, 1) := by decide +kernel
theorem dX13_floor_15 : decode cX13_floor 15 = .ok (.aload_n 0, 1) := by decide +kernel
theorem dX13_floor_16 : decode cX13_floor 16 = .ok (.invokevirtual 293, 3) := by decide +kernel
theorem dX13_floor_19 : decode cX13_floor 19 = .ok (.aload_n 0, 1) := by decide +kernel
theorem dX13_floor_20 : decode cX13_floor 20 = .ok (.invokevirtual 296, 3) := by decide +kernel
theorem dX13_floor_23 : decode cX13_floor 23 = .ok (.goto 6, 3) := by decide +kernel
theorem dX13_floor_26 : decode cX13_floor 26 = .ok (.astore_n 2, 1) := by decide +kernel
theorem dX13_floor_27 : decode cX13_floor 27 = .ok (.iconst (-1), 1) := by decide +kernel
theorem dX13_floor_28 : decode cX13_floor 28 = .ok (.ireturn, 1) := by decide +kernel
theorem dX13_floor_29 : decode cX13_floor 29 = .ok (.aload_n 0, 1) := by decide +kernel
theorem dX13_floor_30 : decode cX13_floor 30 = .ok (.bipush 6, 2) := by decide +kernel
theorem dX13_floor_32 : decode cX13_floor 32 = .ok (.iload_n 1, 1) := by decide +kernel
theorem dX13_floor_33 : decode cX13_floor 33 = .ok (.invokevirtual 299, 3) := by decide +kernel
theorem dX13_floor_36 : decode cX13_floor 36 = .ok (.aload_n 0, 1) := by decide +kernel
theorem dX13_floor_37 : decode cX13_floor 37 = .ok (.getfield 86, 3) := by decide +kernel
theorem dX13_floor_40 : decode cX13_floor 40 = .ok (.iload_n 1, 1) := by decide +kernel
theorem dX13_floor_41 : decode cX13_floor 41 = .ok (.iaload, 1) := by decide +kernel
theorem dX13_floor_42 : decode cX13_floor 42 = .ok (.ireturn, 1) := by decide +kernel
theorem dX13_fault_0 : decode cX13_fault 0 = .ok (.iload_n 1, 1) := by decide +kernel
theorem dX13_fault_1 : decode cX13_fault 1 = .ok (.ifCond .ne 10, 3) := by decide +kernel
theorem dX13_fault_4 : decode cX13_fault 4 = .ok (.aload_n 0, 1) := by decide +kernel
theorem dX13_fault_5 : decode cX13_fault 5 = .ok (.getfield 3, 3) := by decide +kernel
theorem dX13_fault_8 : decode cX13_fault 8 = .ok (.goto 16, 3) := by decide +kernel
theorem dX13_fault_11 : decode cX13_fault 11 = .ok (.iload_n 1, 1) := by decide +kernel
theorem dX13_fault_12 : decode cX13_fault 12 = .ok (.iconst 1, 1) := by decide +kernel
theorem dX13_fault_13 : decode cX13_fault 13 = .ok (.if_icmp .ne 10, 3) := by decide +kernel
theorem dX13_fault_16 : decode cX13_fault 16 = .ok (.aload_n 0, 1) := by decide +kernel
theorem dX13_fault_17 : decode cX13_fault 17 = .ok (.getfield 10, 3) := by decide +kernel
theorem dX13_fault_20 : decode cX13_fault 20 = .ok (.goto 4, 3) := by decide +kernel
theorem dX13_fault_23 : decode cX13_fault 23 = .ok (.iconst (-1), 1) := by decide +kernel
theorem dX13_fault_24 : decode cX13_fault 24 = .ok (.ireturn, 1) := by decide +kernel
theorem dX13_step_0 : decode cX13_step 0 = .ok (.iload_n 1, 1) := by decide +kernel
theorem dX13_step_1 : decode cX13_step 1 = .ok (.invokestatic 290, 3) := by decide +kernel
theorem dX13_step_4 : decode cX13_step 4 = .ok (.ifCond .ne 5, 3) := by decide +kernel
theorem dX13_step_7 : decode cX13_step 7 = .ok (.iconst (-1), 1) := by decide +kernel
theorem dX13_step_8 : decode cX13_step 8 = .ok (.ireturn, 1) := by decide +kernel
theorem dX13_step_9 : decode cX13_step 9 = .ok (.iload_n 3, 1) := by decide +kernel
theorem dX13_step_10 : decode cX13_step 10 = .ok (.iconst 1, 1) := by decide +kernel
theorem dX13_step_11 : decode cX13_step 11 = .ok (.if_icmp .ne 10, 3) := by decide +kernel
theorem dX13_step_14 : decode cX13_step 14 = .ok (.aload_n 0, 1) := by decide +kernel
theorem dX13_step_15 : decode cX13_step 15 = .ok (.getfield 99, 3) := by decide +kernel
theorem dX13_step_18 : decode cX13_step 18 = .ok (.iload_n 1, 1) := by decide +kernel
theorem dX13_step_19 : decode cX13_step 19 = .ok (.iaload, 1) := by decide +kernel
theorem dX13_step_20 : decode cX13_step 20 = .ok (.ireturn, 1) := by decide +kernel
theorem dX13_step_21 : decode cX13_step 21 = .ok (.iload_n 2, 1) := by decide +kernel
theorem dX13_step_22 : decode cX13_step 22 = .ok (.i2l, 1) := by decide +kernel
theorem dX13_step_23 : decode cX13_step 23 = .ok (.lconst 0, 1) := by decide +kernel
theorem dX13_step_24 : decode cX13_step 24 = .ok (.aload_n 0, 1) := by decide +kernel
theorem dX13_step_25 : decode cX13_step 25 = .ok (.getfield 86, 3) := by decide +kernel
theorem dX13_step_28 : decode cX13_step 28 = .ok (.iload_n 1, 1) := by decide +kernel
theorem dX13_step_29 : decode cX13_step 29 = .ok (.iaload, 1) := by decide +kernel
theorem dX13_step_30 : decode cX13_step 30 = .ok (.i2l, 1) := by decide +kernel
theorem dX13_step_31 : decode cX13_step 31 = .ok (.lconst 1, 1) := by decide +kernel
theorem dX13_step_32 : decode cX13_step 32 = .ok (.lsub, 1) := by decide +kernel
theorem dX13_step_33 : decode cX13_step 33 = .ok (.invokestatic 64, 3) := by decide +kernel
theorem dX13_step_36 : decode cX13_step 36 = .ok (.ifCond .ne 5, 3) := by decide +kernel
theorem dX13_step_39 : decode cX13_step 39 = .ok (.iconst (-1), 1) := by decide +kernel
theorem dX13_step_40 : decode cX13_step 40 = .ok (.ireturn, 1) := by decide +kernel
theorem dX13_step_41 : decode cX13_step 41 = .ok (.bipush 40, 2) := by decide +kernel
theorem dX13_step_43 : decode cX13_step 43 = .ok (.iload_n 1, 1) := by decide +kernel
theorem dX13_step_44 : decode cX13_step 44 = .ok (.imul, 1) := by decide +kernel
theorem dX13_step_45 : decode cX13_step 45 = .ok (.iload_n 2, 1) := by decide +kernel
theorem dX13_step_46 : decode cX13_step 46 = .ok (.iadd, 1) := by decide +kernel
theorem dX13_step_47 : decode cX13_step 47 = .ok (.istore 4, 2) := by decide +kernel
theorem dX13_step_49 : decode cX13_step 49 = .ok (.iload_n 3, 1) := by decide +kernel
theorem dX13_step_50 : decode cX13_step 50 = .ok (.tableswitch 75 0 4 #[34, 75, 51, 59, 67], 34) := by decide +kernel
theorem dX13_step_84 : decode cX13_step 84 = .ok (.aload_n 0, 1) := by decide +kernel
theorem dX13_step_85 : decode cX13_step 85 = .ok (.getfield 93, 3) := by decide +kernel
theorem dX13_step_88 : decode cX13_step 88 = .ok (.iload 4, 2) := by decide +kernel
theorem dX13_step_90 : decode cX13_step 90 = .ok (.iaload, 1) := by decide +kernel
theorem dX13_step_91 : decode cX13_step 91 = .ok (.iconst (-1), 1) := by decide +kernel
theorem dX13_step_92 : decode cX13_step 92 = .ok (.if_icmp .ne 7, 3) := by decide +kernel
theorem dX13_step_95 : decode cX13_step 95 = .ok (.iconst 0, 1) := by decide +kernel
theorem dX13_step_96 : decode cX13_step 96 = .ok (.goto 4, 3) := by decide +kernel
theorem dX13_step_99 : decode cX13_step 99 = .ok (.iconst 1, 1) := by decide +kernel
theorem dX13_step_100 : decode cX13_step 100 = .ok (.ireturn, 1) := by decide +kernel
theorem dX13_step_101 : decode cX13_step 101 = .ok (.aload_n 0, 1) := by decide +kernel
theorem dX13_step_102 : decode cX13_step 102 = .ok (.getfield 90, 3) := by decide +kernel
theorem dX13_step_105 : decode cX13_step 105 = .ok (.iload 4, 2) := by decide +kernel
theorem dX13_step_107 : decode cX13_step 107 = .ok (.iaload, 1) := by decide +kernel
theorem dX13_step_108 : decode cX13_step 108 = .ok (.ireturn, 1) := by decide +kernel
theorem dX13_step_109 : decode cX13_step 109 = .ok (.aload_n 0, 1) := by decide +kernel
theorem dX13_step_110 : decode cX13_step 110 = .ok (.getfield 93, 3) := by decide +kernel
theorem dX13_step_113 : decode cX13_step 113 = .ok (.iload 4, 2) := by decide +kernel
theorem dX13_step_115 : decode cX13_step 115 = .ok (.iaload, 1) := by decide +kernel
theorem dX13_step_116 : decode cX13_step 116 = .ok (.ireturn, 1) := by decide +kernel
theorem dX13_step_117 : decode cX13_step 117 = .ok (.aload_n 0, 1) := by decide +kernel
theorem dX13_step_118 : decode cX13_step 118 = .ok (.getfield 96, 3) := by decide +kernel
theorem dX13_step_121 : decode cX13_step 121 = .ok (.iload 4, 2) := by decide +kernel
theorem dX13_step_123 : decode cX13_step 123 = .ok (.iaload, 1) := by decide +kernel
theorem dX13_step_124 : decode cX13_step 124 = .ok (.ireturn, 1) := by decide +kernel
theorem dX13_step_125 : decode cX13_step 125 = .ok (.iconst (-1), 1) := by decide +kernel
theorem dX13_step_126 : decode cX13_step 126 = .ok (.ireturn, 1) := by decide +kernel
theorem dX13_bit_0 : decode cX13_bit 0 = .ok (.iload_n 0, 1) := by decide +kernel
theorem dX13_bit_1 : decode cX13_bit 1 = .ok (.iload_n 1, 1) := by decide +kernel
theorem dX13_bit_2 : decode cX13_bit 2 = .ok (.ishr, 1) := by decide +kernel
theorem dX13_bit_3 : decode cX13_bit 3 = .ok (.iconst 1, 1) := by decide +kernel
theorem dX13_bit_4 : decode cX13_bit 4 = .ok (.iand, 1) := by decide +kernel
theorem dX13_bit_5 : decode cX13_bit 5 = .ok (.ireturn, 1) := by decide +kernel
theorem dX13_done_0 : decode cX13_done 0 = .ok (.iload_n 3, 1) := by decide +kernel
theorem dX13_done_1 : decode cX13_done 1 = .ok (.iload_n 2, 1) := by decide +kernel
theorem dX13_done_2 : decode cX13_done 2 = .ok (.iand, 1) := by decide +kernel
theorem dX13_done_3 : decode cX13_done 3 = .ok (.iload_n 2, 1) := by decide +kernel
theorem dX13_done_4 : decode cX13_done 4 = .ok (.if_icmp .eq 5, 3) := by decide +kernel
theorem dX13_done_7 : decode cX13_done 7 = .ok (.iload_n 3, 1) := by decide +kernel
theorem dX13_done_8 : decode cX13_done 8 = .ok (.ireturn, 1) := by decide +kernel
theorem dX13_done_9 : decode cX13_done 9 = .ok (.iload_n 1, 1) := by decide +kernel
theorem dX13_done_10 : decode cX13_done 10 = .ok (.iconst (-1), 1) := by decide +kernel
theorem dX13_done_11 : decode cX13_done 11 = .ok (.if_icmp .ne 9, 3) := by decide +kernel
theorem dX13_done_14 : decode cX13_done 14 = .ok (.iload_n 3, 1) := by decide +kernel
theorem dX13_done_15 : decode cX13_done 15 = .ok (.iconst 1, 1) := by decide +kernel
theorem dX13_done_16 : decode cX13_done 16 = .ok (.iload_n 0, 1) := by decide +kernel
theorem dX13_done_17 : decode cX13_done 17 = .ok (.ishl, 1) := by decide +kernel
theorem dX13_done_18 : decode cX13_done 18 = .ok (.ixor, 1) := by decide +kernel
theorem dX13_done_19 : decode cX13_done 19 = .ok (.ireturn, 1) := by decide +kernel
theorem dX13_done_20 : decode cX13_done 20 = .ok (.iload_n 3, 1) := by decide +kernel
theorem dX13_done_21 : decode cX13_done 21 = .ok (.iload_n 0, 1) := by decide +kernel
theorem dX13_done_22 : decode cX13_done 22 = .ok (.invokestatic 303, 3) := by decide +kernel
theorem dX13_done_25 : decode cX13_done 25 = .ok (.iload_n 3, 1) := by decide +kernel
theorem dX13_done_26 : decode cX13_done 26 = .ok (.iload_n 1, 1) := by decide +kernel
theorem dX13_done_27 : decode cX13_done 27 = .ok (.invokestatic 303, 3) := by decide +kernel
theorem dX13_done_30 : decode cX13_done 30 = .ok (.if_icmp .ne 7, 3) := by decide +kernel
theorem dX13_done_33 : decode cX13_done 33 = .ok (.iload_n 3, 1) := by decide +kernel
theorem dX13_done_34 : decode cX13_done 34 = .ok (.goto 12, 3) := by decide +kernel
theorem dX13_done_37 : decode cX13_done 37 = .ok (.iload_n 3, 1) := by decide +kernel
theorem dX13_done_38 : decode cX13_done 38 = .ok (.iconst 1, 1) := by decide +kernel
theorem dX13_done_39 : decode cX13_done 39 = .ok (.iload_n 0, 1) := by decide +kernel
theorem dX13_done_40 : decode cX13_done 40 = .ok (.ishl, 1) := by decide +kernel
theorem dX13_done_41 : decode cX13_done 41 = .ok (.iconst 1, 1) := by decide +kernel
theorem dX13_done_42 : decode cX13_done 42 = .ok (.iload_n 1, 1) := by decide +kernel
theorem dX13_done_43 : decode cX13_done 43 = .ok (.ishl, 1) := by decide +kernel
theorem dX13_done_44 : decode cX13_done 44 = .ok (.ior, 1) := by decide +kernel
theorem dX13_done_45 : decode cX13_done 45 = .ok (.ixor, 1) := by decide +kernel
theorem dX13_done_46 : decode cX13_done 46 = .ok (.ireturn, 1) := by decide +kernel
theorem dX13_outBut_0 : decode cX13_outBut 0 = .ok (.iload_n 2, 1) := by decide +kernel
theorem dX13_outBut_1 : decode cX13_outBut 1 = .ok (.istore 5, 2) := by decide +kernel
theorem dX13_outBut_3 : decode cX13_outBut 3 = .ok (.iconst 0, 1) := by decide +kernel
theorem dX13_outBut_4 : decode cX13_outBut 4 = .ok (.istore 6, 2) := by decide +kernel
theorem dX13_outBut_6 : decode cX13_outBut 6 = .ok (.iload 6, 2) := by decide +kernel
theorem dX13_outBut_8 : decode cX13_outBut 8 = .ok (.aload_n 0, 1) := by decide +kernel
theorem dX13_outBut_9 : decode cX13_outBut 9 = .ok (.getfield 86, 3) := by decide +kernel
theorem dX13_outBut_12 : decode cX13_outBut 12 = .ok (.iload_n 1, 1) := by decide +kernel
theorem dX13_outBut_13 : decode cX13_outBut 13 = .ok (.iaload, 1) := by decide +kernel
theorem dX13_outBut_14 : decode cX13_outBut 14 = .ok (.if_icmp .ge 75, 3) := by decide +kernel
theorem dX13_outBut_17 : decode cX13_outBut 17 = .ok (.iload_n 3, 1) := by decide +kernel
theorem dX13_outBut_18 : decode cX13_outBut 18 = .ok (.ifCond .eq 17, 3) := by decide +kernel
theorem dX13_outBut_21 : decode cX13_outBut 21 = .ok (.aload_n 0, 1) := by decide +kernel
theorem dX13_outBut_22 : decode cX13_outBut 22 = .ok (.getfield 86, 3) := by decide +kernel
theorem dX13_outBut_25 : decode cX13_outBut 25 = .ok (.iload_n 1, 1) := by decide +kernel
theorem dX13_outBut_26 : decode cX13_outBut 26 = .ok (.iaload, 1) := by decide +kernel
theorem dX13_outBut_27 : decode cX13_outBut 27 = .ok (.iconst 1, 1) := by decide +kernel
theorem dX13_outBut_28 : decode cX13_outBut 28 = .ok (.isub, 1) := by decide +kernel
theorem dX13_outBut_29 : decode cX13_outBut 29 = .ok (.iload 6, 2) := by decide +kernel
theorem dX13_outBut_31 : decode cX13_outBut 31 = .ok (.isub, 1) := by decide +kernel
theorem dX13_outBut_32 : decode cX13_outBut 32 = .ok (.goto 5, 3) := by decide +kernel
theorem dX13_outBut_35 : decode cX13_outBut 35 = .ok (.iload 6, 2) := by decide +kernel
theorem dX13_outBut_37 : decode cX13_outBut 37 = .ok (.istore 7, 2) := by decide +kernel
theorem dX13_outBut_39 : decode cX13_outBut 39 = .ok (.bipush 40, 2) := by decide +kernel
theorem dX13_outBut_41 : decode cX13_outBut 41 = .ok (.iload_n 1, 1) := by decide +kernel
theorem dX13_outBut_42 : decode cX13_outBut 42 = .ok (.imul, 1) := by decide +kernel
theorem dX13_outBut_43 : decode cX13_outBut 43 = .ok (.iload 7, 2) := by decide +kernel
theorem dX13_outBut_45 : decode cX13_outBut 45 = .ok (.iadd, 1) := by decide +kernel
theorem dX13_outBut_46 : decode cX13_outBut 46 = .ok (.istore 8, 2) := by decide +kernel
theorem dX13_outBut_48 : decode cX13_outBut 48 = .ok (.iload 7, 2) := by decide +kernel
theorem dX13_outBut_50 : decode cX13_outBut 50 = .ok (.iload 4, 2) := by decide +kernel
theorem dX13_outBut_52 : decode cX13_outBut 52 = .ok (.if_icmp .eq 31, 3) := by decide +kernel
theorem dX13_outBut_55 : decode cX13_outBut 55 = .ok (.aload_n 0, 1) := by decide +kernel
theorem dX13_outBut_56 : decode cX13_outBut 56 = .ok (.getfield 90, 3) := by decide +kernel
theorem dX13_outBut_59 : decode cX13_outBut 59 = .ok (.iload 8, 2) := by decide +kernel
theorem dX13_outBut_61 : decode cX13_outBut 61 = .ok (.iaload, 1) := by decide +kernel
theorem dX13_outBut_62 : decode cX13_outBut 62 = .ok (.aload_n 0, 1) := by decide +kernel
theorem dX13_outBut_63 : decode cX13_outBut 63 = .ok (.getfield 93, 3) := by decide +kernel
theorem dX13_outBut_66 : decode cX13_outBut 66 = .ok (.iload 8, 2) := by decide +kernel
theorem dX13_outBut_68 : decode cX13_outBut 68 = .ok (.iaload, 1) := by decide +kernel
theorem dX13_outBut_69 : decode cX13_outBut 69 = .ok (.aload_n 0, 1) := by decide +kernel
theorem dX13_outBut_70 : decode cX13_outBut 70 = .ok (.getfield 96, 3) := by decide +kernel
theorem dX13_outBut_73 : decode cX13_outBut 73 = .ok (.iload 8, 2) := by decide +kernel
theorem dX13_outBut_75 : decode cX13_outBut 75 = .ok (.iaload, 1) := by decide +kernel
theorem dX13_outBut_76 : decode cX13_outBut 76 = .ok (.iload 5, 2) := by decide +kernel
theorem dX13_outBut_78 : decode cX13_outBut 78 = .ok (.invokestatic 306, 3) := by decide +kernel
theorem dX13_outBut_81 : decode cX13_outBut 81 = .ok (.istore 5, 2) := by decide +kernel
theorem dX13_outBut_83 : decode cX13_outBut 83 = .ok (.iinc 6 1, 3) := by decide +kernel
theorem dX13_outBut_86 : decode cX13_outBut 86 = .ok (.goto (-80), 3) := by decide +kernel
theorem dX13_outBut_89 : decode cX13_outBut 89 = .ok (.iload 5, 2) := by decide +kernel
theorem dX13_outBut_91 : decode cX13_outBut 91 = .ok (.ireturn, 1) := by decide +kernel
theorem dX13_isRow_0 : decode cX13_isRow 0 = .ok (.iload_n 2, 1) := by decide +kernel
theorem dX13_isRow_1 : decode cX13_isRow 1 = .ok (.i2l, 1) := by decide +kernel
theorem dX13_isRow_2 : decode cX13_isRow 2 = .ok (.lconst 0, 1) := by decide +kernel
theorem dX13_isRow_3 : decode cX13_isRow 3 = .ok (.lconst 1, 1) := by decide +kernel
theorem dX13_isRow_4 : decode cX13_isRow 4 = .ok (.aload_n 0, 1) := by decide +kernel
theorem dX13_isRow_5 : decode cX13_isRow 5 = .ok (.getfield 99, 3) := by decide +kernel
theorem dX13_isRow_8 : decode cX13_isRow 8 = .ok (.iload_n 1, 1) := by decide +kernel
theorem dX13_isRow_9 : decode cX13_isRow 9 = .ok (.iaload, 1) := by decide +kernel
theorem dX13_isRow_10 : decode cX13_isRow 10 = .ok (.lshl, 1) := by decide +kernel
theorem dX13_isRow_11 : decode cX13_isRow 11 = .ok (.lconst 1, 1) := by decide +kernel
theorem dX13_isRow_12 : decode cX13_isRow 12 = .ok (.lsub, 1) := by decide +kernel
theorem dX13_isRow_13 : decode cX13_isRow 13 = .ok (.invokestatic 64, 3) := by decide +kernel
theorem dX13_isRow_16 : decode cX13_isRow 16 = .ok (.ireturn, 1) := by decide +kernel
theorem dX13_out_0 : decode cX13_out 0 = .ok (.iload_n 1, 1) := by decide +kernel
theorem dX13_out_1 : decode cX13_out 1 = .ok (.invokestatic 290, 3) := by decide +kernel
theorem dX13_out_4 : decode cX13_out 4 = .ok (.ifCond .eq 23, 3) := by decide +kernel
theorem dX13_out_7 : decode cX13_out 7 = .ok (.aload_n 0, 1) := by decide +kernel
theorem dX13_out_8 : decode cX13_out 8 = .ok (.iload_n 1, 1) := by decide +kernel
theorem dX13_out_9 : decode cX13_out 9 = .ok (.iload_n 2, 1) := by decide +kernel
theorem dX13_out_10 : decode cX13_out 10 = .ok (.invokevirtual 310, 3) := by decide +kernel
theorem dX13_out_13 : decode cX13_out 13 = .ok (.ifCond .eq 14, 3) := by decide +kernel
theorem dX13_out_16 : decode cX13_out 16 = .ok (.aload_n 0, 1) := by decide +kernel
theorem dX13_out_17 : decode cX13_out 17 = .ok (.iload_n 1, 1) := by decide +kernel
theorem dX13_out_18 : decode cX13_out 18 = .ok (.iload_n 2, 1) := by decide +kernel
theorem dX13_out_19 : decode cX13_out 19 = .ok (.iload_n 3, 1) := by decide +kernel
theorem dX13_out_20 : decode cX13_out 20 = .ok (.iconst (-1), 1) := by decide +kernel
theorem dX13_out_21 : decode cX13_out 21 = .ok (.invokevirtual 314, 3) := by decide +kernel
theorem dX13_out_24 : decode cX13_out 24 = .ok (.goto 5, 3) := by decide +kernel
theorem dX13_out_27 : decode cX13_out 27 = .ok (.bipush (-2), 2) := by decide +kernel
theorem dX13_out_29 : decode cX13_out 29 = .ok (.ireturn, 1) := by decide +kernel
theorem dX13_findTable_0 : decode cX13_findTable 0 = .ok (.iconst 0, 1) := by decide +kernel
theorem dX13_findTable_1 : decode cX13_findTable 1 = .ok (.istore_n 2, 1) := by decide +kernel
theorem dX13_findTable_2 : decode cX13_findTable 2 = .ok (.iload_n 2, 1) := by decide +kernel
theorem dX13_findTable_3 : decode cX13_findTable 3 = .ok (.iconst 1, 1) := by decide +kernel
theorem dX13_findTable_4 : decode cX13_findTable 4 = .ok (.aload_n 0, 1) := by decide +kernel
theorem dX13_findTable_5 : decode cX13_findTable 5 = .ok (.getfield 99, 3) := by decide +kernel
theorem dX13_findTable_8 : decode cX13_findTable 8 = .ok (.iload_n 1, 1) := by decide +kernel
theorem dX13_findTable_9 : decode cX13_findTable 9 = .ok (.iaload, 1) := by decide +kernel
theorem dX13_findTable_10 : decode cX13_findTable 10 = .ok (.ishl, 1) := by decide +kernel
theorem dX13_findTable_11 : decode cX13_findTable 11 = .ok (.if_icmp .ge 23, 3) := by decide +kernel
theorem dX13_findTable_14 : decode cX13_findTable 14 = .ok (.aload_n 0, 1) := by decide +kernel
theorem dX13_findTable_15 : decode cX13_findTable 15 = .ok (.getfield 138, 3) := by decide +kernel
theorem dX13_findTable_18 : decode cX13_findTable 18 = .ok (.iload_n 2, 1) := by decide +kernel
theorem dX13_findTable_19 : decode cX13_findTable 19 = .ok (.aload_n 0, 1) := by decide +kernel
theorem dX13_findTable_20 : decode cX13_findTable 20 = .ok (.iload_n 1, 1) := by decide +kernel
theorem dX13_findTable_21 : decode cX13_findTable 21 = .ok (.iload_n 2, 1) := by decide +kernel
theorem dX13_findTable_22 : decode cX13_findTable 22 = .ok (.iconst 0, 1) := by decide +kernel
theorem dX13_findTable_23 : decode cX13_findTable 23 = .ok (.iconst (-1), 1) := by decide +kernel
theorem dX13_findTable_24 : decode cX13_findTable 24 = .ok (.invokevirtual 314, 3) := by decide +kernel
theorem dX13_findTable_27 : decode cX13_findTable 27 = .ok (.iastore, 1) := by decide +kernel
theorem dX13_findTable_28 : decode cX13_findTable 28 = .ok (.iinc 2 1, 3) := by decide +kernel
theorem dX13_findTable_31 : decode cX13_findTable 31 = .ok (.goto (-29), 3) := by decide +kernel
theorem dX13_findTable_34 : decode cX13_findTable 34 = .ok (.return_, 1) := by decide +kernel
theorem dX13_odd_0 : decode cX13_odd 0 = .ok (.iload_n 1, 1) := by decide +kernel
theorem dX13_odd_1 : decode cX13_odd 1 = .ok (.invokestatic 290, 3) := by decide +kernel
theorem dX13_odd_4 : decode cX13_odd 4 = .ok (.ifCond .ne 6, 3) := by decide +kernel
theorem dX13_odd_7 : decode cX13_odd 7 = .ok (.bipush (-2), 2) := by decide +kernel
theorem dX13_odd_9 : decode cX13_odd 9 = .ok (.ireturn, 1) := by decide +kernel
theorem dX13_odd_10 : decode cX13_odd 10 = .ok (.aload_n 0, 1) := by decide +kernel
theorem dX13_odd_11 : decode cX13_odd 11 = .ok (.iload_n 1, 1) := by decide +kernel
theorem dX13_odd_12 : decode cX13_odd 12 = .ok (.invokevirtual 318, 3) := by decide +kernel
theorem dX13_odd_15 : decode cX13_odd 15 = .ok (.iconst 0, 1) := by decide +kernel
theorem dX13_odd_16 : decode cX13_odd 16 = .ok (.istore_n 2, 1) := by decide +kernel
theorem dX13_odd_17 : decode cX13_odd 17 = .ok (.iconst 0, 1) := by decide +kernel
theorem dX13_odd_18 : decode cX13_odd 18 = .ok (.istore_n 3, 1) := by decide +kernel
theorem dX13_odd_19 : decode cX13_odd 19 = .ok (.iload_n 3, 1) := by decide +kernel
theorem dX13_odd_20 : decode cX13_odd 20 = .ok (.iconst 1, 1) := by decide +kernel
theorem dX13_odd_21 : decode cX13_odd 21 = .ok (.aload_n 0, 1) := by decide +kernel
theorem dX13_odd_22 : decode cX13_odd 22 = .ok (.getfield 99, 3) := by decide +kernel
theorem dX13_odd_25 : decode cX13_odd 25 = .ok (.iload_n 1, 1) := by decide +kernel
theorem dX13_odd_26 : decode cX13_odd 26 = .ok (.iaload, 1) := by decide +kernel
theorem dX13_odd_27 : decode cX13_odd 27 = .ok (.ishl, 1) := by decide +kernel
theorem dX13_odd_28 : decode cX13_odd 28 = .ok (.if_icmp .ge 16, 3) := by decide +kernel
theorem dX13_odd_31 : decode cX13_odd 31 = .ok (.aload_n 0, 1) := by decide +kernel
theorem dX13_odd_32 : decode cX13_odd 32 = .ok (.getfield 141, 3) := by decide +kernel
theorem dX13_odd_35 : decode cX13_odd 35 = .ok (.iload_n 3, 1) := by decide +kernel
theorem dX13_odd_36 : decode cX13_odd 36 = .ok (.iconst 0, 1) := by decide +kernel
theorem dX13_odd_37 : decode cX13_odd 37 = .ok (.bastore, 1) := by decide +kernel
theorem dX13_odd_38 : decode cX13_odd 38 = .ok (.iinc 3 1, 3) := by decide +kernel
theorem dX13_odd_41 : decode cX13_odd 41 = .ok (.goto (-22), 3) := by decide +kernel
theorem dX13_odd_44 : decode cX13_odd 44 = .ok (.iconst 0, 1) := by decide +kernel
theorem dX13_odd_45 : decode cX13_odd 45 = .ok (.istore_n 3, 1) := by decide +kernel
theorem dX13_odd_46 : decode cX13_odd 46 = .ok (.iload_n 3, 1) := by decide +kernel
theorem dX13_odd_47 : decode cX13_odd 47 = .ok (.iconst 1, 1) := by decide +kernel
theorem dX13_odd_48 : decode cX13_odd 48 = .ok (.aload_n 0, 1) := by decide +kernel
theorem dX13_odd_49 : decode cX13_odd 49 = .ok (.getfield 99, 3) := by decide +kernel
theorem dX13_odd_52 : decode cX13_odd 52 = .ok (.iload_n 1, 1) := by decide +kernel
theorem dX13_odd_53 : decode cX13_odd 53 = .ok (.iaload, 1) := by decide +kernel
theorem dX13_odd_54 : decode cX13_odd 54 = .ok (.ishl, 1) := by decide +kernel
theorem dX13_odd_55 : decode cX13_odd 55 = .ok (.if_icmp .ge 61, 3) := by decide +kernel
theorem dX13_odd_58 : decode cX13_odd 58 = .ok (.iload_n 3, 1) := by decide +kernel
theorem dX13_odd_59 : decode cX13_odd 59 = .ok (.istore 4, 2) := by decide +kernel
theorem dX13_odd_61 : decode cX13_odd 61 = .ok (.aload_n 0, 1) := by decide +kernel
theorem dX13_odd_62 : decode cX13_odd 62 = .ok (.getfield 141, 3) := by decide +kernel
theorem dX13_odd_65 : decode cX13_odd 65 = .ok (.iload 4, 2) := by decide +kernel
theorem dX13_odd_67 : decode cX13_odd 67 = .ok (.baload, 1) := by decide +kernel
theorem dX13_odd_68 : decode cX13_odd 68 = .ok (.ifCond .ne 42, 3) := by decide +kernel
theorem dX13_odd_71 : decode cX13_odd 71 = .ok (.aload_n 0, 1) := by decide +kernel
theorem dX13_odd_72 : decode cX13_odd 72 = .ok (.getfield 141, 3) := by decide +kernel
theorem dX13_odd_75 : decode cX13_odd 75 = .ok (.iload 4, 2) := by decide +kernel
theorem dX13_odd_77 : decode cX13_odd 77 = .ok (.iconst 1, 1) := by decide +kernel
theorem dX13_odd_78 : decode cX13_odd 78 = .ok (.bastore, 1) := by decide +kernel
theorem dX13_odd_79 : decode cX13_odd 79 = .ok (.iload_n 2, 1) := by decide +kernel
theorem dX13_odd_80 : decode cX13_odd 80 = .ok (.aload_n 0, 1) := by decide +kernel
theorem dX13_odd_81 : decode cX13_odd 81 = .ok (.getfield 138, 3) := by decide +kernel
theorem dX13_odd_84 : decode cX13_odd 84 = .ok (.iload 4, 2) := by decide +kernel
theorem dX13_odd_86 : decode cX13_odd 86 = .ok (.iaload, 1) := by decide +kernel
theorem dX13_odd_87 : decode cX13_odd 87 = .ok (.iload_n 3, 1) := by decide +kernel
theorem dX13_odd_88 : decode cX13_odd 88 = .ok (.if_icmp .ne 7, 3) := by decide +kernel
theorem dX13_odd_91 : decode cX13_odd 91 = .ok (.iconst 0, 1) := by decide +kernel
theorem dX13_odd_92 : decode cX13_odd 92 = .ok (.goto 4, 3) := by decide +kernel
theorem dX13_odd_95 : decode cX13_odd 95 = .ok (.iconst 1, 1) := by decide +kernel
theorem dX13_odd_96 : decode cX13_odd 96 = .ok (.iadd, 1) := by decide +kernel
theorem dX13_odd_97 : decode cX13_odd 97 = .ok (.istore_n 2, 1) := by decide +kernel
theorem dX13_odd_98 : decode cX13_odd 98 = .ok (.aload_n 0, 1) := by decide +kernel
theorem dX13_odd_99 : decode cX13_odd 99 = .ok (.getfield 138, 3) := by decide +kernel
theorem dX13_odd_102 : decode cX13_odd 102 = .ok (.iload 4, 2) := by decide +kernel
theorem dX13_odd_104 : decode cX13_odd 104 = .ok (.iaload, 1) := by decide +kernel
theorem dX13_odd_105 : decode cX13_odd 105 = .ok (.istore 4, 2) := by decide +kernel
theorem dX13_odd_107 : decode cX13_odd 107 = .ok (.goto (-46), 3) := by decide +kernel
theorem dX13_odd_110 : decode cX13_odd 110 = .ok (.iinc 3 1, 3) := by decide +kernel
theorem dX13_odd_113 : decode cX13_odd 113 = .ok (.goto (-67), 3) := by decide +kernel
theorem dX13_odd_116 : decode cX13_odd 116 = .ok (.iload_n 2, 1) := by decide +kernel
theorem dX13_odd_117 : decode cX13_odd 117 = .ok (.iconst 2, 1) := by decide +kernel
theorem dX13_odd_118 : decode cX13_odd 118 = .ok (.irem, 1) := by decide +kernel
theorem dX13_odd_119 : decode cX13_odd 119 = .ok (.ireturn, 1) := by decide +kernel
theorem dX13_cycleOf_0 : decode cX13_cycleOf 0 = .ok (.iconst 1, 1) := by decide +kernel
theorem dX13_cycleOf_1 : decode cX13_cycleOf 1 = .ok (.istore_n 2, 1) := by decide +kernel
theorem dX13_cycleOf_2 : decode cX13_cycleOf 2 = .ok (.aload_n 0, 1) := by decide +kernel
theorem dX13_cycleOf_3 : decode cX13_cycleOf 3 = .ok (.getfield 138, 3) := by decide +kernel
theorem dX13_cycleOf_6 : decode cX13_cycleOf 6 = .ok (.iload_n 1, 1) := by decide +kernel
theorem dX13_cycleOf_7 : decode cX13_cycleOf 7 = .ok (.iaload, 1) := by decide +kernel
theorem dX13_cycleOf_8 : decode cX13_cycleOf 8 = .ok (.istore_n 3, 1) := by decide +kernel
theorem dX13_cycleOf_9 : decode cX13_cycleOf 9 = .ok (.iload_n 3, 1) := by decide +kernel
theorem dX13_cycleOf_10 : decode cX13_cycleOf 10 = .ok (.iload_n 1, 1) := by decide +kernel
theorem dX13_cycleOf_11 : decode cX13_cycleOf 11 = .ok (.if_icmp .eq 16, 3) := by decide +kernel
theorem dX13_cycleOf_14 : decode cX13_cycleOf 14 = .ok (.iinc 2 1, 3) := by decide +kernel
theorem dX13_cycleOf_17 : decode cX13_cycleOf 17 = .ok (.aload_n 0, 1) := by decide +kernel
theorem dX13_cycleOf_18 : decode cX13_cycleOf 18 = .ok (.getfield 138, 3) := by decide +kernel
theorem dX13_cycleOf_21 : decode cX13_cycleOf 21 = .ok (.iload_n 3, 1) := by decide +kernel
theorem dX13_cycleOf_22 : decode cX13_cycleOf 22 = .ok (.iaload, 1) := by decide +kernel
theorem dX13_cycleOf_23 : decode cX13_cycleOf 23 = .ok (.istore_n 3, 1) := by decide +kernel
theorem dX13_cycleOf_24 : decode cX13_cycleOf 24 = .ok (.goto (-15), 3) := by decide +kernel
theorem dX13_cycleOf_27 : decode cX13_cycleOf 27 = .ok (.iload_n 2, 1) := by decide +kernel
theorem dX13_cycleOf_28 : decode cX13_cycleOf 28 = .ok (.ireturn, 1) := by decide +kernel
theorem dX13_cycle_0 : decode cX13_cycle 0 = .ok (.iload_n 1, 1) := by decide +kernel
theorem dX13_cycle_1 : decode cX13_cycle 1 = .ok (.invokestatic 290, 3) := by decide +kernel
theorem dX13_cycle_4 : decode cX13_cycle 4 = .ok (.ifCond .eq 12, 3) := by decide +kernel
theorem dX13_cycle_7 : decode cX13_cycle 7 = .ok (.aload_n 0, 1) := by decide +kernel
theorem dX13_cycle_8 : decode cX13_cycle 8 = .ok (.iload_n 1, 1) := by decide +kernel
theorem dX13_cycle_9 : decode cX13_cycle 9 = .ok (.iload_n 2, 1) := by decide +kernel
theorem dX13_cycle_10 : decode cX13_cycle 10 = .ok (.invokevirtual 310, 3) := by decide +kernel
theorem dX13_cycle_13 : decode cX13_cycle 13 = .ok (.ifCond .ne 6, 3) := by decide +kernel
theorem dX13_cycle_16 : decode cX13_cycle 16 = .ok (.bipush (-2), 2) := by decide +kernel
theorem dX13_cycle_18 : decode cX13_cycle 18 = .ok (.ireturn, 1) := by decide +kernel
theorem dX13_cycle_19 : decode cX13_cycle 19 = .ok (.aload_n 0, 1) := by decide +kernel
theorem dX13_cycle_20 : decode cX13_cycle 20 = .ok (.iload_n 1, 1) := by decide +kernel
theorem dX13_cycle_21 : decode cX13_cycle 21 = .ok (.invokevirtual 318, 3) := by decide +kernel
theorem dX13_cycle_24 : decode cX13_cycle 24 = .ok (.aload_n 0, 1) := by decide +kernel
theorem dX13_cycle_25 : decode cX13_cycle 25 = .ok (.iload_n 2, 1) := by decide +kernel
theorem dX13_cycle_26 : decode cX13_cycle 26 = .ok (.invokevirtual 321, 3) := by decide +kernel
theorem dX13_cycle_29 : decode cX13_cycle 29 = .ok (.ireturn, 1) := by decide +kernel
theorem dX13_common_0 : decode cX13_common 0 = .ok (.lload_n 0, 1) := by decide +kernel
theorem dX13_common_1 : decode cX13_common 1 = .ok (.lstore 4, 2) := by decide +kernel
theorem dX13_common_3 : decode cX13_common 3 = .ok (.lload_n 2, 1) := by decide +kernel
theorem dX13_common_4 : decode cX13_common 4 = .ok (.lstore 6, 2) := by decide +kernel
theorem dX13_common_6 : decode cX13_common 6 = .ok (.lload 6, 2) := by decide +kernel
theorem dX13_common_8 : decode cX13_common 8 = .ok (.lconst 0, 1) := by decide +kernel
theorem dX13_common_9 : decode cX13_common 9 = .ok (.lcmp, 1) := by decide +kernel
theorem dX13_common_10 : decode cX13_common 10 = .ok (.ifCond .eq 21, 3) := by decide +kernel
theorem dX13_common_13 : decode cX13_common 13 = .ok (.lload 4, 2) := by decide +kernel
theorem dX13_common_15 : decode cX13_common 15 = .ok (.lload 6, 2) := by decide +kernel
theorem dX13_common_17 : decode cX13_common 17 = .ok (.lrem, 1) := by decide +kernel
theorem dX13_common_18 : decode cX13_common 18 = .ok (.lstore 8, 2) := by decide +kernel
theorem dX13_common_20 : decode cX13_common 20 = .ok (.lload 6, 2) := by decide +kernel
theorem dX13_common_22 : decode cX13_common 22 = .ok (.lstore 4, 2) := by decide +kernel
theorem dX13_common_24 : decode cX13_common 24 = .ok (.lload 8, 2) := by decide +kernel
theorem dX13_common_26 : decode cX13_common 26 = .ok (.lstore 6, 2) := by decide +kernel
theorem dX13_common_28 : decode cX13_common 28 = .ok (.goto (-22), 3) := by decide +kernel
theorem dX13_common_31 : decode cX13_common 31 = .ok (.lload 4, 2) := by decide +kernel
theorem dX13_common_33 : decode cX13_common 33 = .ok (.lreturn, 1) := by decide +kernel
theorem dX13_order_0 : decode cX13_order 0 = .ok (.iload_n 1, 1) := by decide +kernel
theorem dX13_order_1 : decode cX13_order 1 = .ok (.invokestatic 290, 3) := by decide +kernel
theorem dX13_order_4 : decode cX13_order 4 = .ok (.ifCond .ne 7, 3) := by decide +kernel
theorem dX13_order_7 : decode cX13_order 7 = .ok (.ldc2_w 324, 3) := by decide +kernel
theorem dX13_order_10 : decode cX13_order 10 = .ok (.lreturn, 1) := by decide +kernel
theorem dX13_order_11 : decode cX13_order 11 = .ok (.aload_n 0, 1) := by decide +kernel
theorem dX13_order_12 : decode cX13_order 12 = .ok (.iload_n 1, 1) := by decide +kernel
theorem dX13_order_13 : decode cX13_order 13 = .ok (.invokevirtual 318, 3) := by decide +kernel
theorem dX13_order_16 : decode cX13_order 16 = .ok (.lconst 1, 1) := by decide +kernel
theorem dX13_order_17 : decode cX13_order 17 = .ok (.lstore_n 2, 1) := by decide +kernel
theorem dX13_order_18 : decode cX13_order 18 = .ok (.iconst 0, 1) := by decide +kernel
theorem dX13_order_19 : decode cX13_order 19 = .ok (.istore 4, 2) := by decide +kernel
theorem dX13_order_21 : decode cX13_order 21 = .ok (.iload 4, 2) := by decide +kernel
theorem dX13_order_23 : decode cX13_order 23 = .ok (.iconst 1, 1) := by decide +kernel
theorem dX13_order_24 : decode cX13_order 24 = .ok (.aload_n 0, 1) := by decide +kernel
theorem dX13_order_25 : decode cX13_order 25 = .ok (.getfield 99, 3) := by decide +kernel
theorem dX13_order_28 : decode cX13_order 28 = .ok (.iload_n 1, 1) := by decide +kernel
theorem dX13_order_29 : decode cX13_order 29 = .ok (.iaload, 1) := by decide +kernel
theorem dX13_order_30 : decode cX13_order 30 = .ok (.ishl, 1) := by decide +kernel
theorem dX13_order_31 : decode cX13_order 31 = .ok (.if_icmp .ge 31, 3) := by decide +kernel
theorem dX13_order_34 : decode cX13_order 34 = .ok (.aload_n 0, 1) := by decide +kernel
theorem dX13_order_35 : decode cX13_order 35 = .ok (.iload 4, 2) := by decide +kernel
theorem dX13_order_37 : decode cX13_order 37 = .ok (.invokevirtual 321, 3) := by decide +kernel
theorem dX13_order_40 : decode cX13_order 40 = .ok (.istore 5, 2) := by decide +kernel
theorem dX13_order_42 : decode cX13_order 42 = .ok (.lload_n 2, 1) := by decide +kernel
theorem dX13_order_43 : decode cX13_order 43 = .ok (.lload_n 2, 1) := by decide +kernel
theorem dX13_order_44 : decode cX13_order 44 = .ok (.iload 5, 2) := by decide +kernel
theorem dX13_order_46 : decode cX13_order 46 = .ok (.i2l, 1) := by decide +kernel
theorem dX13_order_47 : decode cX13_order 47 = .ok (.invokestatic 326, 3) := by decide +kernel
theorem dX13_order_50 : decode cX13_order 50 = .ok (.ldiv, 1) := by decide +kernel
theorem dX13_order_51 : decode cX13_order 51 = .ok (.iload 5, 2) := by decide +kernel
theorem dX13_order_53 : decode cX13_order 53 = .ok (.i2l, 1) := by decide +kernel
theorem dX13_order_54 : decode cX13_order 54 = .ok (.lmul, 1) := by decide +kernel
theorem dX13_order_55 : decode cX13_order 55 = .ok (.lstore_n 2, 1) := by decide +kernel
theorem dX13_order_56 : decode cX13_order 56 = .ok (.iinc 4 1, 3) := by decide +kernel
theorem dX13_order_59 : decode cX13_order 59 = .ok (.goto (-38), 3) := by decide +kernel
theorem dX13_order_62 : decode cX13_order 62 = .ok (.lload_n 2, 1) := by decide +kernel
theorem dX13_order_63 : decode cX13_order 63 = .ok (.lreturn, 1) := by decide +kernel
theorem dX13_apart_0 : decode cX13_apart 0 = .ok (.iload_n 1, 1) := by decide +kernel
theorem dX13_apart_1 : decode cX13_apart 1 = .ok (.invokestatic 290, 3) := by decide +kernel
theorem dX13_apart_4 : decode cX13_apart 4 = .ok (.ifCond .eq 10, 3) := by decide +kernel
theorem dX13_apart_7 : decode cX13_apart 7 = .ok (.iload_n 2, 1) := by decide +kernel
theorem dX13_apart_8 : decode cX13_apart 8 = .ok (.invokestatic 290, 3) := by decide +kernel
theorem dX13_apart_11 : decode cX13_apart 11 = .ok (.ifCond .ne 6, 3) := by decide +kernel
theorem dX13_apart_14 : decode cX13_apart 14 = .ok (.bipush (-2), 2) := by decide +kernel
theorem dX13_apart_16 : decode cX13_apart 16 = .ok (.ireturn, 1) := by decide +kernel
theorem dX13_apart_17 : decode cX13_apart 17 = .ok (.aload_n 0, 1) := by decide +kernel
theorem dX13_apart_18 : decode cX13_apart 18 = .ok (.getfield 99, 3) := by decide +kernel
theorem dX13_apart_21 : decode cX13_apart 21 = .ok (.iload_n 1, 1) := by decide +kernel
theorem dX13_apart_22 : decode cX13_apart 22 = .ok (.iaload, 1) := by decide +kernel
theorem dX13_apart_23 : decode cX13_apart 23 = .ok (.aload_n 0, 1) := by decide +kernel
theorem dX13_apart_24 : decode cX13_apart 24 = .ok (.getfield 99, 3) := by decide +kernel
theorem dX13_apart_27 : decode cX13_apart 27 = .ok (.iload_n 2, 1) := by decide +kernel
theorem dX13_apart_28 : decode cX13_apart 28 = .ok (.iaload, 1) := by decide +kernel
theorem dX13_apart_29 : decode cX13_apart 29 = .ok (.if_icmp .eq 6, 3) := by decide +kernel
theorem dX13_apart_32 : decode cX13_apart 32 = .ok (.bipush (-4), 2) := by decide +kernel
theorem dX13_apart_34 : decode cX13_apart 34 = .ok (.ireturn, 1) := by decide +kernel
theorem dX13_apart_35 : decode cX13_apart 35 = .ok (.iconst 0, 1) := by decide +kernel
theorem dX13_apart_36 : decode cX13_apart 36 = .ok (.istore_n 3, 1) := by decide +kernel
theorem dX13_apart_37 : decode cX13_apart 37 = .ok (.iload_n 3, 1) := by decide +kernel
theorem dX13_apart_38 : decode cX13_apart 38 = .ok (.iconst 1, 1) := by decide +kernel
theorem dX13_apart_39 : decode cX13_apart 39 = .ok (.aload_n 0, 1) := by decide +kernel
theorem dX13_apart_40 : decode cX13_apart 40 = .ok (.getfield 99, 3) := by decide +kernel
theorem dX13_apart_43 : decode cX13_apart 43 = .ok (.iload_n 1, 1) := by decide +kernel
theorem dX13_apart_44 : decode cX13_apart 44 = .ok (.iaload, 1) := by decide +kernel
theorem dX13_apart_45 : decode cX13_apart 45 = .ok (.ishl, 1) := by decide +kernel
theorem dX13_apart_46 : decode cX13_apart 46 = .ok (.if_icmp .ge 30, 3) := by decide +kernel
theorem dX13_apart_49 : decode cX13_apart 49 = .ok (.aload_n 0, 1) := by decide +kernel
theorem dX13_apart_50 : decode cX13_apart 50 = .ok (.iload_n 1, 1) := by decide +kernel
theorem dX13_apart_51 : decode cX13_apart 51 = .ok (.iload_n 3, 1) := by decide +kernel
theorem dX13_apart_52 : decode cX13_apart 52 = .ok (.iconst 0, 1) := by decide +kernel
theorem dX13_apart_53 : decode cX13_apart 53 = .ok (.iconst (-1), 1) := by decide +kernel
theorem dX13_apart_54 : decode cX13_apart 54 = .ok (.invokevirtual 314, 3) := by decide +kernel
theorem dX13_apart_57 : decode cX13_apart 57 = .ok (.aload_n 0, 1) := by decide +kernel
theorem dX13_apart_58 : decode cX13_apart 58 = .ok (.iload_n 2, 1) := by decide +kernel
theorem dX13_apart_59 : decode cX13_apart 59 = .ok (.iload_n 3, 1) := by decide +kernel
theorem dX13_apart_60 : decode cX13_apart 60 = .ok (.iconst 0, 1) := by decide +kernel
theorem dX13_apart_61 : decode cX13_apart 61 = .ok (.iconst (-1), 1) := by decide +kernel
theorem dX13_apart_62 : decode cX13_apart 62 = .ok (.invokevirtual 314, 3) := by decide +kernel
theorem dX13_apart_65 : decode cX13_apart 65 = .ok (.if_icmp .eq 5, 3) := by decide +kernel
theorem dX13_apart_68 : decode cX13_apart 68 = .ok (.iload_n 3, 1) := by decide +kernel
theorem dX13_apart_69 : decode cX13_apart 69 = .ok (.ireturn, 1) := by decide +kernel
theorem dX13_apart_70 : decode cX13_apart 70 = .ok (.iinc 3 1, 3) := by decide +kernel
theorem dX13_apart_73 : decode cX13_apart 73 = .ok (.goto (-36), 3) := by decide +kernel
theorem dX13_apart_76 : decode cX13_apart 76 = .ok (.iconst (-1), 1) := by decide +kernel
theorem dX13_apart_77 : decode cX13_apart 77 = .ok (.ireturn, 1) := by decide +kernel
theorem dX13_gate_0 : decode cX13_gate 0 = .ok (.aload_n 0, 1) := by decide +kernel
theorem dX13_gate_1 : decode cX13_gate 1 = .ok (.getfield 158, 3) := by decide +kernel
theorem dX13_gate_4 : decode cX13_gate 4 = .ok (.aload_n 0, 1) := by decide +kernel
theorem dX13_gate_5 : decode cX13_gate 5 = .ok (.getfield 330, 3) := by decide +kernel
theorem dX13_gate_8 : decode cX13_gate 8 = .ok (.iload_n 1, 1) := by decide +kernel
theorem dX13_gate_9 : decode cX13_gate 9 = .ok (.iastore, 1) := by decide +kernel
theorem dX13_gate_10 : decode cX13_gate 10 = .ok (.aload_n 0, 1) := by decide +kernel
theorem dX13_gate_11 : decode cX13_gate 11 = .ok (.getfield 161, 3) := by decide +kernel
theorem dX13_gate_14 : decode cX13_gate 14 = .ok (.aload_n 0, 1) := by decide +kernel
theorem dX13_gate_15 : decode cX13_gate 15 = .ok (.getfield 330, 3) := by decide +kernel
theorem dX13_gate_18 : decode cX13_gate 18 = .ok (.iload_n 2, 1) := by decide +kernel
theorem dX13_gate_19 : decode cX13_gate 19 = .ok (.iastore, 1) := by decide +kernel
theorem dX13_gate_20 : decode cX13_gate 20 = .ok (.aload_n 0, 1) := by decide +kernel
theorem dX13_gate_21 : decode cX13_gate 21 = .ok (.getfield 164, 3) := by decide +kernel
theorem dX13_gate_24 : decode cX13_gate 24 = .ok (.aload_n 0, 1) := by decide +kernel
theorem dX13_gate_25 : decode cX13_gate 25 = .ok (.getfield 330, 3) := by decide +kernel
theorem dX13_gate_28 : decode cX13_gate 28 = .ok (.iload_n 3, 1) := by decide +kernel
theorem dX13_gate_29 : decode cX13_gate 29 = .ok (.iastore, 1) := by decide +kernel
theorem dX13_gate_30 : decode cX13_gate 30 = .ok (.aload_n 0, 1) := by decide +kernel
theorem dX13_gate_31 : decode cX13_gate 31 = .ok (.dup, 1) := by decide +kernel
theorem dX13_gate_32 : decode cX13_gate 32 = .ok (.getfield 330, 3) := by decide +kernel
theorem dX13_gate_35 : decode cX13_gate 35 = .ok (.iconst 1, 1) := by decide +kernel
theorem dX13_gate_36 : decode cX13_gate 36 = .ok (.iadd, 1) := by decide +kernel
theorem dX13_gate_37 : decode cX13_gate 37 = .ok (.putfield 330, 3) := by decide +kernel
theorem dX13_gate_40 : decode cX13_gate 40 = .ok (.return_, 1) := by decide +kernel
theorem dX13_bits_0 : decode cX13_bits 0 = .ok (.iconst 0, 1) := by decide +kernel
theorem dX13_bits_1 : decode cX13_bits 1 = .ok (.istore_n 1, 1) := by decide +kernel
theorem dX13_bits_2 : decode cX13_bits 2 = .ok (.iload_n 0, 1) := by decide +kernel
theorem dX13_bits_3 : decode cX13_bits 3 = .ok (.istore_n 2, 1) := by decide +kernel
theorem dX13_bits_4 : decode cX13_bits 4 = .ok (.iload_n 2, 1) := by decide +kernel
theorem dX13_bits_5 : decode cX13_bits 5 = .ok (.ifCond .eq 15, 3) := by decide +kernel
theorem dX13_bits_8 : decode cX13_bits 8 = .ok (.iinc 1 1, 3) := by decide +kernel
theorem dX13_bits_11 : decode cX13_bits 11 = .ok (.iload_n 2, 1) := by decide +kernel
theorem dX13_bits_12 : decode cX13_bits 12 = .ok (.iload_n 2, 1) := by decide +kernel
theorem dX13_bits_13 : decode cX13_bits 13 = .ok (.iconst 1, 1) := by decide +kernel
theorem dX13_bits_14 : decode cX13_bits 14 = .ok (.isub, 1) := by decide +kernel
theorem dX13_bits_15 : decode cX13_bits 15 = .ok (.iand, 1) := by decide +kernel
theorem dX13_bits_16 : decode cX13_bits 16 = .ok (.istore_n 2, 1) := by decide +kernel
theorem dX13_bits_17 : decode cX13_bits 17 = .ok (.goto (-13), 3) := by decide +kernel
theorem dX13_bits_20 : decode cX13_bits 20 = .ok (.iload_n 1, 1) := by decide +kernel
theorem dX13_bits_21 : decode cX13_bits 21 = .ok (.ireturn, 1) := by decide +kernel
theorem dX13_findGates_0 : decode cX13_findGates 0 = .ok (.aload_n 0, 1) := by decide +kernel
theorem dX13_findGates_1 : decode cX13_findGates 1 = .ok (.iconst 0, 1) := by decide +kernel
theorem dX13_findGates_2 : decode cX13_findGates 2 = .ok (.putfield 330, 3) := by decide +kernel
theorem dX13_findGates_5 : decode cX13_findGates 5 = .ok (.iconst 0, 1) := by decide +kernel
theorem dX13_findGates_6 : decode cX13_findGates 6 = .ok (.istore_n 2, 1) := by decide +kernel
theorem dX13_findGates_7 : decode cX13_findGates 7 = .ok (.iload_n 2, 1) := by decide +kernel
theorem dX13_findGates_8 : decode cX13_findGates 8 = .ok (.iconst 3, 1) := by decide +kernel
theorem dX13_findGates_9 : decode cX13_findGates 9 = .ok (.if_icmp .ge 50, 3) := by decide +kernel
theorem dX13_findGates_12 : decode cX13_findGates 12 = .ok (.iconst 0, 1) := by decide +kernel
theorem dX13_findGates_13 : decode cX13_findGates 13 = .ok (.istore_n 3, 1) := by decide +kernel
theorem dX13_findGates_14 : decode cX13_findGates 14 = .ok (.iload_n 3, 1) := by decide +kernel
theorem dX13_findGates_15 : decode cX13_findGates 15 = .ok (.bipush 8, 2) := by decide +kernel
theorem dX13_findGates_17 : decode cX13_findGates 17 = .ok (.if_icmp .ge 36, 3) := by decide +kernel
theorem dX13_findGates_20 : decode cX13_findGates 20 = .ok (.iload_n 3, 1) := by decide +kernel
theorem dX13_findGates_21 : decode cX13_findGates 21 = .ok (.iload_n 2, 1) := by decide +kernel
theorem dX13_findGates_22 : decode cX13_findGates 22 = .ok (.ishr, 1) := by decide +kernel
theorem dX13_findGates_23 : decode cX13_findGates 23 = .ok (.iconst 1, 1) := by decide +kernel
theorem dX13_findGates_24 : decode cX13_findGates 24 = .ok (.iand, 1) := by decide +kernel
theorem dX13_findGates_25 : decode cX13_findGates 25 = .ok (.ifCond .ne 22, 3) := by decide +kernel
theorem dX13_findGates_28 : decode cX13_findGates 28 = .ok (.iload_n 1, 1) := by decide +kernel
theorem dX13_findGates_29 : decode cX13_findGates 29 = .ok (.iload_n 3, 1) := by decide +kernel
theorem dX13_findGates_30 : decode cX13_findGates 30 = .ok (.invokestatic 333, 3) := by decide +kernel
theorem dX13_findGates_33 : decode cX13_findGates 33 = .ok (.ishr, 1) := by decide +kernel
theorem dX13_findGates_34 : decode cX13_findGates 34 = .ok (.iconst 1, 1) := by decide +kernel
theorem dX13_findGates_35 : decode cX13_findGates 35 = .ok (.iand, 1) := by decide +kernel
theorem dX13_findGates_36 : decode cX13_findGates 36 = .ok (.iconst 1, 1) := by decide +kernel
theorem dX13_findGates_37 : decode cX13_findGates 37 = .ok (.if_icmp .ne 10, 3) := by decide +kernel
theorem dX13_findGates_40 : decode cX13_findGates 40 = .ok (.aload_n 0, 1) := by decide +kernel
theorem dX13_findGates_41 : decode cX13_findGates 41 = .ok (.iload_n 2, 1) := by decide +kernel
theorem dX13_findGates_42 : decode cX13_findGates 42 = .ok (.iconst (-1), 1) := by decide +kernel
theorem dX13_findGates_43 : decode cX13_findGates 43 = .ok (.iload_n 3, 1) := by decide +kernel
theorem dX13_findGates_44 : decode cX13_findGates 44 = .ok (.invokevirtual 336, 3) := by decide +kernel
theorem dX13_findGates_47 : decode cX13_findGates 47 = .ok (.iinc 3 1, 3) := by decide +kernel
theorem dX13_findGates_50 : decode cX13_findGates 50 = .ok (.goto (-36), 3) := by decide +kernel
theorem dX13_findGates_53 : decode cX13_findGates 53 = .ok (.iinc 2 1, 3) := by decide +kernel
theorem dX13_findGates_56 : decode cX13_findGates 56 = .ok (.goto (-49), 3) := by decide +kernel
theorem dX13_findGates_59 : decode cX13_findGates 59 = .ok (.iconst 0, 1) := by decide +kernel
theorem dX13_findGates_60 : decode cX13_findGates 60 = .ok (.istore_n 2, 1) := by decide +kernel
theorem dX13_findGates_61 : decode cX13_findGates 61 = .ok (.iload_n 2, 1) := by decide +kernel
theorem dX13_findGates_62 : decode cX13_findGates 62 = .ok (.iconst 3, 1) := by decide +kernel
theorem dX13_findGates_63 : decode cX13_findGates 63 = .ok (.if_icmp .ge 81, 3) := by decide +kernel
theorem dX13_findGates_66 : decode cX13_findGates 66 = .ok (.iload_n 2, 1) := by decide +kernel
theorem dX13_findGates_67 : decode cX13_findGates 67 = .ok (.iconst 1, 1) := by decide +kernel
theorem dX13_findGates_68 : decode cX13_findGates 68 = .ok (.iadd, 1) := by decide +kernel
theorem dX13_findGates_69 : decode cX13_findGates 69 = .ok (.istore_n 3, 1) := by decide +kernel
theorem dX13_findGates_70 : decode cX13_findGates 70 = .ok (.iload_n 3, 1) := by decide +kernel
theorem dX13_findGates_71 : decode cX13_findGates 71 = .ok (.iconst 3, 1) := by decide +kernel
theorem dX13_findGates_72 : decode cX13_findGates 72 = .ok (.if_icmp .ge 66, 3) := by decide +kernel
theorem dX13_findGates_75 : decode cX13_findGates 75 = .ok (.iconst 0, 1) := by decide +kernel
theorem dX13_findGates_76 : decode cX13_findGates 76 = .ok (.istore 4, 2) := by decide +kernel
theorem dX13_findGates_78 : decode cX13_findGates 78 = .ok (.iload 4, 2) := by decide +kernel
theorem dX13_findGates_80 : decode cX13_findGates 80 = .ok (.bipush 8, 2) := by decide +kernel
theorem dX13_findGates_82 : decode cX13_findGates 82 = .ok (.if_icmp .ge 50, 3) := by decide +kernel
theorem dX13_findGates_85 : decode cX13_findGates 85 = .ok (.iload 4, 2) := by decide +kernel
theorem dX13_findGates_87 : decode cX13_findGates 87 = .ok (.iload_n 2, 1) := by decide +kernel
theorem dX13_findGates_88 : decode cX13_findGates 88 = .ok (.ishr, 1) := by decide +kernel
theorem dX13_findGates_89 : decode cX13_findGates 89 = .ok (.iconst 1, 1) := by decide +kernel
theorem dX13_findGates_90 : decode cX13_findGates 90 = .ok (.iand, 1) := by decide +kernel
theorem dX13_findGates_91 : decode cX13_findGates 91 = .ok (.ifCond .ne 35, 3) := by decide +kernel
theorem dX13_findGates_94 : decode cX13_findGates 94 = .ok (.iload 4, 2) := by decide +kernel
theorem dX13_findGates_96 : decode cX13_findGates 96 = .ok (.iload_n 3, 1) := by decide +kernel
theorem dX13_findGates_97 : decode cX13_findGates 97 = .ok (.ishr, 1) := by decide +kernel
theorem dX13_findGates_98 : decode cX13_findGates 98 = .ok (.iconst 1, 1) := by decide +kernel
theorem dX13_findGates_99 : decode cX13_findGates 99 = .ok (.iand, 1) := by decide +kernel
theorem dX13_findGates_100 : decode cX13_findGates 100 = .ok (.ifCond .ne 26, 3) := by decide +kernel
theorem dX13_findGates_103 : decode cX13_findGates 103 = .ok (.iload_n 1, 1) := by decide +kernel
theorem dX13_findGates_104 : decode cX13_findGates 104 = .ok (.iconst 3, 1) := by decide +kernel
theorem dX13_findGates_105 : decode cX13_findGates 105 = .ok (.iload 4, 2) := by decide +kernel
theorem dX13_findGates_107 : decode cX13_findGates 107 = .ok (.invokestatic 333, 3) := by decide +kernel
theorem dX13_findGates_110 : decode cX13_findGates 110 = .ok (.iadd, 1) := by decide +kernel
theorem dX13_findGates_111 : decode cX13_findGates 111 = .ok (.ishr, 1) := by decide +kernel
theorem dX13_findGates_112 : decode cX13_findGates 112 = .ok (.iconst 1, 1) := by decide +kernel
theorem dX13_findGates_113 : decode cX13_findGates 113 = .ok (.iand, 1) := by decide +kernel
theorem dX13_findGates_114 : decode cX13_findGates 114 = .ok (.iconst 1, 1) := by decide +kernel
theorem dX13_findGates_115 : decode cX13_findGates 115 = .ok (.if_icmp .ne 11, 3) := by decide +kernel
theorem dX13_findGates_118 : decode cX13_findGates 118 = .ok (.aload_n 0, 1) := by decide +kernel
theorem dX13_findGates_119 : decode cX13_findGates 119 = .ok (.iload_n 2, 1) := by decide +kernel
theorem dX13_findGates_120 : decode cX13_findGates 120 = .ok (.iload_n 3, 1) := by decide +kernel
theorem dX13_findGates_121 : decode cX13_findGates 121 = .ok (.iload 4, 2) := by decide +kernel
theorem dX13_findGates_123 : decode cX13_findGates 123 = .ok (.invokevirtual 336, 3) := by decide +kernel
theorem dX13_findGates_126 : decode cX13_findGates 126 = .ok (.iinc 4 1, 3) := by decide +kernel
theorem dX13_findGates_129 : decode cX13_findGates 129 = .ok (.goto (-51), 3) := by decide +kernel
theorem dX13_findGates_132 : decode cX13_findGates 132 = .ok (.iinc 3 1, 3) := by decide +kernel
theorem dX13_findGates_135 : decode cX13_findGates 135 = .ok (.goto (-65), 3) := by decide +kernel
theorem dX13_findGates_138 : decode cX13_findGates 138 = .ok (.iinc 2 1, 3) := by decide +kernel
theorem dX13_findGates_141 : decode cX13_findGates 141 = .ok (.goto (-80), 3) := by decide +kernel
theorem dX13_findGates_144 : decode cX13_findGates 144 = .ok (.return_, 1) := by decide +kernel
theorem dX13_rank_0 : decode cX13_rank 0 = .ok (.iconst 0, 1) := by decide +kernel
theorem dX13_rank_1 : decode cX13_rank 1 = .ok (.istore_n 1, 1) := by decide +kernel
theorem dX13_rank_2 : decode cX13_rank 2 = .ok (.iconst 0, 1) := by decide +kernel
theorem dX13_rank_3 : decode cX13_rank 3 = .ok (.istore_n 2, 1) := by decide +kernel
theorem dX13_rank_4 : decode cX13_rank 4 = .ok (.iload_n 2, 1) := by decide +kernel
theorem dX13_rank_5 : decode cX13_rank 5 = .ok (.bipush 8, 2) := by decide +kernel
theorem dX13_rank_7 : decode cX13_rank 7 = .ok (.if_icmp .ge 56, 3) := by decide +kernel
