theorem dX13_rank_10 : decode cX13_rank 10 = .ok (.iconst 0, 1) := by decide +kernel
theorem dX13_rank_11 : decode cX13_rank 11 = .ok (.istore_n 3, 1) := by decide +kernel
theorem dX13_rank_12 : decode cX13_rank 12 = .ok (.iload_n 2, 1) := by decide +kernel
theorem dX13_rank_13 : decode cX13_rank 13 = .ok (.iconst 1, 1) := by decide +kernel
theorem dX13_rank_14 : decode cX13_rank 14 = .ok (.iadd, 1) := by decide +kernel
theorem dX13_rank_15 : decode cX13_rank 15 = .ok (.istore 4, 2) := by decide +kernel
theorem dX13_rank_17 : decode cX13_rank 17 = .ok (.iload 4, 2) := by decide +kernel
theorem dX13_rank_19 : decode cX13_rank 19 = .ok (.bipush 8, 2) := by decide +kernel
theorem dX13_rank_21 : decode cX13_rank 21 = .ok (.if_icmp .ge 27, 3) := by decide +kernel
theorem dX13_rank_24 : decode cX13_rank 24 = .ok (.iload_n 3, 1) := by decide +kernel
theorem dX13_rank_25 : decode cX13_rank 25 = .ok (.aload_n 0, 1) := by decide +kernel
theorem dX13_rank_26 : decode cX13_rank 26 = .ok (.iload 4, 2) := by decide +kernel
theorem dX13_rank_28 : decode cX13_rank 28 = .ok (.iaload, 1) := by decide +kernel
theorem dX13_rank_29 : decode cX13_rank 29 = .ok (.aload_n 0, 1) := by decide +kernel
theorem dX13_rank_30 : decode cX13_rank 30 = .ok (.iload_n 2, 1) := by decide +kernel
theorem dX13_rank_31 : decode cX13_rank 31 = .ok (.iaload, 1) := by decide +kernel
theorem dX13_rank_32 : decode cX13_rank 32 = .ok (.if_icmp .ge 7, 3) := by decide +kernel
theorem dX13_rank_35 : decode cX13_rank 35 = .ok (.iconst 1, 1) := by decide +kernel
theorem dX13_rank_36 : decode cX13_rank 36 = .ok (.goto 4, 3) := by decide +kernel
theorem dX13_rank_39 : decode cX13_rank 39 = .ok (.iconst 0, 1) := by decide +kernel
theorem dX13_rank_40 : decode cX13_rank 40 = .ok (.iadd, 1) := by decide +kernel
theorem dX13_rank_41 : decode cX13_rank 41 = .ok (.istore_n 3, 1) := by decide +kernel
theorem dX13_rank_42 : decode cX13_rank 42 = .ok (.iinc 4 1, 3) := by decide +kernel
theorem dX13_rank_45 : decode cX13_rank 45 = .ok (.goto (-28), 3) := by decide +kernel
theorem dX13_rank_48 : decode cX13_rank 48 = .ok (.iload_n 1, 1) := by decide +kernel
theorem dX13_rank_49 : decode cX13_rank 49 = .ok (.bipush 8, 2) := by decide +kernel
theorem dX13_rank_51 : decode cX13_rank 51 = .ok (.iload_n 2, 1) := by decide +kernel
theorem dX13_rank_52 : decode cX13_rank 52 = .ok (.isub, 1) := by decide +kernel
theorem dX13_rank_53 : decode cX13_rank 53 = .ok (.imul, 1) := by decide +kernel
theorem dX13_rank_54 : decode cX13_rank 54 = .ok (.iload_n 3, 1) := by decide +kernel
theorem dX13_rank_55 : decode cX13_rank 55 = .ok (.iadd, 1) := by decide +kernel
theorem dX13_rank_56 : decode cX13_rank 56 = .ok (.istore_n 1, 1) := by decide +kernel
theorem dX13_rank_57 : decode cX13_rank 57 = .ok (.iinc 2 1, 3) := by decide +kernel
theorem dX13_rank_60 : decode cX13_rank 60 = .ok (.goto (-56), 3) := by decide +kernel
theorem dX13_rank_63 : decode cX13_rank 63 = .ok (.iload_n 1, 1) := by decide +kernel
theorem dX13_rank_64 : decode cX13_rank 64 = .ok (.ireturn, 1) := by decide +kernel
theorem dX13_unrank_0 : decode cX13_unrank 0 = .ok (.iload_n 1, 1) := by decide +kernel
theorem dX13_unrank_1 : decode cX13_unrank 1 = .ok (.istore_n 3, 1) := by decide +kernel
theorem dX13_unrank_2 : decode cX13_unrank 2 = .ok (.bipush 7, 2) := by decide +kernel
theorem dX13_unrank_4 : decode cX13_unrank 4 = .ok (.istore 4, 2) := by decide +kernel
theorem dX13_unrank_6 : decode cX13_unrank 6 = .ok (.iload 4, 2) := by decide +kernel
theorem dX13_unrank_8 : decode cX13_unrank 8 = .ok (.ifCond .lt 31, 3) := by decide +kernel
theorem dX13_unrank_11 : decode cX13_unrank 11 = .ok (.aload_n 0, 1) := by decide +kernel
theorem dX13_unrank_12 : decode cX13_unrank 12 = .ok (.getfield 170, 3) := by decide +kernel
theorem dX13_unrank_15 : decode cX13_unrank 15 = .ok (.iload 4, 2) := by decide +kernel
theorem dX13_unrank_17 : decode cX13_unrank 17 = .ok (.iload_n 3, 1) := by decide +kernel
theorem dX13_unrank_18 : decode cX13_unrank 18 = .ok (.bipush 8, 2) := by decide +kernel
theorem dX13_unrank_20 : decode cX13_unrank 20 = .ok (.iload 4, 2) := by decide +kernel
theorem dX13_unrank_22 : decode cX13_unrank 22 = .ok (.isub, 1) := by decide +kernel
theorem dX13_unrank_23 : decode cX13_unrank 23 = .ok (.irem, 1) := by decide +kernel
theorem dX13_unrank_24 : decode cX13_unrank 24 = .ok (.iastore, 1) := by decide +kernel
theorem dX13_unrank_25 : decode cX13_unrank 25 = .ok (.iload_n 3, 1) := by decide +kernel
theorem dX13_unrank_26 : decode cX13_unrank 26 = .ok (.bipush 8, 2) := by decide +kernel
theorem dX13_unrank_28 : decode cX13_unrank 28 = .ok (.iload 4, 2) := by decide +kernel
theorem dX13_unrank_30 : decode cX13_unrank 30 = .ok (.isub, 1) := by decide +kernel
theorem dX13_unrank_31 : decode cX13_unrank 31 = .ok (.idiv, 1) := by decide +kernel
theorem dX13_unrank_32 : decode cX13_unrank 32 = .ok (.istore_n 3, 1) := by decide +kernel
theorem dX13_unrank_33 : decode cX13_unrank 33 = .ok (.iinc 4 (-1), 3) := by decide +kernel
theorem dX13_unrank_36 : decode cX13_unrank 36 = .ok (.goto (-30), 3) := by decide +kernel
theorem dX13_unrank_39 : decode cX13_unrank 39 = .ok (.iconst 0, 1) := by decide +kernel
theorem dX13_unrank_40 : decode cX13_unrank 40 = .ok (.istore 4, 2) := by decide +kernel
theorem dX13_unrank_42 : decode cX13_unrank 42 = .ok (.iconst 0, 1) := by decide +kernel
theorem dX13_unrank_43 : decode cX13_unrank 43 = .ok (.istore 5, 2) := by decide +kernel
theorem dX13_unrank_45 : decode cX13_unrank 45 = .ok (.iload 5, 2) := by decide +kernel
theorem dX13_unrank_47 : decode cX13_unrank 47 = .ok (.bipush 8, 2) := by decide +kernel
theorem dX13_unrank_49 : decode cX13_unrank 49 = .ok (.if_icmp .ge 71, 3) := by decide +kernel
theorem dX13_unrank_52 : decode cX13_unrank 52 = .ok (.aload_n 0, 1) := by decide +kernel
theorem dX13_unrank_53 : decode cX13_unrank 53 = .ok (.getfield 170, 3) := by decide +kernel
theorem dX13_unrank_56 : decode cX13_unrank 56 = .ok (.iload 5, 2) := by decide +kernel
theorem dX13_unrank_58 : decode cX13_unrank 58 = .ok (.iaload, 1) := by decide +kernel
theorem dX13_unrank_59 : decode cX13_unrank 59 = .ok (.istore 6, 2) := by decide +kernel
theorem dX13_unrank_61 : decode cX13_unrank 61 = .ok (.iconst 0, 1) := by decide +kernel
theorem dX13_unrank_62 : decode cX13_unrank 62 = .ok (.istore 7, 2) := by decide +kernel
theorem dX13_unrank_64 : decode cX13_unrank 64 = .ok (.iload 4, 2) := by decide +kernel
theorem dX13_unrank_66 : decode cX13_unrank 66 = .ok (.iload 7, 2) := by decide +kernel
theorem dX13_unrank_68 : decode cX13_unrank 68 = .ok (.ishr, 1) := by decide +kernel
theorem dX13_unrank_69 : decode cX13_unrank 69 = .ok (.iconst 1, 1) := by decide +kernel
theorem dX13_unrank_70 : decode cX13_unrank 70 = .ok (.iand, 1) := by decide +kernel
theorem dX13_unrank_71 : decode cX13_unrank 71 = .ok (.iconst 1, 1) := by decide +kernel
theorem dX13_unrank_72 : decode cX13_unrank 72 = .ok (.if_icmp .eq 8, 3) := by decide +kernel
theorem dX13_unrank_75 : decode cX13_unrank 75 = .ok (.iload 6, 2) := by decide +kernel
theorem dX13_unrank_77 : decode cX13_unrank 77 = .ok (.ifCond .le 22, 3) := by decide +kernel
theorem dX13_unrank_80 : decode cX13_unrank 80 = .ok (.iload 4, 2) := by decide +kernel
theorem dX13_unrank_82 : decode cX13_unrank 82 = .ok (.iload 7, 2) := by decide +kernel
theorem dX13_unrank_84 : decode cX13_unrank 84 = .ok (.ishr, 1) := by decide +kernel
theorem dX13_unrank_85 : decode cX13_unrank 85 = .ok (.iconst 1, 1) := by decide +kernel
theorem dX13_unrank_86 : decode cX13_unrank 86 = .ok (.iand, 1) := by decide +kernel
theorem dX13_unrank_87 : decode cX13_unrank 87 = .ok (.ifCond .ne 6, 3) := by decide +kernel
theorem dX13_unrank_90 : decode cX13_unrank 90 = .ok (.iinc 6 (-1), 3) := by decide +kernel
theorem dX13_unrank_93 : decode cX13_unrank 93 = .ok (.iinc 7 1, 3) := by decide +kernel
theorem dX13_unrank_96 : decode cX13_unrank 96 = .ok (.goto (-32), 3) := by decide +kernel
theorem dX13_unrank_99 : decode cX13_unrank 99 = .ok (.aload_n 2, 1) := by decide +kernel
theorem dX13_unrank_100 : decode cX13_unrank 100 = .ok (.iload 5, 2) := by decide +kernel
theorem dX13_unrank_102 : decode cX13_unrank 102 = .ok (.iload 7, 2) := by decide +kernel
theorem dX13_unrank_104 : decode cX13_unrank 104 = .ok (.iastore, 1) := by decide +kernel
theorem dX13_unrank_105 : decode cX13_unrank 105 = .ok (.iload 4, 2) := by decide +kernel
theorem dX13_unrank_107 : decode cX13_unrank 107 = .ok (.iconst 1, 1) := by decide +kernel
theorem dX13_unrank_108 : decode cX13_unrank 108 = .ok (.iload 7, 2) := by decide +kernel
theorem dX13_unrank_110 : decode cX13_unrank 110 = .ok (.ishl, 1) := by decide +kernel
theorem dX13_unrank_111 : decode cX13_unrank 111 = .ok (.ior, 1) := by decide +kernel
theorem dX13_unrank_112 : decode cX13_unrank 112 = .ok (.istore 4, 2) := by decide +kernel
theorem dX13_unrank_114 : decode cX13_unrank 114 = .ok (.iinc 5 1, 3) := by decide +kernel
theorem dX13_unrank_117 : decode cX13_unrank 117 = .ok (.goto (-72), 3) := by decide +kernel
theorem dX13_unrank_120 : decode cX13_unrank 120 = .ok (.return_, 1) := by decide +kernel
theorem dX13_without_0 : decode cX13_without 0 = .ok (.iconst 0, 1) := by decide +kernel
theorem dX13_without_1 : decode cX13_without 1 = .ok (.istore_n 3, 1) := by decide +kernel
theorem dX13_without_2 : decode cX13_without 2 = .ok (.iload_n 3, 1) := by decide +kernel
theorem dX13_without_3 : decode cX13_without 3 = .ok (.bipush 8, 2) := by decide +kernel
theorem dX13_without_5 : decode cX13_without 5 = .ok (.if_icmp .ge 39, 3) := by decide +kernel
theorem dX13_without_8 : decode cX13_without 8 = .ok (.aload_n 0, 1) := by decide +kernel
theorem dX13_without_9 : decode cX13_without 9 = .ok (.getfield 155, 3) := by decide +kernel
theorem dX13_without_12 : decode cX13_without 12 = .ok (.iload_n 3, 1) := by decide +kernel
theorem dX13_without_13 : decode cX13_without 13 = .ok (.aload_n 1, 1) := by decide +kernel
theorem dX13_without_14 : decode cX13_without 14 = .ok (.aload_n 0, 1) := by decide +kernel
theorem dX13_without_15 : decode cX13_without 15 = .ok (.getfield 158, 3) := by decide +kernel
theorem dX13_without_18 : decode cX13_without 18 = .ok (.iload_n 2, 1) := by decide +kernel
theorem dX13_without_19 : decode cX13_without 19 = .ok (.iaload, 1) := by decide +kernel
theorem dX13_without_20 : decode cX13_without 20 = .ok (.aload_n 0, 1) := by decide +kernel
theorem dX13_without_21 : decode cX13_without 21 = .ok (.getfield 161, 3) := by decide +kernel
theorem dX13_without_24 : decode cX13_without 24 = .ok (.iload_n 2, 1) := by decide +kernel
theorem dX13_without_25 : decode cX13_without 25 = .ok (.iaload, 1) := by decide +kernel
theorem dX13_without_26 : decode cX13_without 26 = .ok (.aload_n 0, 1) := by decide +kernel
theorem dX13_without_27 : decode cX13_without 27 = .ok (.getfield 164, 3) := by decide +kernel
theorem dX13_without_30 : decode cX13_without 30 = .ok (.iload_n 2, 1) := by decide +kernel
theorem dX13_without_31 : decode cX13_without 31 = .ok (.iaload, 1) := by decide +kernel
theorem dX13_without_32 : decode cX13_without 32 = .ok (.iload_n 3, 1) := by decide +kernel
theorem dX13_without_33 : decode cX13_without 33 = .ok (.invokestatic 306, 3) := by decide +kernel
theorem dX13_without_36 : decode cX13_without 36 = .ok (.iaload, 1) := by decide +kernel
theorem dX13_without_37 : decode cX13_without 37 = .ok (.iastore, 1) := by decide +kernel
theorem dX13_without_38 : decode cX13_without 38 = .ok (.iinc 3 1, 3) := by decide +kernel
theorem dX13_without_41 : decode cX13_without 41 = .ok (.goto (-39), 3) := by decide +kernel
theorem dX13_without_44 : decode cX13_without 44 = .ok (.aload_n 0, 1) := by decide +kernel
theorem dX13_without_45 : decode cX13_without 45 = .ok (.getfield 155, 3) := by decide +kernel
theorem dX13_without_48 : decode cX13_without 48 = .ok (.invokestatic 339, 3) := by decide +kernel
theorem dX13_without_51 : decode cX13_without 51 = .ok (.ireturn, 1) := by decide +kernel
theorem dX13_findNeeds_0 : decode cX13_findNeeds 0 = .ok (.aload_n 0, 1) := by decide +kernel
theorem dX13_findNeeds_1 : decode cX13_findNeeds 1 = .ok (.iload_n 1, 1) := by decide +kernel
theorem dX13_findNeeds_2 : decode cX13_findNeeds 2 = .ok (.invokevirtual 343, 3) := by decide +kernel
theorem dX13_findNeeds_5 : decode cX13_findNeeds 5 = .ok (.aload_n 0, 1) := by decide +kernel
theorem dX13_findNeeds_6 : decode cX13_findNeeds 6 = .ok (.getfield 167, 3) := by decide +kernel
theorem dX13_findNeeds_9 : decode cX13_findNeeds 9 = .ok (.iload_n 1, 1) := by decide +kernel
theorem dX13_findNeeds_10 : decode cX13_findNeeds 10 = .ok (.if_icmp .ne 4, 3) := by decide +kernel
theorem dX13_findNeeds_13 : decode cX13_findNeeds 13 = .ok (.return_, 1) := by decide +kernel
theorem dX13_findNeeds_14 : decode cX13_findNeeds 14 = .ok (.aload_n 0, 1) := by decide +kernel
theorem dX13_findNeeds_15 : decode cX13_findNeeds 15 = .ok (.iload_n 1, 1) := by decide +kernel
theorem dX13_findNeeds_16 : decode cX13_findNeeds 16 = .ok (.putfield 167, 3) := by decide +kernel
theorem dX13_findNeeds_19 : decode cX13_findNeeds 19 = .ok (.iconst 0, 1) := by decide +kernel
theorem dX13_findNeeds_20 : decode cX13_findNeeds 20 = .ok (.istore_n 2, 1) := by decide +kernel
theorem dX13_findNeeds_21 : decode cX13_findNeeds 21 = .ok (.iload_n 2, 1) := by decide +kernel
theorem dX13_findNeeds_22 : decode cX13_findNeeds 22 = .ok (.ldc 145, 2) := by decide +kernel
theorem dX13_findNeeds_24 : decode cX13_findNeeds 24 = .ok (.if_icmp .ge 16, 3) := by decide +kernel
theorem dX13_findNeeds_27 : decode cX13_findNeeds 27 = .ok (.aload_n 0, 1) := by decide +kernel
theorem dX13_findNeeds_28 : decode cX13_findNeeds 28 = .ok (.getfield 146, 3) := by decide +kernel
theorem dX13_findNeeds_31 : decode cX13_findNeeds 31 = .ok (.iload_n 2, 1) := by decide +kernel
theorem dX13_findNeeds_32 : decode cX13_findNeeds 32 = .ok (.iconst (-1), 1) := by decide +kernel
theorem dX13_findNeeds_33 : decode cX13_findNeeds 33 = .ok (.bastore, 1) := by decide +kernel
theorem dX13_findNeeds_34 : decode cX13_findNeeds 34 = .ok (.iinc 2 1, 3) := by decide +kernel
theorem dX13_findNeeds_37 : decode cX13_findNeeds 37 = .ok (.goto (-16), 3) := by decide +kernel
theorem dX13_findNeeds_40 : decode cX13_findNeeds 40 = .ok (.aload_n 0, 1) := by decide +kernel
theorem dX13_findNeeds_41 : decode cX13_findNeeds 41 = .ok (.getfield 146, 3) := by decide +kernel
theorem dX13_findNeeds_44 : decode cX13_findNeeds 44 = .ok (.iconst 0, 1) := by decide +kernel
theorem dX13_findNeeds_45 : decode cX13_findNeeds 45 = .ok (.iconst 0, 1) := by decide +kernel
theorem dX13_findNeeds_46 : decode cX13_findNeeds 46 = .ok (.bastore, 1) := by decide +kernel
theorem dX13_findNeeds_47 : decode cX13_findNeeds 47 = .ok (.aload_n 0, 1) := by decide +kernel
theorem dX13_findNeeds_48 : decode cX13_findNeeds 48 = .ok (.getfield 149, 3) := by decide +kernel
theorem dX13_findNeeds_51 : decode cX13_findNeeds 51 = .ok (.iconst 0, 1) := by decide +kernel
theorem dX13_findNeeds_52 : decode cX13_findNeeds 52 = .ok (.iconst 0, 1) := by decide +kernel
theorem dX13_findNeeds_53 : decode cX13_findNeeds 53 = .ok (.iastore, 1) := by decide +kernel
theorem dX13_findNeeds_54 : decode cX13_findNeeds 54 = .ok (.iconst 1, 1) := by decide +kernel
theorem dX13_findNeeds_55 : decode cX13_findNeeds 55 = .ok (.istore_n 2, 1) := by decide +kernel
theorem dX13_findNeeds_56 : decode cX13_findNeeds 56 = .ok (.iconst 0, 1) := by decide +kernel
theorem dX13_findNeeds_57 : decode cX13_findNeeds 57 = .ok (.istore_n 3, 1) := by decide +kernel
theorem dX13_findNeeds_58 : decode cX13_findNeeds 58 = .ok (.iload_n 3, 1) := by decide +kernel
theorem dX13_findNeeds_59 : decode cX13_findNeeds 59 = .ok (.iload_n 2, 1) := by decide +kernel
theorem dX13_findNeeds_60 : decode cX13_findNeeds 60 = .ok (.if_icmp .ge 99, 3) := by decide +kernel
theorem dX13_findNeeds_63 : decode cX13_findNeeds 63 = .ok (.aload_n 0, 1) := by decide +kernel
theorem dX13_findNeeds_64 : decode cX13_findNeeds 64 = .ok (.getfield 149, 3) := by decide +kernel
theorem dX13_findNeeds_67 : decode cX13_findNeeds 67 = .ok (.iload_n 3, 1) := by decide +kernel
theorem dX13_findNeeds_68 : decode cX13_findNeeds 68 = .ok (.iaload, 1) := by decide +kernel
theorem dX13_findNeeds_69 : decode cX13_findNeeds 69 = .ok (.istore 4, 2) := by decide +kernel
theorem dX13_findNeeds_71 : decode cX13_findNeeds 71 = .ok (.aload_n 0, 1) := by decide +kernel
theorem dX13_findNeeds_72 : decode cX13_findNeeds 72 = .ok (.iload 4, 2) := by decide +kernel
theorem dX13_findNeeds_74 : decode cX13_findNeeds 74 = .ok (.aload_n 0, 1) := by decide +kernel
theorem dX13_findNeeds_75 : decode cX13_findNeeds 75 = .ok (.getfield 152, 3) := by decide +kernel
theorem dX13_findNeeds_78 : decode cX13_findNeeds 78 = .ok (.invokevirtual 346, 3) := by decide +kernel
theorem dX13_findNeeds_81 : decode cX13_findNeeds 81 = .ok (.iconst 0, 1) := by decide +kernel
theorem dX13_findNeeds_82 : decode cX13_findNeeds 82 = .ok (.istore 5, 2) := by decide +kernel
theorem dX13_findNeeds_84 : decode cX13_findNeeds 84 = .ok (.iload 5, 2) := by decide +kernel
theorem dX13_findNeeds_86 : decode cX13_findNeeds 86 = .ok (.aload_n 0, 1) := by decide +kernel
theorem dX13_findNeeds_87 : decode cX13_findNeeds 87 = .ok (.getfield 330, 3) := by decide +kernel
theorem dX13_findNeeds_90 : decode cX13_findNeeds 90 = .ok (.if_icmp .ge 63, 3) := by decide +kernel
theorem dX13_findNeeds_93 : decode cX13_findNeeds 93 = .ok (.aload_n 0, 1) := by decide +kernel
theorem dX13_findNeeds_94 : decode cX13_findNeeds 94 = .ok (.aload_n 0, 1) := by decide +kernel
theorem dX13_findNeeds_95 : decode cX13_findNeeds 95 = .ok (.getfield 152, 3) := by decide +kernel
theorem dX13_findNeeds_98 : decode cX13_findNeeds 98 = .ok (.iload 5, 2) := by decide +kernel
theorem dX13_findNeeds_100 : decode cX13_findNeeds 100 = .ok (.invokevirtual 350, 3) := by decide +kernel
theorem dX13_findNeeds_103 : decode cX13_findNeeds 103 = .ok (.istore 6, 2) := by decide +kernel
theorem dX13_findNeeds_105 : decode cX13_findNeeds 105 = .ok (.aload_n 0, 1) := by decide +kernel
theorem dX13_findNeeds_106 : decode cX13_findNeeds 106 = .ok (.getfield 146, 3) := by decide +kernel
theorem dX13_findNeeds_109 : decode cX13_findNeeds 109 = .ok (.iload 6, 2) := by decide +kernel
theorem dX13_findNeeds_111 : decode cX13_findNeeds 111 = .ok (.baload, 1) := by decide +kernel
theorem dX13_findNeeds_112 : decode cX13_findNeeds 112 = .ok (.iconst (-1), 1) := by decide +kernel
theorem dX13_findNeeds_113 : decode cX13_findNeeds 113 = .ok (.if_icmp .eq 6, 3) := by decide +kernel
theorem dX13_findNeeds_116 : decode cX13_findNeeds 116 = .ok (.goto 31, 3) := by decide +kernel
theorem dX13_findNeeds_119 : decode cX13_findNeeds 119 = .ok (.aload_n 0, 1) := by decide +kernel
theorem dX13_findNeeds_120 : decode cX13_findNeeds 120 = .ok (.getfield 146, 3) := by decide +kernel
theorem dX13_findNeeds_123 : decode cX13_findNeeds 123 = .ok (.iload 6, 2) := by decide +kernel
theorem dX13_findNeeds_125 : decode cX13_findNeeds 125 = .ok (.aload_n 0, 1) := by decide +kernel
theorem dX13_findNeeds_126 : decode cX13_findNeeds 126 = .ok (.getfield 146, 3) := by decide +kernel
theorem dX13_findNeeds_129 : decode cX13_findNeeds 129 = .ok (.iload 4, 2) := by decide +kernel
theorem dX13_findNeeds_131 : decode cX13_findNeeds 131 = .ok (.baload, 1) := by decide +kernel
theorem dX13_findNeeds_132 : decode cX13_findNeeds 132 = .ok (.iconst 1, 1) := by decide +kernel
theorem dX13_findNeeds_133 : decode cX13_findNeeds 133 = .ok (.iadd, 1) := by decide +kernel
theorem dX13_findNeeds_134 : decode cX13_findNeeds 134 = .ok (.i2b, 1) := by decide +kernel
theorem dX13_findNeeds_135 : decode cX13_findNeeds 135 = .ok (.bastore, 1) := by decide +kernel
theorem dX13_findNeeds_136 : decode cX13_findNeeds 136 = .ok (.aload_n 0, 1) := by decide +kernel
theorem dX13_findNeeds_137 : decode cX13_findNeeds 137 = .ok (.getfield 149, 3) := by decide +kernel
theorem dX13_findNeeds_140 : decode cX13_findNeeds 140 = .ok (.iload_n 2, 1) := by decide +kernel
theorem dX13_findNeeds_141 : decode cX13_findNeeds 141 = .ok (.iload 6, 2) := by decide +kernel
theorem dX13_findNeeds_143 : decode cX13_findNeeds 143 = .ok (.iastore, 1) := by decide +kernel
theorem dX13_findNeeds_144 : decode cX13_findNeeds 144 = .ok (.iinc 2 1, 3) := by decide +kernel
theorem dX13_findNeeds_147 : decode cX13_findNeeds 147 = .ok (.iinc 5 1, 3) := by decide +kernel
theorem dX13_findNeeds_150 : decode cX13_findNeeds 150 = .ok (.goto (-66), 3) := by decide +kernel
theorem dX13_findNeeds_153 : decode cX13_findNeeds 153 = .ok (.iinc 3 1, 3) := by decide +kernel
theorem dX13_findNeeds_156 : decode cX13_findNeeds 156 = .ok (.goto (-98), 3) := by decide +kernel
theorem dX13_findNeeds_159 : decode cX13_findNeeds 159 = .ok (.return_, 1) := by decide +kernel
theorem dX13_least_0 : decode cX13_least 0 = .ok (.iload_n 1, 1) := by decide +kernel
theorem dX13_least_1 : decode cX13_least 1 = .ok (.invokestatic 290, 3) := by decide +kernel
theorem dX13_least_4 : decode cX13_least 4 = .ok (.ifCond .eq 22, 3) := by decide +kernel
theorem dX13_least_7 : decode cX13_least 7 = .ok (.iload_n 2, 1) := by decide +kernel
theorem dX13_least_8 : decode cX13_least 8 = .ok (.i2l, 1) := by decide +kernel
theorem dX13_least_9 : decode cX13_least 9 = .ok (.lconst 0, 1) := by decide +kernel
theorem dX13_least_10 : decode cX13_least 10 = .ok (.ldc2_w 354, 3) := by decide +kernel
theorem dX13_least_13 : decode cX13_least 13 = .ok (.invokestatic 64, 3) := by decide +kernel
theorem dX13_least_16 : decode cX13_least 16 = .ok (.ifCond .eq 10, 3) := by decide +kernel
theorem dX13_least_19 : decode cX13_least 19 = .ok (.iload_n 3, 1) := by decide +kernel
theorem dX13_least_20 : decode cX13_least 20 = .ok (.invokestatic 290, 3) := by decide +kernel
theorem dX13_least_23 : decode cX13_least 23 = .ok (.ifCond .ne 6, 3) := by decide +kernel
theorem dX13_least_26 : decode cX13_least 26 = .ok (.bipush (-2), 2) := by decide +kernel
theorem dX13_least_28 : decode cX13_least 28 = .ok (.ireturn, 1) := by decide +kernel
theorem dX13_least_29 : decode cX13_least 29 = .ok (.aload_n 0, 1) := by decide +kernel
theorem dX13_least_30 : decode cX13_least 30 = .ok (.getfield 99, 3) := by decide +kernel
theorem dX13_least_33 : decode cX13_least 33 = .ok (.iload_n 1, 1) := by decide +kernel
theorem dX13_least_34 : decode cX13_least 34 = .ok (.iaload, 1) := by decide +kernel
theorem dX13_least_35 : decode cX13_least 35 = .ok (.iconst 3, 1) := by decide +kernel
theorem dX13_least_36 : decode cX13_least 36 = .ok (.if_icmp .eq 6, 3) := by decide +kernel
theorem dX13_least_39 : decode cX13_least 39 = .ok (.bipush (-4), 2) := by decide +kernel
theorem dX13_least_41 : decode cX13_least 41 = .ok (.ireturn, 1) := by decide +kernel
theorem dX13_least_42 : decode cX13_least 42 = .ok (.aload_n 0, 1) := by decide +kernel
theorem dX13_least_43 : decode cX13_least 43 = .ok (.iload_n 2, 1) := by decide +kernel
theorem dX13_least_44 : decode cX13_least 44 = .ok (.invokevirtual 356, 3) := by decide +kernel
theorem dX13_least_47 : decode cX13_least 47 = .ok (.iconst 0, 1) := by decide +kernel
theorem dX13_least_48 : decode cX13_least 48 = .ok (.istore 4, 2) := by decide +kernel
theorem dX13_least_50 : decode cX13_least 50 = .ok (.iload 4, 2) := by decide +kernel
theorem dX13_least_52 : decode cX13_least 52 = .ok (.bipush 8, 2) := by decide +kernel
theorem dX13_least_54 : decode cX13_least 54 = .ok (.if_icmp .ge 25, 3) := by decide +kernel
theorem dX13_least_57 : decode cX13_least 57 = .ok (.aload_n 0, 1) := by decide +kernel
theorem dX13_least_58 : decode cX13_least 58 = .ok (.getfield 152, 3) := by decide +kernel
theorem dX13_least_61 : decode cX13_least 61 = .ok (.iload 4, 2) := by decide +kernel
theorem dX13_least_63 : decode cX13_least 63 = .ok (.aload_n 0, 1) := by decide +kernel
theorem dX13_least_64 : decode cX13_least 64 = .ok (.iload_n 1, 1) := by decide +kernel
theorem dX13_least_65 : decode cX13_least 65 = .ok (.iload 4, 2) := by decide +kernel
theorem dX13_least_67 : decode cX13_least 67 = .ok (.iconst 0, 1) := by decide +kernel
theorem dX13_least_68 : decode cX13_least 68 = .ok (.iconst (-1), 1) := by decide +kernel
theorem dX13_least_69 : decode cX13_least 69 = .ok (.invokevirtual 314, 3) := by decide +kernel
theorem dX13_least_72 : decode cX13_least 72 = .ok (.iastore, 1) := by decide +kernel
theorem dX13_least_73 : decode cX13_least 73 = .ok (.iinc 4 1, 3) := by decide +kernel
theorem dX13_least_76 : decode cX13_least 76 = .ok (.goto (-26), 3) := by decide +kernel
theorem dX13_least_79 : decode cX13_least 79 = .ok (.aload_n 0, 1) := by decide +kernel
theorem dX13_least_80 : decode cX13_least 80 = .ok (.getfield 152, 3) := by decide +kernel
theorem dX13_least_83 : decode cX13_least 83 = .ok (.invokestatic 339, 3) := by decide +kernel
theorem dX13_least_86 : decode cX13_least 86 = .ok (.istore 4, 2) := by decide +kernel
theorem dX13_least_88 : decode cX13_least 88 = .ok (.aload_n 0, 1) := by decide +kernel
theorem dX13_least_89 : decode cX13_least 89 = .ok (.getfield 146, 3) := by decide +kernel
theorem dX13_least_92 : decode cX13_least 92 = .ok (.iload 4, 2) := by decide +kernel
theorem dX13_least_94 : decode cX13_least 94 = .ok (.baload, 1) := by decide +kernel
theorem dX13_least_95 : decode cX13_least 95 = .ok (.iconst (-1), 1) := by decide +kernel
theorem dX13_least_96 : decode cX13_least 96 = .ok (.if_icmp .ne 5, 3) := by decide +kernel
theorem dX13_least_99 : decode cX13_least 99 = .ok (.iconst (-1), 1) := by decide +kernel
theorem dX13_least_100 : decode cX13_least 100 = .ok (.ireturn, 1) := by decide +kernel
theorem dX13_least_101 : decode cX13_least 101 = .ok (.aload_n 0, 1) := by decide +kernel
theorem dX13_least_102 : decode cX13_least 102 = .ok (.getfield 99, 3) := by decide +kernel
theorem dX13_least_105 : decode cX13_least 105 = .ok (.bipush 6, 2) := by decide +kernel
theorem dX13_least_107 : decode cX13_least 107 = .ok (.iconst 3, 1) := by decide +kernel
theorem dX13_least_108 : decode cX13_least 108 = .ok (.iastore, 1) := by decide +kernel
theorem dX13_least_109 : decode cX13_least 109 = .ok (.aload_n 0, 1) := by decide +kernel
theorem dX13_least_110 : decode cX13_least 110 = .ok (.getfield 86, 3) := by decide +kernel
theorem dX13_least_113 : decode cX13_least 113 = .ok (.bipush 6, 2) := by decide +kernel
theorem dX13_least_115 : decode cX13_least 115 = .ok (.iconst 0, 1) := by decide +kernel
theorem dX13_least_116 : decode cX13_least 116 = .ok (.iastore, 1) := by decide +kernel
theorem dX13_least_117 : decode cX13_least 117 = .ok (.aload_n 0, 1) := by decide +kernel
theorem dX13_least_118 : decode cX13_least 118 = .ok (.getfield 146, 3) := by decide +kernel
theorem dX13_least_121 : decode cX13_least 121 = .ok (.iload 4, 2) := by decide +kernel
theorem dX13_least_123 : decode cX13_least 123 = .ok (.baload, 1) := by decide +kernel
theorem dX13_least_124 : decode cX13_least 124 = .ok (.istore 5, 2) := by decide +kernel
theorem dX13_least_126 : decode cX13_least 126 = .ok (.aload_n 0, 1) := by decide +kernel
theorem dX13_least_127 : decode cX13_least 127 = .ok (.getfield 146, 3) := by decide +kernel
theorem dX13_least_130 : decode cX13_least 130 = .ok (.iload 4, 2) := by decide +kernel
theorem dX13_least_132 : decode cX13_least 132 = .ok (.baload, 1) := by decide +kernel
theorem dX13_least_133 : decode cX13_least 133 = .ok (.ifCond .le 89, 3) := by decide +kernel
theorem dX13_least_136 : decode cX13_least 136 = .ok (.aload_n 0, 1) := by decide +kernel
theorem dX13_least_137 : decode cX13_least 137 = .ok (.iload 4, 2) := by decide +kernel
theorem dX13_least_139 : decode cX13_least 139 = .ok (.aload_n 0, 1) := by decide +kernel
theorem dX13_least_140 : decode cX13_least 140 = .ok (.getfield 152, 3) := by decide +kernel
theorem dX13_least_143 : decode cX13_least 143 = .ok (.invokevirtual 346, 3) := by decide +kernel
theorem dX13_least_146 : decode cX13_least 146 = .ok (.iconst 0, 1) := by decide +kernel
theorem dX13_least_147 : decode cX13_least 147 = .ok (.istore 6, 2) := by decide +kernel
theorem dX13_least_149 : decode cX13_least 149 = .ok (.aload_n 0, 1) := by decide +kernel
theorem dX13_least_150 : decode cX13_least 150 = .ok (.getfield 146, 3) := by decide +kernel
theorem dX13_least_153 : decode cX13_least 153 = .ok (.aload_n 0, 1) := by decide +kernel
theorem dX13_least_154 : decode cX13_least 154 = .ok (.aload_n 0, 1) := by decide +kernel
theorem dX13_least_155 : decode cX13_least 155 = .ok (.getfield 152, 3) := by decide +kernel
theorem dX13_least_158 : decode cX13_least 158 = .ok (.iload 6, 2) := by decide +kernel
theorem dX13_least_160 : decode cX13_least 160 = .ok (.invokevirtual 350, 3) := by decide +kernel
theorem dX13_least_163 : decode cX13_least 163 = .ok (.baload, 1) := by decide +kernel
theorem dX13_least_164 : decode cX13_least 164 = .ok (.aload_n 0, 1) := by decide +kernel
theorem dX13_least_165 : decode cX13_least 165 = .ok (.getfield 146, 3) := by decide +kernel
theorem dX13_least_168 : decode cX13_least 168 = .ok (.iload 4, 2) := by decide +kernel
theorem dX13_least_170 : decode cX13_least 170 = .ok (.baload, 1) := by decide +kernel
theorem dX13_least_171 : decode cX13_least 171 = .ok (.iconst 1, 1) := by decide +kernel
theorem dX13_least_172 : decode cX13_least 172 = .ok (.isub, 1) := by decide +kernel
theorem dX13_least_173 : decode cX13_least 173 = .ok (.if_icmp .eq 9, 3) := by decide +kernel
theorem dX13_least_176 : decode cX13_least 176 = .ok (.iinc 6 1, 3) := by decide +kernel
theorem dX13_least_179 : decode cX13_least 179 = .ok (.goto (-30), 3) := by decide +kernel
theorem dX13_least_182 : decode cX13_least 182 = .ok (.aload_n 0, 1) := by decide +kernel
theorem dX13_least_183 : decode cX13_least 183 = .ok (.aload_n 0, 1) := by decide +kernel
theorem dX13_least_184 : decode cX13_least 184 = .ok (.getfield 158, 3) := by decide +kernel
theorem dX13_least_187 : decode cX13_least 187 = .ok (.iload 6, 2) := by decide +kernel
theorem dX13_least_189 : decode cX13_least 189 = .ok (.iaload, 1) := by decide +kernel
theorem dX13_least_190 : decode cX13_least 190 = .ok (.aload_n 0, 1) := by decide +kernel
theorem dX13_least_191 : decode cX13_least 191 = .ok (.getfield 161, 3) := by decide +kernel
theorem dX13_least_194 : decode cX13_least 194 = .ok (.iload 6, 2) := by decide +kernel
theorem dX13_least_196 : decode cX13_least 196 = .ok (.iaload, 1) := by decide +kernel
theorem dX13_least_197 : decode cX13_least 197 = .ok (.aload_n 0, 1) := by decide +kernel
theorem dX13_least_198 : decode cX13_least 198 = .ok (.getfield 164, 3) := by decide +kernel
theorem dX13_least_201 : decode cX13_least 201 = .ok (.iload 6, 2) := by decide +kernel
theorem dX13_least_203 : decode cX13_least 203 = .ok (.iaload, 1) := by decide +kernel
theorem dX13_least_204 : decode cX13_least 204 = .ok (.invokevirtual 115, 3) := by decide +kernel
theorem dX13_least_207 : decode cX13_least 207 = .ok (.aload_n 0, 1) := by decide +kernel
theorem dX13_least_208 : decode cX13_least 208 = .ok (.aload_n 0, 1) := by decide +kernel
theorem dX13_least_209 : decode cX13_least 209 = .ok (.getfield 152, 3) := by decide +kernel
theorem dX13_least_212 : decode cX13_least 212 = .ok (.iload 6, 2) := by decide +kernel
theorem dX13_least_214 : decode cX13_least 214 = .ok (.invokevirtual 350, 3) := by decide +kernel
theorem dX13_least_217 : decode cX13_least 217 = .ok (.istore 4, 2) := by decide +kernel
theorem dX13_least_219 : decode cX13_least 219 = .ok (.goto (-93), 3) := by decide +kernel
theorem dX13_least_222 : decode cX13_least 222 = .ok (.aload_n 0, 1) := by decide +kernel
theorem dX13_least_223 : decode cX13_least 223 = .ok (.bipush 6, 2) := by decide +kernel
theorem dX13_least_225 : decode cX13_least 225 = .ok (.iload_n 3, 1) := by decide +kernel
theorem dX13_least_226 : decode cX13_least 226 = .ok (.invokevirtual 299, 3) := by decide +kernel
theorem dX13_least_229 : decode cX13_least 229 = .ok (.iload 5, 2) := by decide +kernel
theorem dX13_least_231 : decode cX13_least 231 = .ok (.ireturn, 1) := by decide +kernel
theorem dX13_lays_0 : decode cX13_lays 0 = .ok (.aload_n 0, 1) := by decide +kernel
theorem dX13_lays_1 : decode cX13_lays 1 = .ok (.getfield 359, 3) := by decide +kernel
theorem dX13_lays_4 : decode cX13_lays 4 = .ok (.bipush 40, 2) := by decide +kernel
theorem dX13_lays_6 : decode cX13_lays 6 = .ok (.if_icmp .ne 5, 3) := by decide +kernel
theorem dX13_lays_9 : decode cX13_lays 9 = .ok (.iconst 0, 1) := by decide +kernel
theorem dX13_lays_10 : decode cX13_lays 10 = .ok (.ireturn, 1) := by decide +kernel
theorem dX13_lays_11 : decode cX13_lays 11 = .ok (.aload_n 0, 1) := by decide +kernel
theorem dX13_lays_12 : decode cX13_lays 12 = .ok (.getfield 90, 3) := by decide +kernel
theorem dX13_lays_15 : decode cX13_lays 15 = .ok (.sipush 279, 3) := by decide +kernel
theorem dX13_lays_18 : decode cX13_lays 18 = .ok (.aload_n 0, 1) := by decide +kernel
theorem dX13_lays_19 : decode cX13_lays 19 = .ok (.getfield 359, 3) := by decide +kernel
theorem dX13_lays_22 : decode cX13_lays 22 = .ok (.isub, 1) := by decide +kernel
theorem dX13_lays_23 : decode cX13_lays 23 = .ok (.iload_n 1, 1) := by decide +kernel
theorem dX13_lays_24 : decode cX13_lays 24 = .ok (.iastore, 1) := by decide +kernel
theorem dX13_lays_25 : decode cX13_lays 25 = .ok (.aload_n 0, 1) := by decide +kernel
theorem dX13_lays_26 : decode cX13_lays 26 = .ok (.getfield 96, 3) := by decide +kernel
theorem dX13_lays_29 : decode cX13_lays 29 = .ok (.sipush 279, 3) := by decide +kernel
theorem dX13_lays_32 : decode cX13_lays 32 = .ok (.aload_n 0, 1) := by decide +kernel
theorem dX13_lays_33 : decode cX13_lays 33 = .ok (.getfield 359, 3) := by decide +kernel
theorem dX13_lays_36 : decode cX13_lays 36 = .ok (.isub, 1) := by decide +kernel
theorem dX13_lays_37 : decode cX13_lays 37 = .ok (.iload_n 2, 1) := by decide +kernel
theorem dX13_lays_38 : decode cX13_lays 38 = .ok (.iastore, 1) := by decide +kernel
theorem dX13_lays_39 : decode cX13_lays 39 = .ok (.aload_n 0, 1) := by decide +kernel
theorem dX13_lays_40 : decode cX13_lays 40 = .ok (.dup, 1) := by decide +kernel
theorem dX13_lays_41 : decode cX13_lays 41 = .ok (.getfield 359, 3) := by decide +kernel
theorem dX13_lays_44 : decode cX13_lays 44 = .ok (.iconst 1, 1) := by decide +kernel
theorem dX13_lays_45 : decode cX13_lays 45 = .ok (.iadd, 1) := by decide +kernel
theorem dX13_lays_46 : decode cX13_lays 46 = .ok (.putfield 359, 3) := by decide +kernel
theorem dX13_lays_49 : decode cX13_lays 49 = .ok (.iconst 0, 1) := by decide +kernel
theorem dX13_lays_50 : decode cX13_lays 50 = .ok (.istore 4, 2) := by decide +kernel
theorem dX13_lays_52 : decode cX13_lays 52 = .ok (.iload 4, 2) := by decide +kernel
theorem dX13_lays_54 : decode cX13_lays 54 = .ok (.iload_n 3, 1) := by decide +kernel
theorem dX13_lays_55 : decode cX13_lays 55 = .ok (.if_icmp .ge 29, 3) := by decide +kernel
theorem dX13_lays_58 : decode cX13_lays 58 = .ok (.aload_n 0, 1) := by decide +kernel
theorem dX13_lays_59 : decode cX13_lays 59 = .ok (.getfield 138, 3) := by decide +kernel
theorem dX13_lays_62 : decode cX13_lays 62 = .ok (.iload 4, 2) := by decide +kernel
theorem dX13_lays_64 : decode cX13_lays 64 = .ok (.iload_n 1, 1) := by decide +kernel
theorem dX13_lays_65 : decode cX13_lays 65 = .ok (.iconst (-1), 1) := by decide +kernel
theorem dX13_lays_66 : decode cX13_lays 66 = .ok (.iload_n 2, 1) := by decide +kernel
theorem dX13_lays_67 : decode cX13_lays 67 = .ok (.aload_n 0, 1) := by decide +kernel
theorem dX13_lays_68 : decode cX13_lays 68 = .ok (.getfield 138, 3) := by decide +kernel
theorem dX13_lays_71 : decode cX13_lays 71 = .ok (.iload 4, 2) := by decide +kernel
theorem dX13_lays_73 : decode cX13_lays 73 = .ok (.iaload, 1) := by decide +kernel
theorem dX13_lays_74 : decode cX13_lays 74 = .ok (.invokestatic 306, 3) := by decide +kernel
theorem dX13_lays_77 : decode cX13_lays 77 = .ok (.iastore, 1) := by decide +kernel
theorem dX13_lays_78 : decode cX13_lays 78 = .ok (.iinc 4 1, 3) := by decide +kernel
theorem dX13_lays_81 : decode cX13_lays 81 = .ok (.goto (-29), 3) := by decide +kernel
theorem dX13_lays_84 : decode cX13_lays 84 = .ok (.iconst 1, 1) := by decide +kernel
theorem dX13_lays_85 : decode cX13_lays 85 = .ok (.ireturn, 1) := by decide +kernel
theorem dX13_lay_0 : decode cX13_lay 0 = .ok (.iload_n 1, 1) := by decide +kernel
theorem dX13_lay_1 : decode cX13_lay 1 = .ok (.invokestatic 290, 3) := by decide +kernel
theorem dX13_lay_4 : decode cX13_lay 4 = .ok (.ifCond .eq 10, 3) := by decide +kernel
theorem dX13_lay_7 : decode cX13_lay 7 = .ok (.iload_n 2, 1) := by decide +kernel
theorem dX13_lay_8 : decode cX13_lay 8 = .ok (.invokestatic 290, 3) := by decide +kernel
theorem dX13_lay_11 : decode cX13_lay 11 = .ok (.ifCond .ne 6, 3) := by decide +kernel
theorem dX13_lay_14 : decode cX13_lay 14 = .ok (.bipush (-2), 2) := by decide +kernel
theorem dX13_lay_16 : decode cX13_lay 16 = .ok (.ireturn, 1) := by decide +kernel
theorem dX13_lay_17 : decode cX13_lay 17 = .ok (.aload_n 0, 1) := by decide +kernel
theorem dX13_lay_18 : decode cX13_lay 18 = .ok (.iload_n 1, 1) := by decide +kernel
theorem dX13_lay_19 : decode cX13_lay 19 = .ok (.invokevirtual 318, 3) := by decide +kernel
theorem dX13_lay_22 : decode cX13_lay 22 = .ok (.aload_n 0, 1) := by decide +kernel
theorem dX13_lay_23 : decode cX13_lay 23 = .ok (.iconst 0, 1) := by decide +kernel
theorem dX13_lay_24 : decode cX13_lay 24 = .ok (.putfield 359, 3) := by decide +kernel
theorem dX13_lay_27 : decode cX13_lay 27 = .ok (.iconst 1, 1) := by decide +kernel
theorem dX13_lay_28 : decode cX13_lay 28 = .ok (.aload_n 0, 1) := by decide +kernel
theorem dX13_lay_29 : decode cX13_lay 29 = .ok (.getfield 99, 3) := by decide +kernel
theorem dX13_lay_32 : decode cX13_lay 32 = .ok (.iload_n 1, 1) := by decide +kernel
theorem dX13_lay_33 : decode cX13_lay 33 = .ok (.iaload, 1) := by decide +kernel
theorem dX13_lay_34 : decode cX13_lay 34 = .ok (.ishl, 1) := by decide +kernel
theorem dX13_lay_35 : decode cX13_lay 35 = .ok (.istore_n 3, 1) := by decide +kernel
theorem dX13_lay_36 : decode cX13_lay 36 = .ok (.iconst 0, 1) := by decide +kernel
theorem dX13_lay_37 : decode cX13_lay 37 = .ok (.istore 4, 2) := by decide +kernel
theorem dX13_lay_39 : decode cX13_lay 39 = .ok (.iload 4, 2) := by decide +kernel
theorem dX13_lay_41 : decode cX13_lay 41 = .ok (.iload_n 3, 1) := by decide +kernel
theorem dX13_lay_42 : decode cX13_lay 42 = .ok (.if_icmp .ge 148, 3) := by decide +kernel
theorem dX13_lay_45 : decode cX13_lay 45 = .ok (.iconst 0, 1) := by decide +kernel
theorem dX13_lay_46 : decode cX13_lay 46 = .ok (.istore 5, 2) := by decide +kernel
theorem dX13_lay_48 : decode cX13_lay 48 = .ok (.iload 5, 2) := by decide +kernel
theorem dX13_lay_50 : decode cX13_lay 50 = .ok (.aload_n 0, 1) := by decide +kernel
theorem dX13_lay_51 : decode cX13_lay 51 = .ok (.getfield 99, 3) := by decide +kernel
theorem dX13_lay_54 : decode cX13_lay 54 = .ok (.iload_n 1, 1) := by decide +kernel
theorem dX13_lay_55 : decode cX13_lay 55 = .ok (.iaload, 1) := by decide +kernel
theorem dX13_lay_56 : decode cX13_lay 56 = .ok (.if_icmp .ge 55, 3) := by decide +kernel
theorem dX13_lay_59 : decode cX13_lay 59 = .ok (.iload 4, 2) := by decide +kernel
theorem dX13_lay_61 : decode cX13_lay 61 = .ok (.iload 5, 2) := by decide +kernel
theorem dX13_lay_63 : decode cX13_lay 63 = .ok (.invokestatic 303, 3) := by decide +kernel
theorem dX13_lay_66 : decode cX13_lay 66 = .ok (.iconst 1, 1) := by decide +kernel
theorem dX13_lay_67 : decode cX13_lay 67 = .ok (.if_icmp .ne 38, 3) := by decide +kernel
theorem dX13_lay_70 : decode cX13_lay 70 = .ok (.aload_n 0, 1) := by decide +kernel
theorem dX13_lay_71 : decode cX13_lay 71 = .ok (.getfield 138, 3) := by decide +kernel
theorem dX13_lay_74 : decode cX13_lay 74 = .ok (.iload 4, 2) := by decide +kernel
theorem dX13_lay_76 : decode cX13_lay 76 = .ok (.iaload, 1) := by decide +kernel
theorem dX13_lay_77 : decode cX13_lay 77 = .ok (.iload 5, 2) := by decide +kernel
theorem dX13_lay_79 : decode cX13_lay 79 = .ok (.invokestatic 303, 3) := by decide +kernel
theorem dX13_lay_82 : decode cX13_lay 82 = .ok (.ifCond .ne 23, 3) := by decide +kernel
theorem dX13_lay_85 : decode cX13_lay 85 = .ok (.aload_n 0, 1) := by decide +kernel
theorem dX13_lay_86 : decode cX13_lay 86 = .ok (.iload 5, 2) := by decide +kernel
theorem dX13_lay_88 : decode cX13_lay 88 = .ok (.aload_n 0, 1) := by decide +kernel
theorem dX13_lay_89 : decode cX13_lay 89 = .ok (.getfield 138, 3) := by decide +kernel
theorem dX13_lay_92 : decode cX13_lay 92 = .ok (.iload 4, 2) := by decide +kernel
theorem dX13_lay_94 : decode cX13_lay 94 = .ok (.iaload, 1) := by decide +kernel
theorem dX13_lay_95 : decode cX13_lay 95 = .ok (.iload_n 3, 1) := by decide +kernel
theorem dX13_lay_96 : decode cX13_lay 96 = .ok (.invokevirtual 362, 3) := by decide +kernel
theorem dX13_lay_99 : decode cX13_lay 99 = .ok (.ifCond .ne 6, 3) := by decide +kernel
theorem dX13_lay_102 : decode cX13_lay 102 = .ok (.bipush (-3), 2) := by decide +kernel
theorem dX13_lay_104 : decode cX13_lay 104 = .ok (.ireturn, 1) := by decide +kernel
theorem dX13_lay_105 : decode cX13_lay 105 = .ok (.iinc 5 1, 3) := by decide +kernel
theorem dX13_lay_108 : decode cX13_lay 108 = .ok (.goto (-60), 3) := by decide +kernel
theorem dX13_lay_111 : decode cX13_lay 111 = .ok (.iconst 0, 1) := by decide +kernel
theorem dX13_lay_112 : decode cX13_lay 112 = .ok (.istore 5, 2) := by decide +kernel
theorem dX13_lay_114 : decode cX13_lay 114 = .ok (.iload 5, 2) := by decide +kernel
theorem dX13_lay_116 : decode cX13_lay 116 = .ok (.aload_n 0, 1) := by decide +kernel
theorem dX13_lay_117 : decode cX13_lay 117 = .ok (.getfield 99, 3) := by decide +kernel
theorem dX13_lay_120 : decode cX13_lay 120 = .ok (.iload_n 1, 1) := by decide +kernel
theorem dX13_lay_121 : decode cX13_lay 121 = .ok (.iaload, 1) := by decide +kernel
theorem dX13_lay_122 : decode cX13_lay 122 = .ok (.if_icmp .ge 62, 3) := by decide +kernel
theorem dX13_lay_125 : decode cX13_lay 125 = .ok (.iload 4, 2) := by decide +kernel
theorem dX13_lay_127 : decode cX13_lay 127 = .ok (.iload 5, 2) := by decide +kernel
theorem dX13_lay_129 : decode cX13_lay 129 = .ok (.invokestatic 303, 3) := by decide +kernel
theorem dX13_lay_132 : decode cX13_lay 132 = .ok (.ifCond .ne 46, 3) := by decide +kernel
theorem dX13_lay_135 : decode cX13_lay 135 = .ok (.aload_n 0, 1) := by decide +kernel
theorem dX13_lay_136 : decode cX13_lay 136 = .ok (.getfield 138, 3) := by decide +kernel
theorem dX13_lay_139 : decode cX13_lay 139 = .ok (.iload 4, 2) := by decide +kernel
theorem dX13_lay_141 : decode cX13_lay 141 = .ok (.iaload, 1) := by decide +kernel
theorem dX13_lay_142 : decode cX13_lay 142 = .ok (.iload 5, 2) := by decide +kernel
theorem dX13_lay_144 : decode cX13_lay 144 = .ok (.invokestatic 303, 3) := by decide +kernel
theorem dX13_lay_147 : decode cX13_lay 147 = .ok (.iconst 1, 1) := by decide +kernel
theorem dX13_lay_148 : decode cX13_lay 148 = .ok (.if_icmp .ne 30, 3) := by decide +kernel
theorem dX13_lay_151 : decode cX13_lay 151 = .ok (.aload_n 0, 1) := by decide +kernel
theorem dX13_lay_152 : decode cX13_lay 152 = .ok (.iload 5, 2) := by decide +kernel
theorem dX13_lay_154 : decode cX13_lay 154 = .ok (.aload_n 0, 1) := by decide +kernel
theorem dX13_lay_155 : decode cX13_lay 155 = .ok (.getfield 138, 3) := by decide +kernel
theorem dX13_lay_158 : decode cX13_lay 158 = .ok (.iload 4, 2) := by decide +kernel
theorem dX13_lay_160 : decode cX13_lay 160 = .ok (.iaload, 1) := by decide +kernel
theorem dX13_lay_161 : decode cX13_lay 161 = .ok (.iconst 1, 1) := by decide +kernel
theorem dX13_lay_162 : decode cX13_lay 162 = .ok (.iload 5, 2) := by decide +kernel
theorem dX13_lay_164 : decode cX13_lay 164 = .ok (.ishl, 1) := by decide +kernel
theorem dX13_lay_165 : decode cX13_lay 165 = .ok (.iconst (-1), 1) := by decide +kernel
theorem dX13_lay_166 : decode cX13_lay 166 = .ok (.ixor, 1) := by decide +kernel
theorem dX13_lay_167 : decode cX13_lay 167 = .ok (.iand, 1) := by decide +kernel
theorem dX13_lay_168 : decode cX13_lay 168 = .ok (.iload_n 3, 1) := by decide +kernel
theorem dX13_lay_169 : decode cX13_lay 169 = .ok (.invokevirtual 362, 3) := by decide +kernel
theorem dX13_lay_172 : decode cX13_lay 172 = .ok (.ifCond .ne 6, 3) := by decide +kernel
theorem dX13_lay_175 : decode cX13_lay 175 = .ok (.bipush (-3), 2) := by decide +kernel
theorem dX13_lay_177 : decode cX13_lay 177 = .ok (.ireturn, 1) := by decide +kernel
theorem dX13_lay_178 : decode cX13_lay 178 = .ok (.iinc 5 1, 3) := by decide +kernel
theorem dX13_lay_181 : decode cX13_lay 181 = .ok (.goto (-67), 3) := by decide +kernel
theorem dX13_lay_184 : decode cX13_lay 184 = .ok (.iinc 4 1, 3) := by decide +kernel
theorem dX13_lay_187 : decode cX13_lay 187 = .ok (.goto (-148), 3) := by decide +kernel
theorem dX13_lay_190 : decode cX13_lay 190 = .ok (.aload_n 0, 1) := by decide +kernel
theorem dX13_lay_191 : decode cX13_lay 191 = .ok (.getfield 99, 3) := by decide +kernel
theorem dX13_lay_194 : decode cX13_lay 194 = .ok (.iload_n 2, 1) := by decide +kernel
theorem dX13_lay_195 : decode cX13_lay 195 = .ok (.aload_n 0, 1) := by decide +kernel
theorem dX13_lay_196 : decode cX13_lay 196 = .ok (.getfield 99, 3) := by decide +kernel
theorem dX13_lay_199 : decode cX13_lay 199 = .ok (.iload_n 1, 1) := by decide +kernel
theorem dX13_lay_200 : decode cX13_lay 200 = .ok (.iaload, 1) := by decide +kernel
theorem dX13_lay_201 : decode cX13_lay 201 = .ok (.iastore, 1) := by decide +kernel
theorem dX13_lay_202 : decode cX13_lay 202 = .ok (.aload_n 0, 1) := by decide +kernel
theorem dX13_lay_203 : decode cX13_lay 203 = .ok (.getfield 86, 3) := by decide +kernel
theorem dX13_lay_206 : decode cX13_lay 206 = .ok (.iload_n 2, 1) := by decide +kernel
theorem dX13_lay_207 : decode cX13_lay 207 = .ok (.aload_n 0, 1) := by decide +kernel
theorem dX13_lay_208 : decode cX13_lay 208 = .ok (.getfield 359, 3) := by decide +kernel
theorem dX13_lay_211 : decode cX13_lay 211 = .ok (.iastore, 1) := by decide +kernel
theorem dX13_lay_212 : decode cX13_lay 212 = .ok (.iconst 0, 1) := by decide +kernel
theorem dX13_lay_213 : decode cX13_lay 213 = .ok (.istore 4, 2) := by decide +kernel
theorem dX13_lay_215 : decode cX13_lay 215 = .ok (.iload 4, 2) := by decide +kernel
theorem dX13_lay_217 : decode cX13_lay 217 = .ok (.aload_n 0, 1) := by decide +kernel
theorem dX13_lay_218 : decode cX13_lay 218 = .ok (.getfield 359, 3) := by decide +kernel
theorem dX13_lay_221 : decode cX13_lay 221 = .ok (.if_icmp .ge 78, 3) := by decide +kernel
theorem dX13_lay_224 : decode cX13_lay 224 = .ok (.aload_n 0, 1) := by decide +kernel
theorem dX13_lay_225 : decode cX13_lay 225 = .ok (.getfield 90, 3) := by decide +kernel
theorem dX13_lay_228 : decode cX13_lay 228 = .ok (.bipush 40, 2) := by decide +kernel
theorem dX13_lay_230 : decode cX13_lay 230 = .ok (.iload_n 2, 1) := by decide +kernel
theorem dX13_lay_231 : decode cX13_lay 231 = .ok (.imul, 1) := by decide +kernel
theorem dX13_lay_232 : decode cX13_lay 232 = .ok (.iload 4, 2) := by decide +kernel
theorem dX13_lay_234 : decode cX13_lay 234 = .ok (.iadd, 1) := by decide +kernel
theorem dX13_lay_235 : decode cX13_lay 235 = .ok (.aload_n 0, 1) := by decide +kernel
theorem dX13_lay_236 : decode cX13_lay 236 = .ok (.getfield 90, 3) := by decide +kernel
theorem dX13_lay_239 : decode cX13_lay 239 = .ok (.sipush 280, 3) := by decide +kernel
theorem dX13_lay_242 : decode cX13_lay 242 = .ok (.aload_n 0, 1) := by decide +kernel
theorem dX13_lay_243 : decode cX13_lay 243 = .ok (.getfield 359, 3) := by decide +kernel
theorem dX13_lay_246 : decode cX13_lay 246 = .ok (.isub, 1) := by decide +kernel
theorem dX13_lay_247 : decode cX13_lay 247 = .ok (.iload 4, 2) := by decide +kernel
theorem dX13_lay_249 : decode cX13_lay 249 = .ok (.iadd, 1) := by decide +kernel
theorem dX13_lay_250 : decode cX13_lay 250 = .ok (.iaload, 1) := by decide +kernel
theorem dX13_lay_251 : decode cX13_lay 251 = .ok (.iastore, 1) := by decide +kernel
theorem dX13_lay_252 : decode cX13_lay 252 = .ok (.aload_n 0, 1) := by decide +kernel
theorem dX13_lay_253 : decode cX13_lay 253 = .ok (.getfield 93, 3) := by decide +kernel
theorem dX13_lay_256 : decode cX13_lay 256 = .ok (.bipush 40, 2) := by decide +kernel
theorem dX13_lay_258 : decode cX13_lay 258 = .ok (.iload_n 2, 1) := by decide +kernel
theorem dX13_lay_259 : decode cX13_lay 259 = .ok (.imul, 1) := by decide +kernel
theorem dX13_lay_260 : decode cX13_lay 260 = .ok (.iload 4, 2) := by decide +kernel
theorem dX13_lay_262 : decode cX13_lay 262 = .ok (.iadd, 1) := by decide +kernel
theorem dX13_lay_263 : decode cX13_lay 263 = .ok (.iconst (-1), 1) := by decide +kernel
theorem dX13_lay_264 : decode cX13_lay 264 = .ok (.iastore, 1) := by decide +kernel
theorem dX13_lay_265 : decode cX13_lay 265 = .ok (.aload_n 0, 1) := by decide +kernel
theorem dX13_lay_266 : decode cX13_lay 266 = .ok (.getfield 96, 3) := by decide +kernel
theorem dX13_lay_269 : decode cX13_lay 269 = .ok (.bipush 40, 2) := by decide +kernel
theorem dX13_lay_271 : decode cX13_lay 271 = .ok (.iload_n 2, 1) := by decide +kernel
theorem dX13_lay_272 : decode cX13_lay 272 = .ok (.imul, 1) := by decide +kernel
theorem dX13_lay_273 : decode cX13_lay 273 = .ok (.iload 4, 2) := by decide +kernel
theorem dX13_lay_275 : decode cX13_lay 275 = .ok (.iadd, 1) := by decide +kernel
theorem dX13_lay_276 : decode cX13_lay 276 = .ok (.aload_n 0, 1) := by decide +kernel
theorem dX13_lay_277 : decode cX13_lay 277 = .ok (.getfield 96, 3) := by decide +kernel
theorem dX13_lay_280 : decode cX13_lay 280 = .ok (.sipush 280, 3) := by decide +kernel
theorem dX13_lay_283 : decode cX13_lay 283 = .ok (.aload_n 0, 1) := by decide +kernel
theorem dX13_lay_284 : decode cX13_lay 284 = .ok (.getfield 359, 3) := by decide +kernel
theorem dX13_lay_287 : decode cX13_lay 287 = .ok (.isub, 1) := by decide +kernel
theorem dX13_lay_288 : decode cX13_lay 288 = .ok (.iload 4, 2) := by decide +kernel
theorem dX13_lay_290 : decode cX13_lay 290 = .ok (.iadd, 1) := by decide +kernel
theorem dX13_lay_291 : decode cX13_lay 291 = .ok (.iaload, 1) := by decide +kernel
theorem dX13_lay_292 : decode cX13_lay 292 = .ok (.iastore, 1) := by decide +kernel
theorem dX13_lay_293 : decode cX13_lay 293 = .ok (.iinc 4 1, 3) := by decide +kernel
theorem dX13_lay_296 : decode cX13_lay 296 = .ok (.goto (-81), 3) := by decide +kernel
theorem dX13_lay_299 : decode cX13_lay 299 = .ok (.aload_n 0, 1) := by decide +kernel
theorem dX13_lay_300 : decode cX13_lay 300 = .ok (.getfield 359, 3) := by decide +kernel
theorem dX13_lay_303 : decode cX13_lay 303 = .ok (.ireturn, 1) := by decide +kernel
theorem dX13_roll_0 : decode cX13_roll 0 = .ok (.iload_n 1, 1) := by decide +kernel
theorem dX13_roll_1 : decode cX13_roll 1 = .ok (.invokestatic 290, 3) := by decide +kernel
theorem dX13_roll_4 : decode cX13_roll 4 = .ok (.ifCond .eq 29, 3) := by decide +kernel
theorem dX13_roll_7 : decode cX13_roll 7 = .ok (.iload_n 3, 1) := by decide +kernel
theorem dX13_roll_8 : decode cX13_roll 8 = .ok (.invokestatic 290, 3) := by decide +kernel
theorem dX13_roll_11 : decode cX13_roll 11 = .ok (.ifCond .eq 22, 3) := by decide +kernel
theorem dX13_roll_14 : decode cX13_roll 14 = .ok (.iload_n 2, 1) := by decide +kernel
theorem dX13_roll_15 : decode cX13_roll 15 = .ok (.i2l, 1) := by decide +kernel
theorem dX13_roll_16 : decode cX13_roll 16 = .ok (.lconst 1, 1) := by decide +kernel
theorem dX13_roll_17 : decode cX13_roll 17 = .ok (.lconst 1, 1) := by decide +kernel
theorem dX13_roll_18 : decode cX13_roll 18 = .ok (.aload_n 0, 1) := by decide +kernel
theorem dX13_roll_19 : decode cX13_roll 19 = .ok (.getfield 99, 3) := by decide +kernel
theorem dX13_roll_22 : decode cX13_roll 22 = .ok (.iload_n 1, 1) := by decide +kernel
theorem dX13_roll_23 : decode cX13_roll 23 = .ok (.iaload, 1) := by decide +kernel
theorem dX13_roll_24 : decode cX13_roll 24 = .ok (.lshl, 1) := by decide +kernel
theorem dX13_roll_25 : decode cX13_roll 25 = .ok (.lconst 1, 1) := by decide +kernel
theorem dX13_roll_26 : decode cX13_roll 26 = .ok (.lsub, 1) := by decide +kernel
theorem dX13_roll_27 : decode cX13_roll 27 = .ok (.invokestatic 64, 3) := by decide +kernel
theorem dX13_roll_30 : decode cX13_roll 30 = .ok (.ifCond .ne 6, 3) := by decide +kernel
theorem dX13_roll_33 : decode cX13_roll 33 = .ok (.bipush (-2), 2) := by decide +kernel
theorem dX13_roll_35 : decode cX13_roll 35 = .ok (.ireturn, 1) := by decide +kernel
theorem dX13_roll_36 : decode cX13_roll 36 = .ok (.iload_n 2, 1) := by decide +kernel
theorem dX13_roll_37 : decode cX13_roll 37 = .ok (.invokestatic 333, 3) := by decide +kernel
theorem dX13_roll_40 : decode cX13_roll 40 = .ok (.istore 4, 2) := by decide +kernel
theorem dX13_roll_42 : decode cX13_roll 42 = .ok (.aload_n 0, 1) := by decide +kernel
theorem dX13_roll_43 : decode cX13_roll 43 = .ok (.getfield 99, 3) := by decide +kernel
theorem dX13_roll_46 : decode cX13_roll 46 = .ok (.iload_n 1, 1) := by decide +kernel
theorem dX13_roll_47 : decode cX13_roll 47 = .ok (.iaload, 1) := by decide +kernel
theorem dX13_roll_48 : decode cX13_roll 48 = .ok (.iload 4, 2) := by decide +kernel
theorem dX13_roll_50 : decode cX13_roll 50 = .ok (.iadd, 1) := by decide +kernel
theorem dX13_roll_51 : decode cX13_roll 51 = .ok (.bipush 8, 2) := by decide +kernel
theorem dX13_roll_53 : decode cX13_roll 53 = .ok (.if_icmp .gt 19, 3) := by decide +kernel
theorem dX13_roll_56 : decode cX13_roll 56 = .ok (.iconst 2, 1) := by decide +kernel
theorem dX13_roll_57 : decode cX13_roll 57 = .ok (.aload_n 0, 1) := by decide +kernel
theorem dX13_roll_58 : decode cX13_roll 58 = .ok (.getfield 86, 3) := by decide +kernel
theorem dX13_roll_61 : decode cX13_roll 61 = .ok (.iload_n 1, 1) := by decide +kernel
theorem dX13_roll_62 : decode cX13_roll 62 = .ok (.iaload, 1) := by decide +kernel
theorem dX13_roll_63 : decode cX13_roll 63 = .ok (.imul, 1) := by decide +kernel
theorem dX13_roll_64 : decode cX13_roll 64 = .ok (.iload 4, 2) := by decide +kernel
theorem dX13_roll_66 : decode cX13_roll 66 = .ok (.iadd, 1) := by decide +kernel
theorem dX13_roll_67 : decode cX13_roll 67 = .ok (.bipush 40, 2) := by decide +kernel
theorem dX13_roll_69 : decode cX13_roll 69 = .ok (.if_icmp .le 6, 3) := by decide +kernel
theorem dX13_roll_72 : decode cX13_roll 72 = .ok (.bipush (-3), 2) := by decide +kernel
theorem dX13_roll_74 : decode cX13_roll 74 = .ok (.ireturn, 1) := by decide +kernel
theorem dX13_roll_75 : decode cX13_roll 75 = .ok (.aload_n 0, 1) := by decide +kernel
theorem dX13_roll_76 : decode cX13_roll 76 = .ok (.iload_n 1, 1) := by decide +kernel
theorem dX13_roll_77 : decode cX13_roll 77 = .ok (.bipush 6, 2) := by decide +kernel
theorem dX13_roll_79 : decode cX13_roll 79 = .ok (.invokevirtual 299, 3) := by decide +kernel
theorem dX13_roll_82 : decode cX13_roll 82 = .ok (.aload_n 0, 1) := by decide +kernel
theorem dX13_roll_83 : decode cX13_roll 83 = .ok (.getfield 99, 3) := by decide +kernel
theorem dX13_roll_86 : decode cX13_roll 86 = .ok (.bipush 6, 2) := by decide +kernel
theorem dX13_roll_88 : decode cX13_roll 88 = .ok (.aload_n 0, 1) := by decide +kernel
theorem dX13_roll_89 : decode cX13_roll 89 = .ok (.getfield 99, 3) := by decide +kernel
theorem dX13_roll_92 : decode cX13_roll 92 = .ok (.iload_n 1, 1) := by decide +kernel
theorem dX13_roll_93 : decode cX13_roll 93 = .ok (.iaload, 1) := by decide +kernel
theorem dX13_roll_94 : decode cX13_roll 94 = .ok (.iload 4, 2) := by decide +kernel
theorem dX13_roll_96 : decode cX13_roll 96 = .ok (.iadd, 1) := by decide +kernel
theorem dX13_roll_97 : decode cX13_roll 97 = .ok (.iastore, 1) := by decide +kernel
theorem dX13_roll_98 : decode cX13_roll 98 = .ok (.aload_n 0, 1) := by decide +kernel
theorem dX13_roll_99 : decode cX13_roll 99 = .ok (.getfield 99, 3) := by decide +kernel
theorem dX13_roll_102 : decode cX13_roll 102 = .ok (.iload_n 1, 1) := by decide +kernel
theorem dX13_roll_103 : decode cX13_roll 103 = .ok (.iaload, 1) := by decide +kernel
theorem dX13_roll_104 : decode cX13_roll 104 = .ok (.istore 5, 2) := by decide +kernel
theorem dX13_roll_106 : decode cX13_roll 106 = .ok (.iconst 0, 1) := by decide +kernel
theorem dX13_roll_107 : decode cX13_roll 107 = .ok (.istore 6, 2) := by decide +kernel
theorem dX13_roll_109 : decode cX13_roll 109 = .ok (.iload 6, 2) := by decide +kernel
theorem dX13_roll_111 : decode cX13_roll 111 = .ok (.aload_n 0, 1) := by decide +kernel
theorem dX13_roll_112 : decode cX13_roll 112 = .ok (.getfield 99, 3) := by decide +kernel
theorem dX13_roll_115 : decode cX13_roll 115 = .ok (.iload_n 1, 1) := by decide +kernel
theorem dX13_roll_116 : decode cX13_roll 116 = .ok (.iaload, 1) := by decide +kernel
theorem dX13_roll_117 : decode cX13_roll 117 = .ok (.if_icmp .ge 35, 3) := by decide +kernel
theorem dX13_roll_120 : decode cX13_roll 120 = .ok (.iload_n 2, 1) := by decide +kernel
theorem dX13_roll_121 : decode cX13_roll 121 = .ok (.iload 6, 2) := by decide +kernel
theorem dX13_roll_123 : decode cX13_roll 123 = .ok (.invokestatic 303, 3) := by decide +kernel
theorem dX13_roll_126 : decode cX13_roll 126 = .ok (.ifCond .ne 6, 3) := by decide +kernel
theorem dX13_roll_129 : decode cX13_roll 129 = .ok (.goto 17, 3) := by decide +kernel
theorem dX13_roll_132 : decode cX13_roll 132 = .ok (.aload_n 0, 1) := by decide +kernel
theorem dX13_roll_133 : decode cX13_roll 133 = .ok (.iload 5, 2) := by decide +kernel
theorem dX13_roll_135 : decode cX13_roll 135 = .ok (.iconst (-1), 1) := by decide +kernel
theorem dX13_roll_136 : decode cX13_roll 136 = .ok (.iconst 1, 1) := by decide +kernel
theorem dX13_roll_137 : decode cX13_roll 137 = .ok (.iload 6, 2) := by decide +kernel
theorem dX13_roll_139 : decode cX13_roll 139 = .ok (.ishl, 1) := by decide +kernel
theorem dX13_roll_140 : decode cX13_roll 140 = .ok (.invokevirtual 115, 3) := by decide +kernel
theorem dX13_roll_143 : decode cX13_roll 143 = .ok (.iinc 5 1, 3) := by decide +kernel
theorem dX13_roll_146 : decode cX13_roll 146 = .ok (.iinc 6 1, 3) := by decide +kernel
theorem dX13_roll_149 : decode cX13_roll 149 = .ok (.goto (-40), 3) := by decide +kernel
theorem dX13_roll_152 : decode cX13_roll 152 = .ok (.aload_n 0, 1) := by decide +kernel
theorem dX13_roll_153 : decode cX13_roll 153 = .ok (.getfield 86, 3) := by decide +kernel
theorem dX13_roll_156 : decode cX13_roll 156 = .ok (.iload_n 1, 1) := by decide +kernel
theorem dX13_roll_157 : decode cX13_roll 157 = .ok (.iaload, 1) := by decide +kernel
theorem dX13_roll_158 : decode cX13_roll 158 = .ok (.iconst 1, 1) := by decide +kernel
theorem dX13_roll_159 : decode cX13_roll 159 = .ok (.isub, 1) := by decide +kernel
theorem dX13_roll_160 : decode cX13_roll 160 = .ok (.istore 6, 2) := by decide +kernel
theorem dX13_roll_162 : decode cX13_roll 162 = .ok (.iload 6, 2) := by decide +kernel
theorem dX13_roll_164 : decode cX13_roll 164 = .ok (.ifCond .lt 49, 3) := by decide +kernel
theorem dX13_roll_167 : decode cX13_roll 167 = .ok (.aload_n 0, 1) := by decide +kernel
theorem dX13_roll_168 : decode cX13_roll 168 = .ok (.aload_n 0, 1) := by decide +kernel
theorem dX13_roll_169 : decode cX13_roll 169 = .ok (.getfield 90, 3) := by decide +kernel
theorem dX13_roll_172 : decode cX13_roll 172 = .ok (.bipush 40, 2) := by decide +kernel
theorem dX13_roll_174 : decode cX13_roll 174 = .ok (.iload_n 1, 1) := by decide +kernel
theorem dX13_roll_175 : decode cX13_roll 175 = .ok (.imul, 1) := by decide +kernel
theorem dX13_roll_176 : decode cX13_roll 176 = .ok (.iload 6, 2) := by decide +kernel
theorem dX13_roll_178 : decode cX13_roll 178 = .ok (.iadd, 1) := by decide +kernel
theorem dX13_roll_179 : decode cX13_roll 179 = .ok (.iaload, 1) := by decide +kernel
theorem dX13_roll_180 : decode cX13_roll 180 = .ok (.aload_n 0, 1) := by decide +kernel
theorem dX13_roll_181 : decode cX13_roll 181 = .ok (.getfield 93, 3) := by decide +kernel
theorem dX13_roll_184 : decode cX13_roll 184 = .ok (.bipush 40, 2) := by decide +kernel
theorem dX13_roll_186 : decode cX13_roll 186 = .ok (.iload_n 1, 1) := by decide +kernel
theorem dX13_roll_187 : decode cX13_roll 187 = .ok (.imul, 1) := by decide +kernel
theorem dX13_roll_188 : decode cX13_roll 188 = .ok (.iload 6, 2) := by decide +kernel
theorem dX13_roll_190 : decode cX13_roll 190 = .ok (.iadd, 1) := by decide +kernel
theorem dX13_roll_191 : decode cX13_roll 191 = .ok (.iaload, 1) := by decide +kernel
theorem dX13_roll_192 : decode cX13_roll 192 = .ok (.aload_n 0, 1) := by decide +kernel
theorem dX13_roll_193 : decode cX13_roll 193 = .ok (.getfield 96, 3) := by decide +kernel
theorem dX13_roll_196 : decode cX13_roll 196 = .ok (.bipush 40, 2) := by decide +kernel
theorem dX13_roll_198 : decode cX13_roll 198 = .ok (.iload_n 1, 1) := by decide +kernel
theorem dX13_roll_199 : decode cX13_roll 199 = .ok (.imul, 1) := by decide +kernel
theorem dX13_roll_200 : decode cX13_roll 200 = .ok (.iload 6, 2) := by decide +kernel
theorem dX13_roll_202 : decode cX13_roll 202 = .ok (.iadd, 1) := by decide +kernel
theorem dX13_roll_203 : decode cX13_roll 203 = .ok (.iaload, 1) := by decide +kernel
theorem dX13_roll_204 : decode cX13_roll 204 = .ok (.invokevirtual 115, 3) := by decide +kernel
theorem dX13_roll_207 : decode cX13_roll 207 = .ok (.iinc 6 (-1), 3) := by decide +kernel
theorem dX13_roll_210 : decode cX13_roll 210 = .ok (.goto (-48), 3) := by decide +kernel
theorem dX13_roll_213 : decode cX13_roll 213 = .ok (.aload_n 0, 1) := by decide +kernel
theorem dX13_roll_214 : decode cX13_roll 214 = .ok (.bipush 6, 2) := by decide +kernel
theorem dX13_roll_216 : decode cX13_roll 216 = .ok (.iload_n 3, 1) := by decide +kernel
theorem dX13_roll_217 : decode cX13_roll 217 = .ok (.invokevirtual 299, 3) := by decide +kernel
theorem dX13_roll_220 : decode cX13_roll 220 = .ok (.aload_n 0, 1) := by decide +kernel
theorem dX13_roll_221 : decode cX13_roll 221 = .ok (.getfield 86, 3) := by decide +kernel
theorem dX13_roll_224 : decode cX13_roll 224 = .ok (.iload_n 3, 1) := by decide +kernel
theorem dX13_roll_225 : decode cX13_roll 225 = .ok (.iaload, 1) := by decide +kernel
theorem dX13_roll_226 : decode cX13_roll 226 = .ok (.ireturn, 1) := by decide +kernel
theorem dX13_chain_0 : decode cX13_chain 0 = .ok (.iload_n 1, 1) := by decide +kernel
theorem dX13_chain_1 : decode cX13_chain 1 = .ok (.invokestatic 290, 3) := by decide +kernel
theorem dX13_chain_4 : decode cX13_chain 4 = .ok (.ifCond .eq 17, 3) := by decide +kernel
theorem dX13_chain_7 : decode cX13_chain 7 = .ok (.iload_n 2, 1) := by decide +kernel
theorem dX13_chain_8 : decode cX13_chain 8 = .ok (.invokestatic 290, 3) := by decide +kernel
theorem dX13_chain_11 : decode cX13_chain 11 = .ok (.ifCond .eq 10, 3) := by decide +kernel
theorem dX13_chain_14 : decode cX13_chain 14 = .ok (.iload_n 3, 1) := by decide +kernel
theorem dX13_chain_15 : decode cX13_chain 15 = .ok (.invokestatic 290, 3) := by decide +kernel
theorem dX13_chain_18 : decode cX13_chain 18 = .ok (.ifCond .ne 6, 3) := by decide +kernel
theorem dX13_chain_21 : decode cX13_chain 21 = .ok (.bipush (-2), 2) := by decide +kernel
theorem dX13_chain_23 : decode cX13_chain 23 = .ok (.ireturn, 1) := by decide +kernel
theorem dX13_chain_24 : decode cX13_chain 24 = .ok (.aload_n 0, 1) := by decide +kernel
theorem dX13_chain_25 : decode cX13_chain 25 = .ok (.getfield 86, 3) := by decide +kernel
theorem dX13_chain_28 : decode cX13_chain 28 = .ok (.iload_n 1, 1) := by decide +kernel
theorem dX13_chain_29 : decode cX13_chain 29 = .ok (.iaload, 1) := by decide +kernel
theorem dX13_chain_30 : decode cX13_chain 30 = .ok (.aload_n 0, 1) := by decide +kernel
theorem dX13_chain_31 : decode cX13_chain 31 = .ok (.getfield 86, 3) := by decide +kernel
theorem dX13_chain_34 : decode cX13_chain 34 = .ok (.iload_n 2, 1) := by decide +kernel
theorem dX13_chain_35 : decode cX13_chain 35 = .ok (.iaload, 1) := by decide +kernel
theorem dX13_chain_36 : decode cX13_chain 36 = .ok (.iadd, 1) := by decide +kernel
theorem dX13_chain_37 : decode cX13_chain 37 = .ok (.bipush 40, 2) := by decide +kernel
theorem dX13_chain_39 : decode cX13_chain 39 = .ok (.if_icmp .le 6, 3) := by decide +kernel
theorem dX13_chain_42 : decode cX13_chain 42 = .ok (.bipush (-3), 2) := by decide +kernel
theorem dX13_chain_44 : decode cX13_chain 44 = .ok (.ireturn, 1) := by decide +kernel
theorem dX13_chain_45 : decode cX13_chain 45 = .ok (.aload_n 0, 1) := by decide +kernel
theorem dX13_chain_46 : decode cX13_chain 46 = .ok (.iload_n 1, 1) := by decide +kernel
theorem dX13_chain_47 : decode cX13_chain 47 = .ok (.bipush 6, 2) := by decide +kernel
theorem dX13_chain_49 : decode cX13_chain 49 = .ok (.invokevirtual 299, 3) := by decide +kernel
theorem dX13_chain_52 : decode cX13_chain 52 = .ok (.aload_n 0, 1) := by decide +kernel
theorem dX13_chain_53 : decode cX13_chain 53 = .ok (.getfield 99, 3) := by decide +kernel
theorem dX13_chain_56 : decode cX13_chain 56 = .ok (.bipush 6, 2) := by decide +kernel
theorem dX13_chain_58 : decode cX13_chain 58 = .ok (.aload_n 0, 1) := by decide +kernel
theorem dX13_chain_59 : decode cX13_chain 59 = .ok (.getfield 99, 3) := by decide +kernel
theorem dX13_chain_62 : decode cX13_chain 62 = .ok (.iload_n 1, 1) := by decide +kernel
theorem dX13_chain_63 : decode cX13_chain 63 = .ok (.iaload, 1) := by decide +kernel
theorem dX13_chain_64 : decode cX13_chain 64 = .ok (.aload_n 0, 1) := by decide +kernel
theorem dX13_chain_65 : decode cX13_chain 65 = .ok (.getfield 99, 3) := by decide +kernel
theorem dX13_chain_68 : decode cX13_chain 68 = .ok (.iload_n 2, 1) := by decide +kernel
theorem dX13_chain_69 : decode cX13_chain 69 = .ok (.iaload, 1) := by decide +kernel
theorem dX13_chain_70 : decode cX13_chain 70 = .ok (.invokestatic 366, 3) := by decide +kernel
theorem dX13_chain_73 : decode cX13_chain 73 = .ok (.iastore, 1) := by decide +kernel
theorem dX13_chain_74 : decode cX13_chain 74 = .ok (.iconst 0, 1) := by decide +kernel
theorem dX13_chain_75 : decode cX13_chain 75 = .ok (.istore 4, 2) := by decide +kernel
theorem dX13_chain_77 : decode cX13_chain 77 = .ok (.iload 4, 2) := by decide +kernel
theorem dX13_chain_79 : decode cX13_chain 79 = .ok (.aload_n 0, 1) := by decide +kernel
theorem dX13_chain_80 : decode cX13_chain 80 = .ok (.getfield 86, 3) := by decide +kernel
theorem dX13_chain_83 : decode cX13_chain 83 = .ok (.iload_n 2, 1) := by decide +kernel
theorem dX13_chain_84 : decode cX13_chain 84 = .ok (.iaload, 1) := by decide +kernel
theorem dX13_chain_85 : decode cX13_chain 85 = .ok (.if_icmp .ge 49, 3) := by decide +kernel
theorem dX13_chain_88 : decode cX13_chain 88 = .ok (.aload_n 0, 1) := by decide +kernel
theorem dX13_chain_89 : decode cX13_chain 89 = .ok (.aload_n 0, 1) := by decide +kernel
theorem dX13_chain_90 : decode cX13_chain 90 = .ok (.getfield 90, 3) := by decide +kernel
theorem dX13_chain_93 : decode cX13_chain 93 = .ok (.bipush 40, 2) := by decide +kernel
theorem dX13_chain_95 : decode cX13_chain 95 = .ok (.iload_n 2, 1) := by decide +kernel
theorem dX13_chain_96 : decode cX13_chain 96 = .ok (.imul, 1) := by decide +kernel
theorem dX13_chain_97 : decode cX13_chain 97 = .ok (.iload 4, 2) := by decide +kernel
theorem dX13_chain_99 : decode cX13_chain 99 = .ok (.iadd, 1) := by decide +kernel
theorem dX13_chain_100 : decode cX13_chain 100 = .ok (.iaload, 1) := by decide +kernel
theorem dX13_chain_101 : decode cX13_chain 101 = .ok (.aload_n 0, 1) := by decide +kernel
theorem dX13_chain_102 : decode cX13_chain 102 = .ok (.getfield 93, 3) := by decide +kernel
theorem dX13_chain_105 : decode cX13_chain 105 = .ok (.bipush 40, 2) := by decide +kernel
theorem dX13_chain_107 : decode cX13_chain 107 = .ok (.iload_n 2, 1) := by decide +kernel
theorem dX13_chain_108 : decode cX13_chain 108 = .ok (.imul, 1) := by decide +kernel
theorem dX13_chain_109 : decode cX13_chain 109 = .ok (.iload 4, 2) := by decide +kernel
theorem dX13_chain_111 : decode cX13_chain 111 = .ok (.iadd, 1) := by decide +kernel
theorem dX13_chain_112 : decode cX13_chain 112 = .ok (.iaload, 1) := by decide +kernel
theorem dX13_chain_113 : decode cX13_chain 113 = .ok (.aload_n 0, 1) := by decide +kernel
theorem dX13_chain_114 : decode cX13_chain 114 = .ok (.getfield 96, 3) := by decide +kernel
theorem dX13_chain_117 : decode cX13_chain 117 = .ok (.bipush 40, 2) := by decide +kernel
theorem dX13_chain_119 : decode cX13_chain 119 = .ok (.iload_n 2, 1) := by decide +kernel
theorem dX13_chain_120 : decode cX13_chain 120 = .ok (.imul, 1) := by decide +kernel
theorem dX13_chain_121 : decode cX13_chain 121 = .ok (.iload 4, 2) := by decide +kernel
theorem dX13_chain_123 : decode cX13_chain 123 = .ok (.iadd, 1) := by decide +kernel
theorem dX13_chain_124 : decode cX13_chain 124 = .ok (.iaload, 1) := by decide +kernel
theorem dX13_chain_125 : decode cX13_chain 125 = .ok (.invokevirtual 115, 3) := by decide +kernel
theorem dX13_chain_128 : decode cX13_chain 128 = .ok (.iinc 4 1, 3) := by decide +kernel
theorem dX13_chain_131 : decode cX13_chain 131 = .ok (.goto (-54), 3) := by decide +kernel
theorem dX13_chain_134 : decode cX13_chain 134 = .ok (.aload_n 0, 1) := by decide +kernel
theorem dX13_chain_135 : decode cX13_chain 135 = .ok (.bipush 6, 2) := by decide +kernel
theorem dX13_chain_137 : decode cX13_chain 137 = .ok (.iload_n 3, 1) := by decide +kernel
theorem dX13_chain_138 : decode cX13_chain 138 = .ok (.invokevirtual 299, 3) := by decide +kernel
theorem dX13_chain_141 : decode cX13_chain 141 = .ok (.aload_n 0, 1) := by decide +kernel
theorem dX13_chain_142 : decode cX13_chain 142 = .ok (.getfield 86, 3) := by decide +kernel
theorem dX13_chain_145 : decode cX13_chain 145 = .ok (.iload_n 3, 1) := by decide +kernel
theorem dX13_chain_146 : decode cX13_chain 146 = .ok (.iaload, 1) := by decide +kernel
theorem dX13_chain_147 : decode cX13_chain 147 = .ok (.ireturn, 1) := by decide +kernel
theorem dX13_letter_0 : decode cX13_letter 0 = .ok (.iload_n 0, 1) := by decide +kernel
theorem dX13_letter_1 : decode cX13_letter 1 = .ok (.bipush 97, 2) := by decide +kernel
theorem dX13_letter_3 : decode cX13_letter 3 = .ok (.isub, 1) := by decide +kernel
theorem dX13_letter_4 : decode cX13_letter 4 = .ok (.ireturn, 1) := by decide +kernel
theorem dX13_isLetter_0 : decode cX13_isLetter 0 = .ok (.aload_n 0, 1) := by decide +kernel
theorem dX13_isLetter_1 : decode cX13_isLetter 1 = .ok (.getfield 31, 3) := by decide +kernel
theorem dX13_isLetter_4 : decode cX13_isLetter 4 = .ok (.iconst 1, 1) := by decide +kernel
theorem dX13_isLetter_5 : decode cX13_isLetter 5 = .ok (.if_icmp .ne 42, 3) := by decide +kernel
theorem dX13_isLetter_8 : decode cX13_isLetter 8 = .ok (.aload_n 0, 1) := by decide +kernel
theorem dX13_isLetter_9 : decode cX13_isLetter 9 = .ok (.getfield 24, 3) := by decide +kernel
theorem dX13_isLetter_12 : decode cX13_isLetter 12 = .ok (.aload_n 0, 1) := by decide +kernel
theorem dX13_isLetter_13 : decode cX13_isLetter 13 = .ok (.getfield 7, 3) := by decide +kernel
theorem dX13_isLetter_16 : decode cX13_isLetter 16 = .ok (.isub, 1) := by decide +kernel
theorem dX13_isLetter_17 : decode cX13_isLetter 17 = .ok (.iconst 1, 1) := by decide +kernel
theorem dX13_isLetter_18 : decode cX13_isLetter 18 = .ok (.if_icmp .ne 29, 3) := by decide +kernel
theorem dX13_isLetter_21 : decode cX13_isLetter 21 = .ok (.aload_n 0, 1) := by decide +kernel
theorem dX13_isLetter_22 : decode cX13_isLetter 22 = .ok (.getfield 20, 3) := by decide +kernel
theorem dX13_isLetter_25 : decode cX13_isLetter 25 = .ok (.aload_n 0, 1) := by decide +kernel
theorem dX13_isLetter_26 : decode cX13_isLetter 26 = .ok (.getfield 7, 3) := by decide +kernel
theorem dX13_isLetter_29 : decode cX13_isLetter 29 = .ok (.baload, 1) := by decide +kernel
theorem dX13_isLetter_30 : decode cX13_isLetter 30 = .ok (.i2l, 1) := by decide +kernel
theorem dX13_isLetter_31 : decode cX13_isLetter 31 = .ok (.ldc2_w 371, 3) := by decide +kernel
theorem dX13_isLetter_34 : decode cX13_isLetter 34 = .ok (.ldc2_w 373, 3) := by decide +kernel
theorem dX13_isLetter_37 : decode cX13_isLetter 37 = .ok (.invokestatic 64, 3) := by decide +kernel
theorem dX13_isLetter_40 : decode cX13_isLetter 40 = .ok (.ifCond .eq 7, 3) := by decide +kernel
theorem dX13_isLetter_43 : decode cX13_isLetter 43 = .ok (.iconst 1, 1) := by decide +kernel
theorem dX13_isLetter_44 : decode cX13_isLetter 44 = .ok (.goto 4, 3) := by decide +kernel
theorem dX13_isLetter_47 : decode cX13_isLetter 47 = .ok (.iconst 0, 1) := by decide +kernel
theorem dX13_isLetter_48 : decode cX13_isLetter 48 = .ok (.ireturn, 1) := by decide +kernel
theorem dX13_isVar_0 : decode cX13_isVar 0 = .ok (.aload_n 0, 1) := by decide +kernel
theorem dX13_isVar_1 : decode cX13_isVar 1 = .ok (.invokevirtual 375, 3) := by decide +kernel
theorem dX13_isVar_4 : decode cX13_isVar 4 = .ok (.ifCond .ne 13, 3) := by decide +kernel
theorem dX13_isVar_7 : decode cX13_isVar 7 = .ok (.aload_n 0, 1) := by decide +kernel
theorem dX13_isVar_8 : decode cX13_isVar 8 = .ok (.ldc_w 379, 3) := by decide +kernel
theorem dX13_isVar_11 : decode cX13_isVar 11 = .ok (.invokevirtual 76, 3) := by decide +kernel
theorem dX13_isVar_14 : decode cX13_isVar 14 = .ok (.ifCond .eq 7, 3) := by decide +kernel
theorem dX13_isVar_17 : decode cX13_isVar 17 = .ok (.iconst 1, 1) := by decide +kernel
theorem dX13_isVar_18 : decode cX13_isVar 18 = .ok (.goto 4, 3) := by decide +kernel
theorem dX13_isVar_21 : decode cX13_isVar 21 = .ok (.iconst 0, 1) := by decide +kernel
theorem dX13_isVar_22 : decode cX13_isVar 22 = .ok (.ireturn, 1) := by decide +kernel
theorem dX13_readVar_0 : decode cX13_readVar 0 = .ok (.aload_n 0, 1) := by decide +kernel
theorem dX13_readVar_1 : decode cX13_readVar 1 = .ok (.aload_n 0, 1) := by decide +kernel
theorem dX13_readVar_2 : decode cX13_readVar 2 = .ok (.invokevirtual 381, 3) := by decide +kernel
theorem dX13_readVar_5 : decode cX13_readVar 5 = .ok (.iconst 1, 1) := by decide +kernel
theorem dX13_readVar_6 : decode cX13_readVar 6 = .ok (.invokevirtual 60, 3) := by decide +kernel
theorem dX13_readVar_9 : decode cX13_readVar 9 = .ok (.aload_n 0, 1) := by decide +kernel
theorem dX13_readVar_10 : decode cX13_readVar 10 = .ok (.invokevirtual 375, 3) := by decide +kernel
theorem dX13_readVar_13 : decode cX13_readVar 13 = .ok (.ifCond .eq 50, 3) := by decide +kernel
theorem dX13_readVar_16 : decode cX13_readVar 16 = .ok (.aload_n 0, 1) := by decide +kernel
theorem dX13_readVar_17 : decode cX13_readVar 17 = .ok (.aload_n 0, 1) := by decide +kernel
theorem dX13_readVar_18 : decode cX13_readVar 18 = .ok (.getfield 20, 3) := by decide +kernel
theorem dX13_readVar_21 : decode cX13_readVar 21 = .ok (.aload_n 0, 1) := by decide +kernel
theorem dX13_readVar_22 : decode cX13_readVar 22 = .ok (.getfield 7, 3) := by decide +kernel
theorem dX13_readVar_25 : decode cX13_readVar 25 = .ok (.baload, 1) := by decide +kernel
theorem dX13_readVar_26 : decode cX13_readVar 26 = .ok (.invokestatic 384, 3) := by decide +kernel
theorem dX13_readVar_29 : decode cX13_readVar 29 = .ok (.putfield 387, 3) := by decide +kernel
theorem dX13_readVar_32 : decode cX13_readVar 32 = .ok (.aload_n 0, 1) := by decide +kernel
theorem dX13_readVar_33 : decode cX13_readVar 33 = .ok (.iconst 0, 1) := by decide +kernel
theorem dX13_readVar_34 : decode cX13_readVar 34 = .ok (.putfield 390, 3) := by decide +kernel
theorem dX13_readVar_37 : decode cX13_readVar 37 = .ok (.aload_n 0, 1) := by decide +kernel
theorem dX13_readVar_38 : decode cX13_readVar 38 = .ok (.iload_n 1, 1) := by decide +kernel
theorem dX13_readVar_39 : decode cX13_readVar 39 = .ok (.aload_n 0, 1) := by decide +kernel
theorem dX13_readVar_40 : decode cX13_readVar 40 = .ok (.getfield 387, 3) := by decide +kernel
theorem dX13_readVar_43 : decode cX13_readVar 43 = .ok (.ishr, 1) := by decide +kernel
theorem dX13_readVar_44 : decode cX13_readVar 44 = .ok (.iconst 1, 1) := by decide +kernel
theorem dX13_readVar_45 : decode cX13_readVar 45 = .ok (.iand, 1) := by decide +kernel
theorem dX13_readVar_46 : decode cX13_readVar 46 = .ok (.ifCond .ne 7, 3) := by decide +kernel
theorem dX13_readVar_49 : decode cX13_readVar 49 = .ok (.iconst 1, 1) := by decide +kernel
theorem dX13_readVar_50 : decode cX13_readVar 50 = .ok (.goto 4, 3) := by decide +kernel
theorem dX13_readVar_53 : decode cX13_readVar 53 = .ok (.iconst 0, 1) := by decide +kernel
theorem dX13_readVar_54 : decode cX13_readVar 54 = .ok (.iconst 3, 1) := by decide +kernel
theorem dX13_readVar_55 : decode cX13_readVar 55 = .ok (.invokevirtual 60, 3) := by decide +kernel
theorem dX13_readVar_58 : decode cX13_readVar 58 = .ok (.aload_n 0, 1) := by decide +kernel
theorem dX13_readVar_59 : decode cX13_readVar 59 = .ok (.invokevirtual 72, 3) := by decide +kernel
theorem dX13_readVar_62 : decode cX13_readVar 62 = .ok (.return_, 1) := by decide +kernel
theorem dX13_readVar_63 : decode cX13_readVar 63 = .ok (.aload_n 0, 1) := by decide +kernel
theorem dX13_readVar_64 : decode cX13_readVar 64 = .ok (.iload_n 1, 1) := by decide +kernel
theorem dX13_readVar_65 : decode cX13_readVar 65 = .ok (.bipush 8, 2) := by decide +kernel
theorem dX13_readVar_67 : decode cX13_readVar 67 = .ok (.ishr, 1) := by decide +kernel
theorem dX13_readVar_68 : decode cX13_readVar 68 = .ok (.iconst 1, 1) := by decide +kernel
theorem dX13_readVar_69 : decode cX13_readVar 69 = .ok (.iand, 1) := by decide +kernel
theorem dX13_readVar_70 : decode cX13_readVar 70 = .ok (.ifCond .ne 7, 3) := by decide +kernel
theorem dX13_readVar_73 : decode cX13_readVar 73 = .ok (.iconst 1, 1) := by decide +kernel
theorem dX13_readVar_74 : decode cX13_readVar 74 = .ok (.goto 4, 3) := by decide +kernel
theorem dX13_readVar_77 : decode cX13_readVar 77 = .ok (.iconst 0, 1) := by decide +kernel
theorem dX13_readVar_78 : decode cX13_readVar 78 = .ok (.iconst 3, 1) := by decide +kernel
theorem dX13_readVar_79 : decode cX13_readVar 79 = .ok (.invokevirtual 60, 3) := by decide +kernel
theorem dX13_readVar_82 : decode cX13_readVar 82 = .ok (.aload_n 0, 1) := by decide +kernel
theorem dX13_readVar_83 : decode cX13_readVar 83 = .ok (.invokevirtual 72, 3) := by decide +kernel
theorem dX13_readVar_86 : decode cX13_readVar 86 = .ok (.aload_n 0, 1) := by decide +kernel
theorem dX13_readVar_87 : decode cX13_readVar 87 = .ok (.bipush 91, 2) := by decide +kernel
theorem dX13_readVar_89 : decode cX13_readVar 89 = .ok (.invokevirtual 111, 3) := by decide +kernel
theorem dX13_readVar_92 : decode cX13_readVar 92 = .ok (.aload_n 0, 1) := by decide +kernel
theorem dX13_readVar_93 : decode cX13_readVar 93 = .ok (.invokevirtual 375, 3) := by decide +kernel
theorem dX13_readVar_96 : decode cX13_readVar 96 = .ok (.ifCond .eq 53, 3) := by decide +kernel
theorem dX13_readVar_99 : decode cX13_readVar 99 = .ok (.aload_n 0, 1) := by decide +kernel
theorem dX13_readVar_100 : decode cX13_readVar 100 = .ok (.bipush 9, 2) := by decide +kernel
theorem dX13_readVar_102 : decode cX13_readVar 102 = .ok (.putfield 387, 3) := by decide +kernel
theorem dX13_readVar_105 : decode cX13_readVar 105 = .ok (.aload_n 0, 1) := by decide +kernel
theorem dX13_readVar_106 : decode cX13_readVar 106 = .ok (.aload_n 0, 1) := by decide +kernel
theorem dX13_readVar_107 : decode cX13_readVar 107 = .ok (.getfield 20, 3) := by decide +kernel
theorem dX13_readVar_110 : decode cX13_readVar 110 = .ok (.aload_n 0, 1) := by decide +kernel
theorem dX13_readVar_111 : decode cX13_readVar 111 = .ok (.getfield 7, 3) := by decide +kernel
theorem dX13_readVar_114 : decode cX13_readVar 114 = .ok (.baload, 1) := by decide +kernel
theorem dX13_readVar_115 : decode cX13_readVar 115 = .ok (.invokestatic 384, 3) := by decide +kernel
theorem dX13_readVar_118 : decode cX13_readVar 118 = .ok (.putfield 390, 3) := by decide +kernel
theorem dX13_readVar_121 : decode cX13_readVar 121 = .ok (.aload_n 0, 1) := by decide +kernel
theorem dX13_readVar_122 : decode cX13_readVar 122 = .ok (.iload_n 1, 1) := by decide +kernel
theorem dX13_readVar_123 : decode cX13_readVar 123 = .ok (.aload_n 0, 1) := by decide +kernel
theorem dX13_readVar_124 : decode cX13_readVar 124 = .ok (.getfield 390, 3) := by decide +kernel
theorem dX13_readVar_127 : decode cX13_readVar 127 = .ok (.ishr, 1) := by decide +kernel
theorem dX13_readVar_128 : decode cX13_readVar 128 = .ok (.iconst 1, 1) := by decide +kernel
theorem dX13_readVar_129 : decode cX13_readVar 129 = .ok (.iand, 1) := by decide +kernel
theorem dX13_readVar_130 : decode cX13_readVar 130 = .ok (.ifCond .ne 7, 3) := by decide +kernel
theorem dX13_readVar_133 : decode cX13_readVar 133 = .ok (.iconst 1, 1) := by decide +kernel
theorem dX13_readVar_134 : decode cX13_readVar 134 = .ok (.goto 4, 3) := by decide +kernel
theorem dX13_readVar_137 : decode cX13_readVar 137 = .ok (.iconst 0, 1) := by decide +kernel
theorem dX13_readVar_138 : decode cX13_readVar 138 = .ok (.iconst 3, 1) := by decide +kernel
theorem dX13_readVar_139 : decode cX13_readVar 139 = .ok (.invokevirtual 60, 3) := by decide +kernel
theorem dX13_readVar_142 : decode cX13_readVar 142 = .ok (.aload_n 0, 1) := by decide +kernel
theorem dX13_readVar_143 : decode cX13_readVar 143 = .ok (.invokevirtual 72, 3) := by decide +kernel
theorem dX13_readVar_146 : decode cX13_readVar 146 = .ok (.goto 20, 3) := by decide +kernel
theorem dX13_readVar_149 : decode cX13_readVar 149 = .ok (.aload_n 0, 1) := by decide +kernel
theorem dX13_readVar_150 : decode cX13_readVar 150 = .ok (.bipush 8, 2) := by decide +kernel
theorem dX13_readVar_152 : decode cX13_readVar 152 = .ok (.putfield 387, 3) := by decide +kernel
theorem dX13_readVar_155 : decode cX13_readVar 155 = .ok (.aload_n 0, 1) := by decide +kernel
theorem dX13_readVar_156 : decode cX13_readVar 156 = .ok (.aload_n 0, 1) := by decide +kernel
theorem dX13_readVar_157 : decode cX13_readVar 157 = .ok (.iconst 0, 1) := by decide +kernel
theorem dX13_readVar_158 : decode cX13_readVar 158 = .ok (.bipush 9, 2) := by decide +kernel
theorem dX13_readVar_160 : decode cX13_readVar 160 = .ok (.invokevirtual 124, 3) := by decide +kernel
theorem dX13_readVar_163 : decode cX13_readVar 163 = .ok (.putfield 390, 3) := by decide +kernel
theorem dX13_readVar_166 : decode cX13_readVar 166 = .ok (.aload_n 0, 1) := by decide +kernel
theorem dX13_readVar_167 : decode cX13_readVar 167 = .ok (.bipush 93, 2) := by decide +kernel
theorem dX13_readVar_169 : decode cX13_readVar 169 = .ok (.invokevirtual 111, 3) := by decide +kernel
theorem dX13_readVar_172 : decode cX13_readVar 172 = .ok (.return_, 1) := by decide +kernel
theorem dX13_mark_0 : decode cX13_mark 0 = .ok (.sipush 1000, 3) := by decide +kernel
theorem dX13_mark_3 : decode cX13_mark 3 = .ok (.aload_n 0, 1) := by decide +kernel
theorem dX13_mark_4 : decode cX13_mark 4 = .ok (.getfield 393, 3) := by decide +kernel
theorem dX13_mark_7 : decode cX13_mark 7 = .ok (.iadd, 1) := by decide +kernel
theorem dX13_mark_8 : decode cX13_mark 8 = .ok (.istore 4, 2) := by decide +kernel
theorem dX13_mark_10 : decode cX13_mark 10 = .ok (.aload_n 0, 1) := by decide +kernel
theorem dX13_mark_11 : decode cX13_mark 11 = .ok (.getfield 206, 3) := by decide +kernel
theorem dX13_mark_14 : decode cX13_mark 14 = .ok (.iload 4, 2) := by decide +kernel
theorem dX13_mark_16 : decode cX13_mark 16 = .ok (.iload_n 1, 1) := by decide +kernel
theorem dX13_mark_17 : decode cX13_mark 17 = .ok (.iastore, 1) := by decide +kernel
theorem dX13_mark_18 : decode cX13_mark 18 = .ok (.aload_n 0, 1) := by decide +kernel
theorem dX13_mark_19 : decode cX13_mark 19 = .ok (.getfield 209, 3) := by decide +kernel
theorem dX13_mark_22 : decode cX13_mark 22 = .ok (.iload 4, 2) := by decide +kernel
theorem dX13_mark_24 : decode cX13_mark 24 = .ok (.iload_n 2, 1) := by decide +kernel
theorem dX13_mark_25 : decode cX13_mark 25 = .ok (.iastore, 1) := by decide +kernel
theorem dX13_mark_26 : decode cX13_mark 26 = .ok (.aload_n 0, 1) := by decide +kernel
theorem dX13_mark_27 : decode cX13_mark 27 = .ok (.getfield 212, 3) := by decide +kernel
theorem dX13_mark_30 : decode cX13_mark 30 = .ok (.iload 4, 2) := by decide +kernel
theorem dX13_mark_32 : decode cX13_mark 32 = .ok (.iload_n 3, 1) := by decide +kernel
theorem dX13_mark_33 : decode cX13_mark 33 = .ok (.iastore, 1) := by decide +kernel
theorem dX13_mark_34 : decode cX13_mark 34 = .ok (.aload_n 0, 1) := by decide +kernel
theorem dX13_mark_35 : decode cX13_mark 35 = .ok (.dup, 1) := by decide +kernel
theorem dX13_mark_36 : decode cX13_mark 36 = .ok (.getfield 393, 3) := by decide +kernel
theorem dX13_mark_39 : decode cX13_mark 39 = .ok (.iconst 1, 1) := by decide +kernel
theorem dX13_mark_40 : decode cX13_mark 40 = .ok (.iadd, 1) := by decide +kernel
theorem dX13_mark_41 : decode cX13_mark 41 = .ok (.putfield 393, 3) := by decide +kernel
theorem dX13_mark_44 : decode cX13_mark 44 = .ok (.return_, 1) := by decide +kernel
theorem dX13_readFactor_0 : decode cX13_readFactor 0 = .ok (.aload_n 0, 1) := by decide +kernel
theorem dX13_readFactor_1 : decode cX13_readFactor 1 = .ok (.bipush 40, 2) := by decide +kernel
theorem dX13_readFactor_3 : decode cX13_readFactor 3 = .ok (.invokevirtual 80, 3) := by decide +kernel
theorem dX13_readFactor_6 : decode cX13_readFactor 6 = .ok (.ifCond .eq 57, 3) := by decide +kernel
theorem dX13_readFactor_9 : decode cX13_readFactor 9 = .ok (.aload_n 0, 1) := by decide +kernel
theorem dX13_readFactor_10 : decode cX13_readFactor 10 = .ok (.aload_n 0, 1) := by decide +kernel
theorem dX13_readFactor_11 : decode cX13_readFactor 11 = .ok (.getfield 396, 3) := by decide +kernel
theorem dX13_readFactor_14 : decode cX13_readFactor 14 = .ok (.bipush 6, 2) := by decide +kernel
theorem dX13_readFactor_16 : decode cX13_readFactor 16 = .ok (.if_icmp .ge 7, 3) := by decide +kernel
theorem dX13_readFactor_19 : decode cX13_readFactor 19 = .ok (.iconst 1, 1) := by decide +kernel
theorem dX13_readFactor_20 : decode cX13_readFactor 20 = .ok (.goto 4, 3) := by decide +kernel
theorem dX13_readFactor_23 : decode cX13_readFactor 23 = .ok (.iconst 0, 1) := by decide +kernel
theorem dX13_readFactor_24 : decode cX13_readFactor 24 = .ok (.iconst 4, 1) := by decide +kernel
theorem dX13_readFactor_25 : decode cX13_readFactor 25 = .ok (.invokevirtual 60, 3) := by decide +kernel
theorem dX13_readFactor_28 : decode cX13_readFactor 28 = .ok (.aload_n 0, 1) := by decide +kernel
theorem dX13_readFactor_29 : decode cX13_readFactor 29 = .ok (.dup, 1) := by decide +kernel
theorem dX13_readFactor_30 : decode cX13_readFactor 30 = .ok (.getfield 396, 3) := by decide +kernel
theorem dX13_readFactor_33 : decode cX13_readFactor 33 = .ok (.iconst 1, 1) := by decide +kernel
theorem dX13_readFactor_34 : decode cX13_readFactor 34 = .ok (.iadd, 1) := by decide +kernel
theorem dX13_readFactor_35 : decode cX13_readFactor 35 = .ok (.putfield 396, 3) := by decide +kernel
theorem dX13_readFactor_38 : decode cX13_readFactor 38 = .ok (.aload_n 0, 1) := by decide +kernel
theorem dX13_readFactor_39 : decode cX13_readFactor 39 = .ok (.invokevirtual 72, 3) := by decide +kernel
theorem dX13_readFactor_42 : decode cX13_readFactor 42 = .ok (.aload_n 0, 1) := by decide +kernel
theorem dX13_readFactor_43 : decode cX13_readFactor 43 = .ok (.invokevirtual 399, 3) := by decide +kernel
theorem dX13_readFactor_46 : decode cX13_readFactor 46 = .ok (.aload_n 0, 1) := by decide +kernel
theorem dX13_readFactor_47 : decode cX13_readFactor 47 = .ok (.bipush 41, 2) := by decide +kernel
theorem dX13_readFactor_49 : decode cX13_readFactor 49 = .ok (.invokevirtual 111, 3) := by decide +kernel
theorem dX13_readFactor_52 : decode cX13_readFactor 52 = .ok (.aload_n 0, 1) := by decide +kernel
theorem dX13_readFactor_53 : decode cX13_readFactor 53 = .ok (.dup, 1) := by decide +kernel
theorem dX13_readFactor_54 : decode cX13_readFactor 54 = .ok (.getfield 396, 3) := by decide +kernel
theorem dX13_readFactor_57 : decode cX13_readFactor 57 = .ok (.iconst 1, 1) := by decide +kernel
theorem dX13_readFactor_58 : decode cX13_readFactor 58 = .ok (.isub, 1) := by decide +kernel
theorem dX13_readFactor_59 : decode cX13_readFactor 59 = .ok (.putfield 396, 3) := by decide +kernel
theorem dX13_readFactor_62 : decode cX13_readFactor 62 = .ok (.return_, 1) := by decide +kernel
theorem dX13_readFactor_63 : decode cX13_readFactor 63 = .ok (.aload_n 0, 1) := by decide +kernel
theorem dX13_readFactor_64 : decode cX13_readFactor 64 = .ok (.aload_n 0, 1) := by decide +kernel
theorem dX13_readFactor_65 : decode cX13_readFactor 65 = .ok (.getfield 31, 3) := by decide +kernel
theorem dX13_readFactor_68 : decode cX13_readFactor 68 = .ok (.iconst 2, 1) := by decide +kernel
theorem dX13_readFactor_69 : decode cX13_readFactor 69 = .ok (.if_icmp .eq 10, 3) := by decide +kernel
theorem dX13_readFactor_72 : decode cX13_readFactor 72 = .ok (.aload_n 0, 1) := by decide +kernel
theorem dX13_readFactor_73 : decode cX13_readFactor 73 = .ok (.invokevirtual 381, 3) := by decide +kernel
theorem dX13_readFactor_76 : decode cX13_readFactor 76 = .ok (.ifCond .eq 7, 3) := by decide +kernel
theorem dX13_readFactor_79 : decode cX13_readFactor 79 = .ok (.iconst 1, 1) := by decide +kernel
theorem dX13_readFactor_80 : decode cX13_readFactor 80 = .ok (.goto 4, 3) := by decide +kernel
theorem dX13_readFactor_83 : decode cX13_readFactor 83 = .ok (.iconst 0, 1) := by decide +kernel
theorem dX13_readFactor_84 : decode cX13_readFactor 84 = .ok (.iconst 1, 1) := by decide +kernel
theorem dX13_readFactor_85 : decode cX13_readFactor 85 = .ok (.invokevirtual 60, 3) := by decide +kernel
theorem dX13_readFactor_88 : decode cX13_readFactor 88 = .ok (.aload_n 0, 1) := by decide +kernel
theorem dX13_readFactor_89 : decode cX13_readFactor 89 = .ok (.getfield 31, 3) := by decide +kernel
theorem dX13_readFactor_92 : decode cX13_readFactor 92 = .ok (.iconst 2, 1) := by decide +kernel
theorem dX13_readFactor_93 : decode cX13_readFactor 93 = .ok (.if_icmp .ne 47, 3) := by decide +kernel
theorem dX13_readFactor_96 : decode cX13_readFactor 96 = .ok (.aload_n 0, 1) := by decide +kernel
theorem dX13_readFactor_97 : decode cX13_readFactor 97 = .ok (.aload_n 0, 1) := by decide +kernel
theorem dX13_readFactor_98 : decode cX13_readFactor 98 = .ok (.getfield 402, 3) := by decide +kernel
theorem dX13_readFactor_101 : decode cX13_readFactor 101 = .ok (.bipush 12, 2) := by decide +kernel
theorem dX13_readFactor_103 : decode cX13_readFactor 103 = .ok (.if_icmp .ge 7, 3) := by decide +kernel
theorem dX13_readFactor_106 : decode cX13_readFactor 106 = .ok (.iconst 1, 1) := by decide +kernel
theorem dX13_readFactor_107 : decode cX13_readFactor 107 = .ok (.goto 4, 3) := by decide +kernel
theorem dX13_readFactor_110 : decode cX13_readFactor 110 = .ok (.iconst 0, 1) := by decide +kernel
theorem dX13_readFactor_111 : decode cX13_readFactor 111 = .ok (.iconst 4, 1) := by decide +kernel
theorem dX13_readFactor_112 : decode cX13_readFactor 112 = .ok (.invokevirtual 60, 3) := by decide +kernel
theorem dX13_readFactor_115 : decode cX13_readFactor 115 = .ok (.aload_n 0, 1) := by decide +kernel
theorem dX13_readFactor_116 : decode cX13_readFactor 116 = .ok (.dup, 1) := by decide +kernel
theorem dX13_readFactor_117 : decode cX13_readFactor 117 = .ok (.getfield 402, 3) := by decide +kernel
theorem dX13_readFactor_120 : decode cX13_readFactor 120 = .ok (.iconst 1, 1) := by decide +kernel
theorem dX13_readFactor_121 : decode cX13_readFactor 121 = .ok (.iadd, 1) := by decide +kernel
theorem dX13_readFactor_122 : decode cX13_readFactor 122 = .ok (.putfield 402, 3) := by decide +kernel
theorem dX13_readFactor_125 : decode cX13_readFactor 125 = .ok (.aload_n 0, 1) := by decide +kernel
theorem dX13_readFactor_126 : decode cX13_readFactor 126 = .ok (.iconst 0, 1) := by decide +kernel
theorem dX13_readFactor_127 : decode cX13_readFactor 127 = .ok (.aload_n 0, 1) := by decide +kernel
theorem dX13_readFactor_128 : decode cX13_readFactor 128 = .ok (.getfield 41, 3) := by decide +kernel
theorem dX13_readFactor_131 : decode cX13_readFactor 131 = .ok (.iconst 0, 1) := by decide +kernel
theorem dX13_readFactor_132 : decode cX13_readFactor 132 = .ok (.invokevirtual 405, 3) := by decide +kernel
theorem dX13_readFactor_135 : decode cX13_readFactor 135 = .ok (.aload_n 0, 1) := by decide +kernel
theorem dX13_readFactor_136 : decode cX13_readFactor 136 = .ok (.invokevirtual 72, 3) := by decide +kernel
theorem dX13_readFactor_139 : decode cX13_readFactor 139 = .ok (.return_, 1) := by decide +kernel
theorem dX13_readFactor_140 : decode cX13_readFactor 140 = .ok (.aload_n 0, 1) := by decide +kernel
theorem dX13_readFactor_141 : decode cX13_readFactor 141 = .ok (.invokevirtual 375, 3) := by decide +kernel
theorem dX13_readFactor_144 : decode cX13_readFactor 144 = .ok (.ifCond .eq 34, 3) := by decide +kernel
theorem dX13_readFactor_147 : decode cX13_readFactor 147 = .ok (.aload_n 0, 1) := by decide +kernel
theorem dX13_readFactor_148 : decode cX13_readFactor 148 = .ok (.getfield 408, 3) := by decide +kernel
theorem dX13_readFactor_151 : decode cX13_readFactor 151 = .ok (.aload_n 0, 1) := by decide +kernel
theorem dX13_readFactor_152 : decode cX13_readFactor 152 = .ok (.getfield 20, 3) := by decide +kernel
theorem dX13_readFactor_155 : decode cX13_readFactor 155 = .ok (.aload_n 0, 1) := by decide +kernel
theorem dX13_readFactor_156 : decode cX13_readFactor 156 = .ok (.getfield 7, 3) := by decide +kernel
theorem dX13_readFactor_159 : decode cX13_readFactor 159 = .ok (.baload, 1) := by decide +kernel
theorem dX13_readFactor_160 : decode cX13_readFactor 160 = .ok (.invokestatic 384, 3) := by decide +kernel
theorem dX13_readFactor_163 : decode cX13_readFactor 163 = .ok (.ishr, 1) := by decide +kernel
theorem dX13_readFactor_164 : decode cX13_readFactor 164 = .ok (.iconst 1, 1) := by decide +kernel
theorem dX13_readFactor_165 : decode cX13_readFactor 165 = .ok (.iand, 1) := by decide +kernel
theorem dX13_readFactor_166 : decode cX13_readFactor 166 = .ok (.iconst 1, 1) := by decide +kernel
theorem dX13_readFactor_167 : decode cX13_readFactor 167 = .ok (.if_icmp .ne 7, 3) := by decide +kernel
theorem dX13_readFactor_170 : decode cX13_readFactor 170 = .ok (.iconst 1, 1) := by decide +kernel
theorem dX13_readFactor_171 : decode cX13_readFactor 171 = .ok (.goto 25, 3) := by decide +kernel
theorem dX13_readFactor_174 : decode cX13_readFactor 174 = .ok (.iconst 0, 1) := by decide +kernel
theorem dX13_readFactor_175 : decode cX13_readFactor 175 = .ok (.goto 21, 3) := by decide +kernel
theorem dX13_readFactor_178 : decode cX13_readFactor 178 = .ok (.aload_n 0, 1) := by decide +kernel
theorem dX13_readFactor_179 : decode cX13_readFactor 179 = .ok (.getfield 408, 3) := by decide +kernel
theorem dX13_readFactor_182 : decode cX13_readFactor 182 = .ok (.bipush 8, 2) := by decide +kernel
theorem dX13_readFactor_184 : decode cX13_readFactor 184 = .ok (.ishr, 1) := by decide +kernel
theorem dX13_readFactor_185 : decode cX13_readFactor 185 = .ok (.iconst 1, 1) := by decide +kernel
theorem dX13_readFactor_186 : decode cX13_readFactor 186 = .ok (.iand, 1) := by decide +kernel
theorem dX13_readFactor_187 : decode cX13_readFactor 187 = .ok (.iconst 1, 1) := by decide +kernel
theorem dX13_readFactor_188 : decode cX13_readFactor 188 = .ok (.if_icmp .ne 7, 3) := by decide +kernel
theorem dX13_readFactor_191 : decode cX13_readFactor 191 = .ok (.iconst 1, 1) := by decide +kernel
theorem dX13_readFactor_192 : decode cX13_readFactor 192 = .ok (.goto 4, 3) := by decide +kernel
theorem dX13_readFactor_195 : decode cX13_readFactor 195 = .ok (.iconst 0, 1) := by decide +kernel
theorem dX13_readFactor_196 : decode cX13_readFactor 196 = .ok (.istore_n 1, 1) := by decide +kernel
theorem dX13_readFactor_197 : decode cX13_readFactor 197 = .ok (.aload_n 0, 1) := by decide +kernel
theorem dX13_readFactor_198 : decode cX13_readFactor 198 = .ok (.iload_n 1, 1) := by decide +kernel
theorem dX13_readFactor_199 : decode cX13_readFactor 199 = .ok (.ifCond .ne 7, 3) := by decide +kernel
theorem dX13_readFactor_202 : decode cX13_readFactor 202 = .ok (.iconst 1, 1) := by decide +kernel
theorem dX13_readFactor_203 : decode cX13_readFactor 203 = .ok (.goto 4, 3) := by decide +kernel
theorem dX13_readFactor_206 : decode cX13_readFactor 206 = .ok (.iconst 0, 1) := by decide +kernel
theorem dX13_readFactor_207 : decode cX13_readFactor 207 = .ok (.iconst 3, 1) := by decide +kernel
theorem dX13_readFactor_208 : decode cX13_readFactor 208 = .ok (.invokevirtual 60, 3) := by decide +kernel
theorem dX13_readFactor_211 : decode cX13_readFactor 211 = .ok (.aload_n 0, 1) := by decide +kernel
theorem dX13_readFactor_212 : decode cX13_readFactor 212 = .ok (.aload_n 0, 1) := by decide +kernel
theorem dX13_readFactor_213 : decode cX13_readFactor 213 = .ok (.getfield 402, 3) := by decide +kernel
theorem dX13_readFactor_216 : decode cX13_readFactor 216 = .ok (.bipush 12, 2) := by decide +kernel
theorem dX13_readFactor_218 : decode cX13_readFactor 218 = .ok (.if_icmp .ge 7, 3) := by decide +kernel
theorem dX13_readFactor_221 : decode cX13_readFactor 221 = .ok (.iconst 1, 1) := by decide +kernel
theorem dX13_readFactor_222 : decode cX13_readFactor 222 = .ok (.goto 4, 3) := by decide +kernel
theorem dX13_readFactor_225 : decode cX13_readFactor 225 = .ok (.iconst 0, 1) := by decide +kernel
theorem dX13_readFactor_226 : decode cX13_readFactor 226 = .ok (.iconst 4, 1) := by decide +kernel
theorem dX13_readFactor_227 : decode cX13_readFactor 227 = .ok (.invokevirtual 60, 3) := by decide +kernel
theorem dX13_readFactor_230 : decode cX13_readFactor 230 = .ok (.aload_n 0, 1) := by decide +kernel
theorem dX13_readFactor_231 : decode cX13_readFactor 231 = .ok (.dup, 1) := by decide +kernel
theorem dX13_readFactor_232 : decode cX13_readFactor 232 = .ok (.getfield 402, 3) := by decide +kernel
theorem dX13_readFactor_235 : decode cX13_readFactor 235 = .ok (.iconst 1, 1) := by decide +kernel
theorem dX13_readFactor_236 : decode cX13_readFactor 236 = .ok (.iadd, 1) := by decide +kernel
theorem dX13_readFactor_237 : decode cX13_readFactor 237 = .ok (.putfield 402, 3) := by decide +kernel
theorem dX13_readFactor_240 : decode cX13_readFactor 240 = .ok (.aload_n 0, 1) := by decide +kernel
theorem dX13_readFactor_241 : decode cX13_readFactor 241 = .ok (.aload_n 0, 1) := by decide +kernel
theorem dX13_readFactor_242 : decode cX13_readFactor 242 = .ok (.getfield 408, 3) := by decide +kernel
theorem dX13_readFactor_245 : decode cX13_readFactor 245 = .ok (.invokevirtual 411, 3) := by decide +kernel
theorem dX13_readFactor_248 : decode cX13_readFactor 248 = .ok (.aload_n 0, 1) := by decide +kernel
theorem dX13_readFactor_249 : decode cX13_readFactor 249 = .ok (.iconst 1, 1) := by decide +kernel
theorem dX13_readFactor_250 : decode cX13_readFactor 250 = .ok (.aload_n 0, 1) := by decide +kernel
theorem dX13_readFactor_251 : decode cX13_readFactor 251 = .ok (.getfield 387, 3) := by decide +kernel
theorem dX13_readFactor_254 : decode cX13_readFactor 254 = .ok (.aload_n 0, 1) := by decide +kernel
theorem dX13_readFactor_255 : decode cX13_readFactor 255 = .ok (.getfield 390, 3) := by decide +kernel
theorem dX13_readFactor_258 : decode cX13_readFactor 258 = .ok (.invokevirtual 405, 3) := by decide +kernel
theorem dX13_readFactor_261 : decode cX13_readFactor 261 = .ok (.return_, 1) := by decide +kernel
theorem dX13_isOperator_0 : decode cX13_isOperator 0 = .ok (.aload_n 0, 1) := by decide +kernel
theorem dX13_isOperator_1 : decode cX13_isOperator 1 = .ok (.bipush 43, 2) := by decide +kernel
theorem dX13_isOperator_3 : decode cX13_isOperator 3 = .ok (.invokevirtual 80, 3) := by decide +kernel
theorem dX13_isOperator_6 : decode cX13_isOperator 6 = .ok (.ifCond .ne 48, 3) := by decide +kernel
theorem dX13_isOperator_9 : decode cX13_isOperator 9 = .ok (.aload_n 0, 1) := by decide +kernel
theorem dX13_isOperator_10 : decode cX13_isOperator 10 = .ok (.bipush 45, 2) := by decide +kernel
theorem dX13_isOperator_12 : decode cX13_isOperator 12 = .ok (.invokevirtual 80, 3) := by decide +kernel
theorem dX13_isOperator_15 : decode cX13_isOperator 15 = .ok (.ifCond .ne 39, 3) := by decide +kernel
theorem dX13_isOperator_18 : decode cX13_isOperator 18 = .ok (.aload_n 0, 1) := by decide +kernel
theorem dX13_isOperator_19 : decode cX13_isOperator 19 = .ok (.bipush 42, 2) := by decide +kernel
theorem dX13_isOperator_21 : decode cX13_isOperator 21 = .ok (.invokevirtual 80, 3) := by decide +kernel
theorem dX13_isOperator_24 : decode cX13_isOperator 24 = .ok (.ifCond .ne 30, 3) := by decide +kernel
theorem dX13_isOperator_27 : decode cX13_isOperator 27 = .ok (.aload_n 0, 1) := by decide +kernel
theorem dX13_isOperator_28 : decode cX13_isOperator 28 = .ok (.bipush 47, 2) := by decide +kernel
theorem dX13_isOperator_30 : decode cX13_isOperator 30 = .ok (.invokevirtual 80, 3) := by decide +kernel
theorem dX13_isOperator_33 : decode cX13_isOperator 33 = .ok (.ifCond .ne 21, 3) := by decide +kernel
theorem dX13_isOperator_36 : decode cX13_isOperator 36 = .ok (.aload_n 0, 1) := by decide +kernel
theorem dX13_isOperator_37 : decode cX13_isOperator 37 = .ok (.bipush 37, 2) := by decide +kernel
theorem dX13_isOperator_39 : decode cX13_isOperator 39 = .ok (.invokevirtual 80, 3) := by decide +kernel
theorem dX13_isOperator_42 : decode cX13_isOperator 42 = .ok (.ifCond .ne 12, 3) := by decide +kernel
theorem dX13_isOperator_45 : decode cX13_isOperator 45 = .ok (.aload_n 0, 1) := by decide +kernel
theorem dX13_isOperator_46 : decode cX13_isOperator 46 = .ok (.bipush 38, 2) := by decide +kernel
theorem dX13_isOperator_48 : decode cX13_isOperator 48 = .ok (.invokevirtual 80, 3) := by decide +kernel
theorem dX13_isOperator_51 : decode cX13_isOperator 51 = .ok (.ifCond .eq 7, 3) := by decide +kernel
theorem dX13_isOperator_54 : decode cX13_isOperator 54 = .ok (.iconst 1, 1) := by decide +kernel
theorem dX13_isOperator_55 : decode cX13_isOperator 55 = .ok (.goto 4, 3) := by decide +kernel
theorem dX13_isOperator_58 : decode cX13_isOperator 58 = .ok (.iconst 0, 1) := by decide +kernel
theorem dX13_isOperator_59 : decode cX13_isOperator 59 = .ok (.ireturn, 1) := by decide +kernel
theorem dX13_readTerms_0 : decode cX13_readTerms 0 = .ok (.aload_n 0, 1) := by decide +kernel
theorem dX13_readTerms_1 : decode cX13_readTerms 1 = .ok (.invokevirtual 414, 3) := by decide +kernel
theorem dX13_readTerms_4 : decode cX13_readTerms 4 = .ok (.aload_n 0, 1) := by decide +kernel
theorem dX13_readTerms_5 : decode cX13_readTerms 5 = .ok (.invokevirtual 417, 3) := by decide +kernel
theorem dX13_readTerms_8 : decode cX13_readTerms 8 = .ok (.ifCond .eq 26, 3) := by decide +kernel
theorem dX13_readTerms_11 : decode cX13_readTerms 11 = .ok (.aload_n 0, 1) := by decide +kernel
theorem dX13_readTerms_12 : decode cX13_readTerms 12 = .ok (.getfield 41, 3) := by decide +kernel
theorem dX13_readTerms_15 : decode cX13_readTerms 15 = .ok (.istore_n 1, 1) := by decide +kernel
theorem dX13_readTerms_16 : decode cX13_readTerms 16 = .ok (.aload_n 0, 1) := by decide +kernel
theorem dX13_readTerms_17 : decode cX13_readTerms 17 = .ok (.invokevirtual 72, 3) := by decide +kernel
theorem dX13_readTerms_20 : decode cX13_readTerms 20 = .ok (.aload_n 0, 1) := by decide +kernel
theorem dX13_readTerms_21 : decode cX13_readTerms 21 = .ok (.invokevirtual 414, 3) := by decide +kernel
theorem dX13_readTerms_24 : decode cX13_readTerms 24 = .ok (.aload_n 0, 1) := by decide +kernel
theorem dX13_readTerms_25 : decode cX13_readTerms 25 = .ok (.iconst 2, 1) := by decide +kernel
theorem dX13_readTerms_26 : decode cX13_readTerms 26 = .ok (.iload_n 1, 1) := by decide +kernel
theorem dX13_readTerms_27 : decode cX13_readTerms 27 = .ok (.iconst 0, 1) := by decide +kernel
theorem dX13_readTerms_28 : decode cX13_readTerms 28 = .ok (.invokevirtual 405, 3) := by decide +kernel
theorem dX13_readTerms_31 : decode cX13_readTerms 31 = .ok (.goto (-27), 3) := by decide +kernel
theorem dX13_readTerms_34 : decode cX13_readTerms 34 = .ok (.return_, 1) := by decide +kernel
theorem dX13_readSum_0 : decode cX13_readSum 0 = .ok (.aload_n 0, 1) := by decide +kernel
theorem dX13_readSum_1 : decode cX13_readSum 1 = .ok (.iload_n 2, 1) := by decide +kernel
theorem dX13_readSum_2 : decode cX13_readSum 2 = .ok (.putfield 408, 3) := by decide +kernel
theorem dX13_readSum_5 : decode cX13_readSum 5 = .ok (.aload_n 0, 1) := by decide +kernel
theorem dX13_readSum_6 : decode cX13_readSum 6 = .ok (.iconst 0, 1) := by decide +kernel
theorem dX13_readSum_7 : decode cX13_readSum 7 = .ok (.putfield 402, 3) := by decide +kernel
theorem dX13_readSum_10 : decode cX13_readSum 10 = .ok (.aload_n 0, 1) := by decide +kernel
theorem dX13_readSum_11 : decode cX13_readSum 11 = .ok (.iconst 0, 1) := by decide +kernel
theorem dX13_readSum_12 : decode cX13_readSum 12 = .ok (.putfield 396, 3) := by decide +kernel
theorem dX13_readSum_15 : decode cX13_readSum 15 = .ok (.aload_n 0, 1) := by decide +kernel
theorem dX13_readSum_16 : decode cX13_readSum 16 = .ok (.getfield 191, 3) := by decide +kernel
theorem dX13_readSum_19 : decode cX13_readSum 19 = .ok (.iload_n 1, 1) := by decide +kernel
theorem dX13_readSum_20 : decode cX13_readSum 20 = .ok (.sipush 1000, 3) := by decide +kernel
theorem dX13_readSum_23 : decode cX13_readSum 23 = .ok (.aload_n 0, 1) := by decide +kernel
theorem dX13_readSum_24 : decode cX13_readSum 24 = .ok (.getfield 393, 3) := by decide +kernel
theorem dX13_readSum_27 : decode cX13_readSum 27 = .ok (.iadd, 1) := by decide +kernel
theorem dX13_readSum_28 : decode cX13_readSum 28 = .ok (.iastore, 1) := by decide +kernel
theorem dX13_readSum_29 : decode cX13_readSum 29 = .ok (.aload_n 0, 1) := by decide +kernel
theorem dX13_readSum_30 : decode cX13_readSum 30 = .ok (.invokevirtual 399, 3) := by decide +kernel
theorem dX13_readSum_33 : decode cX13_readSum 33 = .ok (.aload_n 0, 1) := by decide +kernel
theorem dX13_readSum_34 : decode cX13_readSum 34 = .ok (.getfield 194, 3) := by decide +kernel
theorem dX13_readSum_37 : decode cX13_readSum 37 = .ok (.iload_n 1, 1) := by decide +kernel
theorem dX13_readSum_38 : decode cX13_readSum 38 = .ok (.sipush 1000, 3) := by decide +kernel
theorem dX13_readSum_41 : decode cX13_readSum 41 = .ok (.aload_n 0, 1) := by decide +kernel
theorem dX13_readSum_42 : decode cX13_readSum 42 = .ok (.getfield 393, 3) := by decide +kernel
theorem dX13_readSum_45 : decode cX13_readSum 45 = .ok (.iadd, 1) := by decide +kernel
theorem dX13_readSum_46 : decode cX13_readSum 46 = .ok (.iastore, 1) := by decide +kernel
theorem dX13_readSum_47 : decode cX13_readSum 47 = .ok (.return_, 1) := by decide +kernel
theorem dX13_readTest_0 : decode cX13_readTest 0 = .ok (.iconst 4, 1) := by decide +kernel
theorem dX13_readTest_1 : decode cX13_readTest 1 = .ok (.iload_n 1, 1) := by decide +kernel
theorem dX13_readTest_2 : decode cX13_readTest 2 = .ok (.imul, 1) := by decide +kernel
theorem dX13_readTest_3 : decode cX13_readTest 3 = .ok (.iconst 2, 1) := by decide +kernel
theorem dX13_readTest_4 : decode cX13_readTest 4 = .ok (.iload_n 2, 1) := by decide +kernel
theorem dX13_readTest_5 : decode cX13_readTest 5 = .ok (.imul, 1) := by decide +kernel
theorem dX13_readTest_6 : decode cX13_readTest 6 = .ok (.iadd, 1) := by decide +kernel
theorem dX13_readTest_7 : decode cX13_readTest 7 = .ok (.istore_n 3, 1) := by decide +kernel
theorem dX13_readTest_8 : decode cX13_readTest 8 = .ok (.aload_n 0, 1) := by decide +kernel
theorem dX13_readTest_9 : decode cX13_readTest 9 = .ok (.iload_n 3, 1) := by decide +kernel
theorem dX13_readTest_10 : decode cX13_readTest 10 = .ok (.iconst 0, 1) := by decide +kernel
theorem dX13_readTest_11 : decode cX13_readTest 11 = .ok (.invokevirtual 420, 3) := by decide +kernel
theorem dX13_readTest_14 : decode cX13_readTest 14 = .ok (.aload_n 0, 1) := by decide +kernel
theorem dX13_readTest_15 : decode cX13_readTest 15 = .ok (.aload_n 0, 1) := by decide +kernel
theorem dX13_readTest_16 : decode cX13_readTest 16 = .ok (.bipush 61, 2) := by decide +kernel
theorem dX13_readTest_18 : decode cX13_readTest 18 = .ok (.invokevirtual 80, 3) := by decide +kernel
theorem dX13_readTest_21 : decode cX13_readTest 21 = .ok (.ifCond .ne 30, 3) := by decide +kernel
theorem dX13_readTest_24 : decode cX13_readTest 24 = .ok (.aload_n 0, 1) := by decide +kernel
theorem dX13_readTest_25 : decode cX13_readTest 25 = .ok (.bipush 60, 2) := by decide +kernel
theorem dX13_readTest_27 : decode cX13_readTest 27 = .ok (.invokevirtual 80, 3) := by decide +kernel
theorem dX13_readTest_30 : decode cX13_readTest 30 = .ok (.ifCond .ne 21, 3) := by decide +kernel
theorem dX13_readTest_33 : decode cX13_readTest 33 = .ok (.aload_n 0, 1) := by decide +kernel
theorem dX13_readTest_34 : decode cX13_readTest 34 = .ok (.bipush 62, 2) := by decide +kernel
theorem dX13_readTest_36 : decode cX13_readTest 36 = .ok (.invokevirtual 80, 3) := by decide +kernel
theorem dX13_readTest_39 : decode cX13_readTest 39 = .ok (.ifCond .ne 12, 3) := by decide +kernel
theorem dX13_readTest_42 : decode cX13_readTest 42 = .ok (.aload_n 0, 1) := by decide +kernel
theorem dX13_readTest_43 : decode cX13_readTest 43 = .ok (.bipush 33, 2) := by decide +kernel
theorem dX13_readTest_45 : decode cX13_readTest 45 = .ok (.invokevirtual 80, 3) := by decide +kernel
theorem dX13_readTest_48 : decode cX13_readTest 48 = .ok (.ifCond .eq 7, 3) := by decide +kernel
theorem dX13_readTest_51 : decode cX13_readTest 51 = .ok (.iconst 1, 1) := by decide +kernel
theorem dX13_readTest_52 : decode cX13_readTest 52 = .ok (.goto 4, 3) := by decide +kernel
theorem dX13_readTest_55 : decode cX13_readTest 55 = .ok (.iconst 0, 1) := by decide +kernel
theorem dX13_readTest_56 : decode cX13_readTest 56 = .ok (.iconst 1, 1) := by decide +kernel
theorem dX13_readTest_57 : decode cX13_readTest 57 = .ok (.invokevirtual 60, 3) := by decide +kernel
theorem dX13_readTest_60 : decode cX13_readTest 60 = .ok (.aload_n 0, 1) := by decide +kernel
theorem dX13_readTest_61 : decode cX13_readTest 61 = .ok (.getfield 197, 3) := by decide +kernel
theorem dX13_readTest_64 : decode cX13_readTest 64 = .ok (.iconst 2, 1) := by decide +kernel
theorem dX13_readTest_65 : decode cX13_readTest 65 = .ok (.iload_n 1, 1) := by decide +kernel
theorem dX13_readTest_66 : decode cX13_readTest 66 = .ok (.imul, 1) := by decide +kernel
theorem dX13_readTest_67 : decode cX13_readTest 67 = .ok (.iload_n 2, 1) := by decide +kernel
theorem dX13_readTest_68 : decode cX13_readTest 68 = .ok (.iadd, 1) := by decide +kernel
theorem dX13_readTest_69 : decode cX13_readTest 69 = .ok (.aload_n 0, 1) := by decide +kernel
theorem dX13_readTest_70 : decode cX13_readTest 70 = .ok (.getfield 41, 3) := by decide +kernel
theorem dX13_readTest_73 : decode cX13_readTest 73 = .ok (.iastore, 1) := by decide +kernel
theorem dX13_readTest_74 : decode cX13_readTest 74 = .ok (.aload_n 0, 1) := by decide +kernel
theorem dX13_readTest_75 : decode cX13_readTest 75 = .ok (.invokevirtual 72, 3) := by decide +kernel
theorem dX13_readTest_78 : decode cX13_readTest 78 = .ok (.aload_n 0, 1) := by decide +kernel
theorem dX13_readTest_79 : decode cX13_readTest 79 = .ok (.iload_n 3, 1) := by decide +kernel
theorem dX13_readTest_80 : decode cX13_readTest 80 = .ok (.iconst 1, 1) := by decide +kernel
theorem dX13_readTest_81 : decode cX13_readTest 81 = .ok (.iadd, 1) := by decide +kernel
theorem dX13_readTest_82 : decode cX13_readTest 82 = .ok (.iconst 0, 1) := by decide +kernel
theorem dX13_readTest_83 : decode cX13_readTest 83 = .ok (.invokevirtual 420, 3) := by decide +kernel
theorem dX13_readTest_86 : decode cX13_readTest 86 = .ok (.return_, 1) := by decide +kernel
theorem dX13_isHeld_0 : decode cX13_isHeld 0 = .ok (.aload_n 0, 1) := by decide +kernel
theorem dX13_isHeld_1 : decode cX13_isHeld 1 = .ok (.invokevirtual 423, 3) := by decide +kernel
theorem dX13_isHeld_4 : decode cX13_isHeld 4 = .ok (.iconst (-1), 1) := by decide +kernel
theorem dX13_isHeld_5 : decode cX13_isHeld 5 = .ok (.if_icmp .ne 33, 3) := by decide +kernel
theorem dX13_isHeld_8 : decode cX13_isHeld 8 = .ok (.aload_n 0, 1) := by decide +kernel
theorem dX13_isHeld_9 : decode cX13_isHeld 9 = .ok (.ldc_w 426, 3) := by decide +kernel
theorem dX13_isHeld_12 : decode cX13_isHeld 12 = .ok (.invokevirtual 76, 3) := by decide +kernel
theorem dX13_isHeld_15 : decode cX13_isHeld 15 = .ok (.ifCond .ne 23, 3) := by decide +kernel
theorem dX13_isHeld_18 : decode cX13_isHeld 18 = .ok (.aload_n 0, 1) := by decide +kernel
theorem dX13_isHeld_19 : decode cX13_isHeld 19 = .ok (.ldc_w 428, 3) := by decide +kernel
theorem dX13_isHeld_22 : decode cX13_isHeld 22 = .ok (.invokevirtual 76, 3) := by decide +kernel
theorem dX13_isHeld_25 : decode cX13_isHeld 25 = .ok (.ifCond .ne 13, 3) := by decide +kernel
theorem dX13_isHeld_28 : decode cX13_isHeld 28 = .ok (.aload_n 0, 1) := by decide +kernel
theorem dX13_isHeld_29 : decode cX13_isHeld 29 = .ok (.ldc_w 429, 3) := by decide +kernel
theorem dX13_isHeld_32 : decode cX13_isHeld 32 = .ok (.invokevirtual 76, 3) := by decide +kernel
theorem dX13_isHeld_35 : decode cX13_isHeld 35 = .ok (.ifCond .eq 5, 3) := by decide +kernel
theorem dX13_isHeld_38 : decode cX13_isHeld 38 = .ok (.iconst 1, 1) := by decide +kernel
theorem dX13_isHeld_39 : decode cX13_isHeld 39 = .ok (.ireturn, 1) := by decide +kernel
theorem dX13_isHeld_40 : decode cX13_isHeld 40 = .ok (.aload_n 0, 1) := by decide +kernel
theorem dX13_isHeld_41 : decode cX13_isHeld 41 = .ok (.ldc_w 431, 3) := by decide +kernel
theorem dX13_isHeld_44 : decode cX13_isHeld 44 = .ok (.invokevirtual 76, 3) := by decide +kernel
theorem dX13_isHeld_47 : decode cX13_isHeld 47 = .ok (.ifCond .ne 53, 3) := by decide +kernel
theorem dX13_isHeld_50 : decode cX13_isHeld 50 = .ok (.aload_n 0, 1) := by decide +kernel
theorem dX13_isHeld_51 : decode cX13_isHeld 51 = .ok (.ldc_w 433, 3) := by decide +kernel
theorem dX13_isHeld_54 : decode cX13_isHeld 54 = .ok (.invokevirtual 76, 3) := by decide +kernel
theorem dX13_isHeld_57 : decode cX13_isHeld 57 = .ok (.ifCond .ne 43, 3) := by decide +kernel
theorem dX13_isHeld_60 : decode cX13_isHeld 60 = .ok (.aload_n 0, 1) := by decide +kernel
theorem dX13_isHeld_61 : decode cX13_isHeld 61 = .ok (.ldc_w 435, 3) := by decide +kernel
theorem dX13_isHeld_64 : decode cX13_isHeld 64 = .ok (.invokevirtual 76, 3) := by decide +kernel
theorem dX13_isHeld_67 : decode cX13_isHeld 67 = .ok (.ifCond .ne 33, 3) := by decide +kernel
theorem dX13_isHeld_70 : decode cX13_isHeld 70 = .ok (.aload_n 0, 1) := by decide +kernel
theorem dX13_isHeld_71 : decode cX13_isHeld 71 = .ok (.ldc_w 437, 3) := by decide +kernel
theorem dX13_isHeld_74 : decode cX13_isHeld 74 = .ok (.invokevirtual 76, 3) := by decide +kernel
theorem dX13_isHeld_77 : decode cX13_isHeld 77 = .ok (.ifCond .ne 23, 3) := by decide +kernel
theorem dX13_isHeld_80 : decode cX13_isHeld 80 = .ok (.aload_n 0, 1) := by decide +kernel
theorem dX13_isHeld_81 : decode cX13_isHeld 81 = .ok (.ldc_w 439, 3) := by decide +kernel
theorem dX13_isHeld_84 : decode cX13_isHeld 84 = .ok (.invokevirtual 76, 3) := by decide +kernel
theorem dX13_isHeld_87 : decode cX13_isHeld 87 = .ok (.ifCond .ne 13, 3) := by decide +kernel
theorem dX13_isHeld_90 : decode cX13_isHeld 90 = .ok (.aload_n 0, 1) := by decide +kernel
theorem dX13_isHeld_91 : decode cX13_isHeld 91 = .ok (.ldc_w 441, 3) := by decide +kernel
theorem dX13_isHeld_94 : decode cX13_isHeld 94 = .ok (.invokevirtual 76, 3) := by decide +kernel
theorem dX13_isHeld_97 : decode cX13_isHeld 97 = .ok (.ifCond .eq 7, 3) := by decide +kernel
theorem dX13_isHeld_100 : decode cX13_isHeld 100 = .ok (.iconst 1, 1) := by decide +kernel
theorem dX13_isHeld_101 : decode cX13_isHeld 101 = .ok (.goto 4, 3) := by decide +kernel
theorem dX13_isHeld_104 : decode cX13_isHeld 104 = .ok (.iconst 0, 1) := by decide +kernel
theorem dX13_isHeld_105 : decode cX13_isHeld 105 = .ok (.ireturn, 1) := by decide +kernel
theorem dX13_nameAtHand_0 : decode cX13_nameAtHand 0 = .ok (.aload_n 0, 1) := by decide +kernel
theorem dX13_nameAtHand_1 : decode cX13_nameAtHand 1 = .ok (.aload_n 0, 1) := by decide +kernel
theorem dX13_nameAtHand_2 : decode cX13_nameAtHand 2 = .ok (.getfield 31, 3) := by decide +kernel
theorem dX13_nameAtHand_5 : decode cX13_nameAtHand 5 = .ok (.iconst 1, 1) := by decide +kernel
theorem dX13_nameAtHand_6 : decode cX13_nameAtHand 6 = .ok (.if_icmp .ne 20, 3) := by decide +kernel
theorem dX13_nameAtHand_9 : decode cX13_nameAtHand 9 = .ok (.aload_n 0, 1) := by decide +kernel
theorem dX13_nameAtHand_10 : decode cX13_nameAtHand 10 = .ok (.getfield 24, 3) := by decide +kernel
theorem dX13_nameAtHand_13 : decode cX13_nameAtHand 13 = .ok (.aload_n 0, 1) := by decide +kernel
theorem dX13_nameAtHand_14 : decode cX13_nameAtHand 14 = .ok (.getfield 7, 3) := by decide +kernel
theorem dX13_nameAtHand_17 : decode cX13_nameAtHand 17 = .ok (.isub, 1) := by decide +kernel
theorem dX13_nameAtHand_18 : decode cX13_nameAtHand 18 = .ok (.iconst 1, 1) := by decide +kernel
theorem dX13_nameAtHand_19 : decode cX13_nameAtHand 19 = .ok (.if_icmp .le 7, 3) := by decide +kernel
theorem dX13_nameAtHand_22 : decode cX13_nameAtHand 22 = .ok (.iconst 1, 1) := by decide +kernel
theorem dX13_nameAtHand_23 : decode cX13_nameAtHand 23 = .ok (.goto 4, 3) := by decide +kernel
theorem dX13_nameAtHand_26 : decode cX13_nameAtHand 26 = .ok (.iconst 0, 1) := by decide +kernel
theorem dX13_nameAtHand_27 : decode cX13_nameAtHand 27 = .ok (.iconst 1, 1) := by decide +kernel
theorem dX13_nameAtHand_28 : decode cX13_nameAtHand 28 = .ok (.invokevirtual 60, 3) := by decide +kernel
theorem dX13_nameAtHand_31 : decode cX13_nameAtHand 31 = .ok (.aload_n 0, 1) := by decide +kernel
theorem dX13_nameAtHand_32 : decode cX13_nameAtHand 32 = .ok (.aload_n 0, 1) := by decide +kernel
theorem dX13_nameAtHand_33 : decode cX13_nameAtHand 33 = .ok (.invokevirtual 443, 3) := by decide +kernel
theorem dX13_nameAtHand_36 : decode cX13_nameAtHand 36 = .ok (.ifCond .ne 7, 3) := by decide +kernel
theorem dX13_nameAtHand_39 : decode cX13_nameAtHand 39 = .ok (.iconst 1, 1) := by decide +kernel
theorem dX13_nameAtHand_40 : decode cX13_nameAtHand 40 = .ok (.goto 4, 3) := by decide +kernel
theorem dX13_nameAtHand_43 : decode cX13_nameAtHand 43 = .ok (.iconst 0, 1) := by decide +kernel
theorem dX13_nameAtHand_44 : decode cX13_nameAtHand 44 = .ok (.iconst 1, 1) := by decide +kernel
theorem dX13_nameAtHand_45 : decode cX13_nameAtHand 45 = .ok (.invokevirtual 60, 3) := by decide +kernel
theorem dX13_nameAtHand_48 : decode cX13_nameAtHand 48 = .ok (.lconst 0, 1) := by decide +kernel
theorem dX13_nameAtHand_49 : decode cX13_nameAtHand 49 = .ok (.lstore_n 1, 1) := by decide +kernel
theorem dX13_nameAtHand_50 : decode cX13_nameAtHand 50 = .ok (.aload_n 0, 1) := by decide +kernel
theorem dX13_nameAtHand_51 : decode cX13_nameAtHand 51 = .ok (.getfield 7, 3) := by decide +kernel
theorem dX13_nameAtHand_54 : decode cX13_nameAtHand 54 = .ok (.istore_n 3, 1) := by decide +kernel
theorem dX13_nameAtHand_55 : decode cX13_nameAtHand 55 = .ok (.iload_n 3, 1) := by decide +kernel
theorem dX13_nameAtHand_56 : decode cX13_nameAtHand 56 = .ok (.aload_n 0, 1) := by decide +kernel
theorem dX13_nameAtHand_57 : decode cX13_nameAtHand 57 = .ok (.getfield 24, 3) := by decide +kernel
theorem dX13_nameAtHand_60 : decode cX13_nameAtHand 60 = .ok (.if_icmp .ge 24, 3) := by decide +kernel
theorem dX13_nameAtHand_63 : decode cX13_nameAtHand 63 = .ok (.lload_n 1, 1) := by decide +kernel
theorem dX13_nameAtHand_64 : decode cX13_nameAtHand 64 = .ok (.iconst 5, 1) := by decide +kernel
theorem dX13_nameAtHand_65 : decode cX13_nameAtHand 65 = .ok (.lshl, 1) := by decide +kernel
theorem dX13_nameAtHand_66 : decode cX13_nameAtHand 66 = .ok (.aload_n 0, 1) := by decide +kernel
theorem dX13_nameAtHand_67 : decode cX13_nameAtHand 67 = .ok (.getfield 20, 3) := by decide +kernel
theorem dX13_nameAtHand_70 : decode cX13_nameAtHand 70 = .ok (.iload_n 3, 1) := by decide +kernel
theorem dX13_nameAtHand_71 : decode cX13_nameAtHand 71 = .ok (.baload, 1) := by decide +kernel
theorem dX13_nameAtHand_72 : decode cX13_nameAtHand 72 = .ok (.bipush 96, 2) := by decide +kernel
theorem dX13_nameAtHand_74 : decode cX13_nameAtHand 74 = .ok (.isub, 1) := by decide +kernel
theorem dX13_nameAtHand_75 : decode cX13_nameAtHand 75 = .ok (.i2l, 1) := by decide +kernel
theorem dX13_nameAtHand_76 : decode cX13_nameAtHand 76 = .ok (.lor, 1) := by decide +kernel
theorem dX13_nameAtHand_77 : decode cX13_nameAtHand 77 = .ok (.lstore_n 1, 1) := by decide +kernel
theorem dX13_nameAtHand_78 : decode cX13_nameAtHand 78 = .ok (.iinc 3 1, 3) := by decide +kernel
theorem dX13_nameAtHand_81 : decode cX13_nameAtHand 81 = .ok (.goto (-26), 3) := by decide +kernel
theorem dX13_nameAtHand_84 : decode cX13_nameAtHand 84 = .ok (.lload_n 1, 1) := by decide +kernel
theorem dX13_nameAtHand_85 : decode cX13_nameAtHand 85 = .ok (.lreturn, 1) := by decide +kernel
theorem dX13_stepAtHand_0 : decode cX13_stepAtHand 0 = .ok (.aload_n 0, 1) := by decide +kernel
theorem dX13_stepAtHand_1 : decode cX13_stepAtHand 1 = .ok (.ldc_w 446, 3) := by decide +kernel
theorem dX13_stepAtHand_4 : decode cX13_stepAtHand 4 = .ok (.invokevirtual 76, 3) := by decide +kernel
theorem dX13_stepAtHand_7 : decode cX13_stepAtHand 7 = .ok (.ifCond .eq 7, 3) := by decide +kernel
theorem dX13_stepAtHand_10 : decode cX13_stepAtHand 10 = .ok (.iconst 0, 1) := by decide +kernel
theorem dX13_stepAtHand_11 : decode cX13_stepAtHand 11 = .ok (.goto 102, 3) := by decide +kernel
theorem dX13_stepAtHand_14 : decode cX13_stepAtHand 14 = .ok (.aload_n 0, 1) := by decide +kernel
theorem dX13_stepAtHand_15 : decode cX13_stepAtHand 15 = .ok (.ldc_w 447, 3) := by decide +kernel
theorem dX13_stepAtHand_18 : decode cX13_stepAtHand 18 = .ok (.invokevirtual 76, 3) := by decide +kernel
theorem dX13_stepAtHand_21 : decode cX13_stepAtHand 21 = .ok (.ifCond .eq 7, 3) := by decide +kernel
theorem dX13_stepAtHand_24 : decode cX13_stepAtHand 24 = .ok (.iconst 1, 1) := by decide +kernel
theorem dX13_stepAtHand_25 : decode cX13_stepAtHand 25 = .ok (.goto 88, 3) := by decide +kernel
theorem dX13_stepAtHand_28 : decode cX13_stepAtHand 28 = .ok (.aload_n 0, 1) := by decide +kernel
theorem dX13_stepAtHand_29 : decode cX13_stepAtHand 29 = .ok (.ldc_w 449, 3) := by decide +kernel
theorem dX13_stepAtHand_32 : decode cX13_stepAtHand 32 = .ok (.invokevirtual 76, 3) := by decide +kernel
theorem dX13_stepAtHand_35 : decode cX13_stepAtHand 35 = .ok (.ifCond .eq 7, 3) := by decide +kernel
theorem dX13_stepAtHand_38 : decode cX13_stepAtHand 38 = .ok (.iconst 2, 1) := by decide +kernel
theorem dX13_stepAtHand_39 : decode cX13_stepAtHand 39 = .ok (.goto 74, 3) := by decide +kernel
theorem dX13_stepAtHand_42 : decode cX13_stepAtHand 42 = .ok (.aload_n 0, 1) := by decide +kernel
theorem dX13_stepAtHand_43 : decode cX13_stepAtHand 43 = .ok (.ldc 102, 2) := by decide +kernel
theorem dX13_stepAtHand_45 : decode cX13_stepAtHand 45 = .ok (.invokevirtual 76, 3) := by decide +kernel
theorem dX13_stepAtHand_48 : decode cX13_stepAtHand 48 = .ok (.ifCond .eq 7, 3) := by decide +kernel
theorem dX13_stepAtHand_51 : decode cX13_stepAtHand 51 = .ok (.iconst 3, 1) := by decide +kernel
theorem dX13_stepAtHand_52 : decode cX13_stepAtHand 52 = .ok (.goto 61, 3) := by decide +kernel
theorem dX13_stepAtHand_55 : decode cX13_stepAtHand 55 = .ok (.aload_n 0, 1) := by decide +kernel
theorem dX13_stepAtHand_56 : decode cX13_stepAtHand 56 = .ok (.ldc 109, 2) := by decide +kernel
theorem dX13_stepAtHand_58 : decode cX13_stepAtHand 58 = .ok (.invokevirtual 76, 3) := by decide +kernel
theorem dX13_stepAtHand_61 : decode cX13_stepAtHand 61 = .ok (.ifCond .eq 7, 3) := by decide +kernel
theorem dX13_stepAtHand_64 : decode cX13_stepAtHand 64 = .ok (.iconst 4, 1) := by decide +kernel
theorem dX13_stepAtHand_65 : decode cX13_stepAtHand 65 = .ok (.goto 48, 3) := by decide +kernel
theorem dX13_stepAtHand_68 : decode cX13_stepAtHand 68 = .ok (.aload_n 0, 1) := by decide +kernel
theorem dX13_stepAtHand_69 : decode cX13_stepAtHand 69 = .ok (.ldc_w 451, 3) := by decide +kernel
theorem dX13_stepAtHand_72 : decode cX13_stepAtHand 72 = .ok (.invokevirtual 76, 3) := by decide +kernel
theorem dX13_stepAtHand_75 : decode cX13_stepAtHand 75 = .ok (.ifCond .eq 7, 3) := by decide +kernel
theorem dX13_stepAtHand_78 : decode cX13_stepAtHand 78 = .ok (.iconst 5, 1) := by decide +kernel
theorem dX13_stepAtHand_79 : decode cX13_stepAtHand 79 = .ok (.goto 34, 3) := by decide +kernel
theorem dX13_stepAtHand_82 : decode cX13_stepAtHand 82 = .ok (.aload_n 0, 1) := by decide +kernel
theorem dX13_stepAtHand_83 : decode cX13_stepAtHand 83 = .ok (.ldc_w 452, 3) := by decide +kernel
theorem dX13_stepAtHand_86 : decode cX13_stepAtHand 86 = .ok (.invokevirtual 76, 3) := by decide +kernel
theorem dX13_stepAtHand_89 : decode cX13_stepAtHand 89 = .ok (.ifCond .eq 8, 3) := by decide +kernel
theorem dX13_stepAtHand_92 : decode cX13_stepAtHand 92 = .ok (.bipush 6, 2) := by decide +kernel
theorem dX13_stepAtHand_94 : decode cX13_stepAtHand 94 = .ok (.goto 19, 3) := by decide +kernel
theorem dX13_stepAtHand_97 : decode cX13_stepAtHand 97 = .ok (.aload_n 0, 1) := by decide +kernel
theorem dX13_stepAtHand_98 : decode cX13_stepAtHand 98 = .ok (.ldc_w 454, 3) := by decide +kernel
theorem dX13_stepAtHand_101 : decode cX13_stepAtHand 101 = .ok (.invokevirtual 76, 3) := by decide +kernel
theorem dX13_stepAtHand_104 : decode cX13_stepAtHand 104 = .ok (.ifCond .eq 8, 3) := by decide +kernel
theorem dX13_stepAtHand_107 : decode cX13_stepAtHand 107 = .ok (.bipush 7, 2) := by decide +kernel
theorem dX13_stepAtHand_109 : decode cX13_stepAtHand 109 = .ok (.goto 4, 3) := by decide +kernel
theorem dX13_stepAtHand_112 : decode cX13_stepAtHand 112 = .ok (.iconst (-1), 1) := by decide +kernel
theorem dX13_stepAtHand_113 : decode cX13_stepAtHand 113 = .ok (.ireturn, 1) := by decide +kernel
theorem dX13_readBody_0 : decode cX13_readBody 0 = .ok (.iconst (-1), 1) := by decide +kernel
theorem dX13_readBody_1 : decode cX13_readBody 1 = .ok (.istore_n 1, 1) := by decide +kernel
theorem dX13_readBody_2 : decode cX13_readBody 2 = .ok (.iconst (-1), 1) := by decide +kernel
theorem dX13_readBody_3 : decode cX13_readBody 3 = .ok (.istore_n 2, 1) := by decide +kernel
theorem dX13_readBody_4 : decode cX13_readBody 4 = .ok (.aload_n 0, 1) := by decide +kernel
theorem dX13_readBody_5 : decode cX13_readBody 5 = .ok (.invokevirtual 423, 3) := by decide +kernel
theorem dX13_readBody_8 : decode cX13_readBody 8 = .ok (.iconst (-1), 1) := by decide +kernel
theorem dX13_readBody_9 : decode cX13_readBody 9 = .ok (.if_icmp .eq 50, 3) := by decide +kernel
theorem dX13_readBody_12 : decode cX13_readBody 12 = .ok (.aload_n 0, 1) := by decide +kernel
theorem dX13_readBody_13 : decode cX13_readBody 13 = .ok (.invokevirtual 456, 3) := by decide +kernel
theorem dX13_readBody_16 : decode cX13_readBody 16 = .ok (.istore_n 3, 1) := by decide +kernel
theorem dX13_readBody_17 : decode cX13_readBody 17 = .ok (.aload_n 0, 1) := by decide +kernel
theorem dX13_readBody_18 : decode cX13_readBody 18 = .ok (.getfield 179, 3) := by decide +kernel
theorem dX13_readBody_21 : decode cX13_readBody 21 = .ok (.iload_n 3, 1) := by decide +kernel
theorem dX13_readBody_22 : decode cX13_readBody 22 = .ok (.iload_n 2, 1) := by decide +kernel
theorem dX13_readBody_23 : decode cX13_readBody 23 = .ok (.iastore, 1) := by decide +kernel
theorem dX13_readBody_24 : decode cX13_readBody 24 = .ok (.aload_n 0, 1) := by decide +kernel
theorem dX13_readBody_25 : decode cX13_readBody 25 = .ok (.getfield 176, 3) := by decide +kernel
theorem dX13_readBody_28 : decode cX13_readBody 28 = .ok (.iload_n 3, 1) := by decide +kernel
theorem dX13_readBody_29 : decode cX13_readBody 29 = .ok (.iconst (-1), 1) := by decide +kernel
theorem dX13_readBody_30 : decode cX13_readBody 30 = .ok (.iastore, 1) := by decide +kernel
theorem dX13_readBody_31 : decode cX13_readBody 31 = .ok (.iload_n 2, 1) := by decide +kernel
theorem dX13_readBody_32 : decode cX13_readBody 32 = .ok (.iconst (-1), 1) := by decide +kernel
theorem dX13_readBody_33 : decode cX13_readBody 33 = .ok (.if_icmp .ne 8, 3) := by decide +kernel
theorem dX13_readBody_36 : decode cX13_readBody 36 = .ok (.iload_n 3, 1) := by decide +kernel
theorem dX13_readBody_37 : decode cX13_readBody 37 = .ok (.istore_n 1, 1) := by decide +kernel
theorem dX13_readBody_38 : decode cX13_readBody 38 = .ok (.goto 10, 3) := by decide +kernel
theorem dX13_readBody_41 : decode cX13_readBody 41 = .ok (.aload_n 0, 1) := by decide +kernel
theorem dX13_readBody_42 : decode cX13_readBody 42 = .ok (.getfield 176, 3) := by decide +kernel
theorem dX13_readBody_45 : decode cX13_readBody 45 = .ok (.iload_n 2, 1) := by decide +kernel
theorem dX13_readBody_46 : decode cX13_readBody 46 = .ok (.iload_n 3, 1) := by decide +kernel
theorem dX13_readBody_47 : decode cX13_readBody 47 = .ok (.iastore, 1) := by decide +kernel
theorem dX13_readBody_48 : decode cX13_readBody 48 = .ok (.iload_n 3, 1) := by decide +kernel
theorem dX13_readBody_49 : decode cX13_readBody 49 = .ok (.istore_n 2, 1) := by decide +kernel
theorem dX13_readBody_50 : decode cX13_readBody 50 = .ok (.aload_n 0, 1) := by decide +kernel
theorem dX13_readBody_51 : decode cX13_readBody 51 = .ok (.bipush 59, 2) := by decide +kernel
theorem dX13_readBody_53 : decode cX13_readBody 53 = .ok (.invokevirtual 111, 3) := by decide +kernel
theorem dX13_readBody_56 : decode cX13_readBody 56 = .ok (.goto (-52), 3) := by decide +kernel
theorem dX13_readBody_59 : decode cX13_readBody 59 = .ok (.aload_n 0, 1) := by decide +kernel
theorem dX13_readBody_60 : decode cX13_readBody 60 = .ok (.iload_n 1, 1) := by decide +kernel
theorem dX13_readBody_61 : decode cX13_readBody 61 = .ok (.putfield 459, 3) := by decide +kernel
theorem dX13_readBody_64 : decode cX13_readBody 64 = .ok (.aload_n 0, 1) := by decide +kernel
theorem dX13_readBody_65 : decode cX13_readBody 65 = .ok (.iload_n 2, 1) := by decide +kernel
theorem dX13_readBody_66 : decode cX13_readBody 66 = .ok (.putfield 462, 3) := by decide +kernel
theorem dX13_readBody_69 : decode cX13_readBody 69 = .ok (.return_, 1) := by decide +kernel
theorem dX13_keepBody_0 : decode cX13_keepBody 0 = .ok (.aload_n 0, 1) := by decide +kernel
theorem dX13_keepBody_1 : decode cX13_keepBody 1 = .ok (.getfield 200, 3) := by decide +kernel
theorem dX13_keepBody_4 : decode cX13_keepBody 4 = .ok (.iconst 2, 1) := by decide +kernel
theorem dX13_keepBody_5 : decode cX13_keepBody 5 = .ok (.iload_n 1, 1) := by decide +kernel
theorem dX13_keepBody_6 : decode cX13_keepBody 6 = .ok (.imul, 1) := by decide +kernel
theorem dX13_keepBody_7 : decode cX13_keepBody 7 = .ok (.iload_n 2, 1) := by decide +kernel
theorem dX13_keepBody_8 : decode cX13_keepBody 8 = .ok (.iadd, 1) := by decide +kernel
theorem dX13_keepBody_9 : decode cX13_keepBody 9 = .ok (.aload_n 0, 1) := by decide +kernel
theorem dX13_keepBody_10 : decode cX13_keepBody 10 = .ok (.getfield 459, 3) := by decide +kernel
theorem dX13_keepBody_13 : decode cX13_keepBody 13 = .ok (.iastore, 1) := by decide +kernel
theorem dX13_keepBody_14 : decode cX13_keepBody 14 = .ok (.aload_n 0, 1) := by decide +kernel
theorem dX13_keepBody_15 : decode cX13_keepBody 15 = .ok (.getfield 203, 3) := by decide +kernel
theorem dX13_keepBody_18 : decode cX13_keepBody 18 = .ok (.iconst 2, 1) := by decide +kernel
theorem dX13_keepBody_19 : decode cX13_keepBody 19 = .ok (.iload_n 1, 1) := by decide +kernel
theorem dX13_keepBody_20 : decode cX13_keepBody 20 = .ok (.imul, 1) := by decide +kernel
theorem dX13_keepBody_21 : decode cX13_keepBody 21 = .ok (.iload_n 2, 1) := by decide +kernel
theorem dX13_keepBody_22 : decode cX13_keepBody 22 = .ok (.iadd, 1) := by decide +kernel
theorem dX13_keepBody_23 : decode cX13_keepBody 23 = .ok (.aload_n 0, 1) := by decide +kernel
theorem dX13_keepBody_24 : decode cX13_keepBody 24 = .ok (.getfield 462, 3) := by decide +kernel
theorem dX13_keepBody_27 : decode cX13_keepBody 27 = .ok (.iastore, 1) := by decide +kernel
theorem dX13_keepBody_28 : decode cX13_keepBody 28 = .ok (.return_, 1) := by decide +kernel
theorem dX13_readOne_0 : decode cX13_readOne 0 = .ok (.aload_n 0, 1) := by decide +kernel
theorem dX13_readOne_1 : decode cX13_readOne 1 = .ok (.invokevirtual 423, 3) := by decide +kernel
theorem dX13_readOne_4 : decode cX13_readOne 4 = .ok (.istore_n 1, 1) := by decide +kernel
theorem dX13_readOne_5 : decode cX13_readOne 5 = .ok (.aload_n 0, 1) := by decide +kernel
theorem dX13_readOne_6 : decode cX13_readOne 6 = .ok (.aload_n 0, 1) := by decide +kernel
theorem dX13_readOne_7 : decode cX13_readOne 7 = .ok (.getfield 465, 3) := by decide +kernel
theorem dX13_readOne_10 : decode cX13_readOne 10 = .ok (.bipush 60, 2) := by decide +kernel
theorem dX13_readOne_12 : decode cX13_readOne 12 = .ok (.if_icmp .ge 26, 3) := by decide +kernel
theorem dX13_readOne_15 : decode cX13_readOne 15 = .ok (.iload_n 1, 1) := by decide +kernel
theorem dX13_readOne_16 : decode cX13_readOne 16 = .ok (.iconst 4, 1) := by decide +kernel
theorem dX13_readOne_17 : decode cX13_readOne 17 = .ok (.if_icmp .eq 8, 3) := by decide +kernel
theorem dX13_readOne_20 : decode cX13_readOne 20 = .ok (.iload_n 1, 1) := by decide +kernel
theorem dX13_readOne_21 : decode cX13_readOne 21 = .ok (.iconst 5, 1) := by decide +kernel
theorem dX13_readOne_22 : decode cX13_readOne 22 = .ok (.if_icmp .ne 12, 3) := by decide +kernel
theorem dX13_readOne_25 : decode cX13_readOne 25 = .ok (.aload_n 0, 1) := by decide +kernel
theorem dX13_readOne_26 : decode cX13_readOne 26 = .ok (.getfield 468, 3) := by decide +kernel
theorem dX13_readOne_29 : decode cX13_readOne 29 = .ok (.bipush 6, 2) := by decide +kernel
theorem dX13_readOne_31 : decode cX13_readOne 31 = .ok (.if_icmp .ge 7, 3) := by decide +kernel
theorem dX13_readOne_34 : decode cX13_readOne 34 = .ok (.iconst 1, 1) := by decide +kernel
theorem dX13_readOne_35 : decode cX13_readOne 35 = .ok (.goto 4, 3) := by decide +kernel
theorem dX13_readOne_38 : decode cX13_readOne 38 = .ok (.iconst 0, 1) := by decide +kernel
theorem dX13_readOne_39 : decode cX13_readOne 39 = .ok (.iconst 4, 1) := by decide +kernel
theorem dX13_readOne_40 : decode cX13_readOne 40 = .ok (.invokevirtual 60, 3) := by decide +kernel
theorem dX13_readOne_43 : decode cX13_readOne 43 = .ok (.bipush 60, 2) := by decide +kernel
theorem dX13_readOne_45 : decode cX13_readOne 45 = .ok (.aload_n 0, 1) := by decide +kernel
theorem dX13_readOne_46 : decode cX13_readOne 46 = .ok (.getfield 465, 3) := by decide +kernel
theorem dX13_readOne_49 : decode cX13_readOne 49 = .ok (.iadd, 1) := by decide +kernel
theorem dX13_readOne_50 : decode cX13_readOne 50 = .ok (.istore_n 2, 1) := by decide +kernel
theorem dX13_readOne_51 : decode cX13_readOne 51 = .ok (.aload_n 0, 1) := by decide +kernel
theorem dX13_readOne_52 : decode cX13_readOne 52 = .ok (.dup, 1) := by decide +kernel
theorem dX13_readOne_53 : decode cX13_readOne 53 = .ok (.getfield 465, 3) := by decide +kernel
theorem dX13_readOne_56 : decode cX13_readOne 56 = .ok (.iconst 1, 1) := by decide +kernel
theorem dX13_readOne_57 : decode cX13_readOne 57 = .ok (.iadd, 1) := by decide +kernel
theorem dX13_readOne_58 : decode cX13_readOne 58 = .ok (.putfield 465, 3) := by decide +kernel
theorem dX13_readOne_61 : decode cX13_readOne 61 = .ok (.aload_n 0, 1) := by decide +kernel
theorem dX13_readOne_62 : decode cX13_readOne 62 = .ok (.getfield 173, 3) := by decide +kernel
theorem dX13_readOne_65 : decode cX13_readOne 65 = .ok (.iload_n 2, 1) := by decide +kernel
theorem dX13_readOne_66 : decode cX13_readOne 66 = .ok (.iload_n 1, 1) := by decide +kernel
theorem dX13_readOne_67 : decode cX13_readOne 67 = .ok (.iastore, 1) := by decide +kernel
theorem dX13_readOne_68 : decode cX13_readOne 68 = .ok (.aload_n 0, 1) := by decide +kernel
theorem dX13_readOne_69 : decode cX13_readOne 69 = .ok (.invokevirtual 72, 3) := by decide +kernel
theorem dX13_readOne_72 : decode cX13_readOne 72 = .ok (.iload_n 1, 1) := by decide +kernel
theorem dX13_readOne_73 : decode cX13_readOne 73 = .ok (.iconst 4, 1) := by decide +kernel
theorem dX13_readOne_74 : decode cX13_readOne 74 = .ok (.if_icmp .eq 8, 3) := by decide +kernel
theorem dX13_readOne_77 : decode cX13_readOne 77 = .ok (.iload_n 1, 1) := by decide +kernel
theorem dX13_readOne_78 : decode cX13_readOne 78 = .ok (.iconst 5, 1) := by decide +kernel
theorem dX13_readOne_79 : decode cX13_readOne 79 = .ok (.if_icmp .ne 112, 3) := by decide +kernel
theorem dX13_readOne_82 : decode cX13_readOne 82 = .ok (.aload_n 0, 1) := by decide +kernel
theorem dX13_readOne_83 : decode cX13_readOne 83 = .ok (.dup, 1) := by decide +kernel
theorem dX13_readOne_84 : decode cX13_readOne 84 = .ok (.getfield 468, 3) := by decide +kernel
theorem dX13_readOne_87 : decode cX13_readOne 87 = .ok (.iconst 1, 1) := by decide +kernel
theorem dX13_readOne_88 : decode cX13_readOne 88 = .ok (.iadd, 1) := by decide +kernel
theorem dX13_readOne_89 : decode cX13_readOne 89 = .ok (.putfield 468, 3) := by decide +kernel
theorem dX13_readOne_92 : decode cX13_readOne 92 = .ok (.aload_n 0, 1) := by decide +kernel
theorem dX13_readOne_93 : decode cX13_readOne 93 = .ok (.iload_n 2, 1) := by decide +kernel
theorem dX13_readOne_94 : decode cX13_readOne 94 = .ok (.iconst 0, 1) := by decide +kernel
theorem dX13_readOne_95 : decode cX13_readOne 95 = .ok (.invokevirtual 471, 3) := by decide +kernel
theorem dX13_readOne_98 : decode cX13_readOne 98 = .ok (.aload_n 0, 1) := by decide +kernel
theorem dX13_readOne_99 : decode cX13_readOne 99 = .ok (.iload_n 1, 1) := by decide +kernel
theorem dX13_readOne_100 : decode cX13_readOne 100 = .ok (.iconst 4, 1) := by decide +kernel
theorem dX13_readOne_101 : decode cX13_readOne 101 = .ok (.if_icmp .ne 9, 3) := by decide +kernel
theorem dX13_readOne_104 : decode cX13_readOne 104 = .ok (.ldc_w 431, 3) := by decide +kernel
theorem dX13_readOne_107 : decode cX13_readOne 107 = .ok (.goto 6, 3) := by decide +kernel
theorem dX13_readOne_110 : decode cX13_readOne 110 = .ok (.ldc_w 437, 3) := by decide +kernel
theorem dX13_readOne_113 : decode cX13_readOne 113 = .ok (.invokevirtual 120, 3) := by decide +kernel
theorem dX13_readOne_116 : decode cX13_readOne 116 = .ok (.aload_n 0, 1) := by decide +kernel
theorem dX13_readOne_117 : decode cX13_readOne 117 = .ok (.invokevirtual 474, 3) := by decide +kernel
theorem dX13_readOne_120 : decode cX13_readOne 120 = .ok (.aload_n 0, 1) := by decide +kernel
theorem dX13_readOne_121 : decode cX13_readOne 121 = .ok (.iload_n 2, 1) := by decide +kernel
theorem dX13_readOne_122 : decode cX13_readOne 122 = .ok (.iconst 0, 1) := by decide +kernel
theorem dX13_readOne_123 : decode cX13_readOne 123 = .ok (.invokevirtual 477, 3) := by decide +kernel
theorem dX13_readOne_126 : decode cX13_readOne 126 = .ok (.aload_n 0, 1) := by decide +kernel
theorem dX13_readOne_127 : decode cX13_readOne 127 = .ok (.iload_n 1, 1) := by decide +kernel
theorem dX13_readOne_128 : decode cX13_readOne 128 = .ok (.iconst 4, 1) := by decide +kernel
theorem dX13_readOne_129 : decode cX13_readOne 129 = .ok (.if_icmp .ne 9, 3) := by decide +kernel
theorem dX13_readOne_132 : decode cX13_readOne 132 = .ok (.ldc_w 433, 3) := by decide +kernel
theorem dX13_readOne_135 : decode cX13_readOne 135 = .ok (.goto 6, 3) := by decide +kernel
theorem dX13_readOne_138 : decode cX13_readOne 138 = .ok (.ldc_w 439, 3) := by decide +kernel
theorem dX13_readOne_141 : decode cX13_readOne 141 = .ok (.invokevirtual 120, 3) := by decide +kernel
theorem dX13_readOne_144 : decode cX13_readOne 144 = .ok (.aload_n 0, 1) := by decide +kernel
theorem dX13_readOne_145 : decode cX13_readOne 145 = .ok (.invokevirtual 474, 3) := by decide +kernel
theorem dX13_readOne_148 : decode cX13_readOne 148 = .ok (.aload_n 0, 1) := by decide +kernel
theorem dX13_readOne_149 : decode cX13_readOne 149 = .ok (.iload_n 2, 1) := by decide +kernel
theorem dX13_readOne_150 : decode cX13_readOne 150 = .ok (.iconst 1, 1) := by decide +kernel
theorem dX13_readOne_151 : decode cX13_readOne 151 = .ok (.invokevirtual 477, 3) := by decide +kernel
theorem dX13_readOne_154 : decode cX13_readOne 154 = .ok (.aload_n 0, 1) := by decide +kernel
theorem dX13_readOne_155 : decode cX13_readOne 155 = .ok (.iload_n 1, 1) := by decide +kernel
theorem dX13_readOne_156 : decode cX13_readOne 156 = .ok (.iconst 4, 1) := by decide +kernel
theorem dX13_readOne_157 : decode cX13_readOne 157 = .ok (.if_icmp .ne 9, 3) := by decide +kernel
theorem dX13_readOne_160 : decode cX13_readOne 160 = .ok (.ldc_w 435, 3) := by decide +kernel
theorem dX13_readOne_163 : decode cX13_readOne 163 = .ok (.goto 6, 3) := by decide +kernel
theorem dX13_readOne_166 : decode cX13_readOne 166 = .ok (.ldc_w 441, 3) := by decide +kernel
theorem dX13_readOne_169 : decode cX13_readOne 169 = .ok (.invokevirtual 120, 3) := by decide +kernel
theorem dX13_readOne_172 : decode cX13_readOne 172 = .ok (.aload_n 0, 1) := by decide +kernel
theorem dX13_readOne_173 : decode cX13_readOne 173 = .ok (.iload_n 2, 1) := by decide +kernel
theorem dX13_readOne_174 : decode cX13_readOne 174 = .ok (.iconst 1, 1) := by decide +kernel
theorem dX13_readOne_175 : decode cX13_readOne 175 = .ok (.invokevirtual 471, 3) := by decide +kernel
theorem dX13_readOne_178 : decode cX13_readOne 178 = .ok (.aload_n 0, 1) := by decide +kernel
theorem dX13_readOne_179 : decode cX13_readOne 179 = .ok (.dup, 1) := by decide +kernel
theorem dX13_readOne_180 : decode cX13_readOne 180 = .ok (.getfield 468, 3) := by decide +kernel
theorem dX13_readOne_183 : decode cX13_readOne 183 = .ok (.iconst 1, 1) := by decide +kernel
theorem dX13_readOne_184 : decode cX13_readOne 184 = .ok (.isub, 1) := by decide +kernel
theorem dX13_readOne_185 : decode cX13_readOne 185 = .ok (.putfield 468, 3) := by decide +kernel
theorem dX13_readOne_188 : decode cX13_readOne 188 = .ok (.goto 95, 3) := by decide +kernel
theorem dX13_readOne_191 : decode cX13_readOne 191 = .ok (.iload_n 1, 1) := by decide +kernel
theorem dX13_readOne_192 : decode cX13_readOne 192 = .ok (.bipush 6, 2) := by decide +kernel
theorem dX13_readOne_194 : decode cX13_readOne 194 = .ok (.if_icmp .eq 9, 3) := by decide +kernel
theorem dX13_readOne_197 : decode cX13_readOne 197 = .ok (.iload_n 1, 1) := by decide +kernel
theorem dX13_readOne_198 : decode cX13_readOne 198 = .ok (.bipush 7, 2) := by decide +kernel
theorem dX13_readOne_200 : decode cX13_readOne 200 = .ok (.if_icmp .ne 23, 3) := by decide +kernel
theorem dX13_readOne_203 : decode cX13_readOne 203 = .ok (.aload_n 0, 1) := by decide +kernel
theorem dX13_readOne_204 : decode cX13_readOne 204 = .ok (.getfield 225, 3) := by decide +kernel
theorem dX13_readOne_207 : decode cX13_readOne 207 = .ok (.iload_n 2, 1) := by decide +kernel
theorem dX13_readOne_208 : decode cX13_readOne 208 = .ok (.bipush 60, 2) := by decide +kernel
theorem dX13_readOne_210 : decode cX13_readOne 210 = .ok (.isub, 1) := by decide +kernel
theorem dX13_readOne_211 : decode cX13_readOne 211 = .ok (.aload_n 0, 1) := by decide +kernel
theorem dX13_readOne_212 : decode cX13_readOne 212 = .ok (.invokevirtual 480, 3) := by decide +kernel
theorem dX13_readOne_215 : decode cX13_readOne 215 = .ok (.lastore, 1) := by decide +kernel
theorem dX13_readOne_216 : decode cX13_readOne 216 = .ok (.aload_n 0, 1) := by decide +kernel
theorem dX13_readOne_217 : decode cX13_readOne 217 = .ok (.invokevirtual 72, 3) := by decide +kernel
theorem dX13_readOne_220 : decode cX13_readOne 220 = .ok (.goto 63, 3) := by decide +kernel
theorem dX13_readOne_223 : decode cX13_readOne 223 = .ok (.aload_n 0, 1) := by decide +kernel
theorem dX13_readOne_224 : decode cX13_readOne 224 = .ok (.iconst 0, 1) := by decide +kernel
theorem dX13_readOne_225 : decode cX13_readOne 225 = .ok (.invokevirtual 411, 3) := by decide +kernel
theorem dX13_readOne_228 : decode cX13_readOne 228 = .ok (.aload_n 0, 1) := by decide +kernel
theorem dX13_readOne_229 : decode cX13_readOne 229 = .ok (.getfield 185, 3) := by decide +kernel
theorem dX13_readOne_232 : decode cX13_readOne 232 = .ok (.iconst 2, 1) := by decide +kernel
theorem dX13_readOne_233 : decode cX13_readOne 233 = .ok (.iload_n 2, 1) := by decide +kernel
theorem dX13_readOne_234 : decode cX13_readOne 234 = .ok (.imul, 1) := by decide +kernel
theorem dX13_readOne_235 : decode cX13_readOne 235 = .ok (.aload_n 0, 1) := by decide +kernel
theorem dX13_readOne_236 : decode cX13_readOne 236 = .ok (.getfield 387, 3) := by decide +kernel
theorem dX13_readOne_239 : decode cX13_readOne 239 = .ok (.iastore, 1) := by decide +kernel
theorem dX13_readOne_240 : decode cX13_readOne 240 = .ok (.aload_n 0, 1) := by decide +kernel
theorem dX13_readOne_241 : decode cX13_readOne 241 = .ok (.getfield 188, 3) := by decide +kernel
theorem dX13_readOne_244 : decode cX13_readOne 244 = .ok (.iconst 2, 1) := by decide +kernel
theorem dX13_readOne_245 : decode cX13_readOne 245 = .ok (.iload_n 2, 1) := by decide +kernel
theorem dX13_readOne_246 : decode cX13_readOne 246 = .ok (.imul, 1) := by decide +kernel
theorem dX13_readOne_247 : decode cX13_readOne 247 = .ok (.aload_n 0, 1) := by decide +kernel
theorem dX13_readOne_248 : decode cX13_readOne 248 = .ok (.getfield 390, 3) := by decide +kernel
theorem dX13_readOne_251 : decode cX13_readOne 251 = .ok (.iastore, 1) := by decide +kernel
theorem dX13_readOne_252 : decode cX13_readOne 252 = .ok (.iload_n 1, 1) := by decide +kernel
theorem dX13_readOne_253 : decode cX13_readOne 253 = .ok (.iconst 3, 1) := by decide +kernel
theorem dX13_readOne_254 : decode cX13_readOne 254 = .ok (.if_icmp .ne 11, 3) := by decide +kernel
theorem dX13_readOne_257 : decode cX13_readOne 257 = .ok (.aload_n 0, 1) := by decide +kernel
theorem dX13_readOne_258 : decode cX13_readOne 258 = .ok (.iload_n 2, 1) := by decide +kernel
theorem dX13_readOne_259 : decode cX13_readOne 259 = .ok (.invokevirtual 484, 3) := by decide +kernel
theorem dX13_readOne_262 : decode cX13_readOne 262 = .ok (.goto 21, 3) := by decide +kernel
theorem dX13_readOne_265 : decode cX13_readOne 265 = .ok (.aload_n 0, 1) := by decide +kernel
theorem dX13_readOne_266 : decode cX13_readOne 266 = .ok (.iconst 4, 1) := by decide +kernel
theorem dX13_readOne_267 : decode cX13_readOne 267 = .ok (.iload_n 2, 1) := by decide +kernel
theorem dX13_readOne_268 : decode cX13_readOne 268 = .ok (.imul, 1) := by decide +kernel
theorem dX13_readOne_269 : decode cX13_readOne 269 = .ok (.iconst 1, 1) := by decide +kernel
theorem dX13_readOne_270 : decode cX13_readOne 270 = .ok (.bipush 8, 2) := by decide +kernel
theorem dX13_readOne_272 : decode cX13_readOne 272 = .ok (.aload_n 0, 1) := by decide +kernel
theorem dX13_readOne_273 : decode cX13_readOne 273 = .ok (.getfield 387, 3) := by decide +kernel
theorem dX13_readOne_276 : decode cX13_readOne 276 = .ok (.invokestatic 487, 3) := by decide +kernel
theorem dX13_readOne_279 : decode cX13_readOne 279 = .ok (.ishl, 1) := by decide +kernel
theorem dX13_readOne_280 : decode cX13_readOne 280 = .ok (.invokevirtual 420, 3) := by decide +kernel
theorem dX13_readOne_283 : decode cX13_readOne 283 = .ok (.iload_n 2, 1) := by decide +kernel
theorem dX13_readOne_284 : decode cX13_readOne 284 = .ok (.ireturn, 1) := by decide +kernel
theorem dX13_readOther_0 : decode cX13_readOther 0 = .ok (.aload_n 0, 1) := by decide +kernel
theorem dX13_readOther_1 : decode cX13_readOther 1 = .ok (.getfield 185, 3) := by decide +kernel
theorem dX13_readOther_4 : decode cX13_readOther 4 = .ok (.iconst 2, 1) := by decide +kernel
theorem dX13_readOther_5 : decode cX13_readOther 5 = .ok (.iload_n 1, 1) := by decide +kernel
theorem dX13_readOther_6 : decode cX13_readOther 6 = .ok (.imul, 1) := by decide +kernel
theorem dX13_readOther_7 : decode cX13_readOther 7 = .ok (.iaload, 1) := by decide +kernel
theorem dX13_readOther_8 : decode cX13_readOther 8 = .ok (.istore_n 2, 1) := by decide +kernel
theorem dX13_readOther_9 : decode cX13_readOther 9 = .ok (.aload_n 0, 1) := by decide +kernel
theorem dX13_readOther_10 : decode cX13_readOther 10 = .ok (.getfield 188, 3) := by decide +kernel
theorem dX13_readOther_13 : decode cX13_readOther 13 = .ok (.iconst 2, 1) := by decide +kernel
theorem dX13_readOther_14 : decode cX13_readOther 14 = .ok (.iload_n 1, 1) := by decide +kernel
theorem dX13_readOther_15 : decode cX13_readOther 15 = .ok (.imul, 1) := by decide +kernel
theorem dX13_readOther_16 : decode cX13_readOther 16 = .ok (.iaload, 1) := by decide +kernel
theorem dX13_readOther_17 : decode cX13_readOther 17 = .ok (.istore_n 3, 1) := by decide +kernel
theorem dX13_readOther_18 : decode cX13_readOther 18 = .ok (.iload_n 2, 1) := by decide +kernel
theorem dX13_readOther_19 : decode cX13_readOther 19 = .ok (.bipush 8, 2) := by decide +kernel
theorem dX13_readOther_21 : decode cX13_readOther 21 = .ok (.if_icmp .ge 9, 3) := by decide +kernel
theorem dX13_readOther_24 : decode cX13_readOther 24 = .ok (.iconst 1, 1) := by decide +kernel
theorem dX13_readOther_25 : decode cX13_readOther 25 = .ok (.iload_n 2, 1) := by decide +kernel
theorem dX13_readOther_26 : decode cX13_readOther 26 = .ok (.ishl, 1) := by decide +kernel
theorem dX13_readOther_27 : decode cX13_readOther 27 = .ok (.goto 20, 3) := by decide +kernel
theorem dX13_readOther_30 : decode cX13_readOther 30 = .ok (.sipush 256, 3) := by decide +kernel
theorem dX13_readOther_33 : decode cX13_readOther 33 = .ok (.iload_n 2, 1) := by decide +kernel
theorem dX13_readOther_34 : decode cX13_readOther 34 = .ok (.bipush 9, 2) := by decide +kernel
theorem dX13_readOther_36 : decode cX13_readOther 36 = .ok (.if_icmp .ne 9, 3) := by decide +kernel
theorem dX13_readOther_39 : decode cX13_readOther 39 = .ok (.iconst 1, 1) := by decide +kernel
theorem dX13_readOther_40 : decode cX13_readOther 40 = .ok (.iload_n 3, 1) := by decide +kernel
theorem dX13_readOther_41 : decode cX13_readOther 41 = .ok (.ishl, 1) := by decide +kernel
theorem dX13_readOther_42 : decode cX13_readOther 42 = .ok (.goto 4, 3) := by decide +kernel
theorem dX13_readOther_45 : decode cX13_readOther 45 = .ok (.iconst 0, 1) := by decide +kernel
theorem dX13_readOther_46 : decode cX13_readOther 46 = .ok (.ior, 1) := by decide +kernel
theorem dX13_readOther_47 : decode cX13_readOther 47 = .ok (.istore 4, 2) := by decide +kernel
theorem dX13_readOther_49 : decode cX13_readOther 49 = .ok (.aload_n 0, 1) := by decide +kernel
theorem dX13_readOther_50 : decode cX13_readOther 50 = .ok (.iload 4, 2) := by decide +kernel
theorem dX13_readOther_52 : decode cX13_readOther 52 = .ok (.invokevirtual 411, 3) := by decide +kernel
theorem dX13_readOther_55 : decode cX13_readOther 55 = .ok (.aload_n 0, 1) := by decide +kernel
theorem dX13_readOther_56 : decode cX13_readOther 56 = .ok (.getfield 185, 3) := by decide +kernel
theorem dX13_readOther_59 : decode cX13_readOther 59 = .ok (.iconst 2, 1) := by decide +kernel
theorem dX13_readOther_60 : decode cX13_readOther 60 = .ok (.iload_n 1, 1) := by decide +kernel
theorem dX13_readOther_61 : decode cX13_readOther 61 = .ok (.imul, 1) := by decide +kernel
theorem dX13_readOther_62 : decode cX13_readOther 62 = .ok (.iconst 1, 1) := by decide +kernel
theorem dX13_readOther_63 : decode cX13_readOther 63 = .ok (.iadd, 1) := by decide +kernel
theorem dX13_readOther_64 : decode cX13_readOther 64 = .ok (.aload_n 0, 1) := by decide +kernel
theorem dX13_readOther_65 : decode cX13_readOther 65 = .ok (.getfield 387, 3) := by decide +kernel
theorem dX13_readOther_68 : decode cX13_readOther 68 = .ok (.iastore, 1) := by decide +kernel
theorem dX13_readOther_69 : decode cX13_readOther 69 = .ok (.aload_n 0, 1) := by decide +kernel
theorem dX13_readOther_70 : decode cX13_readOther 70 = .ok (.getfield 188, 3) := by decide +kernel
theorem dX13_readOther_73 : decode cX13_readOther 73 = .ok (.iconst 2, 1) := by decide +kernel
theorem dX13_readOther_74 : decode cX13_readOther 74 = .ok (.iload_n 1, 1) := by decide +kernel
theorem dX13_readOther_75 : decode cX13_readOther 75 = .ok (.imul, 1) := by decide +kernel
theorem dX13_readOther_76 : decode cX13_readOther 76 = .ok (.iconst 1, 1) := by decide +kernel
theorem dX13_readOther_77 : decode cX13_readOther 77 = .ok (.iadd, 1) := by decide +kernel
theorem dX13_readOther_78 : decode cX13_readOther 78 = .ok (.aload_n 0, 1) := by decide +kernel
theorem dX13_readOther_79 : decode cX13_readOther 79 = .ok (.getfield 390, 3) := by decide +kernel
theorem dX13_readOther_82 : decode cX13_readOther 82 = .ok (.iastore, 1) := by decide +kernel
theorem dX13_readOther_83 : decode cX13_readOther 83 = .ok (.return_, 1) := by decide +kernel
theorem dX13_procOf_0 : decode cX13_procOf 0 = .ok (.iconst 0, 1) := by decide +kernel
theorem dX13_procOf_1 : decode cX13_procOf 1 = .ok (.istore_n 3, 1) := by decide +kernel
theorem dX13_procOf_2 : decode cX13_procOf 2 = .ok (.iload_n 3, 1) := by decide +kernel
theorem dX13_procOf_3 : decode cX13_procOf 3 = .ok (.aload_n 0, 1) := by decide +kernel
theorem dX13_procOf_4 : decode cX13_procOf 4 = .ok (.getfield 490, 3) := by decide +kernel
theorem dX13_procOf_7 : decode cX13_procOf 7 = .ok (.if_icmp .ge 22, 3) := by decide +kernel
theorem dX13_procOf_10 : decode cX13_procOf 10 = .ok (.aload_n 0, 1) := by decide +kernel
theorem dX13_procOf_11 : decode cX13_procOf 11 = .ok (.getfield 221, 3) := by decide +kernel
theorem dX13_procOf_14 : decode cX13_procOf 14 = .ok (.iload_n 3, 1) := by decide +kernel
theorem dX13_procOf_15 : decode cX13_procOf 15 = .ok (.laload, 1) := by decide +kernel
theorem dX13_procOf_16 : decode cX13_procOf 16 = .ok (.lload_n 1, 1) := by decide +kernel
theorem dX13_procOf_17 : decode cX13_procOf 17 = .ok (.lcmp, 1) := by decide +kernel
theorem dX13_procOf_18 : decode cX13_procOf 18 = .ok (.ifCond .ne 5, 3) := by decide +kernel
theorem dX13_procOf_21 : decode cX13_procOf 21 = .ok (.iload_n 3, 1) := by decide +kernel
theorem dX13_procOf_22 : decode cX13_procOf 22 = .ok (.ireturn, 1) := by decide +kernel
theorem dX13_procOf_23 : decode cX13_procOf 23 = .ok (.iinc 3 1, 3) := by decide +kernel
theorem dX13_procOf_26 : decode cX13_procOf 26 = .ok (.goto (-24), 3) := by decide +kernel
theorem dX13_procOf_29 : decode cX13_procOf 29 = .ok (.iconst (-1), 1) := by decide +kernel
theorem dX13_procOf_30 : decode cX13_procOf 30 = .ok (.ireturn, 1) := by decide +kernel
theorem dX13_readProgram_0 : decode cX13_readProgram 0 = .ok (.aload_n 0, 1) := by decide +kernel
theorem dX13_readProgram_1 : decode cX13_readProgram 1 = .ok (.iconst 0, 1) := by decide +kernel
theorem dX13_readProgram_2 : decode cX13_readProgram 2 = .ok (.putfield 490, 3) := by decide +kernel
theorem dX13_readProgram_5 : decode cX13_readProgram 5 = .ok (.aload_n 0, 1) := by decide +kernel
theorem dX13_readProgram_6 : decode cX13_readProgram 6 = .ok (.iconst 0, 1) := by decide +kernel
theorem dX13_readProgram_7 : decode cX13_readProgram 7 = .ok (.putfield 465, 3) := by decide +kernel
theorem dX13_readProgram_10 : decode cX13_readProgram 10 = .ok (.aload_n 0, 1) := by decide +kernel
theorem dX13_readProgram_11 : decode cX13_readProgram 11 = .ok (.iconst 0, 1) := by decide +kernel
theorem dX13_readProgram_12 : decode cX13_readProgram 12 = .ok (.putfield 393, 3) := by decide +kernel
theorem dX13_readProgram_15 : decode cX13_readProgram 15 = .ok (.aload_n 0, 1) := by decide +kernel
theorem dX13_readProgram_16 : decode cX13_readProgram 16 = .ok (.iconst 0, 1) := by decide +kernel
theorem dX13_readProgram_17 : decode cX13_readProgram 17 = .ok (.putfield 468, 3) := by decide +kernel
theorem dX13_readProgram_20 : decode cX13_readProgram 20 = .ok (.aload_n 0, 1) := by decide +kernel
theorem dX13_readProgram_21 : decode cX13_readProgram 21 = .ok (.getfield 31, 3) := by decide +kernel
theorem dX13_readProgram_24 : decode cX13_readProgram 24 = .ok (.ifCond .eq 143, 3) := by decide +kernel
theorem dX13_readProgram_27 : decode cX13_readProgram 27 = .ok (.aload_n 0, 1) := by decide +kernel
theorem dX13_readProgram_28 : decode cX13_readProgram 28 = .ok (.aload_n 0, 1) := by decide +kernel
theorem dX13_readProgram_29 : decode cX13_readProgram 29 = .ok (.ldc_w 426, 3) := by decide +kernel
theorem dX13_readProgram_32 : decode cX13_readProgram 32 = .ok (.invokevirtual 76, 3) := by decide +kernel
theorem dX13_readProgram_35 : decode cX13_readProgram 35 = .ok (.iconst 1, 1) := by decide +kernel
theorem dX13_readProgram_36 : decode cX13_readProgram 36 = .ok (.invokevirtual 60, 3) := by decide +kernel
theorem dX13_readProgram_39 : decode cX13_readProgram 39 = .ok (.aload_n 0, 1) := by decide +kernel
theorem dX13_readProgram_40 : decode cX13_readProgram 40 = .ok (.aload_n 0, 1) := by decide +kernel
theorem dX13_readProgram_41 : decode cX13_readProgram 41 = .ok (.getfield 490, 3) := by decide +kernel
theorem dX13_readProgram_44 : decode cX13_readProgram 44 = .ok (.bipush 6, 2) := by decide +kernel
theorem dX13_readProgram_46 : decode cX13_readProgram 46 = .ok (.if_icmp .ge 7, 3) := by decide +kernel
theorem dX13_readProgram_49 : decode cX13_readProgram 49 = .ok (.iconst 1, 1) := by decide +kernel
theorem dX13_readProgram_50 : decode cX13_readProgram 50 = .ok (.goto 4, 3) := by decide +kernel
theorem dX13_readProgram_53 : decode cX13_readProgram 53 = .ok (.iconst 0, 1) := by decide +kernel
theorem dX13_readProgram_54 : decode cX13_readProgram 54 = .ok (.iconst 4, 1) := by decide +kernel
theorem dX13_readProgram_55 : decode cX13_readProgram 55 = .ok (.invokevirtual 60, 3) := by decide +kernel
theorem dX13_readProgram_58 : decode cX13_readProgram 58 = .ok (.aload_n 0, 1) := by decide +kernel
theorem dX13_readProgram_59 : decode cX13_readProgram 59 = .ok (.invokevirtual 72, 3) := by decide +kernel
theorem dX13_readProgram_62 : decode cX13_readProgram 62 = .ok (.aload_n 0, 1) := by decide +kernel
theorem dX13_readProgram_63 : decode cX13_readProgram 63 = .ok (.invokevirtual 480, 3) := by decide +kernel
theorem dX13_readProgram_66 : decode cX13_readProgram 66 = .ok (.lstore_n 1, 1) := by decide +kernel
theorem dX13_readProgram_67 : decode cX13_readProgram 67 = .ok (.aload_n 0, 1) := by decide +kernel
theorem dX13_readProgram_68 : decode cX13_readProgram 68 = .ok (.aload_n 0, 1) := by decide +kernel
theorem dX13_readProgram_69 : decode cX13_readProgram 69 = .ok (.lload_n 1, 1) := by decide +kernel
theorem dX13_readProgram_70 : decode cX13_readProgram 70 = .ok (.invokevirtual 493, 3) := by decide +kernel
theorem dX13_readProgram_73 : decode cX13_readProgram 73 = .ok (.iconst (-1), 1) := by decide +kernel
theorem dX13_readProgram_74 : decode cX13_readProgram 74 = .ok (.if_icmp .ne 7, 3) := by decide +kernel
theorem dX13_readProgram_77 : decode cX13_readProgram 77 = .ok (.iconst 1, 1) := by decide +kernel
theorem dX13_readProgram_78 : decode cX13_readProgram 78 = .ok (.goto 4, 3) := by decide +kernel
theorem dX13_readProgram_81 : decode cX13_readProgram 81 = .ok (.iconst 0, 1) := by decide +kernel
theorem dX13_readProgram_82 : decode cX13_readProgram 82 = .ok (.iconst 3, 1) := by decide +kernel
theorem dX13_readProgram_83 : decode cX13_readProgram 83 = .ok (.invokevirtual 60, 3) := by decide +kernel
theorem dX13_readProgram_86 : decode cX13_readProgram 86 = .ok (.aload_n 0, 1) := by decide +kernel
theorem dX13_readProgram_87 : decode cX13_readProgram 87 = .ok (.getfield 221, 3) := by decide +kernel
theorem dX13_readProgram_90 : decode cX13_readProgram 90 = .ok (.aload_n 0, 1) := by decide +kernel
theorem dX13_readProgram_91 : decode cX13_readProgram 91 = .ok (.getfield 490, 3) := by decide +kernel
theorem dX13_readProgram_94 : decode cX13_readProgram 94 = .ok (.lload_n 1, 1) := by decide +kernel
theorem dX13_readProgram_95 : decode cX13_readProgram 95 = .ok (.lastore, 1) := by decide +kernel
theorem dX13_readProgram_96 : decode cX13_readProgram 96 = .ok (.aload_n 0, 1) := by decide +kernel
theorem dX13_readProgram_97 : decode cX13_readProgram 97 = .ok (.dup, 1) := by decide +kernel
theorem dX13_readProgram_98 : decode cX13_readProgram 98 = .ok (.getfield 490, 3) := by decide +kernel
theorem dX13_readProgram_101 : decode cX13_readProgram 101 = .ok (.iconst 1, 1) := by decide +kernel
theorem dX13_readProgram_102 : decode cX13_readProgram 102 = .ok (.iadd, 1) := by decide +kernel
theorem dX13_readProgram_103 : decode cX13_readProgram 103 = .ok (.putfield 490, 3) := by decide +kernel
theorem dX13_readProgram_106 : decode cX13_readProgram 106 = .ok (.aload_n 0, 1) := by decide +kernel
theorem dX13_readProgram_107 : decode cX13_readProgram 107 = .ok (.invokevirtual 72, 3) := by decide +kernel
theorem dX13_readProgram_110 : decode cX13_readProgram 110 = .ok (.aload_n 0, 1) := by decide +kernel
theorem dX13_readProgram_111 : decode cX13_readProgram 111 = .ok (.ldc_w 428, 3) := by decide +kernel
theorem dX13_readProgram_114 : decode cX13_readProgram 114 = .ok (.invokevirtual 120, 3) := by decide +kernel
theorem dX13_readProgram_117 : decode cX13_readProgram 117 = .ok (.bipush 6, 2) := by decide +kernel
theorem dX13_readProgram_119 : decode cX13_readProgram 119 = .ok (.aload_n 0, 1) := by decide +kernel
theorem dX13_readProgram_120 : decode cX13_readProgram 120 = .ok (.getfield 490, 3) := by decide +kernel
theorem dX13_readProgram_123 : decode cX13_readProgram 123 = .ok (.iadd, 1) := by decide +kernel
theorem dX13_readProgram_124 : decode cX13_readProgram 124 = .ok (.iconst 1, 1) := by decide +kernel
theorem dX13_readProgram_125 : decode cX13_readProgram 125 = .ok (.isub, 1) := by decide +kernel
theorem dX13_readProgram_126 : decode cX13_readProgram 126 = .ok (.istore_n 3, 1) := by decide +kernel
theorem dX13_readProgram_127 : decode cX13_readProgram 127 = .ok (.aload_n 0, 1) := by decide +kernel
theorem dX13_readProgram_128 : decode cX13_readProgram 128 = .ok (.invokevirtual 474, 3) := by decide +kernel
theorem dX13_readProgram_131 : decode cX13_readProgram 131 = .ok (.aload_n 0, 1) := by decide +kernel
theorem dX13_readProgram_132 : decode cX13_readProgram 132 = .ok (.getfield 215, 3) := by decide +kernel
theorem dX13_readProgram_135 : decode cX13_readProgram 135 = .ok (.iload_n 3, 1) := by decide +kernel
theorem dX13_readProgram_136 : decode cX13_readProgram 136 = .ok (.aload_n 0, 1) := by decide +kernel
theorem dX13_readProgram_137 : decode cX13_readProgram 137 = .ok (.getfield 459, 3) := by decide +kernel
theorem dX13_readProgram_140 : decode cX13_readProgram 140 = .ok (.iastore, 1) := by decide +kernel
theorem dX13_readProgram_141 : decode cX13_readProgram 141 = .ok (.aload_n 0, 1) := by decide +kernel
theorem dX13_readProgram_142 : decode cX13_readProgram 142 = .ok (.getfield 218, 3) := by decide +kernel
theorem dX13_readProgram_145 : decode cX13_readProgram 145 = .ok (.iload_n 3, 1) := by decide +kernel
theorem dX13_readProgram_146 : decode cX13_readProgram 146 = .ok (.aload_n 0, 1) := by decide +kernel
theorem dX13_readProgram_147 : decode cX13_readProgram 147 = .ok (.getfield 462, 3) := by decide +kernel
theorem dX13_readProgram_150 : decode cX13_readProgram 150 = .ok (.iastore, 1) := by decide +kernel
theorem dX13_readProgram_151 : decode cX13_readProgram 151 = .ok (.aload_n 0, 1) := by decide +kernel
theorem dX13_readProgram_152 : decode cX13_readProgram 152 = .ok (.ldc_w 429, 3) := by decide +kernel
theorem dX13_readProgram_155 : decode cX13_readProgram 155 = .ok (.invokevirtual 120, 3) := by decide +kernel
theorem dX13_readProgram_158 : decode cX13_readProgram 158 = .ok (.aload_n 0, 1) := by decide +kernel
theorem dX13_readProgram_159 : decode cX13_readProgram 159 = .ok (.bipush 59, 2) := by decide +kernel
theorem dX13_readProgram_161 : decode cX13_readProgram 161 = .ok (.invokevirtual 111, 3) := by decide +kernel
theorem dX13_readProgram_164 : decode cX13_readProgram 164 = .ok (.goto (-144), 3) := by decide +kernel
theorem dX13_readProgram_167 : decode cX13_readProgram 167 = .ok (.iconst 0, 1) := by decide +kernel
theorem dX13_readProgram_168 : decode cX13_readProgram 168 = .ok (.istore_n 1, 1) := by decide +kernel
theorem dX13_readProgram_169 : decode cX13_readProgram 169 = .ok (.iload_n 1, 1) := by decide +kernel
theorem dX13_readProgram_170 : decode cX13_readProgram 170 = .ok (.aload_n 0, 1) := by decide +kernel
theorem dX13_readProgram_171 : decode cX13_readProgram 171 = .ok (.getfield 465, 3) := by decide +kernel
theorem dX13_readProgram_174 : decode cX13_readProgram 174 = .ok (.if_icmp .ge 64, 3) := by decide +kernel
theorem dX13_readProgram_177 : decode cX13_readProgram 177 = .ok (.bipush 60, 2) := by decide +kernel
theorem dX13_readProgram_179 : decode cX13_readProgram 179 = .ok (.iload_n 1, 1) := by decide +kernel
theorem dX13_readProgram_180 : decode cX13_readProgram 180 = .ok (.iadd, 1) := by decide +kernel
theorem dX13_readProgram_181 : decode cX13_readProgram 181 = .ok (.istore_n 2, 1) := by decide +kernel
theorem dX13_readProgram_182 : decode cX13_readProgram 182 = .ok (.aload_n 0, 1) := by decide +kernel
theorem dX13_readProgram_183 : decode cX13_readProgram 183 = .ok (.getfield 173, 3) := by decide +kernel
theorem dX13_readProgram_186 : decode cX13_readProgram 186 = .ok (.iload_n 2, 1) := by decide +kernel
theorem dX13_readProgram_187 : decode cX13_readProgram 187 = .ok (.iaload, 1) := by decide +kernel
theorem dX13_readProgram_188 : decode cX13_readProgram 188 = .ok (.bipush 6, 2) := by decide +kernel
theorem dX13_readProgram_190 : decode cX13_readProgram 190 = .ok (.if_icmp .ge 6, 3) := by decide +kernel
theorem dX13_readProgram_193 : decode cX13_readProgram 193 = .ok (.goto 39, 3) := by decide +kernel
theorem dX13_readProgram_196 : decode cX13_readProgram 196 = .ok (.aload_n 0, 1) := by decide +kernel
theorem dX13_readProgram_197 : decode cX13_readProgram 197 = .ok (.getfield 182, 3) := by decide +kernel
theorem dX13_readProgram_200 : decode cX13_readProgram 200 = .ok (.iload_n 2, 1) := by decide +kernel
theorem dX13_readProgram_201 : decode cX13_readProgram 201 = .ok (.aload_n 0, 1) := by decide +kernel
theorem dX13_readProgram_202 : decode cX13_readProgram 202 = .ok (.aload_n 0, 1) := by decide +kernel
theorem dX13_readProgram_203 : decode cX13_readProgram 203 = .ok (.getfield 225, 3) := by decide +kernel
theorem dX13_readProgram_206 : decode cX13_readProgram 206 = .ok (.iload_n 1, 1) := by decide +kernel
theorem dX13_readProgram_207 : decode cX13_readProgram 207 = .ok (.laload, 1) := by decide +kernel
theorem dX13_readProgram_208 : decode cX13_readProgram 208 = .ok (.invokevirtual 493, 3) := by decide +kernel
theorem dX13_readProgram_211 : decode cX13_readProgram 211 = .ok (.iastore, 1) := by decide +kernel
theorem dX13_readProgram_212 : decode cX13_readProgram 212 = .ok (.aload_n 0, 1) := by decide +kernel
theorem dX13_readProgram_213 : decode cX13_readProgram 213 = .ok (.aload_n 0, 1) := by decide +kernel
theorem dX13_readProgram_214 : decode cX13_readProgram 214 = .ok (.getfield 182, 3) := by decide +kernel
theorem dX13_readProgram_217 : decode cX13_readProgram 217 = .ok (.iload_n 2, 1) := by decide +kernel
theorem dX13_readProgram_218 : decode cX13_readProgram 218 = .ok (.iaload, 1) := by decide +kernel
theorem dX13_readProgram_219 : decode cX13_readProgram 219 = .ok (.iconst (-1), 1) := by decide +kernel
theorem dX13_readProgram_220 : decode cX13_readProgram 220 = .ok (.if_icmp .eq 7, 3) := by decide +kernel
theorem dX13_readProgram_223 : decode cX13_readProgram 223 = .ok (.iconst 1, 1) := by decide +kernel
theorem dX13_readProgram_224 : decode cX13_readProgram 224 = .ok (.goto 4, 3) := by decide +kernel
theorem dX13_readProgram_227 : decode cX13_readProgram 227 = .ok (.iconst 0, 1) := by decide +kernel
theorem dX13_readProgram_228 : decode cX13_readProgram 228 = .ok (.iconst 5, 1) := by decide +kernel
theorem dX13_readProgram_229 : decode cX13_readProgram 229 = .ok (.invokevirtual 60, 3) := by decide +kernel
theorem dX13_readProgram_232 : decode cX13_readProgram 232 = .ok (.iinc 1 1, 3) := by decide +kernel
theorem dX13_readProgram_235 : decode cX13_readProgram 235 = .ok (.goto (-66), 3) := by decide +kernel
theorem dX13_readProgram_238 : decode cX13_readProgram 238 = .ok (.return_, 1) := by decide +kernel
theorem dX13_front_0 : decode cX13_front 0 = .ok (.iload_n 0, 1) := by decide +kernel
theorem dX13_front_1 : decode cX13_front 1 = .ok (.iconst (-1), 1) := by decide +kernel
theorem dX13_front_2 : decode cX13_front 2 = .ok (.if_icmp .ne 7, 3) := by decide +kernel
theorem dX13_front_5 : decode cX13_front 5 = .ok (.iconst (-1), 1) := by decide +kernel
theorem dX13_front_6 : decode cX13_front 6 = .ok (.goto 7, 3) := by decide +kernel
theorem dX13_front_9 : decode cX13_front 9 = .ok (.iload_n 0, 1) := by decide +kernel
theorem dX13_front_10 : decode cX13_front 10 = .ok (.bipush 60, 2) := by decide +kernel
theorem dX13_front_12 : decode cX13_front 12 = .ok (.isub, 1) := by decide +kernel
theorem dX13_front_13 : decode cX13_front 13 = .ok (.ireturn, 1) := by decide +kernel
theorem dX13_takeProgram_0 : decode cX13_takeProgram 0 = .ok (.aload_n 0, 1) := by decide +kernel
theorem dX13_takeProgram_1 : decode cX13_takeProgram 1 = .ok (.aload_n 0, 1) := by decide +kernel
theorem dX13_takeProgram_2 : decode cX13_takeProgram 2 = .ok (.getfield 490, 3) := by decide +kernel
theorem dX13_takeProgram_5 : decode cX13_takeProgram 5 = .ok (.putfield 497, 3) := by decide +kernel
theorem dX13_takeProgram_8 : decode cX13_takeProgram 8 = .ok (.iconst 0, 1) := by decide +kernel
theorem dX13_takeProgram_9 : decode cX13_takeProgram 9 = .ok (.istore_n 1, 1) := by decide +kernel
theorem dX13_takeProgram_10 : decode cX13_takeProgram 10 = .ok (.iload_n 1, 1) := by decide +kernel
theorem dX13_takeProgram_11 : decode cX13_takeProgram 11 = .ok (.aload_n 0, 1) := by decide +kernel
theorem dX13_takeProgram_12 : decode cX13_takeProgram 12 = .ok (.getfield 497, 3) := by decide +kernel
theorem dX13_takeProgram_15 : decode cX13_takeProgram 15 = .ok (.if_icmp .ge 45, 3) := by decide +kernel
theorem dX13_takeProgram_18 : decode cX13_takeProgram 18 = .ok (.aload_n 0, 1) := by decide +kernel
theorem dX13_takeProgram_19 : decode cX13_takeProgram 19 = .ok (.getfield 215, 3) := by decide +kernel
theorem dX13_takeProgram_22 : decode cX13_takeProgram 22 = .ok (.iload_n 1, 1) := by decide +kernel
theorem dX13_takeProgram_23 : decode cX13_takeProgram 23 = .ok (.aload_n 0, 1) := by decide +kernel
theorem dX13_takeProgram_24 : decode cX13_takeProgram 24 = .ok (.getfield 215, 3) := by decide +kernel
theorem dX13_takeProgram_27 : decode cX13_takeProgram 27 = .ok (.bipush 6, 2) := by decide +kernel
theorem dX13_takeProgram_29 : decode cX13_takeProgram 29 = .ok (.iload_n 1, 1) := by decide +kernel
theorem dX13_takeProgram_30 : decode cX13_takeProgram 30 = .ok (.iadd, 1) := by decide +kernel
theorem dX13_takeProgram_31 : decode cX13_takeProgram 31 = .ok (.iaload, 1) := by decide +kernel
theorem dX13_takeProgram_32 : decode cX13_takeProgram 32 = .ok (.invokestatic 500, 3) := by decide +kernel
theorem dX13_takeProgram_35 : decode cX13_takeProgram 35 = .ok (.iastore, 1) := by decide +kernel
theorem dX13_takeProgram_36 : decode cX13_takeProgram 36 = .ok (.aload_n 0, 1) := by decide +kernel
theorem dX13_takeProgram_37 : decode cX13_takeProgram 37 = .ok (.getfield 218, 3) := by decide +kernel
theorem dX13_takeProgram_40 : decode cX13_takeProgram 40 = .ok (.iload_n 1, 1) := by decide +kernel
theorem dX13_takeProgram_41 : decode cX13_takeProgram 41 = .ok (.aload_n 0, 1) := by decide +kernel
theorem dX13_takeProgram_42 : decode cX13_takeProgram 42 = .ok (.getfield 218, 3) := by decide +kernel
theorem dX13_takeProgram_45 : decode cX13_takeProgram 45 = .ok (.bipush 6, 2) := by decide +kernel
theorem dX13_takeProgram_47 : decode cX13_takeProgram 47 = .ok (.iload_n 1, 1) := by decide +kernel
theorem dX13_takeProgram_48 : decode cX13_takeProgram 48 = .ok (.iadd, 1) := by decide +kernel
theorem dX13_takeProgram_49 : decode cX13_takeProgram 49 = .ok (.iaload, 1) := by decide +kernel
theorem dX13_takeProgram_50 : decode cX13_takeProgram 50 = .ok (.invokestatic 500, 3) := by decide +kernel
theorem dX13_takeProgram_53 : decode cX13_takeProgram 53 = .ok (.iastore, 1) := by decide +kernel
theorem dX13_takeProgram_54 : decode cX13_takeProgram 54 = .ok (.iinc 1 1, 3) := by decide +kernel
theorem dX13_takeProgram_57 : decode cX13_takeProgram 57 = .ok (.goto (-47), 3) := by decide +kernel
theorem dX13_takeProgram_60 : decode cX13_takeProgram 60 = .ok (.iconst 0, 1) := by decide +kernel
theorem dX13_takeProgram_61 : decode cX13_takeProgram 61 = .ok (.istore_n 1, 1) := by decide +kernel
theorem dX13_takeProgram_62 : decode cX13_takeProgram 62 = .ok (.iload_n 1, 1) := by decide +kernel
theorem dX13_takeProgram_63 : decode cX13_takeProgram 63 = .ok (.aload_n 0, 1) := by decide +kernel
theorem dX13_takeProgram_64 : decode cX13_takeProgram 64 = .ok (.getfield 465, 3) := by decide +kernel
theorem dX13_takeProgram_67 : decode cX13_takeProgram 67 = .ok (.if_icmp .ge 296, 3) := by decide +kernel
theorem dX13_takeProgram_70 : decode cX13_takeProgram 70 = .ok (.bipush 60, 2) := by decide +kernel
theorem dX13_takeProgram_72 : decode cX13_takeProgram 72 = .ok (.iload_n 1, 1) := by decide +kernel
theorem dX13_takeProgram_73 : decode cX13_takeProgram 73 = .ok (.iadd, 1) := by decide +kernel
theorem dX13_takeProgram_74 : decode cX13_takeProgram 74 = .ok (.istore_n 2, 1) := by decide +kernel
theorem dX13_takeProgram_75 : decode cX13_takeProgram 75 = .ok (.aload_n 0, 1) := by decide +kernel
theorem dX13_takeProgram_76 : decode cX13_takeProgram 76 = .ok (.getfield 173, 3) := by decide +kernel
theorem dX13_takeProgram_79 : decode cX13_takeProgram 79 = .ok (.iload_n 1, 1) := by decide +kernel
theorem dX13_takeProgram_80 : decode cX13_takeProgram 80 = .ok (.aload_n 0, 1) := by decide +kernel
theorem dX13_takeProgram_81 : decode cX13_takeProgram 81 = .ok (.getfield 173, 3) := by decide +kernel
theorem dX13_takeProgram_84 : decode cX13_takeProgram 84 = .ok (.iload_n 2, 1) := by decide +kernel
theorem dX13_takeProgram_85 : decode cX13_takeProgram 85 = .ok (.iaload, 1) := by decide +kernel
theorem dX13_takeProgram_86 : decode cX13_takeProgram 86 = .ok (.iastore, 1) := by decide +kernel
theorem dX13_takeProgram_87 : decode cX13_takeProgram 87 = .ok (.aload_n 0, 1) := by decide +kernel
theorem dX13_takeProgram_88 : decode cX13_takeProgram 88 = .ok (.getfield 176, 3) := by decide +kernel
theorem dX13_takeProgram_91 : decode cX13_takeProgram 91 = .ok (.iload_n 1, 1) := by decide +kernel
theorem dX13_takeProgram_92 : decode cX13_takeProgram 92 = .ok (.aload_n 0, 1) := by decide +kernel
theorem dX13_takeProgram_93 : decode cX13_takeProgram 93 = .ok (.getfield 176, 3) := by decide +kernel
theorem dX13_takeProgram_96 : decode cX13_takeProgram 96 = .ok (.iload_n 2, 1) := by decide +kernel
theorem dX13_takeProgram_97 : decode cX13_takeProgram 97 = .ok (.iaload, 1) := by decide +kernel
theorem dX13_takeProgram_98 : decode cX13_takeProgram 98 = .ok (.invokestatic 500, 3) := by decide +kernel
theorem dX13_takeProgram_101 : decode cX13_takeProgram 101 = .ok (.iastore, 1) := by decide +kernel
theorem dX13_takeProgram_102 : decode cX13_takeProgram 102 = .ok (.aload_n 0, 1) := by decide +kernel
theorem dX13_takeProgram_103 : decode cX13_takeProgram 103 = .ok (.getfield 179, 3) := by decide +kernel
theorem dX13_takeProgram_106 : decode cX13_takeProgram 106 = .ok (.iload_n 1, 1) := by decide +kernel
theorem dX13_takeProgram_107 : decode cX13_takeProgram 107 = .ok (.aload_n 0, 1) := by decide +kernel
theorem dX13_takeProgram_108 : decode cX13_takeProgram 108 = .ok (.getfield 179, 3) := by decide +kernel
theorem dX13_takeProgram_111 : decode cX13_takeProgram 111 = .ok (.iload_n 2, 1) := by decide +kernel
theorem dX13_takeProgram_112 : decode cX13_takeProgram 112 = .ok (.iaload, 1) := by decide +kernel
theorem dX13_takeProgram_113 : decode cX13_takeProgram 113 = .ok (.invokestatic 500, 3) := by decide +kernel
theorem dX13_takeProgram_116 : decode cX13_takeProgram 116 = .ok (.iastore, 1) := by decide +kernel
theorem dX13_takeProgram_117 : decode cX13_takeProgram 117 = .ok (.aload_n 0, 1) := by decide +kernel
theorem dX13_takeProgram_118 : decode cX13_takeProgram 118 = .ok (.getfield 182, 3) := by decide +kernel
theorem dX13_takeProgram_121 : decode cX13_takeProgram 121 = .ok (.iload_n 1, 1) := by decide +kernel
theorem dX13_takeProgram_122 : decode cX13_takeProgram 122 = .ok (.aload_n 0, 1) := by decide +kernel
theorem dX13_takeProgram_123 : decode cX13_takeProgram 123 = .ok (.getfield 182, 3) := by decide +kernel
theorem dX13_takeProgram_126 : decode cX13_takeProgram 126 = .ok (.iload_n 2, 1) := by decide +kernel
theorem dX13_takeProgram_127 : decode cX13_takeProgram 127 = .ok (.iaload, 1) := by decide +kernel
theorem dX13_takeProgram_128 : decode cX13_takeProgram 128 = .ok (.iastore, 1) := by decide +kernel
theorem dX13_takeProgram_129 : decode cX13_takeProgram 129 = .ok (.iconst 0, 1) := by decide +kernel
theorem dX13_takeProgram_130 : decode cX13_takeProgram 130 = .ok (.istore_n 3, 1) := by decide +kernel
theorem dX13_takeProgram_131 : decode cX13_takeProgram 131 = .ok (.iload_n 3, 1) := by decide +kernel
theorem dX13_takeProgram_132 : decode cX13_takeProgram 132 = .ok (.iconst 2, 1) := by decide +kernel
theorem dX13_takeProgram_133 : decode cX13_takeProgram 133 = .ok (.if_icmp .ge 163, 3) := by decide +kernel
theorem dX13_takeProgram_136 : decode cX13_takeProgram 136 = .ok (.aload_n 0, 1) := by decide +kernel
theorem dX13_takeProgram_137 : decode cX13_takeProgram 137 = .ok (.getfield 185, 3) := by decide +kernel
theorem dX13_takeProgram_140 : decode cX13_takeProgram 140 = .ok (.iconst 2, 1) := by decide +kernel
theorem dX13_takeProgram_141 : decode cX13_takeProgram 141 = .ok (.iload_n 1, 1) := by decide +kernel
theorem dX13_takeProgram_142 : decode cX13_takeProgram 142 = .ok (.imul, 1) := by decide +kernel
theorem dX13_takeProgram_143 : decode cX13_takeProgram 143 = .ok (.iload_n 3, 1) := by decide +kernel
theorem dX13_takeProgram_144 : decode cX13_takeProgram 144 = .ok (.iadd, 1) := by decide +kernel
theorem dX13_takeProgram_145 : decode cX13_takeProgram 145 = .ok (.aload_n 0, 1) := by decide +kernel
theorem dX13_takeProgram_146 : decode cX13_takeProgram 146 = .ok (.getfield 185, 3) := by decide +kernel
theorem dX13_takeProgram_149 : decode cX13_takeProgram 149 = .ok (.iconst 2, 1) := by decide +kernel
theorem dX13_takeProgram_150 : decode cX13_takeProgram 150 = .ok (.iload_n 2, 1) := by decide +kernel
theorem dX13_takeProgram_151 : decode cX13_takeProgram 151 = .ok (.imul, 1) := by decide +kernel
theorem dX13_takeProgram_152 : decode cX13_takeProgram 152 = .ok (.iload_n 3, 1) := by decide +kernel
theorem dX13_takeProgram_153 : decode cX13_takeProgram 153 = .ok (.iadd, 1) := by decide +kernel
theorem dX13_takeProgram_154 : decode cX13_takeProgram 154 = .ok (.iaload, 1) := by decide +kernel
theorem dX13_takeProgram_155 : decode cX13_takeProgram 155 = .ok (.iastore, 1) := by decide +kernel
theorem dX13_takeProgram_156 : decode cX13_takeProgram 156 = .ok (.aload_n 0, 1) := by decide +kernel
theorem dX13_takeProgram_157 : decode cX13_takeProgram 157 = .ok (.getfield 188, 3) := by decide +kernel
theorem dX13_takeProgram_160 : decode cX13_takeProgram 160 = .ok (.iconst 2, 1) := by decide +kernel
theorem dX13_takeProgram_161 : decode cX13_takeProgram 161 = .ok (.iload_n 1, 1) := by decide +kernel
theorem dX13_takeProgram_162 : decode cX13_takeProgram 162 = .ok (.imul, 1) := by decide +kernel
theorem dX13_takeProgram_163 : decode cX13_takeProgram 163 = .ok (.iload_n 3, 1) := by decide +kernel
theorem dX13_takeProgram_164 : decode cX13_takeProgram 164 = .ok (.iadd, 1) := by decide +kernel
theorem dX13_takeProgram_165 : decode cX13_takeProgram 165 = .ok (.aload_n 0, 1) := by decide +kernel
theorem dX13_takeProgram_166 : decode cX13_takeProgram 166 = .ok (.getfield 188, 3) := by decide +kernel
theorem dX13_takeProgram_169 : decode cX13_takeProgram 169 = .ok (.iconst 2, 1) := by decide +kernel
theorem dX13_takeProgram_170 : decode cX13_takeProgram 170 = .ok (.iload_n 2, 1) := by decide +kernel
theorem dX13_takeProgram_171 : decode cX13_takeProgram 171 = .ok (.imul, 1) := by decide +kernel
theorem dX13_takeProgram_172 : decode cX13_takeProgram 172 = .ok (.iload_n 3, 1) := by decide +kernel
theorem dX13_takeProgram_173 : decode cX13_takeProgram 173 = .ok (.iadd, 1) := by decide +kernel
theorem dX13_takeProgram_174 : decode cX13_takeProgram 174 = .ok (.iaload, 1) := by decide +kernel
theorem dX13_takeProgram_175 : decode cX13_takeProgram 175 = .ok (.iastore, 1) := by decide +kernel
theorem dX13_takeProgram_176 : decode cX13_takeProgram 176 = .ok (.aload_n 0, 1) := by decide +kernel
theorem dX13_takeProgram_177 : decode cX13_takeProgram 177 = .ok (.getfield 197, 3) := by decide +kernel
theorem dX13_takeProgram_180 : decode cX13_takeProgram 180 = .ok (.iconst 2, 1) := by decide +kernel
theorem dX13_takeProgram_181 : decode cX13_takeProgram 181 = .ok (.iload_n 1, 1) := by decide +kernel
theorem dX13_takeProgram_182 : decode cX13_takeProgram 182 = .ok (.imul, 1) := by decide +kernel
theorem dX13_takeProgram_183 : decode cX13_takeProgram 183 = .ok (.iload_n 3, 1) := by decide +kernel
theorem dX13_takeProgram_184 : decode cX13_takeProgram 184 = .ok (.iadd, 1) := by decide +kernel
theorem dX13_takeProgram_185 : decode cX13_takeProgram 185 = .ok (.aload_n 0, 1) := by decide +kernel
theorem dX13_takeProgram_186 : decode cX13_takeProgram 186 = .ok (.getfield 197, 3) := by decide +kernel
theorem dX13_takeProgram_189 : decode cX13_takeProgram 189 = .ok (.iconst 2, 1) := by decide +kernel
theorem dX13_takeProgram_190 : decode cX13_takeProgram 190 = .ok (.iload_n 2, 1) := by decide +kernel
theorem dX13_takeProgram_191 : decode cX13_takeProgram 191 = .ok (.imul, 1) := by decide +kernel
theorem dX13_takeProgram_192 : decode cX13_takeProgram 192 = .ok (.iload_n 3, 1) := by decide +kernel
theorem dX13_takeProgram_193 : decode cX13_takeProgram 193 = .ok (.iadd, 1) := by decide +kernel
theorem dX13_takeProgram_194 : decode cX13_takeProgram 194 = .ok (.iaload, 1) := by decide +kernel
theorem dX13_takeProgram_195 : decode cX13_takeProgram 195 = .ok (.iastore, 1) := by decide +kernel
theorem dX13_takeProgram_196 : decode cX13_takeProgram 196 = .ok (.aload_n 0, 1) := by decide +kernel
theorem dX13_takeProgram_197 : decode cX13_takeProgram 197 = .ok (.getfield 200, 3) := by decide +kernel
theorem dX13_takeProgram_200 : decode cX13_takeProgram 200 = .ok (.iconst 2, 1) := by decide +kernel
theorem dX13_takeProgram_201 : decode cX13_takeProgram 201 = .ok (.iload_n 1, 1) := by decide +kernel
theorem dX13_takeProgram_202 : decode cX13_takeProgram 202 = .ok (.imul, 1) := by decide +kernel
theorem dX13_takeProgram_203 : decode cX13_takeProgram 203 = .ok (.iload_n 3, 1) := by decide +kernel
theorem dX13_takeProgram_204 : decode cX13_takeProgram 204 = .ok (.iadd, 1) := by decide +kernel
theorem dX13_takeProgram_205 : decode cX13_takeProgram 205 = .ok (.aload_n 0, 1) := by decide +kernel
theorem dX13_takeProgram_206 : decode cX13_takeProgram 206 = .ok (.getfield 173, 3) := by decide +kernel
theorem dX13_takeProgram_209 : decode cX13_takeProgram 209 = .ok (.iload_n 1, 1) := by decide +kernel
theorem dX13_takeProgram_210 : decode cX13_takeProgram 210 = .ok (.iaload, 1) := by decide +kernel
theorem dX13_takeProgram_211 : decode cX13_takeProgram 211 = .ok (.iconst 4, 1) := by decide +kernel
theorem dX13_takeProgram_212 : decode cX13_takeProgram 212 = .ok (.if_icmp .eq 13, 3) := by decide +kernel
theorem dX13_takeProgram_215 : decode cX13_takeProgram 215 = .ok (.aload_n 0, 1) := by decide +kernel
theorem dX13_takeProgram_216 : decode cX13_takeProgram 216 = .ok (.getfield 173, 3) := by decide +kernel
theorem dX13_takeProgram_219 : decode cX13_takeProgram 219 = .ok (.iload_n 1, 1) := by decide +kernel
theorem dX13_takeProgram_220 : decode cX13_takeProgram 220 = .ok (.iaload, 1) := by decide +kernel
theorem dX13_takeProgram_221 : decode cX13_takeProgram 221 = .ok (.iconst 5, 1) := by decide +kernel
theorem dX13_takeProgram_222 : decode cX13_takeProgram 222 = .ok (.if_icmp .ne 19, 3) := by decide +kernel
theorem dX13_takeProgram_225 : decode cX13_takeProgram 225 = .ok (.aload_n 0, 1) := by decide +kernel
theorem dX13_takeProgram_226 : decode cX13_takeProgram 226 = .ok (.getfield 200, 3) := by decide +kernel
theorem dX13_takeProgram_229 : decode cX13_takeProgram 229 = .ok (.iconst 2, 1) := by decide +kernel
theorem dX13_takeProgram_230 : decode cX13_takeProgram 230 = .ok (.iload_n 2, 1) := by decide +kernel
theorem dX13_takeProgram_231 : decode cX13_takeProgram 231 = .ok (.imul, 1) := by decide +kernel
theorem dX13_takeProgram_232 : decode cX13_takeProgram 232 = .ok (.iload_n 3, 1) := by decide +kernel
theorem dX13_takeProgram_233 : decode cX13_takeProgram 233 = .ok (.iadd, 1) := by decide +kernel
theorem dX13_takeProgram_234 : decode cX13_takeProgram 234 = .ok (.iaload, 1) := by decide +kernel
theorem dX13_takeProgram_235 : decode cX13_takeProgram 235 = .ok (.invokestatic 500, 3) := by decide +kernel
theorem dX13_takeProgram_238 : decode cX13_takeProgram 238 = .ok (.goto 4, 3) := by decide +kernel
theorem dX13_takeProgram_241 : decode cX13_takeProgram 241 = .ok (.iconst (-1), 1) := by decide +kernel
theorem dX13_takeProgram_242 : decode cX13_takeProgram 242 = .ok (.iastore, 1) := by decide +kernel
theorem dX13_takeProgram_243 : decode cX13_takeProgram 243 = .ok (.aload_n 0, 1) := by decide +kernel
theorem dX13_takeProgram_244 : decode cX13_takeProgram 244 = .ok (.getfield 203, 3) := by decide +kernel
theorem dX13_takeProgram_247 : decode cX13_takeProgram 247 = .ok (.iconst 2, 1) := by decide +kernel
theorem dX13_takeProgram_248 : decode cX13_takeProgram 248 = .ok (.iload_n 1, 1) := by decide +kernel
theorem dX13_takeProgram_249 : decode cX13_takeProgram 249 = .ok (.imul, 1) := by decide +kernel
theorem dX13_takeProgram_250 : decode cX13_takeProgram 250 = .ok (.iload_n 3, 1) := by decide +kernel
theorem dX13_takeProgram_251 : decode cX13_takeProgram 251 = .ok (.iadd, 1) := by decide +kernel
theorem dX13_takeProgram_252 : decode cX13_takeProgram 252 = .ok (.aload_n 0, 1) := by decide +kernel
theorem dX13_takeProgram_253 : decode cX13_takeProgram 253 = .ok (.getfield 173, 3) := by decide +kernel
theorem dX13_takeProgram_256 : decode cX13_takeProgram 256 = .ok (.iload_n 1, 1) := by decide +kernel
theorem dX13_takeProgram_257 : decode cX13_takeProgram 257 = .ok (.iaload, 1) := by decide +kernel
theorem dX13_takeProgram_258 : decode cX13_takeProgram 258 = .ok (.iconst 4, 1) := by decide +kernel
theorem dX13_takeProgram_259 : decode cX13_takeProgram 259 = .ok (.if_icmp .eq 13, 3) := by decide +kernel
theorem dX13_takeProgram_262 : decode cX13_takeProgram 262 = .ok (.aload_n 0, 1) := by decide +kernel
theorem dX13_takeProgram_263 : decode cX13_takeProgram 263 = .ok (.getfield 173, 3) := by decide +kernel
theorem dX13_takeProgram_266 : decode cX13_takeProgram 266 = .ok (.iload_n 1, 1) := by decide +kernel
theorem dX13_takeProgram_267 : decode cX13_takeProgram 267 = .ok (.iaload, 1) := by decide +kernel
theorem dX13_takeProgram_268 : decode cX13_takeProgram 268 = .ok (.iconst 5, 1) := by decide +kernel
theorem dX13_takeProgram_269 : decode cX13_takeProgram 269 = .ok (.if_icmp .ne 19, 3) := by decide +kernel
theorem dX13_takeProgram_272 : decode cX13_takeProgram 272 = .ok (.aload_n 0, 1) := by decide +kernel
theorem dX13_takeProgram_273 : decode cX13_takeProgram 273 = .ok (.getfield 203, 3) := by decide +kernel
theorem dX13_takeProgram_276 : decode cX13_takeProgram 276 = .ok (.iconst 2, 1) := by decide +kernel
theorem dX13_takeProgram_277 : decode cX13_takeProgram 277 = .ok (.iload_n 2, 1) := by decide +kernel
theorem dX13_takeProgram_278 : decode cX13_takeProgram 278 = .ok (.imul, 1) := by decide +kernel
theorem dX13_takeProgram_279 : decode cX13_takeProgram 279 = .ok (.iload_n 3, 1) := by decide +kernel
theorem dX13_takeProgram_280 : decode cX13_takeProgram 280 = .ok (.iadd, 1) := by decide +kernel
theorem dX13_takeProgram_281 : decode cX13_takeProgram 281 = .ok (.iaload, 1) := by decide +kernel
theorem dX13_takeProgram_282 : decode cX13_takeProgram 282 = .ok (.invokestatic 500, 3) := by decide +kernel
theorem dX13_takeProgram_285 : decode cX13_takeProgram 285 = .ok (.goto 4, 3) := by decide +kernel
theorem dX13_takeProgram_288 : decode cX13_takeProgram 288 = .ok (.iconst (-1), 1) := by decide +kernel
theorem dX13_takeProgram_289 : decode cX13_takeProgram 289 = .ok (.iastore, 1) := by decide +kernel
theorem dX13_takeProgram_290 : decode cX13_takeProgram 290 = .ok (.iinc 3 1, 3) := by decide +kernel
theorem dX13_takeProgram_293 : decode cX13_takeProgram 293 = .ok (.goto (-162), 3) := by decide +kernel
theorem dX13_takeProgram_296 : decode cX13_takeProgram 296 = .ok (.iconst 0, 1) := by decide +kernel
theorem dX13_takeProgram_297 : decode cX13_takeProgram 297 = .ok (.istore_n 3, 1) := by decide +kernel
theorem dX13_takeProgram_298 : decode cX13_takeProgram 298 = .ok (.iload_n 3, 1) := by decide +kernel
theorem dX13_takeProgram_299 : decode cX13_takeProgram 299 = .ok (.iconst 4, 1) := by decide +kernel
theorem dX13_takeProgram_300 : decode cX13_takeProgram 300 = .ok (.if_icmp .ge 57, 3) := by decide +kernel
theorem dX13_takeProgram_303 : decode cX13_takeProgram 303 = .ok (.aload_n 0, 1) := by decide +kernel
theorem dX13_takeProgram_304 : decode cX13_takeProgram 304 = .ok (.getfield 191, 3) := by decide +kernel
theorem dX13_takeProgram_307 : decode cX13_takeProgram 307 = .ok (.iconst 4, 1) := by decide +kernel
theorem dX13_takeProgram_308 : decode cX13_takeProgram 308 = .ok (.iload_n 1, 1) := by decide +kernel
theorem dX13_takeProgram_309 : decode cX13_takeProgram 309 = .ok (.imul, 1) := by decide +kernel
theorem dX13_takeProgram_310 : decode cX13_takeProgram 310 = .ok (.iload_n 3, 1) := by decide +kernel
theorem dX13_takeProgram_311 : decode cX13_takeProgram 311 = .ok (.iadd, 1) := by decide +kernel
theorem dX13_takeProgram_312 : decode cX13_takeProgram 312 = .ok (.aload_n 0, 1) := by decide +kernel
theorem dX13_takeProgram_313 : decode cX13_takeProgram 313 = .ok (.getfield 191, 3) := by decide +kernel
theorem dX13_takeProgram_316 : decode cX13_takeProgram 316 = .ok (.iconst 4, 1) := by decide +kernel
theorem dX13_takeProgram_317 : decode cX13_takeProgram 317 = .ok (.iload_n 2, 1) := by decide +kernel
theorem dX13_takeProgram_318 : decode cX13_takeProgram 318 = .ok (.imul, 1) := by decide +kernel
theorem dX13_takeProgram_319 : decode cX13_takeProgram 319 = .ok (.iload_n 3, 1) := by decide +kernel
theorem dX13_takeProgram_320 : decode cX13_takeProgram 320 = .ok (.iadd, 1) := by decide +kernel
theorem dX13_takeProgram_321 : decode cX13_takeProgram 321 = .ok (.iaload, 1) := by decide +kernel
theorem dX13_takeProgram_322 : decode cX13_takeProgram 322 = .ok (.sipush 1000, 3) := by decide +kernel
theorem dX13_takeProgram_325 : decode cX13_takeProgram 325 = .ok (.isub, 1) := by decide +kernel
theorem dX13_takeProgram_326 : decode cX13_takeProgram 326 = .ok (.iastore, 1) := by decide +kernel
theorem dX13_takeProgram_327 : decode cX13_takeProgram 327 = .ok (.aload_n 0, 1) := by decide +kernel
theorem dX13_takeProgram_328 : decode cX13_takeProgram 328 = .ok (.getfield 194, 3) := by decide +kernel
theorem dX13_takeProgram_331 : decode cX13_takeProgram 331 = .ok (.iconst 4, 1) := by decide +kernel
theorem dX13_takeProgram_332 : decode cX13_takeProgram 332 = .ok (.iload_n 1, 1) := by decide +kernel
theorem dX13_takeProgram_333 : decode cX13_takeProgram 333 = .ok (.imul, 1) := by decide +kernel
theorem dX13_takeProgram_334 : decode cX13_takeProgram 334 = .ok (.iload_n 3, 1) := by decide +kernel
theorem dX13_takeProgram_335 : decode cX13_takeProgram 335 = .ok (.iadd, 1) := by decide +kernel
theorem dX13_takeProgram_336 : decode cX13_takeProgram 336 = .ok (.aload_n 0, 1) := by decide +kernel
theorem dX13_takeProgram_337 : decode cX13_takeProgram 337 = .ok (.getfield 194, 3) := by decide +kernel
theorem dX13_takeProgram_340 : decode cX13_takeProgram 340 = .ok (.iconst 4, 1) := by decide +kernel
theorem dX13_takeProgram_341 : decode cX13_takeProgram 341 = .ok (.iload_n 2, 1) := by decide +kernel
theorem dX13_takeProgram_342 : decode cX13_takeProgram 342 = .ok (.imul, 1) := by decide +kernel
theorem dX13_takeProgram_343 : decode cX13_takeProgram 343 = .ok (.iload_n 3, 1) := by decide +kernel
theorem dX13_takeProgram_344 : decode cX13_takeProgram 344 = .ok (.iadd, 1) := by decide +kernel
theorem dX13_takeProgram_345 : decode cX13_takeProgram 345 = .ok (.iaload, 1) := by decide +kernel
theorem dX13_takeProgram_346 : decode cX13_takeProgram 346 = .ok (.sipush 1000, 3) := by decide +kernel
theorem dX13_takeProgram_349 : decode cX13_takeProgram 349 = .ok (.isub, 1) := by decide +kernel
theorem dX13_takeProgram_350 : decode cX13_takeProgram 350 = .ok (.iastore, 1) := by decide +kernel
theorem dX13_takeProgram_351 : decode cX13_takeProgram 351 = .ok (.iinc 3 1, 3) := by decide +kernel
theorem dX13_takeProgram_354 : decode cX13_takeProgram 354 = .ok (.goto (-56), 3) := by decide +kernel
theorem dX13_takeProgram_357 : decode cX13_takeProgram 357 = .ok (.iinc 1 1, 3) := by decide +kernel
theorem dX13_takeProgram_360 : decode cX13_takeProgram 360 = .ok (.goto (-298), 3) := by decide +kernel
theorem dX13_takeProgram_363 : decode cX13_takeProgram 363 = .ok (.iconst 0, 1) := by decide +kernel
theorem dX13_takeProgram_364 : decode cX13_takeProgram 364 = .ok (.istore_n 1, 1) := by decide +kernel
theorem dX13_takeProgram_365 : decode cX13_takeProgram 365 = .ok (.iload_n 1, 1) := by decide +kernel
theorem dX13_takeProgram_366 : decode cX13_takeProgram 366 = .ok (.aload_n 0, 1) := by decide +kernel
theorem dX13_takeProgram_367 : decode cX13_takeProgram 367 = .ok (.getfield 393, 3) := by decide +kernel
theorem dX13_takeProgram_370 : decode cX13_takeProgram 370 = .ok (.if_icmp .ge 57, 3) := by decide +kernel
theorem dX13_takeProgram_373 : decode cX13_takeProgram 373 = .ok (.aload_n 0, 1) := by decide +kernel
theorem dX13_takeProgram_374 : decode cX13_takeProgram 374 = .ok (.getfield 206, 3) := by decide +kernel
theorem dX13_takeProgram_377 : decode cX13_takeProgram 377 = .ok (.iload_n 1, 1) := by decide +kernel
theorem dX13_takeProgram_378 : decode cX13_takeProgram 378 = .ok (.aload_n 0, 1) := by decide +kernel
theorem dX13_takeProgram_379 : decode cX13_takeProgram 379 = .ok (.getfield 206, 3) := by decide +kernel
theorem dX13_takeProgram_382 : decode cX13_takeProgram 382 = .ok (.sipush 1000, 3) := by decide +kernel
theorem dX13_takeProgram_385 : decode cX13_takeProgram 385 = .ok (.iload_n 1, 1) := by decide +kernel
theorem dX13_takeProgram_386 : decode cX13_takeProgram 386 = .ok (.iadd, 1) := by decide +kernel
theorem dX13_takeProgram_387 : decode cX13_takeProgram 387 = .ok (.iaload, 1) := by decide +kernel
theorem dX13_takeProgram_388 : decode cX13_takeProgram 388 = .ok (.iastore, 1) := by decide +kernel
theorem dX13_takeProgram_389 : decode cX13_takeProgram 389 = .ok (.aload_n 0, 1) := by decide +kernel
theorem dX13_takeProgram_390 : decode cX13_takeProgram 390 = .ok (.getfield 209, 3) := by decide +kernel
theorem dX13_takeProgram_393 : decode cX13_takeProgram 393 = .ok (.iload_n 1, 1) := by decide +kernel
theorem dX13_takeProgram_394 : decode cX13_takeProgram 394 = .ok (.aload_n 0, 1) := by decide +kernel
theorem dX13_takeProgram_395 : decode cX13_takeProgram 395 = .ok (.getfield 209, 3) := by decide +kernel
theorem dX13_takeProgram_398 : decode cX13_takeProgram 398 = .ok (.sipush 1000, 3) := by decide +kernel
theorem dX13_takeProgram_401 : decode cX13_takeProgram 401 = .ok (.iload_n 1, 1) := by decide +kernel
theorem dX13_takeProgram_402 : decode cX13_takeProgram 402 = .ok (.iadd, 1) := by decide +kernel
theorem dX13_takeProgram_403 : decode cX13_takeProgram 403 = .ok (.iaload, 1) := by decide +kernel
theorem dX13_takeProgram_404 : decode cX13_takeProgram 404 = .ok (.iastore, 1) := by decide +kernel
theorem dX13_takeProgram_405 : decode cX13_takeProgram 405 = .ok (.aload_n 0, 1) := by decide +kernel
theorem dX13_takeProgram_406 : decode cX13_takeProgram 406 = .ok (.getfield 212, 3) := by decide +kernel
theorem dX13_takeProgram_409 : decode cX13_takeProgram 409 = .ok (.iload_n 1, 1) := by decide +kernel
theorem dX13_takeProgram_410 : decode cX13_takeProgram 410 = .ok (.aload_n 0, 1) := by decide +kernel
theorem dX13_takeProgram_411 : decode cX13_takeProgram 411 = .ok (.getfield 212, 3) := by decide +kernel
theorem dX13_takeProgram_414 : decode cX13_takeProgram 414 = .ok (.sipush 1000, 3) := by decide +kernel
theorem dX13_takeProgram_417 : decode cX13_takeProgram 417 = .ok (.iload_n 1, 1) := by decide +kernel
theorem dX13_takeProgram_418 : decode cX13_takeProgram 418 = .ok (.iadd, 1) := by decide +kernel
theorem dX13_takeProgram_419 : decode cX13_takeProgram 419 = .ok (.iaload, 1) := by decide +kernel
theorem dX13_takeProgram_420 : decode cX13_takeProgram 420 = .ok (.iastore, 1) := by decide +kernel
theorem dX13_takeProgram_421 : decode cX13_takeProgram 421 = .ok (.iinc 1 1, 3) := by decide +kernel
theorem dX13_takeProgram_424 : decode cX13_takeProgram 424 = .ok (.goto (-59), 3) := by decide +kernel
theorem dX13_takeProgram_427 : decode cX13_takeProgram 427 = .ok (.return_, 1) := by decide +kernel
theorem dX13_program_0 : decode cX13_program 0 = .ok (.aload_n 0, 1) := by decide +kernel
theorem dX13_program_1 : decode cX13_program 1 = .ok (.invokevirtual 293, 3) := by decide +kernel
theorem dX13_program_4 : decode cX13_program 4 = .ok (.aload_n 0, 1) := by decide +kernel
theorem dX13_program_5 : decode cX13_program 5 = .ok (.invokevirtual 503, 3) := by decide +kernel
theorem dX13_program_8 : decode cX13_program 8 = .ok (.goto 6, 3) := by decide +kernel
theorem dX13_program_11 : decode cX13_program 11 = .ok (.astore_n 1, 1) := by decide +kernel
theorem dX13_program_12 : decode cX13_program 12 = .ok (.iconst (-1), 1) := by decide +kernel
theorem dX13_program_13 : decode cX13_program 13 = .ok (.ireturn, 1) := by decide +kernel
theorem dX13_program_14 : decode cX13_program 14 = .ok (.aload_n 0, 1) := by decide +kernel
theorem dX13_program_15 : decode cX13_program 15 = .ok (.invokevirtual 506, 3) := by decide +kernel
theorem dX13_program_18 : decode cX13_program 18 = .ok (.aload_n 0, 1) := by decide +kernel
theorem dX13_program_19 : decode cX13_program 19 = .ok (.getfield 497, 3) := by decide +kernel
theorem dX13_program_22 : decode cX13_program 22 = .ok (.ireturn, 1) := by decide +kernel
theorem dX13_placeOf_0 : decode cX13_placeOf 0 = .ok (.iload_n 1, 1) := by decide +kernel
theorem dX13_placeOf_1 : decode cX13_placeOf 1 = .ok (.bipush 8, 2) := by decide +kernel
theorem dX13_placeOf_3 : decode cX13_placeOf 3 = .ok (.if_icmp .ge 5, 3) := by decide +kernel
theorem dX13_placeOf_6 : decode cX13_placeOf 6 = .ok (.iload_n 1, 1) := by decide +kernel
theorem dX13_placeOf_7 : decode cX13_placeOf 7 = .ok (.ireturn, 1) := by decide +kernel
theorem dX13_placeOf_8 : decode cX13_placeOf 8 = .ok (.iload_n 1, 1) := by decide +kernel
theorem dX13_placeOf_9 : decode cX13_placeOf 9 = .ok (.bipush 8, 2) := by decide +kernel
theorem dX13_placeOf_11 : decode cX13_placeOf 11 = .ok (.if_icmp .ne 7, 3) := by decide +kernel
theorem dX13_placeOf_14 : decode cX13_placeOf 14 = .ok (.iload_n 2, 1) := by decide +kernel
theorem dX13_placeOf_15 : decode cX13_placeOf 15 = .ok (.goto 9, 3) := by decide +kernel
theorem dX13_placeOf_18 : decode cX13_placeOf 18 = .ok (.aload_n 0, 1) := by decide +kernel
theorem dX13_placeOf_19 : decode cX13_placeOf 19 = .ok (.getfield 228, 3) := by decide +kernel
theorem dX13_placeOf_22 : decode cX13_placeOf 22 = .ok (.iload_n 2, 1) := by decide +kernel
theorem dX13_placeOf_23 : decode cX13_placeOf 23 = .ok (.iaload, 1) := by decide +kernel
theorem dX13_placeOf_24 : decode cX13_placeOf 24 = .ok (.istore_n 3, 1) := by decide +kernel
theorem dX13_placeOf_25 : decode cX13_placeOf 25 = .ok (.iload_n 3, 1) := by decide +kernel
theorem dX13_placeOf_26 : decode cX13_placeOf 26 = .ok (.i2l, 1) := by decide +kernel
theorem dX13_placeOf_27 : decode cX13_placeOf 27 = .ok (.lconst 0, 1) := by decide +kernel
theorem dX13_placeOf_28 : decode cX13_placeOf 28 = .ok (.ldc2_w 509, 3) := by decide +kernel
theorem dX13_placeOf_31 : decode cX13_placeOf 31 = .ok (.invokestatic 64, 3) := by decide +kernel
theorem dX13_placeOf_34 : decode cX13_placeOf 34 = .ok (.ifCond .eq 8, 3) := by decide +kernel
theorem dX13_placeOf_37 : decode cX13_placeOf 37 = .ok (.bipush 8, 2) := by decide +kernel
theorem dX13_placeOf_39 : decode cX13_placeOf 39 = .ok (.iload_n 3, 1) := by decide +kernel
theorem dX13_placeOf_40 : decode cX13_placeOf 40 = .ok (.iadd, 1) := by decide +kernel
theorem dX13_placeOf_41 : decode cX13_placeOf 41 = .ok (.ireturn, 1) := by decide +kernel
theorem dX13_placeOf_42 : decode cX13_placeOf 42 = .ok (.aload_n 0, 1) := by decide +kernel
theorem dX13_placeOf_43 : decode cX13_placeOf 43 = .ok (.iconst 2, 1) := by decide +kernel
theorem dX13_placeOf_44 : decode cX13_placeOf 44 = .ok (.putfield 511, 3) := by decide +kernel
theorem dX13_placeOf_47 : decode cX13_placeOf 47 = .ok (.iconst (-1), 1) := by decide +kernel
theorem dX13_placeOf_48 : decode cX13_placeOf 48 = .ok (.ireturn, 1) := by decide +kernel
theorem dX13_two_0 : decode cX13_two 0 = .ok (.iload_n 0, 1) := by decide +kernel
theorem dX13_two_1 : decode cX13_two 1 = .ok (.tableswitch 95 37 47 #[83, 95, 95, 95, 95, 67, 59, 95, 63, 95, 71], 59) := by decide +kernel
theorem dX13_two_60 : decode cX13_two 60 = .ok (.iload_n 1, 1) := by decide +kernel
theorem dX13_two_61 : decode cX13_two 61 = .ok (.iload_n 2, 1) := by decide +kernel
theorem dX13_two_62 : decode cX13_two 62 = .ok (.iadd, 1) := by decide +kernel
theorem dX13_two_63 : decode cX13_two 63 = .ok (.ireturn, 1) := by decide +kernel
theorem dX13_two_64 : decode cX13_two 64 = .ok (.iload_n 1, 1) := by decide +kernel
theorem dX13_two_65 : decode cX13_two 65 = .ok (.iload_n 2, 1) := by decide +kernel
theorem dX13_two_66 : decode cX13_two 66 = .ok (.isub, 1) := by decide +kernel
theorem dX13_two_67 : decode cX13_two 67 = .ok (.ireturn, 1) := by decide +kernel
theorem dX13_two_68 : decode cX13_two 68 = .ok (.iload_n 1, 1) := by decide +kernel
theorem dX13_two_69 : decode cX13_two 69 = .ok (.iload_n 2, 1) := by decide +kernel
theorem dX13_two_70 : decode cX13_two 70 = .ok (.imul, 1) := by decide +kernel
theorem dX13_two_71 : decode cX13_two 71 = .ok (.ireturn, 1) := by decide +kernel
theorem dX13_two_72 : decode cX13_two 72 = .ok (.iload_n 2, 1) := by decide +kernel
theorem dX13_two_73 : decode cX13_two 73 = .ok (.ifCond .ne 7, 3) := by decide +kernel
theorem dX13_two_76 : decode cX13_two 76 = .ok (.iconst 0, 1) := by decide +kernel
theorem dX13_two_77 : decode cX13_two 77 = .ok (.goto 6, 3) := by decide +kernel
theorem dX13_two_80 : decode cX13_two 80 = .ok (.iload_n 1, 1) := by decide +kernel
theorem dX13_two_81 : decode cX13_two 81 = .ok (.iload_n 2, 1) := by decide +kernel
theorem dX13_two_82 : decode cX13_two 82 = .ok (.idiv, 1) := by decide +kernel
theorem dX13_two_83 : decode cX13_two 83 = .ok (.ireturn, 1) := by decide +kernel
theorem dX13_two_84 : decode cX13_two 84 = .ok (.iload_n 2, 1) := by decide +kernel
theorem dX13_two_85 : decode cX13_two 85 = .ok (.ifCond .ne 7, 3) := by decide +kernel
theorem dX13_two_88 : decode cX13_two 88 = .ok (.iconst 0, 1) := by decide +kernel
theorem dX13_two_89 : decode cX13_two 89 = .ok (.goto 6, 3) := by decide +kernel
theorem dX13_two_92 : decode cX13_two 92 = .ok (.iload_n 1, 1) := by decide +kernel
theorem dX13_two_93 : decode cX13_two 93 = .ok (.iload_n 2, 1) := by decide +kernel
theorem dX13_two_94 : decode cX13_two 94 = .ok (.irem, 1) := by decide +kernel
theorem dX13_two_95 : decode cX13_two 95 = .ok (.ireturn, 1) := by decide +kernel
theorem dX13_two_96 : decode cX13_two 96 = .ok (.iload_n 1, 1) := by decide +kernel
theorem dX13_two_97 : decode cX13_two 97 = .ok (.iload_n 2, 1) := by decide +kernel
theorem dX13_two_98 : decode cX13_two 98 = .ok (.iand, 1) := by decide +kernel
theorem dX13_two_99 : decode cX13_two 99 = .ok (.ireturn, 1) := by decide +kernel
theorem dX13_sumOf_0 : decode cX13_sumOf 0 = .ok (.iconst 0, 1) := by decide +kernel
theorem dX13_sumOf_1 : decode cX13_sumOf 1 = .ok (.istore_n 2, 1) := by decide +kernel
theorem dX13_sumOf_2 : decode cX13_sumOf 2 = .ok (.aload_n 0, 1) := by decide +kernel
theorem dX13_sumOf_3 : decode cX13_sumOf 3 = .ok (.getfield 191, 3) := by decide +kernel
theorem dX13_sumOf_6 : decode cX13_sumOf 6 = .ok (.iload_n 1, 1) := by decide +kernel
theorem dX13_sumOf_7 : decode cX13_sumOf 7 = .ok (.iaload, 1) := by decide +kernel
theorem dX13_sumOf_8 : decode cX13_sumOf 8 = .ok (.istore_n 3, 1) := by decide +kernel
theorem dX13_sumOf_9 : decode cX13_sumOf 9 = .ok (.iload_n 3, 1) := by decide +kernel
theorem dX13_sumOf_10 : decode cX13_sumOf 10 = .ok (.aload_n 0, 1) := by decide +kernel
theorem dX13_sumOf_11 : decode cX13_sumOf 11 = .ok (.getfield 194, 3) := by decide +kernel
theorem dX13_sumOf_14 : decode cX13_sumOf 14 = .ok (.iload_n 1, 1) := by decide +kernel
theorem dX13_sumOf_15 : decode cX13_sumOf 15 = .ok (.iaload, 1) := by decide +kernel
theorem dX13_sumOf_16 : decode cX13_sumOf 16 = .ok (.if_icmp .ge 116, 3) := by decide +kernel
theorem dX13_sumOf_19 : decode cX13_sumOf 19 = .ok (.aload_n 0, 1) := by decide +kernel
theorem dX13_sumOf_20 : decode cX13_sumOf 20 = .ok (.getfield 206, 3) := by decide +kernel
theorem dX13_sumOf_23 : decode cX13_sumOf 23 = .ok (.iload_n 3, 1) := by decide +kernel
theorem dX13_sumOf_24 : decode cX13_sumOf 24 = .ok (.iaload, 1) := by decide +kernel
theorem dX13_sumOf_25 : decode cX13_sumOf 25 = .ok (.iconst 2, 1) := by decide +kernel
theorem dX13_sumOf_26 : decode cX13_sumOf 26 = .ok (.if_icmp .ne 40, 3) := by decide +kernel
theorem dX13_sumOf_29 : decode cX13_sumOf 29 = .ok (.iinc 2 (-1), 3) := by decide +kernel
theorem dX13_sumOf_32 : decode cX13_sumOf 32 = .ok (.aload_n 0, 1) := by decide +kernel
theorem dX13_sumOf_33 : decode cX13_sumOf 33 = .ok (.getfield 234, 3) := by decide +kernel
theorem dX13_sumOf_36 : decode cX13_sumOf 36 = .ok (.iload_n 2, 1) := by decide +kernel
theorem dX13_sumOf_37 : decode cX13_sumOf 37 = .ok (.iconst 1, 1) := by decide +kernel
theorem dX13_sumOf_38 : decode cX13_sumOf 38 = .ok (.isub, 1) := by decide +kernel
theorem dX13_sumOf_39 : decode cX13_sumOf 39 = .ok (.aload_n 0, 1) := by decide +kernel
theorem dX13_sumOf_40 : decode cX13_sumOf 40 = .ok (.getfield 209, 3) := by decide +kernel
theorem dX13_sumOf_43 : decode cX13_sumOf 43 = .ok (.iload_n 3, 1) := by decide +kernel
theorem dX13_sumOf_44 : decode cX13_sumOf 44 = .ok (.iaload, 1) := by decide +kernel
theorem dX13_sumOf_45 : decode cX13_sumOf 45 = .ok (.aload_n 0, 1) := by decide +kernel
theorem dX13_sumOf_46 : decode cX13_sumOf 46 = .ok (.getfield 234, 3) := by decide +kernel
theorem dX13_sumOf_49 : decode cX13_sumOf 49 = .ok (.iload_n 2, 1) := by decide +kernel
theorem dX13_sumOf_50 : decode cX13_sumOf 50 = .ok (.iconst 1, 1) := by decide +kernel
theorem dX13_sumOf_51 : decode cX13_sumOf 51 = .ok (.isub, 1) := by decide +kernel
theorem dX13_sumOf_52 : decode cX13_sumOf 52 = .ok (.iaload, 1) := by decide +kernel
theorem dX13_sumOf_53 : decode cX13_sumOf 53 = .ok (.aload_n 0, 1) := by decide +kernel
theorem dX13_sumOf_54 : decode cX13_sumOf 54 = .ok (.getfield 234, 3) := by decide +kernel
theorem dX13_sumOf_57 : decode cX13_sumOf 57 = .ok (.iload_n 2, 1) := by decide +kernel
theorem dX13_sumOf_58 : decode cX13_sumOf 58 = .ok (.iaload, 1) := by decide +kernel
theorem dX13_sumOf_59 : decode cX13_sumOf 59 = .ok (.invokestatic 514, 3) := by decide +kernel
theorem dX13_sumOf_62 : decode cX13_sumOf 62 = .ok (.iastore, 1) := by decide +kernel
theorem dX13_sumOf_63 : decode cX13_sumOf 63 = .ok (.goto 63, 3) := by decide +kernel
theorem dX13_sumOf_66 : decode cX13_sumOf 66 = .ok (.aload_n 0, 1) := by decide +kernel
theorem dX13_sumOf_67 : decode cX13_sumOf 67 = .ok (.getfield 209, 3) := by decide +kernel
theorem dX13_sumOf_70 : decode cX13_sumOf 70 = .ok (.iload_n 3, 1) := by decide +kernel
theorem dX13_sumOf_71 : decode cX13_sumOf 71 = .ok (.iaload, 1) := by decide +kernel
theorem dX13_sumOf_72 : decode cX13_sumOf 72 = .ok (.istore 4, 2) := by decide +kernel
theorem dX13_sumOf_74 : decode cX13_sumOf 74 = .ok (.aload_n 0, 1) := by decide +kernel
theorem dX13_sumOf_75 : decode cX13_sumOf 75 = .ok (.getfield 206, 3) := by decide +kernel
theorem dX13_sumOf_78 : decode cX13_sumOf 78 = .ok (.iload_n 3, 1) := by decide +kernel
theorem dX13_sumOf_79 : decode cX13_sumOf 79 = .ok (.iaload, 1) := by decide +kernel
theorem dX13_sumOf_80 : decode cX13_sumOf 80 = .ok (.iconst 1, 1) := by decide +kernel
theorem dX13_sumOf_81 : decode cX13_sumOf 81 = .ok (.if_icmp .ne 34, 3) := by decide +kernel
theorem dX13_sumOf_84 : decode cX13_sumOf 84 = .ok (.aload_n 0, 1) := by decide +kernel
theorem dX13_sumOf_85 : decode cX13_sumOf 85 = .ok (.iload 4, 2) := by decide +kernel
theorem dX13_sumOf_87 : decode cX13_sumOf 87 = .ok (.aload_n 0, 1) := by decide +kernel
theorem dX13_sumOf_88 : decode cX13_sumOf 88 = .ok (.getfield 212, 3) := by decide +kernel
theorem dX13_sumOf_91 : decode cX13_sumOf 91 = .ok (.iload_n 3, 1) := by decide +kernel
theorem dX13_sumOf_92 : decode cX13_sumOf 92 = .ok (.iaload, 1) := by decide +kernel
theorem dX13_sumOf_93 : decode cX13_sumOf 93 = .ok (.invokevirtual 518, 3) := by decide +kernel
theorem dX13_sumOf_96 : decode cX13_sumOf 96 = .ok (.istore 5, 2) := by decide +kernel
theorem dX13_sumOf_98 : decode cX13_sumOf 98 = .ok (.iload 5, 2) := by decide +kernel
theorem dX13_sumOf_100 : decode cX13_sumOf 100 = .ok (.iconst (-1), 1) := by decide +kernel
theorem dX13_sumOf_101 : decode cX13_sumOf 101 = .ok (.if_icmp .ne 5, 3) := by decide +kernel
theorem dX13_sumOf_104 : decode cX13_sumOf 104 = .ok (.iconst 0, 1) := by decide +kernel
theorem dX13_sumOf_105 : decode cX13_sumOf 105 = .ok (.ireturn, 1) := by decide +kernel
theorem dX13_sumOf_106 : decode cX13_sumOf 106 = .ok (.aload_n 0, 1) := by decide +kernel
theorem dX13_sumOf_107 : decode cX13_sumOf 107 = .ok (.getfield 228, 3) := by decide +kernel
theorem dX13_sumOf_110 : decode cX13_sumOf 110 = .ok (.iload 5, 2) := by decide +kernel
theorem dX13_sumOf_112 : decode cX13_sumOf 112 = .ok (.iaload, 1) := by decide +kernel
theorem dX13_sumOf_113 : decode cX13_sumOf 113 = .ok (.istore 4, 2) := by decide +kernel
theorem dX13_sumOf_115 : decode cX13_sumOf 115 = .ok (.aload_n 0, 1) := by decide +kernel
theorem dX13_sumOf_116 : decode cX13_sumOf 116 = .ok (.getfield 234, 3) := by decide +kernel
theorem dX13_sumOf_119 : decode cX13_sumOf 119 = .ok (.iload_n 2, 1) := by decide +kernel
theorem dX13_sumOf_120 : decode cX13_sumOf 120 = .ok (.iload 4, 2) := by decide +kernel
theorem dX13_sumOf_122 : decode cX13_sumOf 122 = .ok (.iastore, 1) := by decide +kernel
theorem dX13_sumOf_123 : decode cX13_sumOf 123 = .ok (.iinc 2 1, 3) := by decide +kernel
theorem dX13_sumOf_126 : decode cX13_sumOf 126 = .ok (.iinc 3 1, 3) := by decide +kernel
theorem dX13_sumOf_129 : decode cX13_sumOf 129 = .ok (.goto (-120), 3) := by decide +kernel
theorem dX13_sumOf_132 : decode cX13_sumOf 132 = .ok (.aload_n 0, 1) := by decide +kernel
theorem dX13_sumOf_133 : decode cX13_sumOf 133 = .ok (.getfield 234, 3) := by decide +kernel
theorem dX13_sumOf_136 : decode cX13_sumOf 136 = .ok (.iconst 0, 1) := by decide +kernel
theorem dX13_sumOf_137 : decode cX13_sumOf 137 = .ok (.iaload, 1) := by decide +kernel
theorem dX13_sumOf_138 : decode cX13_sumOf 138 = .ok (.ireturn, 1) := by decide +kernel
theorem dX13_isSo_0 : decode cX13_isSo 0 = .ok (.iconst 4, 1) := by decide +kernel
theorem dX13_isSo_1 : decode cX13_isSo 1 = .ok (.iload_n 1, 1) := by decide +kernel
theorem dX13_isSo_2 : decode cX13_isSo 2 = .ok (.imul, 1) := by decide +kernel
theorem dX13_isSo_3 : decode cX13_isSo 3 = .ok (.iconst 2, 1) := by decide +kernel
theorem dX13_isSo_4 : decode cX13_isSo 4 = .ok (.iload_n 2, 1) := by decide +kernel
theorem dX13_isSo_5 : decode cX13_isSo 5 = .ok (.imul, 1) := by decide +kernel
theorem dX13_isSo_6 : decode cX13_isSo 6 = .ok (.iadd, 1) := by decide +kernel
theorem dX13_isSo_7 : decode cX13_isSo 7 = .ok (.istore_n 3, 1) := by decide +kernel
theorem dX13_isSo_8 : decode cX13_isSo 8 = .ok (.aload_n 0, 1) := by decide +kernel
theorem dX13_isSo_9 : decode cX13_isSo 9 = .ok (.iload_n 3, 1) := by decide +kernel
theorem dX13_isSo_10 : decode cX13_isSo 10 = .ok (.invokevirtual 521, 3) := by decide +kernel
theorem dX13_isSo_13 : decode cX13_isSo 13 = .ok (.istore 4, 2) := by decide +kernel
theorem dX13_isSo_15 : decode cX13_isSo 15 = .ok (.aload_n 0, 1) := by decide +kernel
theorem dX13_isSo_16 : decode cX13_isSo 16 = .ok (.getfield 511, 3) := by decide +kernel
theorem dX13_isSo_19 : decode cX13_isSo 19 = .ok (.ifCond .le 5, 3) := by decide +kernel
theorem dX13_isSo_22 : decode cX13_isSo 22 = .ok (.iconst 0, 1) := by decide +kernel
theorem dX13_isSo_23 : decode cX13_isSo 23 = .ok (.ireturn, 1) := by decide +kernel
theorem dX13_isSo_24 : decode cX13_isSo 24 = .ok (.aload_n 0, 1) := by decide +kernel
theorem dX13_isSo_25 : decode cX13_isSo 25 = .ok (.iload_n 3, 1) := by decide +kernel
theorem dX13_isSo_26 : decode cX13_isSo 26 = .ok (.iconst 1, 1) := by decide +kernel
theorem dX13_isSo_27 : decode cX13_isSo 27 = .ok (.iadd, 1) := by decide +kernel
theorem dX13_isSo_28 : decode cX13_isSo 28 = .ok (.invokevirtual 521, 3) := by decide +kernel
theorem dX13_isSo_31 : decode cX13_isSo 31 = .ok (.istore 5, 2) := by decide +kernel
theorem dX13_isSo_33 : decode cX13_isSo 33 = .ok (.aload_n 0, 1) := by decide +kernel
theorem dX13_isSo_34 : decode cX13_isSo 34 = .ok (.getfield 197, 3) := by decide +kernel
theorem dX13_isSo_37 : decode cX13_isSo 37 = .ok (.iconst 2, 1) := by decide +kernel
theorem dX13_isSo_38 : decode cX13_isSo 38 = .ok (.iload_n 1, 1) := by decide +kernel
theorem dX13_isSo_39 : decode cX13_isSo 39 = .ok (.imul, 1) := by decide +kernel
theorem dX13_isSo_40 : decode cX13_isSo 40 = .ok (.iload_n 2, 1) := by decide +kernel
theorem dX13_isSo_41 : decode cX13_isSo 41 = .ok (.iadd, 1) := by decide +kernel
theorem dX13_isSo_42 : decode cX13_isSo 42 = .ok (.iaload, 1) := by decide +kernel
theorem dX13_isSo_43 : decode cX13_isSo 43 = .ok (.istore 6, 2) := by decide +kernel
theorem dX13_isSo_45 : decode cX13_isSo 45 = .ok (.iload 6, 2) := by decide +kernel
theorem dX13_isSo_47 : decode cX13_isSo 47 = .ok (.bipush 61, 2) := by decide +kernel
theorem dX13_isSo_49 : decode cX13_isSo 49 = .ok (.if_icmp .ne 18, 3) := by decide +kernel
theorem dX13_isSo_52 : decode cX13_isSo 52 = .ok (.iload 4, 2) := by decide +kernel
theorem dX13_isSo_54 : decode cX13_isSo 54 = .ok (.iload 5, 2) := by decide +kernel
theorem dX13_isSo_56 : decode cX13_isSo 56 = .ok (.if_icmp .ne 7, 3) := by decide +kernel
theorem dX13_isSo_59 : decode cX13_isSo 59 = .ok (.iconst 1, 1) := by decide +kernel
theorem dX13_isSo_60 : decode cX13_isSo 60 = .ok (.goto 63, 3) := by decide +kernel
theorem dX13_isSo_63 : decode cX13_isSo 63 = .ok (.iconst 0, 1) := by decide +kernel
theorem dX13_isSo_64 : decode cX13_isSo 64 = .ok (.goto 59, 3) := by decide +kernel
theorem dX13_isSo_67 : decode cX13_isSo 67 = .ok (.iload 6, 2) := by decide +kernel
theorem dX13_isSo_69 : decode cX13_isSo 69 = .ok (.bipush 60, 2) := by decide +kernel
theorem dX13_isSo_71 : decode cX13_isSo 71 = .ok (.if_icmp .ne 18, 3) := by decide +kernel
theorem dX13_isSo_74 : decode cX13_isSo 74 = .ok (.iload 4, 2) := by decide +kernel
theorem dX13_isSo_76 : decode cX13_isSo 76 = .ok (.iload 5, 2) := by decide +kernel
theorem dX13_isSo_78 : decode cX13_isSo 78 = .ok (.if_icmp .ge 7, 3) := by decide +kernel
theorem dX13_isSo_81 : decode cX13_isSo 81 = .ok (.iconst 1, 1) := by decide +kernel
theorem dX13_isSo_82 : decode cX13_isSo 82 = .ok (.goto 41, 3) := by decide +kernel
theorem dX13_isSo_85 : decode cX13_isSo 85 = .ok (.iconst 0, 1) := by decide +kernel
theorem dX13_isSo_86 : decode cX13_isSo 86 = .ok (.goto 37, 3) := by decide +kernel
theorem dX13_isSo_89 : decode cX13_isSo 89 = .ok (.iload 6, 2) := by decide +kernel
theorem dX13_isSo_91 : decode cX13_isSo 91 = .ok (.bipush 62, 2) := by decide +kernel
theorem dX13_isSo_93 : decode cX13_isSo 93 = .ok (.if_icmp .ne 18, 3) := by decide +kernel
theorem dX13_isSo_96 : decode cX13_isSo 96 = .ok (.iload 4, 2) := by decide +kernel
theorem dX13_isSo_98 : decode cX13_isSo 98 = .ok (.iload 5, 2) := by decide +kernel
theorem dX13_isSo_100 : decode cX13_isSo 100 = .ok (.if_icmp .le 7, 3) := by decide +kernel
theorem dX13_isSo_103 : decode cX13_isSo 103 = .ok (.iconst 1, 1) := by decide +kernel
theorem dX13_isSo_104 : decode cX13_isSo 104 = .ok (.goto 19, 3) := by decide +kernel
theorem dX13_isSo_107 : decode cX13_isSo 107 = .ok (.iconst 0, 1) := by decide +kernel
theorem dX13_isSo_108 : decode cX13_isSo 108 = .ok (.goto 15, 3) := by decide +kernel
theorem dX13_isSo_111 : decode cX13_isSo 111 = .ok (.iload 4, 2) := by decide +kernel
theorem dX13_isSo_113 : decode cX13_isSo 113 = .ok (.iload 5, 2) := by decide +kernel
theorem dX13_isSo_115 : decode cX13_isSo 115 = .ok (.if_icmp .eq 7, 3) := by decide +kernel
theorem dX13_isSo_118 : decode cX13_isSo 118 = .ok (.iconst 1, 1) := by decide +kernel
theorem dX13_isSo_119 : decode cX13_isSo 119 = .ok (.goto 4, 3) := by decide +kernel
theorem dX13_isSo_122 : decode cX13_isSo 122 = .ok (.iconst 0, 1) := by decide +kernel
theorem dX13_isSo_123 : decode cX13_isSo 123 = .ok (.ireturn, 1) := by decide +kernel
theorem dX13_counts_0 : decode cX13_counts 0 = .ok (.aload_n 0, 1) := by decide +kernel
theorem dX13_counts_1 : decode cX13_counts 1 = .ok (.dup, 1) := by decide +kernel
theorem dX13_counts_2 : decode cX13_counts 2 = .ok (.getfield 524, 3) := by decide +kernel
theorem dX13_counts_5 : decode cX13_counts 5 = .ok (.iconst 1, 1) := by decide +kernel
theorem dX13_counts_6 : decode cX13_counts 6 = .ok (.iadd, 1) := by decide +kernel
theorem dX13_counts_7 : decode cX13_counts 7 = .ok (.putfield 524, 3) := by decide +kernel
theorem dX13_counts_10 : decode cX13_counts 10 = .ok (.aload_n 0, 1) := by decide +kernel
theorem dX13_counts_11 : decode cX13_counts 11 = .ok (.getfield 524, 3) := by decide +kernel
theorem dX13_counts_14 : decode cX13_counts 14 = .ok (.sipush 5000, 3) := by decide +kernel
theorem dX13_counts_17 : decode cX13_counts 17 = .ok (.if_icmp .le 8, 3) := by decide +kernel
theorem dX13_counts_20 : decode cX13_counts 20 = .ok (.aload_n 0, 1) := by decide +kernel
theorem dX13_counts_21 : decode cX13_counts 21 = .ok (.iconst 3, 1) := by decide +kernel
theorem dX13_counts_22 : decode cX13_counts 22 = .ok (.putfield 511, 3) := by decide +kernel
theorem dX13_counts_25 : decode cX13_counts 25 = .ok (.aload_n 0, 1) := by decide +kernel
theorem dX13_counts_26 : decode cX13_counts 26 = .ok (.getfield 511, 3) := by decide +kernel
theorem dX13_counts_29 : decode cX13_counts 29 = .ok (.ifCond .ne 7, 3) := by decide +kernel
theorem dX13_counts_32 : decode cX13_counts 32 = .ok (.iconst 1, 1) := by decide +kernel
theorem dX13_counts_33 : decode cX13_counts 33 = .ok (.goto 4, 3) := by decide +kernel
theorem dX13_counts_36 : decode cX13_counts 36 = .ok (.iconst 0, 1) := by decide +kernel
theorem dX13_counts_37 : decode cX13_counts 37 = .ok (.ireturn, 1) := by decide +kernel
theorem dX13_goBody_0 : decode cX13_goBody 0 = .ok (.iload_n 3, 1) := by decide +kernel
theorem dX13_goBody_1 : decode cX13_goBody 1 = .ok (.ifCond .eq 7, 3) := by decide +kernel
theorem dX13_goBody_4 : decode cX13_goBody 4 = .ok (.iload_n 2, 1) := by decide +kernel
theorem dX13_goBody_5 : decode cX13_goBody 5 = .ok (.goto 4, 3) := by decide +kernel
theorem dX13_goBody_8 : decode cX13_goBody 8 = .ok (.iload_n 1, 1) := by decide +kernel
theorem dX13_goBody_9 : decode cX13_goBody 9 = .ok (.istore 4, 2) := by decide +kernel
theorem dX13_goBody_11 : decode cX13_goBody 11 = .ok (.iload 4, 2) := by decide +kernel
theorem dX13_goBody_13 : decode cX13_goBody 13 = .ok (.iconst (-1), 1) := by decide +kernel
theorem dX13_goBody_14 : decode cX13_goBody 14 = .ok (.if_icmp .eq 43, 3) := by decide +kernel
theorem dX13_goBody_17 : decode cX13_goBody 17 = .ok (.aload_n 0, 1) := by decide +kernel
theorem dX13_goBody_18 : decode cX13_goBody 18 = .ok (.getfield 511, 3) := by decide +kernel
theorem dX13_goBody_21 : decode cX13_goBody 21 = .ok (.ifCond .ne 36, 3) := by decide +kernel
theorem dX13_goBody_24 : decode cX13_goBody 24 = .ok (.aload_n 0, 1) := by decide +kernel
theorem dX13_goBody_25 : decode cX13_goBody 25 = .ok (.iload 4, 2) := by decide +kernel
theorem dX13_goBody_27 : decode cX13_goBody 27 = .ok (.iload_n 3, 1) := by decide +kernel
theorem dX13_goBody_28 : decode cX13_goBody 28 = .ok (.invokevirtual 527, 3) := by decide +kernel
theorem dX13_goBody_31 : decode cX13_goBody 31 = .ok (.iload_n 3, 1) := by decide +kernel
theorem dX13_goBody_32 : decode cX13_goBody 32 = .ok (.ifCond .eq 13, 3) := by decide +kernel
theorem dX13_goBody_35 : decode cX13_goBody 35 = .ok (.aload_n 0, 1) := by decide +kernel
theorem dX13_goBody_36 : decode cX13_goBody 36 = .ok (.getfield 179, 3) := by decide +kernel
theorem dX13_goBody_39 : decode cX13_goBody 39 = .ok (.iload 4, 2) := by decide +kernel
theorem dX13_goBody_41 : decode cX13_goBody 41 = .ok (.iaload, 1) := by decide +kernel
theorem dX13_goBody_42 : decode cX13_goBody 42 = .ok (.goto 10, 3) := by decide +kernel
theorem dX13_goBody_45 : decode cX13_goBody 45 = .ok (.aload_n 0, 1) := by decide +kernel
theorem dX13_goBody_46 : decode cX13_goBody 46 = .ok (.getfield 176, 3) := by decide +kernel
theorem dX13_goBody_49 : decode cX13_goBody 49 = .ok (.iload 4, 2) := by decide +kernel
theorem dX13_goBody_51 : decode cX13_goBody 51 = .ok (.iaload, 1) := by decide +kernel
theorem dX13_goBody_52 : decode cX13_goBody 52 = .ok (.istore 4, 2) := by decide +kernel
theorem dX13_goBody_54 : decode cX13_goBody 54 = .ok (.goto (-43), 3) := by decide +kernel
theorem dX13_goBody_57 : decode cX13_goBody 57 = .ok (.return_, 1) := by decide +kernel
theorem dX13_goBodyOf_0 : decode cX13_goBodyOf 0 = .ok (.aload_n 0, 1) := by decide +kernel
theorem dX13_goBodyOf_1 : decode cX13_goBodyOf 1 = .ok (.aload_n 0, 1) := by decide +kernel
theorem dX13_goBodyOf_2 : decode cX13_goBodyOf 2 = .ok (.getfield 200, 3) := by decide +kernel
theorem dX13_goBodyOf_5 : decode cX13_goBodyOf 5 = .ok (.iconst 2, 1) := by decide +kernel
theorem dX13_goBodyOf_6 : decode cX13_goBodyOf 6 = .ok (.iload_n 1, 1) := by decide +kernel
theorem dX13_goBodyOf_7 : decode cX13_goBodyOf 7 = .ok (.imul, 1) := by decide +kernel
theorem dX13_goBodyOf_8 : decode cX13_goBodyOf 8 = .ok (.iload_n 2, 1) := by decide +kernel
theorem dX13_goBodyOf_9 : decode cX13_goBodyOf 9 = .ok (.iadd, 1) := by decide +kernel
theorem dX13_goBodyOf_10 : decode cX13_goBodyOf 10 = .ok (.iaload, 1) := by decide +kernel
theorem dX13_goBodyOf_11 : decode cX13_goBodyOf 11 = .ok (.aload_n 0, 1) := by decide +kernel
theorem dX13_goBodyOf_12 : decode cX13_goBodyOf 12 = .ok (.getfield 203, 3) := by decide +kernel
theorem dX13_goBodyOf_15 : decode cX13_goBodyOf 15 = .ok (.iconst 2, 1) := by decide +kernel
theorem dX13_goBodyOf_16 : decode cX13_goBodyOf 16 = .ok (.iload_n 1, 1) := by decide +kernel
theorem dX13_goBodyOf_17 : decode cX13_goBodyOf 17 = .ok (.imul, 1) := by decide +kernel
theorem dX13_goBodyOf_18 : decode cX13_goBodyOf 18 = .ok (.iload_n 2, 1) := by decide +kernel
theorem dX13_goBodyOf_19 : decode cX13_goBodyOf 19 = .ok (.iadd, 1) := by decide +kernel
theorem dX13_goBodyOf_20 : decode cX13_goBodyOf 20 = .ok (.iaload, 1) := by decide +kernel
theorem dX13_goBodyOf_21 : decode cX13_goBodyOf 21 = .ok (.iload_n 3, 1) := by decide +kernel
theorem dX13_goBodyOf_22 : decode cX13_goBodyOf 22 = .ok (.invokevirtual 531, 3) := by decide +kernel
theorem dX13_goBodyOf_25 : decode cX13_goBodyOf 25 = .ok (.return_, 1) := by decide +kernel
theorem dX13_must_0 : decode cX13_must 0 = .ok (.iload_n 1, 1) := by decide +kernel
theorem dX13_must_1 : decode cX13_must 1 = .ok (.ifCond .ne 15, 3) := by decide +kernel
theorem dX13_must_4 : decode cX13_must 4 = .ok (.aload_n 0, 1) := by decide +kernel
theorem dX13_must_5 : decode cX13_must 5 = .ok (.getfield 511, 3) := by decide +kernel
theorem dX13_must_8 : decode cX13_must 8 = .ok (.ifCond .ne 8, 3) := by decide +kernel
theorem dX13_must_11 : decode cX13_must 11 = .ok (.aload_n 0, 1) := by decide +kernel
theorem dX13_must_12 : decode cX13_must 12 = .ok (.iconst 1, 1) := by decide +kernel
theorem dX13_must_13 : decode cX13_must 13 = .ok (.putfield 511, 3) := by decide +kernel
theorem dX13_must_16 : decode cX13_must 16 = .ok (.return_, 1) := by decide +kernel
theorem dX13_goStep_0 : decode cX13_goStep 0 = .ok (.aload_n 0, 1) := by decide +kernel
theorem dX13_goStep_1 : decode cX13_goStep 1 = .ok (.invokevirtual 535, 3) := by decide +kernel
theorem dX13_goStep_4 : decode cX13_goStep 4 = .ok (.ifCond .ne 4, 3) := by decide +kernel
theorem dX13_goStep_7 : decode cX13_goStep 7 = .ok (.return_, 1) := by decide +kernel
theorem dX13_goStep_8 : decode cX13_goStep 8 = .ok (.aload_n 0, 1) := by decide +kernel
theorem dX13_goStep_9 : decode cX13_goStep 9 = .ok (.getfield 173, 3) := by decide +kernel
theorem dX13_goStep_12 : decode cX13_goStep 12 = .ok (.iload_n 1, 1) := by decide +kernel
theorem dX13_goStep_13 : decode cX13_goStep 13 = .ok (.iaload, 1) := by decide +kernel
theorem dX13_goStep_14 : decode cX13_goStep 14 = .ok (.tableswitch 74 4 7 #[30, 39, 48, 57], 30) := by decide +kernel
theorem dX13_goStep_44 : decode cX13_goStep 44 = .ok (.aload_n 0, 1) := by decide +kernel
theorem dX13_goStep_45 : decode cX13_goStep 45 = .ok (.iload_n 1, 1) := by decide +kernel
theorem dX13_goStep_46 : decode cX13_goStep 46 = .ok (.iload_n 2, 1) := by decide +kernel
theorem dX13_goStep_47 : decode cX13_goStep 47 = .ok (.invokevirtual 538, 3) := by decide +kernel
theorem dX13_goStep_50 : decode cX13_goStep 50 = .ok (.goto 44, 3) := by decide +kernel
theorem dX13_goStep_53 : decode cX13_goStep 53 = .ok (.aload_n 0, 1) := by decide +kernel
theorem dX13_goStep_54 : decode cX13_goStep 54 = .ok (.iload_n 1, 1) := by decide +kernel
theorem dX13_goStep_55 : decode cX13_goStep 55 = .ok (.iload_n 2, 1) := by decide +kernel
theorem dX13_goStep_56 : decode cX13_goStep 56 = .ok (.invokevirtual 541, 3) := by decide +kernel
theorem dX13_goStep_59 : decode cX13_goStep 59 = .ok (.goto 35, 3) := by decide +kernel
theorem dX13_goStep_62 : decode cX13_goStep 62 = .ok (.aload_n 0, 1) := by decide +kernel
theorem dX13_goStep_63 : decode cX13_goStep 63 = .ok (.iload_n 1, 1) := by decide +kernel
theorem dX13_goStep_64 : decode cX13_goStep 64 = .ok (.iload_n 2, 1) := by decide +kernel
theorem dX13_goStep_65 : decode cX13_goStep 65 = .ok (.invokevirtual 544, 3) := by decide +kernel
theorem dX13_goStep_68 : decode cX13_goStep 68 = .ok (.goto 26, 3) := by decide +kernel
theorem dX13_goStep_71 : decode cX13_goStep 71 = .ok (.aload_n 0, 1) := by decide +kernel
theorem dX13_goStep_72 : decode cX13_goStep 72 = .ok (.iload_n 1, 1) := by decide +kernel
theorem dX13_goStep_73 : decode cX13_goStep 73 = .ok (.iload_n 2, 1) := by decide +kernel
theorem dX13_goStep_74 : decode cX13_goStep 74 = .ok (.ifCond .ne 7, 3) := by decide +kernel
theorem dX13_goStep_77 : decode cX13_goStep 77 = .ok (.iconst 1, 1) := by decide +kernel
theorem dX13_goStep_78 : decode cX13_goStep 78 = .ok (.goto 4, 3) := by decide +kernel
theorem dX13_goStep_81 : decode cX13_goStep 81 = .ok (.iconst 0, 1) := by decide +kernel
theorem dX13_goStep_82 : decode cX13_goStep 82 = .ok (.invokevirtual 544, 3) := by decide +kernel
theorem dX13_goStep_85 : decode cX13_goStep 85 = .ok (.goto 9, 3) := by decide +kernel
theorem dX13_goStep_88 : decode cX13_goStep 88 = .ok (.aload_n 0, 1) := by decide +kernel
theorem dX13_goStep_89 : decode cX13_goStep 89 = .ok (.iload_n 1, 1) := by decide +kernel
theorem dX13_goStep_90 : decode cX13_goStep 90 = .ok (.iload_n 2, 1) := by decide +kernel
theorem dX13_goStep_91 : decode cX13_goStep 91 = .ok (.invokevirtual 547, 3) := by decide +kernel
theorem dX13_goStep_94 : decode cX13_goStep 94 = .ok (.return_, 1) := by decide +kernel
theorem dX13_change_0 : decode cX13_change 0 = .ok (.aload_n 0, 1) := by decide +kernel
theorem dX13_change_1 : decode cX13_change 1 = .ok (.aload_n 0, 1) := by decide +kernel
theorem dX13_change_2 : decode cX13_change 2 = .ok (.getfield 185, 3) := by decide +kernel
theorem dX13_change_5 : decode cX13_change 5 = .ok (.iconst 2, 1) := by decide +kernel
theorem dX13_change_6 : decode cX13_change 6 = .ok (.iload_n 1, 1) := by decide +kernel
theorem dX13_change_7 : decode cX13_change 7 = .ok (.imul, 1) := by decide +kernel
theorem dX13_change_8 : decode cX13_change 8 = .ok (.iaload, 1) := by decide +kernel
theorem dX13_change_9 : decode cX13_change 9 = .ok (.aload_n 0, 1) := by decide +kernel
theorem dX13_change_10 : decode cX13_change 10 = .ok (.getfield 188, 3) := by decide +kernel
theorem dX13_change_13 : decode cX13_change 13 = .ok (.iconst 2, 1) := by decide +kernel
theorem dX13_change_14 : decode cX13_change 14 = .ok (.iload_n 1, 1) := by decide +kernel
theorem dX13_change_15 : decode cX13_change 15 = .ok (.imul, 1) := by decide +kernel
theorem dX13_change_16 : decode cX13_change 16 = .ok (.iaload, 1) := by decide +kernel
theorem dX13_change_17 : decode cX13_change 17 = .ok (.invokevirtual 518, 3) := by decide +kernel
theorem dX13_change_20 : decode cX13_change 20 = .ok (.istore_n 3, 1) := by decide +kernel
theorem dX13_change_21 : decode cX13_change 21 = .ok (.iload_n 3, 1) := by decide +kernel
theorem dX13_change_22 : decode cX13_change 22 = .ok (.iconst (-1), 1) := by decide +kernel
theorem dX13_change_23 : decode cX13_change 23 = .ok (.if_icmp .ne 4, 3) := by decide +kernel
theorem dX13_change_26 : decode cX13_change 26 = .ok (.return_, 1) := by decide +kernel
theorem dX13_change_27 : decode cX13_change 27 = .ok (.aload_n 0, 1) := by decide +kernel
theorem dX13_change_28 : decode cX13_change 28 = .ok (.getfield 173, 3) := by decide +kernel
theorem dX13_change_31 : decode cX13_change 31 = .ok (.iload_n 1, 1) := by decide +kernel
theorem dX13_change_32 : decode cX13_change 32 = .ok (.iaload, 1) := by decide +kernel
theorem dX13_change_33 : decode cX13_change 33 = .ok (.istore 4, 2) := by decide +kernel
theorem dX13_change_35 : decode cX13_change 35 = .ok (.iload 4, 2) := by decide +kernel
theorem dX13_change_37 : decode cX13_change 37 = .ok (.iconst 3, 1) := by decide +kernel
theorem dX13_change_38 : decode cX13_change 38 = .ok (.if_icmp .ne 67, 3) := by decide +kernel
theorem dX13_change_41 : decode cX13_change 41 = .ok (.aload_n 0, 1) := by decide +kernel
theorem dX13_change_42 : decode cX13_change 42 = .ok (.aload_n 0, 1) := by decide +kernel
theorem dX13_change_43 : decode cX13_change 43 = .ok (.getfield 185, 3) := by decide +kernel
theorem dX13_change_46 : decode cX13_change 46 = .ok (.iconst 2, 1) := by decide +kernel
theorem dX13_change_47 : decode cX13_change 47 = .ok (.iload_n 1, 1) := by decide +kernel
theorem dX13_change_48 : decode cX13_change 48 = .ok (.imul, 1) := by decide +kernel
theorem dX13_change_49 : decode cX13_change 49 = .ok (.iconst 1, 1) := by decide +kernel
theorem dX13_change_50 : decode cX13_change 50 = .ok (.iadd, 1) := by decide +kernel
theorem dX13_change_51 : decode cX13_change 51 = .ok (.iaload, 1) := by decide +kernel
theorem dX13_change_52 : decode cX13_change 52 = .ok (.aload_n 0, 1) := by decide +kernel
theorem dX13_change_53 : decode cX13_change 53 = .ok (.getfield 188, 3) := by decide +kernel
theorem dX13_change_56 : decode cX13_change 56 = .ok (.iconst 2, 1) := by decide +kernel
theorem dX13_change_57 : decode cX13_change 57 = .ok (.iload_n 1, 1) := by decide +kernel
theorem dX13_change_58 : decode cX13_change 58 = .ok (.imul, 1) := by decide +kernel
theorem dX13_change_59 : decode cX13_change 59 = .ok (.iconst 1, 1) := by decide +kernel
theorem dX13_change_60 : decode cX13_change 60 = .ok (.iadd, 1) := by decide +kernel
theorem dX13_change_61 : decode cX13_change 61 = .ok (.iaload, 1) := by decide +kernel
theorem dX13_change_62 : decode cX13_change 62 = .ok (.invokevirtual 518, 3) := by decide +kernel
theorem dX13_change_65 : decode cX13_change 65 = .ok (.istore 5, 2) := by decide +kernel
theorem dX13_change_67 : decode cX13_change 67 = .ok (.iload 5, 2) := by decide +kernel
theorem dX13_change_69 : decode cX13_change 69 = .ok (.iconst (-1), 1) := by decide +kernel
theorem dX13_change_70 : decode cX13_change 70 = .ok (.if_icmp .ne 4, 3) := by decide +kernel
theorem dX13_change_73 : decode cX13_change 73 = .ok (.return_, 1) := by decide +kernel
theorem dX13_change_74 : decode cX13_change 74 = .ok (.aload_n 0, 1) := by decide +kernel
theorem dX13_change_75 : decode cX13_change 75 = .ok (.getfield 228, 3) := by decide +kernel
theorem dX13_change_78 : decode cX13_change 78 = .ok (.iload_n 3, 1) := by decide +kernel
theorem dX13_change_79 : decode cX13_change 79 = .ok (.iaload, 1) := by decide +kernel
theorem dX13_change_80 : decode cX13_change 80 = .ok (.istore 6, 2) := by decide +kernel
theorem dX13_change_82 : decode cX13_change 82 = .ok (.aload_n 0, 1) := by decide +kernel
theorem dX13_change_83 : decode cX13_change 83 = .ok (.getfield 228, 3) := by decide +kernel
theorem dX13_change_86 : decode cX13_change 86 = .ok (.iload_n 3, 1) := by decide +kernel
theorem dX13_change_87 : decode cX13_change 87 = .ok (.aload_n 0, 1) := by decide +kernel
theorem dX13_change_88 : decode cX13_change 88 = .ok (.getfield 228, 3) := by decide +kernel
theorem dX13_change_91 : decode cX13_change 91 = .ok (.iload 5, 2) := by decide +kernel
theorem dX13_change_93 : decode cX13_change 93 = .ok (.iaload, 1) := by decide +kernel
theorem dX13_change_94 : decode cX13_change 94 = .ok (.iastore, 1) := by decide +kernel
theorem dX13_change_95 : decode cX13_change 95 = .ok (.aload_n 0, 1) := by decide +kernel
theorem dX13_change_96 : decode cX13_change 96 = .ok (.getfield 228, 3) := by decide +kernel
theorem dX13_change_99 : decode cX13_change 99 = .ok (.iload 5, 2) := by decide +kernel
theorem dX13_change_101 : decode cX13_change 101 = .ok (.iload 6, 2) := by decide +kernel
theorem dX13_change_103 : decode cX13_change 103 = .ok (.iastore, 1) := by decide +kernel
theorem dX13_change_104 : decode cX13_change 104 = .ok (.return_, 1) := by decide +kernel
theorem dX13_change_105 : decode cX13_change 105 = .ok (.aload_n 0, 1) := by decide +kernel
theorem dX13_change_106 : decode cX13_change 106 = .ok (.iconst 4, 1) := by decide +kernel
theorem dX13_change_107 : decode cX13_change 107 = .ok (.iload_n 1, 1) := by decide +kernel
theorem dX13_change_108 : decode cX13_change 108 = .ok (.imul, 1) := by decide +kernel
theorem dX13_change_109 : decode cX13_change 109 = .ok (.invokevirtual 521, 3) := by decide +kernel
theorem dX13_change_112 : decode cX13_change 112 = .ok (.istore 5, 2) := by decide +kernel
theorem dX13_change_114 : decode cX13_change 114 = .ok (.aload_n 0, 1) := by decide +kernel
theorem dX13_change_115 : decode cX13_change 115 = .ok (.getfield 511, 3) := by decide +kernel
theorem dX13_change_118 : decode cX13_change 118 = .ok (.ifCond .le 4, 3) := by decide +kernel
theorem dX13_change_121 : decode cX13_change 121 = .ok (.return_, 1) := by decide +kernel
theorem dX13_change_122 : decode cX13_change 122 = .ok (.iload 4, 2) := by decide +kernel
theorem dX13_change_124 : decode cX13_change 124 = .ok (.iconst 2, 1) := by decide +kernel
theorem dX13_change_125 : decode cX13_change 125 = .ok (.if_icmp .ne 17, 3) := by decide +kernel
theorem dX13_change_128 : decode cX13_change 128 = .ok (.aload_n 0, 1) := by decide +kernel
theorem dX13_change_129 : decode cX13_change 129 = .ok (.getfield 228, 3) := by decide +kernel
theorem dX13_change_132 : decode cX13_change 132 = .ok (.iload_n 3, 1) := by decide +kernel
theorem dX13_change_133 : decode cX13_change 133 = .ok (.dup2, 1) := by decide +kernel
theorem dX13_change_134 : decode cX13_change 134 = .ok (.iaload, 1) := by decide +kernel
theorem dX13_change_135 : decode cX13_change 135 = .ok (.iload 5, 2) := by decide +kernel
theorem dX13_change_137 : decode cX13_change 137 = .ok (.ixor, 1) := by decide +kernel
theorem dX13_change_138 : decode cX13_change 138 = .ok (.iastore, 1) := by decide +kernel
theorem dX13_change_139 : decode cX13_change 139 = .ok (.goto 42, 3) := by decide +kernel
theorem dX13_change_142 : decode cX13_change 142 = .ok (.iload 4, 2) := by decide +kernel
theorem dX13_change_144 : decode cX13_change 144 = .ok (.ifCond .ne 7, 3) := by decide +kernel
theorem dX13_change_147 : decode cX13_change 147 = .ok (.iconst 1, 1) := by decide +kernel
theorem dX13_change_148 : decode cX13_change 148 = .ok (.goto 4, 3) := by decide +kernel
theorem dX13_change_151 : decode cX13_change 151 = .ok (.iconst 0, 1) := by decide +kernel
theorem dX13_change_152 : decode cX13_change 152 = .ok (.iload_n 2, 1) := by decide +kernel
theorem dX13_change_153 : decode cX13_change 153 = .ok (.if_icmp .eq 17, 3) := by decide +kernel
theorem dX13_change_156 : decode cX13_change 156 = .ok (.aload_n 0, 1) := by decide +kernel
theorem dX13_change_157 : decode cX13_change 157 = .ok (.getfield 228, 3) := by decide +kernel
theorem dX13_change_160 : decode cX13_change 160 = .ok (.iload_n 3, 1) := by decide +kernel
theorem dX13_change_161 : decode cX13_change 161 = .ok (.dup2, 1) := by decide +kernel
theorem dX13_change_162 : decode cX13_change 162 = .ok (.iaload, 1) := by decide +kernel
theorem dX13_change_163 : decode cX13_change 163 = .ok (.iload 5, 2) := by decide +kernel
theorem dX13_change_165 : decode cX13_change 165 = .ok (.iadd, 1) := by decide +kernel
theorem dX13_change_166 : decode cX13_change 166 = .ok (.iastore, 1) := by decide +kernel
theorem dX13_change_167 : decode cX13_change 167 = .ok (.goto 14, 3) := by decide +kernel
theorem dX13_change_170 : decode cX13_change 170 = .ok (.aload_n 0, 1) := by decide +kernel
theorem dX13_change_171 : decode cX13_change 171 = .ok (.getfield 228, 3) := by decide +kernel
theorem dX13_change_174 : decode cX13_change 174 = .ok (.iload_n 3, 1) := by decide +kernel
theorem dX13_change_175 : decode cX13_change 175 = .ok (.dup2, 1) := by decide +kernel
theorem dX13_change_176 : decode cX13_change 176 = .ok (.iaload, 1) := by decide +kernel
theorem dX13_change_177 : decode cX13_change 177 = .ok (.iload 5, 2) := by decide +kernel
theorem dX13_change_179 : decode cX13_change 179 = .ok (.isub, 1) := by decide +kernel
theorem dX13_change_180 : decode cX13_change 180 = .ok (.iastore, 1) := by decide +kernel
theorem dX13_change_181 : decode cX13_change 181 = .ok (.return_, 1) := by decide +kernel
theorem dX13_goIf_0 : decode cX13_goIf 0 = .ok (.aload_n 0, 1) := by decide +kernel
theorem dX13_goIf_1 : decode cX13_goIf 1 = .ok (.iload_n 1, 1) := by decide +kernel
theorem dX13_goIf_2 : decode cX13_goIf 2 = .ok (.iload_n 2, 1) := by decide +kernel
theorem dX13_goIf_3 : decode cX13_goIf 3 = .ok (.ifCond .eq 7, 3) := by decide +kernel
theorem dX13_goIf_6 : decode cX13_goIf 6 = .ok (.iconst 1, 1) := by decide +kernel
theorem dX13_goIf_7 : decode cX13_goIf 7 = .ok (.goto 4, 3) := by decide +kernel
theorem dX13_goIf_10 : decode cX13_goIf 10 = .ok (.iconst 0, 1) := by decide +kernel
theorem dX13_goIf_11 : decode cX13_goIf 11 = .ok (.invokevirtual 550, 3) := by decide +kernel
theorem dX13_goIf_14 : decode cX13_goIf 14 = .ok (.istore_n 3, 1) := by decide +kernel
theorem dX13_goIf_15 : decode cX13_goIf 15 = .ok (.aload_n 0, 1) := by decide +kernel
theorem dX13_goIf_16 : decode cX13_goIf 16 = .ok (.getfield 511, 3) := by decide +kernel
theorem dX13_goIf_19 : decode cX13_goIf 19 = .ok (.ifCond .le 4, 3) := by decide +kernel
theorem dX13_goIf_22 : decode cX13_goIf 22 = .ok (.return_, 1) := by decide +kernel
theorem dX13_goIf_23 : decode cX13_goIf 23 = .ok (.aload_n 0, 1) := by decide +kernel
theorem dX13_goIf_24 : decode cX13_goIf 24 = .ok (.iload_n 1, 1) := by decide +kernel
theorem dX13_goIf_25 : decode cX13_goIf 25 = .ok (.iload_n 3, 1) := by decide +kernel
theorem dX13_goIf_26 : decode cX13_goIf 26 = .ok (.ifCond .eq 7, 3) := by decide +kernel
theorem dX13_goIf_29 : decode cX13_goIf 29 = .ok (.iconst 0, 1) := by decide +kernel
theorem dX13_goIf_30 : decode cX13_goIf 30 = .ok (.goto 4, 3) := by decide +kernel
theorem dX13_goIf_33 : decode cX13_goIf 33 = .ok (.iconst 1, 1) := by decide +kernel
theorem dX13_goIf_34 : decode cX13_goIf 34 = .ok (.iload_n 2, 1) := by decide +kernel
theorem dX13_goIf_35 : decode cX13_goIf 35 = .ok (.invokevirtual 553, 3) := by decide +kernel
theorem dX13_goIf_38 : decode cX13_goIf 38 = .ok (.aload_n 0, 1) := by decide +kernel
theorem dX13_goIf_39 : decode cX13_goIf 39 = .ok (.getfield 511, 3) := by decide +kernel
theorem dX13_goIf_42 : decode cX13_goIf 42 = .ok (.ifCond .le 4, 3) := by decide +kernel
theorem dX13_goIf_45 : decode cX13_goIf 45 = .ok (.return_, 1) := by decide +kernel
theorem dX13_goIf_46 : decode cX13_goIf 46 = .ok (.aload_n 0, 1) := by decide +kernel
theorem dX13_goIf_47 : decode cX13_goIf 47 = .ok (.aload_n 0, 1) := by decide +kernel
theorem dX13_goIf_48 : decode cX13_goIf 48 = .ok (.iload_n 1, 1) := by decide +kernel
theorem dX13_goIf_49 : decode cX13_goIf 49 = .ok (.iload_n 2, 1) := by decide +kernel
theorem dX13_goIf_50 : decode cX13_goIf 50 = .ok (.ifCond .eq 7, 3) := by decide +kernel
theorem dX13_goIf_53 : decode cX13_goIf 53 = .ok (.iconst 0, 1) := by decide +kernel
theorem dX13_goIf_54 : decode cX13_goIf 54 = .ok (.goto 4, 3) := by decide +kernel
theorem dX13_goIf_57 : decode cX13_goIf 57 = .ok (.iconst 1, 1) := by decide +kernel
theorem dX13_goIf_58 : decode cX13_goIf 58 = .ok (.invokevirtual 550, 3) := by decide +kernel
theorem dX13_goIf_61 : decode cX13_goIf 61 = .ok (.iload_n 3, 1) := by decide +kernel
theorem dX13_goIf_62 : decode cX13_goIf 62 = .ok (.if_icmp .ne 7, 3) := by decide +kernel
theorem dX13_goIf_65 : decode cX13_goIf 65 = .ok (.iconst 1, 1) := by decide +kernel
theorem dX13_goIf_66 : decode cX13_goIf 66 = .ok (.goto 4, 3) := by decide +kernel
theorem dX13_goIf_69 : decode cX13_goIf 69 = .ok (.iconst 0, 1) := by decide +kernel
theorem dX13_goIf_70 : decode cX13_goIf 70 = .ok (.invokevirtual 556, 3) := by decide +kernel
theorem dX13_goIf_73 : decode cX13_goIf 73 = .ok (.return_, 1) := by decide +kernel
theorem dX13_goFrom_0 : decode cX13_goFrom 0 = .ok (.iload_n 2, 1) := by decide +kernel
theorem dX13_goFrom_1 : decode cX13_goFrom 1 = .ok (.ifCond .eq 7, 3) := by decide +kernel
theorem dX13_goFrom_4 : decode cX13_goFrom 4 = .ok (.iconst 1, 1) := by decide +kernel
theorem dX13_goFrom_5 : decode cX13_goFrom 5 = .ok (.goto 4, 3) := by decide +kernel
theorem dX13_goFrom_8 : decode cX13_goFrom 8 = .ok (.iconst 0, 1) := by decide +kernel
