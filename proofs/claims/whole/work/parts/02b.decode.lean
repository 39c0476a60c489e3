theorem dX0_init_0 : decode cX0_init 0 = .ok (.aload_n 0, 1) := by decide +kernel
theorem dX0_init_1 : decode cX0_init 1 = .ok (.invokespecial 3, 3) := by decide +kernel
theorem dX0_init_4 : decode cX0_init 4 = .ok (.aload_n 0, 1) := by decide +kernel
theorem dX0_init_5 : decode cX0_init 5 = .ok (.iconst 4, 1) := by decide +kernel
theorem dX0_init_6 : decode cX0_init 6 = .ok (.bipush 10, 2) := by decide +kernel
theorem dX0_init_8 : decode cX0_init 8 = .ok (.multianewarray 11 2, 4) := by decide +kernel
theorem dX0_init_12 : decode cX0_init 12 = .ok (.putfield 13, 3) := by decide +kernel
theorem dX0_init_15 : decode cX0_init 15 = .ok (.aload_n 0, 1) := by decide +kernel
theorem dX0_init_16 : decode cX0_init 16 = .ok (.iconst 4, 1) := by decide +kernel
theorem dX0_init_17 : decode cX0_init 17 = .ok (.bipush 10, 2) := by decide +kernel
theorem dX0_init_19 : decode cX0_init 19 = .ok (.multianewarray 11 2, 4) := by decide +kernel
theorem dX0_init_23 : decode cX0_init 23 = .ok (.putfield 16, 3) := by decide +kernel
theorem dX0_init_26 : decode cX0_init 26 = .ok (.aload_n 0, 1) := by decide +kernel
theorem dX0_init_27 : decode cX0_init 27 = .ok (.iconst 4, 1) := by decide +kernel
theorem dX0_init_28 : decode cX0_init 28 = .ok (.bipush 10, 2) := by decide +kernel
theorem dX0_init_30 : decode cX0_init 30 = .ok (.multianewarray 11 2, 4) := by decide +kernel
theorem dX0_init_34 : decode cX0_init 34 = .ok (.putfield 19, 3) := by decide +kernel
theorem dX0_init_37 : decode cX0_init 37 = .ok (.aload_n 0, 1) := by decide +kernel
theorem dX0_init_38 : decode cX0_init 38 = .ok (.iconst 4, 1) := by decide +kernel
theorem dX0_init_39 : decode cX0_init 39 = .ok (.iconst 4, 1) := by decide +kernel
theorem dX0_init_40 : decode cX0_init 40 = .ok (.invokevirtual 22, 3) := by decide +kernel
theorem dX0_init_43 : decode cX0_init 43 = .ok (.return_, 1) := by decide +kernel
theorem dX0_clear_0 : decode cX0_clear 0 = .ok (.aload_n 0, 1) := by decide +kernel
theorem dX0_clear_1 : decode cX0_clear 1 = .ok (.iload_n 1, 1) := by decide +kernel
theorem dX0_clear_2 : decode cX0_clear 2 = .ok (.putfield 26, 3) := by decide +kernel
theorem dX0_clear_5 : decode cX0_clear 5 = .ok (.aload_n 0, 1) := by decide +kernel
theorem dX0_clear_6 : decode cX0_clear 6 = .ok (.iload_n 2, 1) := by decide +kernel
theorem dX0_clear_7 : decode cX0_clear 7 = .ok (.putfield 30, 3) := by decide +kernel
theorem dX0_clear_10 : decode cX0_clear 10 = .ok (.aload_n 0, 1) := by decide +kernel
theorem dX0_clear_11 : decode cX0_clear 11 = .ok (.iconst 0, 1) := by decide +kernel
theorem dX0_clear_12 : decode cX0_clear 12 = .ok (.putfield 33, 3) := by decide +kernel
theorem dX0_clear_15 : decode cX0_clear 15 = .ok (.aload_n 0, 1) := by decide +kernel
theorem dX0_clear_16 : decode cX0_clear 16 = .ok (.iconst 0, 1) := by decide +kernel
theorem dX0_clear_17 : decode cX0_clear 17 = .ok (.putfield 36, 3) := by decide +kernel
theorem dX0_clear_20 : decode cX0_clear 20 = .ok (.iconst 0, 1) := by decide +kernel
theorem dX0_clear_21 : decode cX0_clear 21 = .ok (.istore_n 3, 1) := by decide +kernel
theorem dX0_clear_22 : decode cX0_clear 22 = .ok (.iload_n 3, 1) := by decide +kernel
theorem dX0_clear_23 : decode cX0_clear 23 = .ok (.iconst 4, 1) := by decide +kernel
theorem dX0_clear_24 : decode cX0_clear 24 = .ok (.if_icmp .ge 19, 3) := by decide +kernel
theorem dX0_clear_27 : decode cX0_clear 27 = .ok (.aload_n 0, 1) := by decide +kernel
theorem dX0_clear_28 : decode cX0_clear 28 = .ok (.getfield 13, 3) := by decide +kernel
theorem dX0_clear_31 : decode cX0_clear 31 = .ok (.iload_n 3, 1) := by decide +kernel
theorem dX0_clear_32 : decode cX0_clear 32 = .ok (.aaload, 1) := by decide +kernel
theorem dX0_clear_33 : decode cX0_clear 33 = .ok (.iconst 0, 1) := by decide +kernel
theorem dX0_clear_34 : decode cX0_clear 34 = .ok (.invokestatic 39, 3) := by decide +kernel
theorem dX0_clear_37 : decode cX0_clear 37 = .ok (.iinc 3 1, 3) := by decide +kernel
theorem dX0_clear_40 : decode cX0_clear 40 = .ok (.goto (-18), 3) := by decide +kernel
theorem dX0_clear_43 : decode cX0_clear 43 = .ok (.iconst 0, 1) := by decide +kernel
theorem dX0_clear_44 : decode cX0_clear 44 = .ok (.istore_n 3, 1) := by decide +kernel
theorem dX0_clear_45 : decode cX0_clear 45 = .ok (.iload_n 3, 1) := by decide +kernel
theorem dX0_clear_46 : decode cX0_clear 46 = .ok (.iconst 4, 1) := by decide +kernel
theorem dX0_clear_47 : decode cX0_clear 47 = .ok (.if_icmp .ge 34, 3) := by decide +kernel
theorem dX0_clear_50 : decode cX0_clear 50 = .ok (.aload_n 0, 1) := by decide +kernel
theorem dX0_clear_51 : decode cX0_clear 51 = .ok (.getfield 19, 3) := by decide +kernel
theorem dX0_clear_54 : decode cX0_clear 54 = .ok (.iload_n 3, 1) := by decide +kernel
theorem dX0_clear_55 : decode cX0_clear 55 = .ok (.aaload, 1) := by decide +kernel
theorem dX0_clear_56 : decode cX0_clear 56 = .ok (.iload_n 3, 1) := by decide +kernel
theorem dX0_clear_57 : decode cX0_clear 57 = .ok (.ifCond .ne 14, 3) := by decide +kernel
theorem dX0_clear_60 : decode cX0_clear 60 = .ok (.iconst 1, 1) := by decide +kernel
theorem dX0_clear_61 : decode cX0_clear 61 = .ok (.aload_n 0, 1) := by decide +kernel
theorem dX0_clear_62 : decode cX0_clear 62 = .ok (.getfield 26, 3) := by decide +kernel
theorem dX0_clear_65 : decode cX0_clear 65 = .ok (.ishl, 1) := by decide +kernel
theorem dX0_clear_66 : decode cX0_clear 66 = .ok (.iconst 1, 1) := by decide +kernel
theorem dX0_clear_67 : decode cX0_clear 67 = .ok (.isub, 1) := by decide +kernel
theorem dX0_clear_68 : decode cX0_clear 68 = .ok (.goto 4, 3) := by decide +kernel
theorem dX0_clear_71 : decode cX0_clear 71 = .ok (.iconst 0, 1) := by decide +kernel
theorem dX0_clear_72 : decode cX0_clear 72 = .ok (.invokestatic 39, 3) := by decide +kernel
theorem dX0_clear_75 : decode cX0_clear 75 = .ok (.iinc 3 1, 3) := by decide +kernel
theorem dX0_clear_78 : decode cX0_clear 78 = .ok (.goto (-33), 3) := by decide +kernel
theorem dX0_clear_81 : decode cX0_clear 81 = .ok (.return_, 1) := by decide +kernel
theorem dX0_hasNoCell_0 : decode cX0_hasNoCell 0 = .ok (.iload_n 1, 1) := by decide +kernel
theorem dX0_hasNoCell_1 : decode cX0_hasNoCell 1 = .ok (.ifCond .lt 23, 3) := by decide +kernel
theorem dX0_hasNoCell_4 : decode cX0_hasNoCell 4 = .ok (.iload_n 1, 1) := by decide +kernel
theorem dX0_hasNoCell_5 : decode cX0_hasNoCell 5 = .ok (.aload_n 0, 1) := by decide +kernel
theorem dX0_hasNoCell_6 : decode cX0_hasNoCell 6 = .ok (.getfield 26, 3) := by decide +kernel
theorem dX0_hasNoCell_9 : decode cX0_hasNoCell 9 = .ok (.if_icmp .ge 15, 3) := by decide +kernel
theorem dX0_hasNoCell_12 : decode cX0_hasNoCell 12 = .ok (.iload_n 2, 1) := by decide +kernel
theorem dX0_hasNoCell_13 : decode cX0_hasNoCell 13 = .ok (.ifCond .lt 11, 3) := by decide +kernel
theorem dX0_hasNoCell_16 : decode cX0_hasNoCell 16 = .ok (.iload_n 2, 1) := by decide +kernel
theorem dX0_hasNoCell_17 : decode cX0_hasNoCell 17 = .ok (.aload_n 0, 1) := by decide +kernel
theorem dX0_hasNoCell_18 : decode cX0_hasNoCell 18 = .ok (.getfield 30, 3) := by decide +kernel
theorem dX0_hasNoCell_21 : decode cX0_hasNoCell 21 = .ok (.if_icmp .lt 7, 3) := by decide +kernel
theorem dX0_hasNoCell_24 : decode cX0_hasNoCell 24 = .ok (.iconst 1, 1) := by decide +kernel
theorem dX0_hasNoCell_25 : decode cX0_hasNoCell 25 = .ok (.goto 4, 3) := by decide +kernel
theorem dX0_hasNoCell_28 : decode cX0_hasNoCell 28 = .ok (.iconst 0, 1) := by decide +kernel
theorem dX0_hasNoCell_29 : decode cX0_hasNoCell 29 = .ok (.ireturn, 1) := by decide +kernel
theorem dX0_putPart_0 : decode cX0_putPart 0 = .ok (.iconst 0, 1) := by decide +kernel
theorem dX0_putPart_1 : decode cX0_putPart 1 = .ok (.istore 4, 2) := by decide +kernel
theorem dX0_putPart_3 : decode cX0_putPart 3 = .ok (.iconst 0, 1) := by decide +kernel
theorem dX0_putPart_4 : decode cX0_putPart 4 = .ok (.istore 5, 2) := by decide +kernel
theorem dX0_putPart_6 : decode cX0_putPart 6 = .ok (.iload 5, 2) := by decide +kernel
theorem dX0_putPart_8 : decode cX0_putPart 8 = .ok (.iconst 4, 1) := by decide +kernel
theorem dX0_putPart_9 : decode cX0_putPart 9 = .ok (.if_icmp .ge 29, 3) := by decide +kernel
theorem dX0_putPart_12 : decode cX0_putPart 12 = .ok (.aload_n 0, 1) := by decide +kernel
theorem dX0_putPart_13 : decode cX0_putPart 13 = .ok (.getfield 19, 3) := by decide +kernel
theorem dX0_putPart_16 : decode cX0_putPart 16 = .ok (.iload 5, 2) := by decide +kernel
theorem dX0_putPart_18 : decode cX0_putPart 18 = .ok (.aaload, 1) := by decide +kernel
theorem dX0_putPart_19 : decode cX0_putPart 19 = .ok (.iload_n 2, 1) := by decide +kernel
theorem dX0_putPart_20 : decode cX0_putPart 20 = .ok (.iaload, 1) := by decide +kernel
theorem dX0_putPart_21 : decode cX0_putPart 21 = .ok (.iload_n 1, 1) := by decide +kernel
theorem dX0_putPart_22 : decode cX0_putPart 22 = .ok (.ishr, 1) := by decide +kernel
theorem dX0_putPart_23 : decode cX0_putPart 23 = .ok (.iconst 1, 1) := by decide +kernel
theorem dX0_putPart_24 : decode cX0_putPart 24 = .ok (.iand, 1) := by decide +kernel
theorem dX0_putPart_25 : decode cX0_putPart 25 = .ok (.ifCond .eq 7, 3) := by decide +kernel
theorem dX0_putPart_28 : decode cX0_putPart 28 = .ok (.iload 5, 2) := by decide +kernel
theorem dX0_putPart_30 : decode cX0_putPart 30 = .ok (.istore 4, 2) := by decide +kernel
theorem dX0_putPart_32 : decode cX0_putPart 32 = .ok (.iinc 5 1, 3) := by decide +kernel
theorem dX0_putPart_35 : decode cX0_putPart 35 = .ok (.goto (-29), 3) := by decide +kernel
theorem dX0_putPart_38 : decode cX0_putPart 38 = .ok (.aload_n 0, 1) := by decide +kernel
theorem dX0_putPart_39 : decode cX0_putPart 39 = .ok (.getfield 19, 3) := by decide +kernel
theorem dX0_putPart_42 : decode cX0_putPart 42 = .ok (.iload 4, 2) := by decide +kernel
theorem dX0_putPart_44 : decode cX0_putPart 44 = .ok (.aaload, 1) := by decide +kernel
theorem dX0_putPart_45 : decode cX0_putPart 45 = .ok (.iload_n 2, 1) := by decide +kernel
theorem dX0_putPart_46 : decode cX0_putPart 46 = .ok (.dup2, 1) := by decide +kernel
theorem dX0_putPart_47 : decode cX0_putPart 47 = .ok (.iaload, 1) := by decide +kernel
theorem dX0_putPart_48 : decode cX0_putPart 48 = .ok (.iconst 1, 1) := by decide +kernel
theorem dX0_putPart_49 : decode cX0_putPart 49 = .ok (.iload_n 1, 1) := by decide +kernel
theorem dX0_putPart_50 : decode cX0_putPart 50 = .ok (.ishl, 1) := by decide +kernel
theorem dX0_putPart_51 : decode cX0_putPart 51 = .ok (.iconst (-1), 1) := by decide +kernel
theorem dX0_putPart_52 : decode cX0_putPart 52 = .ok (.ixor, 1) := by decide +kernel
theorem dX0_putPart_53 : decode cX0_putPart 53 = .ok (.iand, 1) := by decide +kernel
theorem dX0_putPart_54 : decode cX0_putPart 54 = .ok (.iastore, 1) := by decide +kernel
theorem dX0_putPart_55 : decode cX0_putPart 55 = .ok (.aload_n 0, 1) := by decide +kernel
theorem dX0_putPart_56 : decode cX0_putPart 56 = .ok (.getfield 19, 3) := by decide +kernel
theorem dX0_putPart_59 : decode cX0_putPart 59 = .ok (.iload_n 3, 1) := by decide +kernel
theorem dX0_putPart_60 : decode cX0_putPart 60 = .ok (.aaload, 1) := by decide +kernel
theorem dX0_putPart_61 : decode cX0_putPart 61 = .ok (.iload_n 2, 1) := by decide +kernel
theorem dX0_putPart_62 : decode cX0_putPart 62 = .ok (.dup2, 1) := by decide +kernel
theorem dX0_putPart_63 : decode cX0_putPart 63 = .ok (.iaload, 1) := by decide +kernel
theorem dX0_putPart_64 : decode cX0_putPart 64 = .ok (.iconst 1, 1) := by decide +kernel
theorem dX0_putPart_65 : decode cX0_putPart 65 = .ok (.iload_n 1, 1) := by decide +kernel
theorem dX0_putPart_66 : decode cX0_putPart 66 = .ok (.ishl, 1) := by decide +kernel
theorem dX0_putPart_67 : decode cX0_putPart 67 = .ok (.ior, 1) := by decide +kernel
theorem dX0_putPart_68 : decode cX0_putPart 68 = .ok (.iastore, 1) := by decide +kernel
theorem dX0_putPart_69 : decode cX0_putPart 69 = .ok (.aload_n 0, 1) := by decide +kernel
theorem dX0_putPart_70 : decode cX0_putPart 70 = .ok (.iconst 0, 1) := by decide +kernel
theorem dX0_putPart_71 : decode cX0_putPart 71 = .ok (.putfield 36, 3) := by decide +kernel
theorem dX0_putPart_74 : decode cX0_putPart 74 = .ok (.iload 4, 2) := by decide +kernel
theorem dX0_putPart_76 : decode cX0_putPart 76 = .ok (.ireturn, 1) := by decide +kernel
theorem dX0_putBall_0 : decode cX0_putBall 0 = .ok (.aload_n 0, 1) := by decide +kernel
theorem dX0_putBall_1 : decode cX0_putBall 1 = .ok (.getfield 13, 3) := by decide +kernel
theorem dX0_putBall_4 : decode cX0_putBall 4 = .ok (.iload_n 3, 1) := by decide +kernel
theorem dX0_putBall_5 : decode cX0_putBall 5 = .ok (.aaload, 1) := by decide +kernel
theorem dX0_putBall_6 : decode cX0_putBall 6 = .ok (.iload_n 2, 1) := by decide +kernel
theorem dX0_putBall_7 : decode cX0_putBall 7 = .ok (.iaload, 1) := by decide +kernel
theorem dX0_putBall_8 : decode cX0_putBall 8 = .ok (.iload_n 1, 1) := by decide +kernel
theorem dX0_putBall_9 : decode cX0_putBall 9 = .ok (.ishr, 1) := by decide +kernel
theorem dX0_putBall_10 : decode cX0_putBall 10 = .ok (.iconst 1, 1) := by decide +kernel
theorem dX0_putBall_11 : decode cX0_putBall 11 = .ok (.iand, 1) := by decide +kernel
theorem dX0_putBall_12 : decode cX0_putBall 12 = .ok (.ifCond .eq 7, 3) := by decide +kernel
theorem dX0_putBall_15 : decode cX0_putBall 15 = .ok (.iconst 1, 1) := by decide +kernel
theorem dX0_putBall_16 : decode cX0_putBall 16 = .ok (.goto 4, 3) := by decide +kernel
theorem dX0_putBall_19 : decode cX0_putBall 19 = .ok (.iconst 0, 1) := by decide +kernel
theorem dX0_putBall_20 : decode cX0_putBall 20 = .ok (.istore 5, 2) := by decide +kernel
theorem dX0_putBall_22 : decode cX0_putBall 22 = .ok (.iload 5, 2) := by decide +kernel
theorem dX0_putBall_24 : decode cX0_putBall 24 = .ok (.iload 4, 2) := by decide +kernel
theorem dX0_putBall_26 : decode cX0_putBall 26 = .ok (.if_icmp .eq 17, 3) := by decide +kernel
theorem dX0_putBall_29 : decode cX0_putBall 29 = .ok (.aload_n 0, 1) := by decide +kernel
theorem dX0_putBall_30 : decode cX0_putBall 30 = .ok (.getfield 13, 3) := by decide +kernel
theorem dX0_putBall_33 : decode cX0_putBall 33 = .ok (.iload_n 3, 1) := by decide +kernel
theorem dX0_putBall_34 : decode cX0_putBall 34 = .ok (.aaload, 1) := by decide +kernel
theorem dX0_putBall_35 : decode cX0_putBall 35 = .ok (.iload_n 2, 1) := by decide +kernel
theorem dX0_putBall_36 : decode cX0_putBall 36 = .ok (.dup2, 1) := by decide +kernel
theorem dX0_putBall_37 : decode cX0_putBall 37 = .ok (.iaload, 1) := by decide +kernel
theorem dX0_putBall_38 : decode cX0_putBall 38 = .ok (.iconst 1, 1) := by decide +kernel
theorem dX0_putBall_39 : decode cX0_putBall 39 = .ok (.iload_n 1, 1) := by decide +kernel
theorem dX0_putBall_40 : decode cX0_putBall 40 = .ok (.ishl, 1) := by decide +kernel
theorem dX0_putBall_41 : decode cX0_putBall 41 = .ok (.ixor, 1) := by decide +kernel
theorem dX0_putBall_42 : decode cX0_putBall 42 = .ok (.iastore, 1) := by decide +kernel
theorem dX0_putBall_43 : decode cX0_putBall 43 = .ok (.aload_n 0, 1) := by decide +kernel
theorem dX0_putBall_44 : decode cX0_putBall 44 = .ok (.iconst 0, 1) := by decide +kernel
theorem dX0_putBall_45 : decode cX0_putBall 45 = .ok (.putfield 36, 3) := by decide +kernel
theorem dX0_putBall_48 : decode cX0_putBall 48 = .ok (.iload 5, 2) := by decide +kernel
theorem dX0_putBall_50 : decode cX0_putBall 50 = .ok (.iload 4, 2) := by decide +kernel
theorem dX0_putBall_52 : decode cX0_putBall 52 = .ok (.if_icmp .ne 7, 3) := by decide +kernel
theorem dX0_putBall_55 : decode cX0_putBall 55 = .ok (.iconst 0, 1) := by decide +kernel
theorem dX0_putBall_56 : decode cX0_putBall 56 = .ok (.goto 4, 3) := by decide +kernel
theorem dX0_putBall_59 : decode cX0_putBall 59 = .ok (.iconst 1, 1) := by decide +kernel
theorem dX0_putBall_60 : decode cX0_putBall 60 = .ok (.ireturn, 1) := by decide +kernel
theorem dX0_ballsAt_0 : decode cX0_ballsAt 0 = .ok (.iconst 0, 1) := by decide +kernel
theorem dX0_ballsAt_1 : decode cX0_ballsAt 1 = .ok (.istore_n 3, 1) := by decide +kernel
theorem dX0_ballsAt_2 : decode cX0_ballsAt 2 = .ok (.iconst 0, 1) := by decide +kernel
theorem dX0_ballsAt_3 : decode cX0_ballsAt 3 = .ok (.istore 4, 2) := by decide +kernel
theorem dX0_ballsAt_5 : decode cX0_ballsAt 5 = .ok (.iload 4, 2) := by decide +kernel
theorem dX0_ballsAt_7 : decode cX0_ballsAt 7 = .ok (.iconst 4, 1) := by decide +kernel
theorem dX0_ballsAt_8 : decode cX0_ballsAt 8 = .ok (.if_icmp .ge 28, 3) := by decide +kernel
theorem dX0_ballsAt_11 : decode cX0_ballsAt 11 = .ok (.iload_n 3, 1) := by decide +kernel
theorem dX0_ballsAt_12 : decode cX0_ballsAt 12 = .ok (.aload_n 0, 1) := by decide +kernel
theorem dX0_ballsAt_13 : decode cX0_ballsAt 13 = .ok (.getfield 13, 3) := by decide +kernel
theorem dX0_ballsAt_16 : decode cX0_ballsAt 16 = .ok (.iload 4, 2) := by decide +kernel
theorem dX0_ballsAt_18 : decode cX0_ballsAt 18 = .ok (.aaload, 1) := by decide +kernel
theorem dX0_ballsAt_19 : decode cX0_ballsAt 19 = .ok (.iload_n 2, 1) := by decide +kernel
theorem dX0_ballsAt_20 : decode cX0_ballsAt 20 = .ok (.iaload, 1) := by decide +kernel
theorem dX0_ballsAt_21 : decode cX0_ballsAt 21 = .ok (.iload_n 1, 1) := by decide +kernel
theorem dX0_ballsAt_22 : decode cX0_ballsAt 22 = .ok (.ishr, 1) := by decide +kernel
theorem dX0_ballsAt_23 : decode cX0_ballsAt 23 = .ok (.iconst 1, 1) := by decide +kernel
theorem dX0_ballsAt_24 : decode cX0_ballsAt 24 = .ok (.iand, 1) := by decide +kernel
theorem dX0_ballsAt_25 : decode cX0_ballsAt 25 = .ok (.iload 4, 2) := by decide +kernel
theorem dX0_ballsAt_27 : decode cX0_ballsAt 27 = .ok (.ishl, 1) := by decide +kernel
theorem dX0_ballsAt_28 : decode cX0_ballsAt 28 = .ok (.ior, 1) := by decide +kernel
theorem dX0_ballsAt_29 : decode cX0_ballsAt 29 = .ok (.istore_n 3, 1) := by decide +kernel
theorem dX0_ballsAt_30 : decode cX0_ballsAt 30 = .ok (.iinc 4 1, 3) := by decide +kernel
theorem dX0_ballsAt_33 : decode cX0_ballsAt 33 = .ok (.goto (-28), 3) := by decide +kernel
theorem dX0_ballsAt_36 : decode cX0_ballsAt 36 = .ok (.iload_n 3, 1) := by decide +kernel
theorem dX0_ballsAt_37 : decode cX0_ballsAt 37 = .ok (.ireturn, 1) := by decide +kernel
theorem dX0_balls_0 : decode cX0_balls 0 = .ok (.iconst 0, 1) := by decide +kernel
theorem dX0_balls_1 : decode cX0_balls 1 = .ok (.istore_n 1, 1) := by decide +kernel
theorem dX0_balls_2 : decode cX0_balls 2 = .ok (.iconst 0, 1) := by decide +kernel
theorem dX0_balls_3 : decode cX0_balls 3 = .ok (.istore_n 2, 1) := by decide +kernel
theorem dX0_balls_4 : decode cX0_balls 4 = .ok (.iload_n 2, 1) := by decide +kernel
theorem dX0_balls_5 : decode cX0_balls 5 = .ok (.iconst 4, 1) := by decide +kernel
theorem dX0_balls_6 : decode cX0_balls 6 = .ok (.if_icmp .ge 39, 3) := by decide +kernel
theorem dX0_balls_9 : decode cX0_balls 9 = .ok (.iconst 0, 1) := by decide +kernel
theorem dX0_balls_10 : decode cX0_balls 10 = .ok (.istore_n 3, 1) := by decide +kernel
theorem dX0_balls_11 : decode cX0_balls 11 = .ok (.iload_n 3, 1) := by decide +kernel
theorem dX0_balls_12 : decode cX0_balls 12 = .ok (.aload_n 0, 1) := by decide +kernel
theorem dX0_balls_13 : decode cX0_balls 13 = .ok (.getfield 30, 3) := by decide +kernel
theorem dX0_balls_16 : decode cX0_balls 16 = .ok (.if_icmp .ge 23, 3) := by decide +kernel
theorem dX0_balls_19 : decode cX0_balls 19 = .ok (.iload_n 1, 1) := by decide +kernel
theorem dX0_balls_20 : decode cX0_balls 20 = .ok (.aload_n 0, 1) := by decide +kernel
theorem dX0_balls_21 : decode cX0_balls 21 = .ok (.getfield 13, 3) := by decide +kernel
theorem dX0_balls_24 : decode cX0_balls 24 = .ok (.iload_n 2, 1) := by decide +kernel
theorem dX0_balls_25 : decode cX0_balls 25 = .ok (.aaload, 1) := by decide +kernel
theorem dX0_balls_26 : decode cX0_balls 26 = .ok (.iload_n 3, 1) := by decide +kernel
theorem dX0_balls_27 : decode cX0_balls 27 = .ok (.iaload, 1) := by decide +kernel
theorem dX0_balls_28 : decode cX0_balls 28 = .ok (.invokestatic 45, 3) := by decide +kernel
theorem dX0_balls_31 : decode cX0_balls 31 = .ok (.iadd, 1) := by decide +kernel
theorem dX0_balls_32 : decode cX0_balls 32 = .ok (.istore_n 1, 1) := by decide +kernel
theorem dX0_balls_33 : decode cX0_balls 33 = .ok (.iinc 3 1, 3) := by decide +kernel
theorem dX0_balls_36 : decode cX0_balls 36 = .ok (.goto (-25), 3) := by decide +kernel
theorem dX0_balls_39 : decode cX0_balls 39 = .ok (.iinc 2 1, 3) := by decide +kernel
theorem dX0_balls_42 : decode cX0_balls 42 = .ok (.goto (-38), 3) := by decide +kernel
theorem dX0_balls_45 : decode cX0_balls 45 = .ok (.iload_n 1, 1) := by decide +kernel
theorem dX0_balls_46 : decode cX0_balls 46 = .ok (.ireturn, 1) := by decide +kernel
theorem dX0_wide_0 : decode cX0_wide 0 = .ok (.aload_n 0, 1) := by decide +kernel
theorem dX0_wide_1 : decode cX0_wide 1 = .ok (.getfield 26, 3) := by decide +kernel
theorem dX0_wide_4 : decode cX0_wide 4 = .ok (.ireturn, 1) := by decide +kernel
theorem dX0_high_0 : decode cX0_high 0 = .ok (.aload_n 0, 1) := by decide +kernel
theorem dX0_high_1 : decode cX0_high 1 = .ok (.getfield 30, 3) := by decide +kernel
theorem dX0_high_4 : decode cX0_high 4 = .ok (.ireturn, 1) := by decide +kernel
theorem dX0_heat_0 : decode cX0_heat 0 = .ok (.aload_n 0, 1) := by decide +kernel
theorem dX0_heat_1 : decode cX0_heat 1 = .ok (.getfield 33, 3) := by decide +kernel
theorem dX0_heat_4 : decode cX0_heat 4 = .ok (.ireturn, 1) := by decide +kernel
theorem dX0_undoable_0 : decode cX0_undoable 0 = .ok (.aload_n 0, 1) := by decide +kernel
theorem dX0_undoable_1 : decode cX0_undoable 1 = .ok (.getfield 36, 3) := by decide +kernel
theorem dX0_undoable_4 : decode cX0_undoable 4 = .ok (.ireturn, 1) := by decide +kernel
theorem dX0_goOn_0 : decode cX0_goOn 0 = .ok (.iconst 0, 1) := by decide +kernel
theorem dX0_goOn_1 : decode cX0_goOn 1 = .ok (.istore_n 2, 1) := by decide +kernel
theorem dX0_goOn_2 : decode cX0_goOn 2 = .ok (.iload_n 2, 1) := by decide +kernel
theorem dX0_goOn_3 : decode cX0_goOn 3 = .ok (.iload_n 1, 1) := by decide +kernel
theorem dX0_goOn_4 : decode cX0_goOn 4 = .ok (.if_icmp .ge 51, 3) := by decide +kernel
theorem dX0_goOn_7 : decode cX0_goOn 7 = .ok (.aload_n 0, 1) := by decide +kernel
theorem dX0_goOn_8 : decode cX0_goOn 8 = .ok (.invokevirtual 51, 3) := by decide +kernel
theorem dX0_goOn_11 : decode cX0_goOn 11 = .ok (.istore_n 3, 1) := by decide +kernel
theorem dX0_goOn_12 : decode cX0_goOn 12 = .ok (.aload_n 0, 1) := by decide +kernel
theorem dX0_goOn_13 : decode cX0_goOn 13 = .ok (.invokevirtual 55, 3) := by decide +kernel
theorem dX0_goOn_16 : decode cX0_goOn 16 = .ok (.aload_n 0, 1) := by decide +kernel
theorem dX0_goOn_17 : decode cX0_goOn 17 = .ok (.dup, 1) := by decide +kernel
theorem dX0_goOn_18 : decode cX0_goOn 18 = .ok (.getfield 33, 3) := by decide +kernel
theorem dX0_goOn_21 : decode cX0_goOn 21 = .ok (.iload_n 3, 1) := by decide +kernel
theorem dX0_goOn_22 : decode cX0_goOn 22 = .ok (.iadd, 1) := by decide +kernel
theorem dX0_goOn_23 : decode cX0_goOn 23 = .ok (.putfield 33, 3) := by decide +kernel
theorem dX0_goOn_26 : decode cX0_goOn 26 = .ok (.aload_n 0, 1) := by decide +kernel
theorem dX0_goOn_27 : decode cX0_goOn 27 = .ok (.iload_n 3, 1) := by decide +kernel
theorem dX0_goOn_28 : decode cX0_goOn 28 = .ok (.ifCond .le 7, 3) := by decide +kernel
theorem dX0_goOn_31 : decode cX0_goOn 31 = .ok (.iconst 0, 1) := by decide +kernel
theorem dX0_goOn_32 : decode cX0_goOn 32 = .ok (.goto 14, 3) := by decide +kernel
theorem dX0_goOn_35 : decode cX0_goOn 35 = .ok (.aload_n 0, 1) := by decide +kernel
theorem dX0_goOn_36 : decode cX0_goOn 36 = .ok (.getfield 36, 3) := by decide +kernel
theorem dX0_goOn_39 : decode cX0_goOn 39 = .ok (.iconst 1, 1) := by decide +kernel
theorem dX0_goOn_40 : decode cX0_goOn 40 = .ok (.iadd, 1) := by decide +kernel
theorem dX0_goOn_41 : decode cX0_goOn 41 = .ok (.ldc 58, 2) := by decide +kernel
theorem dX0_goOn_43 : decode cX0_goOn 43 = .ok (.invokestatic 59, 3) := by decide +kernel
theorem dX0_goOn_46 : decode cX0_goOn 46 = .ok (.putfield 36, 3) := by decide +kernel
theorem dX0_goOn_49 : decode cX0_goOn 49 = .ok (.iinc 2 1, 3) := by decide +kernel
theorem dX0_goOn_52 : decode cX0_goOn 52 = .ok (.goto (-50), 3) := by decide +kernel
theorem dX0_goOn_55 : decode cX0_goOn 55 = .ok (.return_, 1) := by decide +kernel
theorem dX0_goBack_0 : decode cX0_goBack 0 = .ok (.iconst 0, 1) := by decide +kernel
theorem dX0_goBack_1 : decode cX0_goBack 1 = .ok (.istore_n 2, 1) := by decide +kernel
theorem dX0_goBack_2 : decode cX0_goBack 2 = .ok (.iload_n 2, 1) := by decide +kernel
theorem dX0_goBack_3 : decode cX0_goBack 3 = .ok (.iload_n 1, 1) := by decide +kernel
theorem dX0_goBack_4 : decode cX0_goBack 4 = .ok (.if_icmp .ge 18, 3) := by decide +kernel
theorem dX0_goBack_7 : decode cX0_goBack 7 = .ok (.aload_n 0, 1) := by decide +kernel
theorem dX0_goBack_8 : decode cX0_goBack 8 = .ok (.invokevirtual 65, 3) := by decide +kernel
theorem dX0_goBack_11 : decode cX0_goBack 11 = .ok (.aload_n 0, 1) := by decide +kernel
theorem dX0_goBack_12 : decode cX0_goBack 12 = .ok (.invokevirtual 51, 3) := by decide +kernel
theorem dX0_goBack_15 : decode cX0_goBack 15 = .ok (.pop, 1) := by decide +kernel
theorem dX0_goBack_16 : decode cX0_goBack 16 = .ok (.iinc 2 1, 3) := by decide +kernel
theorem dX0_goBack_19 : decode cX0_goBack 19 = .ok (.goto (-17), 3) := by decide +kernel
theorem dX0_goBack_22 : decode cX0_goBack 22 = .ok (.aload_n 0, 1) := by decide +kernel
theorem dX0_goBack_23 : decode cX0_goBack 23 = .ok (.dup, 1) := by decide +kernel
theorem dX0_goBack_24 : decode cX0_goBack 24 = .ok (.getfield 36, 3) := by decide +kernel
theorem dX0_goBack_27 : decode cX0_goBack 27 = .ok (.iload_n 1, 1) := by decide +kernel
theorem dX0_goBack_28 : decode cX0_goBack 28 = .ok (.isub, 1) := by decide +kernel
theorem dX0_goBack_29 : decode cX0_goBack 29 = .ok (.putfield 36, 3) := by decide +kernel
theorem dX0_goBack_32 : decode cX0_goBack 32 = .ok (.return_, 1) := by decide +kernel
theorem dX0_beatsTillAsNow_0 : decode cX0_beatsTillAsNow 0 = .ok (.aload_n 0, 1) := by decide +kernel
theorem dX0_beatsTillAsNow_1 : decode cX0_beatsTillAsNow 1 = .ok (.aload_n 0, 1) := by decide +kernel
theorem dX0_beatsTillAsNow_2 : decode cX0_beatsTillAsNow 2 = .ok (.getfield 13, 3) := by decide +kernel
theorem dX0_beatsTillAsNow_5 : decode cX0_beatsTillAsNow 5 = .ok (.aload_n 0, 1) := by decide +kernel
theorem dX0_beatsTillAsNow_6 : decode cX0_beatsTillAsNow 6 = .ok (.getfield 16, 3) := by decide +kernel
theorem dX0_beatsTillAsNow_9 : decode cX0_beatsTillAsNow 9 = .ok (.invokevirtual 68, 3) := by decide +kernel
theorem dX0_beatsTillAsNow_12 : decode cX0_beatsTillAsNow 12 = .ok (.iconst (-1), 1) := by decide +kernel
theorem dX0_beatsTillAsNow_13 : decode cX0_beatsTillAsNow 13 = .ok (.istore_n 1, 1) := by decide +kernel
theorem dX0_beatsTillAsNow_14 : decode cX0_beatsTillAsNow 14 = .ok (.iconst 0, 1) := by decide +kernel
theorem dX0_beatsTillAsNow_15 : decode cX0_beatsTillAsNow 15 = .ok (.istore_n 2, 1) := by decide +kernel
theorem dX0_beatsTillAsNow_16 : decode cX0_beatsTillAsNow 16 = .ok (.iconst 1, 1) := by decide +kernel
theorem dX0_beatsTillAsNow_17 : decode cX0_beatsTillAsNow 17 = .ok (.istore_n 3, 1) := by decide +kernel
theorem dX0_beatsTillAsNow_18 : decode cX0_beatsTillAsNow 18 = .ok (.iload_n 3, 1) := by decide +kernel
theorem dX0_beatsTillAsNow_19 : decode cX0_beatsTillAsNow 19 = .ok (.sipush 2000, 3) := by decide +kernel
theorem dX0_beatsTillAsNow_22 : decode cX0_beatsTillAsNow 22 = .ok (.if_icmp .gt 48, 3) := by decide +kernel
theorem dX0_beatsTillAsNow_25 : decode cX0_beatsTillAsNow 25 = .ok (.iload_n 1, 1) := by decide +kernel
theorem dX0_beatsTillAsNow_26 : decode cX0_beatsTillAsNow 26 = .ok (.iconst (-1), 1) := by decide +kernel
theorem dX0_beatsTillAsNow_27 : decode cX0_beatsTillAsNow 27 = .ok (.if_icmp .ne 43, 3) := by decide +kernel
theorem dX0_beatsTillAsNow_30 : decode cX0_beatsTillAsNow 30 = .ok (.iload_n 2, 1) := by decide +kernel
theorem dX0_beatsTillAsNow_31 : decode cX0_beatsTillAsNow 31 = .ok (.ifCond .ne 39, 3) := by decide +kernel
theorem dX0_beatsTillAsNow_34 : decode cX0_beatsTillAsNow 34 = .ok (.aload_n 0, 1) := by decide +kernel
theorem dX0_beatsTillAsNow_35 : decode cX0_beatsTillAsNow 35 = .ok (.invokevirtual 51, 3) := by decide +kernel
theorem dX0_beatsTillAsNow_38 : decode cX0_beatsTillAsNow 38 = .ok (.ifCond .le 7, 3) := by decide +kernel
theorem dX0_beatsTillAsNow_41 : decode cX0_beatsTillAsNow 41 = .ok (.iconst 1, 1) := by decide +kernel
theorem dX0_beatsTillAsNow_42 : decode cX0_beatsTillAsNow 42 = .ok (.goto 4, 3) := by decide +kernel
theorem dX0_beatsTillAsNow_45 : decode cX0_beatsTillAsNow 45 = .ok (.iconst 0, 1) := by decide +kernel
theorem dX0_beatsTillAsNow_46 : decode cX0_beatsTillAsNow 46 = .ok (.istore_n 2, 1) := by decide +kernel
theorem dX0_beatsTillAsNow_47 : decode cX0_beatsTillAsNow 47 = .ok (.aload_n 0, 1) := by decide +kernel
theorem dX0_beatsTillAsNow_48 : decode cX0_beatsTillAsNow 48 = .ok (.invokevirtual 55, 3) := by decide +kernel
theorem dX0_beatsTillAsNow_51 : decode cX0_beatsTillAsNow 51 = .ok (.iload_n 2, 1) := by decide +kernel
theorem dX0_beatsTillAsNow_52 : decode cX0_beatsTillAsNow 52 = .ok (.ifCond .ne 12, 3) := by decide +kernel
theorem dX0_beatsTillAsNow_55 : decode cX0_beatsTillAsNow 55 = .ok (.aload_n 0, 1) := by decide +kernel
theorem dX0_beatsTillAsNow_56 : decode cX0_beatsTillAsNow 56 = .ok (.invokevirtual 72, 3) := by decide +kernel
theorem dX0_beatsTillAsNow_59 : decode cX0_beatsTillAsNow 59 = .ok (.ifCond .eq 5, 3) := by decide +kernel
theorem dX0_beatsTillAsNow_62 : decode cX0_beatsTillAsNow 62 = .ok (.iload_n 3, 1) := by decide +kernel
theorem dX0_beatsTillAsNow_63 : decode cX0_beatsTillAsNow 63 = .ok (.istore_n 1, 1) := by decide +kernel
theorem dX0_beatsTillAsNow_64 : decode cX0_beatsTillAsNow 64 = .ok (.iinc 3 1, 3) := by decide +kernel
theorem dX0_beatsTillAsNow_67 : decode cX0_beatsTillAsNow 67 = .ok (.goto (-49), 3) := by decide +kernel
theorem dX0_beatsTillAsNow_70 : decode cX0_beatsTillAsNow 70 = .ok (.aload_n 0, 1) := by decide +kernel
theorem dX0_beatsTillAsNow_71 : decode cX0_beatsTillAsNow 71 = .ok (.aload_n 0, 1) := by decide +kernel
theorem dX0_beatsTillAsNow_72 : decode cX0_beatsTillAsNow 72 = .ok (.getfield 16, 3) := by decide +kernel
theorem dX0_beatsTillAsNow_75 : decode cX0_beatsTillAsNow 75 = .ok (.aload_n 0, 1) := by decide +kernel
theorem dX0_beatsTillAsNow_76 : decode cX0_beatsTillAsNow 76 = .ok (.getfield 13, 3) := by decide +kernel
theorem dX0_beatsTillAsNow_79 : decode cX0_beatsTillAsNow 79 = .ok (.invokevirtual 68, 3) := by decide +kernel
theorem dX0_beatsTillAsNow_82 : decode cX0_beatsTillAsNow 82 = .ok (.iload_n 1, 1) := by decide +kernel
theorem dX0_beatsTillAsNow_83 : decode cX0_beatsTillAsNow 83 = .ok (.ireturn, 1) := by decide +kernel
theorem dX0_copyBalls_0 : decode cX0_copyBalls 0 = .ok (.iconst 0, 1) := by decide +kernel
theorem dX0_copyBalls_1 : decode cX0_copyBalls 1 = .ok (.istore_n 3, 1) := by decide +kernel
theorem dX0_copyBalls_2 : decode cX0_copyBalls 2 = .ok (.iload_n 3, 1) := by decide +kernel
theorem dX0_copyBalls_3 : decode cX0_copyBalls 3 = .ok (.iconst 4, 1) := by decide +kernel
theorem dX0_copyBalls_4 : decode cX0_copyBalls 4 = .ok (.if_icmp .ge 22, 3) := by decide +kernel
theorem dX0_copyBalls_7 : decode cX0_copyBalls 7 = .ok (.aload_n 1, 1) := by decide +kernel
theorem dX0_copyBalls_8 : decode cX0_copyBalls 8 = .ok (.iload_n 3, 1) := by decide +kernel
theorem dX0_copyBalls_9 : decode cX0_copyBalls 9 = .ok (.aaload, 1) := by decide +kernel
theorem dX0_copyBalls_10 : decode cX0_copyBalls 10 = .ok (.iconst 0, 1) := by decide +kernel
theorem dX0_copyBalls_11 : decode cX0_copyBalls 11 = .ok (.aload_n 2, 1) := by decide +kernel
theorem dX0_copyBalls_12 : decode cX0_copyBalls 12 = .ok (.iload_n 3, 1) := by decide +kernel
theorem dX0_copyBalls_13 : decode cX0_copyBalls 13 = .ok (.aaload, 1) := by decide +kernel
theorem dX0_copyBalls_14 : decode cX0_copyBalls 14 = .ok (.iconst 0, 1) := by decide +kernel
theorem dX0_copyBalls_15 : decode cX0_copyBalls 15 = .ok (.bipush 10, 2) := by decide +kernel
theorem dX0_copyBalls_17 : decode cX0_copyBalls 17 = .ok (.invokestatic 76, 3) := by decide +kernel
theorem dX0_copyBalls_20 : decode cX0_copyBalls 20 = .ok (.iinc 3 1, 3) := by decide +kernel
theorem dX0_copyBalls_23 : decode cX0_copyBalls 23 = .ok (.goto (-21), 3) := by decide +kernel
theorem dX0_copyBalls_26 : decode cX0_copyBalls 26 = .ok (.return_, 1) := by decide +kernel
theorem dX0_isAsSaved_0 : decode cX0_isAsSaved 0 = .ok (.iconst 0, 1) := by decide +kernel
theorem dX0_isAsSaved_1 : decode cX0_isAsSaved 1 = .ok (.istore_n 1, 1) := by decide +kernel
theorem dX0_isAsSaved_2 : decode cX0_isAsSaved 2 = .ok (.iload_n 1, 1) := by decide +kernel
theorem dX0_isAsSaved_3 : decode cX0_isAsSaved 3 = .ok (.iconst 4, 1) := by decide +kernel
theorem dX0_isAsSaved_4 : decode cX0_isAsSaved 4 = .ok (.if_icmp .ge 46, 3) := by decide +kernel
theorem dX0_isAsSaved_7 : decode cX0_isAsSaved 7 = .ok (.iconst 0, 1) := by decide +kernel
theorem dX0_isAsSaved_8 : decode cX0_isAsSaved 8 = .ok (.istore_n 2, 1) := by decide +kernel
theorem dX0_isAsSaved_9 : decode cX0_isAsSaved 9 = .ok (.iload_n 2, 1) := by decide +kernel
theorem dX0_isAsSaved_10 : decode cX0_isAsSaved 10 = .ok (.aload_n 0, 1) := by decide +kernel
theorem dX0_isAsSaved_11 : decode cX0_isAsSaved 11 = .ok (.getfield 30, 3) := by decide +kernel
theorem dX0_isAsSaved_14 : decode cX0_isAsSaved 14 = .ok (.if_icmp .ge 30, 3) := by decide +kernel
theorem dX0_isAsSaved_17 : decode cX0_isAsSaved 17 = .ok (.aload_n 0, 1) := by decide +kernel
theorem dX0_isAsSaved_18 : decode cX0_isAsSaved 18 = .ok (.getfield 13, 3) := by decide +kernel
theorem dX0_isAsSaved_21 : decode cX0_isAsSaved 21 = .ok (.iload_n 1, 1) := by decide +kernel
theorem dX0_isAsSaved_22 : decode cX0_isAsSaved 22 = .ok (.aaload, 1) := by decide +kernel
theorem dX0_isAsSaved_23 : decode cX0_isAsSaved 23 = .ok (.iload_n 2, 1) := by decide +kernel
theorem dX0_isAsSaved_24 : decode cX0_isAsSaved 24 = .ok (.iaload, 1) := by decide +kernel
theorem dX0_isAsSaved_25 : decode cX0_isAsSaved 25 = .ok (.aload_n 0, 1) := by decide +kernel
theorem dX0_isAsSaved_26 : decode cX0_isAsSaved 26 = .ok (.getfield 16, 3) := by decide +kernel
theorem dX0_isAsSaved_29 : decode cX0_isAsSaved 29 = .ok (.iload_n 1, 1) := by decide +kernel
theorem dX0_isAsSaved_30 : decode cX0_isAsSaved 30 = .ok (.aaload, 1) := by decide +kernel
theorem dX0_isAsSaved_31 : decode cX0_isAsSaved 31 = .ok (.iload_n 2, 1) := by decide +kernel
theorem dX0_isAsSaved_32 : decode cX0_isAsSaved 32 = .ok (.iaload, 1) := by decide +kernel
theorem dX0_isAsSaved_33 : decode cX0_isAsSaved 33 = .ok (.if_icmp .eq 5, 3) := by decide +kernel
theorem dX0_isAsSaved_36 : decode cX0_isAsSaved 36 = .ok (.iconst 0, 1) := by decide +kernel
theorem dX0_isAsSaved_37 : decode cX0_isAsSaved 37 = .ok (.ireturn, 1) := by decide +kernel
theorem dX0_isAsSaved_38 : decode cX0_isAsSaved 38 = .ok (.iinc 2 1, 3) := by decide +kernel
theorem dX0_isAsSaved_41 : decode cX0_isAsSaved 41 = .ok (.goto (-32), 3) := by decide +kernel
theorem dX0_isAsSaved_44 : decode cX0_isAsSaved 44 = .ok (.iinc 1 1, 3) := by decide +kernel
theorem dX0_isAsSaved_47 : decode cX0_isAsSaved 47 = .ok (.goto (-45), 3) := by decide +kernel
theorem dX0_isAsSaved_50 : decode cX0_isAsSaved 50 = .ok (.iconst 1, 1) := by decide +kernel
theorem dX0_isAsSaved_51 : decode cX0_isAsSaved 51 = .ok (.ireturn, 1) := by decide +kernel
theorem dX0_meetAll_0 : decode cX0_meetAll 0 = .ok (.iconst 0, 1) := by decide +kernel
theorem dX0_meetAll_1 : decode cX0_meetAll 1 = .ok (.istore_n 1, 1) := by decide +kernel
theorem dX0_meetAll_2 : decode cX0_meetAll 2 = .ok (.iconst 0, 1) := by decide +kernel
theorem dX0_meetAll_3 : decode cX0_meetAll 3 = .ok (.istore_n 2, 1) := by decide +kernel
theorem dX0_meetAll_4 : decode cX0_meetAll 4 = .ok (.iload_n 2, 1) := by decide +kernel
theorem dX0_meetAll_5 : decode cX0_meetAll 5 = .ok (.aload_n 0, 1) := by decide +kernel
theorem dX0_meetAll_6 : decode cX0_meetAll 6 = .ok (.getfield 30, 3) := by decide +kernel
theorem dX0_meetAll_9 : decode cX0_meetAll 9 = .ok (.if_icmp .ge 17, 3) := by decide +kernel
theorem dX0_meetAll_12 : decode cX0_meetAll 12 = .ok (.iload_n 1, 1) := by decide +kernel
theorem dX0_meetAll_13 : decode cX0_meetAll 13 = .ok (.aload_n 0, 1) := by decide +kernel
theorem dX0_meetAll_14 : decode cX0_meetAll 14 = .ok (.iload_n 2, 1) := by decide +kernel
theorem dX0_meetAll_15 : decode cX0_meetAll 15 = .ok (.invokevirtual 82, 3) := by decide +kernel
theorem dX0_meetAll_18 : decode cX0_meetAll 18 = .ok (.iadd, 1) := by decide +kernel
theorem dX0_meetAll_19 : decode cX0_meetAll 19 = .ok (.istore_n 1, 1) := by decide +kernel
theorem dX0_meetAll_20 : decode cX0_meetAll 20 = .ok (.iinc 2 1, 3) := by decide +kernel
theorem dX0_meetAll_23 : decode cX0_meetAll 23 = .ok (.goto (-19), 3) := by decide +kernel
theorem dX0_meetAll_26 : decode cX0_meetAll 26 = .ok (.iload_n 1, 1) := by decide +kernel
theorem dX0_meetAll_27 : decode cX0_meetAll 27 = .ok (.ireturn, 1) := by decide +kernel
theorem dX0_meetRow_0 : decode cX0_meetRow 0 = .ok (.aload_n 0, 1) := by decide +kernel
theorem dX0_meetRow_1 : decode cX0_meetRow 1 = .ok (.getfield 13, 3) := by decide +kernel
theorem dX0_meetRow_4 : decode cX0_meetRow 4 = .ok (.iconst 0, 1) := by decide +kernel
theorem dX0_meetRow_5 : decode cX0_meetRow 5 = .ok (.aaload, 1) := by decide +kernel
theorem dX0_meetRow_6 : decode cX0_meetRow 6 = .ok (.iload_n 1, 1) := by decide +kernel
theorem dX0_meetRow_7 : decode cX0_meetRow 7 = .ok (.iaload, 1) := by decide +kernel
theorem dX0_meetRow_8 : decode cX0_meetRow 8 = .ok (.istore_n 2, 1) := by decide +kernel
theorem dX0_meetRow_9 : decode cX0_meetRow 9 = .ok (.aload_n 0, 1) := by decide +kernel
theorem dX0_meetRow_10 : decode cX0_meetRow 10 = .ok (.getfield 13, 3) := by decide +kernel
theorem dX0_meetRow_13 : decode cX0_meetRow 13 = .ok (.iconst 1, 1) := by decide +kernel
theorem dX0_meetRow_14 : decode cX0_meetRow 14 = .ok (.aaload, 1) := by decide +kernel
theorem dX0_meetRow_15 : decode cX0_meetRow 15 = .ok (.iload_n 1, 1) := by decide +kernel
theorem dX0_meetRow_16 : decode cX0_meetRow 16 = .ok (.iaload, 1) := by decide +kernel
theorem dX0_meetRow_17 : decode cX0_meetRow 17 = .ok (.istore_n 3, 1) := by decide +kernel
theorem dX0_meetRow_18 : decode cX0_meetRow 18 = .ok (.aload_n 0, 1) := by decide +kernel
theorem dX0_meetRow_19 : decode cX0_meetRow 19 = .ok (.getfield 13, 3) := by decide +kernel
theorem dX0_meetRow_22 : decode cX0_meetRow 22 = .ok (.iconst 2, 1) := by decide +kernel
theorem dX0_meetRow_23 : decode cX0_meetRow 23 = .ok (.aaload, 1) := by decide +kernel
theorem dX0_meetRow_24 : decode cX0_meetRow 24 = .ok (.iload_n 1, 1) := by decide +kernel
theorem dX0_meetRow_25 : decode cX0_meetRow 25 = .ok (.iaload, 1) := by decide +kernel
theorem dX0_meetRow_26 : decode cX0_meetRow 26 = .ok (.istore 4, 2) := by decide +kernel
theorem dX0_meetRow_28 : decode cX0_meetRow 28 = .ok (.aload_n 0, 1) := by decide +kernel
theorem dX0_meetRow_29 : decode cX0_meetRow 29 = .ok (.getfield 13, 3) := by decide +kernel
theorem dX0_meetRow_32 : decode cX0_meetRow 32 = .ok (.iconst 3, 1) := by decide +kernel
theorem dX0_meetRow_33 : decode cX0_meetRow 33 = .ok (.aaload, 1) := by decide +kernel
theorem dX0_meetRow_34 : decode cX0_meetRow 34 = .ok (.iload_n 1, 1) := by decide +kernel
theorem dX0_meetRow_35 : decode cX0_meetRow 35 = .ok (.iaload, 1) := by decide +kernel
theorem dX0_meetRow_36 : decode cX0_meetRow 36 = .ok (.istore 5, 2) := by decide +kernel
theorem dX0_meetRow_38 : decode cX0_meetRow 38 = .ok (.aload_n 0, 1) := by decide +kernel
theorem dX0_meetRow_39 : decode cX0_meetRow 39 = .ok (.getfield 19, 3) := by decide +kernel
theorem dX0_meetRow_42 : decode cX0_meetRow 42 = .ok (.iconst 3, 1) := by decide +kernel
theorem dX0_meetRow_43 : decode cX0_meetRow 43 = .ok (.aaload, 1) := by decide +kernel
theorem dX0_meetRow_44 : decode cX0_meetRow 44 = .ok (.iload_n 1, 1) := by decide +kernel
theorem dX0_meetRow_45 : decode cX0_meetRow 45 = .ok (.iaload, 1) := by decide +kernel
theorem dX0_meetRow_46 : decode cX0_meetRow 46 = .ok (.istore 6, 2) := by decide +kernel
theorem dX0_meetRow_48 : decode cX0_meetRow 48 = .ok (.iload_n 2, 1) := by decide +kernel
theorem dX0_meetRow_49 : decode cX0_meetRow 49 = .ok (.iload 6, 2) := by decide +kernel
theorem dX0_meetRow_51 : decode cX0_meetRow 51 = .ok (.iand, 1) := by decide +kernel
theorem dX0_meetRow_52 : decode cX0_meetRow 52 = .ok (.invokestatic 45, 3) := by decide +kernel
theorem dX0_meetRow_55 : decode cX0_meetRow 55 = .ok (.iload_n 3, 1) := by decide +kernel
theorem dX0_meetRow_56 : decode cX0_meetRow 56 = .ok (.iload 6, 2) := by decide +kernel
theorem dX0_meetRow_58 : decode cX0_meetRow 58 = .ok (.iand, 1) := by decide +kernel
theorem dX0_meetRow_59 : decode cX0_meetRow 59 = .ok (.invokestatic 45, 3) := by decide +kernel
theorem dX0_meetRow_62 : decode cX0_meetRow 62 = .ok (.iadd, 1) := by decide +kernel
theorem dX0_meetRow_63 : decode cX0_meetRow 63 = .ok (.iload 4, 2) := by decide +kernel
theorem dX0_meetRow_65 : decode cX0_meetRow 65 = .ok (.iload 6, 2) := by decide +kernel
theorem dX0_meetRow_67 : decode cX0_meetRow 67 = .ok (.iand, 1) := by decide +kernel
theorem dX0_meetRow_68 : decode cX0_meetRow 68 = .ok (.invokestatic 45, 3) := by decide +kernel
theorem dX0_meetRow_71 : decode cX0_meetRow 71 = .ok (.iadd, 1) := by decide +kernel
theorem dX0_meetRow_72 : decode cX0_meetRow 72 = .ok (.iload 5, 2) := by decide +kernel
theorem dX0_meetRow_74 : decode cX0_meetRow 74 = .ok (.iload 6, 2) := by decide +kernel
theorem dX0_meetRow_76 : decode cX0_meetRow 76 = .ok (.iand, 1) := by decide +kernel
theorem dX0_meetRow_77 : decode cX0_meetRow 77 = .ok (.invokestatic 45, 3) := by decide +kernel
theorem dX0_meetRow_80 : decode cX0_meetRow 80 = .ok (.iadd, 1) := by decide +kernel
theorem dX0_meetRow_81 : decode cX0_meetRow 81 = .ok (.istore 7, 2) := by decide +kernel
theorem dX0_meetRow_83 : decode cX0_meetRow 83 = .ok (.aload_n 0, 1) := by decide +kernel
theorem dX0_meetRow_84 : decode cX0_meetRow 84 = .ok (.getfield 19, 3) := by decide +kernel
theorem dX0_meetRow_87 : decode cX0_meetRow 87 = .ok (.iconst 0, 1) := by decide +kernel
theorem dX0_meetRow_88 : decode cX0_meetRow 88 = .ok (.aaload, 1) := by decide +kernel
theorem dX0_meetRow_89 : decode cX0_meetRow 89 = .ok (.iload_n 1, 1) := by decide +kernel
theorem dX0_meetRow_90 : decode cX0_meetRow 90 = .ok (.iaload, 1) := by decide +kernel
theorem dX0_meetRow_91 : decode cX0_meetRow 91 = .ok (.iload_n 2, 1) := by decide +kernel
theorem dX0_meetRow_92 : decode cX0_meetRow 92 = .ok (.iload 4, 2) := by decide +kernel
theorem dX0_meetRow_94 : decode cX0_meetRow 94 = .ok (.iand, 1) := by decide +kernel
theorem dX0_meetRow_95 : decode cX0_meetRow 95 = .ok (.iload_n 3, 1) := by decide +kernel
theorem dX0_meetRow_96 : decode cX0_meetRow 96 = .ok (.iload 5, 2) := by decide +kernel
theorem dX0_meetRow_98 : decode cX0_meetRow 98 = .ok (.ior, 1) := by decide +kernel
theorem dX0_meetRow_99 : decode cX0_meetRow 99 = .ok (.iconst (-1), 1) := by decide +kernel
theorem dX0_meetRow_100 : decode cX0_meetRow 100 = .ok (.ixor, 1) := by decide +kernel
theorem dX0_meetRow_101 : decode cX0_meetRow 101 = .ok (.iand, 1) := by decide +kernel
theorem dX0_meetRow_102 : decode cX0_meetRow 102 = .ok (.iload_n 3, 1) := by decide +kernel
theorem dX0_meetRow_103 : decode cX0_meetRow 103 = .ok (.iload 5, 2) := by decide +kernel
theorem dX0_meetRow_105 : decode cX0_meetRow 105 = .ok (.iand, 1) := by decide +kernel
theorem dX0_meetRow_106 : decode cX0_meetRow 106 = .ok (.iload_n 2, 1) := by decide +kernel
theorem dX0_meetRow_107 : decode cX0_meetRow 107 = .ok (.iload 4, 2) := by decide +kernel
theorem dX0_meetRow_109 : decode cX0_meetRow 109 = .ok (.ior, 1) := by decide +kernel
theorem dX0_meetRow_110 : decode cX0_meetRow 110 = .ok (.iconst (-1), 1) := by decide +kernel
theorem dX0_meetRow_111 : decode cX0_meetRow 111 = .ok (.ixor, 1) := by decide +kernel
theorem dX0_meetRow_112 : decode cX0_meetRow 112 = .ok (.iand, 1) := by decide +kernel
theorem dX0_meetRow_113 : decode cX0_meetRow 113 = .ok (.ior, 1) := by decide +kernel
theorem dX0_meetRow_114 : decode cX0_meetRow 114 = .ok (.iand, 1) := by decide +kernel
theorem dX0_meetRow_115 : decode cX0_meetRow 115 = .ok (.istore 8, 2) := by decide +kernel
theorem dX0_meetRow_117 : decode cX0_meetRow 117 = .ok (.aload_n 0, 1) := by decide +kernel
theorem dX0_meetRow_118 : decode cX0_meetRow 118 = .ok (.getfield 19, 3) := by decide +kernel
theorem dX0_meetRow_121 : decode cX0_meetRow 121 = .ok (.iconst 0, 1) := by decide +kernel
theorem dX0_meetRow_122 : decode cX0_meetRow 122 = .ok (.aaload, 1) := by decide +kernel
theorem dX0_meetRow_123 : decode cX0_meetRow 123 = .ok (.iload_n 1, 1) := by decide +kernel
theorem dX0_meetRow_124 : decode cX0_meetRow 124 = .ok (.iaload, 1) := by decide +kernel
theorem dX0_meetRow_125 : decode cX0_meetRow 125 = .ok (.istore 9, 2) := by decide +kernel
theorem dX0_meetRow_127 : decode cX0_meetRow 127 = .ok (.aload_n 0, 1) := by decide +kernel
theorem dX0_meetRow_128 : decode cX0_meetRow 128 = .ok (.getfield 19, 3) := by decide +kernel
theorem dX0_meetRow_131 : decode cX0_meetRow 131 = .ok (.iconst 1, 1) := by decide +kernel
theorem dX0_meetRow_132 : decode cX0_meetRow 132 = .ok (.aaload, 1) := by decide +kernel
theorem dX0_meetRow_133 : decode cX0_meetRow 133 = .ok (.iload_n 1, 1) := by decide +kernel
theorem dX0_meetRow_134 : decode cX0_meetRow 134 = .ok (.iaload, 1) := by decide +kernel
theorem dX0_meetRow_135 : decode cX0_meetRow 135 = .ok (.istore 10, 2) := by decide +kernel
theorem dX0_meetRow_137 : decode cX0_meetRow 137 = .ok (.aload_n 0, 1) := by decide +kernel
theorem dX0_meetRow_138 : decode cX0_meetRow 138 = .ok (.getfield 19, 3) := by decide +kernel
theorem dX0_meetRow_141 : decode cX0_meetRow 141 = .ok (.iconst 2, 1) := by decide +kernel
theorem dX0_meetRow_142 : decode cX0_meetRow 142 = .ok (.aaload, 1) := by decide +kernel
theorem dX0_meetRow_143 : decode cX0_meetRow 143 = .ok (.iload_n 1, 1) := by decide +kernel
theorem dX0_meetRow_144 : decode cX0_meetRow 144 = .ok (.iaload, 1) := by decide +kernel
theorem dX0_meetRow_145 : decode cX0_meetRow 145 = .ok (.istore 11, 2) := by decide +kernel
theorem dX0_meetRow_147 : decode cX0_meetRow 147 = .ok (.aload_n 0, 1) := by decide +kernel
theorem dX0_meetRow_148 : decode cX0_meetRow 148 = .ok (.getfield 13, 3) := by decide +kernel
theorem dX0_meetRow_151 : decode cX0_meetRow 151 = .ok (.iconst 0, 1) := by decide +kernel
theorem dX0_meetRow_152 : decode cX0_meetRow 152 = .ok (.aaload, 1) := by decide +kernel
theorem dX0_meetRow_153 : decode cX0_meetRow 153 = .ok (.iload_n 1, 1) := by decide +kernel
theorem dX0_meetRow_154 : decode cX0_meetRow 154 = .ok (.iload_n 2, 1) := by decide +kernel
theorem dX0_meetRow_155 : decode cX0_meetRow 155 = .ok (.iload 8, 2) := by decide +kernel
theorem dX0_meetRow_157 : decode cX0_meetRow 157 = .ok (.ixor, 1) := by decide +kernel
theorem dX0_meetRow_158 : decode cX0_meetRow 158 = .ok (.iload 9, 2) := by decide +kernel
theorem dX0_meetRow_160 : decode cX0_meetRow 160 = .ok (.iand, 1) := by decide +kernel
theorem dX0_meetRow_161 : decode cX0_meetRow 161 = .ok (.iload_n 3, 1) := by decide +kernel
theorem dX0_meetRow_162 : decode cX0_meetRow 162 = .ok (.iload 10, 2) := by decide +kernel
theorem dX0_meetRow_164 : decode cX0_meetRow 164 = .ok (.iand, 1) := by decide +kernel
theorem dX0_meetRow_165 : decode cX0_meetRow 165 = .ok (.ior, 1) := by decide +kernel
theorem dX0_meetRow_166 : decode cX0_meetRow 166 = .ok (.iload 5, 2) := by decide +kernel
theorem dX0_meetRow_168 : decode cX0_meetRow 168 = .ok (.iload 11, 2) := by decide +kernel
theorem dX0_meetRow_170 : decode cX0_meetRow 170 = .ok (.iand, 1) := by decide +kernel
theorem dX0_meetRow_171 : decode cX0_meetRow 171 = .ok (.ior, 1) := by decide +kernel
theorem dX0_meetRow_172 : decode cX0_meetRow 172 = .ok (.iastore, 1) := by decide +kernel
theorem dX0_meetRow_173 : decode cX0_meetRow 173 = .ok (.aload_n 0, 1) := by decide +kernel
theorem dX0_meetRow_174 : decode cX0_meetRow 174 = .ok (.getfield 13, 3) := by decide +kernel
theorem dX0_meetRow_177 : decode cX0_meetRow 177 = .ok (.iconst 1, 1) := by decide +kernel
theorem dX0_meetRow_178 : decode cX0_meetRow 178 = .ok (.aaload, 1) := by decide +kernel
theorem dX0_meetRow_179 : decode cX0_meetRow 179 = .ok (.iload_n 1, 1) := by decide +kernel
theorem dX0_meetRow_180 : decode cX0_meetRow 180 = .ok (.iload_n 3, 1) := by decide +kernel
theorem dX0_meetRow_181 : decode cX0_meetRow 181 = .ok (.iload 8, 2) := by decide +kernel
theorem dX0_meetRow_183 : decode cX0_meetRow 183 = .ok (.ixor, 1) := by decide +kernel
theorem dX0_meetRow_184 : decode cX0_meetRow 184 = .ok (.iload 9, 2) := by decide +kernel
theorem dX0_meetRow_186 : decode cX0_meetRow 186 = .ok (.iand, 1) := by decide +kernel
theorem dX0_meetRow_187 : decode cX0_meetRow 187 = .ok (.iload_n 2, 1) := by decide +kernel
theorem dX0_meetRow_188 : decode cX0_meetRow 188 = .ok (.iload 10, 2) := by decide +kernel
theorem dX0_meetRow_190 : decode cX0_meetRow 190 = .ok (.iand, 1) := by decide +kernel
theorem dX0_meetRow_191 : decode cX0_meetRow 191 = .ok (.ior, 1) := by decide +kernel
theorem dX0_meetRow_192 : decode cX0_meetRow 192 = .ok (.iload 4, 2) := by decide +kernel
theorem dX0_meetRow_194 : decode cX0_meetRow 194 = .ok (.iload 11, 2) := by decide +kernel
theorem dX0_meetRow_196 : decode cX0_meetRow 196 = .ok (.iand, 1) := by decide +kernel
theorem dX0_meetRow_197 : decode cX0_meetRow 197 = .ok (.ior, 1) := by decide +kernel
theorem dX0_meetRow_198 : decode cX0_meetRow 198 = .ok (.iastore, 1) := by decide +kernel
theorem dX0_meetRow_199 : decode cX0_meetRow 199 = .ok (.aload_n 0, 1) := by decide +kernel
theorem dX0_meetRow_200 : decode cX0_meetRow 200 = .ok (.getfield 13, 3) := by decide +kernel
theorem dX0_meetRow_203 : decode cX0_meetRow 203 = .ok (.iconst 2, 1) := by decide +kernel
theorem dX0_meetRow_204 : decode cX0_meetRow 204 = .ok (.aaload, 1) := by decide +kernel
theorem dX0_meetRow_205 : decode cX0_meetRow 205 = .ok (.iload_n 1, 1) := by decide +kernel
theorem dX0_meetRow_206 : decode cX0_meetRow 206 = .ok (.iload 4, 2) := by decide +kernel
theorem dX0_meetRow_208 : decode cX0_meetRow 208 = .ok (.iload 8, 2) := by decide +kernel
theorem dX0_meetRow_210 : decode cX0_meetRow 210 = .ok (.ixor, 1) := by decide +kernel
theorem dX0_meetRow_211 : decode cX0_meetRow 211 = .ok (.iload 9, 2) := by decide +kernel
theorem dX0_meetRow_213 : decode cX0_meetRow 213 = .ok (.iand, 1) := by decide +kernel
theorem dX0_meetRow_214 : decode cX0_meetRow 214 = .ok (.iload 5, 2) := by decide +kernel
theorem dX0_meetRow_216 : decode cX0_meetRow 216 = .ok (.iload 10, 2) := by decide +kernel
theorem dX0_meetRow_218 : decode cX0_meetRow 218 = .ok (.iand, 1) := by decide +kernel
theorem dX0_meetRow_219 : decode cX0_meetRow 219 = .ok (.ior, 1) := by decide +kernel
theorem dX0_meetRow_220 : decode cX0_meetRow 220 = .ok (.iload_n 3, 1) := by decide +kernel
theorem dX0_meetRow_221 : decode cX0_meetRow 221 = .ok (.iload 11, 2) := by decide +kernel
theorem dX0_meetRow_223 : decode cX0_meetRow 223 = .ok (.iand, 1) := by decide +kernel
theorem dX0_meetRow_224 : decode cX0_meetRow 224 = .ok (.ior, 1) := by decide +kernel
theorem dX0_meetRow_225 : decode cX0_meetRow 225 = .ok (.iastore, 1) := by decide +kernel
theorem dX0_meetRow_226 : decode cX0_meetRow 226 = .ok (.aload_n 0, 1) := by decide +kernel
theorem dX0_meetRow_227 : decode cX0_meetRow 227 = .ok (.getfield 13, 3) := by decide +kernel
theorem dX0_meetRow_230 : decode cX0_meetRow 230 = .ok (.iconst 3, 1) := by decide +kernel
theorem dX0_meetRow_231 : decode cX0_meetRow 231 = .ok (.aaload, 1) := by decide +kernel
theorem dX0_meetRow_232 : decode cX0_meetRow 232 = .ok (.iload_n 1, 1) := by decide +kernel
theorem dX0_meetRow_233 : decode cX0_meetRow 233 = .ok (.iload 5, 2) := by decide +kernel
theorem dX0_meetRow_235 : decode cX0_meetRow 235 = .ok (.iload 8, 2) := by decide +kernel
theorem dX0_meetRow_237 : decode cX0_meetRow 237 = .ok (.ixor, 1) := by decide +kernel
theorem dX0_meetRow_238 : decode cX0_meetRow 238 = .ok (.iload 9, 2) := by decide +kernel
theorem dX0_meetRow_240 : decode cX0_meetRow 240 = .ok (.iand, 1) := by decide +kernel
theorem dX0_meetRow_241 : decode cX0_meetRow 241 = .ok (.iload 4, 2) := by decide +kernel
theorem dX0_meetRow_243 : decode cX0_meetRow 243 = .ok (.iload 10, 2) := by decide +kernel
theorem dX0_meetRow_245 : decode cX0_meetRow 245 = .ok (.iand, 1) := by decide +kernel
theorem dX0_meetRow_246 : decode cX0_meetRow 246 = .ok (.ior, 1) := by decide +kernel
theorem dX0_meetRow_247 : decode cX0_meetRow 247 = .ok (.iload_n 2, 1) := by decide +kernel
theorem dX0_meetRow_248 : decode cX0_meetRow 248 = .ok (.iload 11, 2) := by decide +kernel
theorem dX0_meetRow_250 : decode cX0_meetRow 250 = .ok (.iand, 1) := by decide +kernel
theorem dX0_meetRow_251 : decode cX0_meetRow 251 = .ok (.ior, 1) := by decide +kernel
theorem dX0_meetRow_252 : decode cX0_meetRow 252 = .ok (.iastore, 1) := by decide +kernel
theorem dX0_meetRow_253 : decode cX0_meetRow 253 = .ok (.iload 7, 2) := by decide +kernel
theorem dX0_meetRow_255 : decode cX0_meetRow 255 = .ok (.ireturn, 1) := by decide +kernel
theorem dX0_moveAll_0 : decode cX0_moveAll 0 = .ok (.iconst 1, 1) := by decide +kernel
theorem dX0_moveAll_1 : decode cX0_moveAll 1 = .ok (.aload_n 0, 1) := by decide +kernel
theorem dX0_moveAll_2 : decode cX0_moveAll 2 = .ok (.getfield 26, 3) := by decide +kernel
theorem dX0_moveAll_5 : decode cX0_moveAll 5 = .ok (.iconst 1, 1) := by decide +kernel
theorem dX0_moveAll_6 : decode cX0_moveAll 6 = .ok (.isub, 1) := by decide +kernel
theorem dX0_moveAll_7 : decode cX0_moveAll 7 = .ok (.ishl, 1) := by decide +kernel
theorem dX0_moveAll_8 : decode cX0_moveAll 8 = .ok (.istore_n 1, 1) := by decide +kernel
theorem dX0_moveAll_9 : decode cX0_moveAll 9 = .ok (.iconst 0, 1) := by decide +kernel
theorem dX0_moveAll_10 : decode cX0_moveAll 10 = .ok (.istore_n 2, 1) := by decide +kernel
theorem dX0_moveAll_11 : decode cX0_moveAll 11 = .ok (.iload_n 2, 1) := by decide +kernel
theorem dX0_moveAll_12 : decode cX0_moveAll 12 = .ok (.aload_n 0, 1) := by decide +kernel
theorem dX0_moveAll_13 : decode cX0_moveAll 13 = .ok (.getfield 30, 3) := by decide +kernel
theorem dX0_moveAll_16 : decode cX0_moveAll 16 = .ok (.if_icmp .ge 64, 3) := by decide +kernel
theorem dX0_moveAll_19 : decode cX0_moveAll 19 = .ok (.aload_n 0, 1) := by decide +kernel
theorem dX0_moveAll_20 : decode cX0_moveAll 20 = .ok (.getfield 13, 3) := by decide +kernel
theorem dX0_moveAll_23 : decode cX0_moveAll 23 = .ok (.iconst 0, 1) := by decide +kernel
theorem dX0_moveAll_24 : decode cX0_moveAll 24 = .ok (.aaload, 1) := by decide +kernel
theorem dX0_moveAll_25 : decode cX0_moveAll 25 = .ok (.iload_n 2, 1) := by decide +kernel
theorem dX0_moveAll_26 : decode cX0_moveAll 26 = .ok (.iaload, 1) := by decide +kernel
theorem dX0_moveAll_27 : decode cX0_moveAll 27 = .ok (.istore_n 3, 1) := by decide +kernel
theorem dX0_moveAll_28 : decode cX0_moveAll 28 = .ok (.aload_n 0, 1) := by decide +kernel
theorem dX0_moveAll_29 : decode cX0_moveAll 29 = .ok (.getfield 13, 3) := by decide +kernel
theorem dX0_moveAll_32 : decode cX0_moveAll 32 = .ok (.iconst 2, 1) := by decide +kernel
theorem dX0_moveAll_33 : decode cX0_moveAll 33 = .ok (.aaload, 1) := by decide +kernel
theorem dX0_moveAll_34 : decode cX0_moveAll 34 = .ok (.iload_n 2, 1) := by decide +kernel
theorem dX0_moveAll_35 : decode cX0_moveAll 35 = .ok (.iaload, 1) := by decide +kernel
theorem dX0_moveAll_36 : decode cX0_moveAll 36 = .ok (.istore 4, 2) := by decide +kernel
theorem dX0_moveAll_38 : decode cX0_moveAll 38 = .ok (.aload_n 0, 1) := by decide +kernel
theorem dX0_moveAll_39 : decode cX0_moveAll 39 = .ok (.getfield 13, 3) := by decide +kernel
theorem dX0_moveAll_42 : decode cX0_moveAll 42 = .ok (.iconst 0, 1) := by decide +kernel
theorem dX0_moveAll_43 : decode cX0_moveAll 43 = .ok (.aaload, 1) := by decide +kernel
theorem dX0_moveAll_44 : decode cX0_moveAll 44 = .ok (.iload_n 2, 1) := by decide +kernel
theorem dX0_moveAll_45 : decode cX0_moveAll 45 = .ok (.iload_n 3, 1) := by decide +kernel
theorem dX0_moveAll_46 : decode cX0_moveAll 46 = .ok (.iload_n 1, 1) := by decide +kernel
theorem dX0_moveAll_47 : decode cX0_moveAll 47 = .ok (.iconst (-1), 1) := by decide +kernel
theorem dX0_moveAll_48 : decode cX0_moveAll 48 = .ok (.ixor, 1) := by decide +kernel
theorem dX0_moveAll_49 : decode cX0_moveAll 49 = .ok (.iand, 1) := by decide +kernel
theorem dX0_moveAll_50 : decode cX0_moveAll 50 = .ok (.iconst 1, 1) := by decide +kernel
theorem dX0_moveAll_51 : decode cX0_moveAll 51 = .ok (.ishl, 1) := by decide +kernel
theorem dX0_moveAll_52 : decode cX0_moveAll 52 = .ok (.iload 4, 2) := by decide +kernel
theorem dX0_moveAll_54 : decode cX0_moveAll 54 = .ok (.iconst 1, 1) := by decide +kernel
theorem dX0_moveAll_55 : decode cX0_moveAll 55 = .ok (.iand, 1) := by decide +kernel
theorem dX0_moveAll_56 : decode cX0_moveAll 56 = .ok (.ior, 1) := by decide +kernel
theorem dX0_moveAll_57 : decode cX0_moveAll 57 = .ok (.iastore, 1) := by decide +kernel
theorem dX0_moveAll_58 : decode cX0_moveAll 58 = .ok (.aload_n 0, 1) := by decide +kernel
theorem dX0_moveAll_59 : decode cX0_moveAll 59 = .ok (.getfield 13, 3) := by decide +kernel
theorem dX0_moveAll_62 : decode cX0_moveAll 62 = .ok (.iconst 2, 1) := by decide +kernel
theorem dX0_moveAll_63 : decode cX0_moveAll 63 = .ok (.aaload, 1) := by decide +kernel
theorem dX0_moveAll_64 : decode cX0_moveAll 64 = .ok (.iload_n 2, 1) := by decide +kernel
theorem dX0_moveAll_65 : decode cX0_moveAll 65 = .ok (.iload 4, 2) := by decide +kernel
theorem dX0_moveAll_67 : decode cX0_moveAll 67 = .ok (.iconst 1, 1) := by decide +kernel
theorem dX0_moveAll_68 : decode cX0_moveAll 68 = .ok (.ishr, 1) := by decide +kernel
theorem dX0_moveAll_69 : decode cX0_moveAll 69 = .ok (.iload_n 3, 1) := by decide +kernel
theorem dX0_moveAll_70 : decode cX0_moveAll 70 = .ok (.iload_n 1, 1) := by decide +kernel
theorem dX0_moveAll_71 : decode cX0_moveAll 71 = .ok (.iand, 1) := by decide +kernel
theorem dX0_moveAll_72 : decode cX0_moveAll 72 = .ok (.ior, 1) := by decide +kernel
theorem dX0_moveAll_73 : decode cX0_moveAll 73 = .ok (.iastore, 1) := by decide +kernel
theorem dX0_moveAll_74 : decode cX0_moveAll 74 = .ok (.iinc 2 1, 3) := by decide +kernel
theorem dX0_moveAll_77 : decode cX0_moveAll 77 = .ok (.goto (-66), 3) := by decide +kernel
theorem dX0_moveAll_80 : decode cX0_moveAll 80 = .ok (.aload_n 0, 1) := by decide +kernel
theorem dX0_moveAll_81 : decode cX0_moveAll 81 = .ok (.getfield 13, 3) := by decide +kernel
theorem dX0_moveAll_84 : decode cX0_moveAll 84 = .ok (.iconst 1, 1) := by decide +kernel
theorem dX0_moveAll_85 : decode cX0_moveAll 85 = .ok (.aaload, 1) := by decide +kernel
theorem dX0_moveAll_86 : decode cX0_moveAll 86 = .ok (.aload_n 0, 1) := by decide +kernel
theorem dX0_moveAll_87 : decode cX0_moveAll 87 = .ok (.getfield 30, 3) := by decide +kernel
theorem dX0_moveAll_90 : decode cX0_moveAll 90 = .ok (.iconst 1, 1) := by decide +kernel
theorem dX0_moveAll_91 : decode cX0_moveAll 91 = .ok (.isub, 1) := by decide +kernel
theorem dX0_moveAll_92 : decode cX0_moveAll 92 = .ok (.iaload, 1) := by decide +kernel
theorem dX0_moveAll_93 : decode cX0_moveAll 93 = .ok (.istore_n 2, 1) := by decide +kernel
theorem dX0_moveAll_94 : decode cX0_moveAll 94 = .ok (.aload_n 0, 1) := by decide +kernel
theorem dX0_moveAll_95 : decode cX0_moveAll 95 = .ok (.getfield 13, 3) := by decide +kernel
theorem dX0_moveAll_98 : decode cX0_moveAll 98 = .ok (.iconst 3, 1) := by decide +kernel
theorem dX0_moveAll_99 : decode cX0_moveAll 99 = .ok (.aaload, 1) := by decide +kernel
theorem dX0_moveAll_100 : decode cX0_moveAll 100 = .ok (.iconst 0, 1) := by decide +kernel
theorem dX0_moveAll_101 : decode cX0_moveAll 101 = .ok (.iaload, 1) := by decide +kernel
theorem dX0_moveAll_102 : decode cX0_moveAll 102 = .ok (.istore_n 3, 1) := by decide +kernel
theorem dX0_moveAll_103 : decode cX0_moveAll 103 = .ok (.aload_n 0, 1) := by decide +kernel
theorem dX0_moveAll_104 : decode cX0_moveAll 104 = .ok (.getfield 30, 3) := by decide +kernel
theorem dX0_moveAll_107 : decode cX0_moveAll 107 = .ok (.iconst 1, 1) := by decide +kernel
theorem dX0_moveAll_108 : decode cX0_moveAll 108 = .ok (.isub, 1) := by decide +kernel
theorem dX0_moveAll_109 : decode cX0_moveAll 109 = .ok (.istore 4, 2) := by decide +kernel
theorem dX0_moveAll_111 : decode cX0_moveAll 111 = .ok (.iload 4, 2) := by decide +kernel
theorem dX0_moveAll_113 : decode cX0_moveAll 113 = .ok (.ifCond .le 29, 3) := by decide +kernel
theorem dX0_moveAll_116 : decode cX0_moveAll 116 = .ok (.aload_n 0, 1) := by decide +kernel
theorem dX0_moveAll_117 : decode cX0_moveAll 117 = .ok (.getfield 13, 3) := by decide +kernel
theorem dX0_moveAll_120 : decode cX0_moveAll 120 = .ok (.iconst 1, 1) := by decide +kernel
theorem dX0_moveAll_121 : decode cX0_moveAll 121 = .ok (.aaload, 1) := by decide +kernel
theorem dX0_moveAll_122 : decode cX0_moveAll 122 = .ok (.iload 4, 2) := by decide +kernel
theorem dX0_moveAll_124 : decode cX0_moveAll 124 = .ok (.aload_n 0, 1) := by decide +kernel
theorem dX0_moveAll_125 : decode cX0_moveAll 125 = .ok (.getfield 13, 3) := by decide +kernel
theorem dX0_moveAll_128 : decode cX0_moveAll 128 = .ok (.iconst 1, 1) := by decide +kernel
theorem dX0_moveAll_129 : decode cX0_moveAll 129 = .ok (.aaload, 1) := by decide +kernel
theorem dX0_moveAll_130 : decode cX0_moveAll 130 = .ok (.iload 4, 2) := by decide +kernel
theorem dX0_moveAll_132 : decode cX0_moveAll 132 = .ok (.iconst 1, 1) := by decide +kernel
theorem dX0_moveAll_133 : decode cX0_moveAll 133 = .ok (.isub, 1) := by decide +kernel
theorem dX0_moveAll_134 : decode cX0_moveAll 134 = .ok (.iaload, 1) := by decide +kernel
theorem dX0_moveAll_135 : decode cX0_moveAll 135 = .ok (.iastore, 1) := by decide +kernel
theorem dX0_moveAll_136 : decode cX0_moveAll 136 = .ok (.iinc 4 (-1), 3) := by decide +kernel
theorem dX0_moveAll_139 : decode cX0_moveAll 139 = .ok (.goto (-28), 3) := by decide +kernel
theorem dX0_moveAll_142 : decode cX0_moveAll 142 = .ok (.iconst 0, 1) := by decide +kernel
theorem dX0_moveAll_143 : decode cX0_moveAll 143 = .ok (.istore 4, 2) := by decide +kernel
theorem dX0_moveAll_145 : decode cX0_moveAll 145 = .ok (.iload 4, 2) := by decide +kernel
theorem dX0_moveAll_147 : decode cX0_moveAll 147 = .ok (.aload_n 0, 1) := by decide +kernel
theorem dX0_moveAll_148 : decode cX0_moveAll 148 = .ok (.getfield 30, 3) := by decide +kernel
theorem dX0_moveAll_151 : decode cX0_moveAll 151 = .ok (.iconst 1, 1) := by decide +kernel
theorem dX0_moveAll_152 : decode cX0_moveAll 152 = .ok (.isub, 1) := by decide +kernel
theorem dX0_moveAll_153 : decode cX0_moveAll 153 = .ok (.if_icmp .ge 29, 3) := by decide +kernel
theorem dX0_moveAll_156 : decode cX0_moveAll 156 = .ok (.aload_n 0, 1) := by decide +kernel
theorem dX0_moveAll_157 : decode cX0_moveAll 157 = .ok (.getfield 13, 3) := by decide +kernel
theorem dX0_moveAll_160 : decode cX0_moveAll 160 = .ok (.iconst 3, 1) := by decide +kernel
theorem dX0_moveAll_161 : decode cX0_moveAll 161 = .ok (.aaload, 1) := by decide +kernel
theorem dX0_moveAll_162 : decode cX0_moveAll 162 = .ok (.iload 4, 2) := by decide +kernel
theorem dX0_moveAll_164 : decode cX0_moveAll 164 = .ok (.aload_n 0, 1) := by decide +kernel
theorem dX0_moveAll_165 : decode cX0_moveAll 165 = .ok (.getfield 13, 3) := by decide +kernel
theorem dX0_moveAll_168 : decode cX0_moveAll 168 = .ok (.iconst 3, 1) := by decide +kernel
theorem dX0_moveAll_169 : decode cX0_moveAll 169 = .ok (.aaload, 1) := by decide +kernel
theorem dX0_moveAll_170 : decode cX0_moveAll 170 = .ok (.iload 4, 2) := by decide +kernel
theorem dX0_moveAll_172 : decode cX0_moveAll 172 = .ok (.iconst 1, 1) := by decide +kernel
theorem dX0_moveAll_173 : decode cX0_moveAll 173 = .ok (.iadd, 1) := by decide +kernel
theorem dX0_moveAll_174 : decode cX0_moveAll 174 = .ok (.iaload, 1) := by decide +kernel
theorem dX0_moveAll_175 : decode cX0_moveAll 175 = .ok (.iastore, 1) := by decide +kernel
theorem dX0_moveAll_176 : decode cX0_moveAll 176 = .ok (.iinc 4 1, 3) := by decide +kernel
theorem dX0_moveAll_179 : decode cX0_moveAll 179 = .ok (.goto (-34), 3) := by decide +kernel
theorem dX0_moveAll_182 : decode cX0_moveAll 182 = .ok (.aload_n 0, 1) := by decide +kernel
theorem dX0_moveAll_183 : decode cX0_moveAll 183 = .ok (.getfield 13, 3) := by decide +kernel
theorem dX0_moveAll_186 : decode cX0_moveAll 186 = .ok (.iconst 1, 1) := by decide +kernel
theorem dX0_moveAll_187 : decode cX0_moveAll 187 = .ok (.aaload, 1) := by decide +kernel
theorem dX0_moveAll_188 : decode cX0_moveAll 188 = .ok (.iconst 0, 1) := by decide +kernel
theorem dX0_moveAll_189 : decode cX0_moveAll 189 = .ok (.iload_n 3, 1) := by decide +kernel
theorem dX0_moveAll_190 : decode cX0_moveAll 190 = .ok (.iastore, 1) := by decide +kernel
theorem dX0_moveAll_191 : decode cX0_moveAll 191 = .ok (.aload_n 0, 1) := by decide +kernel
theorem dX0_moveAll_192 : decode cX0_moveAll 192 = .ok (.getfield 13, 3) := by decide +kernel
theorem dX0_moveAll_195 : decode cX0_moveAll 195 = .ok (.iconst 3, 1) := by decide +kernel
theorem dX0_moveAll_196 : decode cX0_moveAll 196 = .ok (.aaload, 1) := by decide +kernel
theorem dX0_moveAll_197 : decode cX0_moveAll 197 = .ok (.aload_n 0, 1) := by decide +kernel
theorem dX0_moveAll_198 : decode cX0_moveAll 198 = .ok (.getfield 30, 3) := by decide +kernel
theorem dX0_moveAll_201 : decode cX0_moveAll 201 = .ok (.iconst 1, 1) := by decide +kernel
theorem dX0_moveAll_202 : decode cX0_moveAll 202 = .ok (.isub, 1) := by decide +kernel
theorem dX0_moveAll_203 : decode cX0_moveAll 203 = .ok (.iload_n 2, 1) := by decide +kernel
theorem dX0_moveAll_204 : decode cX0_moveAll 204 = .ok (.iastore, 1) := by decide +kernel
theorem dX0_moveAll_205 : decode cX0_moveAll 205 = .ok (.return_, 1) := by decide +kernel
theorem dX0_moveAllBack_0 : decode cX0_moveAllBack 0 = .ok (.iconst 1, 1) := by decide +kernel
theorem dX0_moveAllBack_1 : decode cX0_moveAllBack 1 = .ok (.aload_n 0, 1) := by decide +kernel
theorem dX0_moveAllBack_2 : decode cX0_moveAllBack 2 = .ok (.getfield 26, 3) := by decide +kernel
theorem dX0_moveAllBack_5 : decode cX0_moveAllBack 5 = .ok (.iconst 1, 1) := by decide +kernel
theorem dX0_moveAllBack_6 : decode cX0_moveAllBack 6 = .ok (.isub, 1) := by decide +kernel
theorem dX0_moveAllBack_7 : decode cX0_moveAllBack 7 = .ok (.ishl, 1) := by decide +kernel
theorem dX0_moveAllBack_8 : decode cX0_moveAllBack 8 = .ok (.istore_n 1, 1) := by decide +kernel
theorem dX0_moveAllBack_9 : decode cX0_moveAllBack 9 = .ok (.iconst 0, 1) := by decide +kernel
theorem dX0_moveAllBack_10 : decode cX0_moveAllBack 10 = .ok (.istore_n 2, 1) := by decide +kernel
theorem dX0_moveAllBack_11 : decode cX0_moveAllBack 11 = .ok (.iload_n 2, 1) := by decide +kernel
theorem dX0_moveAllBack_12 : decode cX0_moveAllBack 12 = .ok (.aload_n 0, 1) := by decide +kernel
theorem dX0_moveAllBack_13 : decode cX0_moveAllBack 13 = .ok (.getfield 30, 3) := by decide +kernel
theorem dX0_moveAllBack_16 : decode cX0_moveAllBack 16 = .ok (.if_icmp .ge 64, 3) := by decide +kernel
theorem dX0_moveAllBack_19 : decode cX0_moveAllBack 19 = .ok (.aload_n 0, 1) := by decide +kernel
theorem dX0_moveAllBack_20 : decode cX0_moveAllBack 20 = .ok (.getfield 13, 3) := by decide +kernel
theorem dX0_moveAllBack_23 : decode cX0_moveAllBack 23 = .ok (.iconst 0, 1) := by decide +kernel
theorem dX0_moveAllBack_24 : decode cX0_moveAllBack 24 = .ok (.aaload, 1) := by decide +kernel
theorem dX0_moveAllBack_25 : decode cX0_moveAllBack 25 = .ok (.iload_n 2, 1) := by decide +kernel
theorem dX0_moveAllBack_26 : decode cX0_moveAllBack 26 = .ok (.iaload, 1) := by decide +kernel
theorem dX0_moveAllBack_27 : decode cX0_moveAllBack 27 = .ok (.istore_n 3, 1) := by decide +kernel
theorem dX0_moveAllBack_28 : decode cX0_moveAllBack 28 = .ok (.aload_n 0, 1) := by decide +kernel
theorem dX0_moveAllBack_29 : decode cX0_moveAllBack 29 = .ok (.getfield 13, 3) := by decide +kernel
theorem dX0_moveAllBack_32 : decode cX0_moveAllBack 32 = .ok (.iconst 2, 1) := by decide +kernel
theorem dX0_moveAllBack_33 : decode cX0_moveAllBack 33 = .ok (.aaload, 1) := by decide +kernel
theorem dX0_moveAllBack_34 : decode cX0_moveAllBack 34 = .ok (.iload_n 2, 1) := by decide +kernel
theorem dX0_moveAllBack_35 : decode cX0_moveAllBack 35 = .ok (.iaload, 1) := by decide +kernel
theorem dX0_moveAllBack_36 : decode cX0_moveAllBack 36 = .ok (.istore 4, 2) := by decide +kernel
theorem dX0_moveAllBack_38 : decode cX0_moveAllBack 38 = .ok (.aload_n 0, 1) := by decide +kernel
theorem dX0_moveAllBack_39 : decode cX0_moveAllBack 39 = .ok (.getfield 13, 3) := by decide +kernel
theorem dX0_moveAllBack_42 : decode cX0_moveAllBack 42 = .ok (.iconst 0, 1) := by decide +kernel
theorem dX0_moveAllBack_43 : decode cX0_moveAllBack 43 = .ok (.aaload, 1) := by decide +kernel
theorem dX0_moveAllBack_44 : decode cX0_moveAllBack 44 = .ok (.iload_n 2, 1) := by decide +kernel
theorem dX0_moveAllBack_45 : decode cX0_moveAllBack 45 = .ok (.iload_n 3, 1) := by decide +kernel
theorem dX0_moveAllBack_46 : decode cX0_moveAllBack 46 = .ok (.iconst 1, 1) := by decide +kernel
theorem dX0_moveAllBack_47 : decode cX0_moveAllBack 47 = .ok (.ishr, 1) := by decide +kernel
theorem dX0_moveAllBack_48 : decode cX0_moveAllBack 48 = .ok (.iload 4, 2) := by decide +kernel
theorem dX0_moveAllBack_50 : decode cX0_moveAllBack 50 = .ok (.iload_n 1, 1) := by decide +kernel
theorem dX0_moveAllBack_51 : decode cX0_moveAllBack 51 = .ok (.iand, 1) := by decide +kernel
theorem dX0_moveAllBack_52 : decode cX0_moveAllBack 52 = .ok (.ior, 1) := by decide +kernel
theorem dX0_moveAllBack_53 : decode cX0_moveAllBack 53 = .ok (.iastore, 1) := by decide +kernel
theorem dX0_moveAllBack_54 : decode cX0_moveAllBack 54 = .ok (.aload_n 0, 1) := by decide +kernel
theorem dX0_moveAllBack_55 : decode cX0_moveAllBack 55 = .ok (.getfield 13, 3) := by decide +kernel
theorem dX0_moveAllBack_58 : decode cX0_moveAllBack 58 = .ok (.iconst 2, 1) := by decide +kernel
theorem dX0_moveAllBack_59 : decode cX0_moveAllBack 59 = .ok (.aaload, 1) := by decide +kernel
theorem dX0_moveAllBack_60 : decode cX0_moveAllBack 60 = .ok (.iload_n 2, 1) := by decide +kernel
theorem dX0_moveAllBack_61 : decode cX0_moveAllBack 61 = .ok (.iload 4, 2) := by decide +kernel
theorem dX0_moveAllBack_63 : decode cX0_moveAllBack 63 = .ok (.iload_n 1, 1) := by decide +kernel
theorem dX0_moveAllBack_64 : decode cX0_moveAllBack 64 = .ok (.iconst (-1), 1) := by decide +kernel
theorem dX0_moveAllBack_65 : decode cX0_moveAllBack 65 = .ok (.ixor, 1) := by decide +kernel
theorem dX0_moveAllBack_66 : decode cX0_moveAllBack 66 = .ok (.iand, 1) := by decide +kernel
theorem dX0_moveAllBack_67 : decode cX0_moveAllBack 67 = .ok (.iconst 1, 1) := by decide +kernel
theorem dX0_moveAllBack_68 : decode cX0_moveAllBack 68 = .ok (.ishl, 1) := by decide +kernel
theorem dX0_moveAllBack_69 : decode cX0_moveAllBack 69 = .ok (.iload_n 3, 1) := by decide +kernel
theorem dX0_moveAllBack_70 : decode cX0_moveAllBack 70 = .ok (.iconst 1, 1) := by decide +kernel
theorem dX0_moveAllBack_71 : decode cX0_moveAllBack 71 = .ok (.iand, 1) := by decide +kernel
theorem dX0_moveAllBack_72 : decode cX0_moveAllBack 72 = .ok (.ior, 1) := by decide +kernel
theorem dX0_moveAllBack_73 : decode cX0_moveAllBack 73 = .ok (.iastore, 1) := by decide +kernel
theorem dX0_moveAllBack_74 : decode cX0_moveAllBack 74 = .ok (.iinc 2 1, 3) := by decide +kernel
theorem dX0_moveAllBack_77 : decode cX0_moveAllBack 77 = .ok (.goto (-66), 3) := by decide +kernel
theorem dX0_moveAllBack_80 : decode cX0_moveAllBack 80 = .ok (.aload_n 0, 1) := by decide +kernel
theorem dX0_moveAllBack_81 : decode cX0_moveAllBack 81 = .ok (.getfield 13, 3) := by decide +kernel
theorem dX0_moveAllBack_84 : decode cX0_moveAllBack 84 = .ok (.iconst 1, 1) := by decide +kernel
theorem dX0_moveAllBack_85 : decode cX0_moveAllBack 85 = .ok (.aaload, 1) := by decide +kernel
theorem dX0_moveAllBack_86 : decode cX0_moveAllBack 86 = .ok (.iconst 0, 1) := by decide +kernel
theorem dX0_moveAllBack_87 : decode cX0_moveAllBack 87 = .ok (.iaload, 1) := by decide +kernel
theorem dX0_moveAllBack_88 : decode cX0_moveAllBack 88 = .ok (.istore_n 2, 1) := by decide +kernel
theorem dX0_moveAllBack_89 : decode cX0_moveAllBack 89 = .ok (.aload_n 0, 1) := by decide +kernel
theorem dX0_moveAllBack_90 : decode cX0_moveAllBack 90 = .ok (.getfield 13, 3) := by decide +kernel
theorem dX0_moveAllBack_93 : decode cX0_moveAllBack 93 = .ok (.iconst 3, 1) := by decide +kernel
theorem dX0_moveAllBack_94 : decode cX0_moveAllBack 94 = .ok (.aaload, 1) := by decide +kernel
theorem dX0_moveAllBack_95 : decode cX0_moveAllBack 95 = .ok (.aload_n 0, 1) := by decide +kernel
theorem dX0_moveAllBack_96 : decode cX0_moveAllBack 96 = .ok (.getfield 30, 3) := by decide +kernel
theorem dX0_moveAllBack_99 : decode cX0_moveAllBack 99 = .ok (.iconst 1, 1) := by decide +kernel
theorem dX0_moveAllBack_100 : decode cX0_moveAllBack 100 = .ok (.isub, 1) := by decide +kernel
theorem dX0_moveAllBack_101 : decode cX0_moveAllBack 101 = .ok (.iaload, 1) := by decide +kernel
theorem dX0_moveAllBack_102 : decode cX0_moveAllBack 102 = .ok (.istore_n 3, 1) := by decide +kernel
theorem dX0_moveAllBack_103 : decode cX0_moveAllBack 103 = .ok (.iconst 0, 1) := by decide +kernel
theorem dX0_moveAllBack_104 : decode cX0_moveAllBack 104 = .ok (.istore 4, 2) := by decide +kernel
theorem dX0_moveAllBack_106 : decode cX0_moveAllBack 106 = .ok (.iload 4, 2) := by decide +kernel
theorem dX0_moveAllBack_108 : decode cX0_moveAllBack 108 = .ok (.aload_n 0, 1) := by decide +kernel
theorem dX0_moveAllBack_109 : decode cX0_moveAllBack 109 = .ok (.getfield 30, 3) := by decide +kernel
theorem dX0_moveAllBack_112 : decode cX0_moveAllBack 112 = .ok (.iconst 1, 1) := by decide +kernel
theorem dX0_moveAllBack_113 : decode cX0_moveAllBack 113 = .ok (.isub, 1) := by decide +kernel
theorem dX0_moveAllBack_114 : decode cX0_moveAllBack 114 = .ok (.if_icmp .ge 29, 3) := by decide +kernel
theorem dX0_moveAllBack_117 : decode cX0_moveAllBack 117 = .ok (.aload_n 0, 1) := by decide +kernel
theorem dX0_moveAllBack_118 : decode cX0_moveAllBack 118 = .ok (.getfield 13, 3) := by decide +kernel
theorem dX0_moveAllBack_121 : decode cX0_moveAllBack 121 = .ok (.iconst 1, 1) := by decide +kernel
theorem dX0_moveAllBack_122 : decode cX0_moveAllBack 122 = .ok (.aaload, 1) := by decide +kernel
theorem dX0_moveAllBack_123 : decode cX0_moveAllBack 123 = .ok (.iload 4, 2) := by decide +kernel
theorem dX0_moveAllBack_125 : decode cX0_moveAllBack 125 = .ok (.aload_n 0, 1) := by decide +kernel
theorem dX0_moveAllBack_126 : decode cX0_moveAllBack 126 = .ok (.getfield 13, 3) := by decide +kernel
theorem dX0_moveAllBack_129 : decode cX0_moveAllBack 129 = .ok (.iconst 1, 1) := by decide +kernel
theorem dX0_moveAllBack_130 : decode cX0_moveAllBack 130 = .ok (.aaload, 1) := by decide +kernel
theorem dX0_moveAllBack_131 : decode cX0_moveAllBack 131 = .ok (.iload 4, 2) := by decide +kernel
theorem dX0_moveAllBack_133 : decode cX0_moveAllBack 133 = .ok (.iconst 1, 1) := by decide +kernel
theorem dX0_moveAllBack_134 : decode cX0_moveAllBack 134 = .ok (.iadd, 1) := by decide +kernel
theorem dX0_moveAllBack_135 : decode cX0_moveAllBack 135 = .ok (.iaload, 1) := by decide +kernel
theorem dX0_moveAllBack_136 : decode cX0_moveAllBack 136 = .ok (.iastore, 1) := by decide +kernel
theorem dX0_moveAllBack_137 : decode cX0_moveAllBack 137 = .ok (.iinc 4 1, 3) := by decide +kernel
theorem dX0_moveAllBack_140 : decode cX0_moveAllBack 140 = .ok (.goto (-34), 3) := by decide +kernel
theorem dX0_moveAllBack_143 : decode cX0_moveAllBack 143 = .ok (.aload_n 0, 1) := by decide +kernel
theorem dX0_moveAllBack_144 : decode cX0_moveAllBack 144 = .ok (.getfield 30, 3) := by decide +kernel
theorem dX0_moveAllBack_147 : decode cX0_moveAllBack 147 = .ok (.iconst 1, 1) := by decide +kernel
theorem dX0_moveAllBack_148 : decode cX0_moveAllBack 148 = .ok (.isub, 1) := by decide +kernel
theorem dX0_moveAllBack_149 : decode cX0_moveAllBack 149 = .ok (.istore 4, 2) := by decide +kernel
theorem dX0_moveAllBack_151 : decode cX0_moveAllBack 151 = .ok (.iload 4, 2) := by decide +kernel
theorem dX0_moveAllBack_153 : decode cX0_moveAllBack 153 = .ok (.ifCond .le 29, 3) := by decide +kernel
theorem dX0_moveAllBack_156 : decode cX0_moveAllBack 156 = .ok (.aload_n 0, 1) := by decide +kernel
theorem dX0_moveAllBack_157 : decode cX0_moveAllBack 157 = .ok (.getfield 13, 3) := by decide +kernel
theorem dX0_moveAllBack_160 : decode cX0_moveAllBack 160 = .ok (.iconst 3, 1) := by decide +kernel
theorem dX0_moveAllBack_161 : decode cX0_moveAllBack 161 = .ok (.aaload, 1) := by decide +kernel
theorem dX0_moveAllBack_162 : decode cX0_moveAllBack 162 = .ok (.iload 4, 2) := by decide +kernel
theorem dX0_moveAllBack_164 : decode cX0_moveAllBack 164 = .ok (.aload_n 0, 1) := by decide +kernel
theorem dX0_moveAllBack_165 : decode cX0_moveAllBack 165 = .ok (.getfield 13, 3) := by decide +kernel
theorem dX0_moveAllBack_168 : decode cX0_moveAllBack 168 = .ok (.iconst 3, 1) := by decide +kernel
theorem dX0_moveAllBack_169 : decode cX0_moveAllBack 169 = .ok (.aaload, 1) := by decide +kernel
theorem dX0_moveAllBack_170 : decode cX0_moveAllBack 170 = .ok (.iload 4, 2) := by decide +kernel
theorem dX0_moveAllBack_172 : decode cX0_moveAllBack 172 = .ok (.iconst 1, 1) := by decide +kernel
theorem dX0_moveAllBack_173 : decode cX0_moveAllBack 173 = .ok (.isub, 1) := by decide +kernel
theorem dX0_moveAllBack_174 : decode cX0_moveAllBack 174 = .ok (.iaload, 1) := by decide +kernel
theorem dX0_moveAllBack_175 : decode cX0_moveAllBack 175 = .ok (.iastore, 1) := by decide +kernel
theorem dX0_moveAllBack_176 : decode cX0_moveAllBack 176 = .ok (.iinc 4 (-1), 3) := by decide +kernel
theorem dX0_moveAllBack_179 : decode cX0_moveAllBack 179 = .ok (.goto (-28), 3) := by decide +kernel
theorem dX0_moveAllBack_182 : decode cX0_moveAllBack 182 = .ok (.aload_n 0, 1) := by decide +kernel
theorem dX0_moveAllBack_183 : decode cX0_moveAllBack 183 = .ok (.getfield 13, 3) := by decide +kernel
theorem dX0_moveAllBack_186 : decode cX0_moveAllBack 186 = .ok (.iconst 1, 1) := by decide +kernel
theorem dX0_moveAllBack_187 : decode cX0_moveAllBack 187 = .ok (.aaload, 1) := by decide +kernel
theorem dX0_moveAllBack_188 : decode cX0_moveAllBack 188 = .ok (.aload_n 0, 1) := by decide +kernel
theorem dX0_moveAllBack_189 : decode cX0_moveAllBack 189 = .ok (.getfield 30, 3) := by decide +kernel
theorem dX0_moveAllBack_192 : decode cX0_moveAllBack 192 = .ok (.iconst 1, 1) := by decide +kernel
theorem dX0_moveAllBack_193 : decode cX0_moveAllBack 193 = .ok (.isub, 1) := by decide +kernel
theorem dX0_moveAllBack_194 : decode cX0_moveAllBack 194 = .ok (.iload_n 3, 1) := by decide +kernel
theorem dX0_moveAllBack_195 : decode cX0_moveAllBack 195 = .ok (.iastore, 1) := by decide +kernel
theorem dX0_moveAllBack_196 : decode cX0_moveAllBack 196 = .ok (.aload_n 0, 1) := by decide +kernel
theorem dX0_moveAllBack_197 : decode cX0_moveAllBack 197 = .ok (.getfield 13, 3) := by decide +kernel
theorem dX0_moveAllBack_200 : decode cX0_moveAllBack 200 = .ok (.iconst 3, 1) := by decide +kernel
theorem dX0_moveAllBack_201 : decode cX0_moveAllBack 201 = .ok (.aaload, 1) := by decide +kernel
theorem dX0_moveAllBack_202 : decode cX0_moveAllBack 202 = .ok (.iconst 0, 1) := by decide +kernel
theorem dX0_moveAllBack_203 : decode cX0_moveAllBack 203 = .ok (.iload_n 2, 1) := by decide +kernel
theorem dX0_moveAllBack_204 : decode cX0_moveAllBack 204 = .ok (.iastore, 1) := by decide +kernel
theorem dX0_moveAllBack_205 : decode cX0_moveAllBack 205 = .ok (.return_, 1) := by decide +kernel
theorem dX1_init_0 : decode cX1_init 0 = .ok (.aload_n 0, 1) := by decide +kernel
theorem dX1_init_1 : decode cX1_init 1 = .ok (.invokespecial 3, 3) := by decide +kernel
theorem dX1_init_4 : decode cX1_init 4 = .ok (.aload_n 0, 1) := by decide +kernel
theorem dX1_init_5 : decode cX1_init 5 = .ok (.bipush 20, 2) := by decide +kernel
theorem dX1_init_7 : decode cX1_init 7 = .ok (.newarray .int, 2) := by decide +kernel
theorem dX1_init_9 : decode cX1_init 9 = .ok (.putfield 11, 3) := by decide +kernel
theorem dX1_init_12 : decode cX1_init 12 = .ok (.aload_n 0, 1) := by decide +kernel
theorem dX1_init_13 : decode cX1_init 13 = .ok (.bipush 20, 2) := by decide +kernel
theorem dX1_init_15 : decode cX1_init 15 = .ok (.newarray .int, 2) := by decide +kernel
theorem dX1_init_17 : decode cX1_init 17 = .ok (.putfield 15, 3) := by decide +kernel
theorem dX1_init_20 : decode cX1_init 20 = .ok (.aload_n 0, 1) := by decide +kernel
theorem dX1_init_21 : decode cX1_init 21 = .ok (.bipush 20, 2) := by decide +kernel
theorem dX1_init_23 : decode cX1_init 23 = .ok (.newarray .int, 2) := by decide +kernel
theorem dX1_init_25 : decode cX1_init 25 = .ok (.putfield 18, 3) := by decide +kernel
theorem dX1_init_28 : decode cX1_init 28 = .ok (.aload_n 0, 1) := by decide +kernel
theorem dX1_init_29 : decode cX1_init 29 = .ok (.bipush 20, 2) := by decide +kernel
theorem dX1_init_31 : decode cX1_init 31 = .ok (.newarray .int, 2) := by decide +kernel
theorem dX1_init_33 : decode cX1_init 33 = .ok (.putfield 21, 3) := by decide +kernel
theorem dX1_init_36 : decode cX1_init 36 = .ok (.aload_n 0, 1) := by decide +kernel
theorem dX1_init_37 : decode cX1_init 37 = .ok (.bipush 20, 2) := by decide +kernel
theorem dX1_init_39 : decode cX1_init 39 = .ok (.newarray .int, 2) := by decide +kernel
theorem dX1_init_41 : decode cX1_init 41 = .ok (.putfield 24, 3) := by decide +kernel
theorem dX1_init_44 : decode cX1_init 44 = .ok (.aload_n 0, 1) := by decide +kernel
theorem dX1_init_45 : decode cX1_init 45 = .ok (.bipush 20, 2) := by decide +kernel
theorem dX1_init_47 : decode cX1_init 47 = .ok (.newarray .int, 2) := by decide +kernel
theorem dX1_init_49 : decode cX1_init 49 = .ok (.putfield 27, 3) := by decide +kernel
theorem dX1_init_52 : decode cX1_init 52 = .ok (.aload_n 0, 1) := by decide +kernel
theorem dX1_init_53 : decode cX1_init 53 = .ok (.sipush 256, 3) := by decide +kernel
theorem dX1_init_56 : decode cX1_init 56 = .ok (.newarray .int, 2) := by decide +kernel
theorem dX1_init_58 : decode cX1_init 58 = .ok (.putfield 30, 3) := by decide +kernel
theorem dX1_init_61 : decode cX1_init 61 = .ok (.aload_n 0, 1) := by decide +kernel
theorem dX1_init_62 : decode cX1_init 62 = .ok (.sipush 256, 3) := by decide +kernel
theorem dX1_init_65 : decode cX1_init 65 = .ok (.newarray .int, 2) := by decide +kernel
theorem dX1_init_67 : decode cX1_init 67 = .ok (.putfield 33, 3) := by decide +kernel
theorem dX1_init_70 : decode cX1_init 70 = .ok (.aload_n 0, 1) := by decide +kernel
theorem dX1_init_71 : decode cX1_init 71 = .ok (.sipush 256, 3) := by decide +kernel
theorem dX1_init_74 : decode cX1_init 74 = .ok (.newarray .int, 2) := by decide +kernel
theorem dX1_init_76 : decode cX1_init 76 = .ok (.putfield 36, 3) := by decide +kernel
theorem dX1_init_79 : decode cX1_init 79 = .ok (.aload_n 0, 1) := by decide +kernel
theorem dX1_init_80 : decode cX1_init 80 = .ok (.iconst 0, 1) := by decide +kernel
theorem dX1_init_81 : decode cX1_init 81 = .ok (.newarray .int, 2) := by decide +kernel
theorem dX1_init_83 : decode cX1_init 83 = .ok (.putfield 39, 3) := by decide +kernel
theorem dX1_init_86 : decode cX1_init 86 = .ok (.aload_n 0, 1) := by decide +kernel
theorem dX1_init_87 : decode cX1_init 87 = .ok (.sipush 256, 3) := by decide +kernel
theorem dX1_init_90 : decode cX1_init 90 = .ok (.putfield 42, 3) := by decide +kernel
theorem dX1_init_93 : decode cX1_init 93 = .ok (.return_, 1) := by decide +kernel
theorem dX1_watching_0 : decode cX1_watching 0 = .ok (.aload_n 0, 1) := by decide +kernel
theorem dX1_watching_1 : decode cX1_watching 1 = .ok (.getfield 46, 3) := by decide +kernel
theorem dX1_watching_4 : decode cX1_watching 4 = .ok (.ireturn, 1) := by decide +kernel
theorem dX1_seen_0 : decode cX1_seen 0 = .ok (.aload_n 0, 1) := by decide +kernel
theorem dX1_seen_1 : decode cX1_seen 1 = .ok (.getfield 50, 3) := by decide +kernel
theorem dX1_seen_4 : decode cX1_seen 4 = .ok (.ireturn, 1) := by decide +kernel
theorem dX1_rights_0 : decode cX1_rights 0 = .ok (.aload_n 0, 1) := by decide +kernel
theorem dX1_rights_1 : decode cX1_rights 1 = .ok (.getfield 53, 3) := by decide +kernel
theorem dX1_rights_4 : decode cX1_rights 4 = .ok (.ireturn, 1) := by decide +kernel
theorem dX1_begin_0 : decode cX1_begin 0 = .ok (.aload_n 0, 1) := by decide +kernel
theorem dX1_begin_1 : decode cX1_begin 1 = .ok (.getfield 39, 3) := by decide +kernel
theorem dX1_begin_4 : decode cX1_begin 4 = .ok (.arraylength, 1) := by decide +kernel
theorem dX1_begin_5 : decode cX1_begin 5 = .ok (.ifCond .ne 12, 3) := by decide +kernel
theorem dX1_begin_8 : decode cX1_begin 8 = .ok (.aload_n 0, 1) := by decide +kernel
theorem dX1_begin_9 : decode cX1_begin 9 = .ok (.sipush 10496, 3) := by decide +kernel
theorem dX1_begin_12 : decode cX1_begin 12 = .ok (.newarray .int, 2) := by decide +kernel
theorem dX1_begin_14 : decode cX1_begin 14 = .ok (.putfield 39, 3) := by decide +kernel
theorem dX1_begin_17 : decode cX1_begin 17 = .ok (.aload_n 0, 1) := by decide +kernel
theorem dX1_begin_18 : decode cX1_begin 18 = .ok (.iconst 1, 1) := by decide +kernel
theorem dX1_begin_19 : decode cX1_begin 19 = .ok (.putfield 46, 3) := by decide +kernel
theorem dX1_begin_22 : decode cX1_begin 22 = .ok (.aload_n 0, 1) := by decide +kernel
theorem dX1_begin_23 : decode cX1_begin 23 = .ok (.aload_n 1, 1) := by decide +kernel
theorem dX1_begin_24 : decode cX1_begin 24 = .ok (.invokevirtual 56, 3) := by decide +kernel
theorem dX1_begin_27 : decode cX1_begin 27 = .ok (.putfield 62, 3) := by decide +kernel
theorem dX1_begin_30 : decode cX1_begin 30 = .ok (.aload_n 0, 1) := by decide +kernel
theorem dX1_begin_31 : decode cX1_begin 31 = .ok (.aload_n 1, 1) := by decide +kernel
theorem dX1_begin_32 : decode cX1_begin 32 = .ok (.invokevirtual 64, 3) := by decide +kernel
theorem dX1_begin_35 : decode cX1_begin 35 = .ok (.putfield 42, 3) := by decide +kernel
theorem dX1_begin_38 : decode cX1_begin 38 = .ok (.aload_n 0, 1) := by decide +kernel
theorem dX1_begin_39 : decode cX1_begin 39 = .ok (.iconst 0, 1) := by decide +kernel
theorem dX1_begin_40 : decode cX1_begin 40 = .ok (.putfield 50, 3) := by decide +kernel
theorem dX1_begin_43 : decode cX1_begin 43 = .ok (.aload_n 0, 1) := by decide +kernel
theorem dX1_begin_44 : decode cX1_begin 44 = .ok (.iconst 0, 1) := by decide +kernel
theorem dX1_begin_45 : decode cX1_begin 45 = .ok (.putfield 53, 3) := by decide +kernel
theorem dX1_begin_48 : decode cX1_begin 48 = .ok (.aload_n 0, 1) := by decide +kernel
theorem dX1_begin_49 : decode cX1_begin 49 = .ok (.iconst 0, 1) := by decide +kernel
theorem dX1_begin_50 : decode cX1_begin 50 = .ok (.putfield 66, 3) := by decide +kernel
theorem dX1_begin_53 : decode cX1_begin 53 = .ok (.aload_n 0, 1) := by decide +kernel
theorem dX1_begin_54 : decode cX1_begin 54 = .ok (.aload_n 1, 1) := by decide +kernel
theorem dX1_begin_55 : decode cX1_begin 55 = .ok (.invokevirtual 69, 3) := by decide +kernel
theorem dX1_begin_58 : decode cX1_begin 58 = .ok (.return_, 1) := by decide +kernel
theorem dX1_fillOuts_0 : decode cX1_fillOuts 0 = .ok (.sipush 10240, 3) := by decide +kernel
theorem dX1_fillOuts_3 : decode cX1_fillOuts 3 = .ok (.istore_n 2, 1) := by decide +kernel
theorem dX1_fillOuts_4 : decode cX1_fillOuts 4 = .ok (.iconst 0, 1) := by decide +kernel
theorem dX1_fillOuts_5 : decode cX1_fillOuts 5 = .ok (.istore_n 3, 1) := by decide +kernel
theorem dX1_fillOuts_6 : decode cX1_fillOuts 6 = .ok (.iload_n 3, 1) := by decide +kernel
theorem dX1_fillOuts_7 : decode cX1_fillOuts 7 = .ok (.aload_n 0, 1) := by decide +kernel
theorem dX1_fillOuts_8 : decode cX1_fillOuts 8 = .ok (.getfield 42, 3) := by decide +kernel
theorem dX1_fillOuts_11 : decode cX1_fillOuts 11 = .ok (.if_icmp .ge 30, 3) := by decide +kernel
theorem dX1_fillOuts_14 : decode cX1_fillOuts 14 = .ok (.aload_n 0, 1) := by decide +kernel
theorem dX1_fillOuts_15 : decode cX1_fillOuts 15 = .ok (.getfield 30, 3) := by decide +kernel
theorem dX1_fillOuts_18 : decode cX1_fillOuts 18 = .ok (.iload_n 3, 1) := by decide +kernel
theorem dX1_fillOuts_19 : decode cX1_fillOuts 19 = .ok (.iload_n 3, 1) := by decide +kernel
theorem dX1_fillOuts_20 : decode cX1_fillOuts 20 = .ok (.iastore, 1) := by decide +kernel
theorem dX1_fillOuts_21 : decode cX1_fillOuts 21 = .ok (.aload_n 0, 1) := by decide +kernel
theorem dX1_fillOuts_22 : decode cX1_fillOuts 22 = .ok (.getfield 39, 3) := by decide +kernel
theorem dX1_fillOuts_25 : decode cX1_fillOuts 25 = .ok (.iload_n 2, 1) := by decide +kernel
theorem dX1_fillOuts_26 : decode cX1_fillOuts 26 = .ok (.iload_n 3, 1) := by decide +kernel
theorem dX1_fillOuts_27 : decode cX1_fillOuts 27 = .ok (.iadd, 1) := by decide +kernel
theorem dX1_fillOuts_28 : decode cX1_fillOuts 28 = .ok (.aload_n 1, 1) := by decide +kernel
theorem dX1_fillOuts_29 : decode cX1_fillOuts 29 = .ok (.iload_n 3, 1) := by decide +kernel
theorem dX1_fillOuts_30 : decode cX1_fillOuts 30 = .ok (.iconst 0, 1) := by decide +kernel
theorem dX1_fillOuts_31 : decode cX1_fillOuts 31 = .ok (.invokevirtual 73, 3) := by decide +kernel
theorem dX1_fillOuts_34 : decode cX1_fillOuts 34 = .ok (.iastore, 1) := by decide +kernel
theorem dX1_fillOuts_35 : decode cX1_fillOuts 35 = .ok (.iinc 3 1, 3) := by decide +kernel
theorem dX1_fillOuts_38 : decode cX1_fillOuts 38 = .ok (.goto (-32), 3) := by decide +kernel
theorem dX1_fillOuts_41 : decode cX1_fillOuts 41 = .ok (.iconst 0, 1) := by decide +kernel
theorem dX1_fillOuts_42 : decode cX1_fillOuts 42 = .ok (.istore_n 3, 1) := by decide +kernel
theorem dX1_fillOuts_43 : decode cX1_fillOuts 43 = .ok (.iload_n 3, 1) := by decide +kernel
theorem dX1_fillOuts_44 : decode cX1_fillOuts 44 = .ok (.aload_n 0, 1) := by decide +kernel
theorem dX1_fillOuts_45 : decode cX1_fillOuts 45 = .ok (.getfield 62, 3) := by decide +kernel
theorem dX1_fillOuts_48 : decode cX1_fillOuts 48 = .ok (.if_icmp .ge 109, 3) := by decide +kernel
theorem dX1_fillOuts_51 : decode cX1_fillOuts 51 = .ok (.iconst 0, 1) := by decide +kernel
theorem dX1_fillOuts_52 : decode cX1_fillOuts 52 = .ok (.istore 4, 2) := by decide +kernel
theorem dX1_fillOuts_54 : decode cX1_fillOuts 54 = .ok (.iload 4, 2) := by decide +kernel
theorem dX1_fillOuts_56 : decode cX1_fillOuts 56 = .ok (.aload_n 0, 1) := by decide +kernel
theorem dX1_fillOuts_57 : decode cX1_fillOuts 57 = .ok (.getfield 42, 3) := by decide +kernel
theorem dX1_fillOuts_60 : decode cX1_fillOuts 60 = .ok (.if_icmp .ge 23, 3) := by decide +kernel
theorem dX1_fillOuts_63 : decode cX1_fillOuts 63 = .ok (.aload_n 0, 1) := by decide +kernel
theorem dX1_fillOuts_64 : decode cX1_fillOuts 64 = .ok (.getfield 33, 3) := by decide +kernel
theorem dX1_fillOuts_67 : decode cX1_fillOuts 67 = .ok (.aload_n 0, 1) := by decide +kernel
theorem dX1_fillOuts_68 : decode cX1_fillOuts 68 = .ok (.getfield 30, 3) := by decide +kernel
theorem dX1_fillOuts_71 : decode cX1_fillOuts 71 = .ok (.iload 4, 2) := by decide +kernel
theorem dX1_fillOuts_73 : decode cX1_fillOuts 73 = .ok (.iaload, 1) := by decide +kernel
theorem dX1_fillOuts_74 : decode cX1_fillOuts 74 = .ok (.iload 4, 2) := by decide +kernel
theorem dX1_fillOuts_76 : decode cX1_fillOuts 76 = .ok (.iastore, 1) := by decide +kernel
theorem dX1_fillOuts_77 : decode cX1_fillOuts 77 = .ok (.iinc 4 1, 3) := by decide +kernel
theorem dX1_fillOuts_80 : decode cX1_fillOuts 80 = .ok (.goto (-26), 3) := by decide +kernel
theorem dX1_fillOuts_83 : decode cX1_fillOuts 83 = .ok (.iconst 0, 1) := by decide +kernel
theorem dX1_fillOuts_84 : decode cX1_fillOuts 84 = .ok (.istore 4, 2) := by decide +kernel
theorem dX1_fillOuts_86 : decode cX1_fillOuts 86 = .ok (.iload 4, 2) := by decide +kernel
theorem dX1_fillOuts_88 : decode cX1_fillOuts 88 = .ok (.aload_n 0, 1) := by decide +kernel
theorem dX1_fillOuts_89 : decode cX1_fillOuts 89 = .ok (.getfield 42, 3) := by decide +kernel
theorem dX1_fillOuts_92 : decode cX1_fillOuts 92 = .ok (.if_icmp .ge 59, 3) := by decide +kernel
theorem dX1_fillOuts_95 : decode cX1_fillOuts 95 = .ok (.aload_n 1, 1) := by decide +kernel
theorem dX1_fillOuts_96 : decode cX1_fillOuts 96 = .ok (.aload_n 0, 1) := by decide +kernel
theorem dX1_fillOuts_97 : decode cX1_fillOuts 97 = .ok (.getfield 30, 3) := by decide +kernel
theorem dX1_fillOuts_100 : decode cX1_fillOuts 100 = .ok (.iload 4, 2) := by decide +kernel
theorem dX1_fillOuts_102 : decode cX1_fillOuts 102 = .ok (.iaload, 1) := by decide +kernel
theorem dX1_fillOuts_103 : decode cX1_fillOuts 103 = .ok (.iload_n 3, 1) := by decide +kernel
theorem dX1_fillOuts_104 : decode cX1_fillOuts 104 = .ok (.invokevirtual 77, 3) := by decide +kernel
theorem dX1_fillOuts_107 : decode cX1_fillOuts 107 = .ok (.istore 5, 2) := by decide +kernel
theorem dX1_fillOuts_109 : decode cX1_fillOuts 109 = .ok (.aload_n 0, 1) := by decide +kernel
theorem dX1_fillOuts_110 : decode cX1_fillOuts 110 = .ok (.getfield 39, 3) := by decide +kernel
theorem dX1_fillOuts_113 : decode cX1_fillOuts 113 = .ok (.iload_n 3, 1) := by decide +kernel
theorem dX1_fillOuts_114 : decode cX1_fillOuts 114 = .ok (.sipush 256, 3) := by decide +kernel
theorem dX1_fillOuts_117 : decode cX1_fillOuts 117 = .ok (.imul, 1) := by decide +kernel
theorem dX1_fillOuts_118 : decode cX1_fillOuts 118 = .ok (.iload 4, 2) := by decide +kernel
theorem dX1_fillOuts_120 : decode cX1_fillOuts 120 = .ok (.iadd, 1) := by decide +kernel
theorem dX1_fillOuts_121 : decode cX1_fillOuts 121 = .ok (.aload_n 0, 1) := by decide +kernel
theorem dX1_fillOuts_122 : decode cX1_fillOuts 122 = .ok (.getfield 39, 3) := by decide +kernel
theorem dX1_fillOuts_125 : decode cX1_fillOuts 125 = .ok (.iload_n 2, 1) := by decide +kernel
theorem dX1_fillOuts_126 : decode cX1_fillOuts 126 = .ok (.aload_n 0, 1) := by decide +kernel
theorem dX1_fillOuts_127 : decode cX1_fillOuts 127 = .ok (.getfield 33, 3) := by decide +kernel
theorem dX1_fillOuts_130 : decode cX1_fillOuts 130 = .ok (.iload 5, 2) := by decide +kernel
theorem dX1_fillOuts_132 : decode cX1_fillOuts 132 = .ok (.iaload, 1) := by decide +kernel
theorem dX1_fillOuts_133 : decode cX1_fillOuts 133 = .ok (.iadd, 1) := by decide +kernel
theorem dX1_fillOuts_134 : decode cX1_fillOuts 134 = .ok (.iaload, 1) := by decide +kernel
theorem dX1_fillOuts_135 : decode cX1_fillOuts 135 = .ok (.iastore, 1) := by decide +kernel
theorem dX1_fillOuts_136 : decode cX1_fillOuts 136 = .ok (.aload_n 0, 1) := by decide +kernel
theorem dX1_fillOuts_137 : decode cX1_fillOuts 137 = .ok (.getfield 30, 3) := by decide +kernel
theorem dX1_fillOuts_140 : decode cX1_fillOuts 140 = .ok (.iload 4, 2) := by decide +kernel
theorem dX1_fillOuts_142 : decode cX1_fillOuts 142 = .ok (.iload 5, 2) := by decide +kernel
theorem dX1_fillOuts_144 : decode cX1_fillOuts 144 = .ok (.iastore, 1) := by decide +kernel
theorem dX1_fillOuts_145 : decode cX1_fillOuts 145 = .ok (.iinc 4 1, 3) := by decide +kernel
theorem dX1_fillOuts_148 : decode cX1_fillOuts 148 = .ok (.goto (-62), 3) := by decide +kernel
theorem dX1_fillOuts_151 : decode cX1_fillOuts 151 = .ok (.iinc 3 1, 3) := by decide +kernel
theorem dX1_fillOuts_154 : decode cX1_fillOuts 154 = .ok (.goto (-111), 3) := by decide +kernel
theorem dX1_fillOuts_157 : decode cX1_fillOuts 157 = .ok (.return_, 1) := by decide +kernel
theorem dX1_noTelling_0 : decode cX1_noTelling 0 = .ok (.iload_n 1, 1) := by decide +kernel
theorem dX1_noTelling_1 : decode cX1_noTelling 1 = .ok (.aload_n 0, 1) := by decide +kernel
theorem dX1_noTelling_2 : decode cX1_noTelling 2 = .ok (.getfield 66, 3) := by decide +kernel
theorem dX1_noTelling_5 : decode cX1_noTelling 5 = .ok (.if_icmp .lt 10, 3) := by decide +kernel
theorem dX1_noTelling_8 : decode cX1_noTelling 8 = .ok (.iload_n 1, 1) := by decide +kernel
theorem dX1_noTelling_9 : decode cX1_noTelling 9 = .ok (.sipush 999, 3) := by decide +kernel
theorem dX1_noTelling_12 : decode cX1_noTelling 12 = .ok (.if_icmp .le 7, 3) := by decide +kernel
theorem dX1_noTelling_15 : decode cX1_noTelling 15 = .ok (.iconst 1, 1) := by decide +kernel
theorem dX1_noTelling_16 : decode cX1_noTelling 16 = .ok (.goto 4, 3) := by decide +kernel
theorem dX1_noTelling_19 : decode cX1_noTelling 19 = .ok (.iconst 0, 1) := by decide +kernel
theorem dX1_noTelling_20 : decode cX1_noTelling 20 = .ok (.ireturn, 1) := by decide +kernel
theorem dX1_noRow_0 : decode cX1_noRow 0 = .ok (.iload_n 1, 1) := by decide +kernel
theorem dX1_noRow_1 : decode cX1_noRow 1 = .ok (.ifCond .lt 11, 3) := by decide +kernel
theorem dX1_noRow_4 : decode cX1_noRow 4 = .ok (.iload_n 1, 1) := by decide +kernel
theorem dX1_noRow_5 : decode cX1_noRow 5 = .ok (.aload_n 0, 1) := by decide +kernel
theorem dX1_noRow_6 : decode cX1_noRow 6 = .ok (.getfield 42, 3) := by decide +kernel
theorem dX1_noRow_9 : decode cX1_noRow 9 = .ok (.if_icmp .lt 7, 3) := by decide +kernel
theorem dX1_noRow_12 : decode cX1_noRow 12 = .ok (.iconst 1, 1) := by decide +kernel
theorem dX1_noRow_13 : decode cX1_noRow 13 = .ok (.goto 4, 3) := by decide +kernel
theorem dX1_noRow_16 : decode cX1_noRow 16 = .ok (.iconst 0, 1) := by decide +kernel
theorem dX1_noRow_17 : decode cX1_noRow 17 = .ok (.ireturn, 1) := by decide +kernel
theorem dX1_addSeen_0 : decode cX1_addSeen 0 = .ok (.aload_n 0, 1) := by decide +kernel
theorem dX1_addSeen_1 : decode cX1_addSeen 1 = .ok (.iload_n 1, 1) := by decide +kernel
theorem dX1_addSeen_2 : decode cX1_addSeen 2 = .ok (.invokevirtual 81, 3) := by decide +kernel
theorem dX1_addSeen_5 : decode cX1_addSeen 5 = .ok (.ifCond .ne 19, 3) := by decide +kernel
theorem dX1_addSeen_8 : decode cX1_addSeen 8 = .ok (.aload_n 0, 1) := by decide +kernel
theorem dX1_addSeen_9 : decode cX1_addSeen 9 = .ok (.iload_n 2, 1) := by decide +kernel
theorem dX1_addSeen_10 : decode cX1_addSeen 10 = .ok (.invokevirtual 85, 3) := by decide +kernel
theorem dX1_addSeen_13 : decode cX1_addSeen 13 = .ok (.ifCond .ne 11, 3) := by decide +kernel
theorem dX1_addSeen_16 : decode cX1_addSeen 16 = .ok (.aload_n 0, 1) := by decide +kernel
theorem dX1_addSeen_17 : decode cX1_addSeen 17 = .ok (.iload_n 3, 1) := by decide +kernel
theorem dX1_addSeen_18 : decode cX1_addSeen 18 = .ok (.invokevirtual 85, 3) := by decide +kernel
theorem dX1_addSeen_21 : decode cX1_addSeen 21 = .ok (.ifCond .eq 6, 3) := by decide +kernel
theorem dX1_addSeen_24 : decode cX1_addSeen 24 = .ok (.bipush (-2), 2) := by decide +kernel
theorem dX1_addSeen_26 : decode cX1_addSeen 26 = .ok (.ireturn, 1) := by decide +kernel
theorem dX1_addSeen_27 : decode cX1_addSeen 27 = .ok (.aload_n 0, 1) := by decide +kernel
theorem dX1_addSeen_28 : decode cX1_addSeen 28 = .ok (.getfield 46, 3) := by decide +kernel
theorem dX1_addSeen_31 : decode cX1_addSeen 31 = .ok (.ifCond .ne 6, 3) := by decide +kernel
theorem dX1_addSeen_34 : decode cX1_addSeen 34 = .ok (.bipush (-4), 2) := by decide +kernel
theorem dX1_addSeen_36 : decode cX1_addSeen 36 = .ok (.ireturn, 1) := by decide +kernel
theorem dX1_addSeen_37 : decode cX1_addSeen 37 = .ok (.aload_n 0, 1) := by decide +kernel
theorem dX1_addSeen_38 : decode cX1_addSeen 38 = .ok (.getfield 50, 3) := by decide +kernel
theorem dX1_addSeen_41 : decode cX1_addSeen 41 = .ok (.bipush 20, 2) := by decide +kernel
theorem dX1_addSeen_43 : decode cX1_addSeen 43 = .ok (.if_icmp .lt 6, 3) := by decide +kernel
theorem dX1_addSeen_46 : decode cX1_addSeen 46 = .ok (.bipush (-3), 2) := by decide +kernel
theorem dX1_addSeen_48 : decode cX1_addSeen 48 = .ok (.ireturn, 1) := by decide +kernel
theorem dX1_addSeen_49 : decode cX1_addSeen 49 = .ok (.aload_n 0, 1) := by decide +kernel
theorem dX1_addSeen_50 : decode cX1_addSeen 50 = .ok (.getfield 11, 3) := by decide +kernel
theorem dX1_addSeen_53 : decode cX1_addSeen 53 = .ok (.aload_n 0, 1) := by decide +kernel
theorem dX1_addSeen_54 : decode cX1_addSeen 54 = .ok (.getfield 50, 3) := by decide +kernel
theorem dX1_addSeen_57 : decode cX1_addSeen 57 = .ok (.iload_n 1, 1) := by decide +kernel
theorem dX1_addSeen_58 : decode cX1_addSeen 58 = .ok (.iastore, 1) := by decide +kernel
theorem dX1_addSeen_59 : decode cX1_addSeen 59 = .ok (.aload_n 0, 1) := by decide +kernel
theorem dX1_addSeen_60 : decode cX1_addSeen 60 = .ok (.getfield 15, 3) := by decide +kernel
theorem dX1_addSeen_63 : decode cX1_addSeen 63 = .ok (.aload_n 0, 1) := by decide +kernel
theorem dX1_addSeen_64 : decode cX1_addSeen 64 = .ok (.getfield 50, 3) := by decide +kernel
theorem dX1_addSeen_67 : decode cX1_addSeen 67 = .ok (.iload_n 2, 1) := by decide +kernel
theorem dX1_addSeen_68 : decode cX1_addSeen 68 = .ok (.iastore, 1) := by decide +kernel
theorem dX1_addSeen_69 : decode cX1_addSeen 69 = .ok (.aload_n 0, 1) := by decide +kernel
theorem dX1_addSeen_70 : decode cX1_addSeen 70 = .ok (.getfield 18, 3) := by decide +kernel
theorem dX1_addSeen_73 : decode cX1_addSeen 73 = .ok (.aload_n 0, 1) := by decide +kernel
theorem dX1_addSeen_74 : decode cX1_addSeen 74 = .ok (.getfield 50, 3) := by decide +kernel
theorem dX1_addSeen_77 : decode cX1_addSeen 77 = .ok (.iload_n 3, 1) := by decide +kernel
theorem dX1_addSeen_78 : decode cX1_addSeen 78 = .ok (.iastore, 1) := by decide +kernel
theorem dX1_addSeen_79 : decode cX1_addSeen 79 = .ok (.aload_n 0, 1) := by decide +kernel
theorem dX1_addSeen_80 : decode cX1_addSeen 80 = .ok (.iload_n 1, 1) := by decide +kernel
theorem dX1_addSeen_81 : decode cX1_addSeen 81 = .ok (.putfield 66, 3) := by decide +kernel
theorem dX1_addSeen_84 : decode cX1_addSeen 84 = .ok (.aload_n 0, 1) := by decide +kernel
theorem dX1_addSeen_85 : decode cX1_addSeen 85 = .ok (.dup, 1) := by decide +kernel
theorem dX1_addSeen_86 : decode cX1_addSeen 86 = .ok (.getfield 50, 3) := by decide +kernel
theorem dX1_addSeen_89 : decode cX1_addSeen 89 = .ok (.iconst 1, 1) := by decide +kernel
theorem dX1_addSeen_90 : decode cX1_addSeen 90 = .ok (.iadd, 1) := by decide +kernel
theorem dX1_addSeen_91 : decode cX1_addSeen 91 = .ok (.putfield 50, 3) := by decide +kernel
theorem dX1_addSeen_94 : decode cX1_addSeen 94 = .ok (.aload_n 0, 1) := by decide +kernel
theorem dX1_addSeen_95 : decode cX1_addSeen 95 = .ok (.getfield 50, 3) := by decide +kernel
theorem dX1_addSeen_98 : decode cX1_addSeen 98 = .ok (.iconst 1, 1) := by decide +kernel
theorem dX1_addSeen_99 : decode cX1_addSeen 99 = .ok (.isub, 1) := by decide +kernel
theorem dX1_addSeen_100 : decode cX1_addSeen 100 = .ok (.ireturn, 1) := by decide +kernel
theorem dX1_putRight_0 : decode cX1_putRight 0 = .ok (.aload_n 0, 1) := by decide +kernel
theorem dX1_putRight_1 : decode cX1_putRight 1 = .ok (.iload_n 1, 1) := by decide +kernel
theorem dX1_putRight_2 : decode cX1_putRight 2 = .ok (.invokevirtual 81, 3) := by decide +kernel
theorem dX1_putRight_5 : decode cX1_putRight 5 = .ok (.ifCond .ne 23, 3) := by decide +kernel
theorem dX1_putRight_8 : decode cX1_putRight 8 = .ok (.iload_n 2, 1) := by decide +kernel
theorem dX1_putRight_9 : decode cX1_putRight 9 = .ok (.ifCond .lt 19, 3) := by decide +kernel
theorem dX1_putRight_12 : decode cX1_putRight 12 = .ok (.iload_n 2, 1) := by decide +kernel
theorem dX1_putRight_13 : decode cX1_putRight 13 = .ok (.aload_n 0, 1) := by decide +kernel
theorem dX1_putRight_14 : decode cX1_putRight 14 = .ok (.getfield 50, 3) := by decide +kernel
theorem dX1_putRight_17 : decode cX1_putRight 17 = .ok (.if_icmp .ge 11, 3) := by decide +kernel
theorem dX1_putRight_20 : decode cX1_putRight 20 = .ok (.aload_n 0, 1) := by decide +kernel
theorem dX1_putRight_21 : decode cX1_putRight 21 = .ok (.iload_n 3, 1) := by decide +kernel
theorem dX1_putRight_22 : decode cX1_putRight 22 = .ok (.invokevirtual 85, 3) := by decide +kernel
theorem dX1_putRight_25 : decode cX1_putRight 25 = .ok (.ifCond .eq 6, 3) := by decide +kernel
theorem dX1_putRight_28 : decode cX1_putRight 28 = .ok (.bipush (-2), 2) := by decide +kernel
theorem dX1_putRight_30 : decode cX1_putRight 30 = .ok (.ireturn, 1) := by decide +kernel
theorem dX1_putRight_31 : decode cX1_putRight 31 = .ok (.aload_n 0, 1) := by decide +kernel
theorem dX1_putRight_32 : decode cX1_putRight 32 = .ok (.getfield 53, 3) := by decide +kernel
theorem dX1_putRight_35 : decode cX1_putRight 35 = .ok (.bipush 20, 2) := by decide +kernel
theorem dX1_putRight_37 : decode cX1_putRight 37 = .ok (.if_icmp .lt 6, 3) := by decide +kernel
theorem dX1_putRight_40 : decode cX1_putRight 40 = .ok (.bipush (-3), 2) := by decide +kernel
theorem dX1_putRight_42 : decode cX1_putRight 42 = .ok (.ireturn, 1) := by decide +kernel
theorem dX1_putRight_43 : decode cX1_putRight 43 = .ok (.aload_n 0, 1) := by decide +kernel
theorem dX1_putRight_44 : decode cX1_putRight 44 = .ok (.getfield 21, 3) := by decide +kernel
theorem dX1_putRight_47 : decode cX1_putRight 47 = .ok (.aload_n 0, 1) := by decide +kernel
theorem dX1_putRight_48 : decode cX1_putRight 48 = .ok (.getfield 53, 3) := by decide +kernel
theorem dX1_putRight_51 : decode cX1_putRight 51 = .ok (.iload_n 1, 1) := by decide +kernel
theorem dX1_putRight_52 : decode cX1_putRight 52 = .ok (.iastore, 1) := by decide +kernel
theorem dX1_putRight_53 : decode cX1_putRight 53 = .ok (.aload_n 0, 1) := by decide +kernel
theorem dX1_putRight_54 : decode cX1_putRight 54 = .ok (.getfield 24, 3) := by decide +kernel
theorem dX1_putRight_57 : decode cX1_putRight 57 = .ok (.aload_n 0, 1) := by decide +kernel
theorem dX1_putRight_58 : decode cX1_putRight 58 = .ok (.getfield 53, 3) := by decide +kernel
theorem dX1_putRight_61 : decode cX1_putRight 61 = .ok (.iload_n 2, 1) := by decide +kernel
theorem dX1_putRight_62 : decode cX1_putRight 62 = .ok (.iastore, 1) := by decide +kernel
theorem dX1_putRight_63 : decode cX1_putRight 63 = .ok (.aload_n 0, 1) := by decide +kernel
theorem dX1_putRight_64 : decode cX1_putRight 64 = .ok (.getfield 27, 3) := by decide +kernel
theorem dX1_putRight_67 : decode cX1_putRight 67 = .ok (.aload_n 0, 1) := by decide +kernel
theorem dX1_putRight_68 : decode cX1_putRight 68 = .ok (.getfield 53, 3) := by decide +kernel
theorem dX1_putRight_71 : decode cX1_putRight 71 = .ok (.iload_n 3, 1) := by decide +kernel
theorem dX1_putRight_72 : decode cX1_putRight 72 = .ok (.iastore, 1) := by decide +kernel
theorem dX1_putRight_73 : decode cX1_putRight 73 = .ok (.aload_n 0, 1) := by decide +kernel
theorem dX1_putRight_74 : decode cX1_putRight 74 = .ok (.iload_n 1, 1) := by decide +kernel
theorem dX1_putRight_75 : decode cX1_putRight 75 = .ok (.putfield 66, 3) := by decide +kernel
theorem dX1_putRight_78 : decode cX1_putRight 78 = .ok (.aload_n 0, 1) := by decide +kernel
theorem dX1_putRight_79 : decode cX1_putRight 79 = .ok (.dup, 1) := by decide +kernel
theorem dX1_putRight_80 : decode cX1_putRight 80 = .ok (.getfield 53, 3) := by decide +kernel
theorem dX1_putRight_83 : decode cX1_putRight 83 = .ok (.iconst 1, 1) := by decide +kernel
theorem dX1_putRight_84 : decode cX1_putRight 84 = .ok (.iadd, 1) := by decide +kernel
theorem dX1_putRight_85 : decode cX1_putRight 85 = .ok (.putfield 53, 3) := by decide +kernel
theorem dX1_putRight_88 : decode cX1_putRight 88 = .ok (.iconst 0, 1) := by decide +kernel
theorem dX1_putRight_89 : decode cX1_putRight 89 = .ok (.istore 4, 2) := by decide +kernel
theorem dX1_putRight_91 : decode cX1_putRight 91 = .ok (.iconst 0, 1) := by decide +kernel
theorem dX1_putRight_92 : decode cX1_putRight 92 = .ok (.istore 5, 2) := by decide +kernel
theorem dX1_putRight_94 : decode cX1_putRight 94 = .ok (.iload 5, 2) := by decide +kernel
theorem dX1_putRight_96 : decode cX1_putRight 96 = .ok (.aload_n 0, 1) := by decide +kernel
theorem dX1_putRight_97 : decode cX1_putRight 97 = .ok (.getfield 53, 3) := by decide +kernel
theorem dX1_putRight_100 : decode cX1_putRight 100 = .ok (.if_icmp .ge 23, 3) := by decide +kernel
theorem dX1_putRight_103 : decode cX1_putRight 103 = .ok (.aload_n 0, 1) := by decide +kernel
theorem dX1_putRight_104 : decode cX1_putRight 104 = .ok (.getfield 24, 3) := by decide +kernel
theorem dX1_putRight_107 : decode cX1_putRight 107 = .ok (.iload 5, 2) := by decide +kernel
theorem dX1_putRight_109 : decode cX1_putRight 109 = .ok (.iaload, 1) := by decide +kernel
theorem dX1_putRight_110 : decode cX1_putRight 110 = .ok (.iload_n 2, 1) := by decide +kernel
theorem dX1_putRight_111 : decode cX1_putRight 111 = .ok (.if_icmp .ne 6, 3) := by decide +kernel
theorem dX1_putRight_114 : decode cX1_putRight 114 = .ok (.iinc 4 1, 3) := by decide +kernel
theorem dX1_putRight_117 : decode cX1_putRight 117 = .ok (.iinc 5 1, 3) := by decide +kernel
theorem dX1_putRight_120 : decode cX1_putRight 120 = .ok (.goto (-26), 3) := by decide +kernel
theorem dX1_putRight_123 : decode cX1_putRight 123 = .ok (.iload 4, 2) := by decide +kernel
theorem dX1_putRight_125 : decode cX1_putRight 125 = .ok (.ireturn, 1) := by decide +kernel
theorem dX1_knownOut_0 : decode cX1_knownOut 0 = .ok (.aload_n 0, 1) := by decide +kernel
theorem dX1_knownOut_1 : decode cX1_knownOut 1 = .ok (.getfield 18, 3) := by decide +kernel
theorem dX1_knownOut_4 : decode cX1_knownOut 4 = .ok (.iload_n 1, 1) := by decide +kernel
theorem dX1_knownOut_5 : decode cX1_knownOut 5 = .ok (.iaload, 1) := by decide +kernel
theorem dX1_knownOut_6 : decode cX1_knownOut 6 = .ok (.istore_n 3, 1) := by decide +kernel
theorem dX1_knownOut_7 : decode cX1_knownOut 7 = .ok (.iconst 0, 1) := by decide +kernel
theorem dX1_knownOut_8 : decode cX1_knownOut 8 = .ok (.istore 4, 2) := by decide +kernel
theorem dX1_knownOut_10 : decode cX1_knownOut 10 = .ok (.iload 4, 2) := by decide +kernel
theorem dX1_knownOut_12 : decode cX1_knownOut 12 = .ok (.aload_n 0, 1) := by decide +kernel
theorem dX1_knownOut_13 : decode cX1_knownOut 13 = .ok (.getfield 53, 3) := by decide +kernel
theorem dX1_knownOut_16 : decode cX1_knownOut 16 = .ok (.if_icmp .ge 39, 3) := by decide +kernel
theorem dX1_knownOut_19 : decode cX1_knownOut 19 = .ok (.aload_n 0, 1) := by decide +kernel
theorem dX1_knownOut_20 : decode cX1_knownOut 20 = .ok (.getfield 24, 3) := by decide +kernel
theorem dX1_knownOut_23 : decode cX1_knownOut 23 = .ok (.iload 4, 2) := by decide +kernel
theorem dX1_knownOut_25 : decode cX1_knownOut 25 = .ok (.iaload, 1) := by decide +kernel
theorem dX1_knownOut_26 : decode cX1_knownOut 26 = .ok (.iload_n 1, 1) := by decide +kernel
theorem dX1_knownOut_27 : decode cX1_knownOut 27 = .ok (.if_icmp .ne 22, 3) := by decide +kernel
theorem dX1_knownOut_30 : decode cX1_knownOut 30 = .ok (.aload_n 0, 1) := by decide +kernel
theorem dX1_knownOut_31 : decode cX1_knownOut 31 = .ok (.getfield 21, 3) := by decide +kernel
theorem dX1_knownOut_34 : decode cX1_knownOut 34 = .ok (.iload 4, 2) := by decide +kernel
theorem dX1_knownOut_36 : decode cX1_knownOut 36 = .ok (.iaload, 1) := by decide +kernel
theorem dX1_knownOut_37 : decode cX1_knownOut 37 = .ok (.iload_n 2, 1) := by decide +kernel
theorem dX1_knownOut_38 : decode cX1_knownOut 38 = .ok (.if_icmp .gt 11, 3) := by decide +kernel
theorem dX1_knownOut_41 : decode cX1_knownOut 41 = .ok (.aload_n 0, 1) := by decide +kernel
theorem dX1_knownOut_42 : decode cX1_knownOut 42 = .ok (.getfield 27, 3) := by decide +kernel
theorem dX1_knownOut_45 : decode cX1_knownOut 45 = .ok (.iload 4, 2) := by decide +kernel
theorem dX1_knownOut_47 : decode cX1_knownOut 47 = .ok (.iaload, 1) := by decide +kernel
theorem dX1_knownOut_48 : decode cX1_knownOut 48 = .ok (.istore_n 3, 1) := by decide +kernel
theorem dX1_knownOut_49 : decode cX1_knownOut 49 = .ok (.iinc 4 1, 3) := by decide +kernel
theorem dX1_knownOut_52 : decode cX1_knownOut 52 = .ok (.goto (-42), 3) := by decide +kernel
theorem dX1_knownOut_55 : decode cX1_knownOut 55 = .ok (.iload_n 3, 1) := by decide +kernel
theorem dX1_knownOut_56 : decode cX1_knownOut 56 = .ok (.ireturn, 1) := by decide +kernel
theorem dX1_fitting_0 : decode cX1_fitting 0 = .ok (.ldc2_w 88, 3) := by decide +kernel
theorem dX1_fitting_3 : decode cX1_fitting 3 = .ok (.lstore_n 2, 1) := by decide +kernel
theorem dX1_fitting_4 : decode cX1_fitting 4 = .ok (.iconst 0, 1) := by decide +kernel
theorem dX1_fitting_5 : decode cX1_fitting 5 = .ok (.istore 4, 2) := by decide +kernel
theorem dX1_fitting_7 : decode cX1_fitting 7 = .ok (.iload 4, 2) := by decide +kernel
theorem dX1_fitting_9 : decode cX1_fitting 9 = .ok (.aload_n 0, 1) := by decide +kernel
theorem dX1_fitting_10 : decode cX1_fitting 10 = .ok (.getfield 62, 3) := by decide +kernel
theorem dX1_fitting_13 : decode cX1_fitting 13 = .ok (.if_icmp .ge 16, 3) := by decide +kernel
theorem dX1_fitting_16 : decode cX1_fitting 16 = .ok (.lload_n 2, 1) := by decide +kernel
theorem dX1_fitting_17 : decode cX1_fitting 17 = .ok (.lconst 1, 1) := by decide +kernel
theorem dX1_fitting_18 : decode cX1_fitting 18 = .ok (.iload 4, 2) := by decide +kernel
theorem dX1_fitting_20 : decode cX1_fitting 20 = .ok (.lshl, 1) := by decide +kernel
theorem dX1_fitting_21 : decode cX1_fitting 21 = .ok (.lor, 1) := by decide +kernel
theorem dX1_fitting_22 : decode cX1_fitting 22 = .ok (.lstore_n 2, 1) := by decide +kernel
theorem dX1_fitting_23 : decode cX1_fitting 23 = .ok (.iinc 4 1, 3) := by decide +kernel
theorem dX1_fitting_26 : decode cX1_fitting 26 = .ok (.goto (-19), 3) := by decide +kernel
theorem dX1_fitting_29 : decode cX1_fitting 29 = .ok (.iconst 0, 1) := by decide +kernel
theorem dX1_fitting_30 : decode cX1_fitting 30 = .ok (.istore 4, 2) := by decide +kernel
theorem dX1_fitting_32 : decode cX1_fitting 32 = .ok (.iload 4, 2) := by decide +kernel
theorem dX1_fitting_34 : decode cX1_fitting 34 = .ok (.aload_n 0, 1) := by decide +kernel
theorem dX1_fitting_35 : decode cX1_fitting 35 = .ok (.getfield 50, 3) := by decide +kernel
theorem dX1_fitting_38 : decode cX1_fitting 38 = .ok (.if_icmp .ge 40, 3) := by decide +kernel
theorem dX1_fitting_41 : decode cX1_fitting 41 = .ok (.aload_n 0, 1) := by decide +kernel
theorem dX1_fitting_42 : decode cX1_fitting 42 = .ok (.getfield 11, 3) := by decide +kernel
theorem dX1_fitting_45 : decode cX1_fitting 45 = .ok (.iload 4, 2) := by decide +kernel
theorem dX1_fitting_47 : decode cX1_fitting 47 = .ok (.iaload, 1) := by decide +kernel
theorem dX1_fitting_48 : decode cX1_fitting 48 = .ok (.iload_n 1, 1) := by decide +kernel
theorem dX1_fitting_49 : decode cX1_fitting 49 = .ok (.if_icmp .gt 23, 3) := by decide +kernel
theorem dX1_fitting_52 : decode cX1_fitting 52 = .ok (.aload_n 0, 1) := by decide +kernel
theorem dX1_fitting_53 : decode cX1_fitting 53 = .ok (.lload_n 2, 1) := by decide +kernel
theorem dX1_fitting_54 : decode cX1_fitting 54 = .ok (.aload_n 0, 1) := by decide +kernel
theorem dX1_fitting_55 : decode cX1_fitting 55 = .ok (.getfield 15, 3) := by decide +kernel
theorem dX1_fitting_58 : decode cX1_fitting 58 = .ok (.iload 4, 2) := by decide +kernel
theorem dX1_fitting_60 : decode cX1_fitting 60 = .ok (.iaload, 1) := by decide +kernel
theorem dX1_fitting_61 : decode cX1_fitting 61 = .ok (.aload_n 0, 1) := by decide +kernel
theorem dX1_fitting_62 : decode cX1_fitting 62 = .ok (.iload 4, 2) := by decide +kernel
theorem dX1_fitting_64 : decode cX1_fitting 64 = .ok (.iload_n 1, 1) := by decide +kernel
theorem dX1_fitting_65 : decode cX1_fitting 65 = .ok (.invokevirtual 90, 3) := by decide +kernel
theorem dX1_fitting_68 : decode cX1_fitting 68 = .ok (.invokevirtual 93, 3) := by decide +kernel
theorem dX1_fitting_71 : decode cX1_fitting 71 = .ok (.lstore_n 2, 1) := by decide +kernel
theorem dX1_fitting_72 : decode cX1_fitting 72 = .ok (.iinc 4 1, 3) := by decide +kernel
theorem dX1_fitting_75 : decode cX1_fitting 75 = .ok (.goto (-43), 3) := by decide +kernel
theorem dX1_fitting_78 : decode cX1_fitting 78 = .ok (.lload_n 2, 1) := by decide +kernel
theorem dX1_fitting_79 : decode cX1_fitting 79 = .ok (.lreturn, 1) := by decide +kernel
theorem dX1_leaveFitting_0 : decode cX1_leaveFitting 0 = .ok (.lload_n 1, 1) := by decide +kernel
theorem dX1_leaveFitting_1 : decode cX1_leaveFitting 1 = .ok (.lstore 5, 2) := by decide +kernel
theorem dX1_leaveFitting_3 : decode cX1_leaveFitting 3 = .ok (.iconst 0, 1) := by decide +kernel
theorem dX1_leaveFitting_4 : decode cX1_leaveFitting 4 = .ok (.istore 7, 2) := by decide +kernel
theorem dX1_leaveFitting_6 : decode cX1_leaveFitting 6 = .ok (.iload 7, 2) := by decide +kernel
theorem dX1_leaveFitting_8 : decode cX1_leaveFitting 8 = .ok (.bipush 41, 2) := by decide +kernel
theorem dX1_leaveFitting_10 : decode cX1_leaveFitting 10 = .ok (.if_icmp .ge 52, 3) := by decide +kernel
theorem dX1_leaveFitting_13 : decode cX1_leaveFitting 13 = .ok (.lload 5, 2) := by decide +kernel
theorem dX1_leaveFitting_15 : decode cX1_leaveFitting 15 = .ok (.iload 7, 2) := by decide +kernel
theorem dX1_leaveFitting_17 : decode cX1_leaveFitting 17 = .ok (.lshr, 1) := by decide +kernel
theorem dX1_leaveFitting_18 : decode cX1_leaveFitting 18 = .ok (.lconst 1, 1) := by decide +kernel
theorem dX1_leaveFitting_19 : decode cX1_leaveFitting 19 = .ok (.land, 1) := by decide +kernel
theorem dX1_leaveFitting_20 : decode cX1_leaveFitting 20 = .ok (.lconst 0, 1) := by decide +kernel
theorem dX1_leaveFitting_21 : decode cX1_leaveFitting 21 = .ok (.lcmp, 1) := by decide +kernel
theorem dX1_leaveFitting_22 : decode cX1_leaveFitting 22 = .ok (.ifCond .eq 34, 3) := by decide +kernel
theorem dX1_leaveFitting_25 : decode cX1_leaveFitting 25 = .ok (.aload_n 0, 1) := by decide +kernel
theorem dX1_leaveFitting_26 : decode cX1_leaveFitting 26 = .ok (.getfield 39, 3) := by decide +kernel
theorem dX1_leaveFitting_29 : decode cX1_leaveFitting 29 = .ok (.iload 7, 2) := by decide +kernel
theorem dX1_leaveFitting_31 : decode cX1_leaveFitting 31 = .ok (.sipush 256, 3) := by decide +kernel
theorem dX1_leaveFitting_34 : decode cX1_leaveFitting 34 = .ok (.imul, 1) := by decide +kernel
theorem dX1_leaveFitting_35 : decode cX1_leaveFitting 35 = .ok (.iload_n 3, 1) := by decide +kernel
theorem dX1_leaveFitting_36 : decode cX1_leaveFitting 36 = .ok (.iadd, 1) := by decide +kernel
theorem dX1_leaveFitting_37 : decode cX1_leaveFitting 37 = .ok (.iaload, 1) := by decide +kernel
theorem dX1_leaveFitting_38 : decode cX1_leaveFitting 38 = .ok (.iload 4, 2) := by decide +kernel
theorem dX1_leaveFitting_40 : decode cX1_leaveFitting 40 = .ok (.if_icmp .eq 16, 3) := by decide +kernel
theorem dX1_leaveFitting_43 : decode cX1_leaveFitting 43 = .ok (.lload 5, 2) := by decide +kernel
theorem dX1_leaveFitting_45 : decode cX1_leaveFitting 45 = .ok (.lconst 1, 1) := by decide +kernel
theorem dX1_leaveFitting_46 : decode cX1_leaveFitting 46 = .ok (.iload 7, 2) := by decide +kernel
theorem dX1_leaveFitting_48 : decode cX1_leaveFitting 48 = .ok (.lshl, 1) := by decide +kernel
theorem dX1_leaveFitting_49 : decode cX1_leaveFitting 49 = .ok (.ldc2_w 97, 3) := by decide +kernel
theorem dX1_leaveFitting_52 : decode cX1_leaveFitting 52 = .ok (.lxor, 1) := by decide +kernel
theorem dX1_leaveFitting_53 : decode cX1_leaveFitting 53 = .ok (.land, 1) := by decide +kernel
theorem dX1_leaveFitting_54 : decode cX1_leaveFitting 54 = .ok (.lstore 5, 2) := by decide +kernel
theorem dX1_leaveFitting_56 : decode cX1_leaveFitting 56 = .ok (.iinc 7 1, 3) := by decide +kernel
theorem dX1_leaveFitting_59 : decode cX1_leaveFitting 59 = .ok (.goto (-53), 3) := by decide +kernel
theorem dX1_leaveFitting_62 : decode cX1_leaveFitting 62 = .ok (.lload 5, 2) := by decide +kernel
theorem dX1_leaveFitting_64 : decode cX1_leaveFitting 64 = .ok (.lreturn, 1) := by decide +kernel
theorem dX1_bestRow_0 : decode cX1_bestRow 0 = .ok (.aload_n 0, 1) := by decide +kernel
theorem dX1_bestRow_1 : decode cX1_bestRow 1 = .ok (.sipush 999, 3) := by decide +kernel
theorem dX1_bestRow_4 : decode cX1_bestRow 4 = .ok (.invokevirtual 99, 3) := by decide +kernel
theorem dX1_bestRow_7 : decode cX1_bestRow 7 = .ok (.lstore_n 1, 1) := by decide +kernel
theorem dX1_bestRow_8 : decode cX1_bestRow 8 = .ok (.iconst (-1), 1) := by decide +kernel
theorem dX1_bestRow_9 : decode cX1_bestRow 9 = .ok (.istore_n 3, 1) := by decide +kernel
theorem dX1_bestRow_10 : decode cX1_bestRow 10 = .ok (.lload_n 1, 1) := by decide +kernel
theorem dX1_bestRow_11 : decode cX1_bestRow 11 = .ok (.invokestatic 103, 3) := by decide +kernel
theorem dX1_bestRow_14 : decode cX1_bestRow 14 = .ok (.istore 4, 2) := by decide +kernel
theorem dX1_bestRow_16 : decode cX1_bestRow 16 = .ok (.iconst 0, 1) := by decide +kernel
theorem dX1_bestRow_17 : decode cX1_bestRow 17 = .ok (.istore 5, 2) := by decide +kernel
theorem dX1_bestRow_19 : decode cX1_bestRow 19 = .ok (.iload 5, 2) := by decide +kernel
theorem dX1_bestRow_21 : decode cX1_bestRow 21 = .ok (.aload_n 0, 1) := by decide +kernel
theorem dX1_bestRow_22 : decode cX1_bestRow 22 = .ok (.getfield 42, 3) := by decide +kernel
theorem dX1_bestRow_25 : decode cX1_bestRow 25 = .ok (.if_icmp .ge 32, 3) := by decide +kernel
theorem dX1_bestRow_28 : decode cX1_bestRow 28 = .ok (.aload_n 0, 1) := by decide +kernel
theorem dX1_bestRow_29 : decode cX1_bestRow 29 = .ok (.lload_n 1, 1) := by decide +kernel
theorem dX1_bestRow_30 : decode cX1_bestRow 30 = .ok (.iload 5, 2) := by decide +kernel
theorem dX1_bestRow_32 : decode cX1_bestRow 32 = .ok (.invokevirtual 109, 3) := by decide +kernel
theorem dX1_bestRow_35 : decode cX1_bestRow 35 = .ok (.istore 6, 2) := by decide +kernel
theorem dX1_bestRow_37 : decode cX1_bestRow 37 = .ok (.iload 6, 2) := by decide +kernel
theorem dX1_bestRow_39 : decode cX1_bestRow 39 = .ok (.iload 4, 2) := by decide +kernel
theorem dX1_bestRow_41 : decode cX1_bestRow 41 = .ok (.if_icmp .ge 10, 3) := by decide +kernel
theorem dX1_bestRow_44 : decode cX1_bestRow 44 = .ok (.iload 6, 2) := by decide +kernel
theorem dX1_bestRow_46 : decode cX1_bestRow 46 = .ok (.istore 4, 2) := by decide +kernel
theorem dX1_bestRow_48 : decode cX1_bestRow 48 = .ok (.iload 5, 2) := by decide +kernel
theorem dX1_bestRow_50 : decode cX1_bestRow 50 = .ok (.istore_n 3, 1) := by decide +kernel
theorem dX1_bestRow_51 : decode cX1_bestRow 51 = .ok (.iinc 5 1, 3) := by decide +kernel
theorem dX1_bestRow_54 : decode cX1_bestRow 54 = .ok (.goto (-35), 3) := by decide +kernel
theorem dX1_bestRow_57 : decode cX1_bestRow 57 = .ok (.iload_n 3, 1) := by decide +kernel
theorem dX1_bestRow_58 : decode cX1_bestRow 58 = .ok (.ireturn, 1) := by decide +kernel
theorem dX1_greatestHeap_0 : decode cX1_greatestHeap 0 = .ok (.iconst 0, 1) := by decide +kernel
theorem dX1_greatestHeap_1 : decode cX1_greatestHeap 1 = .ok (.istore 4, 2) := by decide +kernel
theorem dX1_greatestHeap_3 : decode cX1_greatestHeap 3 = .ok (.iconst 0, 1) := by decide +kernel
theorem dX1_greatestHeap_4 : decode cX1_greatestHeap 4 = .ok (.istore 5, 2) := by decide +kernel
theorem dX1_greatestHeap_6 : decode cX1_greatestHeap 6 = .ok (.iload 5, 2) := by decide +kernel
theorem dX1_greatestHeap_8 : decode cX1_greatestHeap 8 = .ok (.bipush 41, 2) := by decide +kernel
theorem dX1_greatestHeap_10 : decode cX1_greatestHeap 10 = .ok (.if_icmp .ge 60, 3) := by decide +kernel
theorem dX1_greatestHeap_13 : decode cX1_greatestHeap 13 = .ok (.lload_n 1, 1) := by decide +kernel
theorem dX1_greatestHeap_14 : decode cX1_greatestHeap 14 = .ok (.iload 5, 2) := by decide +kernel
theorem dX1_greatestHeap_16 : decode cX1_greatestHeap 16 = .ok (.lshr, 1) := by decide +kernel
theorem dX1_greatestHeap_17 : decode cX1_greatestHeap 17 = .ok (.lconst 1, 1) := by decide +kernel
theorem dX1_greatestHeap_18 : decode cX1_greatestHeap 18 = .ok (.land, 1) := by decide +kernel
theorem dX1_greatestHeap_19 : decode cX1_greatestHeap 19 = .ok (.lconst 0, 1) := by decide +kernel
theorem dX1_greatestHeap_20 : decode cX1_greatestHeap 20 = .ok (.lcmp, 1) := by decide +kernel
theorem dX1_greatestHeap_21 : decode cX1_greatestHeap 21 = .ok (.ifCond .eq 43, 3) := by decide +kernel
theorem dX1_greatestHeap_24 : decode cX1_greatestHeap 24 = .ok (.aload_n 0, 1) := by decide +kernel
theorem dX1_greatestHeap_25 : decode cX1_greatestHeap 25 = .ok (.getfield 39, 3) := by decide +kernel
theorem dX1_greatestHeap_28 : decode cX1_greatestHeap 28 = .ok (.iload 5, 2) := by decide +kernel
theorem dX1_greatestHeap_30 : decode cX1_greatestHeap 30 = .ok (.sipush 256, 3) := by decide +kernel
theorem dX1_greatestHeap_33 : decode cX1_greatestHeap 33 = .ok (.imul, 1) := by decide +kernel
theorem dX1_greatestHeap_34 : decode cX1_greatestHeap 34 = .ok (.iload_n 3, 1) := by decide +kernel
theorem dX1_greatestHeap_35 : decode cX1_greatestHeap 35 = .ok (.iadd, 1) := by decide +kernel
theorem dX1_greatestHeap_36 : decode cX1_greatestHeap 36 = .ok (.iaload, 1) := by decide +kernel
theorem dX1_greatestHeap_37 : decode cX1_greatestHeap 37 = .ok (.istore 6, 2) := by decide +kernel
theorem dX1_greatestHeap_39 : decode cX1_greatestHeap 39 = .ok (.aload_n 0, 1) := by decide +kernel
theorem dX1_greatestHeap_40 : decode cX1_greatestHeap 40 = .ok (.getfield 36, 3) := by decide +kernel
theorem dX1_greatestHeap_43 : decode cX1_greatestHeap 43 = .ok (.iload 6, 2) := by decide +kernel
theorem dX1_greatestHeap_45 : decode cX1_greatestHeap 45 = .ok (.dup2, 1) := by decide +kernel
theorem dX1_greatestHeap_46 : decode cX1_greatestHeap 46 = .ok (.iaload, 1) := by decide +kernel
theorem dX1_greatestHeap_47 : decode cX1_greatestHeap 47 = .ok (.iconst 1, 1) := by decide +kernel
theorem dX1_greatestHeap_48 : decode cX1_greatestHeap 48 = .ok (.iadd, 1) := by decide +kernel
theorem dX1_greatestHeap_49 : decode cX1_greatestHeap 49 = .ok (.iastore, 1) := by decide +kernel
theorem dX1_greatestHeap_50 : decode cX1_greatestHeap 50 = .ok (.iload 4, 2) := by decide +kernel
theorem dX1_greatestHeap_52 : decode cX1_greatestHeap 52 = .ok (.aload_n 0, 1) := by decide +kernel
theorem dX1_greatestHeap_53 : decode cX1_greatestHeap 53 = .ok (.getfield 36, 3) := by decide +kernel
theorem dX1_greatestHeap_56 : decode cX1_greatestHeap 56 = .ok (.iload 6, 2) := by decide +kernel
theorem dX1_greatestHeap_58 : decode cX1_greatestHeap 58 = .ok (.iaload, 1) := by decide +kernel
theorem dX1_greatestHeap_59 : decode cX1_greatestHeap 59 = .ok (.invokestatic 113, 3) := by decide +kernel
theorem dX1_greatestHeap_62 : decode cX1_greatestHeap 62 = .ok (.istore 4, 2) := by decide +kernel
theorem dX1_greatestHeap_64 : decode cX1_greatestHeap 64 = .ok (.iinc 5 1, 3) := by decide +kernel
theorem dX1_greatestHeap_67 : decode cX1_greatestHeap 67 = .ok (.goto (-61), 3) := by decide +kernel
theorem dX1_greatestHeap_70 : decode cX1_greatestHeap 70 = .ok (.iconst 0, 1) := by decide +kernel
theorem dX1_greatestHeap_71 : decode cX1_greatestHeap 71 = .ok (.istore 5, 2) := by decide +kernel
theorem dX1_greatestHeap_73 : decode cX1_greatestHeap 73 = .ok (.iload 5, 2) := by decide +kernel
theorem dX1_greatestHeap_75 : decode cX1_greatestHeap 75 = .ok (.bipush 41, 2) := by decide +kernel
theorem dX1_greatestHeap_77 : decode cX1_greatestHeap 77 = .ok (.if_icmp .ge 28, 3) := by decide +kernel
theorem dX1_greatestHeap_80 : decode cX1_greatestHeap 80 = .ok (.aload_n 0, 1) := by decide +kernel
theorem dX1_greatestHeap_81 : decode cX1_greatestHeap 81 = .ok (.getfield 36, 3) := by decide +kernel
theorem dX1_greatestHeap_84 : decode cX1_greatestHeap 84 = .ok (.aload_n 0, 1) := by decide +kernel
theorem dX1_greatestHeap_85 : decode cX1_greatestHeap 85 = .ok (.getfield 39, 3) := by decide +kernel
theorem dX1_greatestHeap_88 : decode cX1_greatestHeap 88 = .ok (.iload 5, 2) := by decide +kernel
theorem dX1_greatestHeap_90 : decode cX1_greatestHeap 90 = .ok (.sipush 256, 3) := by decide +kernel
theorem dX1_greatestHeap_93 : decode cX1_greatestHeap 93 = .ok (.imul, 1) := by decide +kernel
theorem dX1_greatestHeap_94 : decode cX1_greatestHeap 94 = .ok (.iload_n 3, 1) := by decide +kernel
theorem dX1_greatestHeap_95 : decode cX1_greatestHeap 95 = .ok (.iadd, 1) := by decide +kernel
theorem dX1_greatestHeap_96 : decode cX1_greatestHeap 96 = .ok (.iaload, 1) := by decide +kernel
theorem dX1_greatestHeap_97 : decode cX1_greatestHeap 97 = .ok (.iconst 0, 1) := by decide +kernel
theorem dX1_greatestHeap_98 : decode cX1_greatestHeap 98 = .ok (.iastore, 1) := by decide +kernel
theorem dX1_greatestHeap_99 : decode cX1_greatestHeap 99 = .ok (.iinc 5 1, 3) := by decide +kernel
theorem dX1_greatestHeap_102 : decode cX1_greatestHeap 102 = .ok (.goto (-29), 3) := by decide +kernel
theorem dX1_greatestHeap_105 : decode cX1_greatestHeap 105 = .ok (.iload 4, 2) := by decide +kernel
theorem dX1_greatestHeap_107 : decode cX1_greatestHeap 107 = .ok (.ireturn, 1) := by decide +kernel
theorem dX2_init_0 : decode cX2_init 0 = .ok (.aload_n 0, 1) := by decide +kernel
theorem dX2_init_1 : decode cX2_init 1 = .ok (.invokespecial 3, 3) := by decide +kernel
theorem dX2_init_4 : decode cX2_init 4 = .ok (.aload_n 0, 1) := by decide +kernel
theorem dX2_init_5 : decode cX2_init 5 = .ok (.bipush 40, 2) := by decide +kernel
theorem dX2_init_7 : decode cX2_init 7 = .ok (.newarray .int, 2) := by decide +kernel
theorem dX2_init_9 : decode cX2_init 9 = .ok (.putfield 9, 3) := by decide +kernel
theorem dX2_init_12 : decode cX2_init 12 = .ok (.aload_n 0, 1) := by decide +kernel
theorem dX2_init_13 : decode cX2_init 13 = .ok (.bipush 40, 2) := by decide +kernel
theorem dX2_init_15 : decode cX2_init 15 = .ok (.newarray .int, 2) := by decide +kernel
theorem dX2_init_17 : decode cX2_init 17 = .ok (.putfield 15, 3) := by decide +kernel
theorem dX2_init_20 : decode cX2_init 20 = .ok (.aload_n 0, 1) := by decide +kernel
theorem dX2_init_21 : decode cX2_init 21 = .ok (.bipush 40, 2) := by decide +kernel
theorem dX2_init_23 : decode cX2_init 23 = .ok (.newarray .int, 2) := by decide +kernel
theorem dX2_init_25 : decode cX2_init 25 = .ok (.putfield 18, 3) := by decide +kernel
theorem dX2_init_28 : decode cX2_init 28 = .ok (.aload_n 0, 1) := by decide +kernel
theorem dX2_init_29 : decode cX2_init 29 = .ok (.bipush 40, 2) := by decide +kernel
theorem dX2_init_31 : decode cX2_init 31 = .ok (.newarray .int, 2) := by decide +kernel
theorem dX2_init_33 : decode cX2_init 33 = .ok (.putfield 21, 3) := by decide +kernel
theorem dX2_init_36 : decode cX2_init 36 = .ok (.aload_n 0, 1) := by decide +kernel
theorem dX2_init_37 : decode cX2_init 37 = .ok (.iconst 1, 1) := by decide +kernel
theorem dX2_init_38 : decode cX2_init 38 = .ok (.putfield 24, 3) := by decide +kernel
theorem dX2_init_41 : decode cX2_init 41 = .ok (.return_, 1) := by decide +kernel
theorem dX2_clear_0 : decode cX2_clear 0 = .ok (.aload_n 0, 1) := by decide +kernel
theorem dX2_clear_1 : decode cX2_clear 1 = .ok (.iload_n 1, 1) := by decide +kernel
theorem dX2_clear_2 : decode cX2_clear 2 = .ok (.putfield 24, 3) := by decide +kernel
theorem dX2_clear_5 : decode cX2_clear 5 = .ok (.aload_n 0, 1) := by decide +kernel
theorem dX2_clear_6 : decode cX2_clear 6 = .ok (.iconst 0, 1) := by decide +kernel
theorem dX2_clear_7 : decode cX2_clear 7 = .ok (.putfield 28, 3) := by decide +kernel
theorem dX2_clear_10 : decode cX2_clear 10 = .ok (.return_, 1) := by decide +kernel
theorem dX2_addTurn_0 : decode cX2_addTurn 0 = .ok (.aload_n 0, 1) := by decide +kernel
theorem dX2_addTurn_1 : decode cX2_addTurn 1 = .ok (.iconst 0, 1) := by decide +kernel
theorem dX2_addTurn_2 : decode cX2_addTurn 2 = .ok (.iload_n 1, 1) := by decide +kernel
theorem dX2_addTurn_3 : decode cX2_addTurn 3 = .ok (.iconst (-1), 1) := by decide +kernel
theorem dX2_addTurn_4 : decode cX2_addTurn 4 = .ok (.iload_n 2, 1) := by decide +kernel
theorem dX2_addTurn_5 : decode cX2_addTurn 5 = .ok (.invokevirtual 31, 3) := by decide +kernel
theorem dX2_addTurn_8 : decode cX2_addTurn 8 = .ok (.return_, 1) := by decide +kernel
theorem dX2_addSwap_0 : decode cX2_addSwap 0 = .ok (.aload_n 0, 1) := by decide +kernel
theorem dX2_addSwap_1 : decode cX2_addSwap 1 = .ok (.iconst 1, 1) := by decide +kernel
theorem dX2_addSwap_2 : decode cX2_addSwap 2 = .ok (.iload_n 1, 1) := by decide +kernel
theorem dX2_addSwap_3 : decode cX2_addSwap 3 = .ok (.iload_n 2, 1) := by decide +kernel
theorem dX2_addSwap_4 : decode cX2_addSwap 4 = .ok (.iload_n 3, 1) := by decide +kernel
theorem dX2_addSwap_5 : decode cX2_addSwap 5 = .ok (.invokevirtual 31, 3) := by decide +kernel
theorem dX2_addSwap_8 : decode cX2_addSwap 8 = .ok (.return_, 1) := by decide +kernel
theorem dX2_addKind_0 : decode cX2_addKind 0 = .ok (.aload_n 0, 1) := by decide +kernel
theorem dX2_addKind_1 : decode cX2_addKind 1 = .ok (.getfield 28, 3) := by decide +kernel
theorem dX2_addKind_4 : decode cX2_addKind 4 = .ok (.bipush 40, 2) := by decide +kernel
theorem dX2_addKind_6 : decode cX2_addKind 6 = .ok (.if_icmp .ge 54, 3) := by decide +kernel
theorem dX2_addKind_9 : decode cX2_addKind 9 = .ok (.aload_n 0, 1) := by decide +kernel
theorem dX2_addKind_10 : decode cX2_addKind 10 = .ok (.getfield 9, 3) := by decide +kernel
theorem dX2_addKind_13 : decode cX2_addKind 13 = .ok (.aload_n 0, 1) := by decide +kernel
theorem dX2_addKind_14 : decode cX2_addKind 14 = .ok (.getfield 28, 3) := by decide +kernel
theorem dX2_addKind_17 : decode cX2_addKind 17 = .ok (.iload_n 1, 1) := by decide +kernel
theorem dX2_addKind_18 : decode cX2_addKind 18 = .ok (.iastore, 1) := by decide +kernel
theorem dX2_addKind_19 : decode cX2_addKind 19 = .ok (.aload_n 0, 1) := by decide +kernel
theorem dX2_addKind_20 : decode cX2_addKind 20 = .ok (.getfield 15, 3) := by decide +kernel
theorem dX2_addKind_23 : decode cX2_addKind 23 = .ok (.aload_n 0, 1) := by decide +kernel
theorem dX2_addKind_24 : decode cX2_addKind 24 = .ok (.getfield 28, 3) := by decide +kernel
theorem dX2_addKind_27 : decode cX2_addKind 27 = .ok (.iload_n 2, 1) := by decide +kernel
theorem dX2_addKind_28 : decode cX2_addKind 28 = .ok (.iastore, 1) := by decide +kernel
theorem dX2_addKind_29 : decode cX2_addKind 29 = .ok (.aload_n 0, 1) := by decide +kernel
theorem dX2_addKind_30 : decode cX2_addKind 30 = .ok (.getfield 18, 3) := by decide +kernel
theorem dX2_addKind_33 : decode cX2_addKind 33 = .ok (.aload_n 0, 1) := by decide +kernel
theorem dX2_addKind_34 : decode cX2_addKind 34 = .ok (.getfield 28, 3) := by decide +kernel
theorem dX2_addKind_37 : decode cX2_addKind 37 = .ok (.iload_n 3, 1) := by decide +kernel
theorem dX2_addKind_38 : decode cX2_addKind 38 = .ok (.iastore, 1) := by decide +kernel
theorem dX2_addKind_39 : decode cX2_addKind 39 = .ok (.aload_n 0, 1) := by decide +kernel
theorem dX2_addKind_40 : decode cX2_addKind 40 = .ok (.getfield 21, 3) := by decide +kernel
theorem dX2_addKind_43 : decode cX2_addKind 43 = .ok (.aload_n 0, 1) := by decide +kernel
theorem dX2_addKind_44 : decode cX2_addKind 44 = .ok (.getfield 28, 3) := by decide +kernel
theorem dX2_addKind_47 : decode cX2_addKind 47 = .ok (.iload 4, 2) := by decide +kernel
theorem dX2_addKind_49 : decode cX2_addKind 49 = .ok (.iastore, 1) := by decide +kernel
theorem dX2_addKind_50 : decode cX2_addKind 50 = .ok (.aload_n 0, 1) := by decide +kernel
theorem dX2_addKind_51 : decode cX2_addKind 51 = .ok (.dup, 1) := by decide +kernel
theorem dX2_addKind_52 : decode cX2_addKind 52 = .ok (.getfield 28, 3) := by decide +kernel
theorem dX2_addKind_55 : decode cX2_addKind 55 = .ok (.iconst 1, 1) := by decide +kernel
theorem dX2_addKind_56 : decode cX2_addKind 56 = .ok (.iadd, 1) := by decide +kernel
theorem dX2_addKind_57 : decode cX2_addKind 57 = .ok (.putfield 28, 3) := by decide +kernel
theorem dX2_addKind_60 : decode cX2_addKind 60 = .ok (.return_, 1) := by decide +kernel
theorem dX2_copyFrom_0 : decode cX2_copyFrom 0 = .ok (.aload_n 0, 1) := by decide +kernel
theorem dX2_copyFrom_1 : decode cX2_copyFrom 1 = .ok (.aload_n 1, 1) := by decide +kernel
theorem dX2_copyFrom_2 : decode cX2_copyFrom 2 = .ok (.getfield 24, 3) := by decide +kernel
theorem dX2_copyFrom_5 : decode cX2_copyFrom 5 = .ok (.invokevirtual 35, 3) := by decide +kernel
theorem dX2_copyFrom_8 : decode cX2_copyFrom 8 = .ok (.aload_n 0, 1) := by decide +kernel
theorem dX2_copyFrom_9 : decode cX2_copyFrom 9 = .ok (.aload_n 1, 1) := by decide +kernel
theorem dX2_copyFrom_10 : decode cX2_copyFrom 10 = .ok (.invokevirtual 39, 3) := by decide +kernel
theorem dX2_copyFrom_13 : decode cX2_copyFrom 13 = .ok (.return_, 1) := by decide +kernel
theorem dX2_addAll_0 : decode cX2_addAll 0 = .ok (.iconst 0, 1) := by decide +kernel
theorem dX2_addAll_1 : decode cX2_addAll 1 = .ok (.istore_n 2, 1) := by decide +kernel
theorem dX2_addAll_2 : decode cX2_addAll 2 = .ok (.iload_n 2, 1) := by decide +kernel
theorem dX2_addAll_3 : decode cX2_addAll 3 = .ok (.aload_n 1, 1) := by decide +kernel
theorem dX2_addAll_4 : decode cX2_addAll 4 = .ok (.getfield 28, 3) := by decide +kernel
theorem dX2_addAll_7 : decode cX2_addAll 7 = .ok (.if_icmp .ge 37, 3) := by decide +kernel
theorem dX2_addAll_10 : decode cX2_addAll 10 = .ok (.aload_n 0, 1) := by decide +kernel
theorem dX2_addAll_11 : decode cX2_addAll 11 = .ok (.aload_n 1, 1) := by decide +kernel
theorem dX2_addAll_12 : decode cX2_addAll 12 = .ok (.getfield 9, 3) := by decide +kernel
theorem dX2_addAll_15 : decode cX2_addAll 15 = .ok (.iload_n 2, 1) := by decide +kernel
theorem dX2_addAll_16 : decode cX2_addAll 16 = .ok (.iaload, 1) := by decide +kernel
theorem dX2_addAll_17 : decode cX2_addAll 17 = .ok (.aload_n 1, 1) := by decide +kernel
theorem dX2_addAll_18 : decode cX2_addAll 18 = .ok (.getfield 15, 3) := by decide +kernel
theorem dX2_addAll_21 : decode cX2_addAll 21 = .ok (.iload_n 2, 1) := by decide +kernel
theorem dX2_addAll_22 : decode cX2_addAll 22 = .ok (.iaload, 1) := by decide +kernel
theorem dX2_addAll_23 : decode cX2_addAll 23 = .ok (.aload_n 1, 1) := by decide +kernel
theorem dX2_addAll_24 : decode cX2_addAll 24 = .ok (.getfield 18, 3) := by decide +kernel
theorem dX2_addAll_27 : decode cX2_addAll 27 = .ok (.iload_n 2, 1) := by decide +kernel
theorem dX2_addAll_28 : decode cX2_addAll 28 = .ok (.iaload, 1) := by decide +kernel
theorem dX2_addAll_29 : decode cX2_addAll 29 = .ok (.aload_n 1, 1) := by decide +kernel
theorem dX2_addAll_30 : decode cX2_addAll 30 = .ok (.getfield 21, 3) := by decide +kernel
theorem dX2_addAll_33 : decode cX2_addAll 33 = .ok (.iload_n 2, 1) := by decide +kernel
theorem dX2_addAll_34 : decode cX2_addAll 34 = .ok (.iaload, 1) := by decide +kernel
theorem dX2_addAll_35 : decode cX2_addAll 35 = .ok (.invokevirtual 31, 3) := by decide +kernel
theorem dX2_addAll_38 : decode cX2_addAll 38 = .ok (.iinc 2 1, 3) := by decide +kernel
theorem dX2_addAll_41 : decode cX2_addAll 41 = .ok (.goto (-39), 3) := by decide +kernel
theorem dX2_addAll_44 : decode cX2_addAll 44 = .ok (.return_, 1) := by decide +kernel
theorem dX2_addAllBack_0 : decode cX2_addAllBack 0 = .ok (.aload_n 1, 1) := by decide +kernel
theorem dX2_addAllBack_1 : decode cX2_addAllBack 1 = .ok (.getfield 28, 3) := by decide +kernel
theorem dX2_addAllBack_4 : decode cX2_addAllBack 4 = .ok (.iconst 1, 1) := by decide +kernel
theorem dX2_addAllBack_5 : decode cX2_addAllBack 5 = .ok (.isub, 1) := by decide +kernel
theorem dX2_addAllBack_6 : decode cX2_addAllBack 6 = .ok (.istore_n 2, 1) := by decide +kernel
theorem dX2_addAllBack_7 : decode cX2_addAllBack 7 = .ok (.iload_n 2, 1) := by decide +kernel
theorem dX2_addAllBack_8 : decode cX2_addAllBack 8 = .ok (.ifCond .lt 37, 3) := by decide +kernel
theorem dX2_addAllBack_11 : decode cX2_addAllBack 11 = .ok (.aload_n 0, 1) := by decide +kernel
theorem dX2_addAllBack_12 : decode cX2_addAllBack 12 = .ok (.aload_n 1, 1) := by decide +kernel
theorem dX2_addAllBack_13 : decode cX2_addAllBack 13 = .ok (.getfield 9, 3) := by decide +kernel
theorem dX2_addAllBack_16 : decode cX2_addAllBack 16 = .ok (.iload_n 2, 1) := by decide +kernel
theorem dX2_addAllBack_17 : decode cX2_addAllBack 17 = .ok (.iaload, 1) := by decide +kernel
theorem dX2_addAllBack_18 : decode cX2_addAllBack 18 = .ok (.aload_n 1, 1) := by decide +kernel
theorem dX2_addAllBack_19 : decode cX2_addAllBack 19 = .ok (.getfield 15, 3) := by decide +kernel
theorem dX2_addAllBack_22 : decode cX2_addAllBack 22 = .ok (.iload_n 2, 1) := by decide +kernel
theorem dX2_addAllBack_23 : decode cX2_addAllBack 23 = .ok (.iaload, 1) := by decide +kernel
theorem dX2_addAllBack_24 : decode cX2_addAllBack 24 = .ok (.aload_n 1, 1) := by decide +kernel
theorem dX2_addAllBack_25 : decode cX2_addAllBack 25 = .ok (.getfield 18, 3) := by decide +kernel
theorem dX2_addAllBack_28 : decode cX2_addAllBack 28 = .ok (.iload_n 2, 1) := by decide +kernel
theorem dX2_addAllBack_29 : decode cX2_addAllBack 29 = .ok (.iaload, 1) := by decide +kernel
theorem dX2_addAllBack_30 : decode cX2_addAllBack 30 = .ok (.aload_n 1, 1) := by decide +kernel
theorem dX2_addAllBack_31 : decode cX2_addAllBack 31 = .ok (.getfield 21, 3) := by decide +kernel
theorem dX2_addAllBack_34 : decode cX2_addAllBack 34 = .ok (.iload_n 2, 1) := by decide +kernel
theorem dX2_addAllBack_35 : decode cX2_addAllBack 35 = .ok (.iaload, 1) := by decide +kernel
theorem dX2_addAllBack_36 : decode cX2_addAllBack 36 = .ok (.invokevirtual 31, 3) := by decide +kernel
theorem dX2_addAllBack_39 : decode cX2_addAllBack 39 = .ok (.iinc 2 (-1), 3) := by decide +kernel
theorem dX2_addAllBack_42 : decode cX2_addAllBack 42 = .ok (.goto (-35), 3) := by decide +kernel
theorem dX2_addAllBack_45 : decode cX2_addAllBack 45 = .ok (.return_, 1) := by decide +kernel
theorem dX2_layRolled_0 : decode cX2_layRolled 0 = .ok (.aload_n 0, 1) := by decide +kernel
theorem dX2_layRolled_1 : decode cX2_layRolled 1 = .ok (.aload_n 1, 1) := by decide +kernel
theorem dX2_layRolled_2 : decode cX2_layRolled 2 = .ok (.getfield 24, 3) := by decide +kernel
theorem dX2_layRolled_5 : decode cX2_layRolled 5 = .ok (.iload_n 2, 1) := by decide +kernel
theorem dX2_layRolled_6 : decode cX2_layRolled 6 = .ok (.invokestatic 43, 3) := by decide +kernel
theorem dX2_layRolled_9 : decode cX2_layRolled 9 = .ok (.iadd, 1) := by decide +kernel
theorem dX2_layRolled_10 : decode cX2_layRolled 10 = .ok (.invokevirtual 35, 3) := by decide +kernel
theorem dX2_layRolled_13 : decode cX2_layRolled 13 = .ok (.aload_n 0, 1) := by decide +kernel
theorem dX2_layRolled_14 : decode cX2_layRolled 14 = .ok (.aload_n 1, 1) := by decide +kernel
theorem dX2_layRolled_15 : decode cX2_layRolled 15 = .ok (.invokevirtual 39, 3) := by decide +kernel
theorem dX2_layRolled_18 : decode cX2_layRolled 18 = .ok (.aload_n 1, 1) := by decide +kernel
theorem dX2_layRolled_19 : decode cX2_layRolled 19 = .ok (.getfield 24, 3) := by decide +kernel
theorem dX2_layRolled_22 : decode cX2_layRolled 22 = .ok (.istore_n 3, 1) := by decide +kernel
theorem dX2_layRolled_23 : decode cX2_layRolled 23 = .ok (.iconst 0, 1) := by decide +kernel
theorem dX2_layRolled_24 : decode cX2_layRolled 24 = .ok (.istore 4, 2) := by decide +kernel
theorem dX2_layRolled_26 : decode cX2_layRolled 26 = .ok (.iload 4, 2) := by decide +kernel
theorem dX2_layRolled_28 : decode cX2_layRolled 28 = .ok (.aload_n 1, 1) := by decide +kernel
theorem dX2_layRolled_29 : decode cX2_layRolled 29 = .ok (.getfield 24, 3) := by decide +kernel
theorem dX2_layRolled_32 : decode cX2_layRolled 32 = .ok (.if_icmp .ge 30, 3) := by decide +kernel
theorem dX2_layRolled_35 : decode cX2_layRolled 35 = .ok (.iload_n 2, 1) := by decide +kernel
theorem dX2_layRolled_36 : decode cX2_layRolled 36 = .ok (.iload 4, 2) := by decide +kernel
theorem dX2_layRolled_38 : decode cX2_layRolled 38 = .ok (.ishr, 1) := by decide +kernel
theorem dX2_layRolled_39 : decode cX2_layRolled 39 = .ok (.iconst 1, 1) := by decide +kernel
theorem dX2_layRolled_40 : decode cX2_layRolled 40 = .ok (.iand, 1) := by decide +kernel
theorem dX2_layRolled_41 : decode cX2_layRolled 41 = .ok (.ifCond .eq 15, 3) := by decide +kernel
theorem dX2_layRolled_44 : decode cX2_layRolled 44 = .ok (.aload_n 0, 1) := by decide +kernel
theorem dX2_layRolled_45 : decode cX2_layRolled 45 = .ok (.iload_n 3, 1) := by decide +kernel
theorem dX2_layRolled_46 : decode cX2_layRolled 46 = .ok (.iconst 1, 1) := by decide +kernel
theorem dX2_layRolled_47 : decode cX2_layRolled 47 = .ok (.iload 4, 2) := by decide +kernel
theorem dX2_layRolled_49 : decode cX2_layRolled 49 = .ok (.ishl, 1) := by decide +kernel
theorem dX2_layRolled_50 : decode cX2_layRolled 50 = .ok (.invokevirtual 49, 3) := by decide +kernel
theorem dX2_layRolled_53 : decode cX2_layRolled 53 = .ok (.iinc 3 1, 3) := by decide +kernel
theorem dX2_layRolled_56 : decode cX2_layRolled 56 = .ok (.iinc 4 1, 3) := by decide +kernel
theorem dX2_layRolled_59 : decode cX2_layRolled 59 = .ok (.goto (-33), 3) := by decide +kernel
theorem dX2_layRolled_62 : decode cX2_layRolled 62 = .ok (.aload_n 0, 1) := by decide +kernel
theorem dX2_layRolled_63 : decode cX2_layRolled 63 = .ok (.aload_n 1, 1) := by decide +kernel
theorem dX2_layRolled_64 : decode cX2_layRolled 64 = .ok (.invokevirtual 53, 3) := by decide +kernel
theorem dX2_layRolled_67 : decode cX2_layRolled 67 = .ok (.return_, 1) := by decide +kernel
theorem dX2_layChained_0 : decode cX2_layChained 0 = .ok (.aload_n 0, 1) := by decide +kernel
theorem dX2_layChained_1 : decode cX2_layChained 1 = .ok (.aload_n 1, 1) := by decide +kernel
theorem dX2_layChained_2 : decode cX2_layChained 2 = .ok (.getfield 24, 3) := by decide +kernel
theorem dX2_layChained_5 : decode cX2_layChained 5 = .ok (.aload_n 2, 1) := by decide +kernel
theorem dX2_layChained_6 : decode cX2_layChained 6 = .ok (.getfield 24, 3) := by decide +kernel
theorem dX2_layChained_9 : decode cX2_layChained 9 = .ok (.invokestatic 56, 3) := by decide +kernel
theorem dX2_layChained_12 : decode cX2_layChained 12 = .ok (.invokevirtual 35, 3) := by decide +kernel
theorem dX2_layChained_15 : decode cX2_layChained 15 = .ok (.aload_n 0, 1) := by decide +kernel
theorem dX2_layChained_16 : decode cX2_layChained 16 = .ok (.aload_n 1, 1) := by decide +kernel
theorem dX2_layChained_17 : decode cX2_layChained 17 = .ok (.invokevirtual 39, 3) := by decide +kernel
theorem dX2_layChained_20 : decode cX2_layChained 20 = .ok (.aload_n 0, 1) := by decide +kernel
theorem dX2_layChained_21 : decode cX2_layChained 21 = .ok (.aload_n 2, 1) := by decide +kernel
theorem dX2_layChained_22 : decode cX2_layChained 22 = .ok (.invokevirtual 39, 3) := by decide +kernel
theorem dX2_layChained_25 : decode cX2_layChained 25 = .ok (.return_, 1) := by decide +kernel
theorem dX2_lanes_0 : decode cX2_lanes 0 = .ok (.aload_n 0, 1) := by decide +kernel
theorem dX2_lanes_1 : decode cX2_lanes 1 = .ok (.getfield 24, 3) := by decide +kernel
theorem dX2_lanes_4 : decode cX2_lanes 4 = .ok (.ireturn, 1) := by decide +kernel
theorem dX2_steps_0 : decode cX2_steps 0 = .ok (.aload_n 0, 1) := by decide +kernel
theorem dX2_steps_1 : decode cX2_steps 1 = .ok (.getfield 28, 3) := by decide +kernel
theorem dX2_steps_4 : decode cX2_steps 4 = .ok (.ireturn, 1) := by decide +kernel
theorem dX2_rows_0 : decode cX2_rows 0 = .ok (.iconst 1, 1) := by decide +kernel
theorem dX2_rows_1 : decode cX2_rows 1 = .ok (.aload_n 0, 1) := by decide +kernel
theorem dX2_rows_2 : decode cX2_rows 2 = .ok (.getfield 24, 3) := by decide +kernel
theorem dX2_rows_5 : decode cX2_rows 5 = .ok (.ishl, 1) := by decide +kernel
theorem dX2_rows_6 : decode cX2_rows 6 = .ok (.ireturn, 1) := by decide +kernel
theorem dX2_hasNoRow_0 : decode cX2_hasNoRow 0 = .ok (.iload_n 1, 1) := by decide +kernel
theorem dX2_hasNoRow_1 : decode cX2_hasNoRow 1 = .ok (.ifCond .lt 11, 3) := by decide +kernel
theorem dX2_hasNoRow_4 : decode cX2_hasNoRow 4 = .ok (.iload_n 1, 1) := by decide +kernel
theorem dX2_hasNoRow_5 : decode cX2_hasNoRow 5 = .ok (.aload_n 0, 1) := by decide +kernel
theorem dX2_hasNoRow_6 : decode cX2_hasNoRow 6 = .ok (.invokevirtual 62, 3) := by decide +kernel
theorem dX2_hasNoRow_9 : decode cX2_hasNoRow 9 = .ok (.if_icmp .lt 7, 3) := by decide +kernel
theorem dX2_hasNoRow_12 : decode cX2_hasNoRow 12 = .ok (.iconst 1, 1) := by decide +kernel
theorem dX2_hasNoRow_13 : decode cX2_hasNoRow 13 = .ok (.goto 4, 3) := by decide +kernel
theorem dX2_hasNoRow_16 : decode cX2_hasNoRow 16 = .ok (.iconst 0, 1) := by decide +kernel
theorem dX2_hasNoRow_17 : decode cX2_hasNoRow 17 = .ok (.ireturn, 1) := by decide +kernel
theorem dX2_tell_0 : decode cX2_tell 0 = .ok (.iload_n 2, 1) := by decide +kernel
theorem dX2_tell_1 : decode cX2_tell 1 = .ok (.iconst 1, 1) := by decide +kernel
theorem dX2_tell_2 : decode cX2_tell 2 = .ok (.if_icmp .ne 8, 3) := by decide +kernel
theorem dX2_tell_5 : decode cX2_tell 5 = .ok (.aload_n 0, 1) := by decide +kernel
theorem dX2_tell_6 : decode cX2_tell 6 = .ok (.getfield 24, 3) := by decide +kernel
theorem dX2_tell_9 : decode cX2_tell 9 = .ok (.ireturn, 1) := by decide +kernel
theorem dX2_tell_10 : decode cX2_tell 10 = .ok (.iload_n 1, 1) := by decide +kernel
theorem dX2_tell_11 : decode cX2_tell 11 = .ok (.ifCond .lt 11, 3) := by decide +kernel
theorem dX2_tell_14 : decode cX2_tell 14 = .ok (.iload_n 1, 1) := by decide +kernel
theorem dX2_tell_15 : decode cX2_tell 15 = .ok (.aload_n 0, 1) := by decide +kernel
theorem dX2_tell_16 : decode cX2_tell 16 = .ok (.getfield 28, 3) := by decide +kernel
theorem dX2_tell_19 : decode cX2_tell 19 = .ok (.if_icmp .lt 5, 3) := by decide +kernel
theorem dX2_tell_22 : decode cX2_tell 22 = .ok (.iconst (-1), 1) := by decide +kernel
theorem dX2_tell_23 : decode cX2_tell 23 = .ok (.ireturn, 1) := by decide +kernel
theorem dX2_tell_24 : decode cX2_tell 24 = .ok (.iload_n 2, 1) := by decide +kernel
theorem dX2_tell_25 : decode cX2_tell 25 = .ok (.tableswitch 63 0 4 #[35, 63, 42, 49, 56], 35) := by decide +kernel
theorem dX2_tell_60 : decode cX2_tell 60 = .ok (.aload_n 0, 1) := by decide +kernel
theorem dX2_tell_61 : decode cX2_tell 61 = .ok (.getfield 9, 3) := by decide +kernel
theorem dX2_tell_64 : decode cX2_tell 64 = .ok (.iload_n 1, 1) := by decide +kernel
theorem dX2_tell_65 : decode cX2_tell 65 = .ok (.iaload, 1) := by decide +kernel
theorem dX2_tell_66 : decode cX2_tell 66 = .ok (.ireturn, 1) := by decide +kernel
theorem dX2_tell_67 : decode cX2_tell 67 = .ok (.aload_n 0, 1) := by decide +kernel
theorem dX2_tell_68 : decode cX2_tell 68 = .ok (.getfield 15, 3) := by decide +kernel
theorem dX2_tell_71 : decode cX2_tell 71 = .ok (.iload_n 1, 1) := by decide +kernel
theorem dX2_tell_72 : decode cX2_tell 72 = .ok (.iaload, 1) := by decide +kernel
theorem dX2_tell_73 : decode cX2_tell 73 = .ok (.ireturn, 1) := by decide +kernel
theorem dX2_tell_74 : decode cX2_tell 74 = .ok (.aload_n 0, 1) := by decide +kernel
theorem dX2_tell_75 : decode cX2_tell 75 = .ok (.getfield 18, 3) := by decide +kernel
theorem dX2_tell_78 : decode cX2_tell 78 = .ok (.iload_n 1, 1) := by decide +kernel
theorem dX2_tell_79 : decode cX2_tell 79 = .ok (.iaload, 1) := by decide +kernel
theorem dX2_tell_80 : decode cX2_tell 80 = .ok (.ireturn, 1) := by decide +kernel
theorem dX2_tell_81 : decode cX2_tell 81 = .ok (.aload_n 0, 1) := by decide +kernel
theorem dX2_tell_82 : decode cX2_tell 82 = .ok (.getfield 21, 3) := by decide +kernel
theorem dX2_tell_85 : decode cX2_tell 85 = .ok (.iload_n 1, 1) := by decide +kernel
theorem dX2_tell_86 : decode cX2_tell 86 = .ok (.iaload, 1) := by decide +kernel
theorem dX2_tell_87 : decode cX2_tell 87 = .ok (.ireturn, 1) := by decide +kernel
theorem dX2_tell_88 : decode cX2_tell 88 = .ok (.iconst (-1), 1) := by decide +kernel
theorem dX2_tell_89 : decode cX2_tell 89 = .ok (.ireturn, 1) := by decide +kernel
theorem dX2_pass_0 : decode cX2_pass 0 = .ok (.aload_n 0, 1) := by decide +kernel
theorem dX2_pass_1 : decode cX2_pass 1 = .ok (.getfield 21, 3) := by decide +kernel
theorem dX2_pass_4 : decode cX2_pass 4 = .ok (.iload_n 2, 1) := by decide +kernel
theorem dX2_pass_5 : decode cX2_pass 5 = .ok (.iaload, 1) := by decide +kernel
theorem dX2_pass_6 : decode cX2_pass 6 = .ok (.istore_n 3, 1) := by decide +kernel
theorem dX2_pass_7 : decode cX2_pass 7 = .ok (.iload_n 1, 1) := by decide +kernel
theorem dX2_pass_8 : decode cX2_pass 8 = .ok (.iload_n 3, 1) := by decide +kernel
theorem dX2_pass_9 : decode cX2_pass 9 = .ok (.iand, 1) := by decide +kernel
theorem dX2_pass_10 : decode cX2_pass 10 = .ok (.iload_n 3, 1) := by decide +kernel
theorem dX2_pass_11 : decode cX2_pass 11 = .ok (.if_icmp .eq 5, 3) := by decide +kernel
theorem dX2_pass_14 : decode cX2_pass 14 = .ok (.iload_n 1, 1) := by decide +kernel
theorem dX2_pass_15 : decode cX2_pass 15 = .ok (.ireturn, 1) := by decide +kernel
theorem dX2_pass_16 : decode cX2_pass 16 = .ok (.aload_n 0, 1) := by decide +kernel
theorem dX2_pass_17 : decode cX2_pass 17 = .ok (.getfield 9, 3) := by decide +kernel
theorem dX2_pass_20 : decode cX2_pass 20 = .ok (.iload_n 2, 1) := by decide +kernel
theorem dX2_pass_21 : decode cX2_pass 21 = .ok (.iaload, 1) := by decide +kernel
theorem dX2_pass_22 : decode cX2_pass 22 = .ok (.ifCond .ne 14, 3) := by decide +kernel
theorem dX2_pass_25 : decode cX2_pass 25 = .ok (.iload_n 1, 1) := by decide +kernel
theorem dX2_pass_26 : decode cX2_pass 26 = .ok (.iconst 1, 1) := by decide +kernel
theorem dX2_pass_27 : decode cX2_pass 27 = .ok (.aload_n 0, 1) := by decide +kernel
theorem dX2_pass_28 : decode cX2_pass 28 = .ok (.getfield 15, 3) := by decide +kernel
theorem dX2_pass_31 : decode cX2_pass 31 = .ok (.iload_n 2, 1) := by decide +kernel
theorem dX2_pass_32 : decode cX2_pass 32 = .ok (.iaload, 1) := by decide +kernel
theorem dX2_pass_33 : decode cX2_pass 33 = .ok (.ishl, 1) := by decide +kernel
theorem dX2_pass_34 : decode cX2_pass 34 = .ok (.ixor, 1) := by decide +kernel
theorem dX2_pass_35 : decode cX2_pass 35 = .ok (.ireturn, 1) := by decide +kernel
theorem dX2_pass_36 : decode cX2_pass 36 = .ok (.iload_n 1, 1) := by decide +kernel
theorem dX2_pass_37 : decode cX2_pass 37 = .ok (.aload_n 0, 1) := by decide +kernel
theorem dX2_pass_38 : decode cX2_pass 38 = .ok (.getfield 15, 3) := by decide +kernel
theorem dX2_pass_41 : decode cX2_pass 41 = .ok (.iload_n 2, 1) := by decide +kernel
theorem dX2_pass_42 : decode cX2_pass 42 = .ok (.iaload, 1) := by decide +kernel
theorem dX2_pass_43 : decode cX2_pass 43 = .ok (.ishr, 1) := by decide +kernel
theorem dX2_pass_44 : decode cX2_pass 44 = .ok (.iload_n 1, 1) := by decide +kernel
theorem dX2_pass_45 : decode cX2_pass 45 = .ok (.aload_n 0, 1) := by decide +kernel
theorem dX2_pass_46 : decode cX2_pass 46 = .ok (.getfield 18, 3) := by decide +kernel
theorem dX2_pass_49 : decode cX2_pass 49 = .ok (.iload_n 2, 1) := by decide +kernel
theorem dX2_pass_50 : decode cX2_pass 50 = .ok (.iaload, 1) := by decide +kernel
theorem dX2_pass_51 : decode cX2_pass 51 = .ok (.ishr, 1) := by decide +kernel
theorem dX2_pass_52 : decode cX2_pass 52 = .ok (.ixor, 1) := by decide +kernel
theorem dX2_pass_53 : decode cX2_pass 53 = .ok (.iconst 1, 1) := by decide +kernel
theorem dX2_pass_54 : decode cX2_pass 54 = .ok (.iand, 1) := by decide +kernel
theorem dX2_pass_55 : decode cX2_pass 55 = .ok (.istore 4, 2) := by decide +kernel
theorem dX2_pass_57 : decode cX2_pass 57 = .ok (.iload_n 1, 1) := by decide +kernel
theorem dX2_pass_58 : decode cX2_pass 58 = .ok (.iload 4, 2) := by decide +kernel
theorem dX2_pass_60 : decode cX2_pass 60 = .ok (.aload_n 0, 1) := by decide +kernel
theorem dX2_pass_61 : decode cX2_pass 61 = .ok (.getfield 15, 3) := by decide +kernel
theorem dX2_pass_64 : decode cX2_pass 64 = .ok (.iload_n 2, 1) := by decide +kernel
theorem dX2_pass_65 : decode cX2_pass 65 = .ok (.iaload, 1) := by decide +kernel
theorem dX2_pass_66 : decode cX2_pass 66 = .ok (.ishl, 1) := by decide +kernel
theorem dX2_pass_67 : decode cX2_pass 67 = .ok (.ixor, 1) := by decide +kernel
theorem dX2_pass_68 : decode cX2_pass 68 = .ok (.iload 4, 2) := by decide +kernel
theorem dX2_pass_70 : decode cX2_pass 70 = .ok (.aload_n 0, 1) := by decide +kernel
theorem dX2_pass_71 : decode cX2_pass 71 = .ok (.getfield 18, 3) := by decide +kernel
theorem dX2_pass_74 : decode cX2_pass 74 = .ok (.iload_n 2, 1) := by decide +kernel
theorem dX2_pass_75 : decode cX2_pass 75 = .ok (.iaload, 1) := by decide +kernel
theorem dX2_pass_76 : decode cX2_pass 76 = .ok (.ishl, 1) := by decide +kernel
theorem dX2_pass_77 : decode cX2_pass 77 = .ok (.ixor, 1) := by decide +kernel
theorem dX2_pass_78 : decode cX2_pass 78 = .ok (.ireturn, 1) := by decide +kernel
theorem dX2_outOf_0 : decode cX2_outOf 0 = .ok (.iload_n 1, 1) := by decide +kernel
theorem dX2_outOf_1 : decode cX2_outOf 1 = .ok (.istore_n 3, 1) := by decide +kernel
theorem dX2_outOf_2 : decode cX2_outOf 2 = .ok (.iconst 0, 1) := by decide +kernel
theorem dX2_outOf_3 : decode cX2_outOf 3 = .ok (.istore 4, 2) := by decide +kernel
theorem dX2_outOf_5 : decode cX2_outOf 5 = .ok (.iload 4, 2) := by decide +kernel
theorem dX2_outOf_7 : decode cX2_outOf 7 = .ok (.aload_n 0, 1) := by decide +kernel
theorem dX2_outOf_8 : decode cX2_outOf 8 = .ok (.getfield 28, 3) := by decide +kernel
theorem dX2_outOf_11 : decode cX2_outOf 11 = .ok (.if_icmp .ge 33, 3) := by decide +kernel
theorem dX2_outOf_14 : decode cX2_outOf 14 = .ok (.aload_n 0, 1) := by decide +kernel
theorem dX2_outOf_15 : decode cX2_outOf 15 = .ok (.iload_n 3, 1) := by decide +kernel
theorem dX2_outOf_16 : decode cX2_outOf 16 = .ok (.iload_n 2, 1) := by decide +kernel
theorem dX2_outOf_17 : decode cX2_outOf 17 = .ok (.ifCond .eq 15, 3) := by decide +kernel
theorem dX2_outOf_20 : decode cX2_outOf 20 = .ok (.aload_n 0, 1) := by decide +kernel
theorem dX2_outOf_21 : decode cX2_outOf 21 = .ok (.getfield 28, 3) := by decide +kernel
theorem dX2_outOf_24 : decode cX2_outOf 24 = .ok (.iconst 1, 1) := by decide +kernel
theorem dX2_outOf_25 : decode cX2_outOf 25 = .ok (.isub, 1) := by decide +kernel
theorem dX2_outOf_26 : decode cX2_outOf 26 = .ok (.iload 4, 2) := by decide +kernel
theorem dX2_outOf_28 : decode cX2_outOf 28 = .ok (.isub, 1) := by decide +kernel
theorem dX2_outOf_29 : decode cX2_outOf 29 = .ok (.goto 5, 3) := by decide +kernel
theorem dX2_outOf_32 : decode cX2_outOf 32 = .ok (.iload 4, 2) := by decide +kernel
theorem dX2_outOf_34 : decode cX2_outOf 34 = .ok (.invokevirtual 66, 3) := by decide +kernel
theorem dX2_outOf_37 : decode cX2_outOf 37 = .ok (.istore_n 3, 1) := by decide +kernel
theorem dX2_outOf_38 : decode cX2_outOf 38 = .ok (.iinc 4 1, 3) := by decide +kernel
theorem dX2_outOf_41 : decode cX2_outOf 41 = .ok (.goto (-36), 3) := by decide +kernel
theorem dX2_outOf_44 : decode cX2_outOf 44 = .ok (.iload_n 3, 1) := by decide +kernel
theorem dX2_outOf_45 : decode cX2_outOf 45 = .ok (.ireturn, 1) := by decide +kernel
theorem dX2_runsTillThereAgain_0 : decode cX2_runsTillThereAgain 0 = .ok (.aload_n 0, 1) := by decide +kernel
theorem dX2_runsTillThereAgain_1 : decode cX2_runsTillThereAgain 1 = .ok (.iload_n 1, 1) := by decide +kernel
theorem dX2_runsTillThereAgain_2 : decode cX2_runsTillThereAgain 2 = .ok (.iconst 0, 1) := by decide +kernel
theorem dX2_runsTillThereAgain_3 : decode cX2_runsTillThereAgain 3 = .ok (.invokevirtual 69, 3) := by decide +kernel
theorem dX2_runsTillThereAgain_6 : decode cX2_runsTillThereAgain 6 = .ok (.istore_n 2, 1) := by decide +kernel
theorem dX2_runsTillThereAgain_7 : decode cX2_runsTillThereAgain 7 = .ok (.iconst 1, 1) := by decide +kernel
theorem dX2_runsTillThereAgain_8 : decode cX2_runsTillThereAgain 8 = .ok (.istore_n 3, 1) := by decide +kernel
theorem dX2_runsTillThereAgain_9 : decode cX2_runsTillThereAgain 9 = .ok (.iload_n 2, 1) := by decide +kernel
theorem dX2_runsTillThereAgain_10 : decode cX2_runsTillThereAgain 10 = .ok (.iload_n 1, 1) := by decide +kernel
theorem dX2_runsTillThereAgain_11 : decode cX2_runsTillThereAgain 11 = .ok (.if_icmp .eq 23, 3) := by decide +kernel
theorem dX2_runsTillThereAgain_14 : decode cX2_runsTillThereAgain 14 = .ok (.iload_n 3, 1) := by decide +kernel
theorem dX2_runsTillThereAgain_15 : decode cX2_runsTillThereAgain 15 = .ok (.sipush 256, 3) := by decide +kernel
theorem dX2_runsTillThereAgain_18 : decode cX2_runsTillThereAgain 18 = .ok (.if_icmp .ge 16, 3) := by decide +kernel
theorem dX2_runsTillThereAgain_21 : decode cX2_runsTillThereAgain 21 = .ok (.aload_n 0, 1) := by decide +kernel
theorem dX2_runsTillThereAgain_22 : decode cX2_runsTillThereAgain 22 = .ok (.iload_n 2, 1) := by decide +kernel
theorem dX2_runsTillThereAgain_23 : decode cX2_runsTillThereAgain 23 = .ok (.iconst 0, 1) := by decide +kernel
theorem dX2_runsTillThereAgain_24 : decode cX2_runsTillThereAgain 24 = .ok (.invokevirtual 69, 3) := by decide +kernel
theorem dX2_runsTillThereAgain_27 : decode cX2_runsTillThereAgain 27 = .ok (.istore_n 2, 1) := by decide +kernel
theorem dX2_runsTillThereAgain_28 : decode cX2_runsTillThereAgain 28 = .ok (.iinc 3 1, 3) := by decide +kernel
theorem dX2_runsTillThereAgain_31 : decode cX2_runsTillThereAgain 31 = .ok (.goto (-22), 3) := by decide +kernel
theorem dX2_runsTillThereAgain_34 : decode cX2_runsTillThereAgain 34 = .ok (.iload_n 3, 1) := by decide +kernel
theorem dX2_runsTillThereAgain_35 : decode cX2_runsTillThereAgain 35 = .ok (.ireturn, 1) := by decide +kernel
theorem dX2_leastRowUnlike_0 : decode cX2_leastRowUnlike 0 = .ok (.iconst 0, 1) := by decide +kernel
theorem dX2_leastRowUnlike_1 : decode cX2_leastRowUnlike 1 = .ok (.istore_n 2, 1) := by decide +kernel
theorem dX2_leastRowUnlike_2 : decode cX2_leastRowUnlike 2 = .ok (.iload_n 2, 1) := by decide +kernel
theorem dX2_leastRowUnlike_3 : decode cX2_leastRowUnlike 3 = .ok (.aload_n 0, 1) := by decide +kernel
theorem dX2_leastRowUnlike_4 : decode cX2_leastRowUnlike 4 = .ok (.invokevirtual 62, 3) := by decide +kernel
theorem dX2_leastRowUnlike_7 : decode cX2_leastRowUnlike 7 = .ok (.if_icmp .ge 26, 3) := by decide +kernel
theorem dX2_leastRowUnlike_10 : decode cX2_leastRowUnlike 10 = .ok (.aload_n 0, 1) := by decide +kernel
theorem dX2_leastRowUnlike_11 : decode cX2_leastRowUnlike 11 = .ok (.iload_n 2, 1) := by decide +kernel
theorem dX2_leastRowUnlike_12 : decode cX2_leastRowUnlike 12 = .ok (.iconst 0, 1) := by decide +kernel
theorem dX2_leastRowUnlike_13 : decode cX2_leastRowUnlike 13 = .ok (.invokevirtual 69, 3) := by decide +kernel
theorem dX2_leastRowUnlike_16 : decode cX2_leastRowUnlike 16 = .ok (.aload_n 1, 1) := by decide +kernel
theorem dX2_leastRowUnlike_17 : decode cX2_leastRowUnlike 17 = .ok (.iload_n 2, 1) := by decide +kernel
theorem dX2_leastRowUnlike_18 : decode cX2_leastRowUnlike 18 = .ok (.iconst 0, 1) := by decide +kernel
theorem dX2_leastRowUnlike_19 : decode cX2_leastRowUnlike 19 = .ok (.invokevirtual 69, 3) := by decide +kernel
theorem dX2_leastRowUnlike_22 : decode cX2_leastRowUnlike 22 = .ok (.if_icmp .eq 5, 3) := by decide +kernel
theorem dX2_leastRowUnlike_25 : decode cX2_leastRowUnlike 25 = .ok (.iload_n 2, 1) := by decide +kernel
theorem dX2_leastRowUnlike_26 : decode cX2_leastRowUnlike 26 = .ok (.ireturn, 1) := by decide +kernel
theorem dX2_leastRowUnlike_27 : decode cX2_leastRowUnlike 27 = .ok (.iinc 2 1, 3) := by decide +kernel
theorem dX2_leastRowUnlike_30 : decode cX2_leastRowUnlike 30 = .ok (.goto (-28), 3) := by decide +kernel
theorem dX2_leastRowUnlike_33 : decode cX2_leastRowUnlike 33 = .ok (.iconst (-1), 1) := by decide +kernel
theorem dX2_leastRowUnlike_34 : decode cX2_leastRowUnlike 34 = .ok (.ireturn, 1) := by decide +kernel
theorem dX2_fillTable_0 : decode cX2_fillTable 0 = .ok (.iconst 0, 1) := by decide +kernel
theorem dX2_fillTable_1 : decode cX2_fillTable 1 = .ok (.istore_n 2, 1) := by decide +kernel
theorem dX2_fillTable_2 : decode cX2_fillTable 2 = .ok (.iload_n 2, 1) := by decide +kernel
theorem dX2_fillTable_3 : decode cX2_fillTable 3 = .ok (.aload_n 0, 1) := by decide +kernel
theorem dX2_fillTable_4 : decode cX2_fillTable 4 = .ok (.invokevirtual 62, 3) := by decide +kernel
theorem dX2_fillTable_7 : decode cX2_fillTable 7 = .ok (.if_icmp .ge 24, 3) := by decide +kernel
theorem dX2_fillTable_10 : decode cX2_fillTable 10 = .ok (.iload_n 2, 1) := by decide +kernel
theorem dX2_fillTable_11 : decode cX2_fillTable 11 = .ok (.aload_n 1, 1) := by decide +kernel
theorem dX2_fillTable_12 : decode cX2_fillTable 12 = .ok (.arraylength, 1) := by decide +kernel
theorem dX2_fillTable_13 : decode cX2_fillTable 13 = .ok (.if_icmp .ge 18, 3) := by decide +kernel
theorem dX2_fillTable_16 : decode cX2_fillTable 16 = .ok (.aload_n 1, 1) := by decide +kernel
theorem dX2_fillTable_17 : decode cX2_fillTable 17 = .ok (.iload_n 2, 1) := by decide +kernel
theorem dX2_fillTable_18 : decode cX2_fillTable 18 = .ok (.aload_n 0, 1) := by decide +kernel
theorem dX2_fillTable_19 : decode cX2_fillTable 19 = .ok (.iload_n 2, 1) := by decide +kernel
theorem dX2_fillTable_20 : decode cX2_fillTable 20 = .ok (.iconst 0, 1) := by decide +kernel
theorem dX2_fillTable_21 : decode cX2_fillTable 21 = .ok (.invokevirtual 69, 3) := by decide +kernel
theorem dX2_fillTable_24 : decode cX2_fillTable 24 = .ok (.iastore, 1) := by decide +kernel
theorem dX2_fillTable_25 : decode cX2_fillTable 25 = .ok (.iinc 2 1, 3) := by decide +kernel
theorem dX2_fillTable_28 : decode cX2_fillTable 28 = .ok (.goto (-26), 3) := by decide +kernel
theorem dX2_fillTable_31 : decode cX2_fillTable 31 = .ok (.return_, 1) := by decide +kernel
theorem dX3_init_0 : decode cX3_init 0 = .ok (.aload_n 0, 1) := by decide +kernel
theorem dX3_init_1 : decode cX3_init 1 = .ok (.invokespecial 3, 3) := by decide +kernel
theorem dX3_init_4 : decode cX3_init 4 = .ok (.aload_n 0, 1) := by decide +kernel
theorem dX3_init_5 : decode cX3_init 5 = .ok (.aload_n 1, 1) := by decide +kernel
theorem dX3_init_6 : decode cX3_init 6 = .ok (.putfield 9, 3) := by decide +kernel
theorem dX3_init_9 : decode cX3_init 9 = .ok (.return_, 1) := by decide +kernel
theorem dX3_readInto_0 : decode cX3_readInto 0 = .ok (.aload_n 0, 1) := by decide +kernel
theorem dX3_readInto_1 : decode cX3_readInto 1 = .ok (.getfield 9, 3) := by decide +kernel
theorem dX3_readInto_4 : decode cX3_readInto 4 = .ok (.invokevirtual 15, 3) := by decide +kernel
theorem dX3_readInto_7 : decode cX3_readInto 7 = .ok (.aload_n 0, 1) := by decide +kernel
theorem dX3_readInto_8 : decode cX3_readInto 8 = .ok (.getfield 9, 3) := by decide +kernel
theorem dX3_readInto_11 : decode cX3_readInto 11 = .ok (.bipush 17, 2) := by decide +kernel
theorem dX3_readInto_13 : decode cX3_readInto 13 = .ok (.invokevirtual 20, 3) := by decide +kernel
theorem dX3_readInto_16 : decode cX3_readInto 16 = .ok (.aload_n 1, 1) := by decide +kernel
theorem dX3_readInto_17 : decode cX3_readInto 17 = .ok (.aload_n 0, 1) := by decide +kernel
theorem dX3_readInto_18 : decode cX3_readInto 18 = .ok (.getfield 9, 3) := by decide +kernel
theorem dX3_readInto_21 : decode cX3_readInto 21 = .ok (.iconst 1, 1) := by decide +kernel
theorem dX3_readInto_22 : decode cX3_readInto 22 = .ok (.bipush 8, 2) := by decide +kernel
theorem dX3_readInto_24 : decode cX3_readInto 24 = .ok (.invokevirtual 24, 3) := by decide +kernel
theorem dX3_readInto_27 : decode cX3_readInto 27 = .ok (.invokevirtual 28, 3) := by decide +kernel
theorem dX3_readInto_30 : decode cX3_readInto 30 = .ok (.aload_n 0, 1) := by decide +kernel
theorem dX3_readInto_31 : decode cX3_readInto 31 = .ok (.getfield 9, 3) := by decide +kernel
theorem dX3_readInto_34 : decode cX3_readInto 34 = .ok (.bipush 59, 2) := by decide +kernel
theorem dX3_readInto_36 : decode cX3_readInto 36 = .ok (.invokevirtual 33, 3) := by decide +kernel
theorem dX3_readInto_39 : decode cX3_readInto 39 = .ok (.iconst 0, 1) := by decide +kernel
theorem dX3_readInto_40 : decode cX3_readInto 40 = .ok (.istore_n 2, 1) := by decide +kernel
theorem dX3_readInto_41 : decode cX3_readInto 41 = .ok (.iload_n 2, 1) := by decide +kernel
theorem dX3_readInto_42 : decode cX3_readInto 42 = .ok (.bipush 40, 2) := by decide +kernel
theorem dX3_readInto_44 : decode cX3_readInto 44 = .ok (.if_icmp .gt 46, 3) := by decide +kernel
theorem dX3_readInto_47 : decode cX3_readInto 47 = .ok (.aload_n 0, 1) := by decide +kernel
theorem dX3_readInto_48 : decode cX3_readInto 48 = .ok (.getfield 9, 3) := by decide +kernel
theorem dX3_readInto_51 : decode cX3_readInto 51 = .ok (.invokevirtual 36, 3) := by decide +kernel
theorem dX3_readInto_54 : decode cX3_readInto 54 = .ok (.bipush 18, 2) := by decide +kernel
theorem dX3_readInto_56 : decode cX3_readInto 56 = .ok (.if_icmp .eq 14, 3) := by decide +kernel
theorem dX3_readInto_59 : decode cX3_readInto 59 = .ok (.aload_n 0, 1) := by decide +kernel
theorem dX3_readInto_60 : decode cX3_readInto 60 = .ok (.getfield 9, 3) := by decide +kernel
theorem dX3_readInto_63 : decode cX3_readInto 63 = .ok (.invokevirtual 36, 3) := by decide +kernel
theorem dX3_readInto_66 : decode cX3_readInto 66 = .ok (.iconst 3, 1) := by decide +kernel
theorem dX3_readInto_67 : decode cX3_readInto 67 = .ok (.if_icmp .ne 23, 3) := by decide +kernel
theorem dX3_readInto_70 : decode cX3_readInto 70 = .ok (.aload_n 0, 1) := by decide +kernel
theorem dX3_readInto_71 : decode cX3_readInto 71 = .ok (.aload_n 1, 1) := by decide +kernel
theorem dX3_readInto_72 : decode cX3_readInto 72 = .ok (.invokevirtual 40, 3) := by decide +kernel
theorem dX3_readInto_75 : decode cX3_readInto 75 = .ok (.aload_n 0, 1) := by decide +kernel
theorem dX3_readInto_76 : decode cX3_readInto 76 = .ok (.getfield 9, 3) := by decide +kernel
theorem dX3_readInto_79 : decode cX3_readInto 79 = .ok (.bipush 59, 2) := by decide +kernel
theorem dX3_readInto_81 : decode cX3_readInto 81 = .ok (.invokevirtual 33, 3) := by decide +kernel
theorem dX3_readInto_84 : decode cX3_readInto 84 = .ok (.iinc 2 1, 3) := by decide +kernel
theorem dX3_readInto_87 : decode cX3_readInto 87 = .ok (.goto (-46), 3) := by decide +kernel
theorem dX3_readInto_90 : decode cX3_readInto 90 = .ok (.aload_n 0, 1) := by decide +kernel
theorem dX3_readInto_91 : decode cX3_readInto 91 = .ok (.getfield 9, 3) := by decide +kernel
theorem dX3_readInto_94 : decode cX3_readInto 94 = .ok (.iconst 0, 1) := by decide +kernel
theorem dX3_readInto_95 : decode cX3_readInto 95 = .ok (.invokevirtual 33, 3) := by decide +kernel
theorem dX3_readInto_98 : decode cX3_readInto 98 = .ok (.aload_n 0, 1) := by decide +kernel
theorem dX3_readInto_99 : decode cX3_readInto 99 = .ok (.getfield 9, 3) := by decide +kernel
theorem dX3_readInto_102 : decode cX3_readInto 102 = .ok (.invokevirtual 44, 3) := by decide +kernel
theorem dX3_readInto_105 : decode cX3_readInto 105 = .ok (.ifCond .ne 7, 3) := by decide +kernel
theorem dX3_readInto_108 : decode cX3_readInto 108 = .ok (.iconst 1, 1) := by decide +kernel
theorem dX3_readInto_109 : decode cX3_readInto 109 = .ok (.goto 4, 3) := by decide +kernel
theorem dX3_readInto_112 : decode cX3_readInto 112 = .ok (.iconst 0, 1) := by decide +kernel
theorem dX3_readInto_113 : decode cX3_readInto 113 = .ok (.ireturn, 1) := by decide +kernel
theorem dX3_readStep_0 : decode cX3_readStep 0 = .ok (.aload_n 1, 1) := by decide +kernel
theorem dX3_readStep_1 : decode cX3_readStep 1 = .ok (.invokevirtual 48, 3) := by decide +kernel
theorem dX3_readStep_4 : decode cX3_readStep 4 = .ok (.bipush 40, 2) := by decide +kernel
theorem dX3_readStep_6 : decode cX3_readStep 6 = .ok (.if_icmp .lt 12, 3) := by decide +kernel
theorem dX3_readStep_9 : decode cX3_readStep 9 = .ok (.aload_n 0, 1) := by decide +kernel
theorem dX3_readStep_10 : decode cX3_readStep 10 = .ok (.getfield 9, 3) := by decide +kernel
theorem dX3_readStep_13 : decode cX3_readStep 13 = .ok (.iconst 4, 1) := by decide +kernel
theorem dX3_readStep_14 : decode cX3_readStep 14 = .ok (.invokevirtual 51, 3) := by decide +kernel
theorem dX3_readStep_17 : decode cX3_readStep 17 = .ok (.return_, 1) := by decide +kernel
theorem dX3_readStep_18 : decode cX3_readStep 18 = .ok (.aload_n 0, 1) := by decide +kernel
theorem dX3_readStep_19 : decode cX3_readStep 19 = .ok (.getfield 9, 3) := by decide +kernel
theorem dX3_readStep_22 : decode cX3_readStep 22 = .ok (.invokevirtual 36, 3) := by decide +kernel
theorem dX3_readStep_25 : decode cX3_readStep 25 = .ok (.iconst 3, 1) := by decide +kernel
theorem dX3_readStep_26 : decode cX3_readStep 26 = .ok (.if_icmp .ne 7, 3) := by decide +kernel
theorem dX3_readStep_29 : decode cX3_readStep 29 = .ok (.iconst 1, 1) := by decide +kernel
theorem dX3_readStep_30 : decode cX3_readStep 30 = .ok (.goto 4, 3) := by decide +kernel
theorem dX3_readStep_33 : decode cX3_readStep 33 = .ok (.iconst 0, 1) := by decide +kernel
theorem dX3_readStep_34 : decode cX3_readStep 34 = .ok (.istore_n 2, 1) := by decide +kernel
theorem dX3_readStep_35 : decode cX3_readStep 35 = .ok (.aload_n 0, 1) := by decide +kernel
theorem dX3_readStep_36 : decode cX3_readStep 36 = .ok (.getfield 9, 3) := by decide +kernel
theorem dX3_readStep_39 : decode cX3_readStep 39 = .ok (.invokevirtual 54, 3) := by decide +kernel
theorem dX3_readStep_42 : decode cX3_readStep 42 = .ok (.aload_n 0, 1) := by decide +kernel
theorem dX3_readStep_43 : decode cX3_readStep 43 = .ok (.aload_n 1, 1) := by decide +kernel
theorem dX3_readStep_44 : decode cX3_readStep 44 = .ok (.iconst 0, 1) := by decide +kernel
theorem dX3_readStep_45 : decode cX3_readStep 45 = .ok (.invokevirtual 57, 3) := by decide +kernel
theorem dX3_readStep_48 : decode cX3_readStep 48 = .ok (.istore_n 3, 1) := by decide +kernel
theorem dX3_readStep_49 : decode cX3_readStep 49 = .ok (.iconst 1, 1) := by decide +kernel
theorem dX3_readStep_50 : decode cX3_readStep 50 = .ok (.iload_n 3, 1) := by decide +kernel
theorem dX3_readStep_51 : decode cX3_readStep 51 = .ok (.ishl, 1) := by decide +kernel
theorem dX3_readStep_52 : decode cX3_readStep 52 = .ok (.istore 4, 2) := by decide +kernel
theorem dX3_readStep_54 : decode cX3_readStep 54 = .ok (.iconst (-1), 1) := by decide +kernel
theorem dX3_readStep_55 : decode cX3_readStep 55 = .ok (.istore 5, 2) := by decide +kernel
theorem dX3_readStep_57 : decode cX3_readStep 57 = .ok (.iload_n 2, 1) := by decide +kernel
theorem dX3_readStep_58 : decode cX3_readStep 58 = .ok (.ifCond .eq 21, 3) := by decide +kernel
theorem dX3_readStep_61 : decode cX3_readStep 61 = .ok (.aload_n 0, 1) := by decide +kernel
theorem dX3_readStep_62 : decode cX3_readStep 62 = .ok (.aload_n 1, 1) := by decide +kernel
theorem dX3_readStep_63 : decode cX3_readStep 63 = .ok (.iload 4, 2) := by decide +kernel
theorem dX3_readStep_65 : decode cX3_readStep 65 = .ok (.invokevirtual 57, 3) := by decide +kernel
theorem dX3_readStep_68 : decode cX3_readStep 68 = .ok (.istore 5, 2) := by decide +kernel
theorem dX3_readStep_70 : decode cX3_readStep 70 = .ok (.iload 4, 2) := by decide +kernel
theorem dX3_readStep_72 : decode cX3_readStep 72 = .ok (.iconst 1, 1) := by decide +kernel
theorem dX3_readStep_73 : decode cX3_readStep 73 = .ok (.iload 5, 2) := by decide +kernel
theorem dX3_readStep_75 : decode cX3_readStep 75 = .ok (.ishl, 1) := by decide +kernel
theorem dX3_readStep_76 : decode cX3_readStep 76 = .ok (.ior, 1) := by decide +kernel
theorem dX3_readStep_77 : decode cX3_readStep 77 = .ok (.istore 4, 2) := by decide +kernel
theorem dX3_readStep_79 : decode cX3_readStep 79 = .ok (.aload_n 0, 1) := by decide +kernel
theorem dX3_readStep_80 : decode cX3_readStep 80 = .ok (.aload_n 1, 1) := by decide +kernel
theorem dX3_readStep_81 : decode cX3_readStep 81 = .ok (.iload 4, 2) := by decide +kernel
theorem dX3_readStep_83 : decode cX3_readStep 83 = .ok (.invokevirtual 61, 3) := by decide +kernel
theorem dX3_readStep_86 : decode cX3_readStep 86 = .ok (.istore 6, 2) := by decide +kernel
theorem dX3_readStep_88 : decode cX3_readStep 88 = .ok (.aload_n 0, 1) := by decide +kernel
theorem dX3_readStep_89 : decode cX3_readStep 89 = .ok (.getfield 9, 3) := by decide +kernel
theorem dX3_readStep_92 : decode cX3_readStep 92 = .ok (.invokevirtual 44, 3) := by decide +kernel
theorem dX3_readStep_95 : decode cX3_readStep 95 = .ok (.ifCond .eq 4, 3) := by decide +kernel
theorem dX3_readStep_98 : decode cX3_readStep 98 = .ok (.return_, 1) := by decide +kernel
theorem dX3_readStep_99 : decode cX3_readStep 99 = .ok (.iload_n 2, 1) := by decide +kernel
theorem dX3_readStep_100 : decode cX3_readStep 100 = .ok (.ifCond .eq 15, 3) := by decide +kernel
theorem dX3_readStep_103 : decode cX3_readStep 103 = .ok (.aload_n 1, 1) := by decide +kernel
theorem dX3_readStep_104 : decode cX3_readStep 104 = .ok (.iload_n 3, 1) := by decide +kernel
theorem dX3_readStep_105 : decode cX3_readStep 105 = .ok (.iload 5, 2) := by decide +kernel
theorem dX3_readStep_107 : decode cX3_readStep 107 = .ok (.iload 6, 2) := by decide +kernel
theorem dX3_readStep_109 : decode cX3_readStep 109 = .ok (.invokevirtual 64, 3) := by decide +kernel
theorem dX3_readStep_112 : decode cX3_readStep 112 = .ok (.goto 10, 3) := by decide +kernel
theorem dX3_readStep_115 : decode cX3_readStep 115 = .ok (.aload_n 1, 1) := by decide +kernel
theorem dX3_readStep_116 : decode cX3_readStep 116 = .ok (.iload_n 3, 1) := by decide +kernel
theorem dX3_readStep_117 : decode cX3_readStep 117 = .ok (.iload 6, 2) := by decide +kernel
theorem dX3_readStep_119 : decode cX3_readStep 119 = .ok (.invokevirtual 68, 3) := by decide +kernel
theorem dX3_readStep_122 : decode cX3_readStep 122 = .ok (.return_, 1) := by decide +kernel
theorem dX3_readIfs_0 : decode cX3_readIfs 0 = .ok (.iconst 0, 1) := by decide +kernel
theorem dX3_readIfs_1 : decode cX3_readIfs 1 = .ok (.istore_n 3, 1) := by decide +kernel
theorem dX3_readIfs_2 : decode cX3_readIfs 2 = .ok (.iconst 0, 1) := by decide +kernel
theorem dX3_readIfs_3 : decode cX3_readIfs 3 = .ok (.istore 4, 2) := by decide +kernel
theorem dX3_readIfs_5 : decode cX3_readIfs 5 = .ok (.iload 4, 2) := by decide +kernel
theorem dX3_readIfs_7 : decode cX3_readIfs 7 = .ok (.bipush 8, 2) := by decide +kernel
theorem dX3_readIfs_9 : decode cX3_readIfs 9 = .ok (.if_icmp .gt 40, 3) := by decide +kernel
theorem dX3_readIfs_12 : decode cX3_readIfs 12 = .ok (.aload_n 0, 1) := by decide +kernel
theorem dX3_readIfs_13 : decode cX3_readIfs 13 = .ok (.getfield 9, 3) := by decide +kernel
theorem dX3_readIfs_16 : decode cX3_readIfs 16 = .ok (.invokevirtual 36, 3) := by decide +kernel
theorem dX3_readIfs_19 : decode cX3_readIfs 19 = .ok (.iconst 4, 1) := by decide +kernel
theorem dX3_readIfs_20 : decode cX3_readIfs 20 = .ok (.if_icmp .ne 29, 3) := by decide +kernel
theorem dX3_readIfs_23 : decode cX3_readIfs 23 = .ok (.aload_n 0, 1) := by decide +kernel
theorem dX3_readIfs_24 : decode cX3_readIfs 24 = .ok (.getfield 9, 3) := by decide +kernel
theorem dX3_readIfs_27 : decode cX3_readIfs 27 = .ok (.invokevirtual 54, 3) := by decide +kernel
theorem dX3_readIfs_30 : decode cX3_readIfs 30 = .ok (.iload_n 3, 1) := by decide +kernel
theorem dX3_readIfs_31 : decode cX3_readIfs 31 = .ok (.iconst 1, 1) := by decide +kernel
theorem dX3_readIfs_32 : decode cX3_readIfs 32 = .ok (.aload_n 0, 1) := by decide +kernel
theorem dX3_readIfs_33 : decode cX3_readIfs 33 = .ok (.aload_n 1, 1) := by decide +kernel
theorem dX3_readIfs_34 : decode cX3_readIfs 34 = .ok (.iload_n 2, 1) := by decide +kernel
theorem dX3_readIfs_35 : decode cX3_readIfs 35 = .ok (.iload_n 3, 1) := by decide +kernel
theorem dX3_readIfs_36 : decode cX3_readIfs 36 = .ok (.ior, 1) := by decide +kernel
theorem dX3_readIfs_37 : decode cX3_readIfs 37 = .ok (.invokevirtual 57, 3) := by decide +kernel
theorem dX3_readIfs_40 : decode cX3_readIfs 40 = .ok (.ishl, 1) := by decide +kernel
theorem dX3_readIfs_41 : decode cX3_readIfs 41 = .ok (.ior, 1) := by decide +kernel
theorem dX3_readIfs_42 : decode cX3_readIfs 42 = .ok (.istore_n 3, 1) := by decide +kernel
theorem dX3_readIfs_43 : decode cX3_readIfs 43 = .ok (.iinc 4 1, 3) := by decide +kernel
theorem dX3_readIfs_46 : decode cX3_readIfs 46 = .ok (.goto (-41), 3) := by decide +kernel
theorem dX3_readIfs_49 : decode cX3_readIfs 49 = .ok (.iload_n 3, 1) := by decide +kernel
theorem dX3_readIfs_50 : decode cX3_readIfs 50 = .ok (.ireturn, 1) := by decide +kernel
theorem dX3_readLane_0 : decode cX3_readLane 0 = .ok (.aload_n 0, 1) := by decide +kernel
theorem dX3_readLane_1 : decode cX3_readLane 1 = .ok (.getfield 9, 3) := by decide +kernel
theorem dX3_readLane_4 : decode cX3_readLane 4 = .ok (.invokevirtual 72, 3) := by decide +kernel
theorem dX3_readLane_7 : decode cX3_readLane 7 = .ok (.iconst 2, 1) := by decide +kernel
theorem dX3_readLane_8 : decode cX3_readLane 8 = .ok (.if_icmp .ne 39, 3) := by decide +kernel
theorem dX3_readLane_11 : decode cX3_readLane 11 = .ok (.aload_n 0, 1) := by decide +kernel
theorem dX3_readLane_12 : decode cX3_readLane 12 = .ok (.getfield 9, 3) := by decide +kernel
theorem dX3_readLane_15 : decode cX3_readLane 15 = .ok (.invokevirtual 75, 3) := by decide +kernel
theorem dX3_readLane_18 : decode cX3_readLane 18 = .ok (.aload_n 1, 1) := by decide +kernel
theorem dX3_readLane_19 : decode cX3_readLane 19 = .ok (.invokevirtual 78, 3) := by decide +kernel
theorem dX3_readLane_22 : decode cX3_readLane 22 = .ok (.if_icmp .ge 25, 3) := by decide +kernel
theorem dX3_readLane_25 : decode cX3_readLane 25 = .ok (.iload_n 2, 1) := by decide +kernel
theorem dX3_readLane_26 : decode cX3_readLane 26 = .ok (.aload_n 0, 1) := by decide +kernel
theorem dX3_readLane_27 : decode cX3_readLane 27 = .ok (.getfield 9, 3) := by decide +kernel
theorem dX3_readLane_30 : decode cX3_readLane 30 = .ok (.invokevirtual 75, 3) := by decide +kernel
theorem dX3_readLane_33 : decode cX3_readLane 33 = .ok (.ishr, 1) := by decide +kernel
theorem dX3_readLane_34 : decode cX3_readLane 34 = .ok (.iconst 1, 1) := by decide +kernel
theorem dX3_readLane_35 : decode cX3_readLane 35 = .ok (.iand, 1) := by decide +kernel
theorem dX3_readLane_36 : decode cX3_readLane 36 = .ok (.ifCond .eq 11, 3) := by decide +kernel
theorem dX3_readLane_39 : decode cX3_readLane 39 = .ok (.aload_n 0, 1) := by decide +kernel
theorem dX3_readLane_40 : decode cX3_readLane 40 = .ok (.getfield 9, 3) := by decide +kernel
theorem dX3_readLane_43 : decode cX3_readLane 43 = .ok (.iconst 3, 1) := by decide +kernel
theorem dX3_readLane_44 : decode cX3_readLane 44 = .ok (.invokevirtual 51, 3) := by decide +kernel
theorem dX3_readLane_47 : decode cX3_readLane 47 = .ok (.aload_n 0, 1) := by decide +kernel
theorem dX3_readLane_48 : decode cX3_readLane 48 = .ok (.getfield 9, 3) := by decide +kernel
theorem dX3_readLane_51 : decode cX3_readLane 51 = .ok (.iconst 0, 1) := by decide +kernel
theorem dX3_readLane_52 : decode cX3_readLane 52 = .ok (.aload_n 1, 1) := by decide +kernel
theorem dX3_readLane_53 : decode cX3_readLane 53 = .ok (.invokevirtual 78, 3) := by decide +kernel
theorem dX3_readLane_56 : decode cX3_readLane 56 = .ok (.iconst 1, 1) := by decide +kernel
theorem dX3_readLane_57 : decode cX3_readLane 57 = .ok (.isub, 1) := by decide +kernel
theorem dX3_readLane_58 : decode cX3_readLane 58 = .ok (.invokevirtual 24, 3) := by decide +kernel
theorem dX3_readLane_61 : decode cX3_readLane 61 = .ok (.ireturn, 1) := by decide +kernel
theorem dX4_init_0 : decode cX4_init 0 = .ok (.aload_n 0, 1) := by decide +kernel
theorem dX4_init_1 : decode cX4_init 1 = .ok (.invokespecial 3, 3) := by decide +kernel
theorem dX4_init_4 : decode cX4_init 4 = .ok (.aload_n 0, 1) := by decide +kernel
theorem dX4_init_5 : decode cX4_init 5 = .ok (.bipush 20, 2) := by decide +kernel
theorem dX4_init_7 : decode cX4_init 7 = .ok (.newarray .int, 2) := by decide +kernel
theorem dX4_init_9 : decode cX4_init 9 = .ok (.putfield 9, 3) := by decide +kernel
theorem dX4_init_12 : decode cX4_init 12 = .ok (.aload_n 0, 1) := by decide +kernel
theorem dX4_init_13 : decode cX4_init 13 = .ok (.bipush 20, 2) := by decide +kernel
theorem dX4_init_15 : decode cX4_init 15 = .ok (.newarray .int, 2) := by decide +kernel
theorem dX4_init_17 : decode cX4_init 17 = .ok (.putfield 15, 3) := by decide +kernel
theorem dX4_init_20 : decode cX4_init 20 = .ok (.aload_n 0, 1) := by decide +kernel
theorem dX4_init_21 : decode cX4_init 21 = .ok (.bipush 24, 2) := by decide +kernel
theorem dX4_init_23 : decode cX4_init 23 = .ok (.newarray .int, 2) := by decide +kernel
theorem dX4_init_25 : decode cX4_init 25 = .ok (.putfield 18, 3) := by decide +kernel
theorem dX4_init_28 : decode cX4_init 28 = .ok (.aload_n 0, 1) := by decide +kernel
theorem dX4_init_29 : decode cX4_init 29 = .ok (.bipush 20, 2) := by decide +kernel
theorem dX4_init_31 : decode cX4_init 31 = .ok (.newarray .int, 2) := by decide +kernel
theorem dX4_init_33 : decode cX4_init 33 = .ok (.putfield 21, 3) := by decide +kernel
theorem dX4_init_36 : decode cX4_init 36 = .ok (.aload_n 0, 1) := by decide +kernel
theorem dX4_init_37 : decode cX4_init 37 = .ok (.bipush 20, 2) := by decide +kernel
theorem dX4_init_39 : decode cX4_init 39 = .ok (.newarray .boolean, 2) := by decide +kernel
theorem dX4_init_41 : decode cX4_init 41 = .ok (.putfield 24, 3) := by decide +kernel
theorem dX4_init_44 : decode cX4_init 44 = .ok (.aload_n 0, 1) := by decide +kernel
theorem dX4_init_45 : decode cX4_init 45 = .ok (.aload_n 1, 1) := by decide +kernel
theorem dX4_init_46 : decode cX4_init 46 = .ok (.putfield 28, 3) := by decide +kernel
theorem dX4_init_49 : decode cX4_init 49 = .ok (.return_, 1) := by decide +kernel
theorem dX4_hasNoValue_0 : decode cX4_hasNoValue 0 = .ok (.iload_n 0, 1) := by decide +kernel
theorem dX4_hasNoValue_1 : decode cX4_hasNoValue 1 = .ok (.ifCond .lt 21, 3) := by decide +kernel
theorem dX4_hasNoValue_4 : decode cX4_hasNoValue 4 = .ok (.iload_n 0, 1) := by decide +kernel
theorem dX4_hasNoValue_5 : decode cX4_hasNoValue 5 = .ok (.bipush 20, 2) := by decide +kernel
theorem dX4_hasNoValue_7 : decode cX4_hasNoValue 7 = .ok (.if_icmp .ge 15, 3) := by decide +kernel
theorem dX4_hasNoValue_10 : decode cX4_hasNoValue 10 = .ok (.iload_n 0, 1) := by decide +kernel
theorem dX4_hasNoValue_11 : decode cX4_hasNoValue 11 = .ok (.bipush 8, 2) := by decide +kernel
theorem dX4_hasNoValue_13 : decode cX4_hasNoValue 13 = .ok (.if_icmp .lt 13, 3) := by decide +kernel
theorem dX4_hasNoValue_16 : decode cX4_hasNoValue 16 = .ok (.iload_n 0, 1) := by decide +kernel
theorem dX4_hasNoValue_17 : decode cX4_hasNoValue 17 = .ok (.bipush 10, 2) := by decide +kernel
theorem dX4_hasNoValue_19 : decode cX4_hasNoValue 19 = .ok (.if_icmp .ge 7, 3) := by decide +kernel
theorem dX4_hasNoValue_22 : decode cX4_hasNoValue 22 = .ok (.iconst 1, 1) := by decide +kernel
theorem dX4_hasNoValue_23 : decode cX4_hasNoValue 23 = .ok (.goto 4, 3) := by decide +kernel
theorem dX4_hasNoValue_26 : decode cX4_hasNoValue 26 = .ok (.iconst 0, 1) := by decide +kernel
theorem dX4_hasNoValue_27 : decode cX4_hasNoValue 27 = .ok (.ireturn, 1) := by decide +kernel
theorem dX4_put_0 : decode cX4_put 0 = .ok (.aload_n 0, 1) := by decide +kernel
theorem dX4_put_1 : decode cX4_put 1 = .ok (.getfield 9, 3) := by decide +kernel
theorem dX4_put_4 : decode cX4_put 4 = .ok (.iload_n 1, 1) := by decide +kernel
theorem dX4_put_5 : decode cX4_put 5 = .ok (.iaload, 1) := by decide +kernel
theorem dX4_put_6 : decode cX4_put 6 = .ok (.istore_n 3, 1) := by decide +kernel
theorem dX4_put_7 : decode cX4_put 7 = .ok (.aload_n 0, 1) := by decide +kernel
theorem dX4_put_8 : decode cX4_put 8 = .ok (.getfield 9, 3) := by decide +kernel
theorem dX4_put_11 : decode cX4_put 11 = .ok (.iload_n 1, 1) := by decide +kernel
theorem dX4_put_12 : decode cX4_put 12 = .ok (.iload_n 2, 1) := by decide +kernel
theorem dX4_put_13 : decode cX4_put 13 = .ok (.iastore, 1) := by decide +kernel
theorem dX4_put_14 : decode cX4_put 14 = .ok (.iload_n 3, 1) := by decide +kernel
theorem dX4_put_15 : decode cX4_put 15 = .ok (.ireturn, 1) := by decide +kernel
theorem dX4_valueOf_0 : decode cX4_valueOf 0 = .ok (.aload_n 0, 1) := by decide +kernel
theorem dX4_valueOf_1 : decode cX4_valueOf 1 = .ok (.getfield 9, 3) := by decide +kernel
theorem dX4_valueOf_4 : decode cX4_valueOf 4 = .ok (.iload_n 1, 1) := by decide +kernel
theorem dX4_valueOf_5 : decode cX4_valueOf 5 = .ok (.iaload, 1) := by decide +kernel
theorem dX4_valueOf_6 : decode cX4_valueOf 6 = .ok (.ireturn, 1) := by decide +kernel
theorem dX4_latestTrouble_0 : decode cX4_latestTrouble 0 = .ok (.aload_n 0, 1) := by decide +kernel
theorem dX4_latestTrouble_1 : decode cX4_latestTrouble 1 = .ok (.getfield 32, 3) := by decide +kernel
theorem dX4_latestTrouble_4 : decode cX4_latestTrouble 4 = .ok (.ireturn, 1) := by decide +kernel
theorem dX4_latestCounted_0 : decode cX4_latestCounted 0 = .ok (.aload_n 0, 1) := by decide +kernel
theorem dX4_latestCounted_1 : decode cX4_latestCounted 1 = .ok (.getfield 36, 3) := by decide +kernel
theorem dX4_latestCounted_4 : decode cX4_latestCounted 4 = .ok (.ireturn, 1) := by decide +kernel
theorem dX4_perform_0 : decode cX4_perform 0 = .ok (.aload_n 0, 1) := by decide +kernel
theorem dX4_perform_1 : decode cX4_perform 1 = .ok (.aload_n 1, 1) := by decide +kernel
theorem dX4_perform_2 : decode cX4_perform 2 = .ok (.putfield 28, 3) := by decide +kernel
theorem dX4_perform_5 : decode cX4_perform 5 = .ok (.aload_n 0, 1) := by decide +kernel
theorem dX4_perform_6 : decode cX4_perform 6 = .ok (.getfield 9, 3) := by decide +kernel
theorem dX4_perform_9 : decode cX4_perform 9 = .ok (.iconst 0, 1) := by decide +kernel
theorem dX4_perform_10 : decode cX4_perform 10 = .ok (.aload_n 0, 1) := by decide +kernel
theorem dX4_perform_11 : decode cX4_perform 11 = .ok (.getfield 15, 3) := by decide +kernel
theorem dX4_perform_14 : decode cX4_perform 14 = .ok (.iconst 0, 1) := by decide +kernel
theorem dX4_perform_15 : decode cX4_perform 15 = .ok (.bipush 20, 2) := by decide +kernel
theorem dX4_perform_17 : decode cX4_perform 17 = .ok (.invokestatic 39, 3) := by decide +kernel
theorem dX4_perform_20 : decode cX4_perform 20 = .ok (.aload_n 0, 1) := by decide +kernel
theorem dX4_perform_21 : decode cX4_perform 21 = .ok (.iconst 0, 1) := by decide +kernel
theorem dX4_perform_22 : decode cX4_perform 22 = .ok (.putfield 45, 3) := by decide +kernel
theorem dX4_perform_25 : decode cX4_perform 25 = .ok (.aload_n 0, 1) := by decide +kernel
theorem dX4_perform_26 : decode cX4_perform 26 = .ok (.iconst 0, 1) := by decide +kernel
theorem dX4_perform_27 : decode cX4_perform 27 = .ok (.putfield 36, 3) := by decide +kernel
theorem dX4_perform_30 : decode cX4_perform 30 = .ok (.aload_n 0, 1) := by decide +kernel
theorem dX4_perform_31 : decode cX4_perform 31 = .ok (.iconst 0, 1) := by decide +kernel
theorem dX4_perform_32 : decode cX4_perform 32 = .ok (.putfield 32, 3) := by decide +kernel
theorem dX4_perform_35 : decode cX4_perform 35 = .ok (.aload_n 0, 1) := by decide +kernel
theorem dX4_perform_36 : decode cX4_perform 36 = .ok (.iconst 0, 1) := by decide +kernel
theorem dX4_perform_37 : decode cX4_perform 37 = .ok (.putfield 48, 3) := by decide +kernel
theorem dX4_perform_40 : decode cX4_perform 40 = .ok (.aload_n 0, 1) := by decide +kernel
theorem dX4_perform_41 : decode cX4_perform 41 = .ok (.iload_n 3, 1) := by decide +kernel
theorem dX4_perform_42 : decode cX4_perform 42 = .ok (.putfield 52, 3) := by decide +kernel
theorem dX4_perform_45 : decode cX4_perform 45 = .ok (.aload_n 0, 1) := by decide +kernel
theorem dX4_perform_46 : decode cX4_perform 46 = .ok (.bipush 120, 2) := by decide +kernel
theorem dX4_perform_48 : decode cX4_perform 48 = .ok (.iload_n 2, 1) := by decide +kernel
theorem dX4_perform_49 : decode cX4_perform 49 = .ok (.iadd, 1) := by decide +kernel
theorem dX4_perform_50 : decode cX4_perform 50 = .ok (.invokevirtual 57, 3) := by decide +kernel
theorem dX4_perform_53 : decode cX4_perform 53 = .ok (.iconst 0, 1) := by decide +kernel
theorem dX4_perform_54 : decode cX4_perform 54 = .ok (.istore 4, 2) := by decide +kernel
theorem dX4_perform_56 : decode cX4_perform 56 = .ok (.iload 4, 2) := by decide +kernel
theorem dX4_perform_58 : decode cX4_perform 58 = .ok (.ldc 61, 2) := by decide +kernel
theorem dX4_perform_60 : decode cX4_perform 60 = .ok (.if_icmp .ge 46, 3) := by decide +kernel
theorem dX4_perform_63 : decode cX4_perform 63 = .ok (.aload_n 0, 1) := by decide +kernel
theorem dX4_perform_64 : decode cX4_perform 64 = .ok (.getfield 48, 3) := by decide +kernel
theorem dX4_perform_67 : decode cX4_perform 67 = .ok (.ifCond .ne 39, 3) := by decide +kernel
theorem dX4_perform_70 : decode cX4_perform 70 = .ok (.aload_n 0, 1) := by decide +kernel
theorem dX4_perform_71 : decode cX4_perform 71 = .ok (.getfield 32, 3) := by decide +kernel
theorem dX4_perform_74 : decode cX4_perform 74 = .ok (.ifCond .ne 32, 3) := by decide +kernel
theorem dX4_perform_77 : decode cX4_perform 77 = .ok (.aload_n 0, 1) := by decide +kernel
theorem dX4_perform_78 : decode cX4_perform 78 = .ok (.getfield 62, 3) := by decide +kernel
theorem dX4_perform_81 : decode cX4_perform 81 = .ok (.iconst (-1), 1) := by decide +kernel
theorem dX4_perform_82 : decode cX4_perform 82 = .ok (.if_icmp .ne 10, 3) := by decide +kernel
theorem dX4_perform_85 : decode cX4_perform 85 = .ok (.aload_n 0, 1) := by decide +kernel
theorem dX4_perform_86 : decode cX4_perform 86 = .ok (.invokevirtual 65, 3) := by decide +kernel
theorem dX4_perform_89 : decode cX4_perform 89 = .ok (.goto 11, 3) := by decide +kernel
theorem dX4_perform_92 : decode cX4_perform 92 = .ok (.aload_n 0, 1) := by decide +kernel
theorem dX4_perform_93 : decode cX4_perform 93 = .ok (.aload_n 0, 1) := by decide +kernel
theorem dX4_perform_94 : decode cX4_perform 94 = .ok (.getfield 62, 3) := by decide +kernel
theorem dX4_perform_97 : decode cX4_perform 97 = .ok (.invokevirtual 68, 3) := by decide +kernel
theorem dX4_perform_100 : decode cX4_perform 100 = .ok (.iinc 4 1, 3) := by decide +kernel
theorem dX4_perform_103 : decode cX4_perform 103 = .ok (.goto (-47), 3) := by decide +kernel
theorem dX4_perform_106 : decode cX4_perform 106 = .ok (.aload_n 0, 1) := by decide +kernel
theorem dX4_perform_107 : decode cX4_perform 107 = .ok (.getfield 32, 3) := by decide +kernel
theorem dX4_perform_110 : decode cX4_perform 110 = .ok (.ifCond .eq 20, 3) := by decide +kernel
theorem dX4_perform_113 : decode cX4_perform 113 = .ok (.aload_n 0, 1) := by decide +kernel
theorem dX4_perform_114 : decode cX4_perform 114 = .ok (.getfield 15, 3) := by decide +kernel
theorem dX4_perform_117 : decode cX4_perform 117 = .ok (.iconst 0, 1) := by decide +kernel
theorem dX4_perform_118 : decode cX4_perform 118 = .ok (.aload_n 0, 1) := by decide +kernel
theorem dX4_perform_119 : decode cX4_perform 119 = .ok (.getfield 9, 3) := by decide +kernel
theorem dX4_perform_122 : decode cX4_perform 122 = .ok (.iconst 0, 1) := by decide +kernel
theorem dX4_perform_123 : decode cX4_perform 123 = .ok (.bipush 20, 2) := by decide +kernel
theorem dX4_perform_125 : decode cX4_perform 125 = .ok (.invokestatic 39, 3) := by decide +kernel
theorem dX4_perform_128 : decode cX4_perform 128 = .ok (.iconst (-1), 1) := by decide +kernel
theorem dX4_perform_129 : decode cX4_perform 129 = .ok (.ireturn, 1) := by decide +kernel
theorem dX4_perform_130 : decode cX4_perform 130 = .ok (.aload_n 0, 1) := by decide +kernel
theorem dX4_perform_131 : decode cX4_perform 131 = .ok (.getfield 36, 3) := by decide +kernel
theorem dX4_perform_134 : decode cX4_perform 134 = .ok (.ireturn, 1) := by decide +kernel
theorem dX4_enter_0 : decode cX4_enter 0 = .ok (.aload_n 0, 1) := by decide +kernel
theorem dX4_enter_1 : decode cX4_enter 1 = .ok (.iload_n 1, 1) := by decide +kernel
theorem dX4_enter_2 : decode cX4_enter 2 = .ok (.putfield 71, 3) := by decide +kernel
theorem dX4_enter_5 : decode cX4_enter 5 = .ok (.aload_n 0, 1) := by decide +kernel
theorem dX4_enter_6 : decode cX4_enter 6 = .ok (.aload_n 0, 1) := by decide +kernel
theorem dX4_enter_7 : decode cX4_enter 7 = .ok (.getfield 28, 3) := by decide +kernel
theorem dX4_enter_10 : decode cX4_enter 10 = .ok (.iload_n 1, 1) := by decide +kernel
theorem dX4_enter_11 : decode cX4_enter 11 = .ok (.aload_n 0, 1) := by decide +kernel
theorem dX4_enter_12 : decode cX4_enter 12 = .ok (.getfield 52, 3) := by decide +kernel
theorem dX4_enter_15 : decode cX4_enter 15 = .ok (.invokevirtual 74, 3) := by decide +kernel
theorem dX4_enter_18 : decode cX4_enter 18 = .ok (.putfield 62, 3) := by decide +kernel
theorem dX4_enter_21 : decode cX4_enter 21 = .ok (.return_, 1) := by decide +kernel
theorem dX4_goBehind_0 : decode cX4_goBehind 0 = .ok (.aload_n 0, 1) := by decide +kernel
theorem dX4_goBehind_1 : decode cX4_goBehind 1 = .ok (.aload_n 0, 1) := by decide +kernel
theorem dX4_goBehind_2 : decode cX4_goBehind 2 = .ok (.getfield 28, 3) := by decide +kernel
theorem dX4_goBehind_5 : decode cX4_goBehind 5 = .ok (.iload_n 1, 1) := by decide +kernel
theorem dX4_goBehind_6 : decode cX4_goBehind 6 = .ok (.invokevirtual 78, 3) := by decide +kernel
theorem dX4_goBehind_9 : decode cX4_goBehind 9 = .ok (.putfield 71, 3) := by decide +kernel
theorem dX4_goBehind_12 : decode cX4_goBehind 12 = .ok (.aload_n 0, 1) := by decide +kernel
theorem dX4_goBehind_13 : decode cX4_goBehind 13 = .ok (.aload_n 0, 1) := by decide +kernel
theorem dX4_goBehind_14 : decode cX4_goBehind 14 = .ok (.getfield 28, 3) := by decide +kernel
theorem dX4_goBehind_17 : decode cX4_goBehind 17 = .ok (.iload_n 1, 1) := by decide +kernel
theorem dX4_goBehind_18 : decode cX4_goBehind 18 = .ok (.aload_n 0, 1) := by decide +kernel
theorem dX4_goBehind_19 : decode cX4_goBehind 19 = .ok (.getfield 52, 3) := by decide +kernel
theorem dX4_goBehind_22 : decode cX4_goBehind 22 = .ok (.invokevirtual 82, 3) := by decide +kernel
theorem dX4_goBehind_25 : decode cX4_goBehind 25 = .ok (.putfield 62, 3) := by decide +kernel
theorem dX4_goBehind_28 : decode cX4_goBehind 28 = .ok (.return_, 1) := by decide +kernel
theorem dX4_meet_0 : decode cX4_meet 0 = .ok (.aload_n 0, 1) := by decide +kernel
theorem dX4_meet_1 : decode cX4_meet 1 = .ok (.getfield 32, 3) := by decide +kernel
theorem dX4_meet_4 : decode cX4_meet 4 = .ok (.ifCond .ne 8, 3) := by decide +kernel
theorem dX4_meet_7 : decode cX4_meet 7 = .ok (.aload_n 0, 1) := by decide +kernel
theorem dX4_meet_8 : decode cX4_meet 8 = .ok (.iload_n 1, 1) := by decide +kernel
theorem dX4_meet_9 : decode cX4_meet 9 = .ok (.putfield 32, 3) := by decide +kernel
theorem dX4_meet_12 : decode cX4_meet 12 = .ok (.return_, 1) := by decide +kernel
theorem dX4_countOne_0 : decode cX4_countOne 0 = .ok (.aload_n 0, 1) := by decide +kernel
theorem dX4_countOne_1 : decode cX4_countOne 1 = .ok (.dup, 1) := by decide +kernel
theorem dX4_countOne_2 : decode cX4_countOne 2 = .ok (.getfield 36, 3) := by decide +kernel
theorem dX4_countOne_5 : decode cX4_countOne 5 = .ok (.iconst 1, 1) := by decide +kernel
theorem dX4_countOne_6 : decode cX4_countOne 6 = .ok (.iadd, 1) := by decide +kernel
theorem dX4_countOne_7 : decode cX4_countOne 7 = .ok (.putfield 36, 3) := by decide +kernel
theorem dX4_countOne_10 : decode cX4_countOne 10 = .ok (.aload_n 0, 1) := by decide +kernel
theorem dX4_countOne_11 : decode cX4_countOne 11 = .ok (.getfield 36, 3) := by decide +kernel
theorem dX4_countOne_14 : decode cX4_countOne 14 = .ok (.sipush 5000, 3) := by decide +kernel
theorem dX4_countOne_17 : decode cX4_countOne 17 = .ok (.if_icmp .le 8, 3) := by decide +kernel
theorem dX4_countOne_20 : decode cX4_countOne 20 = .ok (.aload_n 0, 1) := by decide +kernel
theorem dX4_countOne_21 : decode cX4_countOne 21 = .ok (.iconst 3, 1) := by decide +kernel
theorem dX4_countOne_22 : decode cX4_countOne 22 = .ok (.invokevirtual 85, 3) := by decide +kernel
theorem dX4_countOne_25 : decode cX4_countOne 25 = .ok (.return_, 1) := by decide +kernel
theorem dX4_beginStep_0 : decode cX4_beginStep 0 = .ok (.aload_n 0, 1) := by decide +kernel
theorem dX4_beginStep_1 : decode cX4_beginStep 1 = .ok (.invokevirtual 88, 3) := by decide +kernel
theorem dX4_beginStep_4 : decode cX4_beginStep 4 = .ok (.aload_n 0, 1) := by decide +kernel
theorem dX4_beginStep_5 : decode cX4_beginStep 5 = .ok (.getfield 32, 3) := by decide +kernel
theorem dX4_beginStep_8 : decode cX4_beginStep 8 = .ok (.ifCond .eq 4, 3) := by decide +kernel
theorem dX4_beginStep_11 : decode cX4_beginStep 11 = .ok (.return_, 1) := by decide +kernel
theorem dX4_beginStep_12 : decode cX4_beginStep 12 = .ok (.aload_n 0, 1) := by decide +kernel
theorem dX4_beginStep_13 : decode cX4_beginStep 13 = .ok (.getfield 28, 3) := by decide +kernel
theorem dX4_beginStep_16 : decode cX4_beginStep 16 = .ok (.iload_n 1, 1) := by decide +kernel
theorem dX4_beginStep_17 : decode cX4_beginStep 17 = .ok (.invokevirtual 91, 3) := by decide +kernel
theorem dX4_beginStep_20 : decode cX4_beginStep 20 = .ok (.tableswitch 129 3 7 #[93, 36, 61, 85, 85], 36) := by decide +kernel
theorem dX4_beginStep_56 : decode cX4_beginStep 56 = .ok (.aload_n 0, 1) := by decide +kernel
theorem dX4_beginStep_57 : decode cX4_beginStep 57 = .ok (.iconst 2, 1) := by decide +kernel
theorem dX4_beginStep_58 : decode cX4_beginStep 58 = .ok (.iload_n 1, 1) := by decide +kernel
theorem dX4_beginStep_59 : decode cX4_beginStep 59 = .ok (.imul, 1) := by decide +kernel
theorem dX4_beginStep_60 : decode cX4_beginStep 60 = .ok (.aload_n 0, 1) := by decide +kernel
theorem dX4_beginStep_61 : decode cX4_beginStep 61 = .ok (.iload_n 1, 1) := by decide +kernel
theorem dX4_beginStep_62 : decode cX4_beginStep 62 = .ok (.iconst 1, 1) := by decide +kernel
theorem dX4_beginStep_63 : decode cX4_beginStep 63 = .ok (.invokevirtual 94, 3) := by decide +kernel
theorem dX4_beginStep_66 : decode cX4_beginStep 66 = .ok (.ifCond .eq 7, 3) := by decide +kernel
theorem dX4_beginStep_69 : decode cX4_beginStep 69 = .ok (.iconst 0, 1) := by decide +kernel
theorem dX4_beginStep_70 : decode cX4_beginStep 70 = .ok (.goto 4, 3) := by decide +kernel
theorem dX4_beginStep_73 : decode cX4_beginStep 73 = .ok (.iconst 1, 1) := by decide +kernel
theorem dX4_beginStep_74 : decode cX4_beginStep 74 = .ok (.iadd, 1) := by decide +kernel
theorem dX4_beginStep_75 : decode cX4_beginStep 75 = .ok (.invokevirtual 57, 3) := by decide +kernel
theorem dX4_beginStep_78 : decode cX4_beginStep 78 = .ok (.goto 81, 3) := by decide +kernel
theorem dX4_beginStep_81 : decode cX4_beginStep 81 = .ok (.aload_n 0, 1) := by decide +kernel
theorem dX4_beginStep_82 : decode cX4_beginStep 82 = .ok (.iload_n 1, 1) := by decide +kernel
theorem dX4_beginStep_83 : decode cX4_beginStep 83 = .ok (.iconst 1, 1) := by decide +kernel
theorem dX4_beginStep_84 : decode cX4_beginStep 84 = .ok (.invokevirtual 94, 3) := by decide +kernel
theorem dX4_beginStep_87 : decode cX4_beginStep 87 = .ok (.ifCond .ne 8, 3) := by decide +kernel
theorem dX4_beginStep_90 : decode cX4_beginStep 90 = .ok (.aload_n 0, 1) := by decide +kernel
theorem dX4_beginStep_91 : decode cX4_beginStep 91 = .ok (.iconst 1, 1) := by decide +kernel
theorem dX4_beginStep_92 : decode cX4_beginStep 92 = .ok (.invokevirtual 85, 3) := by decide +kernel
theorem dX4_beginStep_95 : decode cX4_beginStep 95 = .ok (.aload_n 0, 1) := by decide +kernel
theorem dX4_beginStep_96 : decode cX4_beginStep 96 = .ok (.iconst 2, 1) := by decide +kernel
theorem dX4_beginStep_97 : decode cX4_beginStep 97 = .ok (.iload_n 1, 1) := by decide +kernel
theorem dX4_beginStep_98 : decode cX4_beginStep 98 = .ok (.imul, 1) := by decide +kernel
theorem dX4_beginStep_99 : decode cX4_beginStep 99 = .ok (.invokevirtual 57, 3) := by decide +kernel
theorem dX4_beginStep_102 : decode cX4_beginStep 102 = .ok (.goto 57, 3) := by decide +kernel
theorem dX4_beginStep_105 : decode cX4_beginStep 105 = .ok (.aload_n 0, 1) := by decide +kernel
theorem dX4_beginStep_106 : decode cX4_beginStep 106 = .ok (.iload_n 1, 1) := by decide +kernel
theorem dX4_beginStep_107 : decode cX4_beginStep 107 = .ok (.invokevirtual 98, 3) := by decide +kernel
theorem dX4_beginStep_110 : decode cX4_beginStep 110 = .ok (.goto 49, 3) := by decide +kernel
theorem dX4_beginStep_113 : decode cX4_beginStep 113 = .ok (.aload_n 0, 1) := by decide +kernel
theorem dX4_beginStep_114 : decode cX4_beginStep 114 = .ok (.aload_n 0, 1) := by decide +kernel
theorem dX4_beginStep_115 : decode cX4_beginStep 115 = .ok (.aload_n 0, 1) := by decide +kernel
theorem dX4_beginStep_116 : decode cX4_beginStep 116 = .ok (.getfield 28, 3) := by decide +kernel
theorem dX4_beginStep_119 : decode cX4_beginStep 119 = .ok (.iload_n 1, 1) := by decide +kernel
theorem dX4_beginStep_120 : decode cX4_beginStep 120 = .ok (.invokevirtual 101, 3) := by decide +kernel
theorem dX4_beginStep_123 : decode cX4_beginStep 123 = .ok (.invokevirtual 104, 3) := by decide +kernel
theorem dX4_beginStep_126 : decode cX4_beginStep 126 = .ok (.aload_n 0, 1) := by decide +kernel
theorem dX4_beginStep_127 : decode cX4_beginStep 127 = .ok (.aload_n 0, 1) := by decide +kernel
theorem dX4_beginStep_128 : decode cX4_beginStep 128 = .ok (.getfield 28, 3) := by decide +kernel
theorem dX4_beginStep_131 : decode cX4_beginStep 131 = .ok (.iload_n 1, 1) := by decide +kernel
theorem dX4_beginStep_132 : decode cX4_beginStep 132 = .ok (.invokevirtual 107, 3) := by decide +kernel
theorem dX4_beginStep_135 : decode cX4_beginStep 135 = .ok (.invokevirtual 104, 3) := by decide +kernel
theorem dX4_beginStep_138 : decode cX4_beginStep 138 = .ok (.invokevirtual 110, 3) := by decide +kernel
theorem dX4_beginStep_141 : decode cX4_beginStep 141 = .ok (.aload_n 0, 1) := by decide +kernel
theorem dX4_beginStep_142 : decode cX4_beginStep 142 = .ok (.iload_n 1, 1) := by decide +kernel
theorem dX4_beginStep_143 : decode cX4_beginStep 143 = .ok (.invokevirtual 114, 3) := by decide +kernel
theorem dX4_beginStep_146 : decode cX4_beginStep 146 = .ok (.goto 13, 3) := by decide +kernel
theorem dX4_beginStep_149 : decode cX4_beginStep 149 = .ok (.aload_n 0, 1) := by decide +kernel
theorem dX4_beginStep_150 : decode cX4_beginStep 150 = .ok (.iload_n 1, 1) := by decide +kernel
theorem dX4_beginStep_151 : decode cX4_beginStep 151 = .ok (.invokevirtual 117, 3) := by decide +kernel
theorem dX4_beginStep_154 : decode cX4_beginStep 154 = .ok (.aload_n 0, 1) := by decide +kernel
theorem dX4_beginStep_155 : decode cX4_beginStep 155 = .ok (.iload_n 1, 1) := by decide +kernel
theorem dX4_beginStep_156 : decode cX4_beginStep 156 = .ok (.invokevirtual 114, 3) := by decide +kernel
theorem dX4_beginStep_159 : decode cX4_beginStep 159 = .ok (.return_, 1) := by decide +kernel
theorem dX4_beginCall_0 : decode cX4_beginCall 0 = .ok (.aload_n 0, 1) := by decide +kernel
theorem dX4_beginCall_1 : decode cX4_beginCall 1 = .ok (.getfield 45, 3) := by decide +kernel
theorem dX4_beginCall_4 : decode cX4_beginCall 4 = .ok (.bipush 20, 2) := by decide +kernel
theorem dX4_beginCall_6 : decode cX4_beginCall 6 = .ok (.if_icmp .lt 9, 3) := by decide +kernel
theorem dX4_beginCall_9 : decode cX4_beginCall 9 = .ok (.aload_n 0, 1) := by decide +kernel
theorem dX4_beginCall_10 : decode cX4_beginCall 10 = .ok (.iconst 4, 1) := by decide +kernel
theorem dX4_beginCall_11 : decode cX4_beginCall 11 = .ok (.invokevirtual 85, 3) := by decide +kernel
theorem dX4_beginCall_14 : decode cX4_beginCall 14 = .ok (.return_, 1) := by decide +kernel
theorem dX4_beginCall_15 : decode cX4_beginCall 15 = .ok (.aload_n 0, 1) := by decide +kernel
theorem dX4_beginCall_16 : decode cX4_beginCall 16 = .ok (.getfield 21, 3) := by decide +kernel
theorem dX4_beginCall_19 : decode cX4_beginCall 19 = .ok (.aload_n 0, 1) := by decide +kernel
theorem dX4_beginCall_20 : decode cX4_beginCall 20 = .ok (.getfield 45, 3) := by decide +kernel
theorem dX4_beginCall_23 : decode cX4_beginCall 23 = .ok (.iload_n 1, 1) := by decide +kernel
theorem dX4_beginCall_24 : decode cX4_beginCall 24 = .ok (.iastore, 1) := by decide +kernel
theorem dX4_beginCall_25 : decode cX4_beginCall 25 = .ok (.aload_n 0, 1) := by decide +kernel
theorem dX4_beginCall_26 : decode cX4_beginCall 26 = .ok (.getfield 24, 3) := by decide +kernel
theorem dX4_beginCall_29 : decode cX4_beginCall 29 = .ok (.aload_n 0, 1) := by decide +kernel
theorem dX4_beginCall_30 : decode cX4_beginCall 30 = .ok (.getfield 45, 3) := by decide +kernel
theorem dX4_beginCall_33 : decode cX4_beginCall 33 = .ok (.aload_n 0, 1) := by decide +kernel
theorem dX4_beginCall_34 : decode cX4_beginCall 34 = .ok (.getfield 52, 3) := by decide +kernel
theorem dX4_beginCall_37 : decode cX4_beginCall 37 = .ok (.bastore, 1) := by decide +kernel
theorem dX4_beginCall_38 : decode cX4_beginCall 38 = .ok (.aload_n 0, 1) := by decide +kernel
theorem dX4_beginCall_39 : decode cX4_beginCall 39 = .ok (.dup, 1) := by decide +kernel
theorem dX4_beginCall_40 : decode cX4_beginCall 40 = .ok (.getfield 45, 3) := by decide +kernel
theorem dX4_beginCall_43 : decode cX4_beginCall 43 = .ok (.iconst 1, 1) := by decide +kernel
theorem dX4_beginCall_44 : decode cX4_beginCall 44 = .ok (.iadd, 1) := by decide +kernel
theorem dX4_beginCall_45 : decode cX4_beginCall 45 = .ok (.putfield 45, 3) := by decide +kernel
theorem dX4_beginCall_48 : decode cX4_beginCall 48 = .ok (.aload_n 0, 1) := by decide +kernel
theorem dX4_beginCall_49 : decode cX4_beginCall 49 = .ok (.dup, 1) := by decide +kernel
theorem dX4_beginCall_50 : decode cX4_beginCall 50 = .ok (.getfield 52, 3) := by decide +kernel
theorem dX4_beginCall_53 : decode cX4_beginCall 53 = .ok (.aload_n 0, 1) := by decide +kernel
theorem dX4_beginCall_54 : decode cX4_beginCall 54 = .ok (.getfield 28, 3) := by decide +kernel
theorem dX4_beginCall_57 : decode cX4_beginCall 57 = .ok (.iload_n 1, 1) := by decide +kernel
theorem dX4_beginCall_58 : decode cX4_beginCall 58 = .ok (.invokevirtual 91, 3) := by decide +kernel
theorem dX4_beginCall_61 : decode cX4_beginCall 61 = .ok (.bipush 7, 2) := by decide +kernel
theorem dX4_beginCall_63 : decode cX4_beginCall 63 = .ok (.if_icmp .ne 7, 3) := by decide +kernel
theorem dX4_beginCall_66 : decode cX4_beginCall 66 = .ok (.iconst 1, 1) := by decide +kernel
theorem dX4_beginCall_67 : decode cX4_beginCall 67 = .ok (.goto 4, 3) := by decide +kernel
theorem dX4_beginCall_70 : decode cX4_beginCall 70 = .ok (.iconst 0, 1) := by decide +kernel
theorem dX4_beginCall_71 : decode cX4_beginCall 71 = .ok (.ixor, 1) := by decide +kernel
theorem dX4_beginCall_72 : decode cX4_beginCall 72 = .ok (.putfield 52, 3) := by decide +kernel
theorem dX4_beginCall_75 : decode cX4_beginCall 75 = .ok (.aload_n 0, 1) := by decide +kernel
theorem dX4_beginCall_76 : decode cX4_beginCall 76 = .ok (.bipush 120, 2) := by decide +kernel
theorem dX4_beginCall_78 : decode cX4_beginCall 78 = .ok (.aload_n 0, 1) := by decide +kernel
theorem dX4_beginCall_79 : decode cX4_beginCall 79 = .ok (.getfield 28, 3) := by decide +kernel
theorem dX4_beginCall_82 : decode cX4_beginCall 82 = .ok (.iload_n 1, 1) := by decide +kernel
theorem dX4_beginCall_83 : decode cX4_beginCall 83 = .ok (.invokevirtual 101, 3) := by decide +kernel
theorem dX4_beginCall_86 : decode cX4_beginCall 86 = .ok (.iadd, 1) := by decide +kernel
theorem dX4_beginCall_87 : decode cX4_beginCall 87 = .ok (.invokevirtual 57, 3) := by decide +kernel
theorem dX4_beginCall_90 : decode cX4_beginCall 90 = .ok (.return_, 1) := by decide +kernel
theorem dX4_endCall_0 : decode cX4_endCall 0 = .ok (.aload_n 0, 1) := by decide +kernel
theorem dX4_endCall_1 : decode cX4_endCall 1 = .ok (.getfield 45, 3) := by decide +kernel
theorem dX4_endCall_4 : decode cX4_endCall 4 = .ok (.ifCond .ne 9, 3) := by decide +kernel
theorem dX4_endCall_7 : decode cX4_endCall 7 = .ok (.aload_n 0, 1) := by decide +kernel
theorem dX4_endCall_8 : decode cX4_endCall 8 = .ok (.iconst 1, 1) := by decide +kernel
theorem dX4_endCall_9 : decode cX4_endCall 9 = .ok (.putfield 48, 3) := by decide +kernel
theorem dX4_endCall_12 : decode cX4_endCall 12 = .ok (.return_, 1) := by decide +kernel
theorem dX4_endCall_13 : decode cX4_endCall 13 = .ok (.aload_n 0, 1) := by decide +kernel
theorem dX4_endCall_14 : decode cX4_endCall 14 = .ok (.dup, 1) := by decide +kernel
theorem dX4_endCall_15 : decode cX4_endCall 15 = .ok (.getfield 45, 3) := by decide +kernel
theorem dX4_endCall_18 : decode cX4_endCall 18 = .ok (.iconst 1, 1) := by decide +kernel
theorem dX4_endCall_19 : decode cX4_endCall 19 = .ok (.isub, 1) := by decide +kernel
theorem dX4_endCall_20 : decode cX4_endCall 20 = .ok (.putfield 45, 3) := by decide +kernel
theorem dX4_endCall_23 : decode cX4_endCall 23 = .ok (.aload_n 0, 1) := by decide +kernel
theorem dX4_endCall_24 : decode cX4_endCall 24 = .ok (.aload_n 0, 1) := by decide +kernel
theorem dX4_endCall_25 : decode cX4_endCall 25 = .ok (.getfield 24, 3) := by decide +kernel
theorem dX4_endCall_28 : decode cX4_endCall 28 = .ok (.aload_n 0, 1) := by decide +kernel
theorem dX4_endCall_29 : decode cX4_endCall 29 = .ok (.getfield 45, 3) := by decide +kernel
theorem dX4_endCall_32 : decode cX4_endCall 32 = .ok (.baload, 1) := by decide +kernel
theorem dX4_endCall_33 : decode cX4_endCall 33 = .ok (.putfield 52, 3) := by decide +kernel
theorem dX4_endCall_36 : decode cX4_endCall 36 = .ok (.aload_n 0, 1) := by decide +kernel
theorem dX4_endCall_37 : decode cX4_endCall 37 = .ok (.aload_n 0, 1) := by decide +kernel
theorem dX4_endCall_38 : decode cX4_endCall 38 = .ok (.getfield 21, 3) := by decide +kernel
theorem dX4_endCall_41 : decode cX4_endCall 41 = .ok (.aload_n 0, 1) := by decide +kernel
theorem dX4_endCall_42 : decode cX4_endCall 42 = .ok (.getfield 45, 3) := by decide +kernel
theorem dX4_endCall_45 : decode cX4_endCall 45 = .ok (.iaload, 1) := by decide +kernel
theorem dX4_endCall_46 : decode cX4_endCall 46 = .ok (.invokevirtual 114, 3) := by decide +kernel
theorem dX4_endCall_49 : decode cX4_endCall 49 = .ok (.return_, 1) := by decide +kernel
theorem dX4_leaveBody_0 : decode cX4_leaveBody 0 = .ok (.aload_n 0, 1) := by decide +kernel
theorem dX4_leaveBody_1 : decode cX4_leaveBody 1 = .ok (.getfield 71, 3) := by decide +kernel
theorem dX4_leaveBody_4 : decode cX4_leaveBody 4 = .ok (.bipush 120, 2) := by decide +kernel
theorem dX4_leaveBody_6 : decode cX4_leaveBody 6 = .ok (.if_icmp .lt 8, 3) := by decide +kernel
theorem dX4_leaveBody_9 : decode cX4_leaveBody 9 = .ok (.aload_n 0, 1) := by decide +kernel
theorem dX4_leaveBody_10 : decode cX4_leaveBody 10 = .ok (.invokevirtual 120, 3) := by decide +kernel
theorem dX4_leaveBody_13 : decode cX4_leaveBody 13 = .ok (.return_, 1) := by decide +kernel
theorem dX4_leaveBody_14 : decode cX4_leaveBody 14 = .ok (.aload_n 0, 1) := by decide +kernel
theorem dX4_leaveBody_15 : decode cX4_leaveBody 15 = .ok (.getfield 71, 3) := by decide +kernel
theorem dX4_leaveBody_18 : decode cX4_leaveBody 18 = .ok (.iconst 2, 1) := by decide +kernel
theorem dX4_leaveBody_19 : decode cX4_leaveBody 19 = .ok (.idiv, 1) := by decide +kernel
theorem dX4_leaveBody_20 : decode cX4_leaveBody 20 = .ok (.istore_n 1, 1) := by decide +kernel
theorem dX4_leaveBody_21 : decode cX4_leaveBody 21 = .ok (.aload_n 0, 1) := by decide +kernel
theorem dX4_leaveBody_22 : decode cX4_leaveBody 22 = .ok (.getfield 71, 3) := by decide +kernel
theorem dX4_leaveBody_25 : decode cX4_leaveBody 25 = .ok (.iconst 2, 1) := by decide +kernel
theorem dX4_leaveBody_26 : decode cX4_leaveBody 26 = .ok (.irem, 1) := by decide +kernel
theorem dX4_leaveBody_27 : decode cX4_leaveBody 27 = .ok (.ifCond .ne 7, 3) := by decide +kernel
theorem dX4_leaveBody_30 : decode cX4_leaveBody 30 = .ok (.iconst 1, 1) := by decide +kernel
theorem dX4_leaveBody_31 : decode cX4_leaveBody 31 = .ok (.goto 4, 3) := by decide +kernel
theorem dX4_leaveBody_34 : decode cX4_leaveBody 34 = .ok (.iconst 0, 1) := by decide +kernel
theorem dX4_leaveBody_35 : decode cX4_leaveBody 35 = .ok (.istore_n 2, 1) := by decide +kernel
theorem dX4_leaveBody_36 : decode cX4_leaveBody 36 = .ok (.aload_n 0, 1) := by decide +kernel
theorem dX4_leaveBody_37 : decode cX4_leaveBody 37 = .ok (.getfield 28, 3) := by decide +kernel
theorem dX4_leaveBody_40 : decode cX4_leaveBody 40 = .ok (.iload_n 1, 1) := by decide +kernel
theorem dX4_leaveBody_41 : decode cX4_leaveBody 41 = .ok (.invokevirtual 91, 3) := by decide +kernel
theorem dX4_leaveBody_44 : decode cX4_leaveBody 44 = .ok (.iconst 4, 1) := by decide +kernel
theorem dX4_leaveBody_45 : decode cX4_leaveBody 45 = .ok (.if_icmp .ne 26, 3) := by decide +kernel
theorem dX4_leaveBody_48 : decode cX4_leaveBody 48 = .ok (.aload_n 0, 1) := by decide +kernel
theorem dX4_leaveBody_49 : decode cX4_leaveBody 49 = .ok (.iload_n 1, 1) := by decide +kernel
theorem dX4_leaveBody_50 : decode cX4_leaveBody 50 = .ok (.iconst 0, 1) := by decide +kernel
theorem dX4_leaveBody_51 : decode cX4_leaveBody 51 = .ok (.invokevirtual 94, 3) := by decide +kernel
theorem dX4_leaveBody_54 : decode cX4_leaveBody 54 = .ok (.iload_n 2, 1) := by decide +kernel
theorem dX4_leaveBody_55 : decode cX4_leaveBody 55 = .ok (.if_icmp .eq 8, 3) := by decide +kernel
theorem dX4_leaveBody_58 : decode cX4_leaveBody 58 = .ok (.aload_n 0, 1) := by decide +kernel
theorem dX4_leaveBody_59 : decode cX4_leaveBody 59 = .ok (.iconst 1, 1) := by decide +kernel
theorem dX4_leaveBody_60 : decode cX4_leaveBody 60 = .ok (.invokevirtual 85, 3) := by decide +kernel
theorem dX4_leaveBody_63 : decode cX4_leaveBody 63 = .ok (.aload_n 0, 1) := by decide +kernel
theorem dX4_leaveBody_64 : decode cX4_leaveBody 64 = .ok (.iload_n 1, 1) := by decide +kernel
theorem dX4_leaveBody_65 : decode cX4_leaveBody 65 = .ok (.invokevirtual 114, 3) := by decide +kernel
theorem dX4_leaveBody_68 : decode cX4_leaveBody 68 = .ok (.goto 68, 3) := by decide +kernel
theorem dX4_leaveBody_71 : decode cX4_leaveBody 71 = .ok (.iload_n 2, 1) := by decide +kernel
theorem dX4_leaveBody_72 : decode cX4_leaveBody 72 = .ok (.ifCond .ne 27, 3) := by decide +kernel
theorem dX4_leaveBody_75 : decode cX4_leaveBody 75 = .ok (.aload_n 0, 1) := by decide +kernel
theorem dX4_leaveBody_76 : decode cX4_leaveBody 76 = .ok (.iload_n 1, 1) := by decide +kernel
theorem dX4_leaveBody_77 : decode cX4_leaveBody 77 = .ok (.iconst 1, 1) := by decide +kernel
theorem dX4_leaveBody_78 : decode cX4_leaveBody 78 = .ok (.invokevirtual 94, 3) := by decide +kernel
theorem dX4_leaveBody_81 : decode cX4_leaveBody 81 = .ok (.ifCond .eq 8, 3) := by decide +kernel
theorem dX4_leaveBody_84 : decode cX4_leaveBody 84 = .ok (.aload_n 0, 1) := by decide +kernel
theorem dX4_leaveBody_85 : decode cX4_leaveBody 85 = .ok (.iconst 1, 1) := by decide +kernel
theorem dX4_leaveBody_86 : decode cX4_leaveBody 86 = .ok (.invokevirtual 85, 3) := by decide +kernel
theorem dX4_leaveBody_89 : decode cX4_leaveBody 89 = .ok (.aload_n 0, 1) := by decide +kernel
theorem dX4_leaveBody_90 : decode cX4_leaveBody 90 = .ok (.iconst 2, 1) := by decide +kernel
theorem dX4_leaveBody_91 : decode cX4_leaveBody 91 = .ok (.iload_n 1, 1) := by decide +kernel
theorem dX4_leaveBody_92 : decode cX4_leaveBody 92 = .ok (.imul, 1) := by decide +kernel
theorem dX4_leaveBody_93 : decode cX4_leaveBody 93 = .ok (.invokevirtual 57, 3) := by decide +kernel
theorem dX4_leaveBody_96 : decode cX4_leaveBody 96 = .ok (.goto 40, 3) := by decide +kernel
theorem dX4_leaveBody_99 : decode cX4_leaveBody 99 = .ok (.aload_n 0, 1) := by decide +kernel
theorem dX4_leaveBody_100 : decode cX4_leaveBody 100 = .ok (.iload_n 1, 1) := by decide +kernel
theorem dX4_leaveBody_101 : decode cX4_leaveBody 101 = .ok (.iconst 0, 1) := by decide +kernel
theorem dX4_leaveBody_102 : decode cX4_leaveBody 102 = .ok (.invokevirtual 94, 3) := by decide +kernel
theorem dX4_leaveBody_105 : decode cX4_leaveBody 105 = .ok (.ifCond .eq 11, 3) := by decide +kernel
theorem dX4_leaveBody_108 : decode cX4_leaveBody 108 = .ok (.aload_n 0, 1) := by decide +kernel
theorem dX4_leaveBody_109 : decode cX4_leaveBody 109 = .ok (.iload_n 1, 1) := by decide +kernel
theorem dX4_leaveBody_110 : decode cX4_leaveBody 110 = .ok (.invokevirtual 114, 3) := by decide +kernel
theorem dX4_leaveBody_113 : decode cX4_leaveBody 113 = .ok (.goto 23, 3) := by decide +kernel
theorem dX4_leaveBody_116 : decode cX4_leaveBody 116 = .ok (.aload_n 0, 1) := by decide +kernel
theorem dX4_leaveBody_117 : decode cX4_leaveBody 117 = .ok (.getfield 32, 3) := by decide +kernel
theorem dX4_leaveBody_120 : decode cX4_leaveBody 120 = .ok (.ifCond .ne 16, 3) := by decide +kernel
theorem dX4_leaveBody_123 : decode cX4_leaveBody 123 = .ok (.aload_n 0, 1) := by decide +kernel
theorem dX4_leaveBody_124 : decode cX4_leaveBody 124 = .ok (.invokevirtual 88, 3) := by decide +kernel
theorem dX4_leaveBody_127 : decode cX4_leaveBody 127 = .ok (.aload_n 0, 1) := by decide +kernel
theorem dX4_leaveBody_128 : decode cX4_leaveBody 128 = .ok (.iconst 2, 1) := by decide +kernel
theorem dX4_leaveBody_129 : decode cX4_leaveBody 129 = .ok (.iload_n 1, 1) := by decide +kernel
theorem dX4_leaveBody_130 : decode cX4_leaveBody 130 = .ok (.imul, 1) := by decide +kernel
theorem dX4_leaveBody_131 : decode cX4_leaveBody 131 = .ok (.iconst 1, 1) := by decide +kernel
theorem dX4_leaveBody_132 : decode cX4_leaveBody 132 = .ok (.iadd, 1) := by decide +kernel
theorem dX4_leaveBody_133 : decode cX4_leaveBody 133 = .ok (.invokevirtual 57, 3) := by decide +kernel
theorem dX4_leaveBody_136 : decode cX4_leaveBody 136 = .ok (.return_, 1) := by decide +kernel
theorem dX4_holds_0 : decode cX4_holds 0 = .ok (.iload_n 2, 1) := by decide +kernel
theorem dX4_holds_1 : decode cX4_holds 1 = .ok (.aload_n 0, 1) := by decide +kernel
theorem dX4_holds_2 : decode cX4_holds 2 = .ok (.getfield 52, 3) := by decide +kernel
theorem dX4_holds_5 : decode cX4_holds 5 = .ok (.if_icmp .ne 7, 3) := by decide +kernel
theorem dX4_holds_8 : decode cX4_holds 8 = .ok (.iconst 1, 1) := by decide +kernel
theorem dX4_holds_9 : decode cX4_holds 9 = .ok (.goto 4, 3) := by decide +kernel
theorem dX4_holds_12 : decode cX4_holds 12 = .ok (.iconst 0, 1) := by decide +kernel
theorem dX4_holds_13 : decode cX4_holds 13 = .ok (.istore_n 3, 1) := by decide +kernel
theorem dX4_holds_14 : decode cX4_holds 14 = .ok (.aload_n 0, 1) := by decide +kernel
theorem dX4_holds_15 : decode cX4_holds 15 = .ok (.aload_n 0, 1) := by decide +kernel
theorem dX4_holds_16 : decode cX4_holds 16 = .ok (.getfield 28, 3) := by decide +kernel
theorem dX4_holds_19 : decode cX4_holds 19 = .ok (.iload_n 1, 1) := by decide +kernel
theorem dX4_holds_20 : decode cX4_holds 20 = .ok (.iload_n 3, 1) := by decide +kernel
theorem dX4_holds_21 : decode cX4_holds 21 = .ok (.invokevirtual 123, 3) := by decide +kernel
theorem dX4_holds_24 : decode cX4_holds 24 = .ok (.aload_n 0, 1) := by decide +kernel
theorem dX4_holds_25 : decode cX4_holds 25 = .ok (.getfield 28, 3) := by decide +kernel
theorem dX4_holds_28 : decode cX4_holds 28 = .ok (.iload_n 1, 1) := by decide +kernel
theorem dX4_holds_29 : decode cX4_holds 29 = .ok (.iload_n 3, 1) := by decide +kernel
theorem dX4_holds_30 : decode cX4_holds 30 = .ok (.invokevirtual 127, 3) := by decide +kernel
theorem dX4_holds_33 : decode cX4_holds 33 = .ok (.invokevirtual 130, 3) := by decide +kernel
theorem dX4_holds_36 : decode cX4_holds 36 = .ok (.ifCond .eq 7, 3) := by decide +kernel
theorem dX4_holds_39 : decode cX4_holds 39 = .ok (.iconst 1, 1) := by decide +kernel
theorem dX4_holds_40 : decode cX4_holds 40 = .ok (.goto 4, 3) := by decide +kernel
theorem dX4_holds_43 : decode cX4_holds 43 = .ok (.iconst 0, 1) := by decide +kernel
theorem dX4_holds_44 : decode cX4_holds 44 = .ok (.ireturn, 1) := by decide +kernel
theorem dX4_swapValues_0 : decode cX4_swapValues 0 = .ok (.aload_n 0, 1) := by decide +kernel
theorem dX4_swapValues_1 : decode cX4_swapValues 1 = .ok (.getfield 9, 3) := by decide +kernel
theorem dX4_swapValues_4 : decode cX4_swapValues 4 = .ok (.iload_n 1, 1) := by decide +kernel
theorem dX4_swapValues_5 : decode cX4_swapValues 5 = .ok (.iaload, 1) := by decide +kernel
theorem dX4_swapValues_6 : decode cX4_swapValues 6 = .ok (.istore_n 3, 1) := by decide +kernel
theorem dX4_swapValues_7 : decode cX4_swapValues 7 = .ok (.aload_n 0, 1) := by decide +kernel
theorem dX4_swapValues_8 : decode cX4_swapValues 8 = .ok (.getfield 9, 3) := by decide +kernel
theorem dX4_swapValues_11 : decode cX4_swapValues 11 = .ok (.iload_n 1, 1) := by decide +kernel
theorem dX4_swapValues_12 : decode cX4_swapValues 12 = .ok (.aload_n 0, 1) := by decide +kernel
theorem dX4_swapValues_13 : decode cX4_swapValues 13 = .ok (.getfield 9, 3) := by decide +kernel
theorem dX4_swapValues_16 : decode cX4_swapValues 16 = .ok (.iload_n 2, 1) := by decide +kernel
theorem dX4_swapValues_17 : decode cX4_swapValues 17 = .ok (.iaload, 1) := by decide +kernel
theorem dX4_swapValues_18 : decode cX4_swapValues 18 = .ok (.iastore, 1) := by decide +kernel
theorem dX4_swapValues_19 : decode cX4_swapValues 19 = .ok (.aload_n 0, 1) := by decide +kernel
theorem dX4_swapValues_20 : decode cX4_swapValues 20 = .ok (.getfield 9, 3) := by decide +kernel
theorem dX4_swapValues_23 : decode cX4_swapValues 23 = .ok (.iload_n 2, 1) := by decide +kernel
theorem dX4_swapValues_24 : decode cX4_swapValues 24 = .ok (.iload_n 3, 1) := by decide +kernel
theorem dX4_swapValues_25 : decode cX4_swapValues 25 = .ok (.iastore, 1) := by decide +kernel
theorem dX4_swapValues_26 : decode cX4_swapValues 26 = .ok (.return_, 1) := by decide +kernel
theorem dX4_change_0 : decode cX4_change 0 = .ok (.aload_n 0, 1) := by decide +kernel
theorem dX4_change_1 : decode cX4_change 1 = .ok (.aload_n 0, 1) := by decide +kernel
theorem dX4_change_2 : decode cX4_change 2 = .ok (.getfield 28, 3) := by decide +kernel
theorem dX4_change_5 : decode cX4_change 5 = .ok (.iload_n 1, 1) := by decide +kernel
theorem dX4_change_6 : decode cX4_change 6 = .ok (.invokevirtual 101, 3) := by decide +kernel
theorem dX4_change_9 : decode cX4_change 9 = .ok (.invokevirtual 104, 3) := by decide +kernel
theorem dX4_change_12 : decode cX4_change 12 = .ok (.istore_n 2, 1) := by decide +kernel
theorem dX4_change_13 : decode cX4_change 13 = .ok (.aload_n 0, 1) := by decide +kernel
theorem dX4_change_14 : decode cX4_change 14 = .ok (.aload_n 0, 1) := by decide +kernel
theorem dX4_change_15 : decode cX4_change 15 = .ok (.getfield 28, 3) := by decide +kernel
theorem dX4_change_18 : decode cX4_change 18 = .ok (.iload_n 1, 1) := by decide +kernel
theorem dX4_change_19 : decode cX4_change 19 = .ok (.iconst 0, 1) := by decide +kernel
theorem dX4_change_20 : decode cX4_change 20 = .ok (.invokevirtual 123, 3) := by decide +kernel
theorem dX4_change_23 : decode cX4_change 23 = .ok (.aload_n 0, 1) := by decide +kernel
theorem dX4_change_24 : decode cX4_change 24 = .ok (.getfield 28, 3) := by decide +kernel
theorem dX4_change_27 : decode cX4_change 27 = .ok (.iload_n 1, 1) := by decide +kernel
theorem dX4_change_28 : decode cX4_change 28 = .ok (.iconst 0, 1) := by decide +kernel
theorem dX4_change_29 : decode cX4_change 29 = .ok (.invokevirtual 127, 3) := by decide +kernel
theorem dX4_change_32 : decode cX4_change 32 = .ok (.invokevirtual 130, 3) := by decide +kernel
theorem dX4_change_35 : decode cX4_change 35 = .ok (.istore_n 3, 1) := by decide +kernel
theorem dX4_change_36 : decode cX4_change 36 = .ok (.aload_n 0, 1) := by decide +kernel
theorem dX4_change_37 : decode cX4_change 37 = .ok (.getfield 28, 3) := by decide +kernel
theorem dX4_change_40 : decode cX4_change 40 = .ok (.iload_n 1, 1) := by decide +kernel
theorem dX4_change_41 : decode cX4_change 41 = .ok (.invokevirtual 91, 3) := by decide +kernel
theorem dX4_change_44 : decode cX4_change 44 = .ok (.istore 4, 2) := by decide +kernel
theorem dX4_change_46 : decode cX4_change 46 = .ok (.iload 4, 2) := by decide +kernel
theorem dX4_change_48 : decode cX4_change 48 = .ok (.iconst 2, 1) := by decide +kernel
theorem dX4_change_49 : decode cX4_change 49 = .ok (.if_icmp .ne 16, 3) := by decide +kernel
theorem dX4_change_52 : decode cX4_change 52 = .ok (.aload_n 0, 1) := by decide +kernel
theorem dX4_change_53 : decode cX4_change 53 = .ok (.getfield 9, 3) := by decide +kernel
theorem dX4_change_56 : decode cX4_change 56 = .ok (.iload_n 2, 1) := by decide +kernel
theorem dX4_change_57 : decode cX4_change 57 = .ok (.dup2, 1) := by decide +kernel
theorem dX4_change_58 : decode cX4_change 58 = .ok (.iaload, 1) := by decide +kernel
theorem dX4_change_59 : decode cX4_change 59 = .ok (.iload_n 3, 1) := by decide +kernel
theorem dX4_change_60 : decode cX4_change 60 = .ok (.ixor, 1) := by decide +kernel
theorem dX4_change_61 : decode cX4_change 61 = .ok (.iastore, 1) := by decide +kernel
theorem dX4_change_62 : decode cX4_change 62 = .ok (.goto 43, 3) := by decide +kernel
theorem dX4_change_65 : decode cX4_change 65 = .ok (.iload 4, 2) := by decide +kernel
theorem dX4_change_67 : decode cX4_change 67 = .ok (.ifCond .ne 7, 3) := by decide +kernel
theorem dX4_change_70 : decode cX4_change 70 = .ok (.iconst 1, 1) := by decide +kernel
theorem dX4_change_71 : decode cX4_change 71 = .ok (.goto 4, 3) := by decide +kernel
theorem dX4_change_74 : decode cX4_change 74 = .ok (.iconst 0, 1) := by decide +kernel
theorem dX4_change_75 : decode cX4_change 75 = .ok (.aload_n 0, 1) := by decide +kernel
theorem dX4_change_76 : decode cX4_change 76 = .ok (.getfield 52, 3) := by decide +kernel
theorem dX4_change_79 : decode cX4_change 79 = .ok (.if_icmp .eq 16, 3) := by decide +kernel
theorem dX4_change_82 : decode cX4_change 82 = .ok (.aload_n 0, 1) := by decide +kernel
theorem dX4_change_83 : decode cX4_change 83 = .ok (.getfield 9, 3) := by decide +kernel
theorem dX4_change_86 : decode cX4_change 86 = .ok (.iload_n 2, 1) := by decide +kernel
theorem dX4_change_87 : decode cX4_change 87 = .ok (.dup2, 1) := by decide +kernel
theorem dX4_change_88 : decode cX4_change 88 = .ok (.iaload, 1) := by decide +kernel
theorem dX4_change_89 : decode cX4_change 89 = .ok (.iload_n 3, 1) := by decide +kernel
theorem dX4_change_90 : decode cX4_change 90 = .ok (.iadd, 1) := by decide +kernel
theorem dX4_change_91 : decode cX4_change 91 = .ok (.iastore, 1) := by decide +kernel
theorem dX4_change_92 : decode cX4_change 92 = .ok (.goto 13, 3) := by decide +kernel
theorem dX4_change_95 : decode cX4_change 95 = .ok (.aload_n 0, 1) := by decide +kernel
theorem dX4_change_96 : decode cX4_change 96 = .ok (.getfield 9, 3) := by decide +kernel
theorem dX4_change_99 : decode cX4_change 99 = .ok (.iload_n 2, 1) := by decide +kernel
theorem dX4_change_100 : decode cX4_change 100 = .ok (.dup2, 1) := by decide +kernel
theorem dX4_change_101 : decode cX4_change 101 = .ok (.iaload, 1) := by decide +kernel
theorem dX4_change_102 : decode cX4_change 102 = .ok (.iload_n 3, 1) := by decide +kernel
theorem dX4_change_103 : decode cX4_change 103 = .ok (.isub, 1) := by decide +kernel
theorem dX4_change_104 : decode cX4_change 104 = .ok (.iastore, 1) := by decide +kernel
theorem dX4_change_105 : decode cX4_change 105 = .ok (.return_, 1) := by decide +kernel
theorem dX4_placeOf_0 : decode cX4_placeOf 0 = .ok (.iload_n 1, 1) := by decide +kernel
theorem dX4_placeOf_1 : decode cX4_placeOf 1 = .ok (.bipush 20, 2) := by decide +kernel
theorem dX4_placeOf_3 : decode cX4_placeOf 3 = .ok (.if_icmp .ge 5, 3) := by decide +kernel
theorem dX4_placeOf_6 : decode cX4_placeOf 6 = .ok (.iload_n 1, 1) := by decide +kernel
theorem dX4_placeOf_7 : decode cX4_placeOf 7 = .ok (.ireturn, 1) := by decide +kernel
theorem dX4_placeOf_8 : decode cX4_placeOf 8 = .ok (.aload_n 0, 1) := by decide +kernel
theorem dX4_placeOf_9 : decode cX4_placeOf 9 = .ok (.getfield 9, 3) := by decide +kernel
theorem dX4_placeOf_12 : decode cX4_placeOf 12 = .ok (.iload_n 1, 1) := by decide +kernel
theorem dX4_placeOf_13 : decode cX4_placeOf 13 = .ok (.bipush 20, 2) := by decide +kernel
theorem dX4_placeOf_15 : decode cX4_placeOf 15 = .ok (.isub, 1) := by decide +kernel
theorem dX4_placeOf_16 : decode cX4_placeOf 16 = .ok (.iaload, 1) := by decide +kernel
theorem dX4_placeOf_17 : decode cX4_placeOf 17 = .ok (.istore_n 2, 1) := by decide +kernel
theorem dX4_placeOf_18 : decode cX4_placeOf 18 = .ok (.iload_n 2, 1) := by decide +kernel
theorem dX4_placeOf_19 : decode cX4_placeOf 19 = .ok (.ifCond .lt 9, 3) := by decide +kernel
theorem dX4_placeOf_22 : decode cX4_placeOf 22 = .ok (.iload_n 2, 1) := by decide +kernel
theorem dX4_placeOf_23 : decode cX4_placeOf 23 = .ok (.bipush 10, 2) := by decide +kernel
theorem dX4_placeOf_25 : decode cX4_placeOf 25 = .ok (.if_icmp .lt 11, 3) := by decide +kernel
theorem dX4_placeOf_28 : decode cX4_placeOf 28 = .ok (.aload_n 0, 1) := by decide +kernel
theorem dX4_placeOf_29 : decode cX4_placeOf 29 = .ok (.iconst 2, 1) := by decide +kernel
theorem dX4_placeOf_30 : decode cX4_placeOf 30 = .ok (.invokevirtual 85, 3) := by decide +kernel
theorem dX4_placeOf_33 : decode cX4_placeOf 33 = .ok (.bipush 10, 2) := by decide +kernel
theorem dX4_placeOf_35 : decode cX4_placeOf 35 = .ok (.ireturn, 1) := by decide +kernel
theorem dX4_placeOf_36 : decode cX4_placeOf 36 = .ok (.bipush 10, 2) := by decide +kernel
theorem dX4_placeOf_38 : decode cX4_placeOf 38 = .ok (.iload_n 2, 1) := by decide +kernel
theorem dX4_placeOf_39 : decode cX4_placeOf 39 = .ok (.iadd, 1) := by decide +kernel
theorem dX4_placeOf_40 : decode cX4_placeOf 40 = .ok (.ireturn, 1) := by decide +kernel
theorem dX4_reckon_0 : decode cX4_reckon 0 = .ok (.iconst 0, 1) := by decide +kernel
theorem dX4_reckon_1 : decode cX4_reckon 1 = .ok (.istore_n 3, 1) := by decide +kernel
theorem dX4_reckon_2 : decode cX4_reckon 2 = .ok (.iload_n 1, 1) := by decide +kernel
theorem dX4_reckon_3 : decode cX4_reckon 3 = .ok (.istore 4, 2) := by decide +kernel
theorem dX4_reckon_5 : decode cX4_reckon 5 = .ok (.iload 4, 2) := by decide +kernel
theorem dX4_reckon_7 : decode cX4_reckon 7 = .ok (.iload_n 2, 1) := by decide +kernel
theorem dX4_reckon_8 : decode cX4_reckon 8 = .ok (.if_icmp .ge 112, 3) := by decide +kernel
theorem dX4_reckon_11 : decode cX4_reckon 11 = .ok (.aload_n 0, 1) := by decide +kernel
theorem dX4_reckon_12 : decode cX4_reckon 12 = .ok (.getfield 28, 3) := by decide +kernel
theorem dX4_reckon_15 : decode cX4_reckon 15 = .ok (.iload 4, 2) := by decide +kernel
theorem dX4_reckon_17 : decode cX4_reckon 17 = .ok (.invokevirtual 133, 3) := by decide +kernel
theorem dX4_reckon_20 : decode cX4_reckon 20 = .ok (.istore 5, 2) := by decide +kernel
theorem dX4_reckon_22 : decode cX4_reckon 22 = .ok (.iload 5, 2) := by decide +kernel
theorem dX4_reckon_24 : decode cX4_reckon 24 = .ok (.ifCond .ge 42, 3) := by decide +kernel
theorem dX4_reckon_27 : decode cX4_reckon 27 = .ok (.iload_n 3, 1) := by decide +kernel
theorem dX4_reckon_28 : decode cX4_reckon 28 = .ok (.iconst 2, 1) := by decide +kernel
theorem dX4_reckon_29 : decode cX4_reckon 29 = .ok (.if_icmp .lt 37, 3) := by decide +kernel
theorem dX4_reckon_32 : decode cX4_reckon 32 = .ok (.iinc 3 (-1), 3) := by decide +kernel
theorem dX4_reckon_35 : decode cX4_reckon 35 = .ok (.aload_n 0, 1) := by decide +kernel
theorem dX4_reckon_36 : decode cX4_reckon 36 = .ok (.getfield 18, 3) := by decide +kernel
theorem dX4_reckon_39 : decode cX4_reckon 39 = .ok (.iload_n 3, 1) := by decide +kernel
theorem dX4_reckon_40 : decode cX4_reckon 40 = .ok (.iconst 1, 1) := by decide +kernel
theorem dX4_reckon_41 : decode cX4_reckon 41 = .ok (.isub, 1) := by decide +kernel
theorem dX4_reckon_42 : decode cX4_reckon 42 = .ok (.iload 5, 2) := by decide +kernel
theorem dX4_reckon_44 : decode cX4_reckon 44 = .ok (.ineg, 1) := by decide +kernel
theorem dX4_reckon_45 : decode cX4_reckon 45 = .ok (.aload_n 0, 1) := by decide +kernel
theorem dX4_reckon_46 : decode cX4_reckon 46 = .ok (.getfield 18, 3) := by decide +kernel
theorem dX4_reckon_49 : decode cX4_reckon 49 = .ok (.iload_n 3, 1) := by decide +kernel
theorem dX4_reckon_50 : decode cX4_reckon 50 = .ok (.iconst 1, 1) := by decide +kernel
theorem dX4_reckon_51 : decode cX4_reckon 51 = .ok (.isub, 1) := by decide +kernel
theorem dX4_reckon_52 : decode cX4_reckon 52 = .ok (.iaload, 1) := by decide +kernel
theorem dX4_reckon_53 : decode cX4_reckon 53 = .ok (.aload_n 0, 1) := by decide +kernel
theorem dX4_reckon_54 : decode cX4_reckon 54 = .ok (.getfield 18, 3) := by decide +kernel
theorem dX4_reckon_57 : decode cX4_reckon 57 = .ok (.iload_n 3, 1) := by decide +kernel
theorem dX4_reckon_58 : decode cX4_reckon 58 = .ok (.iaload, 1) := by decide +kernel
theorem dX4_reckon_59 : decode cX4_reckon 59 = .ok (.invokestatic 136, 3) := by decide +kernel
theorem dX4_reckon_62 : decode cX4_reckon 62 = .ok (.iastore, 1) := by decide +kernel
theorem dX4_reckon_63 : decode cX4_reckon 63 = .ok (.goto 51, 3) := by decide +kernel
theorem dX4_reckon_66 : decode cX4_reckon 66 = .ok (.iload 5, 2) := by decide +kernel
theorem dX4_reckon_68 : decode cX4_reckon 68 = .ok (.ifCond .lt 46, 3) := by decide +kernel
theorem dX4_reckon_71 : decode cX4_reckon 71 = .ok (.iload_n 3, 1) := by decide +kernel
theorem dX4_reckon_72 : decode cX4_reckon 72 = .ok (.bipush 24, 2) := by decide +kernel
theorem dX4_reckon_74 : decode cX4_reckon 74 = .ok (.if_icmp .ge 40, 3) := by decide +kernel
theorem dX4_reckon_77 : decode cX4_reckon 77 = .ok (.aload_n 0, 1) := by decide +kernel
theorem dX4_reckon_78 : decode cX4_reckon 78 = .ok (.getfield 18, 3) := by decide +kernel
theorem dX4_reckon_81 : decode cX4_reckon 81 = .ok (.iload_n 3, 1) := by decide +kernel
theorem dX4_reckon_82 : decode cX4_reckon 82 = .ok (.iload 5, 2) := by decide +kernel
theorem dX4_reckon_84 : decode cX4_reckon 84 = .ok (.sipush 10000, 3) := by decide +kernel
theorem dX4_reckon_87 : decode cX4_reckon 87 = .ok (.if_icmp .ge 8, 3) := by decide +kernel
theorem dX4_reckon_90 : decode cX4_reckon 90 = .ok (.iload 5, 2) := by decide +kernel
theorem dX4_reckon_92 : decode cX4_reckon 92 = .ok (.goto 18, 3) := by decide +kernel
theorem dX4_reckon_95 : decode cX4_reckon 95 = .ok (.aload_n 0, 1) := by decide +kernel
theorem dX4_reckon_96 : decode cX4_reckon 96 = .ok (.getfield 9, 3) := by decide +kernel
theorem dX4_reckon_99 : decode cX4_reckon 99 = .ok (.aload_n 0, 1) := by decide +kernel
theorem dX4_reckon_100 : decode cX4_reckon 100 = .ok (.iload 5, 2) := by decide +kernel
theorem dX4_reckon_102 : decode cX4_reckon 102 = .ok (.sipush 10000, 3) := by decide +kernel
theorem dX4_reckon_105 : decode cX4_reckon 105 = .ok (.isub, 1) := by decide +kernel
theorem dX4_reckon_106 : decode cX4_reckon 106 = .ok (.invokevirtual 104, 3) := by decide +kernel
theorem dX4_reckon_109 : decode cX4_reckon 109 = .ok (.iaload, 1) := by decide +kernel
theorem dX4_reckon_110 : decode cX4_reckon 110 = .ok (.iastore, 1) := by decide +kernel
theorem dX4_reckon_111 : decode cX4_reckon 111 = .ok (.iinc 3 1, 3) := by decide +kernel
theorem dX4_reckon_114 : decode cX4_reckon 114 = .ok (.iinc 4 1, 3) := by decide +kernel
theorem dX4_reckon_117 : decode cX4_reckon 117 = .ok (.goto (-112), 3) := by decide +kernel
theorem dX4_reckon_120 : decode cX4_reckon 120 = .ok (.aload_n 0, 1) := by decide +kernel
theorem dX4_reckon_121 : decode cX4_reckon 121 = .ok (.getfield 18, 3) := by decide +kernel
theorem dX4_reckon_124 : decode cX4_reckon 124 = .ok (.iconst 0, 1) := by decide +kernel
theorem dX4_reckon_125 : decode cX4_reckon 125 = .ok (.iaload, 1) := by decide +kernel
theorem dX4_reckon_126 : decode cX4_reckon 126 = .ok (.ireturn, 1) := by decide +kernel
theorem dX4_work_0 : decode cX4_work 0 = .ok (.iload_n 0, 1) := by decide +kernel
theorem dX4_work_1 : decode cX4_work 1 = .ok (.tableswitch 192 37 62 #[143, 155, 192, 192, 192, 127, 119, 192, 123, 192, 131, 192, 192, 192, 192, 192, 192, 192, 192, 192, 192, 192, 192, 170, 159, 181], 119) := by decide +kernel
