theorem dX5_learnScores_92 : decode cX5_learnScores 92 = .ok (.iload_n 1, 1) := by decide +kernel
theorem dX5_learnScores_93 : decode cX5_learnScores 93 = .ok (.iload_n 2, 1) := by decide +kernel
theorem dX5_learnScores_94 : decode cX5_learnScores 94 = .ok (.ifCond .le 14, 3) := by decide +kernel
theorem dX5_learnScores_97 : decode cX5_learnScores 97 = .ok (.iload 6, 2) := by decide +kernel
theorem dX5_learnScores_99 : decode cX5_learnScores 99 = .ok (.ifCond .ne 9, 3) := by decide +kernel
theorem dX5_learnScores_102 : decode cX5_learnScores 102 = .ok (.sipush 1000, 3) := by decide +kernel
theorem dX5_learnScores_105 : decode cX5_learnScores 105 = .ok (.goto 6, 3) := by decide +kernel
theorem dX5_learnScores_108 : decode cX5_learnScores 108 = .ok (.iload_n 2, 1) := by decide +kernel
theorem dX5_learnScores_109 : decode cX5_learnScores 109 = .ok (.iload_n 2, 1) := by decide +kernel
theorem dX5_learnScores_110 : decode cX5_learnScores 110 = .ok (.imul, 1) := by decide +kernel
theorem dX5_learnScores_111 : decode cX5_learnScores 111 = .ok (.iload 6, 2) := by decide +kernel
theorem dX5_learnScores_113 : decode cX5_learnScores 113 = .ok (.ifCond .ne 7, 3) := by decide +kernel
theorem dX5_learnScores_116 : decode cX5_learnScores 116 = .ok (.iconst 1, 1) := by decide +kernel
theorem dX5_learnScores_117 : decode cX5_learnScores 117 = .ok (.goto 5, 3) := by decide +kernel
theorem dX5_learnScores_120 : decode cX5_learnScores 120 = .ok (.iload 6, 2) := by decide +kernel
theorem dX5_learnScores_122 : decode cX5_learnScores 122 = .ok (.invokevirtual 65, 3) := by decide +kernel
theorem dX5_learnScores_125 : decode cX5_learnScores 125 = .ok (.return_, 1) := by decide +kernel
theorem dX5_keepScore_0 : decode cX5_keepScore 0 = .ok (.iload_n 3, 1) := by decide +kernel
theorem dX5_keepScore_1 : decode cX5_keepScore 1 = .ok (.ifCond .ne 7, 3) := by decide +kernel
theorem dX5_keepScore_4 : decode cX5_keepScore 4 = .ok (.iconst 0, 1) := by decide +kernel
theorem dX5_keepScore_5 : decode cX5_keepScore 5 = .ok (.goto 9, 3) := by decide +kernel
theorem dX5_keepScore_8 : decode cX5_keepScore 8 = .ok (.iload_n 3, 1) := by decide +kernel
theorem dX5_keepScore_9 : decode cX5_keepScore 9 = .ok (.iload 4, 2) := by decide +kernel
theorem dX5_keepScore_11 : decode cX5_keepScore 11 = .ok (.invokestatic 69, 3) := by decide +kernel
theorem dX5_keepScore_14 : decode cX5_keepScore 14 = .ok (.istore 5, 2) := by decide +kernel
theorem dX5_keepScore_16 : decode cX5_keepScore 16 = .ok (.aload_n 0, 1) := by decide +kernel
theorem dX5_keepScore_17 : decode cX5_keepScore 17 = .ok (.getfield 20, 3) := by decide +kernel
theorem dX5_keepScore_20 : decode cX5_keepScore 20 = .ok (.iload_n 1, 1) := by decide +kernel
theorem dX5_keepScore_21 : decode cX5_keepScore 21 = .ok (.aaload, 1) := by decide +kernel
theorem dX5_keepScore_22 : decode cX5_keepScore 22 = .ok (.iload_n 2, 1) := by decide +kernel
theorem dX5_keepScore_23 : decode cX5_keepScore 23 = .ok (.iload 5, 2) := by decide +kernel
theorem dX5_keepScore_25 : decode cX5_keepScore 25 = .ok (.ifCond .ne 7, 3) := by decide +kernel
theorem dX5_keepScore_28 : decode cX5_keepScore 28 = .ok (.iconst 0, 1) := by decide +kernel
theorem dX5_keepScore_29 : decode cX5_keepScore 29 = .ok (.goto 7, 3) := by decide +kernel
theorem dX5_keepScore_32 : decode cX5_keepScore 32 = .ok (.iload_n 3, 1) := by decide +kernel
theorem dX5_keepScore_33 : decode cX5_keepScore 33 = .ok (.iload 5, 2) := by decide +kernel
theorem dX5_keepScore_35 : decode cX5_keepScore 35 = .ok (.idiv, 1) := by decide +kernel
theorem dX5_keepScore_36 : decode cX5_keepScore 36 = .ok (.iastore, 1) := by decide +kernel
theorem dX5_keepScore_37 : decode cX5_keepScore 37 = .ok (.aload_n 0, 1) := by decide +kernel
theorem dX5_keepScore_38 : decode cX5_keepScore 38 = .ok (.getfield 23, 3) := by decide +kernel
theorem dX5_keepScore_41 : decode cX5_keepScore 41 = .ok (.iload_n 1, 1) := by decide +kernel
theorem dX5_keepScore_42 : decode cX5_keepScore 42 = .ok (.aaload, 1) := by decide +kernel
theorem dX5_keepScore_43 : decode cX5_keepScore 43 = .ok (.iload_n 2, 1) := by decide +kernel
theorem dX5_keepScore_44 : decode cX5_keepScore 44 = .ok (.iload 5, 2) := by decide +kernel
theorem dX5_keepScore_46 : decode cX5_keepScore 46 = .ok (.ifCond .ne 7, 3) := by decide +kernel
theorem dX5_keepScore_49 : decode cX5_keepScore 49 = .ok (.iconst 1, 1) := by decide +kernel
theorem dX5_keepScore_50 : decode cX5_keepScore 50 = .ok (.goto 8, 3) := by decide +kernel
theorem dX5_keepScore_53 : decode cX5_keepScore 53 = .ok (.iload 4, 2) := by decide +kernel
theorem dX5_keepScore_55 : decode cX5_keepScore 55 = .ok (.iload 5, 2) := by decide +kernel
theorem dX5_keepScore_57 : decode cX5_keepScore 57 = .ok (.idiv, 1) := by decide +kernel
theorem dX5_keepScore_58 : decode cX5_keepScore 58 = .ok (.iastore, 1) := by decide +kernel
theorem dX5_keepScore_59 : decode cX5_keepScore 59 = .ok (.return_, 1) := by decide +kernel
theorem dX5_commonDivisor_0 : decode cX5_commonDivisor 0 = .ok (.iload_n 0, 1) := by decide +kernel
theorem dX5_commonDivisor_1 : decode cX5_commonDivisor 1 = .ok (.istore_n 2, 1) := by decide +kernel
theorem dX5_commonDivisor_2 : decode cX5_commonDivisor 2 = .ok (.iload_n 1, 1) := by decide +kernel
theorem dX5_commonDivisor_3 : decode cX5_commonDivisor 3 = .ok (.istore_n 3, 1) := by decide +kernel
theorem dX5_commonDivisor_4 : decode cX5_commonDivisor 4 = .ok (.iconst 0, 1) := by decide +kernel
theorem dX5_commonDivisor_5 : decode cX5_commonDivisor 5 = .ok (.istore 4, 2) := by decide +kernel
theorem dX5_commonDivisor_7 : decode cX5_commonDivisor 7 = .ok (.iload 4, 2) := by decide +kernel
theorem dX5_commonDivisor_9 : decode cX5_commonDivisor 9 = .ok (.bipush 64, 2) := by decide +kernel
theorem dX5_commonDivisor_11 : decode cX5_commonDivisor 11 = .ok (.if_icmp .ge 23, 3) := by decide +kernel
theorem dX5_commonDivisor_14 : decode cX5_commonDivisor 14 = .ok (.iload_n 3, 1) := by decide +kernel
theorem dX5_commonDivisor_15 : decode cX5_commonDivisor 15 = .ok (.ifCond .eq 19, 3) := by decide +kernel
theorem dX5_commonDivisor_18 : decode cX5_commonDivisor 18 = .ok (.iload_n 2, 1) := by decide +kernel
theorem dX5_commonDivisor_19 : decode cX5_commonDivisor 19 = .ok (.iload_n 3, 1) := by decide +kernel
theorem dX5_commonDivisor_20 : decode cX5_commonDivisor 20 = .ok (.irem, 1) := by decide +kernel
theorem dX5_commonDivisor_21 : decode cX5_commonDivisor 21 = .ok (.istore 5, 2) := by decide +kernel
theorem dX5_commonDivisor_23 : decode cX5_commonDivisor 23 = .ok (.iload_n 3, 1) := by decide +kernel
theorem dX5_commonDivisor_24 : decode cX5_commonDivisor 24 = .ok (.istore_n 2, 1) := by decide +kernel
theorem dX5_commonDivisor_25 : decode cX5_commonDivisor 25 = .ok (.iload 5, 2) := by decide +kernel
theorem dX5_commonDivisor_27 : decode cX5_commonDivisor 27 = .ok (.istore_n 3, 1) := by decide +kernel
theorem dX5_commonDivisor_28 : decode cX5_commonDivisor 28 = .ok (.iinc 4 1, 3) := by decide +kernel
theorem dX5_commonDivisor_31 : decode cX5_commonDivisor 31 = .ok (.goto (-24), 3) := by decide +kernel
theorem dX5_commonDivisor_34 : decode cX5_commonDivisor 34 = .ok (.iload_n 2, 1) := by decide +kernel
theorem dX5_commonDivisor_35 : decode cX5_commonDivisor 35 = .ok (.ireturn, 1) := by decide +kernel
theorem dX5_learnOrder_0 : decode cX5_learnOrder 0 = .ok (.aload_n 0, 1) := by decide +kernel
theorem dX5_learnOrder_1 : decode cX5_learnOrder 1 = .ok (.getfield 26, 3) := by decide +kernel
theorem dX5_learnOrder_4 : decode cX5_learnOrder 4 = .ok (.iload_n 1, 1) := by decide +kernel
theorem dX5_learnOrder_5 : decode cX5_learnOrder 5 = .ok (.aaload, 1) := by decide +kernel
theorem dX5_learnOrder_6 : decode cX5_learnOrder 6 = .ok (.astore_n 2, 1) := by decide +kernel
theorem dX5_learnOrder_7 : decode cX5_learnOrder 7 = .ok (.iconst 0, 1) := by decide +kernel
theorem dX5_learnOrder_8 : decode cX5_learnOrder 8 = .ok (.istore_n 3, 1) := by decide +kernel
theorem dX5_learnOrder_9 : decode cX5_learnOrder 9 = .ok (.iload_n 3, 1) := by decide +kernel
theorem dX5_learnOrder_10 : decode cX5_learnOrder 10 = .ok (.aload_n 0, 1) := by decide +kernel
theorem dX5_learnOrder_11 : decode cX5_learnOrder 11 = .ok (.getfield 29, 3) := by decide +kernel
theorem dX5_learnOrder_14 : decode cX5_learnOrder 14 = .ok (.getfield 37, 3) := by decide +kernel
theorem dX5_learnOrder_17 : decode cX5_learnOrder 17 = .ok (.if_icmp .ge 75, 3) := by decide +kernel
theorem dX5_learnOrder_20 : decode cX5_learnOrder 20 = .ok (.aload_n 0, 1) := by decide +kernel
theorem dX5_learnOrder_21 : decode cX5_learnOrder 21 = .ok (.getfield 29, 3) := by decide +kernel
theorem dX5_learnOrder_24 : decode cX5_learnOrder 24 = .ok (.getfield 43, 3) := by decide +kernel
theorem dX5_learnOrder_27 : decode cX5_learnOrder 27 = .ok (.iload_n 3, 1) := by decide +kernel
theorem dX5_learnOrder_28 : decode cX5_learnOrder 28 = .ok (.iaload, 1) := by decide +kernel
theorem dX5_learnOrder_29 : decode cX5_learnOrder 29 = .ok (.istore 4, 2) := by decide +kernel
theorem dX5_learnOrder_31 : decode cX5_learnOrder 31 = .ok (.iload_n 3, 1) := by decide +kernel
theorem dX5_learnOrder_32 : decode cX5_learnOrder 32 = .ok (.istore 5, 2) := by decide +kernel
theorem dX5_learnOrder_34 : decode cX5_learnOrder 34 = .ok (.iload_n 3, 1) := by decide +kernel
theorem dX5_learnOrder_35 : decode cX5_learnOrder 35 = .ok (.istore 6, 2) := by decide +kernel
theorem dX5_learnOrder_37 : decode cX5_learnOrder 37 = .ok (.iload 6, 2) := by decide +kernel
theorem dX5_learnOrder_39 : decode cX5_learnOrder 39 = .ok (.ifCond .le 41, 3) := by decide +kernel
theorem dX5_learnOrder_42 : decode cX5_learnOrder 42 = .ok (.aload_n 0, 1) := by decide +kernel
theorem dX5_learnOrder_43 : decode cX5_learnOrder 43 = .ok (.iload_n 1, 1) := by decide +kernel
theorem dX5_learnOrder_44 : decode cX5_learnOrder 44 = .ok (.iload 4, 2) := by decide +kernel
theorem dX5_learnOrder_46 : decode cX5_learnOrder 46 = .ok (.aload_n 2, 1) := by decide +kernel
theorem dX5_learnOrder_47 : decode cX5_learnOrder 47 = .ok (.iload 6, 2) := by decide +kernel
theorem dX5_learnOrder_49 : decode cX5_learnOrder 49 = .ok (.iconst 1, 1) := by decide +kernel
theorem dX5_learnOrder_50 : decode cX5_learnOrder 50 = .ok (.isub, 1) := by decide +kernel
theorem dX5_learnOrder_51 : decode cX5_learnOrder 51 = .ok (.iaload, 1) := by decide +kernel
theorem dX5_learnOrder_52 : decode cX5_learnOrder 52 = .ok (.invokevirtual 73, 3) := by decide +kernel
theorem dX5_learnOrder_55 : decode cX5_learnOrder 55 = .ok (.ifCond .eq 25, 3) := by decide +kernel
theorem dX5_learnOrder_58 : decode cX5_learnOrder 58 = .ok (.aload_n 2, 1) := by decide +kernel
theorem dX5_learnOrder_59 : decode cX5_learnOrder 59 = .ok (.iload 6, 2) := by decide +kernel
theorem dX5_learnOrder_61 : decode cX5_learnOrder 61 = .ok (.aload_n 2, 1) := by decide +kernel
theorem dX5_learnOrder_62 : decode cX5_learnOrder 62 = .ok (.iload 6, 2) := by decide +kernel
theorem dX5_learnOrder_64 : decode cX5_learnOrder 64 = .ok (.iconst 1, 1) := by decide +kernel
theorem dX5_learnOrder_65 : decode cX5_learnOrder 65 = .ok (.isub, 1) := by decide +kernel
theorem dX5_learnOrder_66 : decode cX5_learnOrder 66 = .ok (.iaload, 1) := by decide +kernel
theorem dX5_learnOrder_67 : decode cX5_learnOrder 67 = .ok (.iastore, 1) := by decide +kernel
theorem dX5_learnOrder_68 : decode cX5_learnOrder 68 = .ok (.iload 6, 2) := by decide +kernel
theorem dX5_learnOrder_70 : decode cX5_learnOrder 70 = .ok (.iconst 1, 1) := by decide +kernel
theorem dX5_learnOrder_71 : decode cX5_learnOrder 71 = .ok (.isub, 1) := by decide +kernel
theorem dX5_learnOrder_72 : decode cX5_learnOrder 72 = .ok (.istore 5, 2) := by decide +kernel
theorem dX5_learnOrder_74 : decode cX5_learnOrder 74 = .ok (.iinc 6 (-1), 3) := by decide +kernel
theorem dX5_learnOrder_77 : decode cX5_learnOrder 77 = .ok (.goto (-40), 3) := by decide +kernel
theorem dX5_learnOrder_80 : decode cX5_learnOrder 80 = .ok (.aload_n 2, 1) := by decide +kernel
theorem dX5_learnOrder_81 : decode cX5_learnOrder 81 = .ok (.iload 5, 2) := by decide +kernel
theorem dX5_learnOrder_83 : decode cX5_learnOrder 83 = .ok (.iload 4, 2) := by decide +kernel
theorem dX5_learnOrder_85 : decode cX5_learnOrder 85 = .ok (.iastore, 1) := by decide +kernel
theorem dX5_learnOrder_86 : decode cX5_learnOrder 86 = .ok (.iinc 3 1, 3) := by decide +kernel
theorem dX5_learnOrder_89 : decode cX5_learnOrder 89 = .ok (.goto (-80), 3) := by decide +kernel
theorem dX5_learnOrder_92 : decode cX5_learnOrder 92 = .ok (.return_, 1) := by decide +kernel
theorem dX5_scoresMore_0 : decode cX5_scoresMore 0 = .ok (.aload_n 0, 1) := by decide +kernel
theorem dX5_scoresMore_1 : decode cX5_scoresMore 1 = .ok (.getfield 20, 3) := by decide +kernel
theorem dX5_scoresMore_4 : decode cX5_scoresMore 4 = .ok (.iload_n 1, 1) := by decide +kernel
theorem dX5_scoresMore_5 : decode cX5_scoresMore 5 = .ok (.aaload, 1) := by decide +kernel
theorem dX5_scoresMore_6 : decode cX5_scoresMore 6 = .ok (.astore 4, 2) := by decide +kernel
theorem dX5_scoresMore_8 : decode cX5_scoresMore 8 = .ok (.aload_n 0, 1) := by decide +kernel
theorem dX5_scoresMore_9 : decode cX5_scoresMore 9 = .ok (.getfield 23, 3) := by decide +kernel
theorem dX5_scoresMore_12 : decode cX5_scoresMore 12 = .ok (.iload_n 1, 1) := by decide +kernel
theorem dX5_scoresMore_13 : decode cX5_scoresMore 13 = .ok (.aaload, 1) := by decide +kernel
theorem dX5_scoresMore_14 : decode cX5_scoresMore 14 = .ok (.astore 5, 2) := by decide +kernel
theorem dX5_scoresMore_16 : decode cX5_scoresMore 16 = .ok (.aload 4, 2) := by decide +kernel
theorem dX5_scoresMore_18 : decode cX5_scoresMore 18 = .ok (.iload_n 2, 1) := by decide +kernel
theorem dX5_scoresMore_19 : decode cX5_scoresMore 19 = .ok (.iaload, 1) := by decide +kernel
theorem dX5_scoresMore_20 : decode cX5_scoresMore 20 = .ok (.aload 5, 2) := by decide +kernel
theorem dX5_scoresMore_22 : decode cX5_scoresMore 22 = .ok (.iload_n 3, 1) := by decide +kernel
theorem dX5_scoresMore_23 : decode cX5_scoresMore 23 = .ok (.iaload, 1) := by decide +kernel
theorem dX5_scoresMore_24 : decode cX5_scoresMore 24 = .ok (.imul, 1) := by decide +kernel
theorem dX5_scoresMore_25 : decode cX5_scoresMore 25 = .ok (.aload 4, 2) := by decide +kernel
theorem dX5_scoresMore_27 : decode cX5_scoresMore 27 = .ok (.iload_n 3, 1) := by decide +kernel
theorem dX5_scoresMore_28 : decode cX5_scoresMore 28 = .ok (.iaload, 1) := by decide +kernel
theorem dX5_scoresMore_29 : decode cX5_scoresMore 29 = .ok (.aload 5, 2) := by decide +kernel
theorem dX5_scoresMore_31 : decode cX5_scoresMore 31 = .ok (.iload_n 2, 1) := by decide +kernel
theorem dX5_scoresMore_32 : decode cX5_scoresMore 32 = .ok (.iaload, 1) := by decide +kernel
theorem dX5_scoresMore_33 : decode cX5_scoresMore 33 = .ok (.imul, 1) := by decide +kernel
theorem dX5_scoresMore_34 : decode cX5_scoresMore 34 = .ok (.if_icmp .le 7, 3) := by decide +kernel
theorem dX5_scoresMore_37 : decode cX5_scoresMore 37 = .ok (.iconst 1, 1) := by decide +kernel
theorem dX5_scoresMore_38 : decode cX5_scoresMore 38 = .ok (.goto 4, 3) := by decide +kernel
theorem dX5_scoresMore_41 : decode cX5_scoresMore 41 = .ok (.iconst 0, 1) := by decide +kernel
theorem dX5_scoresMore_42 : decode cX5_scoresMore 42 = .ok (.ireturn, 1) := by decide +kernel
theorem dX6_init_0 : decode cX6_init 0 = .ok (.aload_n 0, 1) := by decide +kernel
theorem dX6_init_1 : decode cX6_init 1 = .ok (.invokespecial 3, 3) := by decide +kernel
theorem dX6_init_4 : decode cX6_init 4 = .ok (.aload_n 0, 1) := by decide +kernel
theorem dX6_init_5 : decode cX6_init 5 = .ok (.bipush 16, 2) := by decide +kernel
theorem dX6_init_7 : decode cX6_init 7 = .ok (.newarray .int, 2) := by decide +kernel
theorem dX6_init_9 : decode cX6_init 9 = .ok (.putfield 9, 3) := by decide +kernel
theorem dX6_init_12 : decode cX6_init 12 = .ok (.aload_n 0, 1) := by decide +kernel
theorem dX6_init_13 : decode cX6_init 13 = .ok (.bipush 16, 2) := by decide +kernel
theorem dX6_init_15 : decode cX6_init 15 = .ok (.newarray .int, 2) := by decide +kernel
theorem dX6_init_17 : decode cX6_init 17 = .ok (.putfield 15, 3) := by decide +kernel
theorem dX6_init_20 : decode cX6_init 20 = .ok (.aload_n 0, 1) := by decide +kernel
theorem dX6_init_21 : decode cX6_init 21 = .ok (.bipush 16, 2) := by decide +kernel
theorem dX6_init_23 : decode cX6_init 23 = .ok (.newarray .int, 2) := by decide +kernel
theorem dX6_init_25 : decode cX6_init 25 = .ok (.putfield 18, 3) := by decide +kernel
theorem dX6_init_28 : decode cX6_init 28 = .ok (.aload_n 0, 1) := by decide +kernel
theorem dX6_init_29 : decode cX6_init 29 = .ok (.bipush 16, 2) := by decide +kernel
theorem dX6_init_31 : decode cX6_init 31 = .ok (.newarray .int, 2) := by decide +kernel
theorem dX6_init_33 : decode cX6_init 33 = .ok (.putfield 21, 3) := by decide +kernel
theorem dX6_init_36 : decode cX6_init 36 = .ok (.aload_n 0, 1) := by decide +kernel
theorem dX6_init_37 : decode cX6_init 37 = .ok (.bipush 16, 2) := by decide +kernel
theorem dX6_init_39 : decode cX6_init 39 = .ok (.newarray .boolean, 2) := by decide +kernel
theorem dX6_init_41 : decode cX6_init 41 = .ok (.putfield 24, 3) := by decide +kernel
theorem dX6_init_44 : decode cX6_init 44 = .ok (.aload_n 0, 1) := by decide +kernel
theorem dX6_init_45 : decode cX6_init 45 = .ok (.bipush 16, 2) := by decide +kernel
theorem dX6_init_47 : decode cX6_init 47 = .ok (.sipush 300, 3) := by decide +kernel
theorem dX6_init_50 : decode cX6_init 50 = .ok (.multianewarray 28 2, 4) := by decide +kernel
theorem dX6_init_54 : decode cX6_init 54 = .ok (.putfield 30, 3) := by decide +kernel
theorem dX6_init_57 : decode cX6_init 57 = .ok (.aload_n 0, 1) := by decide +kernel
theorem dX6_init_58 : decode cX6_init 58 = .ok (.bipush 16, 2) := by decide +kernel
theorem dX6_init_60 : decode cX6_init 60 = .ok (.bipush 60, 2) := by decide +kernel
theorem dX6_init_62 : decode cX6_init 62 = .ok (.multianewarray 28 2, 4) := by decide +kernel
theorem dX6_init_66 : decode cX6_init 66 = .ok (.putfield 33, 3) := by decide +kernel
theorem dX6_init_69 : decode cX6_init 69 = .ok (.aload_n 0, 1) := by decide +kernel
theorem dX6_init_70 : decode cX6_init 70 = .ok (.aload_n 1, 1) := by decide +kernel
theorem dX6_init_71 : decode cX6_init 71 = .ok (.putfield 36, 3) := by decide +kernel
theorem dX6_init_74 : decode cX6_init 74 = .ok (.aload_n 0, 1) := by decide +kernel
theorem dX6_init_75 : decode cX6_init 75 = .ok (.aload_n 2, 1) := by decide +kernel
theorem dX6_init_76 : decode cX6_init 76 = .ok (.putfield 40, 3) := by decide +kernel
theorem dX6_init_79 : decode cX6_init 79 = .ok (.aload_n 0, 1) := by decide +kernel
theorem dX6_init_80 : decode cX6_init 80 = .ok (.aload_n 3, 1) := by decide +kernel
theorem dX6_init_81 : decode cX6_init 81 = .ok (.putfield 44, 3) := by decide +kernel
theorem dX6_init_84 : decode cX6_init 84 = .ok (.return_, 1) := by decide +kernel
theorem dX6_learn_0 : decode cX6_learn 0 = .ok (.aload_n 0, 1) := by decide +kernel
theorem dX6_learn_1 : decode cX6_learn 1 = .ok (.iconst 0, 1) := by decide +kernel
theorem dX6_learn_2 : decode cX6_learn 2 = .ok (.putfield 48, 3) := by decide +kernel
theorem dX6_learn_5 : decode cX6_learn 5 = .ok (.aload_n 0, 1) := by decide +kernel
theorem dX6_learn_6 : decode cX6_learn 6 = .ok (.iconst 0, 1) := by decide +kernel
theorem dX6_learn_7 : decode cX6_learn 7 = .ok (.putfield 52, 3) := by decide +kernel
theorem dX6_learn_10 : decode cX6_learn 10 = .ok (.aload_n 0, 1) := by decide +kernel
theorem dX6_learn_11 : decode cX6_learn 11 = .ok (.iconst 0, 1) := by decide +kernel
theorem dX6_learn_12 : decode cX6_learn 12 = .ok (.putfield 55, 3) := by decide +kernel
theorem dX6_learn_15 : decode cX6_learn 15 = .ok (.aload_n 0, 1) := by decide +kernel
theorem dX6_learn_16 : decode cX6_learn 16 = .ok (.ldc2_w 58, 3) := by decide +kernel
theorem dX6_learn_19 : decode cX6_learn 19 = .ok (.putfield 60, 3) := by decide +kernel
theorem dX6_learn_22 : decode cX6_learn 22 = .ok (.aload_n 0, 1) := by decide +kernel
theorem dX6_learn_23 : decode cX6_learn 23 = .ok (.getfield 36, 3) := by decide +kernel
theorem dX6_learn_26 : decode cX6_learn 26 = .ok (.getfield 64, 3) := by decide +kernel
theorem dX6_learn_29 : decode cX6_learn 29 = .ok (.ifCond .ne 4, 3) := by decide +kernel
theorem dX6_learn_32 : decode cX6_learn 32 = .ok (.return_, 1) := by decide +kernel
theorem dX6_learn_33 : decode cX6_learn 33 = .ok (.iconst 0, 1) := by decide +kernel
theorem dX6_learn_34 : decode cX6_learn 34 = .ok (.istore_n 1, 1) := by decide +kernel
theorem dX6_learn_35 : decode cX6_learn 35 = .ok (.iload_n 1, 1) := by decide +kernel
theorem dX6_learn_36 : decode cX6_learn 36 = .ok (.aload_n 0, 1) := by decide +kernel
theorem dX6_learn_37 : decode cX6_learn 37 = .ok (.getfield 40, 3) := by decide +kernel
theorem dX6_learn_40 : decode cX6_learn 40 = .ok (.getfield 69, 3) := by decide +kernel
theorem dX6_learn_43 : decode cX6_learn 43 = .ok (.if_icmp .ge 14, 3) := by decide +kernel
theorem dX6_learn_46 : decode cX6_learn 46 = .ok (.aload_n 0, 1) := by decide +kernel
theorem dX6_learn_47 : decode cX6_learn 47 = .ok (.iload_n 1, 1) := by decide +kernel
theorem dX6_learn_48 : decode cX6_learn 48 = .ok (.invokevirtual 72, 3) := by decide +kernel
theorem dX6_learn_51 : decode cX6_learn 51 = .ok (.iinc 1 1, 3) := by decide +kernel
theorem dX6_learn_54 : decode cX6_learn 54 = .ok (.goto (-19), 3) := by decide +kernel
theorem dX6_learn_57 : decode cX6_learn 57 = .ok (.return_, 1) := by decide +kernel
theorem dX6_learnTest_0 : decode cX6_learnTest 0 = .ok (.aload_n 0, 1) := by decide +kernel
theorem dX6_learnTest_1 : decode cX6_learnTest 1 = .ok (.getfield 24, 3) := by decide +kernel
theorem dX6_learnTest_4 : decode cX6_learnTest 4 = .ok (.iload_n 1, 1) := by decide +kernel
theorem dX6_learnTest_5 : decode cX6_learnTest 5 = .ok (.aload_n 0, 1) := by decide +kernel
theorem dX6_learnTest_6 : decode cX6_learnTest 6 = .ok (.getfield 44, 3) := by decide +kernel
theorem dX6_learnTest_9 : decode cX6_learnTest 9 = .ok (.iload_n 1, 1) := by decide +kernel
theorem dX6_learnTest_10 : decode cX6_learnTest 10 = .ok (.invokevirtual 76, 3) := by decide +kernel
theorem dX6_learnTest_13 : decode cX6_learnTest 13 = .ok (.bastore, 1) := by decide +kernel
theorem dX6_learnTest_14 : decode cX6_learnTest 14 = .ok (.aload_n 0, 1) := by decide +kernel
theorem dX6_learnTest_15 : decode cX6_learnTest 15 = .ok (.getfield 9, 3) := by decide +kernel
theorem dX6_learnTest_18 : decode cX6_learnTest 18 = .ok (.iload_n 1, 1) := by decide +kernel
theorem dX6_learnTest_19 : decode cX6_learnTest 19 = .ok (.aload_n 0, 1) := by decide +kernel
theorem dX6_learnTest_20 : decode cX6_learnTest 20 = .ok (.getfield 44, 3) := by decide +kernel
theorem dX6_learnTest_23 : decode cX6_learnTest 23 = .ok (.getfield 82, 3) := by decide +kernel
theorem dX6_learnTest_26 : decode cX6_learnTest 26 = .ok (.iastore, 1) := by decide +kernel
theorem dX6_learnTest_27 : decode cX6_learnTest 27 = .ok (.aload_n 0, 1) := by decide +kernel
theorem dX6_learnTest_28 : decode cX6_learnTest 28 = .ok (.getfield 15, 3) := by decide +kernel
theorem dX6_learnTest_31 : decode cX6_learnTest 31 = .ok (.iload_n 1, 1) := by decide +kernel
theorem dX6_learnTest_32 : decode cX6_learnTest 32 = .ok (.aload_n 0, 1) := by decide +kernel
theorem dX6_learnTest_33 : decode cX6_learnTest 33 = .ok (.getfield 44, 3) := by decide +kernel
theorem dX6_learnTest_36 : decode cX6_learnTest 36 = .ok (.getfield 84, 3) := by decide +kernel
theorem dX6_learnTest_39 : decode cX6_learnTest 39 = .ok (.iastore, 1) := by decide +kernel
theorem dX6_learnTest_40 : decode cX6_learnTest 40 = .ok (.aload_n 0, 1) := by decide +kernel
theorem dX6_learnTest_41 : decode cX6_learnTest 41 = .ok (.getfield 18, 3) := by decide +kernel
theorem dX6_learnTest_44 : decode cX6_learnTest 44 = .ok (.iload_n 1, 1) := by decide +kernel
theorem dX6_learnTest_45 : decode cX6_learnTest 45 = .ok (.aload_n 0, 1) := by decide +kernel
theorem dX6_learnTest_46 : decode cX6_learnTest 46 = .ok (.getfield 44, 3) := by decide +kernel
theorem dX6_learnTest_49 : decode cX6_learnTest 49 = .ok (.getfield 86, 3) := by decide +kernel
theorem dX6_learnTest_52 : decode cX6_learnTest 52 = .ok (.iastore, 1) := by decide +kernel
theorem dX6_learnTest_53 : decode cX6_learnTest 53 = .ok (.aload_n 0, 1) := by decide +kernel
theorem dX6_learnTest_54 : decode cX6_learnTest 54 = .ok (.getfield 21, 3) := by decide +kernel
theorem dX6_learnTest_57 : decode cX6_learnTest 57 = .ok (.iload_n 1, 1) := by decide +kernel
theorem dX6_learnTest_58 : decode cX6_learnTest 58 = .ok (.aload_n 0, 1) := by decide +kernel
theorem dX6_learnTest_59 : decode cX6_learnTest 59 = .ok (.getfield 44, 3) := by decide +kernel
theorem dX6_learnTest_62 : decode cX6_learnTest 62 = .ok (.getfield 88, 3) := by decide +kernel
theorem dX6_learnTest_65 : decode cX6_learnTest 65 = .ok (.iastore, 1) := by decide +kernel
theorem dX6_learnTest_66 : decode cX6_learnTest 66 = .ok (.aload_n 0, 1) := by decide +kernel
theorem dX6_learnTest_67 : decode cX6_learnTest 67 = .ok (.getfield 33, 3) := by decide +kernel
theorem dX6_learnTest_70 : decode cX6_learnTest 70 = .ok (.iload_n 1, 1) := by decide +kernel
theorem dX6_learnTest_71 : decode cX6_learnTest 71 = .ok (.aaload, 1) := by decide +kernel
theorem dX6_learnTest_72 : decode cX6_learnTest 72 = .ok (.iconst 0, 1) := by decide +kernel
theorem dX6_learnTest_73 : decode cX6_learnTest 73 = .ok (.invokestatic 90, 3) := by decide +kernel
theorem dX6_learnTest_76 : decode cX6_learnTest 76 = .ok (.iconst 0, 1) := by decide +kernel
theorem dX6_learnTest_77 : decode cX6_learnTest 77 = .ok (.istore_n 2, 1) := by decide +kernel
theorem dX6_learnTest_78 : decode cX6_learnTest 78 = .ok (.iload_n 2, 1) := by decide +kernel
theorem dX6_learnTest_79 : decode cX6_learnTest 79 = .ok (.aload_n 0, 1) := by decide +kernel
theorem dX6_learnTest_80 : decode cX6_learnTest 80 = .ok (.getfield 44, 3) := by decide +kernel
theorem dX6_learnTest_83 : decode cX6_learnTest 83 = .ok (.getfield 86, 3) := by decide +kernel
theorem dX6_learnTest_86 : decode cX6_learnTest 86 = .ok (.if_icmp .ge 46, 3) := by decide +kernel
theorem dX6_learnTest_89 : decode cX6_learnTest 89 = .ok (.aload_n 0, 1) := by decide +kernel
theorem dX6_learnTest_90 : decode cX6_learnTest 90 = .ok (.getfield 30, 3) := by decide +kernel
theorem dX6_learnTest_93 : decode cX6_learnTest 93 = .ok (.iload_n 1, 1) := by decide +kernel
theorem dX6_learnTest_94 : decode cX6_learnTest 94 = .ok (.aaload, 1) := by decide +kernel
theorem dX6_learnTest_95 : decode cX6_learnTest 95 = .ok (.iload_n 2, 1) := by decide +kernel
theorem dX6_learnTest_96 : decode cX6_learnTest 96 = .ok (.aload_n 0, 1) := by decide +kernel
theorem dX6_learnTest_97 : decode cX6_learnTest 97 = .ok (.getfield 44, 3) := by decide +kernel
theorem dX6_learnTest_100 : decode cX6_learnTest 100 = .ok (.getfield 96, 3) := by decide +kernel
theorem dX6_learnTest_103 : decode cX6_learnTest 103 = .ok (.iload_n 2, 1) := by decide +kernel
theorem dX6_learnTest_104 : decode cX6_learnTest 104 = .ok (.iaload, 1) := by decide +kernel
theorem dX6_learnTest_105 : decode cX6_learnTest 105 = .ok (.iastore, 1) := by decide +kernel
theorem dX6_learnTest_106 : decode cX6_learnTest 106 = .ok (.aload_n 0, 1) := by decide +kernel
theorem dX6_learnTest_107 : decode cX6_learnTest 107 = .ok (.getfield 33, 3) := by decide +kernel
theorem dX6_learnTest_110 : decode cX6_learnTest 110 = .ok (.iload_n 1, 1) := by decide +kernel
theorem dX6_learnTest_111 : decode cX6_learnTest 111 = .ok (.aaload, 1) := by decide +kernel
theorem dX6_learnTest_112 : decode cX6_learnTest 112 = .ok (.aload_n 0, 1) := by decide +kernel
theorem dX6_learnTest_113 : decode cX6_learnTest 113 = .ok (.getfield 44, 3) := by decide +kernel
theorem dX6_learnTest_116 : decode cX6_learnTest 116 = .ok (.getfield 96, 3) := by decide +kernel
theorem dX6_learnTest_119 : decode cX6_learnTest 119 = .ok (.iload_n 2, 1) := by decide +kernel
theorem dX6_learnTest_120 : decode cX6_learnTest 120 = .ok (.iaload, 1) := by decide +kernel
theorem dX6_learnTest_121 : decode cX6_learnTest 121 = .ok (.dup2, 1) := by decide +kernel
theorem dX6_learnTest_122 : decode cX6_learnTest 122 = .ok (.iaload, 1) := by decide +kernel
theorem dX6_learnTest_123 : decode cX6_learnTest 123 = .ok (.iconst 1, 1) := by decide +kernel
theorem dX6_learnTest_124 : decode cX6_learnTest 124 = .ok (.iadd, 1) := by decide +kernel
theorem dX6_learnTest_125 : decode cX6_learnTest 125 = .ok (.iastore, 1) := by decide +kernel
theorem dX6_learnTest_126 : decode cX6_learnTest 126 = .ok (.iinc 2 1, 3) := by decide +kernel
theorem dX6_learnTest_129 : decode cX6_learnTest 129 = .ok (.goto (-51), 3) := by decide +kernel
theorem dX6_learnTest_132 : decode cX6_learnTest 132 = .ok (.aload_n 0, 1) := by decide +kernel
theorem dX6_learnTest_133 : decode cX6_learnTest 133 = .ok (.getfield 40, 3) := by decide +kernel
theorem dX6_learnTest_136 : decode cX6_learnTest 136 = .ok (.iload_n 1, 1) := by decide +kernel
theorem dX6_learnTest_137 : decode cX6_learnTest 137 = .ok (.invokevirtual 98, 3) := by decide +kernel
theorem dX6_learnTest_140 : decode cX6_learnTest 140 = .ok (.ifCond .eq 29, 3) := by decide +kernel
theorem dX6_learnTest_143 : decode cX6_learnTest 143 = .ok (.aload_n 0, 1) := by decide +kernel
theorem dX6_learnTest_144 : decode cX6_learnTest 144 = .ok (.dup, 1) := by decide +kernel
theorem dX6_learnTest_145 : decode cX6_learnTest 145 = .ok (.getfield 55, 3) := by decide +kernel
theorem dX6_learnTest_148 : decode cX6_learnTest 148 = .ok (.aload_n 0, 1) := by decide +kernel
theorem dX6_learnTest_149 : decode cX6_learnTest 149 = .ok (.getfield 24, 3) := by decide +kernel
theorem dX6_learnTest_152 : decode cX6_learnTest 152 = .ok (.iload_n 1, 1) := by decide +kernel
theorem dX6_learnTest_153 : decode cX6_learnTest 153 = .ok (.baload, 1) := by decide +kernel
theorem dX6_learnTest_154 : decode cX6_learnTest 154 = .ok (.ifCond .eq 7, 3) := by decide +kernel
theorem dX6_learnTest_157 : decode cX6_learnTest 157 = .ok (.iconst 1, 1) := by decide +kernel
theorem dX6_learnTest_158 : decode cX6_learnTest 158 = .ok (.goto 4, 3) := by decide +kernel
theorem dX6_learnTest_161 : decode cX6_learnTest 161 = .ok (.iconst 0, 1) := by decide +kernel
theorem dX6_learnTest_162 : decode cX6_learnTest 162 = .ok (.iadd, 1) := by decide +kernel
theorem dX6_learnTest_163 : decode cX6_learnTest 163 = .ok (.putfield 55, 3) := by decide +kernel
theorem dX6_learnTest_166 : decode cX6_learnTest 166 = .ok (.goto 51, 3) := by decide +kernel
theorem dX6_learnTest_169 : decode cX6_learnTest 169 = .ok (.aload_n 0, 1) := by decide +kernel
theorem dX6_learnTest_170 : decode cX6_learnTest 170 = .ok (.getfield 24, 3) := by decide +kernel
theorem dX6_learnTest_173 : decode cX6_learnTest 173 = .ok (.iload_n 1, 1) := by decide +kernel
theorem dX6_learnTest_174 : decode cX6_learnTest 174 = .ok (.baload, 1) := by decide +kernel
theorem dX6_learnTest_175 : decode cX6_learnTest 175 = .ok (.ifCond .eq 16, 3) := by decide +kernel
theorem dX6_learnTest_178 : decode cX6_learnTest 178 = .ok (.aload_n 0, 1) := by decide +kernel
theorem dX6_learnTest_179 : decode cX6_learnTest 179 = .ok (.dup, 1) := by decide +kernel
theorem dX6_learnTest_180 : decode cX6_learnTest 180 = .ok (.getfield 48, 3) := by decide +kernel
theorem dX6_learnTest_183 : decode cX6_learnTest 183 = .ok (.iconst 1, 1) := by decide +kernel
theorem dX6_learnTest_184 : decode cX6_learnTest 184 = .ok (.iadd, 1) := by decide +kernel
theorem dX6_learnTest_185 : decode cX6_learnTest 185 = .ok (.putfield 48, 3) := by decide +kernel
theorem dX6_learnTest_188 : decode cX6_learnTest 188 = .ok (.goto 29, 3) := by decide +kernel
theorem dX6_learnTest_191 : decode cX6_learnTest 191 = .ok (.aload_n 0, 1) := by decide +kernel
theorem dX6_learnTest_192 : decode cX6_learnTest 192 = .ok (.dup, 1) := by decide +kernel
theorem dX6_learnTest_193 : decode cX6_learnTest 193 = .ok (.getfield 52, 3) := by decide +kernel
theorem dX6_learnTest_196 : decode cX6_learnTest 196 = .ok (.iconst 1, 1) := by decide +kernel
theorem dX6_learnTest_197 : decode cX6_learnTest 197 = .ok (.iadd, 1) := by decide +kernel
theorem dX6_learnTest_198 : decode cX6_learnTest 198 = .ok (.putfield 52, 3) := by decide +kernel
theorem dX6_learnTest_201 : decode cX6_learnTest 201 = .ok (.aload_n 0, 1) := by decide +kernel
theorem dX6_learnTest_202 : decode cX6_learnTest 202 = .ok (.dup, 1) := by decide +kernel
theorem dX6_learnTest_203 : decode cX6_learnTest 203 = .ok (.getfield 60, 3) := by decide +kernel
theorem dX6_learnTest_206 : decode cX6_learnTest 206 = .ok (.aload_n 0, 1) := by decide +kernel
theorem dX6_learnTest_207 : decode cX6_learnTest 207 = .ok (.getfield 44, 3) := by decide +kernel
theorem dX6_learnTest_210 : decode cX6_learnTest 210 = .ok (.getfield 101, 3) := by decide +kernel
theorem dX6_learnTest_213 : decode cX6_learnTest 213 = .ok (.land, 1) := by decide +kernel
theorem dX6_learnTest_214 : decode cX6_learnTest 214 = .ok (.putfield 60, 3) := by decide +kernel
theorem dX6_learnTest_217 : decode cX6_learnTest 217 = .ok (.return_, 1) := by decide +kernel
theorem dX6_shownThatDo_0 : decode cX6_shownThatDo 0 = .ok (.iconst 0, 1) := by decide +kernel
theorem dX6_shownThatDo_1 : decode cX6_shownThatDo 1 = .ok (.istore_n 3, 1) := by decide +kernel
theorem dX6_shownThatDo_2 : decode cX6_shownThatDo 2 = .ok (.iconst 0, 1) := by decide +kernel
theorem dX6_shownThatDo_3 : decode cX6_shownThatDo 3 = .ok (.istore 4, 2) := by decide +kernel
theorem dX6_shownThatDo_5 : decode cX6_shownThatDo 5 = .ok (.iload 4, 2) := by decide +kernel
theorem dX6_shownThatDo_7 : decode cX6_shownThatDo 7 = .ok (.aload_n 0, 1) := by decide +kernel
theorem dX6_shownThatDo_8 : decode cX6_shownThatDo 8 = .ok (.getfield 40, 3) := by decide +kernel
theorem dX6_shownThatDo_11 : decode cX6_shownThatDo 11 = .ok (.getfield 69, 3) := by decide +kernel
theorem dX6_shownThatDo_14 : decode cX6_shownThatDo 14 = .ok (.if_icmp .ge 47, 3) := by decide +kernel
theorem dX6_shownThatDo_17 : decode cX6_shownThatDo 17 = .ok (.aload_n 0, 1) := by decide +kernel
theorem dX6_shownThatDo_18 : decode cX6_shownThatDo 18 = .ok (.getfield 40, 3) := by decide +kernel
theorem dX6_shownThatDo_21 : decode cX6_shownThatDo 21 = .ok (.iload 4, 2) := by decide +kernel
theorem dX6_shownThatDo_23 : decode cX6_shownThatDo 23 = .ok (.invokevirtual 104, 3) := by decide +kernel
theorem dX6_shownThatDo_26 : decode cX6_shownThatDo 26 = .ok (.ifCond .eq 29, 3) := by decide +kernel
theorem dX6_shownThatDo_29 : decode cX6_shownThatDo 29 = .ok (.aload_n 0, 1) := by decide +kernel
theorem dX6_shownThatDo_30 : decode cX6_shownThatDo 30 = .ok (.getfield 24, 3) := by decide +kernel
theorem dX6_shownThatDo_33 : decode cX6_shownThatDo 33 = .ok (.iload 4, 2) := by decide +kernel
theorem dX6_shownThatDo_35 : decode cX6_shownThatDo 35 = .ok (.baload, 1) := by decide +kernel
theorem dX6_shownThatDo_36 : decode cX6_shownThatDo 36 = .ok (.iload_n 2, 1) := by decide +kernel
theorem dX6_shownThatDo_37 : decode cX6_shownThatDo 37 = .ok (.if_icmp .ne 18, 3) := by decide +kernel
theorem dX6_shownThatDo_40 : decode cX6_shownThatDo 40 = .ok (.aload_n 0, 1) := by decide +kernel
theorem dX6_shownThatDo_41 : decode cX6_shownThatDo 41 = .ok (.getfield 33, 3) := by decide +kernel
theorem dX6_shownThatDo_44 : decode cX6_shownThatDo 44 = .ok (.iload 4, 2) := by decide +kernel
theorem dX6_shownThatDo_46 : decode cX6_shownThatDo 46 = .ok (.aaload, 1) := by decide +kernel
theorem dX6_shownThatDo_47 : decode cX6_shownThatDo 47 = .ok (.iload_n 1, 1) := by decide +kernel
theorem dX6_shownThatDo_48 : decode cX6_shownThatDo 48 = .ok (.iaload, 1) := by decide +kernel
theorem dX6_shownThatDo_49 : decode cX6_shownThatDo 49 = .ok (.ifCond .le 6, 3) := by decide +kernel
theorem dX6_shownThatDo_52 : decode cX6_shownThatDo 52 = .ok (.iinc 3 1, 3) := by decide +kernel
theorem dX6_shownThatDo_55 : decode cX6_shownThatDo 55 = .ok (.iinc 4 1, 3) := by decide +kernel
theorem dX6_shownThatDo_58 : decode cX6_shownThatDo 58 = .ok (.goto (-53), 3) := by decide +kernel
theorem dX6_shownThatDo_61 : decode cX6_shownThatDo 61 = .ok (.iload_n 3, 1) := by decide +kernel
theorem dX6_shownThatDo_62 : decode cX6_shownThatDo 62 = .ok (.ireturn, 1) := by decide +kernel
theorem dX6_couldMend_0 : decode cX6_couldMend 0 = .ok (.aload_n 0, 1) := by decide +kernel
theorem dX6_couldMend_1 : decode cX6_couldMend 1 = .ok (.getfield 60, 3) := by decide +kernel
theorem dX6_couldMend_4 : decode cX6_couldMend 4 = .ok (.iload_n 1, 1) := by decide +kernel
theorem dX6_couldMend_5 : decode cX6_couldMend 5 = .ok (.lshr, 1) := by decide +kernel
theorem dX6_couldMend_6 : decode cX6_couldMend 6 = .ok (.lconst 1, 1) := by decide +kernel
theorem dX6_couldMend_7 : decode cX6_couldMend 7 = .ok (.land, 1) := by decide +kernel
theorem dX6_couldMend_8 : decode cX6_couldMend 8 = .ok (.lconst 1, 1) := by decide +kernel
theorem dX6_couldMend_9 : decode cX6_couldMend 9 = .ok (.lcmp, 1) := by decide +kernel
theorem dX6_couldMend_10 : decode cX6_couldMend 10 = .ok (.ifCond .ne 7, 3) := by decide +kernel
theorem dX6_couldMend_13 : decode cX6_couldMend 13 = .ok (.iconst 1, 1) := by decide +kernel
theorem dX6_couldMend_14 : decode cX6_couldMend 14 = .ok (.goto 4, 3) := by decide +kernel
theorem dX6_couldMend_17 : decode cX6_couldMend 17 = .ok (.iconst 0, 1) := by decide +kernel
theorem dX6_couldMend_18 : decode cX6_couldMend 18 = .ok (.ireturn, 1) := by decide +kernel
theorem dX7_init_0 : decode cX7_init 0 = .ok (.aload_n 0, 1) := by decide +kernel
theorem dX7_init_1 : decode cX7_init 1 = .ok (.invokespecial 3, 3) := by decide +kernel
theorem dX7_init_4 : decode cX7_init 4 = .ok (.aload_n 0, 1) := by decide +kernel
theorem dX7_init_5 : decode cX7_init 5 = .ok (.aload_n 1, 1) := by decide +kernel
theorem dX7_init_6 : decode cX7_init 6 = .ok (.putfield 9, 3) := by decide +kernel
theorem dX7_init_9 : decode cX7_init 9 = .ok (.return_, 1) := by decide +kernel
theorem dX7_start_0 : decode cX7_start 0 = .ok (.aload_n 0, 1) := by decide +kernel
theorem dX7_start_1 : decode cX7_start 1 = .ok (.iconst 0, 1) := by decide +kernel
theorem dX7_start_2 : decode cX7_start 2 = .ok (.iload_n 1, 1) := by decide +kernel
theorem dX7_start_3 : decode cX7_start 3 = .ok (.aload_n 0, 1) := by decide +kernel
theorem dX7_start_4 : decode cX7_start 4 = .ok (.getfield 9, 3) := by decide +kernel
theorem dX7_start_7 : decode cX7_start 7 = .ok (.arraylength, 1) := by decide +kernel
theorem dX7_start_8 : decode cX7_start 8 = .ok (.invokestatic 15, 3) := by decide +kernel
theorem dX7_start_11 : decode cX7_start 11 = .ok (.invokestatic 21, 3) := by decide +kernel
theorem dX7_start_14 : decode cX7_start 14 = .ok (.putfield 24, 3) := by decide +kernel
theorem dX7_start_17 : decode cX7_start 17 = .ok (.aload_n 0, 1) := by decide +kernel
theorem dX7_start_18 : decode cX7_start 18 = .ok (.iconst 0, 1) := by decide +kernel
theorem dX7_start_19 : decode cX7_start 19 = .ok (.putfield 28, 3) := by decide +kernel
theorem dX7_start_22 : decode cX7_start 22 = .ok (.aload_n 0, 1) := by decide +kernel
theorem dX7_start_23 : decode cX7_start 23 = .ok (.iconst 0, 1) := by decide +kernel
theorem dX7_start_24 : decode cX7_start 24 = .ok (.putfield 31, 3) := by decide +kernel
theorem dX7_start_27 : decode cX7_start 27 = .ok (.aload_n 0, 1) := by decide +kernel
theorem dX7_start_28 : decode cX7_start 28 = .ok (.invokevirtual 34, 3) := by decide +kernel
theorem dX7_start_31 : decode cX7_start 31 = .ok (.return_, 1) := by decide +kernel
theorem dX7_refuse_0 : decode cX7_refuse 0 = .ok (.aload_n 0, 1) := by decide +kernel
theorem dX7_refuse_1 : decode cX7_refuse 1 = .ok (.getfield 31, 3) := by decide +kernel
theorem dX7_refuse_4 : decode cX7_refuse 4 = .ok (.ifCond .ne 21, 3) := by decide +kernel
theorem dX7_refuse_7 : decode cX7_refuse 7 = .ok (.aload_n 0, 1) := by decide +kernel
theorem dX7_refuse_8 : decode cX7_refuse 8 = .ok (.bipush 8, 2) := by decide +kernel
theorem dX7_refuse_10 : decode cX7_refuse 10 = .ok (.aload_n 0, 1) := by decide +kernel
theorem dX7_refuse_11 : decode cX7_refuse 11 = .ok (.getfield 37, 3) := by decide +kernel
theorem dX7_refuse_14 : decode cX7_refuse 14 = .ok (.imul, 1) := by decide +kernel
theorem dX7_refuse_15 : decode cX7_refuse 15 = .ok (.iload_n 1, 1) := by decide +kernel
theorem dX7_refuse_16 : decode cX7_refuse 16 = .ok (.iadd, 1) := by decide +kernel
theorem dX7_refuse_17 : decode cX7_refuse 17 = .ok (.putfield 31, 3) := by decide +kernel
theorem dX7_refuse_20 : decode cX7_refuse 20 = .ok (.aload_n 0, 1) := by decide +kernel
theorem dX7_refuse_21 : decode cX7_refuse 21 = .ok (.iconst 1, 1) := by decide +kernel
theorem dX7_refuse_22 : decode cX7_refuse 22 = .ok (.putfield 40, 3) := by decide +kernel
theorem dX7_refuse_25 : decode cX7_refuse 25 = .ok (.return_, 1) := by decide +kernel
theorem dX7_advance_0 : decode cX7_advance 0 = .ok (.aload_n 0, 1) := by decide +kernel
theorem dX7_advance_1 : decode cX7_advance 1 = .ok (.getfield 31, 3) := by decide +kernel
theorem dX7_advance_4 : decode cX7_advance 4 = .ok (.ifCond .eq 4, 3) := by decide +kernel
theorem dX7_advance_7 : decode cX7_advance 7 = .ok (.return_, 1) := by decide +kernel
theorem dX7_advance_8 : decode cX7_advance 8 = .ok (.aload_n 0, 1) := by decide +kernel
theorem dX7_advance_9 : decode cX7_advance 9 = .ok (.getfield 28, 3) := by decide +kernel
theorem dX7_advance_12 : decode cX7_advance 12 = .ok (.aload_n 0, 1) := by decide +kernel
theorem dX7_advance_13 : decode cX7_advance 13 = .ok (.getfield 24, 3) := by decide +kernel
theorem dX7_advance_16 : decode cX7_advance 16 = .ok (.if_icmp .ge 44, 3) := by decide +kernel
theorem dX7_advance_19 : decode cX7_advance 19 = .ok (.aload_n 0, 1) := by decide +kernel
theorem dX7_advance_20 : decode cX7_advance 20 = .ok (.getfield 9, 3) := by decide +kernel
theorem dX7_advance_23 : decode cX7_advance 23 = .ok (.aload_n 0, 1) := by decide +kernel
theorem dX7_advance_24 : decode cX7_advance 24 = .ok (.getfield 28, 3) := by decide +kernel
theorem dX7_advance_27 : decode cX7_advance 27 = .ok (.baload, 1) := by decide +kernel
theorem dX7_advance_28 : decode cX7_advance 28 = .ok (.bipush 32, 2) := by decide +kernel
theorem dX7_advance_30 : decode cX7_advance 30 = .ok (.if_icmp .eq 17, 3) := by decide +kernel
theorem dX7_advance_33 : decode cX7_advance 33 = .ok (.aload_n 0, 1) := by decide +kernel
theorem dX7_advance_34 : decode cX7_advance 34 = .ok (.getfield 9, 3) := by decide +kernel
theorem dX7_advance_37 : decode cX7_advance 37 = .ok (.aload_n 0, 1) := by decide +kernel
theorem dX7_advance_38 : decode cX7_advance 38 = .ok (.getfield 28, 3) := by decide +kernel
theorem dX7_advance_41 : decode cX7_advance 41 = .ok (.baload, 1) := by decide +kernel
theorem dX7_advance_42 : decode cX7_advance 42 = .ok (.bipush 10, 2) := by decide +kernel
theorem dX7_advance_44 : decode cX7_advance 44 = .ok (.if_icmp .ne 16, 3) := by decide +kernel
theorem dX7_advance_47 : decode cX7_advance 47 = .ok (.aload_n 0, 1) := by decide +kernel
theorem dX7_advance_48 : decode cX7_advance 48 = .ok (.dup, 1) := by decide +kernel
theorem dX7_advance_49 : decode cX7_advance 49 = .ok (.getfield 28, 3) := by decide +kernel
theorem dX7_advance_52 : decode cX7_advance 52 = .ok (.iconst 1, 1) := by decide +kernel
theorem dX7_advance_53 : decode cX7_advance 53 = .ok (.iadd, 1) := by decide +kernel
theorem dX7_advance_54 : decode cX7_advance 54 = .ok (.putfield 28, 3) := by decide +kernel
theorem dX7_advance_57 : decode cX7_advance 57 = .ok (.goto (-49), 3) := by decide +kernel
theorem dX7_advance_60 : decode cX7_advance 60 = .ok (.aload_n 0, 1) := by decide +kernel
theorem dX7_advance_61 : decode cX7_advance 61 = .ok (.aload_n 0, 1) := by decide +kernel
theorem dX7_advance_62 : decode cX7_advance 62 = .ok (.getfield 28, 3) := by decide +kernel
theorem dX7_advance_65 : decode cX7_advance 65 = .ok (.putfield 37, 3) := by decide +kernel
theorem dX7_advance_68 : decode cX7_advance 68 = .ok (.aload_n 0, 1) := by decide +kernel
theorem dX7_advance_69 : decode cX7_advance 69 = .ok (.iconst 0, 1) := by decide +kernel
theorem dX7_advance_70 : decode cX7_advance 70 = .ok (.putfield 43, 3) := by decide +kernel
theorem dX7_advance_73 : decode cX7_advance 73 = .ok (.aload_n 0, 1) := by decide +kernel
theorem dX7_advance_74 : decode cX7_advance 74 = .ok (.aload_n 0, 1) := by decide +kernel
theorem dX7_advance_75 : decode cX7_advance 75 = .ok (.getfield 28, 3) := by decide +kernel
theorem dX7_advance_78 : decode cX7_advance 78 = .ok (.invokevirtual 46, 3) := by decide +kernel
theorem dX7_advance_81 : decode cX7_advance 81 = .ok (.istore_n 1, 1) := by decide +kernel
theorem dX7_advance_82 : decode cX7_advance 82 = .ok (.aload_n 0, 1) := by decide +kernel
theorem dX7_advance_83 : decode cX7_advance 83 = .ok (.getfield 28, 3) := by decide +kernel
theorem dX7_advance_86 : decode cX7_advance 86 = .ok (.aload_n 0, 1) := by decide +kernel
theorem dX7_advance_87 : decode cX7_advance 87 = .ok (.getfield 24, 3) := by decide +kernel
theorem dX7_advance_90 : decode cX7_advance 90 = .ok (.if_icmp .lt 11, 3) := by decide +kernel
theorem dX7_advance_93 : decode cX7_advance 93 = .ok (.aload_n 0, 1) := by decide +kernel
theorem dX7_advance_94 : decode cX7_advance 94 = .ok (.iconst 0, 1) := by decide +kernel
theorem dX7_advance_95 : decode cX7_advance 95 = .ok (.putfield 40, 3) := by decide +kernel
theorem dX7_advance_98 : decode cX7_advance 98 = .ok (.goto 73, 3) := by decide +kernel
theorem dX7_advance_101 : decode cX7_advance 101 = .ok (.iload_n 1, 1) := by decide +kernel
theorem dX7_advance_102 : decode cX7_advance 102 = .ok (.bipush 97, 2) := by decide +kernel
theorem dX7_advance_104 : decode cX7_advance 104 = .ok (.if_icmp .lt 16, 3) := by decide +kernel
theorem dX7_advance_107 : decode cX7_advance 107 = .ok (.iload_n 1, 1) := by decide +kernel
theorem dX7_advance_108 : decode cX7_advance 108 = .ok (.bipush 122, 2) := by decide +kernel
theorem dX7_advance_110 : decode cX7_advance 110 = .ok (.if_icmp .gt 10, 3) := by decide +kernel
theorem dX7_advance_113 : decode cX7_advance 113 = .ok (.aload_n 0, 1) := by decide +kernel
theorem dX7_advance_114 : decode cX7_advance 114 = .ok (.invokevirtual 50, 3) := by decide +kernel
theorem dX7_advance_117 : decode cX7_advance 117 = .ok (.goto 54, 3) := by decide +kernel
theorem dX7_advance_120 : decode cX7_advance 120 = .ok (.iload_n 1, 1) := by decide +kernel
theorem dX7_advance_121 : decode cX7_advance 121 = .ok (.bipush 48, 2) := by decide +kernel
theorem dX7_advance_123 : decode cX7_advance 123 = .ok (.if_icmp .lt 16, 3) := by decide +kernel
theorem dX7_advance_126 : decode cX7_advance 126 = .ok (.iload_n 1, 1) := by decide +kernel
theorem dX7_advance_127 : decode cX7_advance 127 = .ok (.bipush 57, 2) := by decide +kernel
theorem dX7_advance_129 : decode cX7_advance 129 = .ok (.if_icmp .gt 10, 3) := by decide +kernel
theorem dX7_advance_132 : decode cX7_advance 132 = .ok (.aload_n 0, 1) := by decide +kernel
theorem dX7_advance_133 : decode cX7_advance 133 = .ok (.invokevirtual 53, 3) := by decide +kernel
theorem dX7_advance_136 : decode cX7_advance 136 = .ok (.goto 35, 3) := by decide +kernel
theorem dX7_advance_139 : decode cX7_advance 139 = .ok (.aload_n 0, 1) := by decide +kernel
theorem dX7_advance_140 : decode cX7_advance 140 = .ok (.iload_n 1, 1) := by decide +kernel
theorem dX7_advance_141 : decode cX7_advance 141 = .ok (.aload_n 0, 1) := by decide +kernel
theorem dX7_advance_142 : decode cX7_advance 142 = .ok (.aload_n 0, 1) := by decide +kernel
theorem dX7_advance_143 : decode cX7_advance 143 = .ok (.getfield 28, 3) := by decide +kernel
theorem dX7_advance_146 : decode cX7_advance 146 = .ok (.iconst 1, 1) := by decide +kernel
theorem dX7_advance_147 : decode cX7_advance 147 = .ok (.iadd, 1) := by decide +kernel
theorem dX7_advance_148 : decode cX7_advance 148 = .ok (.invokevirtual 46, 3) := by decide +kernel
theorem dX7_advance_151 : decode cX7_advance 151 = .ok (.bipush 61, 2) := by decide +kernel
theorem dX7_advance_153 : decode cX7_advance 153 = .ok (.if_icmp .ne 10, 3) := by decide +kernel
theorem dX7_advance_156 : decode cX7_advance 156 = .ok (.iload_n 1, 1) := by decide +kernel
theorem dX7_advance_157 : decode cX7_advance 157 = .ok (.invokestatic 56, 3) := by decide +kernel
theorem dX7_advance_160 : decode cX7_advance 160 = .ok (.goto 4, 3) := by decide +kernel
theorem dX7_advance_163 : decode cX7_advance 163 = .ok (.iconst (-1), 1) := by decide +kernel
theorem dX7_advance_164 : decode cX7_advance 164 = .ok (.iload_n 1, 1) := by decide +kernel
theorem dX7_advance_165 : decode cX7_advance 165 = .ok (.invokestatic 59, 3) := by decide +kernel
theorem dX7_advance_168 : decode cX7_advance 168 = .ok (.invokevirtual 62, 3) := by decide +kernel
theorem dX7_advance_171 : decode cX7_advance 171 = .ok (.aload_n 0, 1) := by decide +kernel
theorem dX7_advance_172 : decode cX7_advance 172 = .ok (.getfield 40, 3) := by decide +kernel
theorem dX7_advance_175 : decode cX7_advance 175 = .ok (.iconst 1, 1) := by decide +kernel
theorem dX7_advance_176 : decode cX7_advance 176 = .ok (.if_icmp .ne 8, 3) := by decide +kernel
theorem dX7_advance_179 : decode cX7_advance 179 = .ok (.aload_n 0, 1) := by decide +kernel
theorem dX7_advance_180 : decode cX7_advance 180 = .ok (.iconst 1, 1) := by decide +kernel
theorem dX7_advance_181 : decode cX7_advance 181 = .ok (.invokevirtual 66, 3) := by decide +kernel
theorem dX7_advance_184 : decode cX7_advance 184 = .ok (.return_, 1) := by decide +kernel
theorem dX7_scanWord_0 : decode cX7_scanWord 0 = .ok (.aload_n 0, 1) := by decide +kernel
theorem dX7_scanWord_1 : decode cX7_scanWord 1 = .ok (.iconst 2, 1) := by decide +kernel
theorem dX7_scanWord_2 : decode cX7_scanWord 2 = .ok (.putfield 40, 3) := by decide +kernel
theorem dX7_scanWord_5 : decode cX7_scanWord 5 = .ok (.aload_n 0, 1) := by decide +kernel
theorem dX7_scanWord_6 : decode cX7_scanWord 6 = .ok (.getfield 28, 3) := by decide +kernel
theorem dX7_scanWord_9 : decode cX7_scanWord 9 = .ok (.aload_n 0, 1) := by decide +kernel
theorem dX7_scanWord_10 : decode cX7_scanWord 10 = .ok (.getfield 24, 3) := by decide +kernel
theorem dX7_scanWord_13 : decode cX7_scanWord 13 = .ok (.if_icmp .ge 44, 3) := by decide +kernel
theorem dX7_scanWord_16 : decode cX7_scanWord 16 = .ok (.aload_n 0, 1) := by decide +kernel
theorem dX7_scanWord_17 : decode cX7_scanWord 17 = .ok (.getfield 9, 3) := by decide +kernel
theorem dX7_scanWord_20 : decode cX7_scanWord 20 = .ok (.aload_n 0, 1) := by decide +kernel
theorem dX7_scanWord_21 : decode cX7_scanWord 21 = .ok (.getfield 28, 3) := by decide +kernel
theorem dX7_scanWord_24 : decode cX7_scanWord 24 = .ok (.baload, 1) := by decide +kernel
theorem dX7_scanWord_25 : decode cX7_scanWord 25 = .ok (.bipush 97, 2) := by decide +kernel
theorem dX7_scanWord_27 : decode cX7_scanWord 27 = .ok (.if_icmp .lt 30, 3) := by decide +kernel
theorem dX7_scanWord_30 : decode cX7_scanWord 30 = .ok (.aload_n 0, 1) := by decide +kernel
theorem dX7_scanWord_31 : decode cX7_scanWord 31 = .ok (.getfield 9, 3) := by decide +kernel
theorem dX7_scanWord_34 : decode cX7_scanWord 34 = .ok (.aload_n 0, 1) := by decide +kernel
theorem dX7_scanWord_35 : decode cX7_scanWord 35 = .ok (.getfield 28, 3) := by decide +kernel
theorem dX7_scanWord_38 : decode cX7_scanWord 38 = .ok (.baload, 1) := by decide +kernel
theorem dX7_scanWord_39 : decode cX7_scanWord 39 = .ok (.bipush 122, 2) := by decide +kernel
theorem dX7_scanWord_41 : decode cX7_scanWord 41 = .ok (.if_icmp .gt 16, 3) := by decide +kernel
theorem dX7_scanWord_44 : decode cX7_scanWord 44 = .ok (.aload_n 0, 1) := by decide +kernel
theorem dX7_scanWord_45 : decode cX7_scanWord 45 = .ok (.dup, 1) := by decide +kernel
theorem dX7_scanWord_46 : decode cX7_scanWord 46 = .ok (.getfield 28, 3) := by decide +kernel
theorem dX7_scanWord_49 : decode cX7_scanWord 49 = .ok (.iconst 1, 1) := by decide +kernel
theorem dX7_scanWord_50 : decode cX7_scanWord 50 = .ok (.iadd, 1) := by decide +kernel
theorem dX7_scanWord_51 : decode cX7_scanWord 51 = .ok (.putfield 28, 3) := by decide +kernel
theorem dX7_scanWord_54 : decode cX7_scanWord 54 = .ok (.goto (-49), 3) := by decide +kernel
theorem dX7_scanWord_57 : decode cX7_scanWord 57 = .ok (.return_, 1) := by decide +kernel
theorem dX7_scanNumeral_0 : decode cX7_scanNumeral 0 = .ok (.aload_n 0, 1) := by decide +kernel
theorem dX7_scanNumeral_1 : decode cX7_scanNumeral 1 = .ok (.getfield 28, 3) := by decide +kernel
theorem dX7_scanNumeral_4 : decode cX7_scanNumeral 4 = .ok (.aload_n 0, 1) := by decide +kernel
theorem dX7_scanNumeral_5 : decode cX7_scanNumeral 5 = .ok (.getfield 24, 3) := by decide +kernel
theorem dX7_scanNumeral_8 : decode cX7_scanNumeral 8 = .ok (.if_icmp .ge 81, 3) := by decide +kernel
theorem dX7_scanNumeral_11 : decode cX7_scanNumeral 11 = .ok (.aload_n 0, 1) := by decide +kernel
theorem dX7_scanNumeral_12 : decode cX7_scanNumeral 12 = .ok (.getfield 9, 3) := by decide +kernel
theorem dX7_scanNumeral_15 : decode cX7_scanNumeral 15 = .ok (.aload_n 0, 1) := by decide +kernel
theorem dX7_scanNumeral_16 : decode cX7_scanNumeral 16 = .ok (.getfield 28, 3) := by decide +kernel
theorem dX7_scanNumeral_19 : decode cX7_scanNumeral 19 = .ok (.baload, 1) := by decide +kernel
theorem dX7_scanNumeral_20 : decode cX7_scanNumeral 20 = .ok (.bipush 48, 2) := by decide +kernel
theorem dX7_scanNumeral_22 : decode cX7_scanNumeral 22 = .ok (.if_icmp .lt 67, 3) := by decide +kernel
theorem dX7_scanNumeral_25 : decode cX7_scanNumeral 25 = .ok (.aload_n 0, 1) := by decide +kernel
theorem dX7_scanNumeral_26 : decode cX7_scanNumeral 26 = .ok (.getfield 9, 3) := by decide +kernel
theorem dX7_scanNumeral_29 : decode cX7_scanNumeral 29 = .ok (.aload_n 0, 1) := by decide +kernel
theorem dX7_scanNumeral_30 : decode cX7_scanNumeral 30 = .ok (.getfield 28, 3) := by decide +kernel
theorem dX7_scanNumeral_33 : decode cX7_scanNumeral 33 = .ok (.baload, 1) := by decide +kernel
theorem dX7_scanNumeral_34 : decode cX7_scanNumeral 34 = .ok (.bipush 57, 2) := by decide +kernel
theorem dX7_scanNumeral_36 : decode cX7_scanNumeral 36 = .ok (.if_icmp .gt 53, 3) := by decide +kernel
theorem dX7_scanNumeral_39 : decode cX7_scanNumeral 39 = .ok (.aload_n 0, 1) := by decide +kernel
theorem dX7_scanNumeral_40 : decode cX7_scanNumeral 40 = .ok (.getfield 28, 3) := by decide +kernel
theorem dX7_scanNumeral_43 : decode cX7_scanNumeral 43 = .ok (.aload_n 0, 1) := by decide +kernel
theorem dX7_scanNumeral_44 : decode cX7_scanNumeral 44 = .ok (.getfield 37, 3) := by decide +kernel
theorem dX7_scanNumeral_47 : decode cX7_scanNumeral 47 = .ok (.isub, 1) := by decide +kernel
theorem dX7_scanNumeral_48 : decode cX7_scanNumeral 48 = .ok (.iconst 3, 1) := by decide +kernel
theorem dX7_scanNumeral_49 : decode cX7_scanNumeral 49 = .ok (.if_icmp .ge 27, 3) := by decide +kernel
theorem dX7_scanNumeral_52 : decode cX7_scanNumeral 52 = .ok (.aload_n 0, 1) := by decide +kernel
theorem dX7_scanNumeral_53 : decode cX7_scanNumeral 53 = .ok (.bipush 10, 2) := by decide +kernel
theorem dX7_scanNumeral_55 : decode cX7_scanNumeral 55 = .ok (.aload_n 0, 1) := by decide +kernel
theorem dX7_scanNumeral_56 : decode cX7_scanNumeral 56 = .ok (.getfield 43, 3) := by decide +kernel
theorem dX7_scanNumeral_59 : decode cX7_scanNumeral 59 = .ok (.imul, 1) := by decide +kernel
theorem dX7_scanNumeral_60 : decode cX7_scanNumeral 60 = .ok (.aload_n 0, 1) := by decide +kernel
theorem dX7_scanNumeral_61 : decode cX7_scanNumeral 61 = .ok (.getfield 9, 3) := by decide +kernel
theorem dX7_scanNumeral_64 : decode cX7_scanNumeral 64 = .ok (.aload_n 0, 1) := by decide +kernel
theorem dX7_scanNumeral_65 : decode cX7_scanNumeral 65 = .ok (.getfield 28, 3) := by decide +kernel
theorem dX7_scanNumeral_68 : decode cX7_scanNumeral 68 = .ok (.baload, 1) := by decide +kernel
theorem dX7_scanNumeral_69 : decode cX7_scanNumeral 69 = .ok (.iadd, 1) := by decide +kernel
theorem dX7_scanNumeral_70 : decode cX7_scanNumeral 70 = .ok (.bipush 48, 2) := by decide +kernel
theorem dX7_scanNumeral_72 : decode cX7_scanNumeral 72 = .ok (.isub, 1) := by decide +kernel
theorem dX7_scanNumeral_73 : decode cX7_scanNumeral 73 = .ok (.putfield 43, 3) := by decide +kernel
theorem dX7_scanNumeral_76 : decode cX7_scanNumeral 76 = .ok (.aload_n 0, 1) := by decide +kernel
theorem dX7_scanNumeral_77 : decode cX7_scanNumeral 77 = .ok (.dup, 1) := by decide +kernel
theorem dX7_scanNumeral_78 : decode cX7_scanNumeral 78 = .ok (.getfield 28, 3) := by decide +kernel
theorem dX7_scanNumeral_81 : decode cX7_scanNumeral 81 = .ok (.iconst 1, 1) := by decide +kernel
theorem dX7_scanNumeral_82 : decode cX7_scanNumeral 82 = .ok (.iadd, 1) := by decide +kernel
theorem dX7_scanNumeral_83 : decode cX7_scanNumeral 83 = .ok (.putfield 28, 3) := by decide +kernel
theorem dX7_scanNumeral_86 : decode cX7_scanNumeral 86 = .ok (.goto (-86), 3) := by decide +kernel
theorem dX7_scanNumeral_89 : decode cX7_scanNumeral 89 = .ok (.aload_n 0, 1) := by decide +kernel
theorem dX7_scanNumeral_90 : decode cX7_scanNumeral 90 = .ok (.aload_n 0, 1) := by decide +kernel
theorem dX7_scanNumeral_91 : decode cX7_scanNumeral 91 = .ok (.getfield 28, 3) := by decide +kernel
theorem dX7_scanNumeral_94 : decode cX7_scanNumeral 94 = .ok (.aload_n 0, 1) := by decide +kernel
theorem dX7_scanNumeral_95 : decode cX7_scanNumeral 95 = .ok (.getfield 37, 3) := by decide +kernel
theorem dX7_scanNumeral_98 : decode cX7_scanNumeral 98 = .ok (.isub, 1) := by decide +kernel
theorem dX7_scanNumeral_99 : decode cX7_scanNumeral 99 = .ok (.iconst 3, 1) := by decide +kernel
theorem dX7_scanNumeral_100 : decode cX7_scanNumeral 100 = .ok (.if_icmp .gt 7, 3) := by decide +kernel
theorem dX7_scanNumeral_103 : decode cX7_scanNumeral 103 = .ok (.iconst 3, 1) := by decide +kernel
theorem dX7_scanNumeral_104 : decode cX7_scanNumeral 104 = .ok (.goto 4, 3) := by decide +kernel
theorem dX7_scanNumeral_107 : decode cX7_scanNumeral 107 = .ok (.iconst 1, 1) := by decide +kernel
theorem dX7_scanNumeral_108 : decode cX7_scanNumeral 108 = .ok (.putfield 40, 3) := by decide +kernel
theorem dX7_scanNumeral_111 : decode cX7_scanNumeral 111 = .ok (.return_, 1) := by decide +kernel
theorem dX7_scanSign_0 : decode cX7_scanSign 0 = .ok (.ldc 70, 2) := by decide +kernel
theorem dX7_scanSign_2 : decode cX7_scanSign 2 = .ok (.iload_n 1, 1) := by decide +kernel
theorem dX7_scanSign_3 : decode cX7_scanSign 3 = .ok (.i2c, 1) := by decide +kernel
theorem dX7_scanSign_4 : decode cX7_scanSign 4 = .ok (.invokevirtual 72, 3) := by decide +kernel
theorem dX7_scanSign_7 : decode cX7_scanSign 7 = .ok (.ifCond .lt 7, 3) := by decide +kernel
theorem dX7_scanSign_10 : decode cX7_scanSign 10 = .ok (.iconst 1, 1) := by decide +kernel
theorem dX7_scanSign_11 : decode cX7_scanSign 11 = .ok (.goto 4, 3) := by decide +kernel
theorem dX7_scanSign_14 : decode cX7_scanSign 14 = .ok (.iconst 0, 1) := by decide +kernel
theorem dX7_scanSign_15 : decode cX7_scanSign 15 = .ok (.istore 4, 2) := by decide +kernel
theorem dX7_scanSign_17 : decode cX7_scanSign 17 = .ok (.aload_n 0, 1) := by decide +kernel
theorem dX7_scanSign_18 : decode cX7_scanSign 18 = .ok (.iload_n 2, 1) := by decide +kernel
theorem dX7_scanSign_19 : decode cX7_scanSign 19 = .ok (.iconst (-1), 1) := by decide +kernel
theorem dX7_scanSign_20 : decode cX7_scanSign 20 = .ok (.if_icmp .ne 8, 3) := by decide +kernel
theorem dX7_scanSign_23 : decode cX7_scanSign 23 = .ok (.iload_n 3, 1) := by decide +kernel
theorem dX7_scanSign_24 : decode cX7_scanSign 24 = .ok (.iconst (-1), 1) := by decide +kernel
theorem dX7_scanSign_25 : decode cX7_scanSign 25 = .ok (.if_icmp .eq 7, 3) := by decide +kernel
theorem dX7_scanSign_28 : decode cX7_scanSign 28 = .ok (.iconst 4, 1) := by decide +kernel
theorem dX7_scanSign_29 : decode cX7_scanSign 29 = .ok (.goto 13, 3) := by decide +kernel
theorem dX7_scanSign_32 : decode cX7_scanSign 32 = .ok (.iload 4, 2) := by decide +kernel
theorem dX7_scanSign_34 : decode cX7_scanSign 34 = .ok (.ifCond .eq 7, 3) := by decide +kernel
theorem dX7_scanSign_37 : decode cX7_scanSign 37 = .ok (.iconst 5, 1) := by decide +kernel
theorem dX7_scanSign_38 : decode cX7_scanSign 38 = .ok (.goto 4, 3) := by decide +kernel
theorem dX7_scanSign_41 : decode cX7_scanSign 41 = .ok (.iconst 1, 1) := by decide +kernel
theorem dX7_scanSign_42 : decode cX7_scanSign 42 = .ok (.putfield 40, 3) := by decide +kernel
theorem dX7_scanSign_45 : decode cX7_scanSign 45 = .ok (.aload_n 0, 1) := by decide +kernel
theorem dX7_scanSign_46 : decode cX7_scanSign 46 = .ok (.iload_n 2, 1) := by decide +kernel
theorem dX7_scanSign_47 : decode cX7_scanSign 47 = .ok (.iconst (-1), 1) := by decide +kernel
theorem dX7_scanSign_48 : decode cX7_scanSign 48 = .ok (.if_icmp .eq 7, 3) := by decide +kernel
theorem dX7_scanSign_51 : decode cX7_scanSign 51 = .ok (.iload_n 2, 1) := by decide +kernel
theorem dX7_scanSign_52 : decode cX7_scanSign 52 = .ok (.goto 13, 3) := by decide +kernel
theorem dX7_scanSign_55 : decode cX7_scanSign 55 = .ok (.iload_n 3, 1) := by decide +kernel
theorem dX7_scanSign_56 : decode cX7_scanSign 56 = .ok (.iconst (-1), 1) := by decide +kernel
theorem dX7_scanSign_57 : decode cX7_scanSign 57 = .ok (.if_icmp .eq 7, 3) := by decide +kernel
theorem dX7_scanSign_60 : decode cX7_scanSign 60 = .ok (.iload_n 3, 1) := by decide +kernel
theorem dX7_scanSign_61 : decode cX7_scanSign 61 = .ok (.goto 4, 3) := by decide +kernel
theorem dX7_scanSign_64 : decode cX7_scanSign 64 = .ok (.iload_n 1, 1) := by decide +kernel
theorem dX7_scanSign_65 : decode cX7_scanSign 65 = .ok (.putfield 43, 3) := by decide +kernel
theorem dX7_scanSign_68 : decode cX7_scanSign 68 = .ok (.aload_n 0, 1) := by decide +kernel
theorem dX7_scanSign_69 : decode cX7_scanSign 69 = .ok (.dup, 1) := by decide +kernel
theorem dX7_scanSign_70 : decode cX7_scanSign 70 = .ok (.getfield 28, 3) := by decide +kernel
theorem dX7_scanSign_73 : decode cX7_scanSign 73 = .ok (.iload_n 2, 1) := by decide +kernel
theorem dX7_scanSign_74 : decode cX7_scanSign 74 = .ok (.iconst (-1), 1) := by decide +kernel
theorem dX7_scanSign_75 : decode cX7_scanSign 75 = .ok (.if_icmp .eq 7, 3) := by decide +kernel
theorem dX7_scanSign_78 : decode cX7_scanSign 78 = .ok (.iconst 2, 1) := by decide +kernel
theorem dX7_scanSign_79 : decode cX7_scanSign 79 = .ok (.goto 4, 3) := by decide +kernel
theorem dX7_scanSign_82 : decode cX7_scanSign 82 = .ok (.iconst 1, 1) := by decide +kernel
theorem dX7_scanSign_83 : decode cX7_scanSign 83 = .ok (.iadd, 1) := by decide +kernel
theorem dX7_scanSign_84 : decode cX7_scanSign 84 = .ok (.putfield 28, 3) := by decide +kernel
theorem dX7_scanSign_87 : decode cX7_scanSign 87 = .ok (.return_, 1) := by decide +kernel
theorem dX7_signBeforeEqual_0 : decode cX7_signBeforeEqual 0 = .ok (.iload_n 0, 1) := by decide +kernel
theorem dX7_signBeforeEqual_1 : decode cX7_signBeforeEqual 1 = .ok (.lookupswitch 55 #[(33, 52), (60, 43), (61, 49), (62, 46)], 43) := by decide +kernel
theorem dX7_signBeforeEqual_44 : decode cX7_signBeforeEqual 44 = .ok (.bipush 6, 2) := by decide +kernel
theorem dX7_signBeforeEqual_46 : decode cX7_signBeforeEqual 46 = .ok (.ireturn, 1) := by decide +kernel
theorem dX7_signBeforeEqual_47 : decode cX7_signBeforeEqual 47 = .ok (.bipush 10, 2) := by decide +kernel
theorem dX7_signBeforeEqual_49 : decode cX7_signBeforeEqual 49 = .ok (.ireturn, 1) := by decide +kernel
theorem dX7_signBeforeEqual_50 : decode cX7_signBeforeEqual 50 = .ok (.bipush 7, 2) := by decide +kernel
theorem dX7_signBeforeEqual_52 : decode cX7_signBeforeEqual 52 = .ok (.ireturn, 1) := by decide +kernel
theorem dX7_signBeforeEqual_53 : decode cX7_signBeforeEqual 53 = .ok (.bipush 8, 2) := by decide +kernel
theorem dX7_signBeforeEqual_55 : decode cX7_signBeforeEqual 55 = .ok (.ireturn, 1) := by decide +kernel
theorem dX7_signBeforeEqual_56 : decode cX7_signBeforeEqual 56 = .ok (.iconst (-1), 1) := by decide +kernel
theorem dX7_signBeforeEqual_57 : decode cX7_signBeforeEqual 57 = .ok (.ireturn, 1) := by decide +kernel
theorem dX7_signAlone_0 : decode cX7_signAlone 0 = .ok (.iload_n 0, 1) := by decide +kernel
theorem dX7_signAlone_1 : decode cX7_signAlone 1 = .ok (.lookupswitch 32 #[(60, 27), (62, 29)], 27) := by decide +kernel
theorem dX7_signAlone_28 : decode cX7_signAlone 28 = .ok (.iconst 5, 1) := by decide +kernel
theorem dX7_signAlone_29 : decode cX7_signAlone 29 = .ok (.ireturn, 1) := by decide +kernel
theorem dX7_signAlone_30 : decode cX7_signAlone 30 = .ok (.bipush 9, 2) := by decide +kernel
theorem dX7_signAlone_32 : decode cX7_signAlone 32 = .ok (.ireturn, 1) := by decide +kernel
theorem dX7_signAlone_33 : decode cX7_signAlone 33 = .ok (.ldc 77, 2) := by decide +kernel
theorem dX7_signAlone_35 : decode cX7_signAlone 35 = .ok (.iload_n 0, 1) := by decide +kernel
theorem dX7_signAlone_36 : decode cX7_signAlone 36 = .ok (.i2c, 1) := by decide +kernel
theorem dX7_signAlone_37 : decode cX7_signAlone 37 = .ok (.invokevirtual 72, 3) := by decide +kernel
theorem dX7_signAlone_40 : decode cX7_signAlone 40 = .ok (.ireturn, 1) := by decide +kernel
theorem dX7_isMark_0 : decode cX7_isMark 0 = .ok (.aload_n 0, 1) := by decide +kernel
theorem dX7_isMark_1 : decode cX7_isMark 1 = .ok (.getfield 40, 3) := by decide +kernel
theorem dX7_isMark_4 : decode cX7_isMark 4 = .ok (.iconst 5, 1) := by decide +kernel
theorem dX7_isMark_5 : decode cX7_isMark 5 = .ok (.if_icmp .ne 15, 3) := by decide +kernel
theorem dX7_isMark_8 : decode cX7_isMark 8 = .ok (.aload_n 0, 1) := by decide +kernel
theorem dX7_isMark_9 : decode cX7_isMark 9 = .ok (.getfield 43, 3) := by decide +kernel
theorem dX7_isMark_12 : decode cX7_isMark 12 = .ok (.iload_n 1, 1) := by decide +kernel
theorem dX7_isMark_13 : decode cX7_isMark 13 = .ok (.if_icmp .ne 7, 3) := by decide +kernel
theorem dX7_isMark_16 : decode cX7_isMark 16 = .ok (.iconst 1, 1) := by decide +kernel
theorem dX7_isMark_17 : decode cX7_isMark 17 = .ok (.goto 4, 3) := by decide +kernel
theorem dX7_isMark_20 : decode cX7_isMark 20 = .ok (.iconst 0, 1) := by decide +kernel
theorem dX7_isMark_21 : decode cX7_isMark 21 = .ok (.ireturn, 1) := by decide +kernel
theorem dX7_isSign_0 : decode cX7_isSign 0 = .ok (.aload_n 0, 1) := by decide +kernel
theorem dX7_isSign_1 : decode cX7_isSign 1 = .ok (.getfield 40, 3) := by decide +kernel
theorem dX7_isSign_4 : decode cX7_isSign 4 = .ok (.iconst 4, 1) := by decide +kernel
theorem dX7_isSign_5 : decode cX7_isSign 5 = .ok (.if_icmp .ne 15, 3) := by decide +kernel
theorem dX7_isSign_8 : decode cX7_isSign 8 = .ok (.aload_n 0, 1) := by decide +kernel
theorem dX7_isSign_9 : decode cX7_isSign 9 = .ok (.getfield 43, 3) := by decide +kernel
theorem dX7_isSign_12 : decode cX7_isSign 12 = .ok (.iload_n 1, 1) := by decide +kernel
theorem dX7_isSign_13 : decode cX7_isSign 13 = .ok (.if_icmp .ne 7, 3) := by decide +kernel
theorem dX7_isSign_16 : decode cX7_isSign 16 = .ok (.iconst 1, 1) := by decide +kernel
theorem dX7_isSign_17 : decode cX7_isSign 17 = .ok (.goto 4, 3) := by decide +kernel
theorem dX7_isSign_20 : decode cX7_isSign 20 = .ok (.iconst 0, 1) := by decide +kernel
theorem dX7_isSign_21 : decode cX7_isSign 21 = .ok (.ireturn, 1) := by decide +kernel
theorem dX7_isWord_0 : decode cX7_isWord 0 = .ok (.aload_n 0, 1) := by decide +kernel
theorem dX7_isWord_1 : decode cX7_isWord 1 = .ok (.getfield 40, 3) := by decide +kernel
theorem dX7_isWord_4 : decode cX7_isWord 4 = .ok (.iconst 2, 1) := by decide +kernel
theorem dX7_isWord_5 : decode cX7_isWord 5 = .ok (.if_icmp .ne 19, 3) := by decide +kernel
theorem dX7_isWord_8 : decode cX7_isWord 8 = .ok (.aload_n 0, 1) := by decide +kernel
theorem dX7_isWord_9 : decode cX7_isWord 9 = .ok (.getfield 28, 3) := by decide +kernel
theorem dX7_isWord_12 : decode cX7_isWord 12 = .ok (.aload_n 0, 1) := by decide +kernel
theorem dX7_isWord_13 : decode cX7_isWord 13 = .ok (.getfield 37, 3) := by decide +kernel
theorem dX7_isWord_16 : decode cX7_isWord 16 = .ok (.isub, 1) := by decide +kernel
theorem dX7_isWord_17 : decode cX7_isWord 17 = .ok (.aload_n 1, 1) := by decide +kernel
theorem dX7_isWord_18 : decode cX7_isWord 18 = .ok (.invokevirtual 79, 3) := by decide +kernel
theorem dX7_isWord_21 : decode cX7_isWord 21 = .ok (.if_icmp .eq 5, 3) := by decide +kernel
theorem dX7_isWord_24 : decode cX7_isWord 24 = .ok (.iconst 0, 1) := by decide +kernel
theorem dX7_isWord_25 : decode cX7_isWord 25 = .ok (.ireturn, 1) := by decide +kernel
theorem dX7_isWord_26 : decode cX7_isWord 26 = .ok (.iconst 0, 1) := by decide +kernel
theorem dX7_isWord_27 : decode cX7_isWord 27 = .ok (.istore_n 2, 1) := by decide +kernel
theorem dX7_isWord_28 : decode cX7_isWord 28 = .ok (.iload_n 2, 1) := by decide +kernel
theorem dX7_isWord_29 : decode cX7_isWord 29 = .ok (.aload_n 1, 1) := by decide +kernel
theorem dX7_isWord_30 : decode cX7_isWord 30 = .ok (.invokevirtual 79, 3) := by decide +kernel
theorem dX7_isWord_33 : decode cX7_isWord 33 = .ok (.if_icmp .ge 29, 3) := by decide +kernel
theorem dX7_isWord_36 : decode cX7_isWord 36 = .ok (.aload_n 0, 1) := by decide +kernel
theorem dX7_isWord_37 : decode cX7_isWord 37 = .ok (.aload_n 0, 1) := by decide +kernel
theorem dX7_isWord_38 : decode cX7_isWord 38 = .ok (.getfield 37, 3) := by decide +kernel
theorem dX7_isWord_41 : decode cX7_isWord 41 = .ok (.iload_n 2, 1) := by decide +kernel
theorem dX7_isWord_42 : decode cX7_isWord 42 = .ok (.iadd, 1) := by decide +kernel
theorem dX7_isWord_43 : decode cX7_isWord 43 = .ok (.invokevirtual 46, 3) := by decide +kernel
theorem dX7_isWord_46 : decode cX7_isWord 46 = .ok (.aload_n 1, 1) := by decide +kernel
theorem dX7_isWord_47 : decode cX7_isWord 47 = .ok (.iload_n 2, 1) := by decide +kernel
theorem dX7_isWord_48 : decode cX7_isWord 48 = .ok (.invokevirtual 82, 3) := by decide +kernel
theorem dX7_isWord_51 : decode cX7_isWord 51 = .ok (.if_icmp .eq 5, 3) := by decide +kernel
theorem dX7_isWord_54 : decode cX7_isWord 54 = .ok (.iconst 0, 1) := by decide +kernel
theorem dX7_isWord_55 : decode cX7_isWord 55 = .ok (.ireturn, 1) := by decide +kernel
theorem dX7_isWord_56 : decode cX7_isWord 56 = .ok (.iinc 2 1, 3) := by decide +kernel
theorem dX7_isWord_59 : decode cX7_isWord 59 = .ok (.goto (-31), 3) := by decide +kernel
theorem dX7_isWord_62 : decode cX7_isWord 62 = .ok (.iconst 1, 1) := by decide +kernel
theorem dX7_isWord_63 : decode cX7_isWord 63 = .ok (.ireturn, 1) := by decide +kernel
theorem dX7_variable_0 : decode cX7_variable 0 = .ok (.aload_n 0, 1) := by decide +kernel
theorem dX7_variable_1 : decode cX7_variable 1 = .ok (.getfield 40, 3) := by decide +kernel
theorem dX7_variable_4 : decode cX7_variable 4 = .ok (.iconst 2, 1) := by decide +kernel
theorem dX7_variable_5 : decode cX7_variable 5 = .ok (.if_icmp .ne 33, 3) := by decide +kernel
theorem dX7_variable_8 : decode cX7_variable 8 = .ok (.aload_n 0, 1) := by decide +kernel
theorem dX7_variable_9 : decode cX7_variable 9 = .ok (.getfield 28, 3) := by decide +kernel
theorem dX7_variable_12 : decode cX7_variable 12 = .ok (.aload_n 0, 1) := by decide +kernel
theorem dX7_variable_13 : decode cX7_variable 13 = .ok (.getfield 37, 3) := by decide +kernel
theorem dX7_variable_16 : decode cX7_variable 16 = .ok (.isub, 1) := by decide +kernel
theorem dX7_variable_17 : decode cX7_variable 17 = .ok (.iconst 1, 1) := by decide +kernel
theorem dX7_variable_18 : decode cX7_variable 18 = .ok (.if_icmp .ne 20, 3) := by decide +kernel
theorem dX7_variable_21 : decode cX7_variable 21 = .ok (.ldc 86, 2) := by decide +kernel
theorem dX7_variable_23 : decode cX7_variable 23 = .ok (.aload_n 0, 1) := by decide +kernel
theorem dX7_variable_24 : decode cX7_variable 24 = .ok (.aload_n 0, 1) := by decide +kernel
theorem dX7_variable_25 : decode cX7_variable 25 = .ok (.getfield 37, 3) := by decide +kernel
theorem dX7_variable_28 : decode cX7_variable 28 = .ok (.invokevirtual 46, 3) := by decide +kernel
theorem dX7_variable_31 : decode cX7_variable 31 = .ok (.i2c, 1) := by decide +kernel
theorem dX7_variable_32 : decode cX7_variable 32 = .ok (.invokevirtual 72, 3) := by decide +kernel
theorem dX7_variable_35 : decode cX7_variable 35 = .ok (.goto 4, 3) := by decide +kernel
theorem dX7_variable_38 : decode cX7_variable 38 = .ok (.iconst (-1), 1) := by decide +kernel
theorem dX7_variable_39 : decode cX7_variable 39 = .ok (.ireturn, 1) := by decide +kernel
theorem dX7_expectMark_0 : decode cX7_expectMark 0 = .ok (.aload_n 0, 1) := by decide +kernel
theorem dX7_expectMark_1 : decode cX7_expectMark 1 = .ok (.iload_n 1, 1) := by decide +kernel
theorem dX7_expectMark_2 : decode cX7_expectMark 2 = .ok (.invokevirtual 88, 3) := by decide +kernel
theorem dX7_expectMark_5 : decode cX7_expectMark 5 = .ok (.ifCond .ne 8, 3) := by decide +kernel
theorem dX7_expectMark_8 : decode cX7_expectMark 8 = .ok (.aload_n 0, 1) := by decide +kernel
theorem dX7_expectMark_9 : decode cX7_expectMark 9 = .ok (.iconst 1, 1) := by decide +kernel
theorem dX7_expectMark_10 : decode cX7_expectMark 10 = .ok (.invokevirtual 66, 3) := by decide +kernel
theorem dX7_expectMark_13 : decode cX7_expectMark 13 = .ok (.aload_n 0, 1) := by decide +kernel
theorem dX7_expectMark_14 : decode cX7_expectMark 14 = .ok (.invokevirtual 34, 3) := by decide +kernel
theorem dX7_expectMark_17 : decode cX7_expectMark 17 = .ok (.return_, 1) := by decide +kernel
theorem dX7_expectWord_0 : decode cX7_expectWord 0 = .ok (.aload_n 0, 1) := by decide +kernel
theorem dX7_expectWord_1 : decode cX7_expectWord 1 = .ok (.aload_n 1, 1) := by decide +kernel
theorem dX7_expectWord_2 : decode cX7_expectWord 2 = .ok (.invokevirtual 92, 3) := by decide +kernel
theorem dX7_expectWord_5 : decode cX7_expectWord 5 = .ok (.ifCond .ne 8, 3) := by decide +kernel
theorem dX7_expectWord_8 : decode cX7_expectWord 8 = .ok (.aload_n 0, 1) := by decide +kernel
theorem dX7_expectWord_9 : decode cX7_expectWord 9 = .ok (.iconst 1, 1) := by decide +kernel
theorem dX7_expectWord_10 : decode cX7_expectWord 10 = .ok (.invokevirtual 66, 3) := by decide +kernel
theorem dX7_expectWord_13 : decode cX7_expectWord 13 = .ok (.aload_n 0, 1) := by decide +kernel
theorem dX7_expectWord_14 : decode cX7_expectWord 14 = .ok (.invokevirtual 34, 3) := by decide +kernel
theorem dX7_expectWord_17 : decode cX7_expectWord 17 = .ok (.return_, 1) := by decide +kernel
theorem dX7_byteAt_0 : decode cX7_byteAt 0 = .ok (.iload_n 1, 1) := by decide +kernel
theorem dX7_byteAt_1 : decode cX7_byteAt 1 = .ok (.ifCond .lt 24, 3) := by decide +kernel
theorem dX7_byteAt_4 : decode cX7_byteAt 4 = .ok (.iload_n 1, 1) := by decide +kernel
theorem dX7_byteAt_5 : decode cX7_byteAt 5 = .ok (.aload_n 0, 1) := by decide +kernel
theorem dX7_byteAt_6 : decode cX7_byteAt 6 = .ok (.getfield 24, 3) := by decide +kernel
theorem dX7_byteAt_9 : decode cX7_byteAt 9 = .ok (.if_icmp .ge 16, 3) := by decide +kernel
theorem dX7_byteAt_12 : decode cX7_byteAt 12 = .ok (.aload_n 0, 1) := by decide +kernel
theorem dX7_byteAt_13 : decode cX7_byteAt 13 = .ok (.getfield 9, 3) := by decide +kernel
theorem dX7_byteAt_16 : decode cX7_byteAt 16 = .ok (.iload_n 1, 1) := by decide +kernel
theorem dX7_byteAt_17 : decode cX7_byteAt 17 = .ok (.baload, 1) := by decide +kernel
theorem dX7_byteAt_18 : decode cX7_byteAt 18 = .ok (.sipush 255, 3) := by decide +kernel
theorem dX7_byteAt_21 : decode cX7_byteAt 21 = .ok (.iand, 1) := by decide +kernel
theorem dX7_byteAt_22 : decode cX7_byteAt 22 = .ok (.goto 4, 3) := by decide +kernel
theorem dX7_byteAt_25 : decode cX7_byteAt 25 = .ok (.iconst 0, 1) := by decide +kernel
theorem dX7_byteAt_26 : decode cX7_byteAt 26 = .ok (.ireturn, 1) := by decide +kernel
theorem dX8_init_0 : decode cX8_init 0 = .ok (.aload_n 0, 1) := by decide +kernel
theorem dX8_init_1 : decode cX8_init 1 = .ok (.invokespecial 3, 3) := by decide +kernel
theorem dX8_init_4 : decode cX8_init 4 = .ok (.aload_n 0, 1) := by decide +kernel
theorem dX8_init_5 : decode cX8_init 5 = .ok (.bipush 16, 2) := by decide +kernel
theorem dX8_init_7 : decode cX8_init 7 = .ok (.iconst 5, 1) := by decide +kernel
theorem dX8_init_8 : decode cX8_init 8 = .ok (.multianewarray 11 2, 4) := by decide +kernel
theorem dX8_init_12 : decode cX8_init 12 = .ok (.putfield 13, 3) := by decide +kernel
theorem dX8_init_15 : decode cX8_init 15 = .ok (.return_, 1) := by decide +kernel
theorem dX8_clear_0 : decode cX8_clear 0 = .ok (.aload_n 0, 1) := by decide +kernel
theorem dX8_clear_1 : decode cX8_clear 1 = .ok (.iconst 0, 1) := by decide +kernel
theorem dX8_clear_2 : decode cX8_clear 2 = .ok (.putfield 16, 3) := by decide +kernel
theorem dX8_clear_5 : decode cX8_clear 5 = .ok (.aload_n 0, 1) := by decide +kernel
theorem dX8_clear_6 : decode cX8_clear 6 = .ok (.iconst 0, 1) := by decide +kernel
theorem dX8_clear_7 : decode cX8_clear 7 = .ok (.putfield 20, 3) := by decide +kernel
theorem dX8_clear_10 : decode cX8_clear 10 = .ok (.return_, 1) := by decide +kernel
theorem dX8_add_0 : decode cX8_add 0 = .ok (.aload_n 0, 1) := by decide +kernel
theorem dX8_add_1 : decode cX8_add 1 = .ok (.getfield 16, 3) := by decide +kernel
theorem dX8_add_4 : decode cX8_add 4 = .ok (.bipush 16, 2) := by decide +kernel
theorem dX8_add_6 : decode cX8_add 6 = .ok (.if_icmp .ge 72, 3) := by decide +kernel
theorem dX8_add_9 : decode cX8_add 9 = .ok (.aload_n 0, 1) := by decide +kernel
theorem dX8_add_10 : decode cX8_add 10 = .ok (.getfield 13, 3) := by decide +kernel
theorem dX8_add_13 : decode cX8_add 13 = .ok (.aload_n 0, 1) := by decide +kernel
theorem dX8_add_14 : decode cX8_add 14 = .ok (.getfield 16, 3) := by decide +kernel
theorem dX8_add_17 : decode cX8_add 17 = .ok (.aaload, 1) := by decide +kernel
theorem dX8_add_18 : decode cX8_add 18 = .ok (.astore 6, 2) := by decide +kernel
theorem dX8_add_20 : decode cX8_add 20 = .ok (.aload 6, 2) := by decide +kernel
theorem dX8_add_22 : decode cX8_add 22 = .ok (.iconst 0, 1) := by decide +kernel
theorem dX8_add_23 : decode cX8_add 23 = .ok (.iload_n 1, 1) := by decide +kernel
theorem dX8_add_24 : decode cX8_add 24 = .ok (.iastore, 1) := by decide +kernel
theorem dX8_add_25 : decode cX8_add 25 = .ok (.aload 6, 2) := by decide +kernel
theorem dX8_add_27 : decode cX8_add 27 = .ok (.iconst 1, 1) := by decide +kernel
theorem dX8_add_28 : decode cX8_add 28 = .ok (.iload_n 2, 1) := by decide +kernel
theorem dX8_add_29 : decode cX8_add 29 = .ok (.iastore, 1) := by decide +kernel
theorem dX8_add_30 : decode cX8_add 30 = .ok (.aload 6, 2) := by decide +kernel
theorem dX8_add_32 : decode cX8_add 32 = .ok (.iconst 2, 1) := by decide +kernel
theorem dX8_add_33 : decode cX8_add 33 = .ok (.iload_n 3, 1) := by decide +kernel
theorem dX8_add_34 : decode cX8_add 34 = .ok (.iastore, 1) := by decide +kernel
theorem dX8_add_35 : decode cX8_add 35 = .ok (.aload 6, 2) := by decide +kernel
theorem dX8_add_37 : decode cX8_add 37 = .ok (.iconst 3, 1) := by decide +kernel
theorem dX8_add_38 : decode cX8_add 38 = .ok (.iload 4, 2) := by decide +kernel
theorem dX8_add_40 : decode cX8_add 40 = .ok (.iastore, 1) := by decide +kernel
theorem dX8_add_41 : decode cX8_add 41 = .ok (.aload 6, 2) := by decide +kernel
theorem dX8_add_43 : decode cX8_add 43 = .ok (.iconst 4, 1) := by decide +kernel
theorem dX8_add_44 : decode cX8_add 44 = .ok (.iload 5, 2) := by decide +kernel
theorem dX8_add_46 : decode cX8_add 46 = .ok (.ifCond .eq 7, 3) := by decide +kernel
theorem dX8_add_49 : decode cX8_add 49 = .ok (.iconst 1, 1) := by decide +kernel
theorem dX8_add_50 : decode cX8_add 50 = .ok (.goto 4, 3) := by decide +kernel
theorem dX8_add_53 : decode cX8_add 53 = .ok (.iconst 0, 1) := by decide +kernel
theorem dX8_add_54 : decode cX8_add 54 = .ok (.iastore, 1) := by decide +kernel
theorem dX8_add_55 : decode cX8_add 55 = .ok (.aload_n 0, 1) := by decide +kernel
theorem dX8_add_56 : decode cX8_add 56 = .ok (.dup, 1) := by decide +kernel
theorem dX8_add_57 : decode cX8_add 57 = .ok (.getfield 20, 3) := by decide +kernel
theorem dX8_add_60 : decode cX8_add 60 = .ok (.aload 6, 2) := by decide +kernel
theorem dX8_add_62 : decode cX8_add 62 = .ok (.iconst 4, 1) := by decide +kernel
theorem dX8_add_63 : decode cX8_add 63 = .ok (.iaload, 1) := by decide +kernel
theorem dX8_add_64 : decode cX8_add 64 = .ok (.iadd, 1) := by decide +kernel
theorem dX8_add_65 : decode cX8_add 65 = .ok (.putfield 20, 3) := by decide +kernel
theorem dX8_add_68 : decode cX8_add 68 = .ok (.aload_n 0, 1) := by decide +kernel
theorem dX8_add_69 : decode cX8_add 69 = .ok (.dup, 1) := by decide +kernel
theorem dX8_add_70 : decode cX8_add 70 = .ok (.getfield 16, 3) := by decide +kernel
theorem dX8_add_73 : decode cX8_add 73 = .ok (.iconst 1, 1) := by decide +kernel
theorem dX8_add_74 : decode cX8_add 74 = .ok (.iadd, 1) := by decide +kernel
theorem dX8_add_75 : decode cX8_add 75 = .ok (.putfield 16, 3) := by decide +kernel
theorem dX8_add_78 : decode cX8_add 78 = .ok (.return_, 1) := by decide +kernel
theorem dX8_hasTest_0 : decode cX8_hasTest 0 = .ok (.iload_n 1, 1) := by decide +kernel
theorem dX8_hasTest_1 : decode cX8_hasTest 1 = .ok (.ifCond .lt 15, 3) := by decide +kernel
theorem dX8_hasTest_4 : decode cX8_hasTest 4 = .ok (.iload_n 1, 1) := by decide +kernel
theorem dX8_hasTest_5 : decode cX8_hasTest 5 = .ok (.aload_n 0, 1) := by decide +kernel
theorem dX8_hasTest_6 : decode cX8_hasTest 6 = .ok (.getfield 16, 3) := by decide +kernel
theorem dX8_hasTest_9 : decode cX8_hasTest 9 = .ok (.if_icmp .ge 7, 3) := by decide +kernel
theorem dX8_hasTest_12 : decode cX8_hasTest 12 = .ok (.iconst 1, 1) := by decide +kernel
theorem dX8_hasTest_13 : decode cX8_hasTest 13 = .ok (.goto 4, 3) := by decide +kernel
theorem dX8_hasTest_16 : decode cX8_hasTest 16 = .ok (.iconst 0, 1) := by decide +kernel
theorem dX8_hasTest_17 : decode cX8_hasTest 17 = .ok (.ireturn, 1) := by decide +kernel
theorem dX8_isHeld_0 : decode cX8_isHeld 0 = .ok (.aload_n 0, 1) := by decide +kernel
theorem dX8_isHeld_1 : decode cX8_isHeld 1 = .ok (.getfield 13, 3) := by decide +kernel
theorem dX8_isHeld_4 : decode cX8_isHeld 4 = .ok (.iload_n 1, 1) := by decide +kernel
theorem dX8_isHeld_5 : decode cX8_isHeld 5 = .ok (.aaload, 1) := by decide +kernel
theorem dX8_isHeld_6 : decode cX8_isHeld 6 = .ok (.iconst 4, 1) := by decide +kernel
theorem dX8_isHeld_7 : decode cX8_isHeld 7 = .ok (.iaload, 1) := by decide +kernel
theorem dX8_isHeld_8 : decode cX8_isHeld 8 = .ok (.iconst 1, 1) := by decide +kernel
theorem dX8_isHeld_9 : decode cX8_isHeld 9 = .ok (.if_icmp .ne 7, 3) := by decide +kernel
theorem dX8_isHeld_12 : decode cX8_isHeld 12 = .ok (.iconst 1, 1) := by decide +kernel
theorem dX8_isHeld_13 : decode cX8_isHeld 13 = .ok (.goto 4, 3) := by decide +kernel
theorem dX8_isHeld_16 : decode cX8_isHeld 16 = .ok (.iconst 0, 1) := by decide +kernel
theorem dX8_isHeld_17 : decode cX8_isHeld 17 = .ok (.ireturn, 1) := by decide +kernel
theorem dX8_isShown_0 : decode cX8_isShown 0 = .ok (.aload_n 0, 1) := by decide +kernel
theorem dX8_isShown_1 : decode cX8_isShown 1 = .ok (.iload_n 1, 1) := by decide +kernel
theorem dX8_isShown_2 : decode cX8_isShown 2 = .ok (.invokevirtual 23, 3) := by decide +kernel
theorem dX8_isShown_5 : decode cX8_isShown 5 = .ok (.ifCond .eq 15, 3) := by decide +kernel
theorem dX8_isShown_8 : decode cX8_isShown 8 = .ok (.aload_n 0, 1) := by decide +kernel
theorem dX8_isShown_9 : decode cX8_isShown 9 = .ok (.iload_n 1, 1) := by decide +kernel
theorem dX8_isShown_10 : decode cX8_isShown 10 = .ok (.invokevirtual 27, 3) := by decide +kernel
theorem dX8_isShown_13 : decode cX8_isShown 13 = .ok (.ifCond .ne 7, 3) := by decide +kernel
theorem dX8_isShown_16 : decode cX8_isShown 16 = .ok (.iconst 1, 1) := by decide +kernel
theorem dX8_isShown_17 : decode cX8_isShown 17 = .ok (.goto 4, 3) := by decide +kernel
theorem dX8_isShown_20 : decode cX8_isShown 20 = .ok (.iconst 0, 1) := by decide +kernel
theorem dX8_isShown_21 : decode cX8_isShown 21 = .ok (.ireturn, 1) := by decide +kernel
theorem dX8_shownCount_0 : decode cX8_shownCount 0 = .ok (.aload_n 0, 1) := by decide +kernel
theorem dX8_shownCount_1 : decode cX8_shownCount 1 = .ok (.getfield 16, 3) := by decide +kernel
theorem dX8_shownCount_4 : decode cX8_shownCount 4 = .ok (.aload_n 0, 1) := by decide +kernel
theorem dX8_shownCount_5 : decode cX8_shownCount 5 = .ok (.getfield 20, 3) := by decide +kernel
theorem dX8_shownCount_8 : decode cX8_shownCount 8 = .ok (.isub, 1) := by decide +kernel
theorem dX8_shownCount_9 : decode cX8_shownCount 9 = .ok (.ireturn, 1) := by decide +kernel
theorem dX9_init_0 : decode cX9_init 0 = .ok (.aload_n 0, 1) := by decide +kernel
theorem dX9_init_1 : decode cX9_init 1 = .ok (.invokespecial 3, 3) := by decide +kernel
theorem dX9_init_4 : decode cX9_init 4 = .ok (.aload_n 0, 1) := by decide +kernel
theorem dX9_init_5 : decode cX9_init 5 = .ok (.aload_n 1, 1) := by decide +kernel
theorem dX9_init_6 : decode cX9_init 6 = .ok (.putfield 9, 3) := by decide +kernel
theorem dX9_init_9 : decode cX9_init 9 = .ok (.return_, 1) := by decide +kernel
theorem dX9_read_0 : decode cX9_read 0 = .ok (.aload_n 0, 1) := by decide +kernel
theorem dX9_read_1 : decode cX9_read 1 = .ok (.aload_n 2, 1) := by decide +kernel
theorem dX9_read_2 : decode cX9_read 2 = .ok (.putfield 15, 3) := by decide +kernel
theorem dX9_read_5 : decode cX9_read 5 = .ok (.aload_n 0, 1) := by decide +kernel
theorem dX9_read_6 : decode cX9_read 6 = .ok (.getfield 15, 3) := by decide +kernel
theorem dX9_read_9 : decode cX9_read 9 = .ok (.invokevirtual 19, 3) := by decide +kernel
theorem dX9_read_12 : decode cX9_read 12 = .ok (.aload_n 0, 1) := by decide +kernel
theorem dX9_read_13 : decode cX9_read 13 = .ok (.getfield 9, 3) := by decide +kernel
theorem dX9_read_16 : decode cX9_read 16 = .ok (.iload_n 1, 1) := by decide +kernel
theorem dX9_read_17 : decode cX9_read 17 = .ok (.invokevirtual 24, 3) := by decide +kernel
theorem dX9_read_20 : decode cX9_read 20 = .ok (.aload_n 0, 1) := by decide +kernel
theorem dX9_read_21 : decode cX9_read 21 = .ok (.invokevirtual 30, 3) := by decide +kernel
theorem dX9_read_24 : decode cX9_read 24 = .ok (.iconst 0, 1) := by decide +kernel
theorem dX9_read_25 : decode cX9_read 25 = .ok (.istore_n 3, 1) := by decide +kernel
theorem dX9_read_26 : decode cX9_read 26 = .ok (.iload_n 3, 1) := by decide +kernel
theorem dX9_read_27 : decode cX9_read 27 = .ok (.sipush 600, 3) := by decide +kernel
theorem dX9_read_30 : decode cX9_read 30 = .ok (.if_icmp .ge 32, 3) := by decide +kernel
theorem dX9_read_33 : decode cX9_read 33 = .ok (.aload_n 0, 1) := by decide +kernel
theorem dX9_read_34 : decode cX9_read 34 = .ok (.getfield 9, 3) := by decide +kernel
theorem dX9_read_37 : decode cX9_read 37 = .ok (.bipush 59, 2) := by decide +kernel
theorem dX9_read_39 : decode cX9_read 39 = .ok (.invokevirtual 33, 3) := by decide +kernel
theorem dX9_read_42 : decode cX9_read 42 = .ok (.ifCond .eq 20, 3) := by decide +kernel
theorem dX9_read_45 : decode cX9_read 45 = .ok (.aload_n 0, 1) := by decide +kernel
theorem dX9_read_46 : decode cX9_read 46 = .ok (.getfield 9, 3) := by decide +kernel
theorem dX9_read_49 : decode cX9_read 49 = .ok (.invokevirtual 37, 3) := by decide +kernel
theorem dX9_read_52 : decode cX9_read 52 = .ok (.aload_n 0, 1) := by decide +kernel
theorem dX9_read_53 : decode cX9_read 53 = .ok (.invokevirtual 30, 3) := by decide +kernel
theorem dX9_read_56 : decode cX9_read 56 = .ok (.iinc 3 1, 3) := by decide +kernel
theorem dX9_read_59 : decode cX9_read 59 = .ok (.goto (-33), 3) := by decide +kernel
theorem dX9_read_62 : decode cX9_read 62 = .ok (.aload_n 0, 1) := by decide +kernel
theorem dX9_read_63 : decode cX9_read 63 = .ok (.getfield 9, 3) := by decide +kernel
theorem dX9_read_66 : decode cX9_read 66 = .ok (.getfield 40, 3) := by decide +kernel
theorem dX9_read_69 : decode cX9_read 69 = .ok (.ifCond .eq 11, 3) := by decide +kernel
theorem dX9_read_72 : decode cX9_read 72 = .ok (.aload_n 0, 1) := by decide +kernel
theorem dX9_read_73 : decode cX9_read 73 = .ok (.getfield 9, 3) := by decide +kernel
theorem dX9_read_76 : decode cX9_read 76 = .ok (.iconst 1, 1) := by decide +kernel
theorem dX9_read_77 : decode cX9_read 77 = .ok (.invokevirtual 44, 3) := by decide +kernel
theorem dX9_read_80 : decode cX9_read 80 = .ok (.aload_n 0, 1) := by decide +kernel
theorem dX9_read_81 : decode cX9_read 81 = .ok (.getfield 9, 3) := by decide +kernel
theorem dX9_read_84 : decode cX9_read 84 = .ok (.getfield 47, 3) := by decide +kernel
theorem dX9_read_87 : decode cX9_read 87 = .ok (.ireturn, 1) := by decide +kernel
theorem dX9_readLine_0 : decode cX9_readLine 0 = .ok (.aload_n 0, 1) := by decide +kernel
theorem dX9_readLine_1 : decode cX9_readLine 1 = .ok (.getfield 9, 3) := by decide +kernel
theorem dX9_readLine_4 : decode cX9_readLine 4 = .ok (.ldc 50, 2) := by decide +kernel
theorem dX9_readLine_6 : decode cX9_readLine 6 = .ok (.invokevirtual 52, 3) := by decide +kernel
theorem dX9_readLine_9 : decode cX9_readLine 9 = .ok (.ifCond .eq 24, 3) := by decide +kernel
theorem dX9_readLine_12 : decode cX9_readLine 12 = .ok (.aload_n 0, 1) := by decide +kernel
theorem dX9_readLine_13 : decode cX9_readLine 13 = .ok (.getfield 15, 3) := by decide +kernel
theorem dX9_readLine_16 : decode cX9_readLine 16 = .ok (.getfield 56, 3) := by decide +kernel
theorem dX9_readLine_19 : decode cX9_readLine 19 = .ok (.bipush 16, 2) := by decide +kernel
theorem dX9_readLine_21 : decode cX9_readLine 21 = .ok (.if_icmp .lt 12, 3) := by decide +kernel
theorem dX9_readLine_24 : decode cX9_readLine 24 = .ok (.aload_n 0, 1) := by decide +kernel
theorem dX9_readLine_25 : decode cX9_readLine 25 = .ok (.getfield 9, 3) := by decide +kernel
theorem dX9_readLine_28 : decode cX9_readLine 28 = .ok (.iconst 2, 1) := by decide +kernel
theorem dX9_readLine_29 : decode cX9_readLine 29 = .ok (.invokevirtual 44, 3) := by decide +kernel
theorem dX9_readLine_32 : decode cX9_readLine 32 = .ok (.return_, 1) := by decide +kernel
theorem dX9_readLine_33 : decode cX9_readLine 33 = .ok (.aload_n 0, 1) := by decide +kernel
theorem dX9_readLine_34 : decode cX9_readLine 34 = .ok (.getfield 9, 3) := by decide +kernel
theorem dX9_readLine_37 : decode cX9_readLine 37 = .ok (.ldc 50, 2) := by decide +kernel
theorem dX9_readLine_39 : decode cX9_readLine 39 = .ok (.invokevirtual 59, 3) := by decide +kernel
theorem dX9_readLine_42 : decode cX9_readLine 42 = .ok (.aload_n 0, 1) := by decide +kernel
theorem dX9_readLine_43 : decode cX9_readLine 43 = .ok (.invokevirtual 63, 3) := by decide +kernel
theorem dX9_readLine_46 : decode cX9_readLine 46 = .ok (.istore_n 1, 1) := by decide +kernel
theorem dX9_readLine_47 : decode cX9_readLine 47 = .ok (.aload_n 0, 1) := by decide +kernel
theorem dX9_readLine_48 : decode cX9_readLine 48 = .ok (.invokevirtual 63, 3) := by decide +kernel
theorem dX9_readLine_51 : decode cX9_readLine 51 = .ok (.istore_n 2, 1) := by decide +kernel
theorem dX9_readLine_52 : decode cX9_readLine 52 = .ok (.aload_n 0, 1) := by decide +kernel
theorem dX9_readLine_53 : decode cX9_readLine 53 = .ok (.invokevirtual 63, 3) := by decide +kernel
theorem dX9_readLine_56 : decode cX9_readLine 56 = .ok (.istore_n 3, 1) := by decide +kernel
theorem dX9_readLine_57 : decode cX9_readLine 57 = .ok (.aload_n 0, 1) := by decide +kernel
theorem dX9_readLine_58 : decode cX9_readLine 58 = .ok (.getfield 9, 3) := by decide +kernel
theorem dX9_readLine_61 : decode cX9_readLine 61 = .ok (.ldc 67, 2) := by decide +kernel
theorem dX9_readLine_63 : decode cX9_readLine 63 = .ok (.invokevirtual 59, 3) := by decide +kernel
theorem dX9_readLine_66 : decode cX9_readLine 66 = .ok (.aload_n 0, 1) := by decide +kernel
theorem dX9_readLine_67 : decode cX9_readLine 67 = .ok (.invokevirtual 63, 3) := by decide +kernel
theorem dX9_readLine_70 : decode cX9_readLine 70 = .ok (.istore 4, 2) := by decide +kernel
theorem dX9_readLine_72 : decode cX9_readLine 72 = .ok (.aload_n 0, 1) := by decide +kernel
theorem dX9_readLine_73 : decode cX9_readLine 73 = .ok (.getfield 9, 3) := by decide +kernel
theorem dX9_readLine_76 : decode cX9_readLine 76 = .ok (.ldc 69, 2) := by decide +kernel
theorem dX9_readLine_78 : decode cX9_readLine 78 = .ok (.invokevirtual 52, 3) := by decide +kernel
theorem dX9_readLine_81 : decode cX9_readLine 81 = .ok (.istore 5, 2) := by decide +kernel
theorem dX9_readLine_83 : decode cX9_readLine 83 = .ok (.iload 5, 2) := by decide +kernel
theorem dX9_readLine_85 : decode cX9_readLine 85 = .ok (.ifCond .eq 10, 3) := by decide +kernel
theorem dX9_readLine_88 : decode cX9_readLine 88 = .ok (.aload_n 0, 1) := by decide +kernel
theorem dX9_readLine_89 : decode cX9_readLine 89 = .ok (.getfield 9, 3) := by decide +kernel
theorem dX9_readLine_92 : decode cX9_readLine 92 = .ok (.invokevirtual 37, 3) := by decide +kernel
theorem dX9_readLine_95 : decode cX9_readLine 95 = .ok (.aload_n 0, 1) := by decide +kernel
theorem dX9_readLine_96 : decode cX9_readLine 96 = .ok (.getfield 15, 3) := by decide +kernel
theorem dX9_readLine_99 : decode cX9_readLine 99 = .ok (.iload_n 1, 1) := by decide +kernel
theorem dX9_readLine_100 : decode cX9_readLine 100 = .ok (.iload_n 2, 1) := by decide +kernel
theorem dX9_readLine_101 : decode cX9_readLine 101 = .ok (.iload_n 3, 1) := by decide +kernel
theorem dX9_readLine_102 : decode cX9_readLine 102 = .ok (.iload 4, 2) := by decide +kernel
theorem dX9_readLine_104 : decode cX9_readLine 104 = .ok (.iload 5, 2) := by decide +kernel
theorem dX9_readLine_106 : decode cX9_readLine 106 = .ok (.invokevirtual 71, 3) := by decide +kernel
theorem dX9_readLine_109 : decode cX9_readLine 109 = .ok (.return_, 1) := by decide +kernel
theorem dX9_readNumber_0 : decode cX9_readNumber 0 = .ok (.aload_n 0, 1) := by decide +kernel
theorem dX9_readNumber_1 : decode cX9_readNumber 1 = .ok (.getfield 9, 3) := by decide +kernel
theorem dX9_readNumber_4 : decode cX9_readNumber 4 = .ok (.iconst 1, 1) := by decide +kernel
theorem dX9_readNumber_5 : decode cX9_readNumber 5 = .ok (.invokevirtual 75, 3) := by decide +kernel
theorem dX9_readNumber_8 : decode cX9_readNumber 8 = .ok (.istore_n 1, 1) := by decide +kernel
theorem dX9_readNumber_9 : decode cX9_readNumber 9 = .ok (.iload_n 1, 1) := by decide +kernel
theorem dX9_readNumber_10 : decode cX9_readNumber 10 = .ok (.ifCond .eq 10, 3) := by decide +kernel
theorem dX9_readNumber_13 : decode cX9_readNumber 13 = .ok (.aload_n 0, 1) := by decide +kernel
theorem dX9_readNumber_14 : decode cX9_readNumber 14 = .ok (.getfield 9, 3) := by decide +kernel
theorem dX9_readNumber_17 : decode cX9_readNumber 17 = .ok (.invokevirtual 37, 3) := by decide +kernel
theorem dX9_readNumber_20 : decode cX9_readNumber 20 = .ok (.aload_n 0, 1) := by decide +kernel
theorem dX9_readNumber_21 : decode cX9_readNumber 21 = .ok (.getfield 9, 3) := by decide +kernel
theorem dX9_readNumber_24 : decode cX9_readNumber 24 = .ok (.getfield 40, 3) := by decide +kernel
theorem dX9_readNumber_27 : decode cX9_readNumber 27 = .ok (.iconst 3, 1) := by decide +kernel
theorem dX9_readNumber_28 : decode cX9_readNumber 28 = .ok (.if_icmp .eq 11, 3) := by decide +kernel
theorem dX9_readNumber_31 : decode cX9_readNumber 31 = .ok (.aload_n 0, 1) := by decide +kernel
theorem dX9_readNumber_32 : decode cX9_readNumber 32 = .ok (.getfield 9, 3) := by decide +kernel
theorem dX9_readNumber_35 : decode cX9_readNumber 35 = .ok (.iconst 1, 1) := by decide +kernel
theorem dX9_readNumber_36 : decode cX9_readNumber 36 = .ok (.invokevirtual 44, 3) := by decide +kernel
theorem dX9_readNumber_39 : decode cX9_readNumber 39 = .ok (.aload_n 0, 1) := by decide +kernel
theorem dX9_readNumber_40 : decode cX9_readNumber 40 = .ok (.getfield 9, 3) := by decide +kernel
theorem dX9_readNumber_43 : decode cX9_readNumber 43 = .ok (.getfield 79, 3) := by decide +kernel
theorem dX9_readNumber_46 : decode cX9_readNumber 46 = .ok (.istore_n 2, 1) := by decide +kernel
theorem dX9_readNumber_47 : decode cX9_readNumber 47 = .ok (.aload_n 0, 1) := by decide +kernel
theorem dX9_readNumber_48 : decode cX9_readNumber 48 = .ok (.getfield 9, 3) := by decide +kernel
theorem dX9_readNumber_51 : decode cX9_readNumber 51 = .ok (.invokevirtual 37, 3) := by decide +kernel
theorem dX9_readNumber_54 : decode cX9_readNumber 54 = .ok (.iload_n 1, 1) := by decide +kernel
theorem dX9_readNumber_55 : decode cX9_readNumber 55 = .ok (.ifCond .eq 8, 3) := by decide +kernel
theorem dX9_readNumber_58 : decode cX9_readNumber 58 = .ok (.iload_n 2, 1) := by decide +kernel
theorem dX9_readNumber_59 : decode cX9_readNumber 59 = .ok (.ineg, 1) := by decide +kernel
theorem dX9_readNumber_60 : decode cX9_readNumber 60 = .ok (.goto 4, 3) := by decide +kernel
theorem dX9_readNumber_63 : decode cX9_readNumber 63 = .ok (.iload_n 2, 1) := by decide +kernel
theorem dX9_readNumber_64 : decode cX9_readNumber 64 = .ok (.ireturn, 1) := by decide +kernel
theorem dX10_init_0 : decode cX10_init 0 = .ok (.aload_n 0, 1) := by decide +kernel
theorem dX10_init_1 : decode cX10_init 1 = .ok (.invokespecial 3, 3) := by decide +kernel
theorem dX10_init_4 : decode cX10_init 4 = .ok (.aload_n 0, 1) := by decide +kernel
theorem dX10_init_5 : decode cX10_init 5 = .ok (.iconst (-1), 1) := by decide +kernel
theorem dX10_init_6 : decode cX10_init 6 = .ok (.putfield 9, 3) := by decide +kernel
theorem dX10_init_9 : decode cX10_init 9 = .ok (.aload_n 0, 1) := by decide +kernel
theorem dX10_init_10 : decode cX10_init 10 = .ok (.aload_n 1, 1) := by decide +kernel
theorem dX10_init_11 : decode cX10_init 11 = .ok (.putfield 15, 3) := by decide +kernel
theorem dX10_init_14 : decode cX10_init 14 = .ok (.aload_n 0, 1) := by decide +kernel
theorem dX10_init_15 : decode cX10_init 15 = .ok (.aload_n 2, 1) := by decide +kernel
theorem dX10_init_16 : decode cX10_init 16 = .ok (.putfield 19, 3) := by decide +kernel
theorem dX10_init_19 : decode cX10_init 19 = .ok (.aload_n 0, 1) := by decide +kernel
theorem dX10_init_20 : decode cX10_init 20 = .ok (.aload_n 3, 1) := by decide +kernel
theorem dX10_init_21 : decode cX10_init 21 = .ok (.putfield 23, 3) := by decide +kernel
theorem dX10_init_24 : decode cX10_init 24 = .ok (.return_, 1) := by decide +kernel
theorem dX10_tryValues_0 : decode cX10_tryValues 0 = .ok (.aload_n 0, 1) := by decide +kernel
theorem dX10_tryValues_1 : decode cX10_tryValues 1 = .ok (.getfield 9, 3) := by decide +kernel
theorem dX10_tryValues_4 : decode cX10_tryValues 4 = .ok (.iload_n 1, 1) := by decide +kernel
theorem dX10_tryValues_5 : decode cX10_tryValues 5 = .ok (.if_icmp .ne 4, 3) := by decide +kernel
theorem dX10_tryValues_8 : decode cX10_tryValues 8 = .ok (.return_, 1) := by decide +kernel
theorem dX10_tryValues_9 : decode cX10_tryValues 9 = .ok (.aload_n 0, 1) := by decide +kernel
theorem dX10_tryValues_10 : decode cX10_tryValues 10 = .ok (.iload_n 1, 1) := by decide +kernel
theorem dX10_tryValues_11 : decode cX10_tryValues 11 = .ok (.putfield 9, 3) := by decide +kernel
theorem dX10_tryValues_14 : decode cX10_tryValues 14 = .ok (.aload_n 0, 1) := by decide +kernel
theorem dX10_tryValues_15 : decode cX10_tryValues 15 = .ok (.iconst 0, 1) := by decide +kernel
theorem dX10_tryValues_16 : decode cX10_tryValues 16 = .ok (.putfield 27, 3) := by decide +kernel
theorem dX10_tryValues_19 : decode cX10_tryValues 19 = .ok (.aload_n 0, 1) := by decide +kernel
theorem dX10_tryValues_20 : decode cX10_tryValues 20 = .ok (.getfield 23, 3) := by decide +kernel
theorem dX10_tryValues_23 : decode cX10_tryValues 23 = .ok (.aload_n 0, 1) := by decide +kernel
theorem dX10_tryValues_24 : decode cX10_tryValues 24 = .ok (.getfield 15, 3) := by decide +kernel
theorem dX10_tryValues_27 : decode cX10_tryValues 27 = .ok (.getfield 30, 3) := by decide +kernel
theorem dX10_tryValues_30 : decode cX10_tryValues 30 = .ok (.iload_n 1, 1) := by decide +kernel
theorem dX10_tryValues_31 : decode cX10_tryValues 31 = .ok (.iaload, 1) := by decide +kernel
theorem dX10_tryValues_32 : decode cX10_tryValues 32 = .ok (.invokevirtual 36, 3) := by decide +kernel
theorem dX10_tryValues_35 : decode cX10_tryValues 35 = .ok (.ifCond .ne 4, 3) := by decide +kernel
theorem dX10_tryValues_38 : decode cX10_tryValues 38 = .ok (.return_, 1) := by decide +kernel
theorem dX10_tryValues_39 : decode cX10_tryValues 39 = .ok (.aload_n 0, 1) := by decide +kernel
theorem dX10_tryValues_40 : decode cX10_tryValues 40 = .ok (.getfield 15, 3) := by decide +kernel
theorem dX10_tryValues_43 : decode cX10_tryValues 43 = .ok (.getfield 42, 3) := by decide +kernel
theorem dX10_tryValues_46 : decode cX10_tryValues 46 = .ok (.iload_n 1, 1) := by decide +kernel
theorem dX10_tryValues_47 : decode cX10_tryValues 47 = .ok (.iaload, 1) := by decide +kernel
theorem dX10_tryValues_48 : decode cX10_tryValues 48 = .ok (.istore_n 2, 1) := by decide +kernel
theorem dX10_tryValues_49 : decode cX10_tryValues 49 = .ok (.bipush (-99), 2) := by decide +kernel
theorem dX10_tryValues_51 : decode cX10_tryValues 51 = .ok (.istore_n 3, 1) := by decide +kernel
theorem dX10_tryValues_52 : decode cX10_tryValues 52 = .ok (.iload_n 3, 1) := by decide +kernel
theorem dX10_tryValues_53 : decode cX10_tryValues 53 = .ok (.bipush 99, 2) := by decide +kernel
theorem dX10_tryValues_55 : decode cX10_tryValues 55 = .ok (.if_icmp .gt 35, 3) := by decide +kernel
theorem dX10_tryValues_58 : decode cX10_tryValues 58 = .ok (.aload_n 0, 1) := by decide +kernel
theorem dX10_tryValues_59 : decode cX10_tryValues 59 = .ok (.getfield 15, 3) := by decide +kernel
theorem dX10_tryValues_62 : decode cX10_tryValues 62 = .ok (.getfield 42, 3) := by decide +kernel
theorem dX10_tryValues_65 : decode cX10_tryValues 65 = .ok (.iload_n 1, 1) := by decide +kernel
theorem dX10_tryValues_66 : decode cX10_tryValues 66 = .ok (.iload_n 3, 1) := by decide +kernel
theorem dX10_tryValues_67 : decode cX10_tryValues 67 = .ok (.iastore, 1) := by decide +kernel
theorem dX10_tryValues_68 : decode cX10_tryValues 68 = .ok (.aload_n 0, 1) := by decide +kernel
theorem dX10_tryValues_69 : decode cX10_tryValues 69 = .ok (.getfield 19, 3) := by decide +kernel
theorem dX10_tryValues_72 : decode cX10_tryValues 72 = .ok (.invokevirtual 45, 3) := by decide +kernel
theorem dX10_tryValues_75 : decode cX10_tryValues 75 = .ok (.ifCond .eq 9, 3) := by decide +kernel
theorem dX10_tryValues_78 : decode cX10_tryValues 78 = .ok (.aload_n 0, 1) := by decide +kernel
theorem dX10_tryValues_79 : decode cX10_tryValues 79 = .ok (.iload_n 3, 1) := by decide +kernel
theorem dX10_tryValues_80 : decode cX10_tryValues 80 = .ok (.iload_n 2, 1) := by decide +kernel
theorem dX10_tryValues_81 : decode cX10_tryValues 81 = .ok (.invokevirtual 51, 3) := by decide +kernel
theorem dX10_tryValues_84 : decode cX10_tryValues 84 = .ok (.iinc 3 1, 3) := by decide +kernel
theorem dX10_tryValues_87 : decode cX10_tryValues 87 = .ok (.goto (-35), 3) := by decide +kernel
theorem dX10_tryValues_90 : decode cX10_tryValues 90 = .ok (.aload_n 0, 1) := by decide +kernel
theorem dX10_tryValues_91 : decode cX10_tryValues 91 = .ok (.getfield 15, 3) := by decide +kernel
theorem dX10_tryValues_94 : decode cX10_tryValues 94 = .ok (.getfield 42, 3) := by decide +kernel
theorem dX10_tryValues_97 : decode cX10_tryValues 97 = .ok (.iload_n 1, 1) := by decide +kernel
theorem dX10_tryValues_98 : decode cX10_tryValues 98 = .ok (.iload_n 2, 1) := by decide +kernel
theorem dX10_tryValues_99 : decode cX10_tryValues 99 = .ok (.iastore, 1) := by decide +kernel
theorem dX10_tryValues_100 : decode cX10_tryValues 100 = .ok (.return_, 1) := by decide +kernel
theorem dX10_keepValue_0 : decode cX10_keepValue 0 = .ok (.aload_n 0, 1) := by decide +kernel
theorem dX10_keepValue_1 : decode cX10_keepValue 1 = .ok (.getfield 27, 3) := by decide +kernel
theorem dX10_keepValue_4 : decode cX10_keepValue 4 = .ok (.ifCond .ne 13, 3) := by decide +kernel
theorem dX10_keepValue_7 : decode cX10_keepValue 7 = .ok (.aload_n 0, 1) := by decide +kernel
theorem dX10_keepValue_8 : decode cX10_keepValue 8 = .ok (.iload_n 1, 1) := by decide +kernel
theorem dX10_keepValue_9 : decode cX10_keepValue 9 = .ok (.putfield 55, 3) := by decide +kernel
theorem dX10_keepValue_12 : decode cX10_keepValue 12 = .ok (.aload_n 0, 1) := by decide +kernel
theorem dX10_keepValue_13 : decode cX10_keepValue 13 = .ok (.iload_n 1, 1) := by decide +kernel
theorem dX10_keepValue_14 : decode cX10_keepValue 14 = .ok (.putfield 58, 3) := by decide +kernel
theorem dX10_keepValue_17 : decode cX10_keepValue 17 = .ok (.aload_n 0, 1) := by decide +kernel
theorem dX10_keepValue_18 : decode cX10_keepValue 18 = .ok (.iload_n 1, 1) := by decide +kernel
theorem dX10_keepValue_19 : decode cX10_keepValue 19 = .ok (.putfield 61, 3) := by decide +kernel
theorem dX10_keepValue_22 : decode cX10_keepValue 22 = .ok (.iload_n 1, 1) := by decide +kernel
theorem dX10_keepValue_23 : decode cX10_keepValue 23 = .ok (.iload_n 2, 1) := by decide +kernel
theorem dX10_keepValue_24 : decode cX10_keepValue 24 = .ok (.isub, 1) := by decide +kernel
theorem dX10_keepValue_25 : decode cX10_keepValue 25 = .ok (.invokestatic 64, 3) := by decide +kernel
theorem dX10_keepValue_28 : decode cX10_keepValue 28 = .ok (.aload_n 0, 1) := by decide +kernel
theorem dX10_keepValue_29 : decode cX10_keepValue 29 = .ok (.getfield 58, 3) := by decide +kernel
theorem dX10_keepValue_32 : decode cX10_keepValue 32 = .ok (.iload_n 2, 1) := by decide +kernel
theorem dX10_keepValue_33 : decode cX10_keepValue 33 = .ok (.isub, 1) := by decide +kernel
theorem dX10_keepValue_34 : decode cX10_keepValue 34 = .ok (.invokestatic 64, 3) := by decide +kernel
theorem dX10_keepValue_37 : decode cX10_keepValue 37 = .ok (.if_icmp .ge 8, 3) := by decide +kernel
theorem dX10_keepValue_40 : decode cX10_keepValue 40 = .ok (.aload_n 0, 1) := by decide +kernel
theorem dX10_keepValue_41 : decode cX10_keepValue 41 = .ok (.iload_n 1, 1) := by decide +kernel
theorem dX10_keepValue_42 : decode cX10_keepValue 42 = .ok (.putfield 58, 3) := by decide +kernel
theorem dX10_keepValue_45 : decode cX10_keepValue 45 = .ok (.aload_n 0, 1) := by decide +kernel
theorem dX10_keepValue_46 : decode cX10_keepValue 46 = .ok (.dup, 1) := by decide +kernel
theorem dX10_keepValue_47 : decode cX10_keepValue 47 = .ok (.getfield 27, 3) := by decide +kernel
theorem dX10_keepValue_50 : decode cX10_keepValue 50 = .ok (.iconst 1, 1) := by decide +kernel
theorem dX10_keepValue_51 : decode cX10_keepValue 51 = .ok (.iadd, 1) := by decide +kernel
theorem dX10_keepValue_52 : decode cX10_keepValue 52 = .ok (.putfield 27, 3) := by decide +kernel
theorem dX10_keepValue_55 : decode cX10_keepValue 55 = .ok (.return_, 1) := by decide +kernel
theorem dX10_passingIfForced_0 : decode cX10_passingIfForced 0 = .ok (.aload_n 0, 1) := by decide +kernel
theorem dX10_passingIfForced_1 : decode cX10_passingIfForced 1 = .ok (.getfield 19, 3) := by decide +kernel
theorem dX10_passingIfForced_4 : decode cX10_passingIfForced 4 = .ok (.iload_n 1, 1) := by decide +kernel
theorem dX10_passingIfForced_5 : decode cX10_passingIfForced 5 = .ok (.putfield 70, 3) := by decide +kernel
theorem dX10_passingIfForced_8 : decode cX10_passingIfForced 8 = .ok (.aload_n 0, 1) := by decide +kernel
theorem dX10_passingIfForced_9 : decode cX10_passingIfForced 9 = .ok (.getfield 19, 3) := by decide +kernel
theorem dX10_passingIfForced_12 : decode cX10_passingIfForced 12 = .ok (.iload_n 2, 1) := by decide +kernel
theorem dX10_passingIfForced_13 : decode cX10_passingIfForced 13 = .ok (.putfield 73, 3) := by decide +kernel
theorem dX10_passingIfForced_16 : decode cX10_passingIfForced 16 = .ok (.aload_n 0, 1) := by decide +kernel
theorem dX10_passingIfForced_17 : decode cX10_passingIfForced 17 = .ok (.getfield 19, 3) := by decide +kernel
theorem dX10_passingIfForced_20 : decode cX10_passingIfForced 20 = .ok (.iconst 0, 1) := by decide +kernel
theorem dX10_passingIfForced_21 : decode cX10_passingIfForced 21 = .ok (.invokevirtual 77, 3) := by decide +kernel
theorem dX10_passingIfForced_24 : decode cX10_passingIfForced 24 = .ok (.istore_n 3, 1) := by decide +kernel
theorem dX10_passingIfForced_25 : decode cX10_passingIfForced 25 = .ok (.aload_n 0, 1) := by decide +kernel
theorem dX10_passingIfForced_26 : decode cX10_passingIfForced 26 = .ok (.getfield 19, 3) := by decide +kernel
theorem dX10_passingIfForced_29 : decode cX10_passingIfForced 29 = .ok (.iconst (-1), 1) := by decide +kernel
theorem dX10_passingIfForced_30 : decode cX10_passingIfForced 30 = .ok (.putfield 70, 3) := by decide +kernel
theorem dX10_passingIfForced_33 : decode cX10_passingIfForced 33 = .ok (.iload_n 3, 1) := by decide +kernel
theorem dX10_passingIfForced_34 : decode cX10_passingIfForced 34 = .ok (.ireturn, 1) := by decide +kernel
theorem dX10_mendingAsking_0 : decode cX10_mendingAsking 0 = .ok (.bipush (-2), 2) := by decide +kernel
theorem dX10_mendingAsking_2 : decode cX10_mendingAsking 2 = .ok (.istore_n 2, 1) := by decide +kernel
theorem dX10_mendingAsking_3 : decode cX10_mendingAsking 3 = .ok (.iconst 0, 1) := by decide +kernel
theorem dX10_mendingAsking_4 : decode cX10_mendingAsking 4 = .ok (.istore_n 3, 1) := by decide +kernel
theorem dX10_mendingAsking_5 : decode cX10_mendingAsking 5 = .ok (.iload_n 3, 1) := by decide +kernel
theorem dX10_mendingAsking_6 : decode cX10_mendingAsking 6 = .ok (.aload_n 0, 1) := by decide +kernel
theorem dX10_mendingAsking_7 : decode cX10_mendingAsking 7 = .ok (.getfield 23, 3) := by decide +kernel
theorem dX10_mendingAsking_10 : decode cX10_mendingAsking 10 = .ok (.getfield 81, 3) := by decide +kernel
theorem dX10_mendingAsking_13 : decode cX10_mendingAsking 13 = .ok (.iload_n 1, 1) := by decide +kernel
theorem dX10_mendingAsking_14 : decode cX10_mendingAsking 14 = .ok (.iaload, 1) := by decide +kernel
theorem dX10_mendingAsking_15 : decode cX10_mendingAsking 15 = .ok (.if_icmp .ge 36, 3) := by decide +kernel
theorem dX10_mendingAsking_18 : decode cX10_mendingAsking 18 = .ok (.iload_n 2, 1) := by decide +kernel
theorem dX10_mendingAsking_19 : decode cX10_mendingAsking 19 = .ok (.bipush (-2), 2) := by decide +kernel
theorem dX10_mendingAsking_21 : decode cX10_mendingAsking 21 = .ok (.if_icmp .ne 30, 3) := by decide +kernel
theorem dX10_mendingAsking_24 : decode cX10_mendingAsking 24 = .ok (.aload_n 0, 1) := by decide +kernel
theorem dX10_mendingAsking_25 : decode cX10_mendingAsking 25 = .ok (.getfield 19, 3) := by decide +kernel
theorem dX10_mendingAsking_28 : decode cX10_mendingAsking 28 = .ok (.iload_n 3, 1) := by decide +kernel
theorem dX10_mendingAsking_29 : decode cX10_mendingAsking 29 = .ok (.putfield 84, 3) := by decide +kernel
theorem dX10_mendingAsking_32 : decode cX10_mendingAsking 32 = .ok (.aload_n 0, 1) := by decide +kernel
theorem dX10_mendingAsking_33 : decode cX10_mendingAsking 33 = .ok (.getfield 19, 3) := by decide +kernel
theorem dX10_mendingAsking_36 : decode cX10_mendingAsking 36 = .ok (.iload_n 1, 1) := by decide +kernel
theorem dX10_mendingAsking_37 : decode cX10_mendingAsking 37 = .ok (.invokevirtual 87, 3) := by decide +kernel
theorem dX10_mendingAsking_40 : decode cX10_mendingAsking 40 = .ok (.ifCond .eq 5, 3) := by decide +kernel
theorem dX10_mendingAsking_43 : decode cX10_mendingAsking 43 = .ok (.iload_n 3, 1) := by decide +kernel
theorem dX10_mendingAsking_44 : decode cX10_mendingAsking 44 = .ok (.istore_n 2, 1) := by decide +kernel
theorem dX10_mendingAsking_45 : decode cX10_mendingAsking 45 = .ok (.iinc 3 1, 3) := by decide +kernel
theorem dX10_mendingAsking_48 : decode cX10_mendingAsking 48 = .ok (.goto (-43), 3) := by decide +kernel
theorem dX10_mendingAsking_51 : decode cX10_mendingAsking 51 = .ok (.aload_n 0, 1) := by decide +kernel
theorem dX10_mendingAsking_52 : decode cX10_mendingAsking 52 = .ok (.getfield 19, 3) := by decide +kernel
theorem dX10_mendingAsking_55 : decode cX10_mendingAsking 55 = .ok (.iconst (-1), 1) := by decide +kernel
theorem dX10_mendingAsking_56 : decode cX10_mendingAsking 56 = .ok (.putfield 84, 3) := by decide +kernel
theorem dX10_mendingAsking_59 : decode cX10_mendingAsking 59 = .ok (.iload_n 2, 1) := by decide +kernel
theorem dX10_mendingAsking_60 : decode cX10_mendingAsking 60 = .ok (.ireturn, 1) := by decide +kernel
theorem dX11_init_0 : decode cX11_init 0 = .ok (.aload_n 0, 1) := by decide +kernel
theorem dX11_init_1 : decode cX11_init 1 = .ok (.invokespecial 3, 3) := by decide +kernel
theorem dX11_init_4 : decode cX11_init 4 = .ok (.aload_n 0, 1) := by decide +kernel
theorem dX11_init_5 : decode cX11_init 5 = .ok (.sipush 600, 3) := by decide +kernel
theorem dX11_init_8 : decode cX11_init 8 = .ok (.newarray .byte, 2) := by decide +kernel
theorem dX11_init_10 : decode cX11_init 10 = .ok (.putfield 9, 3) := by decide +kernel
theorem dX11_init_13 : decode cX11_init 13 = .ok (.aload_n 0, 1) := by decide +kernel
theorem dX11_init_14 : decode cX11_init 14 = .ok (.new 13, 3) := by decide +kernel
theorem dX11_init_17 : decode cX11_init 17 = .ok (.dup, 1) := by decide +kernel
theorem dX11_init_18 : decode cX11_init 18 = .ok (.invokespecial 15, 3) := by decide +kernel
theorem dX11_init_21 : decode cX11_init 21 = .ok (.putfield 16, 3) := by decide +kernel
theorem dX11_init_24 : decode cX11_init 24 = .ok (.aload_n 0, 1) := by decide +kernel
theorem dX11_init_25 : decode cX11_init 25 = .ok (.new 20, 3) := by decide +kernel
theorem dX11_init_28 : decode cX11_init 28 = .ok (.dup, 1) := by decide +kernel
theorem dX11_init_29 : decode cX11_init 29 = .ok (.invokespecial 22, 3) := by decide +kernel
theorem dX11_init_32 : decode cX11_init 32 = .ok (.putfield 23, 3) := by decide +kernel
theorem dX11_init_35 : decode cX11_init 35 = .ok (.aload_n 0, 1) := by decide +kernel
theorem dX11_init_36 : decode cX11_init 36 = .ok (.new 13, 3) := by decide +kernel
theorem dX11_init_39 : decode cX11_init 39 = .ok (.dup, 1) := by decide +kernel
theorem dX11_init_40 : decode cX11_init 40 = .ok (.invokespecial 15, 3) := by decide +kernel
theorem dX11_init_43 : decode cX11_init 43 = .ok (.putfield 27, 3) := by decide +kernel
theorem dX11_init_46 : decode cX11_init 46 = .ok (.aload_n 0, 1) := by decide +kernel
theorem dX11_init_47 : decode cX11_init 47 = .ok (.new 20, 3) := by decide +kernel
theorem dX11_init_50 : decode cX11_init 50 = .ok (.dup, 1) := by decide +kernel
theorem dX11_init_51 : decode cX11_init 51 = .ok (.invokespecial 22, 3) := by decide +kernel
theorem dX11_init_54 : decode cX11_init 54 = .ok (.putfield 30, 3) := by decide +kernel
theorem dX11_init_57 : decode cX11_init 57 = .ok (.new 33, 3) := by decide +kernel
theorem dX11_init_60 : decode cX11_init 60 = .ok (.dup, 1) := by decide +kernel
theorem dX11_init_61 : decode cX11_init 61 = .ok (.aload_n 0, 1) := by decide +kernel
theorem dX11_init_62 : decode cX11_init 62 = .ok (.getfield 9, 3) := by decide +kernel
theorem dX11_init_65 : decode cX11_init 65 = .ok (.invokespecial 35, 3) := by decide +kernel
theorem dX11_init_68 : decode cX11_init 68 = .ok (.astore_n 1, 1) := by decide +kernel
theorem dX11_init_69 : decode cX11_init 69 = .ok (.aload_n 0, 1) := by decide +kernel
theorem dX11_init_70 : decode cX11_init 70 = .ok (.new 38, 3) := by decide +kernel
theorem dX11_init_73 : decode cX11_init 73 = .ok (.dup, 1) := by decide +kernel
theorem dX11_init_74 : decode cX11_init 74 = .ok (.aload_n 1, 1) := by decide +kernel
theorem dX11_init_75 : decode cX11_init 75 = .ok (.invokespecial 40, 3) := by decide +kernel
theorem dX11_init_78 : decode cX11_init 78 = .ok (.putfield 43, 3) := by decide +kernel
theorem dX11_init_81 : decode cX11_init 81 = .ok (.aload_n 0, 1) := by decide +kernel
theorem dX11_init_82 : decode cX11_init 82 = .ok (.new 47, 3) := by decide +kernel
theorem dX11_init_85 : decode cX11_init 85 = .ok (.dup, 1) := by decide +kernel
theorem dX11_init_86 : decode cX11_init 86 = .ok (.aload_n 1, 1) := by decide +kernel
theorem dX11_init_87 : decode cX11_init 87 = .ok (.invokespecial 49, 3) := by decide +kernel
theorem dX11_init_90 : decode cX11_init 90 = .ok (.putfield 50, 3) := by decide +kernel
theorem dX11_init_93 : decode cX11_init 93 = .ok (.aload_n 0, 1) := by decide +kernel
theorem dX11_init_94 : decode cX11_init 94 = .ok (.new 54, 3) := by decide +kernel
theorem dX11_init_97 : decode cX11_init 97 = .ok (.dup, 1) := by decide +kernel
theorem dX11_init_98 : decode cX11_init 98 = .ok (.aload_n 0, 1) := by decide +kernel
theorem dX11_init_99 : decode cX11_init 99 = .ok (.getfield 16, 3) := by decide +kernel
theorem dX11_init_102 : decode cX11_init 102 = .ok (.aload_n 0, 1) := by decide +kernel
theorem dX11_init_103 : decode cX11_init 103 = .ok (.getfield 23, 3) := by decide +kernel
theorem dX11_init_106 : decode cX11_init 106 = .ok (.invokespecial 56, 3) := by decide +kernel
theorem dX11_init_109 : decode cX11_init 109 = .ok (.putfield 59, 3) := by decide +kernel
theorem dX11_init_112 : decode cX11_init 112 = .ok (.aload_n 0, 1) := by decide +kernel
theorem dX11_init_113 : decode cX11_init 113 = .ok (.new 63, 3) := by decide +kernel
theorem dX11_init_116 : decode cX11_init 116 = .ok (.dup, 1) := by decide +kernel
theorem dX11_init_117 : decode cX11_init 117 = .ok (.aload_n 0, 1) := by decide +kernel
theorem dX11_init_118 : decode cX11_init 118 = .ok (.getfield 16, 3) := by decide +kernel
theorem dX11_init_121 : decode cX11_init 121 = .ok (.aload_n 0, 1) := by decide +kernel
theorem dX11_init_122 : decode cX11_init 122 = .ok (.getfield 23, 3) := by decide +kernel
theorem dX11_init_125 : decode cX11_init 125 = .ok (.aload_n 0, 1) := by decide +kernel
theorem dX11_init_126 : decode cX11_init 126 = .ok (.getfield 59, 3) := by decide +kernel
theorem dX11_init_129 : decode cX11_init 129 = .ok (.invokespecial 65, 3) := by decide +kernel
theorem dX11_init_132 : decode cX11_init 132 = .ok (.putfield 68, 3) := by decide +kernel
theorem dX11_init_135 : decode cX11_init 135 = .ok (.aload_n 0, 1) := by decide +kernel
theorem dX11_init_136 : decode cX11_init 136 = .ok (.new 72, 3) := by decide +kernel
theorem dX11_init_139 : decode cX11_init 139 = .ok (.dup, 1) := by decide +kernel
theorem dX11_init_140 : decode cX11_init 140 = .ok (.aload_n 0, 1) := by decide +kernel
theorem dX11_init_141 : decode cX11_init 141 = .ok (.getfield 16, 3) := by decide +kernel
theorem dX11_init_144 : decode cX11_init 144 = .ok (.aload_n 0, 1) := by decide +kernel
theorem dX11_init_145 : decode cX11_init 145 = .ok (.getfield 68, 3) := by decide +kernel
theorem dX11_init_148 : decode cX11_init 148 = .ok (.invokespecial 74, 3) := by decide +kernel
theorem dX11_init_151 : decode cX11_init 151 = .ok (.putfield 77, 3) := by decide +kernel
theorem dX11_init_154 : decode cX11_init 154 = .ok (.aload_n 0, 1) := by decide +kernel
theorem dX11_init_155 : decode cX11_init 155 = .ok (.new 81, 3) := by decide +kernel
theorem dX11_init_158 : decode cX11_init 158 = .ok (.dup, 1) := by decide +kernel
theorem dX11_init_159 : decode cX11_init 159 = .ok (.aload_n 0, 1) := by decide +kernel
theorem dX11_init_160 : decode cX11_init 160 = .ok (.getfield 16, 3) := by decide +kernel
theorem dX11_init_163 : decode cX11_init 163 = .ok (.aload_n 0, 1) := by decide +kernel
theorem dX11_init_164 : decode cX11_init 164 = .ok (.getfield 23, 3) := by decide +kernel
theorem dX11_init_167 : decode cX11_init 167 = .ok (.aload_n 0, 1) := by decide +kernel
theorem dX11_init_168 : decode cX11_init 168 = .ok (.getfield 59, 3) := by decide +kernel
theorem dX11_init_171 : decode cX11_init 171 = .ok (.aload_n 0, 1) := by decide +kernel
theorem dX11_init_172 : decode cX11_init 172 = .ok (.getfield 68, 3) := by decide +kernel
theorem dX11_init_175 : decode cX11_init 175 = .ok (.aload_n 0, 1) := by decide +kernel
theorem dX11_init_176 : decode cX11_init 176 = .ok (.getfield 77, 3) := by decide +kernel
theorem dX11_init_179 : decode cX11_init 179 = .ok (.invokespecial 83, 3) := by decide +kernel
theorem dX11_init_182 : decode cX11_init 182 = .ok (.putfield 86, 3) := by decide +kernel
theorem dX11_init_185 : decode cX11_init 185 = .ok (.aload_n 0, 1) := by decide +kernel
theorem dX11_init_186 : decode cX11_init 186 = .ok (.new 90, 3) := by decide +kernel
theorem dX11_init_189 : decode cX11_init 189 = .ok (.dup, 1) := by decide +kernel
theorem dX11_init_190 : decode cX11_init 190 = .ok (.aload_n 0, 1) := by decide +kernel
theorem dX11_init_191 : decode cX11_init 191 = .ok (.getfield 16, 3) := by decide +kernel
theorem dX11_init_194 : decode cX11_init 194 = .ok (.aload_n 0, 1) := by decide +kernel
theorem dX11_init_195 : decode cX11_init 195 = .ok (.getfield 23, 3) := by decide +kernel
theorem dX11_init_198 : decode cX11_init 198 = .ok (.aload_n 0, 1) := by decide +kernel
theorem dX11_init_199 : decode cX11_init 199 = .ok (.getfield 59, 3) := by decide +kernel
theorem dX11_init_202 : decode cX11_init 202 = .ok (.aload_n 0, 1) := by decide +kernel
theorem dX11_init_203 : decode cX11_init 203 = .ok (.getfield 68, 3) := by decide +kernel
theorem dX11_init_206 : decode cX11_init 206 = .ok (.aload_n 0, 1) := by decide +kernel
theorem dX11_init_207 : decode cX11_init 207 = .ok (.getfield 77, 3) := by decide +kernel
theorem dX11_init_210 : decode cX11_init 210 = .ok (.invokespecial 92, 3) := by decide +kernel
theorem dX11_init_213 : decode cX11_init 213 = .ok (.putfield 93, 3) := by decide +kernel
theorem dX11_init_216 : decode cX11_init 216 = .ok (.aload_n 0, 1) := by decide +kernel
theorem dX11_init_217 : decode cX11_init 217 = .ok (.new 97, 3) := by decide +kernel
theorem dX11_init_220 : decode cX11_init 220 = .ok (.dup, 1) := by decide +kernel
theorem dX11_init_221 : decode cX11_init 221 = .ok (.aload_n 0, 1) := by decide +kernel
theorem dX11_init_222 : decode cX11_init 222 = .ok (.getfield 16, 3) := by decide +kernel
theorem dX11_init_225 : decode cX11_init 225 = .ok (.aload_n 0, 1) := by decide +kernel
theorem dX11_init_226 : decode cX11_init 226 = .ok (.getfield 59, 3) := by decide +kernel
theorem dX11_init_229 : decode cX11_init 229 = .ok (.aload_n 0, 1) := by decide +kernel
theorem dX11_init_230 : decode cX11_init 230 = .ok (.getfield 68, 3) := by decide +kernel
theorem dX11_init_233 : decode cX11_init 233 = .ok (.invokespecial 99, 3) := by decide +kernel
theorem dX11_init_236 : decode cX11_init 236 = .ok (.putfield 102, 3) := by decide +kernel
theorem dX11_init_239 : decode cX11_init 239 = .ok (.return_, 1) := by decide +kernel
theorem dX11_feed_0 : decode cX11_feed 0 = .ok (.aload_n 0, 1) := by decide +kernel
theorem dX11_feed_1 : decode cX11_feed 1 = .ok (.getfield 106, 3) := by decide +kernel
theorem dX11_feed_4 : decode cX11_feed 4 = .ok (.bipush 20, 2) := by decide +kernel
theorem dX11_feed_6 : decode cX11_feed 6 = .ok (.iadd, 1) := by decide +kernel
theorem dX11_feed_7 : decode cX11_feed 7 = .ok (.sipush 600, 3) := by decide +kernel
theorem dX11_feed_10 : decode cX11_feed 10 = .ok (.if_icmp .le 5, 3) := by decide +kernel
theorem dX11_feed_13 : decode cX11_feed 13 = .ok (.iconst (-1), 1) := by decide +kernel
theorem dX11_feed_14 : decode cX11_feed 14 = .ok (.ireturn, 1) := by decide +kernel
theorem dX11_feed_15 : decode cX11_feed 15 = .ok (.aload_n 0, 1) := by decide +kernel
theorem dX11_feed_16 : decode cX11_feed 16 = .ok (.iload_n 1, 1) := by decide +kernel
theorem dX11_feed_17 : decode cX11_feed 17 = .ok (.invokevirtual 110, 3) := by decide +kernel
theorem dX11_feed_20 : decode cX11_feed 20 = .ok (.aload_n 0, 1) := by decide +kernel
theorem dX11_feed_21 : decode cX11_feed 21 = .ok (.iload_n 2, 1) := by decide +kernel
theorem dX11_feed_22 : decode cX11_feed 22 = .ok (.invokevirtual 110, 3) := by decide +kernel
theorem dX11_feed_25 : decode cX11_feed 25 = .ok (.aload_n 0, 1) := by decide +kernel
theorem dX11_feed_26 : decode cX11_feed 26 = .ok (.iload_n 3, 1) := by decide +kernel
theorem dX11_feed_27 : decode cX11_feed 27 = .ok (.invokevirtual 110, 3) := by decide +kernel
theorem dX11_feed_30 : decode cX11_feed 30 = .ok (.aload_n 0, 1) := by decide +kernel
theorem dX11_feed_31 : decode cX11_feed 31 = .ok (.iload 4, 2) := by decide +kernel
theorem dX11_feed_33 : decode cX11_feed 33 = .ok (.invokevirtual 110, 3) := by decide +kernel
theorem dX11_feed_36 : decode cX11_feed 36 = .ok (.aload_n 0, 1) := by decide +kernel
theorem dX11_feed_37 : decode cX11_feed 37 = .ok (.iload 5, 2) := by decide +kernel
theorem dX11_feed_39 : decode cX11_feed 39 = .ok (.invokevirtual 110, 3) := by decide +kernel
theorem dX11_feed_42 : decode cX11_feed 42 = .ok (.aload_n 0, 1) := by decide +kernel
theorem dX11_feed_43 : decode cX11_feed 43 = .ok (.getfield 106, 3) := by decide +kernel
theorem dX11_feed_46 : decode cX11_feed 46 = .ok (.ireturn, 1) := by decide +kernel
theorem dX11_program_0 : decode cX11_program 0 = .ok (.iload_n 1, 1) := by decide +kernel
theorem dX11_program_1 : decode cX11_program 1 = .ok (.ifCond .lt 11, 3) := by decide +kernel
theorem dX11_program_4 : decode cX11_program 4 = .ok (.iload_n 1, 1) := by decide +kernel
theorem dX11_program_5 : decode cX11_program 5 = .ok (.aload_n 0, 1) := by decide +kernel
theorem dX11_program_6 : decode cX11_program 6 = .ok (.getfield 106, 3) := by decide +kernel
theorem dX11_program_9 : decode cX11_program 9 = .ok (.if_icmp .le 5, 3) := by decide +kernel
theorem dX11_program_12 : decode cX11_program 12 = .ok (.iconst (-1), 1) := by decide +kernel
theorem dX11_program_13 : decode cX11_program 13 = .ok (.ireturn, 1) := by decide +kernel
theorem dX11_program_14 : decode cX11_program 14 = .ok (.aload_n 0, 1) := by decide +kernel
theorem dX11_program_15 : decode cX11_program 15 = .ok (.iconst 0, 1) := by decide +kernel
theorem dX11_program_16 : decode cX11_program 16 = .ok (.putfield 106, 3) := by decide +kernel
theorem dX11_program_19 : decode cX11_program 19 = .ok (.aload_n 0, 1) := by decide +kernel
theorem dX11_program_20 : decode cX11_program 20 = .ok (.getfield 43, 3) := by decide +kernel
theorem dX11_program_23 : decode cX11_program 23 = .ok (.iload_n 1, 1) := by decide +kernel
theorem dX11_program_24 : decode cX11_program 24 = .ok (.aload_n 0, 1) := by decide +kernel
theorem dX11_program_25 : decode cX11_program 25 = .ok (.getfield 27, 3) := by decide +kernel
theorem dX11_program_28 : decode cX11_program 28 = .ok (.invokevirtual 114, 3) := by decide +kernel
theorem dX11_program_31 : decode cX11_program 31 = .ok (.istore_n 2, 1) := by decide +kernel
theorem dX11_program_32 : decode cX11_program 32 = .ok (.iload_n 2, 1) := by decide +kernel
theorem dX11_program_33 : decode cX11_program 33 = .ok (.ifCond .eq 8, 3) := by decide +kernel
theorem dX11_program_36 : decode cX11_program 36 = .ok (.bipush (-2), 2) := by decide +kernel
theorem dX11_program_38 : decode cX11_program 38 = .ok (.iload_n 2, 1) := by decide +kernel
theorem dX11_program_39 : decode cX11_program 39 = .ok (.isub, 1) := by decide +kernel
theorem dX11_program_40 : decode cX11_program 40 = .ok (.ireturn, 1) := by decide +kernel
theorem dX11_program_41 : decode cX11_program 41 = .ok (.aload_n 0, 1) := by decide +kernel
theorem dX11_program_42 : decode cX11_program 42 = .ok (.getfield 43, 3) := by decide +kernel
theorem dX11_program_45 : decode cX11_program 45 = .ok (.iload_n 1, 1) := by decide +kernel
theorem dX11_program_46 : decode cX11_program 46 = .ok (.aload_n 0, 1) := by decide +kernel
theorem dX11_program_47 : decode cX11_program 47 = .ok (.getfield 16, 3) := by decide +kernel
theorem dX11_program_50 : decode cX11_program 50 = .ok (.invokevirtual 114, 3) := by decide +kernel
theorem dX11_program_53 : decode cX11_program 53 = .ok (.pop, 1) := by decide +kernel
theorem dX11_program_54 : decode cX11_program 54 = .ok (.aload_n 0, 1) := by decide +kernel
theorem dX11_program_55 : decode cX11_program 55 = .ok (.invokevirtual 118, 3) := by decide +kernel
theorem dX11_program_58 : decode cX11_program 58 = .ok (.aload_n 0, 1) := by decide +kernel
theorem dX11_program_59 : decode cX11_program 59 = .ok (.getfield 16, 3) := by decide +kernel
theorem dX11_program_62 : decode cX11_program 62 = .ok (.getfield 121, 3) := by decide +kernel
theorem dX11_program_65 : decode cX11_program 65 = .ok (.ireturn, 1) := by decide +kernel
theorem dX11_tests_0 : decode cX11_tests 0 = .ok (.iload_n 1, 1) := by decide +kernel
theorem dX11_tests_1 : decode cX11_tests 1 = .ok (.ifCond .lt 11, 3) := by decide +kernel
theorem dX11_tests_4 : decode cX11_tests 4 = .ok (.iload_n 1, 1) := by decide +kernel
theorem dX11_tests_5 : decode cX11_tests 5 = .ok (.aload_n 0, 1) := by decide +kernel
theorem dX11_tests_6 : decode cX11_tests 6 = .ok (.getfield 106, 3) := by decide +kernel
theorem dX11_tests_9 : decode cX11_tests 9 = .ok (.if_icmp .le 5, 3) := by decide +kernel
theorem dX11_tests_12 : decode cX11_tests 12 = .ok (.iconst (-1), 1) := by decide +kernel
theorem dX11_tests_13 : decode cX11_tests 13 = .ok (.ireturn, 1) := by decide +kernel
theorem dX11_tests_14 : decode cX11_tests 14 = .ok (.aload_n 0, 1) := by decide +kernel
theorem dX11_tests_15 : decode cX11_tests 15 = .ok (.iconst 0, 1) := by decide +kernel
theorem dX11_tests_16 : decode cX11_tests 16 = .ok (.putfield 106, 3) := by decide +kernel
theorem dX11_tests_19 : decode cX11_tests 19 = .ok (.aload_n 0, 1) := by decide +kernel
theorem dX11_tests_20 : decode cX11_tests 20 = .ok (.getfield 50, 3) := by decide +kernel
theorem dX11_tests_23 : decode cX11_tests 23 = .ok (.iload_n 1, 1) := by decide +kernel
theorem dX11_tests_24 : decode cX11_tests 24 = .ok (.aload_n 0, 1) := by decide +kernel
theorem dX11_tests_25 : decode cX11_tests 25 = .ok (.getfield 30, 3) := by decide +kernel
theorem dX11_tests_28 : decode cX11_tests 28 = .ok (.invokevirtual 124, 3) := by decide +kernel
theorem dX11_tests_31 : decode cX11_tests 31 = .ok (.istore_n 2, 1) := by decide +kernel
theorem dX11_tests_32 : decode cX11_tests 32 = .ok (.iload_n 2, 1) := by decide +kernel
theorem dX11_tests_33 : decode cX11_tests 33 = .ok (.ifCond .eq 8, 3) := by decide +kernel
theorem dX11_tests_36 : decode cX11_tests 36 = .ok (.bipush (-2), 2) := by decide +kernel
theorem dX11_tests_38 : decode cX11_tests 38 = .ok (.iload_n 2, 1) := by decide +kernel
theorem dX11_tests_39 : decode cX11_tests 39 = .ok (.isub, 1) := by decide +kernel
theorem dX11_tests_40 : decode cX11_tests 40 = .ok (.ireturn, 1) := by decide +kernel
theorem dX11_tests_41 : decode cX11_tests 41 = .ok (.aload_n 0, 1) := by decide +kernel
theorem dX11_tests_42 : decode cX11_tests 42 = .ok (.getfield 50, 3) := by decide +kernel
theorem dX11_tests_45 : decode cX11_tests 45 = .ok (.iload_n 1, 1) := by decide +kernel
theorem dX11_tests_46 : decode cX11_tests 46 = .ok (.aload_n 0, 1) := by decide +kernel
theorem dX11_tests_47 : decode cX11_tests 47 = .ok (.getfield 23, 3) := by decide +kernel
theorem dX11_tests_50 : decode cX11_tests 50 = .ok (.invokevirtual 124, 3) := by decide +kernel
theorem dX11_tests_53 : decode cX11_tests 53 = .ok (.pop, 1) := by decide +kernel
theorem dX11_tests_54 : decode cX11_tests 54 = .ok (.aload_n 0, 1) := by decide +kernel
theorem dX11_tests_55 : decode cX11_tests 55 = .ok (.invokevirtual 118, 3) := by decide +kernel
theorem dX11_tests_58 : decode cX11_tests 58 = .ok (.aload_n 0, 1) := by decide +kernel
theorem dX11_tests_59 : decode cX11_tests 59 = .ok (.getfield 23, 3) := by decide +kernel
theorem dX11_tests_62 : decode cX11_tests 62 = .ok (.getfield 127, 3) := by decide +kernel
theorem dX11_tests_65 : decode cX11_tests 65 = .ok (.ireturn, 1) := by decide +kernel
theorem dX11_node_0 : decode cX11_node 0 = .ok (.aload_n 0, 1) := by decide +kernel
theorem dX11_node_1 : decode cX11_node 1 = .ok (.getfield 16, 3) := by decide +kernel
theorem dX11_node_4 : decode cX11_node 4 = .ok (.iload_n 1, 1) := by decide +kernel
theorem dX11_node_5 : decode cX11_node 5 = .ok (.invokevirtual 128, 3) := by decide +kernel
theorem dX11_node_8 : decode cX11_node 8 = .ok (.ifCond .ne 13, 3) := by decide +kernel
theorem dX11_node_11 : decode cX11_node 11 = .ok (.new 132, 3) := by decide +kernel
theorem dX11_node_14 : decode cX11_node 14 = .ok (.dup, 1) := by decide +kernel
theorem dX11_node_15 : decode cX11_node 15 = .ok (.ldc 134, 2) := by decide +kernel
theorem dX11_node_17 : decode cX11_node 17 = .ok (.invokespecial 136, 3) := by decide +kernel
theorem dX11_node_20 : decode cX11_node 20 = .ok (.athrow, 1) := by decide +kernel
theorem dX11_node_21 : decode cX11_node 21 = .ok (.iload_n 2, 1) := by decide +kernel
theorem dX11_node_22 : decode cX11_node 22 = .ok (.tableswitch 98 0 4 #[34, 44, 53, 63, 73], 34) := by decide +kernel
theorem dX11_node_56 : decode cX11_node 56 = .ok (.aload_n 0, 1) := by decide +kernel
theorem dX11_node_57 : decode cX11_node 57 = .ok (.getfield 16, 3) := by decide +kernel
theorem dX11_node_60 : decode cX11_node 60 = .ok (.getfield 139, 3) := by decide +kernel
theorem dX11_node_63 : decode cX11_node 63 = .ok (.iload_n 1, 1) := by decide +kernel
theorem dX11_node_64 : decode cX11_node 64 = .ok (.iaload, 1) := by decide +kernel
theorem dX11_node_65 : decode cX11_node 65 = .ok (.ireturn, 1) := by decide +kernel
theorem dX11_node_66 : decode cX11_node 66 = .ok (.aload_n 0, 1) := by decide +kernel
theorem dX11_node_67 : decode cX11_node 67 = .ok (.getfield 16, 3) := by decide +kernel
theorem dX11_node_70 : decode cX11_node 70 = .ok (.iload_n 1, 1) := by decide +kernel
theorem dX11_node_71 : decode cX11_node 71 = .ok (.invokevirtual 143, 3) := by decide +kernel
theorem dX11_node_74 : decode cX11_node 74 = .ok (.ireturn, 1) := by decide +kernel
theorem dX11_node_75 : decode cX11_node 75 = .ok (.aload_n 0, 1) := by decide +kernel
theorem dX11_node_76 : decode cX11_node 76 = .ok (.getfield 16, 3) := by decide +kernel
theorem dX11_node_79 : decode cX11_node 79 = .ok (.getfield 147, 3) := by decide +kernel
theorem dX11_node_82 : decode cX11_node 82 = .ok (.iload_n 1, 1) := by decide +kernel
theorem dX11_node_83 : decode cX11_node 83 = .ok (.iaload, 1) := by decide +kernel
theorem dX11_node_84 : decode cX11_node 84 = .ok (.ireturn, 1) := by decide +kernel
theorem dX11_node_85 : decode cX11_node 85 = .ok (.aload_n 0, 1) := by decide +kernel
theorem dX11_node_86 : decode cX11_node 86 = .ok (.getfield 16, 3) := by decide +kernel
theorem dX11_node_89 : decode cX11_node 89 = .ok (.getfield 150, 3) := by decide +kernel
theorem dX11_node_92 : decode cX11_node 92 = .ok (.iload_n 1, 1) := by decide +kernel
theorem dX11_node_93 : decode cX11_node 93 = .ok (.iaload, 1) := by decide +kernel
theorem dX11_node_94 : decode cX11_node 94 = .ok (.ireturn, 1) := by decide +kernel
theorem dX11_node_95 : decode cX11_node 95 = .ok (.aload_n 0, 1) := by decide +kernel
theorem dX11_node_96 : decode cX11_node 96 = .ok (.getfield 16, 3) := by decide +kernel
theorem dX11_node_99 : decode cX11_node 99 = .ok (.iload_n 1, 1) := by decide +kernel
theorem dX11_node_100 : decode cX11_node 100 = .ok (.invokevirtual 153, 3) := by decide +kernel
theorem dX11_node_103 : decode cX11_node 103 = .ok (.ifCond .eq 7, 3) := by decide +kernel
theorem dX11_node_106 : decode cX11_node 106 = .ok (.iconst 1, 1) := by decide +kernel
theorem dX11_node_107 : decode cX11_node 107 = .ok (.goto 12, 3) := by decide +kernel
theorem dX11_node_110 : decode cX11_node 110 = .ok (.aload_n 0, 1) := by decide +kernel
theorem dX11_node_111 : decode cX11_node 111 = .ok (.getfield 16, 3) := by decide +kernel
theorem dX11_node_114 : decode cX11_node 114 = .ok (.getfield 156, 3) := by decide +kernel
theorem dX11_node_117 : decode cX11_node 117 = .ok (.iload_n 1, 1) := by decide +kernel
theorem dX11_node_118 : decode cX11_node 118 = .ok (.iaload, 1) := by decide +kernel
theorem dX11_node_119 : decode cX11_node 119 = .ok (.ireturn, 1) := by decide +kernel
theorem dX11_node_120 : decode cX11_node 120 = .ok (.new 132, 3) := by decide +kernel
theorem dX11_node_123 : decode cX11_node 123 = .ok (.dup, 1) := by decide +kernel
theorem dX11_node_124 : decode cX11_node 124 = .ok (.ldc 159, 2) := by decide +kernel
theorem dX11_node_126 : decode cX11_node 126 = .ok (.invokespecial 136, 3) := by decide +kernel
theorem dX11_node_129 : decode cX11_node 129 = .ok (.athrow, 1) := by decide +kernel
theorem dX11_test_0 : decode cX11_test 0 = .ok (.aload_n 0, 1) := by decide +kernel
theorem dX11_test_1 : decode cX11_test 1 = .ok (.getfield 23, 3) := by decide +kernel
theorem dX11_test_4 : decode cX11_test 4 = .ok (.iload_n 1, 1) := by decide +kernel
theorem dX11_test_5 : decode cX11_test 5 = .ok (.invokevirtual 161, 3) := by decide +kernel
theorem dX11_test_8 : decode cX11_test 8 = .ok (.ifCond .eq 12, 3) := by decide +kernel
theorem dX11_test_11 : decode cX11_test 11 = .ok (.iload_n 2, 1) := by decide +kernel
theorem dX11_test_12 : decode cX11_test 12 = .ok (.ifCond .lt 8, 3) := by decide +kernel
theorem dX11_test_15 : decode cX11_test 15 = .ok (.iload_n 2, 1) := by decide +kernel
theorem dX11_test_16 : decode cX11_test 16 = .ok (.iconst 5, 1) := by decide +kernel
theorem dX11_test_17 : decode cX11_test 17 = .ok (.if_icmp .lt 13, 3) := by decide +kernel
theorem dX11_test_20 : decode cX11_test 20 = .ok (.new 132, 3) := by decide +kernel
theorem dX11_test_23 : decode cX11_test 23 = .ok (.dup, 1) := by decide +kernel
theorem dX11_test_24 : decode cX11_test 24 = .ok (.ldc 164, 2) := by decide +kernel
theorem dX11_test_26 : decode cX11_test 26 = .ok (.invokespecial 136, 3) := by decide +kernel
theorem dX11_test_29 : decode cX11_test 29 = .ok (.athrow, 1) := by decide +kernel
theorem dX11_test_30 : decode cX11_test 30 = .ok (.aload_n 0, 1) := by decide +kernel
theorem dX11_test_31 : decode cX11_test 31 = .ok (.getfield 23, 3) := by decide +kernel
theorem dX11_test_34 : decode cX11_test 34 = .ok (.getfield 166, 3) := by decide +kernel
theorem dX11_test_37 : decode cX11_test 37 = .ok (.iload_n 1, 1) := by decide +kernel
theorem dX11_test_38 : decode cX11_test 38 = .ok (.aaload, 1) := by decide +kernel
theorem dX11_test_39 : decode cX11_test 39 = .ok (.iload_n 2, 1) := by decide +kernel
theorem dX11_test_40 : decode cX11_test 40 = .ok (.iaload, 1) := by decide +kernel
theorem dX11_test_41 : decode cX11_test 41 = .ok (.ireturn, 1) := by decide +kernel
theorem dX11_run_0 : decode cX11_run 0 = .ok (.aload_n 0, 1) := by decide +kernel
theorem dX11_run_1 : decode cX11_run 1 = .ok (.iload_n 1, 1) := by decide +kernel
theorem dX11_run_2 : decode cX11_run 2 = .ok (.invokevirtual 170, 3) := by decide +kernel
theorem dX11_run_5 : decode cX11_run 5 = .ok (.ifCond .ne 5, 3) := by decide +kernel
theorem dX11_run_8 : decode cX11_run 8 = .ok (.iconst (-1), 1) := by decide +kernel
theorem dX11_run_9 : decode cX11_run 9 = .ok (.ireturn, 1) := by decide +kernel
theorem dX11_run_10 : decode cX11_run 10 = .ok (.iload_n 2, 1) := by decide +kernel
theorem dX11_run_11 : decode cX11_run 11 = .ok (.tableswitch 77 0 3 #[29, 39, 49, 59], 29) := by decide +kernel
theorem dX11_run_40 : decode cX11_run 40 = .ok (.aload_n 0, 1) := by decide +kernel
theorem dX11_run_41 : decode cX11_run 41 = .ok (.getfield 68, 3) := by decide +kernel
theorem dX11_run_44 : decode cX11_run 44 = .ok (.getfield 173, 3) := by decide +kernel
theorem dX11_run_47 : decode cX11_run 47 = .ok (.iload_n 1, 1) := by decide +kernel
theorem dX11_run_48 : decode cX11_run 48 = .ok (.iaload, 1) := by decide +kernel
theorem dX11_run_49 : decode cX11_run 49 = .ok (.ireturn, 1) := by decide +kernel
theorem dX11_run_50 : decode cX11_run 50 = .ok (.aload_n 0, 1) := by decide +kernel
theorem dX11_run_51 : decode cX11_run 51 = .ok (.getfield 68, 3) := by decide +kernel
theorem dX11_run_54 : decode cX11_run 54 = .ok (.getfield 176, 3) := by decide +kernel
theorem dX11_run_57 : decode cX11_run 57 = .ok (.iload_n 1, 1) := by decide +kernel
theorem dX11_run_58 : decode cX11_run 58 = .ok (.iaload, 1) := by decide +kernel
theorem dX11_run_59 : decode cX11_run 59 = .ok (.ireturn, 1) := by decide +kernel
theorem dX11_run_60 : decode cX11_run 60 = .ok (.aload_n 0, 1) := by decide +kernel
theorem dX11_run_61 : decode cX11_run 61 = .ok (.getfield 68, 3) := by decide +kernel
theorem dX11_run_64 : decode cX11_run 64 = .ok (.getfield 179, 3) := by decide +kernel
theorem dX11_run_67 : decode cX11_run 67 = .ok (.iload_n 1, 1) := by decide +kernel
theorem dX11_run_68 : decode cX11_run 68 = .ok (.iaload, 1) := by decide +kernel
theorem dX11_run_69 : decode cX11_run 69 = .ok (.ireturn, 1) := by decide +kernel
theorem dX11_run_70 : decode cX11_run 70 = .ok (.aload_n 0, 1) := by decide +kernel
theorem dX11_run_71 : decode cX11_run 71 = .ok (.getfield 68, 3) := by decide +kernel
theorem dX11_run_74 : decode cX11_run 74 = .ok (.getfield 182, 3) := by decide +kernel
theorem dX11_run_77 : decode cX11_run 77 = .ok (.iload_n 1, 1) := by decide +kernel
theorem dX11_run_78 : decode cX11_run 78 = .ok (.baload, 1) := by decide +kernel
theorem dX11_run_79 : decode cX11_run 79 = .ok (.ifCond .eq 7, 3) := by decide +kernel
theorem dX11_run_82 : decode cX11_run 82 = .ok (.iconst 1, 1) := by decide +kernel
theorem dX11_run_83 : decode cX11_run 83 = .ok (.goto 4, 3) := by decide +kernel
theorem dX11_run_86 : decode cX11_run 86 = .ok (.iconst 0, 1) := by decide +kernel
theorem dX11_run_87 : decode cX11_run 87 = .ok (.ireturn, 1) := by decide +kernel
theorem dX11_run_88 : decode cX11_run 88 = .ok (.iconst (-1), 1) := by decide +kernel
theorem dX11_run_89 : decode cX11_run 89 = .ok (.ireturn, 1) := by decide +kernel
theorem dX11_done_0 : decode cX11_done 0 = .ok (.aload_n 0, 1) := by decide +kernel
theorem dX11_done_1 : decode cX11_done 1 = .ok (.iload_n 1, 1) := by decide +kernel
theorem dX11_done_2 : decode cX11_done 2 = .ok (.invokevirtual 170, 3) := by decide +kernel
theorem dX11_done_5 : decode cX11_done 5 = .ok (.ifCond .eq 14, 3) := by decide +kernel
theorem dX11_done_8 : decode cX11_done 8 = .ok (.aload_n 0, 1) := by decide +kernel
theorem dX11_done_9 : decode cX11_done 9 = .ok (.getfield 16, 3) := by decide +kernel
theorem dX11_done_12 : decode cX11_done 12 = .ok (.iload_n 2, 1) := by decide +kernel
theorem dX11_done_13 : decode cX11_done 13 = .ok (.invokevirtual 186, 3) := by decide +kernel
theorem dX11_done_16 : decode cX11_done 16 = .ok (.ifCond .ne 5, 3) := by decide +kernel
theorem dX11_done_19 : decode cX11_done 19 = .ok (.iconst (-1), 1) := by decide +kernel
theorem dX11_done_20 : decode cX11_done 20 = .ok (.ireturn, 1) := by decide +kernel
theorem dX11_done_21 : decode cX11_done 21 = .ok (.aload_n 0, 1) := by decide +kernel
theorem dX11_done_22 : decode cX11_done 22 = .ok (.getfield 68, 3) := by decide +kernel
theorem dX11_done_25 : decode cX11_done 25 = .ok (.getfield 189, 3) := by decide +kernel
theorem dX11_done_28 : decode cX11_done 28 = .ok (.iload_n 1, 1) := by decide +kernel
theorem dX11_done_29 : decode cX11_done 29 = .ok (.aaload, 1) := by decide +kernel
theorem dX11_done_30 : decode cX11_done 30 = .ok (.iload_n 2, 1) := by decide +kernel
theorem dX11_done_31 : decode cX11_done 31 = .ok (.iaload, 1) := by decide +kernel
theorem dX11_done_32 : decode cX11_done 32 = .ok (.ireturn, 1) := by decide +kernel
theorem dX11_trace_0 : decode cX11_trace 0 = .ok (.aload_n 0, 1) := by decide +kernel
theorem dX11_trace_1 : decode cX11_trace 1 = .ok (.iload_n 1, 1) := by decide +kernel
theorem dX11_trace_2 : decode cX11_trace 2 = .ok (.invokevirtual 170, 3) := by decide +kernel
theorem dX11_trace_5 : decode cX11_trace 5 = .ok (.ifCond .eq 20, 3) := by decide +kernel
theorem dX11_trace_8 : decode cX11_trace 8 = .ok (.iload_n 2, 1) := by decide +kernel
theorem dX11_trace_9 : decode cX11_trace 9 = .ok (.ifCond .lt 16, 3) := by decide +kernel
theorem dX11_trace_12 : decode cX11_trace 12 = .ok (.iload_n 2, 1) := by decide +kernel
theorem dX11_trace_13 : decode cX11_trace 13 = .ok (.aload_n 0, 1) := by decide +kernel
theorem dX11_trace_14 : decode cX11_trace 14 = .ok (.getfield 68, 3) := by decide +kernel
theorem dX11_trace_17 : decode cX11_trace 17 = .ok (.getfield 179, 3) := by decide +kernel
theorem dX11_trace_20 : decode cX11_trace 20 = .ok (.iload_n 1, 1) := by decide +kernel
theorem dX11_trace_21 : decode cX11_trace 21 = .ok (.iaload, 1) := by decide +kernel
theorem dX11_trace_22 : decode cX11_trace 22 = .ok (.if_icmp .lt 5, 3) := by decide +kernel
theorem dX11_trace_25 : decode cX11_trace 25 = .ok (.iconst (-1), 1) := by decide +kernel
theorem dX11_trace_26 : decode cX11_trace 26 = .ok (.ireturn, 1) := by decide +kernel
theorem dX11_trace_27 : decode cX11_trace 27 = .ok (.aload_n 0, 1) := by decide +kernel
theorem dX11_trace_28 : decode cX11_trace 28 = .ok (.getfield 68, 3) := by decide +kernel
theorem dX11_trace_31 : decode cX11_trace 31 = .ok (.getfield 192, 3) := by decide +kernel
theorem dX11_trace_34 : decode cX11_trace 34 = .ok (.iload_n 1, 1) := by decide +kernel
theorem dX11_trace_35 : decode cX11_trace 35 = .ok (.aaload, 1) := by decide +kernel
theorem dX11_trace_36 : decode cX11_trace 36 = .ok (.iload_n 2, 1) := by decide +kernel
theorem dX11_trace_37 : decode cX11_trace 37 = .ok (.iaload, 1) := by decide +kernel
theorem dX11_trace_38 : decode cX11_trace 38 = .ok (.ireturn, 1) := by decide +kernel
theorem dX11_spectrum_0 : decode cX11_spectrum 0 = .ok (.aload_n 0, 1) := by decide +kernel
theorem dX11_spectrum_1 : decode cX11_spectrum 1 = .ok (.getfield 16, 3) := by decide +kernel
theorem dX11_spectrum_4 : decode cX11_spectrum 4 = .ok (.iload_n 1, 1) := by decide +kernel
theorem dX11_spectrum_5 : decode cX11_spectrum 5 = .ok (.invokevirtual 186, 3) := by decide +kernel
theorem dX11_spectrum_8 : decode cX11_spectrum 8 = .ok (.ifCond .ne 5, 3) := by decide +kernel
theorem dX11_spectrum_11 : decode cX11_spectrum 11 = .ok (.iconst (-1), 1) := by decide +kernel
theorem dX11_spectrum_12 : decode cX11_spectrum 12 = .ok (.ireturn, 1) := by decide +kernel
theorem dX11_spectrum_13 : decode cX11_spectrum 13 = .ok (.aload_n 0, 1) := by decide +kernel
theorem dX11_spectrum_14 : decode cX11_spectrum 14 = .ok (.invokevirtual 195, 3) := by decide +kernel
theorem dX11_spectrum_17 : decode cX11_spectrum 17 = .ok (.iload_n 2, 1) := by decide +kernel
theorem dX11_spectrum_18 : decode cX11_spectrum 18 = .ok (.tableswitch 86 0 3 #[30, 40, 50, 68], 30) := by decide +kernel
theorem dX11_spectrum_48 : decode cX11_spectrum 48 = .ok (.aload_n 0, 1) := by decide +kernel
theorem dX11_spectrum_49 : decode cX11_spectrum 49 = .ok (.getfield 77, 3) := by decide +kernel
theorem dX11_spectrum_52 : decode cX11_spectrum 52 = .ok (.getfield 198, 3) := by decide +kernel
theorem dX11_spectrum_55 : decode cX11_spectrum 55 = .ok (.iload_n 1, 1) := by decide +kernel
theorem dX11_spectrum_56 : decode cX11_spectrum 56 = .ok (.iaload, 1) := by decide +kernel
theorem dX11_spectrum_57 : decode cX11_spectrum 57 = .ok (.ireturn, 1) := by decide +kernel
theorem dX11_spectrum_58 : decode cX11_spectrum 58 = .ok (.aload_n 0, 1) := by decide +kernel
theorem dX11_spectrum_59 : decode cX11_spectrum 59 = .ok (.getfield 77, 3) := by decide +kernel
theorem dX11_spectrum_62 : decode cX11_spectrum 62 = .ok (.getfield 201, 3) := by decide +kernel
theorem dX11_spectrum_65 : decode cX11_spectrum 65 = .ok (.iload_n 1, 1) := by decide +kernel
theorem dX11_spectrum_66 : decode cX11_spectrum 66 = .ok (.iaload, 1) := by decide +kernel
theorem dX11_spectrum_67 : decode cX11_spectrum 67 = .ok (.ireturn, 1) := by decide +kernel
theorem dX11_spectrum_68 : decode cX11_spectrum 68 = .ok (.aload_n 0, 1) := by decide +kernel
theorem dX11_spectrum_69 : decode cX11_spectrum 69 = .ok (.getfield 68, 3) := by decide +kernel
theorem dX11_spectrum_72 : decode cX11_spectrum 72 = .ok (.getfield 203, 3) := by decide +kernel
theorem dX11_spectrum_75 : decode cX11_spectrum 75 = .ok (.aload_n 0, 1) := by decide +kernel
theorem dX11_spectrum_76 : decode cX11_spectrum 76 = .ok (.getfield 77, 3) := by decide +kernel
theorem dX11_spectrum_79 : decode cX11_spectrum 79 = .ok (.getfield 198, 3) := by decide +kernel
theorem dX11_spectrum_82 : decode cX11_spectrum 82 = .ok (.iload_n 1, 1) := by decide +kernel
theorem dX11_spectrum_83 : decode cX11_spectrum 83 = .ok (.iaload, 1) := by decide +kernel
theorem dX11_spectrum_84 : decode cX11_spectrum 84 = .ok (.isub, 1) := by decide +kernel
theorem dX11_spectrum_85 : decode cX11_spectrum 85 = .ok (.ireturn, 1) := by decide +kernel
theorem dX11_spectrum_86 : decode cX11_spectrum 86 = .ok (.aload_n 0, 1) := by decide +kernel
theorem dX11_spectrum_87 : decode cX11_spectrum 87 = .ok (.getfield 68, 3) := by decide +kernel
theorem dX11_spectrum_90 : decode cX11_spectrum 90 = .ok (.getfield 206, 3) := by decide +kernel
theorem dX11_spectrum_93 : decode cX11_spectrum 93 = .ok (.aload_n 0, 1) := by decide +kernel
theorem dX11_spectrum_94 : decode cX11_spectrum 94 = .ok (.getfield 77, 3) := by decide +kernel
theorem dX11_spectrum_97 : decode cX11_spectrum 97 = .ok (.getfield 201, 3) := by decide +kernel
theorem dX11_spectrum_100 : decode cX11_spectrum 100 = .ok (.iload_n 1, 1) := by decide +kernel
theorem dX11_spectrum_101 : decode cX11_spectrum 101 = .ok (.iaload, 1) := by decide +kernel
theorem dX11_spectrum_102 : decode cX11_spectrum 102 = .ok (.isub, 1) := by decide +kernel
theorem dX11_spectrum_103 : decode cX11_spectrum 103 = .ok (.ireturn, 1) := by decide +kernel
theorem dX11_spectrum_104 : decode cX11_spectrum 104 = .ok (.iconst (-1), 1) := by decide +kernel
theorem dX11_spectrum_105 : decode cX11_spectrum 105 = .ok (.ireturn, 1) := by decide +kernel
theorem dX11_score_0 : decode cX11_score 0 = .ok (.iload_n 1, 1) := by decide +kernel
theorem dX11_score_1 : decode cX11_score 1 = .ok (.ifCond .lt 19, 3) := by decide +kernel
theorem dX11_score_4 : decode cX11_score 4 = .ok (.iload_n 1, 1) := by decide +kernel
theorem dX11_score_5 : decode cX11_score 5 = .ok (.iconst 3, 1) := by decide +kernel
theorem dX11_score_6 : decode cX11_score 6 = .ok (.if_icmp .ge 14, 3) := by decide +kernel
theorem dX11_score_9 : decode cX11_score 9 = .ok (.aload_n 0, 1) := by decide +kernel
theorem dX11_score_10 : decode cX11_score 10 = .ok (.getfield 16, 3) := by decide +kernel
theorem dX11_score_13 : decode cX11_score 13 = .ok (.iload_n 2, 1) := by decide +kernel
theorem dX11_score_14 : decode cX11_score 14 = .ok (.invokevirtual 186, 3) := by decide +kernel
theorem dX11_score_17 : decode cX11_score 17 = .ok (.ifCond .ne 5, 3) := by decide +kernel
theorem dX11_score_20 : decode cX11_score 20 = .ok (.iconst (-1), 1) := by decide +kernel
theorem dX11_score_21 : decode cX11_score 21 = .ok (.ireturn, 1) := by decide +kernel
theorem dX11_score_22 : decode cX11_score 22 = .ok (.aload_n 0, 1) := by decide +kernel
theorem dX11_score_23 : decode cX11_score 23 = .ok (.invokevirtual 195, 3) := by decide +kernel
theorem dX11_score_26 : decode cX11_score 26 = .ok (.iload_n 3, 1) := by decide +kernel
theorem dX11_score_27 : decode cX11_score 27 = .ok (.lookupswitch 49 #[(0, 25), (1, 37)], 25) := by decide +kernel
theorem dX11_score_52 : decode cX11_score 52 = .ok (.aload_n 0, 1) := by decide +kernel
theorem dX11_score_53 : decode cX11_score 53 = .ok (.getfield 77, 3) := by decide +kernel
theorem dX11_score_56 : decode cX11_score 56 = .ok (.getfield 209, 3) := by decide +kernel
theorem dX11_score_59 : decode cX11_score 59 = .ok (.iload_n 1, 1) := by decide +kernel
theorem dX11_score_60 : decode cX11_score 60 = .ok (.aaload, 1) := by decide +kernel
theorem dX11_score_61 : decode cX11_score 61 = .ok (.iload_n 2, 1) := by decide +kernel
theorem dX11_score_62 : decode cX11_score 62 = .ok (.iaload, 1) := by decide +kernel
theorem dX11_score_63 : decode cX11_score 63 = .ok (.ireturn, 1) := by decide +kernel
theorem dX11_score_64 : decode cX11_score 64 = .ok (.aload_n 0, 1) := by decide +kernel
theorem dX11_score_65 : decode cX11_score 65 = .ok (.getfield 77, 3) := by decide +kernel
theorem dX11_score_68 : decode cX11_score 68 = .ok (.getfield 212, 3) := by decide +kernel
theorem dX11_score_71 : decode cX11_score 71 = .ok (.iload_n 1, 1) := by decide +kernel
theorem dX11_score_72 : decode cX11_score 72 = .ok (.aaload, 1) := by decide +kernel
theorem dX11_score_73 : decode cX11_score 73 = .ok (.iload_n 2, 1) := by decide +kernel
theorem dX11_score_74 : decode cX11_score 74 = .ok (.iaload, 1) := by decide +kernel
theorem dX11_score_75 : decode cX11_score 75 = .ok (.ireturn, 1) := by decide +kernel
theorem dX11_score_76 : decode cX11_score 76 = .ok (.iconst (-1), 1) := by decide +kernel
theorem dX11_score_77 : decode cX11_score 77 = .ok (.ireturn, 1) := by decide +kernel
theorem dX11_suspect_0 : decode cX11_suspect 0 = .ok (.iload_n 1, 1) := by decide +kernel
theorem dX11_suspect_1 : decode cX11_suspect 1 = .ok (.ifCond .lt 23, 3) := by decide +kernel
theorem dX11_suspect_4 : decode cX11_suspect 4 = .ok (.iload_n 1, 1) := by decide +kernel
theorem dX11_suspect_5 : decode cX11_suspect 5 = .ok (.iconst 3, 1) := by decide +kernel
theorem dX11_suspect_6 : decode cX11_suspect 6 = .ok (.if_icmp .ge 18, 3) := by decide +kernel
theorem dX11_suspect_9 : decode cX11_suspect 9 = .ok (.iload_n 2, 1) := by decide +kernel
theorem dX11_suspect_10 : decode cX11_suspect 10 = .ok (.ifCond .lt 14, 3) := by decide +kernel
theorem dX11_suspect_13 : decode cX11_suspect 13 = .ok (.iload_n 2, 1) := by decide +kernel
theorem dX11_suspect_14 : decode cX11_suspect 14 = .ok (.aload_n 0, 1) := by decide +kernel
theorem dX11_suspect_15 : decode cX11_suspect 15 = .ok (.getfield 16, 3) := by decide +kernel
theorem dX11_suspect_18 : decode cX11_suspect 18 = .ok (.getfield 215, 3) := by decide +kernel
theorem dX11_suspect_21 : decode cX11_suspect 21 = .ok (.if_icmp .lt 5, 3) := by decide +kernel
theorem dX11_suspect_24 : decode cX11_suspect 24 = .ok (.iconst (-1), 1) := by decide +kernel
theorem dX11_suspect_25 : decode cX11_suspect 25 = .ok (.ireturn, 1) := by decide +kernel
theorem dX11_suspect_26 : decode cX11_suspect 26 = .ok (.aload_n 0, 1) := by decide +kernel
theorem dX11_suspect_27 : decode cX11_suspect 27 = .ok (.invokevirtual 195, 3) := by decide +kernel
theorem dX11_suspect_30 : decode cX11_suspect 30 = .ok (.aload_n 0, 1) := by decide +kernel
theorem dX11_suspect_31 : decode cX11_suspect 31 = .ok (.getfield 77, 3) := by decide +kernel
theorem dX11_suspect_34 : decode cX11_suspect 34 = .ok (.getfield 218, 3) := by decide +kernel
theorem dX11_suspect_37 : decode cX11_suspect 37 = .ok (.iload_n 1, 1) := by decide +kernel
theorem dX11_suspect_38 : decode cX11_suspect 38 = .ok (.aaload, 1) := by decide +kernel
theorem dX11_suspect_39 : decode cX11_suspect 39 = .ok (.iload_n 2, 1) := by decide +kernel
theorem dX11_suspect_40 : decode cX11_suspect 40 = .ok (.iaload, 1) := by decide +kernel
theorem dX11_suspect_41 : decode cX11_suspect 41 = .ok (.ireturn, 1) := by decide +kernel
theorem dX11_changes_0 : decode cX11_changes 0 = .ok (.aload_n 0, 1) := by decide +kernel
theorem dX11_changes_1 : decode cX11_changes 1 = .ok (.getfield 16, 3) := by decide +kernel
theorem dX11_changes_4 : decode cX11_changes 4 = .ok (.iload_n 1, 1) := by decide +kernel
theorem dX11_changes_5 : decode cX11_changes 5 = .ok (.invokevirtual 128, 3) := by decide +kernel
theorem dX11_changes_8 : decode cX11_changes 8 = .ok (.ifCond .eq 14, 3) := by decide +kernel
theorem dX11_changes_11 : decode cX11_changes 11 = .ok (.aload_n 0, 1) := by decide +kernel
theorem dX11_changes_12 : decode cX11_changes 12 = .ok (.getfield 16, 3) := by decide +kernel
theorem dX11_changes_15 : decode cX11_changes 15 = .ok (.iload_n 1, 1) := by decide +kernel
theorem dX11_changes_16 : decode cX11_changes 16 = .ok (.invokevirtual 221, 3) := by decide +kernel
theorem dX11_changes_19 : decode cX11_changes 19 = .ok (.goto 4, 3) := by decide +kernel
theorem dX11_changes_22 : decode cX11_changes 22 = .ok (.iconst (-1), 1) := by decide +kernel
theorem dX11_changes_23 : decode cX11_changes 23 = .ok (.ireturn, 1) := by decide +kernel
theorem dX11_change_0 : decode cX11_change 0 = .ok (.aload_n 0, 1) := by decide +kernel
theorem dX11_change_1 : decode cX11_change 1 = .ok (.getfield 16, 3) := by decide +kernel
theorem dX11_change_4 : decode cX11_change 4 = .ok (.iload_n 1, 1) := by decide +kernel
theorem dX11_change_5 : decode cX11_change 5 = .ok (.iload_n 2, 1) := by decide +kernel
theorem dX11_change_6 : decode cX11_change 6 = .ok (.invokevirtual 224, 3) := by decide +kernel
theorem dX11_change_9 : decode cX11_change 9 = .ok (.ifCond .ne 7, 3) := by decide +kernel
theorem dX11_change_12 : decode cX11_change 12 = .ok (.sipush (-200), 3) := by decide +kernel
theorem dX11_change_15 : decode cX11_change 15 = .ok (.ireturn, 1) := by decide +kernel
theorem dX11_change_16 : decode cX11_change 16 = .ok (.iload_n 3, 1) := by decide +kernel
theorem dX11_change_17 : decode cX11_change 17 = .ok (.tableswitch 94 0 3 #[31, 39, 47, 84], 31) := by decide +kernel
theorem dX11_change_48 : decode cX11_change 48 = .ok (.aload_n 0, 1) := by decide +kernel
theorem dX11_change_49 : decode cX11_change 49 = .ok (.iload_n 1, 1) := by decide +kernel
theorem dX11_change_50 : decode cX11_change 50 = .ok (.iload_n 2, 1) := by decide +kernel
theorem dX11_change_51 : decode cX11_change 51 = .ok (.iconst 0, 1) := by decide +kernel
theorem dX11_change_52 : decode cX11_change 52 = .ok (.invokevirtual 228, 3) := by decide +kernel
theorem dX11_change_55 : decode cX11_change 55 = .ok (.ireturn, 1) := by decide +kernel
theorem dX11_change_56 : decode cX11_change 56 = .ok (.aload_n 0, 1) := by decide +kernel
theorem dX11_change_57 : decode cX11_change 57 = .ok (.iload_n 1, 1) := by decide +kernel
theorem dX11_change_58 : decode cX11_change 58 = .ok (.iload_n 2, 1) := by decide +kernel
theorem dX11_change_59 : decode cX11_change 59 = .ok (.iconst 1, 1) := by decide +kernel
theorem dX11_change_60 : decode cX11_change 60 = .ok (.invokevirtual 228, 3) := by decide +kernel
theorem dX11_change_63 : decode cX11_change 63 = .ok (.ireturn, 1) := by decide +kernel
theorem dX11_change_64 : decode cX11_change 64 = .ok (.aload_n 0, 1) := by decide +kernel
theorem dX11_change_65 : decode cX11_change 65 = .ok (.invokevirtual 195, 3) := by decide +kernel
theorem dX11_change_68 : decode cX11_change 68 = .ok (.aload_n 0, 1) := by decide +kernel
theorem dX11_change_69 : decode cX11_change 69 = .ok (.getfield 68, 3) := by decide +kernel
theorem dX11_change_72 : decode cX11_change 72 = .ok (.getfield 203, 3) := by decide +kernel
theorem dX11_change_75 : decode cX11_change 75 = .ok (.ifCond .le 24, 3) := by decide +kernel
theorem dX11_change_78 : decode cX11_change 78 = .ok (.aload_n 0, 1) := by decide +kernel
theorem dX11_change_79 : decode cX11_change 79 = .ok (.iload_n 1, 1) := by decide +kernel
theorem dX11_change_80 : decode cX11_change 80 = .ok (.iload_n 2, 1) := by decide +kernel
theorem dX11_change_81 : decode cX11_change 81 = .ok (.iconst 0, 1) := by decide +kernel
theorem dX11_change_82 : decode cX11_change 82 = .ok (.invokevirtual 228, 3) := by decide +kernel
theorem dX11_change_85 : decode cX11_change 85 = .ok (.aload_n 0, 1) := by decide +kernel
theorem dX11_change_86 : decode cX11_change 86 = .ok (.getfield 23, 3) := by decide +kernel
theorem dX11_change_89 : decode cX11_change 89 = .ok (.invokevirtual 232, 3) := by decide +kernel
theorem dX11_change_92 : decode cX11_change 92 = .ok (.if_icmp .ne 7, 3) := by decide +kernel
theorem dX11_change_95 : decode cX11_change 95 = .ok (.iconst 1, 1) := by decide +kernel
theorem dX11_change_96 : decode cX11_change 96 = .ok (.goto 4, 3) := by decide +kernel
theorem dX11_change_99 : decode cX11_change 99 = .ok (.iconst 0, 1) := by decide +kernel
theorem dX11_change_100 : decode cX11_change 100 = .ok (.ireturn, 1) := by decide +kernel
theorem dX11_change_101 : decode cX11_change 101 = .ok (.aload_n 0, 1) := by decide +kernel
theorem dX11_change_102 : decode cX11_change 102 = .ok (.getfield 16, 3) := by decide +kernel
theorem dX11_change_105 : decode cX11_change 105 = .ok (.iload_n 1, 1) := by decide +kernel
theorem dX11_change_106 : decode cX11_change 106 = .ok (.iload_n 2, 1) := by decide +kernel
theorem dX11_change_107 : decode cX11_change 107 = .ok (.invokevirtual 236, 3) := by decide +kernel
theorem dX11_change_110 : decode cX11_change 110 = .ok (.ireturn, 1) := by decide +kernel
theorem dX11_change_111 : decode cX11_change 111 = .ok (.sipush (-200), 3) := by decide +kernel
theorem dX11_change_114 : decode cX11_change 114 = .ok (.ireturn, 1) := by decide +kernel
theorem dX11_mend_0 : decode cX11_mend 0 = .ok (.aload_n 0, 1) := by decide +kernel
theorem dX11_mend_1 : decode cX11_mend 1 = .ok (.invokevirtual 240, 3) := by decide +kernel
theorem dX11_mend_4 : decode cX11_mend 4 = .ok (.iload_n 1, 1) := by decide +kernel
theorem dX11_mend_5 : decode cX11_mend 5 = .ok (.iconst (-1), 1) := by decide +kernel
theorem dX11_mend_6 : decode cX11_mend 6 = .ok (.if_icmp .ne 11, 3) := by decide +kernel
theorem dX11_mend_9 : decode cX11_mend 9 = .ok (.aload_n 0, 1) := by decide +kernel
theorem dX11_mend_10 : decode cX11_mend 10 = .ok (.getfield 86, 3) := by decide +kernel
theorem dX11_mend_13 : decode cX11_mend 13 = .ok (.getfield 243, 3) := by decide +kernel
theorem dX11_mend_16 : decode cX11_mend 16 = .ok (.ireturn, 1) := by decide +kernel
theorem dX11_mend_17 : decode cX11_mend 17 = .ok (.iload_n 1, 1) := by decide +kernel
theorem dX11_mend_18 : decode cX11_mend 18 = .ok (.ifCond .lt 14, 3) := by decide +kernel
theorem dX11_mend_21 : decode cX11_mend 21 = .ok (.iload_n 1, 1) := by decide +kernel
theorem dX11_mend_22 : decode cX11_mend 22 = .ok (.aload_n 0, 1) := by decide +kernel
theorem dX11_mend_23 : decode cX11_mend 23 = .ok (.getfield 86, 3) := by decide +kernel
theorem dX11_mend_26 : decode cX11_mend 26 = .ok (.getfield 243, 3) := by decide +kernel
theorem dX11_mend_29 : decode cX11_mend 29 = .ok (.if_icmp .lt 5, 3) := by decide +kernel
theorem dX11_mend_32 : decode cX11_mend 32 = .ok (.iconst (-1), 1) := by decide +kernel
theorem dX11_mend_33 : decode cX11_mend 33 = .ok (.ireturn, 1) := by decide +kernel
theorem dX11_mend_34 : decode cX11_mend 34 = .ok (.iload_n 2, 1) := by decide +kernel
theorem dX11_mend_35 : decode cX11_mend 35 = .ok (.tableswitch 98 0 4 #[33, 43, 53, 63, 88], 33) := by decide +kernel
theorem dX11_mend_68 : decode cX11_mend 68 = .ok (.aload_n 0, 1) := by decide +kernel
theorem dX11_mend_69 : decode cX11_mend 69 = .ok (.getfield 86, 3) := by decide +kernel
theorem dX11_mend_72 : decode cX11_mend 72 = .ok (.getfield 246, 3) := by decide +kernel
theorem dX11_mend_75 : decode cX11_mend 75 = .ok (.iload_n 1, 1) := by decide +kernel
theorem dX11_mend_76 : decode cX11_mend 76 = .ok (.iaload, 1) := by decide +kernel
theorem dX11_mend_77 : decode cX11_mend 77 = .ok (.ireturn, 1) := by decide +kernel
theorem dX11_mend_78 : decode cX11_mend 78 = .ok (.aload_n 0, 1) := by decide +kernel
theorem dX11_mend_79 : decode cX11_mend 79 = .ok (.getfield 86, 3) := by decide +kernel
theorem dX11_mend_82 : decode cX11_mend 82 = .ok (.getfield 249, 3) := by decide +kernel
theorem dX11_mend_85 : decode cX11_mend 85 = .ok (.iload_n 1, 1) := by decide +kernel
theorem dX11_mend_86 : decode cX11_mend 86 = .ok (.iaload, 1) := by decide +kernel
theorem dX11_mend_87 : decode cX11_mend 87 = .ok (.ireturn, 1) := by decide +kernel
theorem dX11_mend_88 : decode cX11_mend 88 = .ok (.aload_n 0, 1) := by decide +kernel
theorem dX11_mend_89 : decode cX11_mend 89 = .ok (.getfield 86, 3) := by decide +kernel
theorem dX11_mend_92 : decode cX11_mend 92 = .ok (.getfield 252, 3) := by decide +kernel
theorem dX11_mend_95 : decode cX11_mend 95 = .ok (.iload_n 1, 1) := by decide +kernel
theorem dX11_mend_96 : decode cX11_mend 96 = .ok (.iaload, 1) := by decide +kernel
theorem dX11_mend_97 : decode cX11_mend 97 = .ok (.ireturn, 1) := by decide +kernel
theorem dX11_mend_98 : decode cX11_mend 98 = .ok (.aload_n 0, 1) := by decide +kernel
theorem dX11_mend_99 : decode cX11_mend 99 = .ok (.getfield 86, 3) := by decide +kernel
theorem dX11_mend_102 : decode cX11_mend 102 = .ok (.getfield 252, 3) := by decide +kernel
theorem dX11_mend_105 : decode cX11_mend 105 = .ok (.iload_n 1, 1) := by decide +kernel
theorem dX11_mend_106 : decode cX11_mend 106 = .ok (.iaload, 1) := by decide +kernel
theorem dX11_mend_107 : decode cX11_mend 107 = .ok (.aload_n 0, 1) := by decide +kernel
theorem dX11_mend_108 : decode cX11_mend 108 = .ok (.getfield 23, 3) := by decide +kernel
theorem dX11_mend_111 : decode cX11_mend 111 = .ok (.getfield 255, 3) := by decide +kernel
theorem dX11_mend_114 : decode cX11_mend 114 = .ok (.if_icmp .ge 7, 3) := by decide +kernel
theorem dX11_mend_117 : decode cX11_mend 117 = .ok (.iconst 1, 1) := by decide +kernel
theorem dX11_mend_118 : decode cX11_mend 118 = .ok (.goto 4, 3) := by decide +kernel
theorem dX11_mend_121 : decode cX11_mend 121 = .ok (.iconst 0, 1) := by decide +kernel
theorem dX11_mend_122 : decode cX11_mend 122 = .ok (.ireturn, 1) := by decide +kernel
theorem dX11_mend_123 : decode cX11_mend 123 = .ok (.aload_n 0, 1) := by decide +kernel
theorem dX11_mend_124 : decode cX11_mend 124 = .ok (.getfield 86, 3) := by decide +kernel
theorem dX11_mend_127 : decode cX11_mend 127 = .ok (.getfield 258, 3) := by decide +kernel
theorem dX11_mend_130 : decode cX11_mend 130 = .ok (.iload_n 1, 1) := by decide +kernel
theorem dX11_mend_131 : decode cX11_mend 131 = .ok (.iaload, 1) := by decide +kernel
theorem dX11_mend_132 : decode cX11_mend 132 = .ok (.ireturn, 1) := by decide +kernel
theorem dX11_mend_133 : decode cX11_mend 133 = .ok (.iconst (-1), 1) := by decide +kernel
theorem dX11_mend_134 : decode cX11_mend 134 = .ok (.ireturn, 1) := by decide +kernel
theorem dX11_unlike_0 : decode cX11_unlike 0 = .ok (.aload_n 0, 1) := by decide +kernel
theorem dX11_unlike_1 : decode cX11_unlike 1 = .ok (.invokevirtual 240, 3) := by decide +kernel
theorem dX11_unlike_4 : decode cX11_unlike 4 = .ok (.aload_n 0, 1) := by decide +kernel
theorem dX11_unlike_5 : decode cX11_unlike 5 = .ok (.getfield 86, 3) := by decide +kernel
theorem dX11_unlike_8 : decode cX11_unlike 8 = .ok (.invokevirtual 261, 3) := by decide +kernel
theorem dX11_unlike_11 : decode cX11_unlike 11 = .ok (.ireturn, 1) := by decide +kernel
theorem dX11_best_0 : decode cX11_best 0 = .ok (.aload_n 0, 1) := by decide +kernel
theorem dX11_best_1 : decode cX11_best 1 = .ok (.invokevirtual 240, 3) := by decide +kernel
theorem dX11_best_4 : decode cX11_best 4 = .ok (.aload_n 0, 1) := by decide +kernel
theorem dX11_best_5 : decode cX11_best 5 = .ok (.getfield 86, 3) := by decide +kernel
theorem dX11_best_8 : decode cX11_best 8 = .ok (.invokevirtual 264, 3) := by decide +kernel
theorem dX11_best_11 : decode cX11_best 11 = .ok (.ireturn, 1) := by decide +kernel
theorem dX11_pair_0 : decode cX11_pair 0 = .ok (.iload_n 1, 1) := by decide +kernel
theorem dX11_pair_1 : decode cX11_pair 1 = .ok (.ifCond .lt 8, 3) := by decide +kernel
theorem dX11_pair_4 : decode cX11_pair 4 = .ok (.iload_n 1, 1) := by decide +kernel
theorem dX11_pair_5 : decode cX11_pair 5 = .ok (.iconst 4, 1) := by decide +kernel
theorem dX11_pair_6 : decode cX11_pair 6 = .ok (.if_icmp .le 5, 3) := by decide +kernel
theorem dX11_pair_9 : decode cX11_pair 9 = .ok (.iconst (-1), 1) := by decide +kernel
theorem dX11_pair_10 : decode cX11_pair 10 = .ok (.ireturn, 1) := by decide +kernel
theorem dX11_pair_11 : decode cX11_pair 11 = .ok (.aload_n 0, 1) := by decide +kernel
theorem dX11_pair_12 : decode cX11_pair 12 = .ok (.invokevirtual 240, 3) := by decide +kernel
theorem dX11_pair_15 : decode cX11_pair 15 = .ok (.aload_n 0, 1) := by decide +kernel
theorem dX11_pair_16 : decode cX11_pair 16 = .ok (.getfield 93, 3) := by decide +kernel
theorem dX11_pair_19 : decode cX11_pair 19 = .ok (.aload_n 0, 1) := by decide +kernel
theorem dX11_pair_20 : decode cX11_pair 20 = .ok (.getfield 86, 3) := by decide +kernel
theorem dX11_pair_23 : decode cX11_pair 23 = .ok (.getfield 243, 3) := by decide +kernel
theorem dX11_pair_26 : decode cX11_pair 26 = .ok (.invokevirtual 267, 3) := by decide +kernel
theorem dX11_pair_29 : decode cX11_pair 29 = .ok (.aload_n 0, 1) := by decide +kernel
theorem dX11_pair_30 : decode cX11_pair 30 = .ok (.getfield 93, 3) := by decide +kernel
theorem dX11_pair_33 : decode cX11_pair 33 = .ok (.getfield 270, 3) := by decide +kernel
theorem dX11_pair_36 : decode cX11_pair 36 = .ok (.ifCond .ne 6, 3) := by decide +kernel
theorem dX11_pair_39 : decode cX11_pair 39 = .ok (.bipush (-2), 2) := by decide +kernel
theorem dX11_pair_41 : decode cX11_pair 41 = .ok (.ireturn, 1) := by decide +kernel
theorem dX11_pair_42 : decode cX11_pair 42 = .ok (.iload_n 1, 1) := by decide +kernel
theorem dX11_pair_43 : decode cX11_pair 43 = .ok (.tableswitch 61 0 3 #[29, 37, 45, 53], 29) := by decide +kernel
theorem dX11_pair_72 : decode cX11_pair 72 = .ok (.aload_n 0, 1) := by decide +kernel
theorem dX11_pair_73 : decode cX11_pair 73 = .ok (.getfield 93, 3) := by decide +kernel
theorem dX11_pair_76 : decode cX11_pair 76 = .ok (.getfield 274, 3) := by decide +kernel
theorem dX11_pair_79 : decode cX11_pair 79 = .ok (.ireturn, 1) := by decide +kernel
theorem dX11_pair_80 : decode cX11_pair 80 = .ok (.aload_n 0, 1) := by decide +kernel
theorem dX11_pair_81 : decode cX11_pair 81 = .ok (.getfield 93, 3) := by decide +kernel
theorem dX11_pair_84 : decode cX11_pair 84 = .ok (.getfield 277, 3) := by decide +kernel
theorem dX11_pair_87 : decode cX11_pair 87 = .ok (.ireturn, 1) := by decide +kernel
theorem dX11_pair_88 : decode cX11_pair 88 = .ok (.aload_n 0, 1) := by decide +kernel
theorem dX11_pair_89 : decode cX11_pair 89 = .ok (.getfield 93, 3) := by decide +kernel
theorem dX11_pair_92 : decode cX11_pair 92 = .ok (.getfield 280, 3) := by decide +kernel
theorem dX11_pair_95 : decode cX11_pair 95 = .ok (.ireturn, 1) := by decide +kernel
theorem dX11_pair_96 : decode cX11_pair 96 = .ok (.aload_n 0, 1) := by decide +kernel
theorem dX11_pair_97 : decode cX11_pair 97 = .ok (.getfield 93, 3) := by decide +kernel
theorem dX11_pair_100 : decode cX11_pair 100 = .ok (.getfield 283, 3) := by decide +kernel
theorem dX11_pair_103 : decode cX11_pair 103 = .ok (.ireturn, 1) := by decide +kernel
theorem dX11_pair_104 : decode cX11_pair 104 = .ok (.aload_n 0, 1) := by decide +kernel
theorem dX11_pair_105 : decode cX11_pair 105 = .ok (.getfield 93, 3) := by decide +kernel
theorem dX11_pair_108 : decode cX11_pair 108 = .ok (.getfield 286, 3) := by decide +kernel
theorem dX11_pair_111 : decode cX11_pair 111 = .ok (.ireturn, 1) := by decide +kernel
theorem dX11_values_0 : decode cX11_values 0 = .ok (.iload_n 2, 1) := by decide +kernel
theorem dX11_values_1 : decode cX11_values 1 = .ok (.ifCond .lt 43, 3) := by decide +kernel
theorem dX11_values_4 : decode cX11_values 4 = .ok (.iload_n 2, 1) := by decide +kernel
theorem dX11_values_5 : decode cX11_values 5 = .ok (.iconst 3, 1) := by decide +kernel
theorem dX11_values_6 : decode cX11_values 6 = .ok (.if_icmp .gt 38, 3) := by decide +kernel
theorem dX11_values_9 : decode cX11_values 9 = .ok (.aload_n 0, 1) := by decide +kernel
theorem dX11_values_10 : decode cX11_values 10 = .ok (.getfield 16, 3) := by decide +kernel
theorem dX11_values_13 : decode cX11_values 13 = .ok (.iload_n 1, 1) := by decide +kernel
theorem dX11_values_14 : decode cX11_values 14 = .ok (.invokevirtual 128, 3) := by decide +kernel
theorem dX11_values_17 : decode cX11_values 17 = .ok (.ifCond .eq 27, 3) := by decide +kernel
theorem dX11_values_20 : decode cX11_values 20 = .ok (.aload_n 0, 1) := by decide +kernel
theorem dX11_values_21 : decode cX11_values 21 = .ok (.getfield 16, 3) := by decide +kernel
theorem dX11_values_24 : decode cX11_values 24 = .ok (.getfield 139, 3) := by decide +kernel
theorem dX11_values_27 : decode cX11_values 27 = .ok (.iload_n 1, 1) := by decide +kernel
theorem dX11_values_28 : decode cX11_values 28 = .ok (.iaload, 1) := by decide +kernel
theorem dX11_values_29 : decode cX11_values 29 = .ok (.iconst 4, 1) := by decide +kernel
theorem dX11_values_30 : decode cX11_values 30 = .ok (.if_icmp .ne 14, 3) := by decide +kernel
theorem dX11_values_33 : decode cX11_values 33 = .ok (.aload_n 0, 1) := by decide +kernel
theorem dX11_values_34 : decode cX11_values 34 = .ok (.getfield 16, 3) := by decide +kernel
theorem dX11_values_37 : decode cX11_values 37 = .ok (.iload_n 1, 1) := by decide +kernel
theorem dX11_values_38 : decode cX11_values 38 = .ok (.invokevirtual 153, 3) := by decide +kernel
theorem dX11_values_41 : decode cX11_values 41 = .ok (.ifCond .eq 7, 3) := by decide +kernel
theorem dX11_values_44 : decode cX11_values 44 = .ok (.sipush (-200), 3) := by decide +kernel
theorem dX11_values_47 : decode cX11_values 47 = .ok (.ireturn, 1) := by decide +kernel
theorem dX11_values_48 : decode cX11_values 48 = .ok (.aload_n 0, 1) := by decide +kernel
theorem dX11_values_49 : decode cX11_values 49 = .ok (.invokevirtual 195, 3) := by decide +kernel
theorem dX11_values_52 : decode cX11_values 52 = .ok (.aload_n 0, 1) := by decide +kernel
theorem dX11_values_53 : decode cX11_values 53 = .ok (.getfield 102, 3) := by decide +kernel
theorem dX11_values_56 : decode cX11_values 56 = .ok (.iload_n 1, 1) := by decide +kernel
theorem dX11_values_57 : decode cX11_values 57 = .ok (.invokevirtual 288, 3) := by decide +kernel
theorem dX11_values_60 : decode cX11_values 60 = .ok (.iload_n 2, 1) := by decide +kernel
theorem dX11_values_61 : decode cX11_values 61 = .ok (.ifCond .ne 11, 3) := by decide +kernel
theorem dX11_values_64 : decode cX11_values 64 = .ok (.aload_n 0, 1) := by decide +kernel
theorem dX11_values_65 : decode cX11_values 65 = .ok (.getfield 102, 3) := by decide +kernel
theorem dX11_values_68 : decode cX11_values 68 = .ok (.getfield 291, 3) := by decide +kernel
theorem dX11_values_71 : decode cX11_values 71 = .ok (.ireturn, 1) := by decide +kernel
theorem dX11_values_72 : decode cX11_values 72 = .ok (.aload_n 0, 1) := by decide +kernel
theorem dX11_values_73 : decode cX11_values 73 = .ok (.getfield 102, 3) := by decide +kernel
theorem dX11_values_76 : decode cX11_values 76 = .ok (.getfield 291, 3) := by decide +kernel
theorem dX11_values_79 : decode cX11_values 79 = .ok (.ifCond .ne 7, 3) := by decide +kernel
theorem dX11_values_82 : decode cX11_values 82 = .ok (.sipush (-200), 3) := by decide +kernel
theorem dX11_values_85 : decode cX11_values 85 = .ok (.ireturn, 1) := by decide +kernel
theorem dX11_values_86 : decode cX11_values 86 = .ok (.iload_n 2, 1) := by decide +kernel
theorem dX11_values_87 : decode cX11_values 87 = .ok (.iconst 1, 1) := by decide +kernel
theorem dX11_values_88 : decode cX11_values 88 = .ok (.if_icmp .ne 13, 3) := by decide +kernel
theorem dX11_values_91 : decode cX11_values 91 = .ok (.aload_n 0, 1) := by decide +kernel
theorem dX11_values_92 : decode cX11_values 92 = .ok (.getfield 102, 3) := by decide +kernel
theorem dX11_values_95 : decode cX11_values 95 = .ok (.getfield 292, 3) := by decide +kernel
theorem dX11_values_98 : decode cX11_values 98 = .ok (.goto 25, 3) := by decide +kernel
theorem dX11_values_101 : decode cX11_values 101 = .ok (.iload_n 2, 1) := by decide +kernel
theorem dX11_values_102 : decode cX11_values 102 = .ok (.iconst 2, 1) := by decide +kernel
theorem dX11_values_103 : decode cX11_values 103 = .ok (.if_icmp .ne 13, 3) := by decide +kernel
theorem dX11_values_106 : decode cX11_values 106 = .ok (.aload_n 0, 1) := by decide +kernel
theorem dX11_values_107 : decode cX11_values 107 = .ok (.getfield 102, 3) := by decide +kernel
theorem dX11_values_110 : decode cX11_values 110 = .ok (.getfield 295, 3) := by decide +kernel
theorem dX11_values_113 : decode cX11_values 113 = .ok (.goto 10, 3) := by decide +kernel
theorem dX11_values_116 : decode cX11_values 116 = .ok (.aload_n 0, 1) := by decide +kernel
theorem dX11_values_117 : decode cX11_values 117 = .ok (.getfield 102, 3) := by decide +kernel
theorem dX11_values_120 : decode cX11_values 120 = .ok (.getfield 298, 3) := by decide +kernel
theorem dX11_values_123 : decode cX11_values 123 = .ok (.ireturn, 1) := by decide +kernel
theorem dX11_forced_0 : decode cX11_forced 0 = .ok (.aload_n 0, 1) := by decide +kernel
theorem dX11_forced_1 : decode cX11_forced 1 = .ok (.getfield 16, 3) := by decide +kernel
theorem dX11_forced_4 : decode cX11_forced 4 = .ok (.iload_n 1, 1) := by decide +kernel
theorem dX11_forced_5 : decode cX11_forced 5 = .ok (.invokevirtual 301, 3) := by decide +kernel
theorem dX11_forced_8 : decode cX11_forced 8 = .ok (.ifCond .eq 14, 3) := by decide +kernel
theorem dX11_forced_11 : decode cX11_forced 11 = .ok (.aload_n 0, 1) := by decide +kernel
theorem dX11_forced_12 : decode cX11_forced 12 = .ok (.getfield 16, 3) := by decide +kernel
theorem dX11_forced_15 : decode cX11_forced 15 = .ok (.iload_n 1, 1) := by decide +kernel
theorem dX11_forced_16 : decode cX11_forced 16 = .ok (.invokevirtual 153, 3) := by decide +kernel
theorem dX11_forced_19 : decode cX11_forced 19 = .ok (.ifCond .eq 5, 3) := by decide +kernel
theorem dX11_forced_22 : decode cX11_forced 22 = .ok (.iconst (-1), 1) := by decide +kernel
theorem dX11_forced_23 : decode cX11_forced 23 = .ok (.ireturn, 1) := by decide +kernel
theorem dX11_forced_24 : decode cX11_forced 24 = .ok (.aload_n 0, 1) := by decide +kernel
theorem dX11_forced_25 : decode cX11_forced 25 = .ok (.getfield 102, 3) := by decide +kernel
theorem dX11_forced_28 : decode cX11_forced 28 = .ok (.iload_n 1, 1) := by decide +kernel
theorem dX11_forced_29 : decode cX11_forced 29 = .ok (.iload_n 2, 1) := by decide +kernel
theorem dX11_forced_30 : decode cX11_forced 30 = .ok (.invokevirtual 304, 3) := by decide +kernel
theorem dX11_forced_33 : decode cX11_forced 33 = .ok (.ireturn, 1) := by decide +kernel
theorem dX11_flip_0 : decode cX11_flip 0 = .ok (.aload_n 0, 1) := by decide +kernel
theorem dX11_flip_1 : decode cX11_flip 1 = .ok (.iload_n 1, 1) := by decide +kernel
theorem dX11_flip_2 : decode cX11_flip 2 = .ok (.invokevirtual 170, 3) := by decide +kernel
theorem dX11_flip_5 : decode cX11_flip 5 = .ok (.ifCond .eq 15, 3) := by decide +kernel
theorem dX11_flip_8 : decode cX11_flip 8 = .ok (.aload_n 0, 1) := by decide +kernel
theorem dX11_flip_9 : decode cX11_flip 9 = .ok (.getfield 68, 3) := by decide +kernel
theorem dX11_flip_12 : decode cX11_flip 12 = .ok (.getfield 182, 3) := by decide +kernel
theorem dX11_flip_15 : decode cX11_flip 15 = .ok (.iload_n 1, 1) := by decide +kernel
theorem dX11_flip_16 : decode cX11_flip 16 = .ok (.baload, 1) := by decide +kernel
theorem dX11_flip_17 : decode cX11_flip 17 = .ok (.ifCond .eq 5, 3) := by decide +kernel
theorem dX11_flip_20 : decode cX11_flip 20 = .ok (.iconst (-1), 1) := by decide +kernel
theorem dX11_flip_21 : decode cX11_flip 21 = .ok (.ireturn, 1) := by decide +kernel
theorem dX11_flip_22 : decode cX11_flip 22 = .ok (.aload_n 0, 1) := by decide +kernel
theorem dX11_flip_23 : decode cX11_flip 23 = .ok (.getfield 102, 3) := by decide +kernel
theorem dX11_flip_26 : decode cX11_flip 26 = .ok (.iload_n 1, 1) := by decide +kernel
theorem dX11_flip_27 : decode cX11_flip 27 = .ok (.invokevirtual 308, 3) := by decide +kernel
theorem dX11_flip_30 : decode cX11_flip 30 = .ok (.ireturn, 1) := by decide +kernel
theorem dX11_take_0 : decode cX11_take 0 = .ok (.aload_n 0, 1) := by decide +kernel
theorem dX11_take_1 : decode cX11_take 1 = .ok (.getfield 16, 3) := by decide +kernel
theorem dX11_take_4 : decode cX11_take 4 = .ok (.iload_n 1, 1) := by decide +kernel
theorem dX11_take_5 : decode cX11_take 5 = .ok (.iload_n 2, 1) := by decide +kernel
theorem dX11_take_6 : decode cX11_take 6 = .ok (.invokevirtual 224, 3) := by decide +kernel
theorem dX11_take_9 : decode cX11_take 9 = .ok (.ifCond .eq 15, 3) := by decide +kernel
theorem dX11_take_12 : decode cX11_take 12 = .ok (.aload_n 0, 1) := by decide +kernel
theorem dX11_take_13 : decode cX11_take 13 = .ok (.getfield 16, 3) := by decide +kernel
theorem dX11_take_16 : decode cX11_take 16 = .ok (.getfield 311, 3) := by decide +kernel
theorem dX11_take_19 : decode cX11_take 19 = .ok (.bipush 20, 2) := by decide +kernel
theorem dX11_take_21 : decode cX11_take 21 = .ok (.if_icmp .lt 5, 3) := by decide +kernel
theorem dX11_take_24 : decode cX11_take 24 = .ok (.iconst (-1), 1) := by decide +kernel
theorem dX11_take_25 : decode cX11_take 25 = .ok (.ireturn, 1) := by decide +kernel
theorem dX11_take_26 : decode cX11_take 26 = .ok (.aload_n 0, 1) := by decide +kernel
theorem dX11_take_27 : decode cX11_take 27 = .ok (.getfield 16, 3) := by decide +kernel
theorem dX11_take_30 : decode cX11_take 30 = .ok (.iload_n 1, 1) := by decide +kernel
theorem dX11_take_31 : decode cX11_take 31 = .ok (.iload_n 2, 1) := by decide +kernel
theorem dX11_take_32 : decode cX11_take 32 = .ok (.invokevirtual 314, 3) := by decide +kernel
theorem dX11_take_35 : decode cX11_take 35 = .ok (.aload_n 0, 1) := by decide +kernel
theorem dX11_take_36 : decode cX11_take 36 = .ok (.invokevirtual 118, 3) := by decide +kernel
theorem dX11_take_39 : decode cX11_take 39 = .ok (.aload_n 0, 1) := by decide +kernel
theorem dX11_take_40 : decode cX11_take 40 = .ok (.getfield 16, 3) := by decide +kernel
theorem dX11_take_43 : decode cX11_take 43 = .ok (.getfield 311, 3) := by decide +kernel
theorem dX11_take_46 : decode cX11_take 46 = .ok (.ireturn, 1) := by decide +kernel
theorem dX11_undo_0 : decode cX11_undo 0 = .ok (.aload_n 0, 1) := by decide +kernel
theorem dX11_undo_1 : decode cX11_undo 1 = .ok (.getfield 16, 3) := by decide +kernel
theorem dX11_undo_4 : decode cX11_undo 4 = .ok (.getfield 311, 3) := by decide +kernel
theorem dX11_undo_7 : decode cX11_undo 7 = .ok (.ifCond .ne 5, 3) := by decide +kernel
theorem dX11_undo_10 : decode cX11_undo 10 = .ok (.iconst (-1), 1) := by decide +kernel
theorem dX11_undo_11 : decode cX11_undo 11 = .ok (.ireturn, 1) := by decide +kernel
theorem dX11_undo_12 : decode cX11_undo 12 = .ok (.aload_n 0, 1) := by decide +kernel
theorem dX11_undo_13 : decode cX11_undo 13 = .ok (.getfield 16, 3) := by decide +kernel
theorem dX11_undo_16 : decode cX11_undo 16 = .ok (.invokevirtual 318, 3) := by decide +kernel
theorem dX11_undo_19 : decode cX11_undo 19 = .ok (.aload_n 0, 1) := by decide +kernel
theorem dX11_undo_20 : decode cX11_undo 20 = .ok (.invokevirtual 118, 3) := by decide +kernel
theorem dX11_undo_23 : decode cX11_undo 23 = .ok (.aload_n 0, 1) := by decide +kernel
theorem dX11_undo_24 : decode cX11_undo 24 = .ok (.getfield 16, 3) := by decide +kernel
theorem dX11_undo_27 : decode cX11_undo 27 = .ok (.getfield 311, 3) := by decide +kernel
theorem dX11_undo_30 : decode cX11_undo 30 = .ok (.ireturn, 1) := by decide +kernel
theorem dX11_count_0 : decode cX11_count 0 = .ok (.iload_n 1, 1) := by decide +kernel
theorem dX11_count_1 : decode cX11_count 1 = .ok (.tableswitch 140 0 9 #[55, 63, 71, 79, 87, 99, 111, 119, 127, 132], 55) := by decide +kernel
theorem dX11_count_56 : decode cX11_count 56 = .ok (.aload_n 0, 1) := by decide +kernel
theorem dX11_count_57 : decode cX11_count 57 = .ok (.getfield 16, 3) := by decide +kernel
theorem dX11_count_60 : decode cX11_count 60 = .ok (.getfield 121, 3) := by decide +kernel
theorem dX11_count_63 : decode cX11_count 63 = .ok (.ireturn, 1) := by decide +kernel
theorem dX11_count_64 : decode cX11_count 64 = .ok (.aload_n 0, 1) := by decide +kernel
theorem dX11_count_65 : decode cX11_count 65 = .ok (.getfield 16, 3) := by decide +kernel
theorem dX11_count_68 : decode cX11_count 68 = .ok (.getfield 215, 3) := by decide +kernel
theorem dX11_count_71 : decode cX11_count 71 = .ok (.ireturn, 1) := by decide +kernel
theorem dX11_count_72 : decode cX11_count 72 = .ok (.aload_n 0, 1) := by decide +kernel
theorem dX11_count_73 : decode cX11_count 73 = .ok (.getfield 23, 3) := by decide +kernel
theorem dX11_count_76 : decode cX11_count 76 = .ok (.getfield 127, 3) := by decide +kernel
theorem dX11_count_79 : decode cX11_count 79 = .ok (.ireturn, 1) := by decide +kernel
theorem dX11_count_80 : decode cX11_count 80 = .ok (.aload_n 0, 1) := by decide +kernel
theorem dX11_count_81 : decode cX11_count 81 = .ok (.getfield 23, 3) := by decide +kernel
theorem dX11_count_84 : decode cX11_count 84 = .ok (.getfield 255, 3) := by decide +kernel
theorem dX11_count_87 : decode cX11_count 87 = .ok (.ireturn, 1) := by decide +kernel
theorem dX11_count_88 : decode cX11_count 88 = .ok (.aload_n 0, 1) := by decide +kernel
theorem dX11_count_89 : decode cX11_count 89 = .ok (.invokevirtual 195, 3) := by decide +kernel
theorem dX11_count_92 : decode cX11_count 92 = .ok (.aload_n 0, 1) := by decide +kernel
theorem dX11_count_93 : decode cX11_count 93 = .ok (.getfield 68, 3) := by decide +kernel
theorem dX11_count_96 : decode cX11_count 96 = .ok (.getfield 206, 3) := by decide +kernel
theorem dX11_count_99 : decode cX11_count 99 = .ok (.ireturn, 1) := by decide +kernel
theorem dX11_count_100 : decode cX11_count 100 = .ok (.aload_n 0, 1) := by decide +kernel
theorem dX11_count_101 : decode cX11_count 101 = .ok (.invokevirtual 195, 3) := by decide +kernel
theorem dX11_count_104 : decode cX11_count 104 = .ok (.aload_n 0, 1) := by decide +kernel
theorem dX11_count_105 : decode cX11_count 105 = .ok (.getfield 68, 3) := by decide +kernel
theorem dX11_count_108 : decode cX11_count 108 = .ok (.getfield 321, 3) := by decide +kernel
theorem dX11_count_111 : decode cX11_count 111 = .ok (.ireturn, 1) := by decide +kernel
theorem dX11_count_112 : decode cX11_count 112 = .ok (.aload_n 0, 1) := by decide +kernel
theorem dX11_count_113 : decode cX11_count 113 = .ok (.getfield 16, 3) := by decide +kernel
theorem dX11_count_116 : decode cX11_count 116 = .ok (.invokevirtual 322, 3) := by decide +kernel
theorem dX11_count_119 : decode cX11_count 119 = .ok (.ireturn, 1) := by decide +kernel
theorem dX11_count_120 : decode cX11_count 120 = .ok (.aload_n 0, 1) := by decide +kernel
theorem dX11_count_121 : decode cX11_count 121 = .ok (.getfield 16, 3) := by decide +kernel
theorem dX11_count_124 : decode cX11_count 124 = .ok (.getfield 311, 3) := by decide +kernel
theorem dX11_count_127 : decode cX11_count 127 = .ok (.ireturn, 1) := by decide +kernel
theorem dX11_count_128 : decode cX11_count 128 = .ok (.aload_n 0, 1) := by decide +kernel
theorem dX11_count_129 : decode cX11_count 129 = .ok (.getfield 106, 3) := by decide +kernel
theorem dX11_count_132 : decode cX11_count 132 = .ok (.ireturn, 1) := by decide +kernel
theorem dX11_count_133 : decode cX11_count 133 = .ok (.aload_n 0, 1) := by decide +kernel
theorem dX11_count_134 : decode cX11_count 134 = .ok (.getfield 16, 3) := by decide +kernel
theorem dX11_count_137 : decode cX11_count 137 = .ok (.invokevirtual 325, 3) := by decide +kernel
theorem dX11_count_140 : decode cX11_count 140 = .ok (.ireturn, 1) := by decide +kernel
theorem dX11_count_141 : decode cX11_count 141 = .ok (.iconst (-1), 1) := by decide +kernel
theorem dX11_count_142 : decode cX11_count 142 = .ok (.ireturn, 1) := by decide +kernel
theorem dX11_append_0 : decode cX11_append 0 = .ok (.bipush 24, 2) := by decide +kernel
theorem dX11_append_2 : decode cX11_append 2 = .ok (.istore_n 2, 1) := by decide +kernel
theorem dX11_append_3 : decode cX11_append 3 = .ok (.iload_n 2, 1) := by decide +kernel
theorem dX11_append_4 : decode cX11_append 4 = .ok (.ifCond .lt 42, 3) := by decide +kernel
theorem dX11_append_7 : decode cX11_append 7 = .ok (.aload_n 0, 1) := by decide +kernel
theorem dX11_append_8 : decode cX11_append 8 = .ok (.getfield 106, 3) := by decide +kernel
theorem dX11_append_11 : decode cX11_append 11 = .ok (.sipush 600, 3) := by decide +kernel
theorem dX11_append_14 : decode cX11_append 14 = .ok (.if_icmp .ge 26, 3) := by decide +kernel
theorem dX11_append_17 : decode cX11_append 17 = .ok (.aload_n 0, 1) := by decide +kernel
theorem dX11_append_18 : decode cX11_append 18 = .ok (.getfield 9, 3) := by decide +kernel
theorem dX11_append_21 : decode cX11_append 21 = .ok (.aload_n 0, 1) := by decide +kernel
theorem dX11_append_22 : decode cX11_append 22 = .ok (.getfield 106, 3) := by decide +kernel
theorem dX11_append_25 : decode cX11_append 25 = .ok (.iload_n 1, 1) := by decide +kernel
theorem dX11_append_26 : decode cX11_append 26 = .ok (.iload_n 2, 1) := by decide +kernel
theorem dX11_append_27 : decode cX11_append 27 = .ok (.ishr, 1) := by decide +kernel
theorem dX11_append_28 : decode cX11_append 28 = .ok (.i2b, 1) := by decide +kernel
theorem dX11_append_29 : decode cX11_append 29 = .ok (.bastore, 1) := by decide +kernel
theorem dX11_append_30 : decode cX11_append 30 = .ok (.aload_n 0, 1) := by decide +kernel
theorem dX11_append_31 : decode cX11_append 31 = .ok (.dup, 1) := by decide +kernel
theorem dX11_append_32 : decode cX11_append 32 = .ok (.getfield 106, 3) := by decide +kernel
theorem dX11_append_35 : decode cX11_append 35 = .ok (.iconst 1, 1) := by decide +kernel
theorem dX11_append_36 : decode cX11_append 36 = .ok (.iadd, 1) := by decide +kernel
theorem dX11_append_37 : decode cX11_append 37 = .ok (.putfield 106, 3) := by decide +kernel
theorem dX11_append_40 : decode cX11_append 40 = .ok (.iinc 2 (-8), 3) := by decide +kernel
theorem dX11_append_43 : decode cX11_append 43 = .ok (.goto (-40), 3) := by decide +kernel
theorem dX11_append_46 : decode cX11_append 46 = .ok (.return_, 1) := by decide +kernel
theorem dX11_hasRun_0 : decode cX11_hasRun 0 = .ok (.aload_n 0, 1) := by decide +kernel
theorem dX11_hasRun_1 : decode cX11_hasRun 1 = .ok (.getfield 16, 3) := by decide +kernel
theorem dX11_hasRun_4 : decode cX11_hasRun 4 = .ok (.getfield 121, 3) := by decide +kernel
theorem dX11_hasRun_7 : decode cX11_hasRun 7 = .ok (.ifCond .eq 14, 3) := by decide +kernel
theorem dX11_hasRun_10 : decode cX11_hasRun 10 = .ok (.aload_n 0, 1) := by decide +kernel
theorem dX11_hasRun_11 : decode cX11_hasRun 11 = .ok (.getfield 23, 3) := by decide +kernel
theorem dX11_hasRun_14 : decode cX11_hasRun 14 = .ok (.iload_n 1, 1) := by decide +kernel
theorem dX11_hasRun_15 : decode cX11_hasRun 15 = .ok (.invokevirtual 161, 3) := by decide +kernel
theorem dX11_hasRun_18 : decode cX11_hasRun 18 = .ok (.ifCond .ne 5, 3) := by decide +kernel
theorem dX11_hasRun_21 : decode cX11_hasRun 21 = .ok (.iconst 0, 1) := by decide +kernel
theorem dX11_hasRun_22 : decode cX11_hasRun 22 = .ok (.ireturn, 1) := by decide +kernel
theorem dX11_hasRun_23 : decode cX11_hasRun 23 = .ok (.aload_n 0, 1) := by decide +kernel
theorem dX11_hasRun_24 : decode cX11_hasRun 24 = .ok (.invokevirtual 195, 3) := by decide +kernel
theorem dX11_hasRun_27 : decode cX11_hasRun 27 = .ok (.iconst 1, 1) := by decide +kernel
theorem dX11_hasRun_28 : decode cX11_hasRun 28 = .ok (.ireturn, 1) := by decide +kernel
theorem dX11_learnRuns_0 : decode cX11_learnRuns 0 = .ok (.aload_n 0, 1) := by decide +kernel
theorem dX11_learnRuns_1 : decode cX11_learnRuns 1 = .ok (.getfield 328, 3) := by decide +kernel
theorem dX11_learnRuns_4 : decode cX11_learnRuns 4 = .ok (.ifCond .ne 22, 3) := by decide +kernel
theorem dX11_learnRuns_7 : decode cX11_learnRuns 7 = .ok (.aload_n 0, 1) := by decide +kernel
theorem dX11_learnRuns_8 : decode cX11_learnRuns 8 = .ok (.iconst 1, 1) := by decide +kernel
theorem dX11_learnRuns_9 : decode cX11_learnRuns 9 = .ok (.putfield 328, 3) := by decide +kernel
theorem dX11_learnRuns_12 : decode cX11_learnRuns 12 = .ok (.aload_n 0, 1) := by decide +kernel
theorem dX11_learnRuns_13 : decode cX11_learnRuns 13 = .ok (.getfield 68, 3) := by decide +kernel
theorem dX11_learnRuns_16 : decode cX11_learnRuns 16 = .ok (.invokevirtual 331, 3) := by decide +kernel
theorem dX11_learnRuns_19 : decode cX11_learnRuns 19 = .ok (.aload_n 0, 1) := by decide +kernel
theorem dX11_learnRuns_20 : decode cX11_learnRuns 20 = .ok (.getfield 77, 3) := by decide +kernel
theorem dX11_learnRuns_23 : decode cX11_learnRuns 23 = .ok (.invokevirtual 334, 3) := by decide +kernel
theorem dX11_learnRuns_26 : decode cX11_learnRuns 26 = .ok (.return_, 1) := by decide +kernel
theorem dX11_learnMends_0 : decode cX11_learnMends 0 = .ok (.aload_n 0, 1) := by decide +kernel
theorem dX11_learnMends_1 : decode cX11_learnMends 1 = .ok (.invokevirtual 195, 3) := by decide +kernel
theorem dX11_learnMends_4 : decode cX11_learnMends 4 = .ok (.aload_n 0, 1) := by decide +kernel
theorem dX11_learnMends_5 : decode cX11_learnMends 5 = .ok (.getfield 86, 3) := by decide +kernel
theorem dX11_learnMends_8 : decode cX11_learnMends 8 = .ok (.invokevirtual 335, 3) := by decide +kernel
theorem dX11_learnMends_11 : decode cX11_learnMends 11 = .ok (.return_, 1) := by decide +kernel
theorem dX11_forgetAnswers_0 : decode cX11_forgetAnswers 0 = .ok (.aload_n 0, 1) := by decide +kernel
theorem dX11_forgetAnswers_1 : decode cX11_forgetAnswers 1 = .ok (.iconst 0, 1) := by decide +kernel
theorem dX11_forgetAnswers_2 : decode cX11_forgetAnswers 2 = .ok (.putfield 328, 3) := by decide +kernel
theorem dX11_forgetAnswers_5 : decode cX11_forgetAnswers 5 = .ok (.aload_n 0, 1) := by decide +kernel
theorem dX11_forgetAnswers_6 : decode cX11_forgetAnswers 6 = .ok (.getfield 86, 3) := by decide +kernel
theorem dX11_forgetAnswers_9 : decode cX11_forgetAnswers 9 = .ok (.iconst 0, 1) := by decide +kernel
theorem dX11_forgetAnswers_10 : decode cX11_forgetAnswers 10 = .ok (.putfield 337, 3) := by decide +kernel
theorem dX11_forgetAnswers_13 : decode cX11_forgetAnswers 13 = .ok (.aload_n 0, 1) := by decide +kernel
theorem dX11_forgetAnswers_14 : decode cX11_forgetAnswers 14 = .ok (.getfield 93, 3) := by decide +kernel
theorem dX11_forgetAnswers_17 : decode cX11_forgetAnswers 17 = .ok (.iconst 0, 1) := by decide +kernel
theorem dX11_forgetAnswers_18 : decode cX11_forgetAnswers 18 = .ok (.putfield 340, 3) := by decide +kernel
theorem dX11_forgetAnswers_21 : decode cX11_forgetAnswers 21 = .ok (.aload_n 0, 1) := by decide +kernel
theorem dX11_forgetAnswers_22 : decode cX11_forgetAnswers 22 = .ok (.getfield 102, 3) := by decide +kernel
theorem dX11_forgetAnswers_25 : decode cX11_forgetAnswers 25 = .ok (.iconst (-1), 1) := by decide +kernel
theorem dX11_forgetAnswers_26 : decode cX11_forgetAnswers 26 = .ok (.putfield 341, 3) := by decide +kernel
theorem dX11_forgetAnswers_29 : decode cX11_forgetAnswers 29 = .ok (.return_, 1) := by decide +kernel
theorem dX11_passingWith_0 : decode cX11_passingWith 0 = .ok (.aload_n 0, 1) := by decide +kernel
theorem dX11_passingWith_1 : decode cX11_passingWith 1 = .ok (.getfield 16, 3) := by decide +kernel
theorem dX11_passingWith_4 : decode cX11_passingWith 4 = .ok (.getfield 344, 3) := by decide +kernel
theorem dX11_passingWith_7 : decode cX11_passingWith 7 = .ok (.iload_n 1, 1) := by decide +kernel
theorem dX11_passingWith_8 : decode cX11_passingWith 8 = .ok (.iaload, 1) := by decide +kernel
theorem dX11_passingWith_9 : decode cX11_passingWith 9 = .ok (.istore 4, 2) := by decide +kernel
theorem dX11_passingWith_11 : decode cX11_passingWith 11 = .ok (.aload_n 0, 1) := by decide +kernel
theorem dX11_passingWith_12 : decode cX11_passingWith 12 = .ok (.getfield 16, 3) := by decide +kernel
theorem dX11_passingWith_15 : decode cX11_passingWith 15 = .ok (.getfield 156, 3) := by decide +kernel
theorem dX11_passingWith_18 : decode cX11_passingWith 18 = .ok (.iload_n 1, 1) := by decide +kernel
theorem dX11_passingWith_19 : decode cX11_passingWith 19 = .ok (.iaload, 1) := by decide +kernel
theorem dX11_passingWith_20 : decode cX11_passingWith 20 = .ok (.istore 5, 2) := by decide +kernel
theorem dX11_passingWith_22 : decode cX11_passingWith 22 = .ok (.aload_n 0, 1) := by decide +kernel
theorem dX11_passingWith_23 : decode cX11_passingWith 23 = .ok (.getfield 16, 3) := by decide +kernel
theorem dX11_passingWith_26 : decode cX11_passingWith 26 = .ok (.iload_n 1, 1) := by decide +kernel
theorem dX11_passingWith_27 : decode cX11_passingWith 27 = .ok (.iload_n 2, 1) := by decide +kernel
theorem dX11_passingWith_28 : decode cX11_passingWith 28 = .ok (.invokevirtual 347, 3) := by decide +kernel
theorem dX11_passingWith_31 : decode cX11_passingWith 31 = .ok (.aload_n 0, 1) := by decide +kernel
theorem dX11_passingWith_32 : decode cX11_passingWith 32 = .ok (.getfield 59, 3) := by decide +kernel
theorem dX11_passingWith_35 : decode cX11_passingWith 35 = .ok (.iload_n 3, 1) := by decide +kernel
theorem dX11_passingWith_36 : decode cX11_passingWith 36 = .ok (.invokevirtual 350, 3) := by decide +kernel
theorem dX11_passingWith_39 : decode cX11_passingWith 39 = .ok (.istore 6, 2) := by decide +kernel
theorem dX11_passingWith_41 : decode cX11_passingWith 41 = .ok (.aload_n 0, 1) := by decide +kernel
theorem dX11_passingWith_42 : decode cX11_passingWith 42 = .ok (.getfield 16, 3) := by decide +kernel
theorem dX11_passingWith_45 : decode cX11_passingWith 45 = .ok (.iload_n 1, 1) := by decide +kernel
theorem dX11_passingWith_46 : decode cX11_passingWith 46 = .ok (.iload 4, 2) := by decide +kernel
theorem dX11_passingWith_48 : decode cX11_passingWith 48 = .ok (.iload 5, 2) := by decide +kernel
theorem dX11_passingWith_50 : decode cX11_passingWith 50 = .ok (.invokevirtual 354, 3) := by decide +kernel
theorem dX11_passingWith_53 : decode cX11_passingWith 53 = .ok (.iload 6, 2) := by decide +kernel
theorem dX11_passingWith_55 : decode cX11_passingWith 55 = .ok (.ireturn, 1) := by decide +kernel
theorem dX12_init_0 : decode cX12_init 0 = .ok (.aload_n 0, 1) := by decide +kernel
theorem dX12_init_1 : decode cX12_init 1 = .ok (.invokespecial 1, 3) := by decide +kernel
theorem dX12_init_4 : decode cX12_init 4 = .ok (.aload_n 0, 1) := by decide +kernel
theorem dX12_init_5 : decode cX12_init 5 = .ok (.sipush 600, 3) := by decide +kernel
theorem dX12_init_8 : decode cX12_init 8 = .ok (.newarray .byte, 2) := by decide +kernel
theorem dX12_init_10 : decode cX12_init 10 = .ok (.putfield 7, 3) := by decide +kernel
theorem dX12_init_13 : decode cX12_init 13 = .ok (.aload_n 0, 1) := by decide +kernel
theorem dX12_init_14 : decode cX12_init 14 = .ok (.iconst 2, 1) := by decide +kernel
theorem dX12_init_15 : decode cX12_init 15 = .ok (.newarray .int, 2) := by decide +kernel
theorem dX12_init_17 : decode cX12_init 17 = .ok (.putfield 13, 3) := by decide +kernel
theorem dX12_init_20 : decode cX12_init 20 = .ok (.aload_n 0, 1) := by decide +kernel
theorem dX12_init_21 : decode cX12_init 21 = .ok (.sipush 800, 3) := by decide +kernel
theorem dX12_init_24 : decode cX12_init 24 = .ok (.newarray .int, 2) := by decide +kernel
theorem dX12_init_26 : decode cX12_init 26 = .ok (.putfield 17, 3) := by decide +kernel
theorem dX12_init_29 : decode cX12_init 29 = .ok (.aload_n 0, 1) := by decide +kernel
theorem dX12_init_30 : decode cX12_init 30 = .ok (.sipush 800, 3) := by decide +kernel
theorem dX12_init_33 : decode cX12_init 33 = .ok (.newarray .int, 2) := by decide +kernel
theorem dX12_init_35 : decode cX12_init 35 = .ok (.putfield 20, 3) := by decide +kernel
theorem dX12_init_38 : decode cX12_init 38 = .ok (.aload_n 0, 1) := by decide +kernel
theorem dX12_init_39 : decode cX12_init 39 = .ok (.sipush 800, 3) := by decide +kernel
theorem dX12_init_42 : decode cX12_init 42 = .ok (.newarray .int, 2) := by decide +kernel
theorem dX12_init_44 : decode cX12_init 44 = .ok (.putfield 23, 3) := by decide +kernel
theorem dX12_init_47 : decode cX12_init 47 = .ok (.aload_n 0, 1) := by decide +kernel
theorem dX12_init_48 : decode cX12_init 48 = .ok (.sipush 800, 3) := by decide +kernel
theorem dX12_init_51 : decode cX12_init 51 = .ok (.newarray .int, 2) := by decide +kernel
theorem dX12_init_53 : decode cX12_init 53 = .ok (.putfield 26, 3) := by decide +kernel
theorem dX12_init_56 : decode cX12_init 56 = .ok (.aload_n 0, 1) := by decide +kernel
theorem dX12_init_57 : decode cX12_init 57 = .ok (.sipush 800, 3) := by decide +kernel
theorem dX12_init_60 : decode cX12_init 60 = .ok (.newarray .int, 2) := by decide +kernel
theorem dX12_init_62 : decode cX12_init 62 = .ok (.putfield 29, 3) := by decide +kernel
theorem dX12_init_65 : decode cX12_init 65 = .ok (.aload_n 0, 1) := by decide +kernel
theorem dX12_init_66 : decode cX12_init 66 = .ok (.sipush 800, 3) := by decide +kernel
theorem dX12_init_69 : decode cX12_init 69 = .ok (.newarray .int, 2) := by decide +kernel
theorem dX12_init_71 : decode cX12_init 71 = .ok (.putfield 32, 3) := by decide +kernel
theorem dX12_init_74 : decode cX12_init 74 = .ok (.aload_n 0, 1) := by decide +kernel
theorem dX12_init_75 : decode cX12_init 75 = .ok (.sipush 800, 3) := by decide +kernel
theorem dX12_init_78 : decode cX12_init 78 = .ok (.newarray .int, 2) := by decide +kernel
theorem dX12_init_80 : decode cX12_init 80 = .ok (.putfield 35, 3) := by decide +kernel
theorem dX12_init_83 : decode cX12_init 83 = .ok (.aload_n 0, 1) := by decide +kernel
theorem dX12_init_84 : decode cX12_init 84 = .ok (.sipush 800, 3) := by decide +kernel
theorem dX12_init_87 : decode cX12_init 87 = .ok (.newarray .int, 2) := by decide +kernel
theorem dX12_init_89 : decode cX12_init 89 = .ok (.putfield 38, 3) := by decide +kernel
theorem dX12_init_92 : decode cX12_init 92 = .ok (.aload_n 0, 1) := by decide +kernel
theorem dX12_init_93 : decode cX12_init 93 = .ok (.bipush 60, 2) := by decide +kernel
theorem dX12_init_95 : decode cX12_init 95 = .ok (.newarray .int, 2) := by decide +kernel
theorem dX12_init_97 : decode cX12_init 97 = .ok (.putfield 41, 3) := by decide +kernel
theorem dX12_init_100 : decode cX12_init 100 = .ok (.aload_n 0, 1) := by decide +kernel
theorem dX12_init_101 : decode cX12_init 101 = .ok (.bipush 80, 2) := by decide +kernel
theorem dX12_init_103 : decode cX12_init 103 = .ok (.newarray .int, 2) := by decide +kernel
theorem dX12_init_105 : decode cX12_init 105 = .ok (.putfield 44, 3) := by decide +kernel
theorem dX12_init_108 : decode cX12_init 108 = .ok (.aload_n 0, 1) := by decide +kernel
theorem dX12_init_109 : decode cX12_init 109 = .ok (.bipush 80, 2) := by decide +kernel
theorem dX12_init_111 : decode cX12_init 111 = .ok (.newarray .int, 2) := by decide +kernel
theorem dX12_init_113 : decode cX12_init 113 = .ok (.putfield 47, 3) := by decide +kernel
theorem dX12_init_116 : decode cX12_init 116 = .ok (.aload_n 0, 1) := by decide +kernel
theorem dX12_init_117 : decode cX12_init 117 = .ok (.bipush 9, 2) := by decide +kernel
theorem dX12_init_119 : decode cX12_init 119 = .ok (.newarray .int, 2) := by decide +kernel
theorem dX12_init_121 : decode cX12_init 121 = .ok (.putfield 50, 3) := by decide +kernel
theorem dX12_init_124 : decode cX12_init 124 = .ok (.aload_n 0, 1) := by decide +kernel
theorem dX12_init_125 : decode cX12_init 125 = .ok (.bipush 60, 2) := by decide +kernel
theorem dX12_init_127 : decode cX12_init 127 = .ok (.newarray .int, 2) := by decide +kernel
theorem dX12_init_129 : decode cX12_init 129 = .ok (.putfield 53, 3) := by decide +kernel
theorem dX12_init_132 : decode cX12_init 132 = .ok (.aload_n 0, 1) := by decide +kernel
theorem dX12_init_133 : decode cX12_init 133 = .ok (.sipush 300, 3) := by decide +kernel
theorem dX12_init_136 : decode cX12_init 136 = .ok (.newarray .int, 2) := by decide +kernel
theorem dX12_init_138 : decode cX12_init 138 = .ok (.putfield 56, 3) := by decide +kernel
theorem dX12_init_141 : decode cX12_init 141 = .ok (.aload_n 0, 1) := by decide +kernel
theorem dX12_init_142 : decode cX12_init 142 = .ok (.iconst (-1), 1) := by decide +kernel
theorem dX12_init_143 : decode cX12_init 143 = .ok (.putfield 59, 3) := by decide +kernel
theorem dX12_init_146 : decode cX12_init 146 = .ok (.aload_n 0, 1) := by decide +kernel
theorem dX12_init_147 : decode cX12_init 147 = .ok (.iconst (-1), 1) := by decide +kernel
theorem dX12_init_148 : decode cX12_init 148 = .ok (.putfield 63, 3) := by decide +kernel
theorem dX12_init_151 : decode cX12_init 151 = .ok (.aload_n 0, 1) := by decide +kernel
theorem dX12_init_152 : decode cX12_init 152 = .ok (.bipush 60, 2) := by decide +kernel
theorem dX12_init_154 : decode cX12_init 154 = .ok (.newarray .int, 2) := by decide +kernel
theorem dX12_init_156 : decode cX12_init 156 = .ok (.putfield 66, 3) := by decide +kernel
theorem dX12_init_159 : decode cX12_init 159 = .ok (.aload_n 0, 1) := by decide +kernel
theorem dX12_init_160 : decode cX12_init 160 = .ok (.bipush 60, 2) := by decide +kernel
theorem dX12_init_162 : decode cX12_init 162 = .ok (.newarray .int, 2) := by decide +kernel
theorem dX12_init_164 : decode cX12_init 164 = .ok (.putfield 69, 3) := by decide +kernel
theorem dX12_init_167 : decode cX12_init 167 = .ok (.aload_n 0, 1) := by decide +kernel
theorem dX12_init_168 : decode cX12_init 168 = .ok (.bipush 20, 2) := by decide +kernel
theorem dX12_init_170 : decode cX12_init 170 = .ok (.newarray .int, 2) := by decide +kernel
theorem dX12_init_172 : decode cX12_init 172 = .ok (.putfield 72, 3) := by decide +kernel
theorem dX12_init_175 : decode cX12_init 175 = .ok (.aload_n 0, 1) := by decide +kernel
theorem dX12_init_176 : decode cX12_init 176 = .ok (.iconst 2, 1) := by decide +kernel
theorem dX12_init_177 : decode cX12_init 177 = .ok (.newarray .int, 2) := by decide +kernel
theorem dX12_init_179 : decode cX12_init 179 = .ok (.putfield 75, 3) := by decide +kernel
theorem dX12_init_182 : decode cX12_init 182 = .ok (.aload_n 0, 1) := by decide +kernel
theorem dX12_init_183 : decode cX12_init 183 = .ok (.iconst 2, 1) := by decide +kernel
theorem dX12_init_184 : decode cX12_init 184 = .ok (.newarray .int, 2) := by decide +kernel
theorem dX12_init_186 : decode cX12_init 186 = .ok (.putfield 78, 3) := by decide +kernel
theorem dX12_init_189 : decode cX12_init 189 = .ok (.aload_n 0, 1) := by decide +kernel
theorem dX12_init_190 : decode cX12_init 190 = .ok (.iconst 2, 1) := by decide +kernel
theorem dX12_init_191 : decode cX12_init 191 = .ok (.newarray .int, 2) := by decide +kernel
theorem dX12_init_193 : decode cX12_init 193 = .ok (.putfield 81, 3) := by decide +kernel
theorem dX12_init_196 : decode cX12_init 196 = .ok (.aload_n 0, 1) := by decide +kernel
theorem dX12_init_197 : decode cX12_init 197 = .ok (.sipush 800, 3) := by decide +kernel
theorem dX12_init_200 : decode cX12_init 200 = .ok (.newarray .int, 2) := by decide +kernel
theorem dX12_init_202 : decode cX12_init 202 = .ok (.putfield 84, 3) := by decide +kernel
theorem dX12_init_205 : decode cX12_init 205 = .ok (.aload_n 0, 1) := by decide +kernel
theorem dX12_init_206 : decode cX12_init 206 = .ok (.sipush 800, 3) := by decide +kernel
theorem dX12_init_209 : decode cX12_init 209 = .ok (.newarray .int, 2) := by decide +kernel
theorem dX12_init_211 : decode cX12_init 211 = .ok (.putfield 87, 3) := by decide +kernel
theorem dX12_init_214 : decode cX12_init 214 = .ok (.aload_n 0, 1) := by decide +kernel
theorem dX12_init_215 : decode cX12_init 215 = .ok (.sipush 800, 3) := by decide +kernel
theorem dX12_init_218 : decode cX12_init 218 = .ok (.newarray .int, 2) := by decide +kernel
theorem dX12_init_220 : decode cX12_init 220 = .ok (.putfield 90, 3) := by decide +kernel
theorem dX12_init_223 : decode cX12_init 223 = .ok (.aload_n 0, 1) := by decide +kernel
theorem dX12_init_224 : decode cX12_init 224 = .ok (.sipush 800, 3) := by decide +kernel
theorem dX12_init_227 : decode cX12_init 227 = .ok (.newarray .int, 2) := by decide +kernel
theorem dX12_init_229 : decode cX12_init 229 = .ok (.putfield 93, 3) := by decide +kernel
theorem dX12_init_232 : decode cX12_init 232 = .ok (.aload_n 0, 1) := by decide +kernel
theorem dX12_init_233 : decode cX12_init 233 = .ok (.sipush 12800, 3) := by decide +kernel
theorem dX12_init_236 : decode cX12_init 236 = .ok (.newarray .int, 2) := by decide +kernel
theorem dX12_init_238 : decode cX12_init 238 = .ok (.putfield 96, 3) := by decide +kernel
theorem dX12_init_241 : decode cX12_init 241 = .ok (.aload_n 0, 1) := by decide +kernel
theorem dX12_init_242 : decode cX12_init 242 = .ok (.sipush 12800, 3) := by decide +kernel
theorem dX12_init_245 : decode cX12_init 245 = .ok (.newarray .int, 2) := by decide +kernel
theorem dX12_init_247 : decode cX12_init 247 = .ok (.putfield 99, 3) := by decide +kernel
theorem dX12_init_250 : decode cX12_init 250 = .ok (.aload_n 0, 1) := by decide +kernel
theorem dX12_init_251 : decode cX12_init 251 = .ok (.bipush 60, 2) := by decide +kernel
theorem dX12_init_253 : decode cX12_init 253 = .ok (.newarray .boolean, 2) := by decide +kernel
theorem dX12_init_255 : decode cX12_init 255 = .ok (.putfield 102, 3) := by decide +kernel
theorem dX12_init_258 : decode cX12_init 258 = .ok (.aload_n 0, 1) := by decide +kernel
theorem dX12_init_259 : decode cX12_init 259 = .ok (.iconst 5, 1) := by decide +kernel
theorem dX12_init_260 : decode cX12_init 260 = .ok (.newarray .int, 2) := by decide +kernel
theorem dX12_init_262 : decode cX12_init 262 = .ok (.putfield 106, 3) := by decide +kernel
theorem dX12_init_265 : decode cX12_init 265 = .ok (.aload_n 0, 1) := by decide +kernel
theorem dX12_init_266 : decode cX12_init 266 = .ok (.bipush 60, 2) := by decide +kernel
theorem dX12_init_268 : decode cX12_init 268 = .ok (.newarray .int, 2) := by decide +kernel
theorem dX12_init_270 : decode cX12_init 270 = .ok (.putfield 109, 3) := by decide +kernel
theorem dX12_init_273 : decode cX12_init 273 = .ok (.aload_n 0, 1) := by decide +kernel
theorem dX12_init_274 : decode cX12_init 274 = .ok (.bipush 20, 2) := by decide +kernel
theorem dX12_init_276 : decode cX12_init 276 = .ok (.newarray .int, 2) := by decide +kernel
theorem dX12_init_278 : decode cX12_init 278 = .ok (.putfield 112, 3) := by decide +kernel
theorem dX12_init_281 : decode cX12_init 281 = .ok (.aload_n 0, 1) := by decide +kernel
theorem dX12_init_282 : decode cX12_init 282 = .ok (.bipush 20, 2) := by decide +kernel
theorem dX12_init_284 : decode cX12_init 284 = .ok (.newarray .int, 2) := by decide +kernel
theorem dX12_init_286 : decode cX12_init 286 = .ok (.putfield 115, 3) := by decide +kernel
theorem dX12_init_289 : decode cX12_init 289 = .ok (.aload_n 0, 1) := by decide +kernel
theorem dX12_init_290 : decode cX12_init 290 = .ok (.bipush 20, 2) := by decide +kernel
theorem dX12_init_292 : decode cX12_init 292 = .ok (.newarray .int, 2) := by decide +kernel
theorem dX12_init_294 : decode cX12_init 294 = .ok (.putfield 118, 3) := by decide +kernel
theorem dX12_init_297 : decode cX12_init 297 = .ok (.return_, 1) := by decide +kernel
theorem dX12_thrown_0 : decode cX12_thrown 0 = .ok (.aload_n 0, 1) := by decide +kernel
theorem dX12_thrown_1 : decode cX12_thrown 1 = .ok (.getfield 121, 3) := by decide +kernel
theorem dX12_thrown_4 : decode cX12_thrown 4 = .ok (.ireturn, 1) := by decide +kernel
theorem dX12_within_0 : decode cX12_within 0 = .ok (.iload_n 0, 1) := by decide +kernel
theorem dX12_within_1 : decode cX12_within 1 = .ok (.iload_n 1, 1) := by decide +kernel
theorem dX12_within_2 : decode cX12_within 2 = .ok (.if_icmp .lt 12, 3) := by decide +kernel
theorem dX12_within_5 : decode cX12_within 5 = .ok (.iload_n 0, 1) := by decide +kernel
theorem dX12_within_6 : decode cX12_within 6 = .ok (.iload_n 2, 1) := by decide +kernel
theorem dX12_within_7 : decode cX12_within 7 = .ok (.if_icmp .gt 7, 3) := by decide +kernel
theorem dX12_within_10 : decode cX12_within 10 = .ok (.iconst 1, 1) := by decide +kernel
theorem dX12_within_11 : decode cX12_within 11 = .ok (.goto 4, 3) := by decide +kernel
theorem dX12_within_14 : decode cX12_within 14 = .ok (.iconst 0, 1) := by decide +kernel
theorem dX12_within_15 : decode cX12_within 15 = .ok (.ireturn, 1) := by decide +kernel
theorem dX12_feed_0 : decode cX12_feed 0 = .ok (.aload_n 0, 1) := by decide +kernel
theorem dX12_feed_1 : decode cX12_feed 1 = .ok (.iconst 0, 1) := by decide +kernel
theorem dX12_feed_2 : decode cX12_feed 2 = .ok (.putfield 121, 3) := by decide +kernel
theorem dX12_feed_5 : decode cX12_feed 5 = .ok (.aload_n 0, 1) := by decide +kernel
theorem dX12_feed_6 : decode cX12_feed 6 = .ok (.getfield 124, 3) := by decide +kernel
theorem dX12_feed_9 : decode cX12_feed 9 = .ok (.bipush 20, 2) := by decide +kernel
theorem dX12_feed_11 : decode cX12_feed 11 = .ok (.iadd, 1) := by decide +kernel
theorem dX12_feed_12 : decode cX12_feed 12 = .ok (.sipush 600, 3) := by decide +kernel
theorem dX12_feed_15 : decode cX12_feed 15 = .ok (.if_icmp .le 5, 3) := by decide +kernel
theorem dX12_feed_18 : decode cX12_feed 18 = .ok (.iconst (-1), 1) := by decide +kernel
theorem dX12_feed_19 : decode cX12_feed 19 = .ok (.ireturn, 1) := by decide +kernel
theorem dX12_feed_20 : decode cX12_feed 20 = .ok (.aload_n 0, 1) := by decide +kernel
theorem dX12_feed_21 : decode cX12_feed 21 = .ok (.iload_n 1, 1) := by decide +kernel
theorem dX12_feed_22 : decode cX12_feed 22 = .ok (.invokevirtual 127, 3) := by decide +kernel
theorem dX12_feed_25 : decode cX12_feed 25 = .ok (.aload_n 0, 1) := by decide +kernel
theorem dX12_feed_26 : decode cX12_feed 26 = .ok (.iload_n 2, 1) := by decide +kernel
theorem dX12_feed_27 : decode cX12_feed 27 = .ok (.invokevirtual 127, 3) := by decide +kernel
theorem dX12_feed_30 : decode cX12_feed 30 = .ok (.aload_n 0, 1) := by decide +kernel
theorem dX12_feed_31 : decode cX12_feed 31 = .ok (.iload_n 3, 1) := by decide +kernel
theorem dX12_feed_32 : decode cX12_feed 32 = .ok (.invokevirtual 127, 3) := by decide +kernel
theorem dX12_feed_35 : decode cX12_feed 35 = .ok (.aload_n 0, 1) := by decide +kernel
theorem dX12_feed_36 : decode cX12_feed 36 = .ok (.iload 4, 2) := by decide +kernel
theorem dX12_feed_38 : decode cX12_feed 38 = .ok (.invokevirtual 127, 3) := by decide +kernel
theorem dX12_feed_41 : decode cX12_feed 41 = .ok (.aload_n 0, 1) := by decide +kernel
theorem dX12_feed_42 : decode cX12_feed 42 = .ok (.iload 5, 2) := by decide +kernel
theorem dX12_feed_44 : decode cX12_feed 44 = .ok (.invokevirtual 127, 3) := by decide +kernel
theorem dX12_feed_47 : decode cX12_feed 47 = .ok (.aload_n 0, 1) := by decide +kernel
theorem dX12_feed_48 : decode cX12_feed 48 = .ok (.getfield 124, 3) := by decide +kernel
theorem dX12_feed_51 : decode cX12_feed 51 = .ok (.ireturn, 1) := by decide +kernel
theorem dX12_puts_0 : decode cX12_puts 0 = .ok (.bipush 24, 2) := by decide +kernel
theorem dX12_puts_2 : decode cX12_puts 2 = .ok (.istore_n 2, 1) := by decide +kernel
theorem dX12_puts_3 : decode cX12_puts 3 = .ok (.iload_n 2, 1) := by decide +kernel
theorem dX12_puts_4 : decode cX12_puts 4 = .ok (.ifCond .lt 32, 3) := by decide +kernel
theorem dX12_puts_7 : decode cX12_puts 7 = .ok (.aload_n 0, 1) := by decide +kernel
theorem dX12_puts_8 : decode cX12_puts 8 = .ok (.getfield 7, 3) := by decide +kernel
theorem dX12_puts_11 : decode cX12_puts 11 = .ok (.aload_n 0, 1) := by decide +kernel
theorem dX12_puts_12 : decode cX12_puts 12 = .ok (.getfield 124, 3) := by decide +kernel
theorem dX12_puts_15 : decode cX12_puts 15 = .ok (.iload_n 1, 1) := by decide +kernel
theorem dX12_puts_16 : decode cX12_puts 16 = .ok (.iload_n 2, 1) := by decide +kernel
theorem dX12_puts_17 : decode cX12_puts 17 = .ok (.ishr, 1) := by decide +kernel
theorem dX12_puts_18 : decode cX12_puts 18 = .ok (.i2b, 1) := by decide +kernel
theorem dX12_puts_19 : decode cX12_puts 19 = .ok (.bastore, 1) := by decide +kernel
theorem dX12_puts_20 : decode cX12_puts 20 = .ok (.aload_n 0, 1) := by decide +kernel
theorem dX12_puts_21 : decode cX12_puts 21 = .ok (.dup, 1) := by decide +kernel
theorem dX12_puts_22 : decode cX12_puts 22 = .ok (.getfield 124, 3) := by decide +kernel
theorem dX12_puts_25 : decode cX12_puts 25 = .ok (.iconst 1, 1) := by decide +kernel
theorem dX12_puts_26 : decode cX12_puts 26 = .ok (.iadd, 1) := by decide +kernel
theorem dX12_puts_27 : decode cX12_puts 27 = .ok (.putfield 124, 3) := by decide +kernel
theorem dX12_puts_30 : decode cX12_puts 30 = .ok (.iinc 2 (-8), 3) := by decide +kernel
theorem dX12_puts_33 : decode cX12_puts 33 = .ok (.goto (-30), 3) := by decide +kernel
theorem dX12_puts_36 : decode cX12_puts 36 = .ok (.return_, 1) := by decide +kernel
theorem dX12_byteAt_0 : decode cX12_byteAt 0 = .ok (.iload_n 1, 1) := by decide +kernel
theorem dX12_byteAt_1 : decode cX12_byteAt 1 = .ok (.aload_n 0, 1) := by decide +kernel
theorem dX12_byteAt_2 : decode cX12_byteAt 2 = .ok (.getfield 131, 3) := by decide +kernel
theorem dX12_byteAt_5 : decode cX12_byteAt 5 = .ok (.if_icmp .ge 16, 3) := by decide +kernel
theorem dX12_byteAt_8 : decode cX12_byteAt 8 = .ok (.aload_n 0, 1) := by decide +kernel
theorem dX12_byteAt_9 : decode cX12_byteAt 9 = .ok (.getfield 7, 3) := by decide +kernel
theorem dX12_byteAt_12 : decode cX12_byteAt 12 = .ok (.iload_n 1, 1) := by decide +kernel
theorem dX12_byteAt_13 : decode cX12_byteAt 13 = .ok (.baload, 1) := by decide +kernel
theorem dX12_byteAt_14 : decode cX12_byteAt 14 = .ok (.sipush 255, 3) := by decide +kernel
theorem dX12_byteAt_17 : decode cX12_byteAt 17 = .ok (.iand, 1) := by decide +kernel
theorem dX12_byteAt_18 : decode cX12_byteAt 18 = .ok (.goto 4, 3) := by decide +kernel
theorem dX12_byteAt_21 : decode cX12_byteAt 21 = .ok (.iconst (-1), 1) := by decide +kernel
theorem dX12_byteAt_22 : decode cX12_byteAt 22 = .ok (.ireturn, 1) := by decide +kernel
theorem dX12_isSign_0 : decode cX12_isSign 0 = .ok (.iload_n 0, 1) := by decide +kernel
theorem dX12_isSign_1 : decode cX12_isSign 1 = .ok (.bipush 60, 2) := by decide +kernel
theorem dX12_isSign_3 : decode cX12_isSign 3 = .ok (.if_icmp .eq 75, 3) := by decide +kernel
theorem dX12_isSign_6 : decode cX12_isSign 6 = .ok (.iload_n 0, 1) := by decide +kernel
theorem dX12_isSign_7 : decode cX12_isSign 7 = .ok (.bipush 62, 2) := by decide +kernel
theorem dX12_isSign_9 : decode cX12_isSign 9 = .ok (.if_icmp .eq 69, 3) := by decide +kernel
theorem dX12_isSign_12 : decode cX12_isSign 12 = .ok (.iload_n 0, 1) := by decide +kernel
theorem dX12_isSign_13 : decode cX12_isSign 13 = .ok (.bipush 61, 2) := by decide +kernel
theorem dX12_isSign_15 : decode cX12_isSign 15 = .ok (.if_icmp .eq 63, 3) := by decide +kernel
theorem dX12_isSign_18 : decode cX12_isSign 18 = .ok (.iload_n 0, 1) := by decide +kernel
theorem dX12_isSign_19 : decode cX12_isSign 19 = .ok (.bipush 43, 2) := by decide +kernel
theorem dX12_isSign_21 : decode cX12_isSign 21 = .ok (.if_icmp .eq 57, 3) := by decide +kernel
theorem dX12_isSign_24 : decode cX12_isSign 24 = .ok (.iload_n 0, 1) := by decide +kernel
theorem dX12_isSign_25 : decode cX12_isSign 25 = .ok (.bipush 45, 2) := by decide +kernel
theorem dX12_isSign_27 : decode cX12_isSign 27 = .ok (.if_icmp .eq 51, 3) := by decide +kernel
theorem dX12_isSign_30 : decode cX12_isSign 30 = .ok (.iload_n 0, 1) := by decide +kernel
theorem dX12_isSign_31 : decode cX12_isSign 31 = .ok (.bipush 42, 2) := by decide +kernel
theorem dX12_isSign_33 : decode cX12_isSign 33 = .ok (.if_icmp .eq 45, 3) := by decide +kernel
theorem dX12_isSign_36 : decode cX12_isSign 36 = .ok (.iload_n 0, 1) := by decide +kernel
theorem dX12_isSign_37 : decode cX12_isSign 37 = .ok (.bipush 47, 2) := by decide +kernel
theorem dX12_isSign_39 : decode cX12_isSign 39 = .ok (.if_icmp .eq 39, 3) := by decide +kernel
theorem dX12_isSign_42 : decode cX12_isSign 42 = .ok (.iload_n 0, 1) := by decide +kernel
theorem dX12_isSign_43 : decode cX12_isSign 43 = .ok (.bipush 37, 2) := by decide +kernel
theorem dX12_isSign_45 : decode cX12_isSign 45 = .ok (.if_icmp .eq 33, 3) := by decide +kernel
theorem dX12_isSign_48 : decode cX12_isSign 48 = .ok (.iload_n 0, 1) := by decide +kernel
theorem dX12_isSign_49 : decode cX12_isSign 49 = .ok (.bipush 40, 2) := by decide +kernel
theorem dX12_isSign_51 : decode cX12_isSign 51 = .ok (.if_icmp .eq 27, 3) := by decide +kernel
theorem dX12_isSign_54 : decode cX12_isSign 54 = .ok (.iload_n 0, 1) := by decide +kernel
theorem dX12_isSign_55 : decode cX12_isSign 55 = .ok (.bipush 41, 2) := by decide +kernel
theorem dX12_isSign_57 : decode cX12_isSign 57 = .ok (.if_icmp .eq 21, 3) := by decide +kernel
theorem dX12_isSign_60 : decode cX12_isSign 60 = .ok (.iload_n 0, 1) := by decide +kernel
theorem dX12_isSign_61 : decode cX12_isSign 61 = .ok (.bipush 123, 2) := by decide +kernel
theorem dX12_isSign_63 : decode cX12_isSign 63 = .ok (.if_icmp .eq 15, 3) := by decide +kernel
theorem dX12_isSign_66 : decode cX12_isSign 66 = .ok (.iload_n 0, 1) := by decide +kernel
theorem dX12_isSign_67 : decode cX12_isSign 67 = .ok (.bipush 125, 2) := by decide +kernel
theorem dX12_isSign_69 : decode cX12_isSign 69 = .ok (.if_icmp .eq 9, 3) := by decide +kernel
theorem dX12_isSign_72 : decode cX12_isSign 72 = .ok (.iload_n 0, 1) := by decide +kernel
theorem dX12_isSign_73 : decode cX12_isSign 73 = .ok (.bipush 59, 2) := by decide +kernel
theorem dX12_isSign_75 : decode cX12_isSign 75 = .ok (.if_icmp .ne 7, 3) := by decide +kernel
theorem dX12_isSign_78 : decode cX12_isSign 78 = .ok (.iconst 1, 1) := by decide +kernel
theorem dX12_isSign_79 : decode cX12_isSign 79 = .ok (.goto 4, 3) := by decide +kernel
theorem dX12_isSign_82 : decode cX12_isSign 82 = .ok (.iconst 0, 1) := by decide +kernel
theorem dX12_isSign_83 : decode cX12_isSign 83 = .ok (.ireturn, 1) := by decide +kernel
theorem dX12_go_0 : decode cX12_go 0 = .ok (.aload_n 0, 1) := by decide +kernel
theorem dX12_go_1 : decode cX12_go 1 = .ok (.aload_n 0, 1) := by decide +kernel
theorem dX12_go_2 : decode cX12_go 2 = .ok (.getfield 134, 3) := by decide +kernel
theorem dX12_go_5 : decode cX12_go 5 = .ok (.invokevirtual 137, 3) := by decide +kernel
theorem dX12_go_8 : decode cX12_go 8 = .ok (.bipush 32, 2) := by decide +kernel
theorem dX12_go_10 : decode cX12_go 10 = .ok (.if_icmp .eq 16, 3) := by decide +kernel
theorem dX12_go_13 : decode cX12_go 13 = .ok (.aload_n 0, 1) := by decide +kernel
theorem dX12_go_14 : decode cX12_go 14 = .ok (.aload_n 0, 1) := by decide +kernel
theorem dX12_go_15 : decode cX12_go 15 = .ok (.getfield 134, 3) := by decide +kernel
theorem dX12_go_18 : decode cX12_go 18 = .ok (.invokevirtual 137, 3) := by decide +kernel
theorem dX12_go_21 : decode cX12_go 21 = .ok (.bipush 10, 2) := by decide +kernel
theorem dX12_go_23 : decode cX12_go 23 = .ok (.if_icmp .ne 16, 3) := by decide +kernel
theorem dX12_go_26 : decode cX12_go 26 = .ok (.aload_n 0, 1) := by decide +kernel
theorem dX12_go_27 : decode cX12_go 27 = .ok (.dup, 1) := by decide +kernel
theorem dX12_go_28 : decode cX12_go 28 = .ok (.getfield 134, 3) := by decide +kernel
theorem dX12_go_31 : decode cX12_go 31 = .ok (.iconst 1, 1) := by decide +kernel
theorem dX12_go_32 : decode cX12_go 32 = .ok (.iadd, 1) := by decide +kernel
theorem dX12_go_33 : decode cX12_go 33 = .ok (.putfield 134, 3) := by decide +kernel
theorem dX12_go_36 : decode cX12_go 36 = .ok (.goto (-36), 3) := by decide +kernel
theorem dX12_go_39 : decode cX12_go 39 = .ok (.aload_n 0, 1) := by decide +kernel
theorem dX12_go_40 : decode cX12_go 40 = .ok (.aload_n 0, 1) := by decide +kernel
theorem dX12_go_41 : decode cX12_go 41 = .ok (.getfield 134, 3) := by decide +kernel
theorem dX12_go_44 : decode cX12_go 44 = .ok (.putfield 141, 3) := by decide +kernel
theorem dX12_go_47 : decode cX12_go 47 = .ok (.aload_n 0, 1) := by decide +kernel
theorem dX12_go_48 : decode cX12_go 48 = .ok (.aload_n 0, 1) := by decide +kernel
theorem dX12_go_49 : decode cX12_go 49 = .ok (.getfield 134, 3) := by decide +kernel
theorem dX12_go_52 : decode cX12_go 52 = .ok (.invokevirtual 137, 3) := by decide +kernel
theorem dX12_go_55 : decode cX12_go 55 = .ok (.istore_n 1, 1) := by decide +kernel
theorem dX12_go_56 : decode cX12_go 56 = .ok (.iload_n 1, 1) := by decide +kernel
theorem dX12_go_57 : decode cX12_go 57 = .ok (.ifCond .ge 11, 3) := by decide +kernel
theorem dX12_go_60 : decode cX12_go 60 = .ok (.aload_n 0, 1) := by decide +kernel
theorem dX12_go_61 : decode cX12_go 61 = .ok (.iconst 0, 1) := by decide +kernel
theorem dX12_go_62 : decode cX12_go 62 = .ok (.putfield 144, 3) := by decide +kernel
theorem dX12_go_65 : decode cX12_go 65 = .ok (.goto 299, 3) := by decide +kernel
theorem dX12_go_68 : decode cX12_go 68 = .ok (.iload_n 1, 1) := by decide +kernel
theorem dX12_go_69 : decode cX12_go 69 = .ok (.bipush 97, 2) := by decide +kernel
theorem dX12_go_71 : decode cX12_go 71 = .ok (.bipush 122, 2) := by decide +kernel
theorem dX12_go_73 : decode cX12_go 73 = .ok (.invokestatic 147, 3) := by decide +kernel
theorem dX12_go_76 : decode cX12_go 76 = .ok (.ifCond .eq 42, 3) := by decide +kernel
theorem dX12_go_79 : decode cX12_go 79 = .ok (.aload_n 0, 1) := by decide +kernel
theorem dX12_go_80 : decode cX12_go 80 = .ok (.aload_n 0, 1) := by decide +kernel
theorem dX12_go_81 : decode cX12_go 81 = .ok (.getfield 134, 3) := by decide +kernel
theorem dX12_go_84 : decode cX12_go 84 = .ok (.invokevirtual 137, 3) := by decide +kernel
theorem dX12_go_87 : decode cX12_go 87 = .ok (.bipush 97, 2) := by decide +kernel
theorem dX12_go_89 : decode cX12_go 89 = .ok (.bipush 122, 2) := by decide +kernel
theorem dX12_go_91 : decode cX12_go 91 = .ok (.invokestatic 147, 3) := by decide +kernel
theorem dX12_go_94 : decode cX12_go 94 = .ok (.ifCond .eq 16, 3) := by decide +kernel
theorem dX12_go_97 : decode cX12_go 97 = .ok (.aload_n 0, 1) := by decide +kernel
theorem dX12_go_98 : decode cX12_go 98 = .ok (.dup, 1) := by decide +kernel
theorem dX12_go_99 : decode cX12_go 99 = .ok (.getfield 134, 3) := by decide +kernel
theorem dX12_go_102 : decode cX12_go 102 = .ok (.iconst 1, 1) := by decide +kernel
theorem dX12_go_103 : decode cX12_go 103 = .ok (.iadd, 1) := by decide +kernel
theorem dX12_go_104 : decode cX12_go 104 = .ok (.putfield 134, 3) := by decide +kernel
theorem dX12_go_107 : decode cX12_go 107 = .ok (.goto (-28), 3) := by decide +kernel
theorem dX12_go_110 : decode cX12_go 110 = .ok (.aload_n 0, 1) := by decide +kernel
theorem dX12_go_111 : decode cX12_go 111 = .ok (.iconst 1, 1) := by decide +kernel
theorem dX12_go_112 : decode cX12_go 112 = .ok (.putfield 144, 3) := by decide +kernel
theorem dX12_go_115 : decode cX12_go 115 = .ok (.goto 249, 3) := by decide +kernel
theorem dX12_go_118 : decode cX12_go 118 = .ok (.iload_n 1, 1) := by decide +kernel
theorem dX12_go_119 : decode cX12_go 119 = .ok (.bipush 48, 2) := by decide +kernel
theorem dX12_go_121 : decode cX12_go 121 = .ok (.bipush 57, 2) := by decide +kernel
theorem dX12_go_123 : decode cX12_go 123 = .ok (.invokestatic 147, 3) := by decide +kernel
theorem dX12_go_126 : decode cX12_go 126 = .ok (.ifCond .eq 107, 3) := by decide +kernel
theorem dX12_go_129 : decode cX12_go 129 = .ok (.aload_n 0, 1) := by decide +kernel
theorem dX12_go_130 : decode cX12_go 130 = .ok (.iconst 0, 1) := by decide +kernel
theorem dX12_go_131 : decode cX12_go 131 = .ok (.putfield 151, 3) := by decide +kernel
theorem dX12_go_134 : decode cX12_go 134 = .ok (.aload_n 0, 1) := by decide +kernel
theorem dX12_go_135 : decode cX12_go 135 = .ok (.aload_n 0, 1) := by decide +kernel
theorem dX12_go_136 : decode cX12_go 136 = .ok (.getfield 134, 3) := by decide +kernel
theorem dX12_go_139 : decode cX12_go 139 = .ok (.invokevirtual 137, 3) := by decide +kernel
theorem dX12_go_142 : decode cX12_go 142 = .ok (.bipush 48, 2) := by decide +kernel
theorem dX12_go_144 : decode cX12_go 144 = .ok (.bipush 57, 2) := by decide +kernel
theorem dX12_go_146 : decode cX12_go 146 = .ok (.invokestatic 147, 3) := by decide +kernel
theorem dX12_go_149 : decode cX12_go 149 = .ok (.ifCond .eq 59, 3) := by decide +kernel
theorem dX12_go_152 : decode cX12_go 152 = .ok (.aload_n 0, 1) := by decide +kernel
theorem dX12_go_153 : decode cX12_go 153 = .ok (.aload_n 0, 1) := by decide +kernel
theorem dX12_go_154 : decode cX12_go 154 = .ok (.getfield 134, 3) := by decide +kernel
theorem dX12_go_157 : decode cX12_go 157 = .ok (.aload_n 0, 1) := by decide +kernel
theorem dX12_go_158 : decode cX12_go 158 = .ok (.getfield 141, 3) := by decide +kernel
theorem dX12_go_161 : decode cX12_go 161 = .ok (.isub, 1) := by decide +kernel
theorem dX12_go_162 : decode cX12_go 162 = .ok (.iconst 3, 1) := by decide +kernel
theorem dX12_go_163 : decode cX12_go 163 = .ok (.if_icmp .ge 25, 3) := by decide +kernel
theorem dX12_go_166 : decode cX12_go 166 = .ok (.bipush 10, 2) := by decide +kernel
theorem dX12_go_168 : decode cX12_go 168 = .ok (.aload_n 0, 1) := by decide +kernel
theorem dX12_go_169 : decode cX12_go 169 = .ok (.getfield 151, 3) := by decide +kernel
theorem dX12_go_172 : decode cX12_go 172 = .ok (.imul, 1) := by decide +kernel
theorem dX12_go_173 : decode cX12_go 173 = .ok (.aload_n 0, 1) := by decide +kernel
theorem dX12_go_174 : decode cX12_go 174 = .ok (.aload_n 0, 1) := by decide +kernel
theorem dX12_go_175 : decode cX12_go 175 = .ok (.getfield 134, 3) := by decide +kernel
theorem dX12_go_178 : decode cX12_go 178 = .ok (.invokevirtual 137, 3) := by decide +kernel
theorem dX12_go_181 : decode cX12_go 181 = .ok (.iadd, 1) := by decide +kernel
theorem dX12_go_182 : decode cX12_go 182 = .ok (.bipush 48, 2) := by decide +kernel
theorem dX12_go_184 : decode cX12_go 184 = .ok (.isub, 1) := by decide +kernel
theorem dX12_go_185 : decode cX12_go 185 = .ok (.goto 7, 3) := by decide +kernel
theorem dX12_go_188 : decode cX12_go 188 = .ok (.aload_n 0, 1) := by decide +kernel
theorem dX12_go_189 : decode cX12_go 189 = .ok (.getfield 151, 3) := by decide +kernel
theorem dX12_go_192 : decode cX12_go 192 = .ok (.putfield 151, 3) := by decide +kernel
theorem dX12_go_195 : decode cX12_go 195 = .ok (.aload_n 0, 1) := by decide +kernel
theorem dX12_go_196 : decode cX12_go 196 = .ok (.dup, 1) := by decide +kernel
theorem dX12_go_197 : decode cX12_go 197 = .ok (.getfield 134, 3) := by decide +kernel
theorem dX12_go_200 : decode cX12_go 200 = .ok (.iconst 1, 1) := by decide +kernel
theorem dX12_go_201 : decode cX12_go 201 = .ok (.iadd, 1) := by decide +kernel
theorem dX12_go_202 : decode cX12_go 202 = .ok (.putfield 134, 3) := by decide +kernel
theorem dX12_go_205 : decode cX12_go 205 = .ok (.goto (-71), 3) := by decide +kernel
theorem dX12_go_208 : decode cX12_go 208 = .ok (.aload_n 0, 1) := by decide +kernel
theorem dX12_go_209 : decode cX12_go 209 = .ok (.aload_n 0, 1) := by decide +kernel
theorem dX12_go_210 : decode cX12_go 210 = .ok (.getfield 134, 3) := by decide +kernel
theorem dX12_go_213 : decode cX12_go 213 = .ok (.aload_n 0, 1) := by decide +kernel
theorem dX12_go_214 : decode cX12_go 214 = .ok (.getfield 141, 3) := by decide +kernel
theorem dX12_go_217 : decode cX12_go 217 = .ok (.isub, 1) := by decide +kernel
theorem dX12_go_218 : decode cX12_go 218 = .ok (.iconst 4, 1) := by decide +kernel
theorem dX12_go_219 : decode cX12_go 219 = .ok (.if_icmp .ge 7, 3) := by decide +kernel
theorem dX12_go_222 : decode cX12_go 222 = .ok (.iconst 2, 1) := by decide +kernel
theorem dX12_go_223 : decode cX12_go 223 = .ok (.goto 4, 3) := by decide +kernel
theorem dX12_go_226 : decode cX12_go 226 = .ok (.iconst 4, 1) := by decide +kernel
theorem dX12_go_227 : decode cX12_go 227 = .ok (.putfield 144, 3) := by decide +kernel
theorem dX12_go_230 : decode cX12_go 230 = .ok (.goto 134, 3) := by decide +kernel
theorem dX12_go_233 : decode cX12_go 233 = .ok (.aload_n 0, 1) := by decide +kernel
theorem dX12_go_234 : decode cX12_go 234 = .ok (.aload_n 0, 1) := by decide +kernel
theorem dX12_go_235 : decode cX12_go 235 = .ok (.getfield 134, 3) := by decide +kernel
theorem dX12_go_238 : decode cX12_go 238 = .ok (.iconst 1, 1) := by decide +kernel
theorem dX12_go_239 : decode cX12_go 239 = .ok (.iadd, 1) := by decide +kernel
theorem dX12_go_240 : decode cX12_go 240 = .ok (.invokevirtual 137, 3) := by decide +kernel
theorem dX12_go_243 : decode cX12_go 243 = .ok (.bipush 61, 2) := by decide +kernel
theorem dX12_go_245 : decode cX12_go 245 = .ok (.if_icmp .ne 88, 3) := by decide +kernel
theorem dX12_go_248 : decode cX12_go 248 = .ok (.iload_n 1, 1) := by decide +kernel
theorem dX12_go_249 : decode cX12_go 249 = .ok (.bipush 60, 2) := by decide +kernel
theorem dX12_go_251 : decode cX12_go 251 = .ok (.if_icmp .eq 21, 3) := by decide +kernel
theorem dX12_go_254 : decode cX12_go 254 = .ok (.iload_n 1, 1) := by decide +kernel
theorem dX12_go_255 : decode cX12_go 255 = .ok (.bipush 62, 2) := by decide +kernel
theorem dX12_go_257 : decode cX12_go 257 = .ok (.if_icmp .eq 15, 3) := by decide +kernel
theorem dX12_go_260 : decode cX12_go 260 = .ok (.iload_n 1, 1) := by decide +kernel
theorem dX12_go_261 : decode cX12_go 261 = .ok (.bipush 61, 2) := by decide +kernel
theorem dX12_go_263 : decode cX12_go 263 = .ok (.if_icmp .eq 9, 3) := by decide +kernel
theorem dX12_go_266 : decode cX12_go 266 = .ok (.iload_n 1, 1) := by decide +kernel
theorem dX12_go_267 : decode cX12_go 267 = .ok (.bipush 33, 2) := by decide +kernel
theorem dX12_go_269 : decode cX12_go 269 = .ok (.if_icmp .ne 64, 3) := by decide +kernel
theorem dX12_go_272 : decode cX12_go 272 = .ok (.aload_n 0, 1) := by decide +kernel
theorem dX12_go_273 : decode cX12_go 273 = .ok (.dup, 1) := by decide +kernel
theorem dX12_go_274 : decode cX12_go 274 = .ok (.getfield 134, 3) := by decide +kernel
theorem dX12_go_277 : decode cX12_go 277 = .ok (.iconst 2, 1) := by decide +kernel
theorem dX12_go_278 : decode cX12_go 278 = .ok (.iadd, 1) := by decide +kernel
theorem dX12_go_279 : decode cX12_go 279 = .ok (.putfield 134, 3) := by decide +kernel
theorem dX12_go_282 : decode cX12_go 282 = .ok (.aload_n 0, 1) := by decide +kernel
theorem dX12_go_283 : decode cX12_go 283 = .ok (.iconst 3, 1) := by decide +kernel
theorem dX12_go_284 : decode cX12_go 284 = .ok (.putfield 144, 3) := by decide +kernel
theorem dX12_go_287 : decode cX12_go 287 = .ok (.aload_n 0, 1) := by decide +kernel
theorem dX12_go_288 : decode cX12_go 288 = .ok (.iload_n 1, 1) := by decide +kernel
theorem dX12_go_289 : decode cX12_go 289 = .ok (.bipush 60, 2) := by decide +kernel
theorem dX12_go_291 : decode cX12_go 291 = .ok (.if_icmp .ne 9, 3) := by decide +kernel
theorem dX12_go_294 : decode cX12_go 294 = .ok (.sipush 300, 3) := by decide +kernel
theorem dX12_go_297 : decode cX12_go 297 = .ok (.goto 30, 3) := by decide +kernel
theorem dX12_go_300 : decode cX12_go 300 = .ok (.iload_n 1, 1) := by decide +kernel
theorem dX12_go_301 : decode cX12_go 301 = .ok (.bipush 62, 2) := by decide +kernel
theorem dX12_go_303 : decode cX12_go 303 = .ok (.if_icmp .ne 9, 3) := by decide +kernel
theorem dX12_go_306 : decode cX12_go 306 = .ok (.sipush 301, 3) := by decide +kernel
theorem dX12_go_309 : decode cX12_go 309 = .ok (.goto 18, 3) := by decide +kernel
theorem dX12_go_312 : decode cX12_go 312 = .ok (.iload_n 1, 1) := by decide +kernel
theorem dX12_go_313 : decode cX12_go 313 = .ok (.bipush 61, 2) := by decide +kernel
theorem dX12_go_315 : decode cX12_go 315 = .ok (.if_icmp .ne 9, 3) := by decide +kernel
theorem dX12_go_318 : decode cX12_go 318 = .ok (.sipush 302, 3) := by decide +kernel
theorem dX12_go_321 : decode cX12_go 321 = .ok (.goto 6, 3) := by decide +kernel
theorem dX12_go_324 : decode cX12_go 324 = .ok (.sipush 303, 3) := by decide +kernel
theorem dX12_go_327 : decode cX12_go 327 = .ok (.putfield 151, 3) := by decide +kernel
theorem dX12_go_330 : decode cX12_go 330 = .ok (.goto 34, 3) := by decide +kernel
theorem dX12_go_333 : decode cX12_go 333 = .ok (.aload_n 0, 1) := by decide +kernel
theorem dX12_go_334 : decode cX12_go 334 = .ok (.dup, 1) := by decide +kernel
theorem dX12_go_335 : decode cX12_go 335 = .ok (.getfield 134, 3) := by decide +kernel
theorem dX12_go_338 : decode cX12_go 338 = .ok (.iconst 1, 1) := by decide +kernel
theorem dX12_go_339 : decode cX12_go 339 = .ok (.iadd, 1) := by decide +kernel
theorem dX12_go_340 : decode cX12_go 340 = .ok (.putfield 134, 3) := by decide +kernel
theorem dX12_go_343 : decode cX12_go 343 = .ok (.aload_n 0, 1) := by decide +kernel
theorem dX12_go_344 : decode cX12_go 344 = .ok (.iload_n 1, 1) := by decide +kernel
theorem dX12_go_345 : decode cX12_go 345 = .ok (.invokestatic 154, 3) := by decide +kernel
theorem dX12_go_348 : decode cX12_go 348 = .ok (.ifCond .eq 7, 3) := by decide +kernel
theorem dX12_go_351 : decode cX12_go 351 = .ok (.iconst 3, 1) := by decide +kernel
theorem dX12_go_352 : decode cX12_go 352 = .ok (.goto 4, 3) := by decide +kernel
theorem dX12_go_355 : decode cX12_go 355 = .ok (.iconst 4, 1) := by decide +kernel
theorem dX12_go_356 : decode cX12_go 356 = .ok (.putfield 144, 3) := by decide +kernel
theorem dX12_go_359 : decode cX12_go 359 = .ok (.aload_n 0, 1) := by decide +kernel
theorem dX12_go_360 : decode cX12_go 360 = .ok (.iload_n 1, 1) := by decide +kernel
theorem dX12_go_361 : decode cX12_go 361 = .ok (.putfield 151, 3) := by decide +kernel
theorem dX12_go_364 : decode cX12_go 364 = .ok (.return_, 1) := by decide +kernel
theorem dX12_bad_0 : decode cX12_bad 0 = .ok (.aload_n 0, 1) := by decide +kernel
theorem dX12_bad_1 : decode cX12_bad 1 = .ok (.aload_n 0, 1) := by decide +kernel
theorem dX12_bad_2 : decode cX12_bad 2 = .ok (.getfield 158, 3) := by decide +kernel
theorem dX12_bad_5 : decode cX12_bad 5 = .ok (.ifCond .ne 15, 3) := by decide +kernel
theorem dX12_bad_8 : decode cX12_bad 8 = .ok (.bipush 8, 2) := by decide +kernel
theorem dX12_bad_10 : decode cX12_bad 10 = .ok (.aload_n 0, 1) := by decide +kernel
theorem dX12_bad_11 : decode cX12_bad 11 = .ok (.getfield 141, 3) := by decide +kernel
theorem dX12_bad_14 : decode cX12_bad 14 = .ok (.imul, 1) := by decide +kernel
theorem dX12_bad_15 : decode cX12_bad 15 = .ok (.iload_n 1, 1) := by decide +kernel
theorem dX12_bad_16 : decode cX12_bad 16 = .ok (.iadd, 1) := by decide +kernel
theorem dX12_bad_17 : decode cX12_bad 17 = .ok (.goto 7, 3) := by decide +kernel
theorem dX12_bad_20 : decode cX12_bad 20 = .ok (.aload_n 0, 1) := by decide +kernel
theorem dX12_bad_21 : decode cX12_bad 21 = .ok (.getfield 158, 3) := by decide +kernel
theorem dX12_bad_24 : decode cX12_bad 24 = .ok (.putfield 158, 3) := by decide +kernel
theorem dX12_bad_27 : decode cX12_bad 27 = .ok (.iconst 0, 1) := by decide +kernel
