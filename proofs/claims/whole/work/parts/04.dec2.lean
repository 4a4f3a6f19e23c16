theorem dX12_bad_28 : decode cX12_bad 28 = .ok (.ireturn, 1) := by decide +kernel
theorem dX12_is_0 : decode cX12_is 0 = .ok (.aload_n 0, 1) := by decide +kernel
theorem dX12_is_1 : decode cX12_is 1 = .ok (.getfield 144, 3) := by decide +kernel
theorem dX12_is_4 : decode cX12_is 4 = .ok (.iconst 3, 1) := by decide +kernel
theorem dX12_is_5 : decode cX12_is 5 = .ok (.if_icmp .ne 15, 3) := by decide +kernel
theorem dX12_is_8 : decode cX12_is 8 = .ok (.aload_n 0, 1) := by decide +kernel
theorem dX12_is_9 : decode cX12_is 9 = .ok (.getfield 151, 3) := by decide +kernel
theorem dX12_is_12 : decode cX12_is 12 = .ok (.iload_n 1, 1) := by decide +kernel
theorem dX12_is_13 : decode cX12_is 13 = .ok (.if_icmp .ne 7, 3) := by decide +kernel
theorem dX12_is_16 : decode cX12_is 16 = .ok (.iconst 1, 1) := by decide +kernel
theorem dX12_is_17 : decode cX12_is 17 = .ok (.goto 4, 3) := by decide +kernel
theorem dX12_is_20 : decode cX12_is 20 = .ok (.iconst 0, 1) := by decide +kernel
theorem dX12_is_21 : decode cX12_is 21 = .ok (.ireturn, 1) := by decide +kernel
theorem dX12_sign_0 : decode cX12_sign 0 = .ok (.aload_n 0, 1) := by decide +kernel
theorem dX12_sign_1 : decode cX12_sign 1 = .ok (.iload_n 1, 1) := by decide +kernel
theorem dX12_sign_2 : decode cX12_sign 2 = .ok (.invokevirtual 161, 3) := by decide +kernel
theorem dX12_sign_5 : decode cX12_sign 5 = .ok (.ifCond .ne 9, 3) := by decide +kernel
theorem dX12_sign_8 : decode cX12_sign 8 = .ok (.aload_n 0, 1) := by decide +kernel
theorem dX12_sign_9 : decode cX12_sign 9 = .ok (.iconst 1, 1) := by decide +kernel
theorem dX12_sign_10 : decode cX12_sign 10 = .ok (.invokevirtual 164, 3) := by decide +kernel
theorem dX12_sign_13 : decode cX12_sign 13 = .ok (.ireturn, 1) := by decide +kernel
theorem dX12_sign_14 : decode cX12_sign 14 = .ok (.aload_n 0, 1) := by decide +kernel
theorem dX12_sign_15 : decode cX12_sign 15 = .ok (.invokevirtual 167, 3) := by decide +kernel
theorem dX12_sign_18 : decode cX12_sign 18 = .ok (.iconst 1, 1) := by decide +kernel
theorem dX12_sign_19 : decode cX12_sign 19 = .ok (.ireturn, 1) := by decide +kernel
theorem dX12_isWord_0 : decode cX12_isWord 0 = .ok (.bipush 6, 2) := by decide +kernel
theorem dX12_isWord_2 : decode cX12_isWord 2 = .ok (.newarray .int, 2) := by decide +kernel
theorem dX12_isWord_4 : decode cX12_isWord 4 = .ok (.dup, 1) := by decide +kernel
theorem dX12_isWord_5 : decode cX12_isWord 5 = .ok (.iconst 0, 1) := by decide +kernel
theorem dX12_isWord_6 : decode cX12_isWord 6 = .ok (.iload_n 1, 1) := by decide +kernel
theorem dX12_isWord_7 : decode cX12_isWord 7 = .ok (.iastore, 1) := by decide +kernel
theorem dX12_isWord_8 : decode cX12_isWord 8 = .ok (.dup, 1) := by decide +kernel
theorem dX12_isWord_9 : decode cX12_isWord 9 = .ok (.iconst 1, 1) := by decide +kernel
theorem dX12_isWord_10 : decode cX12_isWord 10 = .ok (.iload_n 2, 1) := by decide +kernel
theorem dX12_isWord_11 : decode cX12_isWord 11 = .ok (.iastore, 1) := by decide +kernel
theorem dX12_isWord_12 : decode cX12_isWord 12 = .ok (.dup, 1) := by decide +kernel
theorem dX12_isWord_13 : decode cX12_isWord 13 = .ok (.iconst 2, 1) := by decide +kernel
theorem dX12_isWord_14 : decode cX12_isWord 14 = .ok (.iload_n 3, 1) := by decide +kernel
theorem dX12_isWord_15 : decode cX12_isWord 15 = .ok (.iastore, 1) := by decide +kernel
theorem dX12_isWord_16 : decode cX12_isWord 16 = .ok (.dup, 1) := by decide +kernel
theorem dX12_isWord_17 : decode cX12_isWord 17 = .ok (.iconst 3, 1) := by decide +kernel
theorem dX12_isWord_18 : decode cX12_isWord 18 = .ok (.iload 4, 2) := by decide +kernel
theorem dX12_isWord_20 : decode cX12_isWord 20 = .ok (.iastore, 1) := by decide +kernel
theorem dX12_isWord_21 : decode cX12_isWord 21 = .ok (.dup, 1) := by decide +kernel
theorem dX12_isWord_22 : decode cX12_isWord 22 = .ok (.iconst 4, 1) := by decide +kernel
theorem dX12_isWord_23 : decode cX12_isWord 23 = .ok (.iload 5, 2) := by decide +kernel
theorem dX12_isWord_25 : decode cX12_isWord 25 = .ok (.iastore, 1) := by decide +kernel
theorem dX12_isWord_26 : decode cX12_isWord 26 = .ok (.dup, 1) := by decide +kernel
theorem dX12_isWord_27 : decode cX12_isWord 27 = .ok (.iconst 5, 1) := by decide +kernel
theorem dX12_isWord_28 : decode cX12_isWord 28 = .ok (.iload 6, 2) := by decide +kernel
theorem dX12_isWord_30 : decode cX12_isWord 30 = .ok (.iastore, 1) := by decide +kernel
theorem dX12_isWord_31 : decode cX12_isWord 31 = .ok (.astore 7, 2) := by decide +kernel
theorem dX12_isWord_33 : decode cX12_isWord 33 = .ok (.aload_n 0, 1) := by decide +kernel
theorem dX12_isWord_34 : decode cX12_isWord 34 = .ok (.getfield 144, 3) := by decide +kernel
theorem dX12_isWord_37 : decode cX12_isWord 37 = .ok (.iconst 1, 1) := by decide +kernel
theorem dX12_isWord_38 : decode cX12_isWord 38 = .ok (.if_icmp .ne 21, 3) := by decide +kernel
theorem dX12_isWord_41 : decode cX12_isWord 41 = .ok (.aload_n 0, 1) := by decide +kernel
theorem dX12_isWord_42 : decode cX12_isWord 42 = .ok (.getfield 134, 3) := by decide +kernel
theorem dX12_isWord_45 : decode cX12_isWord 45 = .ok (.aload_n 0, 1) := by decide +kernel
theorem dX12_isWord_46 : decode cX12_isWord 46 = .ok (.getfield 141, 3) := by decide +kernel
theorem dX12_isWord_49 : decode cX12_isWord 49 = .ok (.isub, 1) := by decide +kernel
theorem dX12_isWord_50 : decode cX12_isWord 50 = .ok (.bipush 6, 2) := by decide +kernel
theorem dX12_isWord_52 : decode cX12_isWord 52 = .ok (.if_icmp .gt 7, 3) := by decide +kernel
theorem dX12_isWord_55 : decode cX12_isWord 55 = .ok (.iconst 1, 1) := by decide +kernel
theorem dX12_isWord_56 : decode cX12_isWord 56 = .ok (.goto 4, 3) := by decide +kernel
theorem dX12_isWord_59 : decode cX12_isWord 59 = .ok (.iconst 0, 1) := by decide +kernel
theorem dX12_isWord_60 : decode cX12_isWord 60 = .ok (.istore 8, 2) := by decide +kernel
theorem dX12_isWord_62 : decode cX12_isWord 62 = .ok (.iconst 0, 1) := by decide +kernel
theorem dX12_isWord_63 : decode cX12_isWord 63 = .ok (.istore 9, 2) := by decide +kernel
theorem dX12_isWord_65 : decode cX12_isWord 65 = .ok (.iload 9, 2) := by decide +kernel
theorem dX12_isWord_67 : decode cX12_isWord 67 = .ok (.bipush 6, 2) := by decide +kernel
theorem dX12_isWord_69 : decode cX12_isWord 69 = .ok (.if_icmp .ge 58, 3) := by decide +kernel
theorem dX12_isWord_72 : decode cX12_isWord 72 = .ok (.iload 8, 2) := by decide +kernel
theorem dX12_isWord_74 : decode cX12_isWord 74 = .ok (.ifCond .eq 53, 3) := by decide +kernel
theorem dX12_isWord_77 : decode cX12_isWord 77 = .ok (.iload 9, 2) := by decide +kernel
theorem dX12_isWord_79 : decode cX12_isWord 79 = .ok (.aload_n 0, 1) := by decide +kernel
theorem dX12_isWord_80 : decode cX12_isWord 80 = .ok (.getfield 134, 3) := by decide +kernel
theorem dX12_isWord_83 : decode cX12_isWord 83 = .ok (.aload_n 0, 1) := by decide +kernel
theorem dX12_isWord_84 : decode cX12_isWord 84 = .ok (.getfield 141, 3) := by decide +kernel
theorem dX12_isWord_87 : decode cX12_isWord 87 = .ok (.isub, 1) := by decide +kernel
theorem dX12_isWord_88 : decode cX12_isWord 88 = .ok (.if_icmp .ge 17, 3) := by decide +kernel
theorem dX12_isWord_91 : decode cX12_isWord 91 = .ok (.aload_n 0, 1) := by decide +kernel
theorem dX12_isWord_92 : decode cX12_isWord 92 = .ok (.aload_n 0, 1) := by decide +kernel
theorem dX12_isWord_93 : decode cX12_isWord 93 = .ok (.getfield 141, 3) := by decide +kernel
theorem dX12_isWord_96 : decode cX12_isWord 96 = .ok (.iload 9, 2) := by decide +kernel
theorem dX12_isWord_98 : decode cX12_isWord 98 = .ok (.iadd, 1) := by decide +kernel
theorem dX12_isWord_99 : decode cX12_isWord 99 = .ok (.invokevirtual 137, 3) := by decide +kernel
theorem dX12_isWord_102 : decode cX12_isWord 102 = .ok (.goto 4, 3) := by decide +kernel
theorem dX12_isWord_105 : decode cX12_isWord 105 = .ok (.iconst 0, 1) := by decide +kernel
theorem dX12_isWord_106 : decode cX12_isWord 106 = .ok (.aload 7, 2) := by decide +kernel
theorem dX12_isWord_108 : decode cX12_isWord 108 = .ok (.iload 9, 2) := by decide +kernel
theorem dX12_isWord_110 : decode cX12_isWord 110 = .ok (.iaload, 1) := by decide +kernel
theorem dX12_isWord_111 : decode cX12_isWord 111 = .ok (.if_icmp .ne 7, 3) := by decide +kernel
theorem dX12_isWord_114 : decode cX12_isWord 114 = .ok (.iconst 1, 1) := by decide +kernel
theorem dX12_isWord_115 : decode cX12_isWord 115 = .ok (.goto 4, 3) := by decide +kernel
theorem dX12_isWord_118 : decode cX12_isWord 118 = .ok (.iconst 0, 1) := by decide +kernel
theorem dX12_isWord_119 : decode cX12_isWord 119 = .ok (.istore 8, 2) := by decide +kernel
theorem dX12_isWord_121 : decode cX12_isWord 121 = .ok (.iinc 9 1, 3) := by decide +kernel
theorem dX12_isWord_124 : decode cX12_isWord 124 = .ok (.goto (-59), 3) := by decide +kernel
theorem dX12_isWord_127 : decode cX12_isWord 127 = .ok (.iload 8, 2) := by decide +kernel
theorem dX12_isWord_129 : decode cX12_isWord 129 = .ok (.ireturn, 1) := by decide +kernel
theorem dX12_variable_0 : decode cX12_variable 0 = .ok (.aload_n 0, 1) := by decide +kernel
theorem dX12_variable_1 : decode cX12_variable 1 = .ok (.aload_n 0, 1) := by decide +kernel
theorem dX12_variable_2 : decode cX12_variable 2 = .ok (.getfield 141, 3) := by decide +kernel
theorem dX12_variable_5 : decode cX12_variable 5 = .ok (.invokevirtual 137, 3) := by decide +kernel
theorem dX12_variable_8 : decode cX12_variable 8 = .ok (.istore_n 1, 1) := by decide +kernel
theorem dX12_variable_9 : decode cX12_variable 9 = .ok (.aload_n 0, 1) := by decide +kernel
theorem dX12_variable_10 : decode cX12_variable 10 = .ok (.getfield 144, 3) := by decide +kernel
theorem dX12_variable_13 : decode cX12_variable 13 = .ok (.iconst 1, 1) := by decide +kernel
theorem dX12_variable_14 : decode cX12_variable 14 = .ok (.if_icmp .ne 16, 3) := by decide +kernel
theorem dX12_variable_17 : decode cX12_variable 17 = .ok (.aload_n 0, 1) := by decide +kernel
theorem dX12_variable_18 : decode cX12_variable 18 = .ok (.getfield 134, 3) := by decide +kernel
theorem dX12_variable_21 : decode cX12_variable 21 = .ok (.aload_n 0, 1) := by decide +kernel
theorem dX12_variable_22 : decode cX12_variable 22 = .ok (.getfield 141, 3) := by decide +kernel
theorem dX12_variable_25 : decode cX12_variable 25 = .ok (.isub, 1) := by decide +kernel
theorem dX12_variable_26 : decode cX12_variable 26 = .ok (.iconst 1, 1) := by decide +kernel
theorem dX12_variable_27 : decode cX12_variable 27 = .ok (.if_icmp .eq 5, 3) := by decide +kernel
theorem dX12_variable_30 : decode cX12_variable 30 = .ok (.iconst (-1), 1) := by decide +kernel
theorem dX12_variable_31 : decode cX12_variable 31 = .ok (.ireturn, 1) := by decide +kernel
theorem dX12_variable_32 : decode cX12_variable 32 = .ok (.iload_n 1, 1) := by decide +kernel
theorem dX12_variable_33 : decode cX12_variable 33 = .ok (.bipush 120, 2) := by decide +kernel
theorem dX12_variable_35 : decode cX12_variable 35 = .ok (.bipush 122, 2) := by decide +kernel
theorem dX12_variable_37 : decode cX12_variable 37 = .ok (.invokestatic 147, 3) := by decide +kernel
theorem dX12_variable_40 : decode cX12_variable 40 = .ok (.ifCond .eq 10, 3) := by decide +kernel
theorem dX12_variable_43 : decode cX12_variable 43 = .ok (.iload_n 1, 1) := by decide +kernel
theorem dX12_variable_44 : decode cX12_variable 44 = .ok (.bipush 120, 2) := by decide +kernel
theorem dX12_variable_46 : decode cX12_variable 46 = .ok (.isub, 1) := by decide +kernel
theorem dX12_variable_47 : decode cX12_variable 47 = .ok (.goto 24, 3) := by decide +kernel
theorem dX12_variable_50 : decode cX12_variable 50 = .ok (.iload_n 1, 1) := by decide +kernel
theorem dX12_variable_51 : decode cX12_variable 51 = .ok (.bipush 97, 2) := by decide +kernel
theorem dX12_variable_53 : decode cX12_variable 53 = .ok (.bipush 102, 2) := by decide +kernel
theorem dX12_variable_55 : decode cX12_variable 55 = .ok (.invokestatic 147, 3) := by decide +kernel
theorem dX12_variable_58 : decode cX12_variable 58 = .ok (.ifCond .eq 12, 3) := by decide +kernel
theorem dX12_variable_61 : decode cX12_variable 61 = .ok (.iconst 3, 1) := by decide +kernel
theorem dX12_variable_62 : decode cX12_variable 62 = .ok (.iload_n 1, 1) := by decide +kernel
theorem dX12_variable_63 : decode cX12_variable 63 = .ok (.iadd, 1) := by decide +kernel
theorem dX12_variable_64 : decode cX12_variable 64 = .ok (.bipush 97, 2) := by decide +kernel
theorem dX12_variable_66 : decode cX12_variable 66 = .ok (.isub, 1) := by decide +kernel
theorem dX12_variable_67 : decode cX12_variable 67 = .ok (.goto 4, 3) := by decide +kernel
theorem dX12_variable_70 : decode cX12_variable 70 = .ok (.iconst (-1), 1) := by decide +kernel
theorem dX12_variable_71 : decode cX12_variable 71 = .ok (.ireturn, 1) := by decide +kernel
theorem dX12_adds_0 : decode cX12_adds 0 = .ok (.bipush 100, 2) := by decide +kernel
theorem dX12_adds_2 : decode cX12_adds 2 = .ok (.aload_n 0, 1) := by decide +kernel
theorem dX12_adds_3 : decode cX12_adds 3 = .ok (.getfield 170, 3) := by decide +kernel
theorem dX12_adds_6 : decode cX12_adds 6 = .ok (.iadd, 1) := by decide +kernel
theorem dX12_adds_7 : decode cX12_adds 7 = .ok (.istore 4, 2) := by decide +kernel
theorem dX12_adds_9 : decode cX12_adds 9 = .ok (.aload_n 0, 1) := by decide +kernel
theorem dX12_adds_10 : decode cX12_adds 10 = .ok (.getfield 17, 3) := by decide +kernel
theorem dX12_adds_13 : decode cX12_adds 13 = .ok (.iload 4, 2) := by decide +kernel
theorem dX12_adds_15 : decode cX12_adds 15 = .ok (.iload_n 1, 1) := by decide +kernel
theorem dX12_adds_16 : decode cX12_adds 16 = .ok (.iastore, 1) := by decide +kernel
theorem dX12_adds_17 : decode cX12_adds 17 = .ok (.aload_n 0, 1) := by decide +kernel
theorem dX12_adds_18 : decode cX12_adds 18 = .ok (.getfield 20, 3) := by decide +kernel
theorem dX12_adds_21 : decode cX12_adds 21 = .ok (.iload 4, 2) := by decide +kernel
theorem dX12_adds_23 : decode cX12_adds 23 = .ok (.iload_n 2, 1) := by decide +kernel
theorem dX12_adds_24 : decode cX12_adds 24 = .ok (.iastore, 1) := by decide +kernel
theorem dX12_adds_25 : decode cX12_adds 25 = .ok (.aload_n 0, 1) := by decide +kernel
theorem dX12_adds_26 : decode cX12_adds 26 = .ok (.getfield 23, 3) := by decide +kernel
theorem dX12_adds_29 : decode cX12_adds 29 = .ok (.iload 4, 2) := by decide +kernel
theorem dX12_adds_31 : decode cX12_adds 31 = .ok (.iload_n 3, 1) := by decide +kernel
theorem dX12_adds_32 : decode cX12_adds 32 = .ok (.iastore, 1) := by decide +kernel
theorem dX12_adds_33 : decode cX12_adds 33 = .ok (.aload_n 0, 1) := by decide +kernel
theorem dX12_adds_34 : decode cX12_adds 34 = .ok (.getfield 26, 3) := by decide +kernel
theorem dX12_adds_37 : decode cX12_adds 37 = .ok (.iload 4, 2) := by decide +kernel
theorem dX12_adds_39 : decode cX12_adds 39 = .ok (.iconst (-1), 1) := by decide +kernel
theorem dX12_adds_40 : decode cX12_adds 40 = .ok (.iastore, 1) := by decide +kernel
theorem dX12_adds_41 : decode cX12_adds 41 = .ok (.aload_n 0, 1) := by decide +kernel
theorem dX12_adds_42 : decode cX12_adds 42 = .ok (.getfield 29, 3) := by decide +kernel
theorem dX12_adds_45 : decode cX12_adds 45 = .ok (.iload 4, 2) := by decide +kernel
theorem dX12_adds_47 : decode cX12_adds 47 = .ok (.iconst (-1), 1) := by decide +kernel
theorem dX12_adds_48 : decode cX12_adds 48 = .ok (.iastore, 1) := by decide +kernel
theorem dX12_adds_49 : decode cX12_adds 49 = .ok (.aload_n 0, 1) := by decide +kernel
theorem dX12_adds_50 : decode cX12_adds 50 = .ok (.getfield 32, 3) := by decide +kernel
theorem dX12_adds_53 : decode cX12_adds 53 = .ok (.iload 4, 2) := by decide +kernel
theorem dX12_adds_55 : decode cX12_adds 55 = .ok (.iconst (-1), 1) := by decide +kernel
theorem dX12_adds_56 : decode cX12_adds 56 = .ok (.iastore, 1) := by decide +kernel
theorem dX12_adds_57 : decode cX12_adds 57 = .ok (.aload_n 0, 1) := by decide +kernel
theorem dX12_adds_58 : decode cX12_adds 58 = .ok (.getfield 35, 3) := by decide +kernel
theorem dX12_adds_61 : decode cX12_adds 61 = .ok (.iload 4, 2) := by decide +kernel
theorem dX12_adds_63 : decode cX12_adds 63 = .ok (.iconst (-1), 1) := by decide +kernel
theorem dX12_adds_64 : decode cX12_adds 64 = .ok (.iastore, 1) := by decide +kernel
theorem dX12_adds_65 : decode cX12_adds 65 = .ok (.aload_n 0, 1) := by decide +kernel
theorem dX12_adds_66 : decode cX12_adds 66 = .ok (.getfield 38, 3) := by decide +kernel
theorem dX12_adds_69 : decode cX12_adds 69 = .ok (.iload 4, 2) := by decide +kernel
theorem dX12_adds_71 : decode cX12_adds 71 = .ok (.iconst (-1), 1) := by decide +kernel
theorem dX12_adds_72 : decode cX12_adds 72 = .ok (.iastore, 1) := by decide +kernel
theorem dX12_adds_73 : decode cX12_adds 73 = .ok (.aload_n 0, 1) := by decide +kernel
theorem dX12_adds_74 : decode cX12_adds 74 = .ok (.dup, 1) := by decide +kernel
theorem dX12_adds_75 : decode cX12_adds 75 = .ok (.getfield 170, 3) := by decide +kernel
theorem dX12_adds_78 : decode cX12_adds 78 = .ok (.iconst 1, 1) := by decide +kernel
theorem dX12_adds_79 : decode cX12_adds 79 = .ok (.iadd, 1) := by decide +kernel
theorem dX12_adds_80 : decode cX12_adds 80 = .ok (.putfield 170, 3) := by decide +kernel
theorem dX12_adds_83 : decode cX12_adds 83 = .ok (.aload_n 0, 1) := by decide +kernel
theorem dX12_adds_84 : decode cX12_adds 84 = .ok (.getfield 170, 3) := by decide +kernel
theorem dX12_adds_87 : decode cX12_adds 87 = .ok (.iconst 1, 1) := by decide +kernel
theorem dX12_adds_88 : decode cX12_adds 88 = .ok (.isub, 1) := by decide +kernel
theorem dX12_adds_89 : decode cX12_adds 89 = .ok (.ireturn, 1) := by decide +kernel
theorem dX12_addsAhead_0 : decode cX12_addsAhead 0 = .ok (.aload_n 0, 1) := by decide +kernel
theorem dX12_addsAhead_1 : decode cX12_addsAhead 1 = .ok (.iload_n 2, 1) := by decide +kernel
theorem dX12_addsAhead_2 : decode cX12_addsAhead 2 = .ok (.iload_n 3, 1) := by decide +kernel
theorem dX12_addsAhead_3 : decode cX12_addsAhead 3 = .ok (.iload 4, 2) := by decide +kernel
theorem dX12_addsAhead_5 : decode cX12_addsAhead 5 = .ok (.invokevirtual 173, 3) := by decide +kernel
theorem dX12_addsAhead_8 : decode cX12_addsAhead 8 = .ok (.istore 5, 2) := by decide +kernel
theorem dX12_addsAhead_10 : decode cX12_addsAhead 10 = .ok (.bipush 100, 2) := by decide +kernel
theorem dX12_addsAhead_12 : decode cX12_addsAhead 12 = .ok (.iload 5, 2) := by decide +kernel
theorem dX12_addsAhead_14 : decode cX12_addsAhead 14 = .ok (.iadd, 1) := by decide +kernel
theorem dX12_addsAhead_15 : decode cX12_addsAhead 15 = .ok (.istore 6, 2) := by decide +kernel
theorem dX12_addsAhead_17 : decode cX12_addsAhead 17 = .ok (.iload 6, 2) := by decide +kernel
theorem dX12_addsAhead_19 : decode cX12_addsAhead 19 = .ok (.bipush 100, 2) := by decide +kernel
theorem dX12_addsAhead_21 : decode cX12_addsAhead 21 = .ok (.iload_n 1, 1) := by decide +kernel
theorem dX12_addsAhead_22 : decode cX12_addsAhead 22 = .ok (.iadd, 1) := by decide +kernel
theorem dX12_addsAhead_23 : decode cX12_addsAhead 23 = .ok (.if_icmp .le 170, 3) := by decide +kernel
theorem dX12_addsAhead_26 : decode cX12_addsAhead 26 = .ok (.aload_n 0, 1) := by decide +kernel
theorem dX12_addsAhead_27 : decode cX12_addsAhead 27 = .ok (.getfield 17, 3) := by decide +kernel
theorem dX12_addsAhead_30 : decode cX12_addsAhead 30 = .ok (.iload 6, 2) := by decide +kernel
theorem dX12_addsAhead_32 : decode cX12_addsAhead 32 = .ok (.aload_n 0, 1) := by decide +kernel
theorem dX12_addsAhead_33 : decode cX12_addsAhead 33 = .ok (.getfield 17, 3) := by decide +kernel
theorem dX12_addsAhead_36 : decode cX12_addsAhead 36 = .ok (.iload 6, 2) := by decide +kernel
theorem dX12_addsAhead_38 : decode cX12_addsAhead 38 = .ok (.iconst 1, 1) := by decide +kernel
theorem dX12_addsAhead_39 : decode cX12_addsAhead 39 = .ok (.isub, 1) := by decide +kernel
theorem dX12_addsAhead_40 : decode cX12_addsAhead 40 = .ok (.iaload, 1) := by decide +kernel
theorem dX12_addsAhead_41 : decode cX12_addsAhead 41 = .ok (.iastore, 1) := by decide +kernel
theorem dX12_addsAhead_42 : decode cX12_addsAhead 42 = .ok (.aload_n 0, 1) := by decide +kernel
theorem dX12_addsAhead_43 : decode cX12_addsAhead 43 = .ok (.getfield 20, 3) := by decide +kernel
theorem dX12_addsAhead_46 : decode cX12_addsAhead 46 = .ok (.iload 6, 2) := by decide +kernel
theorem dX12_addsAhead_48 : decode cX12_addsAhead 48 = .ok (.aload_n 0, 1) := by decide +kernel
theorem dX12_addsAhead_49 : decode cX12_addsAhead 49 = .ok (.getfield 20, 3) := by decide +kernel
theorem dX12_addsAhead_52 : decode cX12_addsAhead 52 = .ok (.iload 6, 2) := by decide +kernel
theorem dX12_addsAhead_54 : decode cX12_addsAhead 54 = .ok (.iconst 1, 1) := by decide +kernel
theorem dX12_addsAhead_55 : decode cX12_addsAhead 55 = .ok (.isub, 1) := by decide +kernel
theorem dX12_addsAhead_56 : decode cX12_addsAhead 56 = .ok (.iaload, 1) := by decide +kernel
theorem dX12_addsAhead_57 : decode cX12_addsAhead 57 = .ok (.iastore, 1) := by decide +kernel
theorem dX12_addsAhead_58 : decode cX12_addsAhead 58 = .ok (.aload_n 0, 1) := by decide +kernel
theorem dX12_addsAhead_59 : decode cX12_addsAhead 59 = .ok (.getfield 23, 3) := by decide +kernel
theorem dX12_addsAhead_62 : decode cX12_addsAhead 62 = .ok (.iload 6, 2) := by decide +kernel
theorem dX12_addsAhead_64 : decode cX12_addsAhead 64 = .ok (.aload_n 0, 1) := by decide +kernel
theorem dX12_addsAhead_65 : decode cX12_addsAhead 65 = .ok (.getfield 23, 3) := by decide +kernel
theorem dX12_addsAhead_68 : decode cX12_addsAhead 68 = .ok (.iload 6, 2) := by decide +kernel
theorem dX12_addsAhead_70 : decode cX12_addsAhead 70 = .ok (.iconst 1, 1) := by decide +kernel
theorem dX12_addsAhead_71 : decode cX12_addsAhead 71 = .ok (.isub, 1) := by decide +kernel
theorem dX12_addsAhead_72 : decode cX12_addsAhead 72 = .ok (.iaload, 1) := by decide +kernel
theorem dX12_addsAhead_73 : decode cX12_addsAhead 73 = .ok (.iload_n 1, 1) := by decide +kernel
theorem dX12_addsAhead_74 : decode cX12_addsAhead 74 = .ok (.if_icmp .lt 17, 3) := by decide +kernel
theorem dX12_addsAhead_77 : decode cX12_addsAhead 77 = .ok (.aload_n 0, 1) := by decide +kernel
theorem dX12_addsAhead_78 : decode cX12_addsAhead 78 = .ok (.getfield 23, 3) := by decide +kernel
theorem dX12_addsAhead_81 : decode cX12_addsAhead 81 = .ok (.iload 6, 2) := by decide +kernel
theorem dX12_addsAhead_83 : decode cX12_addsAhead 83 = .ok (.iconst 1, 1) := by decide +kernel
theorem dX12_addsAhead_84 : decode cX12_addsAhead 84 = .ok (.isub, 1) := by decide +kernel
theorem dX12_addsAhead_85 : decode cX12_addsAhead 85 = .ok (.iaload, 1) := by decide +kernel
theorem dX12_addsAhead_86 : decode cX12_addsAhead 86 = .ok (.iconst 1, 1) := by decide +kernel
theorem dX12_addsAhead_87 : decode cX12_addsAhead 87 = .ok (.iadd, 1) := by decide +kernel
theorem dX12_addsAhead_88 : decode cX12_addsAhead 88 = .ok (.goto 12, 3) := by decide +kernel
theorem dX12_addsAhead_91 : decode cX12_addsAhead 91 = .ok (.aload_n 0, 1) := by decide +kernel
theorem dX12_addsAhead_92 : decode cX12_addsAhead 92 = .ok (.getfield 23, 3) := by decide +kernel
theorem dX12_addsAhead_95 : decode cX12_addsAhead 95 = .ok (.iload 6, 2) := by decide +kernel
theorem dX12_addsAhead_97 : decode cX12_addsAhead 97 = .ok (.iconst 1, 1) := by decide +kernel
theorem dX12_addsAhead_98 : decode cX12_addsAhead 98 = .ok (.isub, 1) := by decide +kernel
theorem dX12_addsAhead_99 : decode cX12_addsAhead 99 = .ok (.iaload, 1) := by decide +kernel
theorem dX12_addsAhead_100 : decode cX12_addsAhead 100 = .ok (.iastore, 1) := by decide +kernel
theorem dX12_addsAhead_101 : decode cX12_addsAhead 101 = .ok (.aload_n 0, 1) := by decide +kernel
theorem dX12_addsAhead_102 : decode cX12_addsAhead 102 = .ok (.getfield 26, 3) := by decide +kernel
theorem dX12_addsAhead_105 : decode cX12_addsAhead 105 = .ok (.iload 6, 2) := by decide +kernel
theorem dX12_addsAhead_107 : decode cX12_addsAhead 107 = .ok (.aload_n 0, 1) := by decide +kernel
theorem dX12_addsAhead_108 : decode cX12_addsAhead 108 = .ok (.getfield 26, 3) := by decide +kernel
theorem dX12_addsAhead_111 : decode cX12_addsAhead 111 = .ok (.iload 6, 2) := by decide +kernel
theorem dX12_addsAhead_113 : decode cX12_addsAhead 113 = .ok (.iconst 1, 1) := by decide +kernel
theorem dX12_addsAhead_114 : decode cX12_addsAhead 114 = .ok (.isub, 1) := by decide +kernel
theorem dX12_addsAhead_115 : decode cX12_addsAhead 115 = .ok (.iaload, 1) := by decide +kernel
theorem dX12_addsAhead_116 : decode cX12_addsAhead 116 = .ok (.iload_n 1, 1) := by decide +kernel
theorem dX12_addsAhead_117 : decode cX12_addsAhead 117 = .ok (.if_icmp .lt 17, 3) := by decide +kernel
theorem dX12_addsAhead_120 : decode cX12_addsAhead 120 = .ok (.aload_n 0, 1) := by decide +kernel
theorem dX12_addsAhead_121 : decode cX12_addsAhead 121 = .ok (.getfield 26, 3) := by decide +kernel
theorem dX12_addsAhead_124 : decode cX12_addsAhead 124 = .ok (.iload 6, 2) := by decide +kernel
theorem dX12_addsAhead_126 : decode cX12_addsAhead 126 = .ok (.iconst 1, 1) := by decide +kernel
theorem dX12_addsAhead_127 : decode cX12_addsAhead 127 = .ok (.isub, 1) := by decide +kernel
theorem dX12_addsAhead_128 : decode cX12_addsAhead 128 = .ok (.iaload, 1) := by decide +kernel
theorem dX12_addsAhead_129 : decode cX12_addsAhead 129 = .ok (.iconst 1, 1) := by decide +kernel
theorem dX12_addsAhead_130 : decode cX12_addsAhead 130 = .ok (.iadd, 1) := by decide +kernel
theorem dX12_addsAhead_131 : decode cX12_addsAhead 131 = .ok (.goto 12, 3) := by decide +kernel
theorem dX12_addsAhead_134 : decode cX12_addsAhead 134 = .ok (.aload_n 0, 1) := by decide +kernel
theorem dX12_addsAhead_135 : decode cX12_addsAhead 135 = .ok (.getfield 26, 3) := by decide +kernel
theorem dX12_addsAhead_138 : decode cX12_addsAhead 138 = .ok (.iload 6, 2) := by decide +kernel
theorem dX12_addsAhead_140 : decode cX12_addsAhead 140 = .ok (.iconst 1, 1) := by decide +kernel
theorem dX12_addsAhead_141 : decode cX12_addsAhead 141 = .ok (.isub, 1) := by decide +kernel
theorem dX12_addsAhead_142 : decode cX12_addsAhead 142 = .ok (.iaload, 1) := by decide +kernel
theorem dX12_addsAhead_143 : decode cX12_addsAhead 143 = .ok (.iastore, 1) := by decide +kernel
theorem dX12_addsAhead_144 : decode cX12_addsAhead 144 = .ok (.aload_n 0, 1) := by decide +kernel
theorem dX12_addsAhead_145 : decode cX12_addsAhead 145 = .ok (.getfield 29, 3) := by decide +kernel
theorem dX12_addsAhead_148 : decode cX12_addsAhead 148 = .ok (.iload 6, 2) := by decide +kernel
theorem dX12_addsAhead_150 : decode cX12_addsAhead 150 = .ok (.aload_n 0, 1) := by decide +kernel
theorem dX12_addsAhead_151 : decode cX12_addsAhead 151 = .ok (.getfield 29, 3) := by decide +kernel
theorem dX12_addsAhead_154 : decode cX12_addsAhead 154 = .ok (.iload 6, 2) := by decide +kernel
theorem dX12_addsAhead_156 : decode cX12_addsAhead 156 = .ok (.iconst 1, 1) := by decide +kernel
theorem dX12_addsAhead_157 : decode cX12_addsAhead 157 = .ok (.isub, 1) := by decide +kernel
theorem dX12_addsAhead_158 : decode cX12_addsAhead 158 = .ok (.iaload, 1) := by decide +kernel
theorem dX12_addsAhead_159 : decode cX12_addsAhead 159 = .ok (.iload_n 1, 1) := by decide +kernel
theorem dX12_addsAhead_160 : decode cX12_addsAhead 160 = .ok (.if_icmp .lt 17, 3) := by decide +kernel
theorem dX12_addsAhead_163 : decode cX12_addsAhead 163 = .ok (.aload_n 0, 1) := by decide +kernel
theorem dX12_addsAhead_164 : decode cX12_addsAhead 164 = .ok (.getfield 29, 3) := by decide +kernel
theorem dX12_addsAhead_167 : decode cX12_addsAhead 167 = .ok (.iload 6, 2) := by decide +kernel
theorem dX12_addsAhead_169 : decode cX12_addsAhead 169 = .ok (.iconst 1, 1) := by decide +kernel
theorem dX12_addsAhead_170 : decode cX12_addsAhead 170 = .ok (.isub, 1) := by decide +kernel
theorem dX12_addsAhead_171 : decode cX12_addsAhead 171 = .ok (.iaload, 1) := by decide +kernel
theorem dX12_addsAhead_172 : decode cX12_addsAhead 172 = .ok (.iconst 1, 1) := by decide +kernel
theorem dX12_addsAhead_173 : decode cX12_addsAhead 173 = .ok (.iadd, 1) := by decide +kernel
theorem dX12_addsAhead_174 : decode cX12_addsAhead 174 = .ok (.goto 12, 3) := by decide +kernel
theorem dX12_addsAhead_177 : decode cX12_addsAhead 177 = .ok (.aload_n 0, 1) := by decide +kernel
theorem dX12_addsAhead_178 : decode cX12_addsAhead 178 = .ok (.getfield 29, 3) := by decide +kernel
theorem dX12_addsAhead_181 : decode cX12_addsAhead 181 = .ok (.iload 6, 2) := by decide +kernel
theorem dX12_addsAhead_183 : decode cX12_addsAhead 183 = .ok (.iconst 1, 1) := by decide +kernel
theorem dX12_addsAhead_184 : decode cX12_addsAhead 184 = .ok (.isub, 1) := by decide +kernel
theorem dX12_addsAhead_185 : decode cX12_addsAhead 185 = .ok (.iaload, 1) := by decide +kernel
theorem dX12_addsAhead_186 : decode cX12_addsAhead 186 = .ok (.iastore, 1) := by decide +kernel
theorem dX12_addsAhead_187 : decode cX12_addsAhead 187 = .ok (.iinc 6 (-1), 3) := by decide +kernel
theorem dX12_addsAhead_190 : decode cX12_addsAhead 190 = .ok (.goto (-173), 3) := by decide +kernel
theorem dX12_addsAhead_193 : decode cX12_addsAhead 193 = .ok (.bipush 100, 2) := by decide +kernel
theorem dX12_addsAhead_195 : decode cX12_addsAhead 195 = .ok (.iload_n 1, 1) := by decide +kernel
theorem dX12_addsAhead_196 : decode cX12_addsAhead 196 = .ok (.iadd, 1) := by decide +kernel
theorem dX12_addsAhead_197 : decode cX12_addsAhead 197 = .ok (.istore 6, 2) := by decide +kernel
theorem dX12_addsAhead_199 : decode cX12_addsAhead 199 = .ok (.aload_n 0, 1) := by decide +kernel
theorem dX12_addsAhead_200 : decode cX12_addsAhead 200 = .ok (.getfield 17, 3) := by decide +kernel
theorem dX12_addsAhead_203 : decode cX12_addsAhead 203 = .ok (.iload 6, 2) := by decide +kernel
theorem dX12_addsAhead_205 : decode cX12_addsAhead 205 = .ok (.iload_n 2, 1) := by decide +kernel
theorem dX12_addsAhead_206 : decode cX12_addsAhead 206 = .ok (.iastore, 1) := by decide +kernel
theorem dX12_addsAhead_207 : decode cX12_addsAhead 207 = .ok (.aload_n 0, 1) := by decide +kernel
theorem dX12_addsAhead_208 : decode cX12_addsAhead 208 = .ok (.getfield 20, 3) := by decide +kernel
theorem dX12_addsAhead_211 : decode cX12_addsAhead 211 = .ok (.iload 6, 2) := by decide +kernel
theorem dX12_addsAhead_213 : decode cX12_addsAhead 213 = .ok (.iload_n 3, 1) := by decide +kernel
theorem dX12_addsAhead_214 : decode cX12_addsAhead 214 = .ok (.iastore, 1) := by decide +kernel
theorem dX12_addsAhead_215 : decode cX12_addsAhead 215 = .ok (.aload_n 0, 1) := by decide +kernel
theorem dX12_addsAhead_216 : decode cX12_addsAhead 216 = .ok (.getfield 23, 3) := by decide +kernel
theorem dX12_addsAhead_219 : decode cX12_addsAhead 219 = .ok (.iload 6, 2) := by decide +kernel
theorem dX12_addsAhead_221 : decode cX12_addsAhead 221 = .ok (.iload 4, 2) := by decide +kernel
theorem dX12_addsAhead_223 : decode cX12_addsAhead 223 = .ok (.iastore, 1) := by decide +kernel
theorem dX12_addsAhead_224 : decode cX12_addsAhead 224 = .ok (.aload_n 0, 1) := by decide +kernel
theorem dX12_addsAhead_225 : decode cX12_addsAhead 225 = .ok (.getfield 26, 3) := by decide +kernel
theorem dX12_addsAhead_228 : decode cX12_addsAhead 228 = .ok (.iload 6, 2) := by decide +kernel
theorem dX12_addsAhead_230 : decode cX12_addsAhead 230 = .ok (.iload_n 1, 1) := by decide +kernel
theorem dX12_addsAhead_231 : decode cX12_addsAhead 231 = .ok (.iconst 1, 1) := by decide +kernel
theorem dX12_addsAhead_232 : decode cX12_addsAhead 232 = .ok (.iadd, 1) := by decide +kernel
theorem dX12_addsAhead_233 : decode cX12_addsAhead 233 = .ok (.iastore, 1) := by decide +kernel
theorem dX12_addsAhead_234 : decode cX12_addsAhead 234 = .ok (.aload_n 0, 1) := by decide +kernel
theorem dX12_addsAhead_235 : decode cX12_addsAhead 235 = .ok (.getfield 29, 3) := by decide +kernel
theorem dX12_addsAhead_238 : decode cX12_addsAhead 238 = .ok (.iload 6, 2) := by decide +kernel
theorem dX12_addsAhead_240 : decode cX12_addsAhead 240 = .ok (.iconst (-1), 1) := by decide +kernel
theorem dX12_addsAhead_241 : decode cX12_addsAhead 241 = .ok (.iastore, 1) := by decide +kernel
theorem dX12_addsAhead_242 : decode cX12_addsAhead 242 = .ok (.aload_n 0, 1) := by decide +kernel
theorem dX12_addsAhead_243 : decode cX12_addsAhead 243 = .ok (.getfield 23, 3) := by decide +kernel
theorem dX12_addsAhead_246 : decode cX12_addsAhead 246 = .ok (.iload 6, 2) := by decide +kernel
theorem dX12_addsAhead_248 : decode cX12_addsAhead 248 = .ok (.iconst 1, 1) := by decide +kernel
theorem dX12_addsAhead_249 : decode cX12_addsAhead 249 = .ok (.iadd, 1) := by decide +kernel
theorem dX12_addsAhead_250 : decode cX12_addsAhead 250 = .ok (.iload_n 1, 1) := by decide +kernel
theorem dX12_addsAhead_251 : decode cX12_addsAhead 251 = .ok (.iastore, 1) := by decide +kernel
theorem dX12_addsAhead_252 : decode cX12_addsAhead 252 = .ok (.iload_n 1, 1) := by decide +kernel
theorem dX12_addsAhead_253 : decode cX12_addsAhead 253 = .ok (.ireturn, 1) := by decide +kernel
theorem dX12_part_0 : decode cX12_part 0 = .ok (.aload_n 0, 1) := by decide +kernel
theorem dX12_part_1 : decode cX12_part 1 = .ok (.getfield 144, 3) := by decide +kernel
theorem dX12_part_4 : decode cX12_part 4 = .ok (.iconst 2, 1) := by decide +kernel
theorem dX12_part_5 : decode cX12_part 5 = .ok (.if_icmp .ne 20, 3) := by decide +kernel
theorem dX12_part_8 : decode cX12_part 8 = .ok (.aload_n 0, 1) := by decide +kernel
theorem dX12_part_9 : decode cX12_part 9 = .ok (.iconst 4, 1) := by decide +kernel
theorem dX12_part_10 : decode cX12_part 10 = .ok (.aload_n 0, 1) := by decide +kernel
theorem dX12_part_11 : decode cX12_part 11 = .ok (.getfield 151, 3) := by decide +kernel
theorem dX12_part_14 : decode cX12_part 14 = .ok (.iload_n 1, 1) := by decide +kernel
theorem dX12_part_15 : decode cX12_part 15 = .ok (.invokevirtual 173, 3) := by decide +kernel
theorem dX12_part_18 : decode cX12_part 18 = .ok (.istore_n 2, 1) := by decide +kernel
theorem dX12_part_19 : decode cX12_part 19 = .ok (.aload_n 0, 1) := by decide +kernel
theorem dX12_part_20 : decode cX12_part 20 = .ok (.invokevirtual 167, 3) := by decide +kernel
theorem dX12_part_23 : decode cX12_part 23 = .ok (.iconst 1, 1) := by decide +kernel
theorem dX12_part_24 : decode cX12_part 24 = .ok (.ireturn, 1) := by decide +kernel
theorem dX12_part_25 : decode cX12_part 25 = .ok (.aload_n 0, 1) := by decide +kernel
theorem dX12_part_26 : decode cX12_part 26 = .ok (.invokevirtual 177, 3) := by decide +kernel
theorem dX12_part_29 : decode cX12_part 29 = .ok (.istore_n 2, 1) := by decide +kernel
theorem dX12_part_30 : decode cX12_part 30 = .ok (.iload_n 2, 1) := by decide +kernel
theorem dX12_part_31 : decode cX12_part 31 = .ok (.iconst (-1), 1) := by decide +kernel
theorem dX12_part_32 : decode cX12_part 32 = .ok (.if_icmp .eq 17, 3) := by decide +kernel
theorem dX12_part_35 : decode cX12_part 35 = .ok (.aload_n 0, 1) := by decide +kernel
theorem dX12_part_36 : decode cX12_part 36 = .ok (.iconst 5, 1) := by decide +kernel
theorem dX12_part_37 : decode cX12_part 37 = .ok (.iload_n 2, 1) := by decide +kernel
theorem dX12_part_38 : decode cX12_part 38 = .ok (.iload_n 1, 1) := by decide +kernel
theorem dX12_part_39 : decode cX12_part 39 = .ok (.invokevirtual 173, 3) := by decide +kernel
theorem dX12_part_42 : decode cX12_part 42 = .ok (.istore_n 3, 1) := by decide +kernel
theorem dX12_part_43 : decode cX12_part 43 = .ok (.aload_n 0, 1) := by decide +kernel
theorem dX12_part_44 : decode cX12_part 44 = .ok (.invokevirtual 167, 3) := by decide +kernel
theorem dX12_part_47 : decode cX12_part 47 = .ok (.iconst 1, 1) := by decide +kernel
theorem dX12_part_48 : decode cX12_part 48 = .ok (.ireturn, 1) := by decide +kernel
theorem dX12_part_49 : decode cX12_part 49 = .ok (.aload_n 0, 1) := by decide +kernel
theorem dX12_part_50 : decode cX12_part 50 = .ok (.bipush 45, 2) := by decide +kernel
theorem dX12_part_52 : decode cX12_part 52 = .ok (.invokevirtual 161, 3) := by decide +kernel
theorem dX12_part_55 : decode cX12_part 55 = .ok (.ifCond .ne 18, 3) := by decide +kernel
theorem dX12_part_58 : decode cX12_part 58 = .ok (.aload_n 0, 1) := by decide +kernel
theorem dX12_part_59 : decode cX12_part 59 = .ok (.bipush 40, 2) := by decide +kernel
theorem dX12_part_61 : decode cX12_part 61 = .ok (.invokevirtual 161, 3) := by decide +kernel
theorem dX12_part_64 : decode cX12_part 64 = .ok (.ifCond .ne 9, 3) := by decide +kernel
theorem dX12_part_67 : decode cX12_part 67 = .ok (.aload_n 0, 1) := by decide +kernel
theorem dX12_part_68 : decode cX12_part 68 = .ok (.iconst 1, 1) := by decide +kernel
theorem dX12_part_69 : decode cX12_part 69 = .ok (.invokevirtual 164, 3) := by decide +kernel
theorem dX12_part_72 : decode cX12_part 72 = .ok (.ireturn, 1) := by decide +kernel
theorem dX12_part_73 : decode cX12_part 73 = .ok (.aload_n 0, 1) := by decide +kernel
theorem dX12_part_74 : decode cX12_part 74 = .ok (.getfield 181, 3) := by decide +kernel
theorem dX12_part_77 : decode cX12_part 77 = .ok (.bipush 8, 2) := by decide +kernel
theorem dX12_part_79 : decode cX12_part 79 = .ok (.if_icmp .ne 9, 3) := by decide +kernel
theorem dX12_part_82 : decode cX12_part 82 = .ok (.aload_n 0, 1) := by decide +kernel
theorem dX12_part_83 : decode cX12_part 83 = .ok (.iconst 2, 1) := by decide +kernel
theorem dX12_part_84 : decode cX12_part 84 = .ok (.invokevirtual 164, 3) := by decide +kernel
theorem dX12_part_87 : decode cX12_part 87 = .ok (.ireturn, 1) := by decide +kernel
theorem dX12_part_88 : decode cX12_part 88 = .ok (.aload_n 0, 1) := by decide +kernel
theorem dX12_part_89 : decode cX12_part 89 = .ok (.dup, 1) := by decide +kernel
theorem dX12_part_90 : decode cX12_part 90 = .ok (.getfield 181, 3) := by decide +kernel
theorem dX12_part_93 : decode cX12_part 93 = .ok (.iconst 1, 1) := by decide +kernel
theorem dX12_part_94 : decode cX12_part 94 = .ok (.iadd, 1) := by decide +kernel
theorem dX12_part_95 : decode cX12_part 95 = .ok (.putfield 181, 3) := by decide +kernel
theorem dX12_part_98 : decode cX12_part 98 = .ok (.aload_n 0, 1) := by decide +kernel
theorem dX12_part_99 : decode cX12_part 99 = .ok (.bipush 45, 2) := by decide +kernel
theorem dX12_part_101 : decode cX12_part 101 = .ok (.invokevirtual 161, 3) := by decide +kernel
theorem dX12_part_104 : decode cX12_part 104 = .ok (.istore_n 3, 1) := by decide +kernel
theorem dX12_part_105 : decode cX12_part 105 = .ok (.aload_n 0, 1) := by decide +kernel
theorem dX12_part_106 : decode cX12_part 106 = .ok (.invokevirtual 167, 3) := by decide +kernel
theorem dX12_part_109 : decode cX12_part 109 = .ok (.iload_n 3, 1) := by decide +kernel
theorem dX12_part_110 : decode cX12_part 110 = .ok (.ifCond .eq 38, 3) := by decide +kernel
theorem dX12_part_113 : decode cX12_part 113 = .ok (.aload_n 0, 1) := by decide +kernel
theorem dX12_part_114 : decode cX12_part 114 = .ok (.bipush 6, 2) := by decide +kernel
theorem dX12_part_116 : decode cX12_part 116 = .ok (.iconst 0, 1) := by decide +kernel
theorem dX12_part_117 : decode cX12_part 117 = .ok (.iload_n 1, 1) := by decide +kernel
theorem dX12_part_118 : decode cX12_part 118 = .ok (.invokevirtual 173, 3) := by decide +kernel
theorem dX12_part_121 : decode cX12_part 121 = .ok (.istore 5, 2) := by decide +kernel
theorem dX12_part_123 : decode cX12_part 123 = .ok (.aload_n 0, 1) := by decide +kernel
theorem dX12_part_124 : decode cX12_part 124 = .ok (.getfield 26, 3) := by decide +kernel
theorem dX12_part_127 : decode cX12_part 127 = .ok (.bipush 100, 2) := by decide +kernel
theorem dX12_part_129 : decode cX12_part 129 = .ok (.iload 5, 2) := by decide +kernel
theorem dX12_part_131 : decode cX12_part 131 = .ok (.iadd, 1) := by decide +kernel
theorem dX12_part_132 : decode cX12_part 132 = .ok (.aload_n 0, 1) := by decide +kernel
theorem dX12_part_133 : decode cX12_part 133 = .ok (.getfield 170, 3) := by decide +kernel
theorem dX12_part_136 : decode cX12_part 136 = .ok (.iastore, 1) := by decide +kernel
theorem dX12_part_137 : decode cX12_part 137 = .ok (.aload_n 0, 1) := by decide +kernel
theorem dX12_part_138 : decode cX12_part 138 = .ok (.iload 5, 2) := by decide +kernel
theorem dX12_part_140 : decode cX12_part 140 = .ok (.invokevirtual 184, 3) := by decide +kernel
theorem dX12_part_143 : decode cX12_part 143 = .ok (.istore 4, 2) := by decide +kernel
theorem dX12_part_145 : decode cX12_part 145 = .ok (.goto 27, 3) := by decide +kernel
theorem dX12_part_148 : decode cX12_part 148 = .ok (.aload_n 0, 1) := by decide +kernel
theorem dX12_part_149 : decode cX12_part 149 = .ok (.iload_n 1, 1) := by decide +kernel
theorem dX12_part_150 : decode cX12_part 150 = .ok (.invokevirtual 187, 3) := by decide +kernel
theorem dX12_part_153 : decode cX12_part 153 = .ok (.ifCond .eq 16, 3) := by decide +kernel
theorem dX12_part_156 : decode cX12_part 156 = .ok (.aload_n 0, 1) := by decide +kernel
theorem dX12_part_157 : decode cX12_part 157 = .ok (.bipush 41, 2) := by decide +kernel
theorem dX12_part_159 : decode cX12_part 159 = .ok (.invokevirtual 190, 3) := by decide +kernel
theorem dX12_part_162 : decode cX12_part 162 = .ok (.ifCond .eq 7, 3) := by decide +kernel
theorem dX12_part_165 : decode cX12_part 165 = .ok (.iconst 1, 1) := by decide +kernel
theorem dX12_part_166 : decode cX12_part 166 = .ok (.goto 4, 3) := by decide +kernel
theorem dX12_part_169 : decode cX12_part 169 = .ok (.iconst 0, 1) := by decide +kernel
theorem dX12_part_170 : decode cX12_part 170 = .ok (.istore 4, 2) := by decide +kernel
theorem dX12_part_172 : decode cX12_part 172 = .ok (.aload_n 0, 1) := by decide +kernel
theorem dX12_part_173 : decode cX12_part 173 = .ok (.dup, 1) := by decide +kernel
theorem dX12_part_174 : decode cX12_part 174 = .ok (.getfield 181, 3) := by decide +kernel
theorem dX12_part_177 : decode cX12_part 177 = .ok (.iconst 1, 1) := by decide +kernel
theorem dX12_part_178 : decode cX12_part 178 = .ok (.isub, 1) := by decide +kernel
theorem dX12_part_179 : decode cX12_part 179 = .ok (.putfield 181, 3) := by decide +kernel
theorem dX12_part_182 : decode cX12_part 182 = .ok (.iload 4, 2) := by decide +kernel
theorem dX12_part_184 : decode cX12_part 184 = .ok (.ireturn, 1) := by decide +kernel
theorem dX12_signOf_0 : decode cX12_signOf 0 = .ok (.iload_n 0, 1) := by decide +kernel
theorem dX12_signOf_1 : decode cX12_signOf 1 = .ok (.lookupswitch 126 #[(37, 107), (42, 103), (43, 99), (45, 101), (47, 105), (60, 109), (62, 120), (300, 111), (301, 123), (302, 114), (303, 117)], 99) := by decide +kernel
theorem dX12_signOf_100 : decode cX12_signOf 100 = .ok (.iconst 0, 1) := by decide +kernel
theorem dX12_signOf_101 : decode cX12_signOf 101 = .ok (.ireturn, 1) := by decide +kernel
theorem dX12_signOf_102 : decode cX12_signOf 102 = .ok (.iconst 1, 1) := by decide +kernel
theorem dX12_signOf_103 : decode cX12_signOf 103 = .ok (.ireturn, 1) := by decide +kernel
theorem dX12_signOf_104 : decode cX12_signOf 104 = .ok (.iconst 2, 1) := by decide +kernel
theorem dX12_signOf_105 : decode cX12_signOf 105 = .ok (.ireturn, 1) := by decide +kernel
theorem dX12_signOf_106 : decode cX12_signOf 106 = .ok (.iconst 3, 1) := by decide +kernel
theorem dX12_signOf_107 : decode cX12_signOf 107 = .ok (.ireturn, 1) := by decide +kernel
theorem dX12_signOf_108 : decode cX12_signOf 108 = .ok (.iconst 4, 1) := by decide +kernel
theorem dX12_signOf_109 : decode cX12_signOf 109 = .ok (.ireturn, 1) := by decide +kernel
theorem dX12_signOf_110 : decode cX12_signOf 110 = .ok (.iconst 5, 1) := by decide +kernel
theorem dX12_signOf_111 : decode cX12_signOf 111 = .ok (.ireturn, 1) := by decide +kernel
theorem dX12_signOf_112 : decode cX12_signOf 112 = .ok (.bipush 6, 2) := by decide +kernel
theorem dX12_signOf_114 : decode cX12_signOf 114 = .ok (.ireturn, 1) := by decide +kernel
theorem dX12_signOf_115 : decode cX12_signOf 115 = .ok (.bipush 7, 2) := by decide +kernel
theorem dX12_signOf_117 : decode cX12_signOf 117 = .ok (.ireturn, 1) := by decide +kernel
theorem dX12_signOf_118 : decode cX12_signOf 118 = .ok (.bipush 8, 2) := by decide +kernel
theorem dX12_signOf_120 : decode cX12_signOf 120 = .ok (.ireturn, 1) := by decide +kernel
theorem dX12_signOf_121 : decode cX12_signOf 121 = .ok (.bipush 9, 2) := by decide +kernel
theorem dX12_signOf_123 : decode cX12_signOf 123 = .ok (.ireturn, 1) := by decide +kernel
theorem dX12_signOf_124 : decode cX12_signOf 124 = .ok (.bipush 10, 2) := by decide +kernel
theorem dX12_signOf_126 : decode cX12_signOf 126 = .ok (.ireturn, 1) := by decide +kernel
theorem dX12_signOf_127 : decode cX12_signOf 127 = .ok (.iconst (-1), 1) := by decide +kernel
theorem dX12_signOf_128 : decode cX12_signOf 128 = .ok (.ireturn, 1) := by decide +kernel
theorem dX12_isOf_0 : decode cX12_isOf 0 = .ok (.aload_n 0, 1) := by decide +kernel
theorem dX12_isOf_1 : decode cX12_isOf 1 = .ok (.getfield 144, 3) := by decide +kernel
theorem dX12_isOf_4 : decode cX12_isOf 4 = .ok (.iconst 3, 1) := by decide +kernel
theorem dX12_isOf_5 : decode cX12_isOf 5 = .ok (.if_icmp .ne 22, 3) := by decide +kernel
theorem dX12_isOf_8 : decode cX12_isOf 8 = .ok (.aload_n 0, 1) := by decide +kernel
theorem dX12_isOf_9 : decode cX12_isOf 9 = .ok (.getfield 151, 3) := by decide +kernel
theorem dX12_isOf_12 : decode cX12_isOf 12 = .ok (.invokestatic 193, 3) := by decide +kernel
theorem dX12_isOf_15 : decode cX12_isOf 15 = .ok (.iload_n 1, 1) := by decide +kernel
theorem dX12_isOf_16 : decode cX12_isOf 16 = .ok (.iload_n 2, 1) := by decide +kernel
theorem dX12_isOf_17 : decode cX12_isOf 17 = .ok (.invokestatic 147, 3) := by decide +kernel
theorem dX12_isOf_20 : decode cX12_isOf 20 = .ok (.ifCond .eq 7, 3) := by decide +kernel
theorem dX12_isOf_23 : decode cX12_isOf 23 = .ok (.iconst 1, 1) := by decide +kernel
theorem dX12_isOf_24 : decode cX12_isOf 24 = .ok (.goto 4, 3) := by decide +kernel
theorem dX12_isOf_27 : decode cX12_isOf 27 = .ok (.iconst 0, 1) := by decide +kernel
theorem dX12_isOf_28 : decode cX12_isOf 28 = .ok (.ireturn, 1) := by decide +kernel
theorem dX12_joins_0 : decode cX12_joins 0 = .ok (.aload_n 0, 1) := by decide +kernel
theorem dX12_joins_1 : decode cX12_joins 1 = .ok (.iload_n 1, 1) := by decide +kernel
theorem dX12_joins_2 : decode cX12_joins 2 = .ok (.bipush 7, 2) := by decide +kernel
theorem dX12_joins_4 : decode cX12_joins 4 = .ok (.aload_n 0, 1) := by decide +kernel
theorem dX12_joins_5 : decode cX12_joins 5 = .ok (.getfield 151, 3) := by decide +kernel
theorem dX12_joins_8 : decode cX12_joins 8 = .ok (.invokestatic 193, 3) := by decide +kernel
theorem dX12_joins_11 : decode cX12_joins 11 = .ok (.iload_n 2, 1) := by decide +kernel
theorem dX12_joins_12 : decode cX12_joins 12 = .ok (.invokevirtual 196, 3) := by decide +kernel
theorem dX12_joins_15 : decode cX12_joins 15 = .ok (.istore_n 3, 1) := by decide +kernel
theorem dX12_joins_16 : decode cX12_joins 16 = .ok (.aload_n 0, 1) := by decide +kernel
theorem dX12_joins_17 : decode cX12_joins 17 = .ok (.invokevirtual 167, 3) := by decide +kernel
theorem dX12_joins_20 : decode cX12_joins 20 = .ok (.aload_n 0, 1) := by decide +kernel
theorem dX12_joins_21 : decode cX12_joins 21 = .ok (.getfield 29, 3) := by decide +kernel
theorem dX12_joins_24 : decode cX12_joins 24 = .ok (.bipush 100, 2) := by decide +kernel
theorem dX12_joins_26 : decode cX12_joins 26 = .ok (.iload_n 3, 1) := by decide +kernel
theorem dX12_joins_27 : decode cX12_joins 27 = .ok (.iadd, 1) := by decide +kernel
theorem dX12_joins_28 : decode cX12_joins 28 = .ok (.aload_n 0, 1) := by decide +kernel
theorem dX12_joins_29 : decode cX12_joins 29 = .ok (.getfield 170, 3) := by decide +kernel
theorem dX12_joins_32 : decode cX12_joins 32 = .ok (.iastore, 1) := by decide +kernel
theorem dX12_joins_33 : decode cX12_joins 33 = .ok (.iload_n 3, 1) := by decide +kernel
theorem dX12_joins_34 : decode cX12_joins 34 = .ok (.ireturn, 1) := by decide +kernel
theorem dX12_term_0 : decode cX12_term 0 = .ok (.aload_n 0, 1) := by decide +kernel
theorem dX12_term_1 : decode cX12_term 1 = .ok (.getfield 170, 3) := by decide +kernel
theorem dX12_term_4 : decode cX12_term 4 = .ok (.istore_n 2, 1) := by decide +kernel
theorem dX12_term_5 : decode cX12_term 5 = .ok (.aload_n 0, 1) := by decide +kernel
theorem dX12_term_6 : decode cX12_term 6 = .ok (.iload_n 1, 1) := by decide +kernel
theorem dX12_term_7 : decode cX12_term 7 = .ok (.invokevirtual 184, 3) := by decide +kernel
theorem dX12_term_10 : decode cX12_term 10 = .ok (.istore_n 3, 1) := by decide +kernel
theorem dX12_term_11 : decode cX12_term 11 = .ok (.iload_n 3, 1) := by decide +kernel
theorem dX12_term_12 : decode cX12_term 12 = .ok (.ifCond .eq 26, 3) := by decide +kernel
theorem dX12_term_15 : decode cX12_term 15 = .ok (.aload_n 0, 1) := by decide +kernel
theorem dX12_term_16 : decode cX12_term 16 = .ok (.iconst 2, 1) := by decide +kernel
theorem dX12_term_17 : decode cX12_term 17 = .ok (.iconst 4, 1) := by decide +kernel
theorem dX12_term_18 : decode cX12_term 18 = .ok (.invokevirtual 200, 3) := by decide +kernel
theorem dX12_term_21 : decode cX12_term 21 = .ok (.ifCond .eq 17, 3) := by decide +kernel
theorem dX12_term_24 : decode cX12_term 24 = .ok (.aload_n 0, 1) := by decide +kernel
theorem dX12_term_25 : decode cX12_term 25 = .ok (.aload_n 0, 1) := by decide +kernel
theorem dX12_term_26 : decode cX12_term 26 = .ok (.iload_n 2, 1) := by decide +kernel
theorem dX12_term_27 : decode cX12_term 27 = .ok (.iload_n 1, 1) := by decide +kernel
theorem dX12_term_28 : decode cX12_term 28 = .ok (.invokevirtual 204, 3) := by decide +kernel
theorem dX12_term_31 : decode cX12_term 31 = .ok (.invokevirtual 184, 3) := by decide +kernel
theorem dX12_term_34 : decode cX12_term 34 = .ok (.istore_n 3, 1) := by decide +kernel
theorem dX12_term_35 : decode cX12_term 35 = .ok (.goto (-24), 3) := by decide +kernel
theorem dX12_term_38 : decode cX12_term 38 = .ok (.iload_n 3, 1) := by decide +kernel
theorem dX12_term_39 : decode cX12_term 39 = .ok (.ireturn, 1) := by decide +kernel
theorem dX12_sum_0 : decode cX12_sum 0 = .ok (.aload_n 0, 1) := by decide +kernel
theorem dX12_sum_1 : decode cX12_sum 1 = .ok (.getfield 170, 3) := by decide +kernel
theorem dX12_sum_4 : decode cX12_sum 4 = .ok (.istore_n 2, 1) := by decide +kernel
theorem dX12_sum_5 : decode cX12_sum 5 = .ok (.aload_n 0, 1) := by decide +kernel
theorem dX12_sum_6 : decode cX12_sum 6 = .ok (.iload_n 1, 1) := by decide +kernel
theorem dX12_sum_7 : decode cX12_sum 7 = .ok (.invokevirtual 208, 3) := by decide +kernel
theorem dX12_sum_10 : decode cX12_sum 10 = .ok (.istore_n 3, 1) := by decide +kernel
theorem dX12_sum_11 : decode cX12_sum 11 = .ok (.iload_n 3, 1) := by decide +kernel
theorem dX12_sum_12 : decode cX12_sum 12 = .ok (.ifCond .eq 26, 3) := by decide +kernel
theorem dX12_sum_15 : decode cX12_sum 15 = .ok (.aload_n 0, 1) := by decide +kernel
theorem dX12_sum_16 : decode cX12_sum 16 = .ok (.iconst 0, 1) := by decide +kernel
theorem dX12_sum_17 : decode cX12_sum 17 = .ok (.iconst 1, 1) := by decide +kernel
theorem dX12_sum_18 : decode cX12_sum 18 = .ok (.invokevirtual 200, 3) := by decide +kernel
theorem dX12_sum_21 : decode cX12_sum 21 = .ok (.ifCond .eq 17, 3) := by decide +kernel
theorem dX12_sum_24 : decode cX12_sum 24 = .ok (.aload_n 0, 1) := by decide +kernel
theorem dX12_sum_25 : decode cX12_sum 25 = .ok (.aload_n 0, 1) := by decide +kernel
theorem dX12_sum_26 : decode cX12_sum 26 = .ok (.iload_n 2, 1) := by decide +kernel
theorem dX12_sum_27 : decode cX12_sum 27 = .ok (.iload_n 1, 1) := by decide +kernel
theorem dX12_sum_28 : decode cX12_sum 28 = .ok (.invokevirtual 204, 3) := by decide +kernel
theorem dX12_sum_31 : decode cX12_sum 31 = .ok (.invokevirtual 208, 3) := by decide +kernel
theorem dX12_sum_34 : decode cX12_sum 34 = .ok (.istore_n 3, 1) := by decide +kernel
theorem dX12_sum_35 : decode cX12_sum 35 = .ok (.goto (-24), 3) := by decide +kernel
theorem dX12_sum_38 : decode cX12_sum 38 = .ok (.iload_n 3, 1) := by decide +kernel
theorem dX12_sum_39 : decode cX12_sum 39 = .ok (.ireturn, 1) := by decide +kernel
theorem dX12_e_0 : decode cX12_e 0 = .ok (.aload_n 0, 1) := by decide +kernel
theorem dX12_e_1 : decode cX12_e 1 = .ok (.getfield 170, 3) := by decide +kernel
theorem dX12_e_4 : decode cX12_e 4 = .ok (.istore_n 2, 1) := by decide +kernel
theorem dX12_e_5 : decode cX12_e 5 = .ok (.aload_n 0, 1) := by decide +kernel
theorem dX12_e_6 : decode cX12_e 6 = .ok (.iload_n 1, 1) := by decide +kernel
theorem dX12_e_7 : decode cX12_e 7 = .ok (.invokevirtual 211, 3) := by decide +kernel
theorem dX12_e_10 : decode cX12_e 10 = .ok (.istore_n 3, 1) := by decide +kernel
theorem dX12_e_11 : decode cX12_e 11 = .ok (.iload_n 3, 1) := by decide +kernel
theorem dX12_e_12 : decode cX12_e 12 = .ok (.ifCond .eq 24, 3) := by decide +kernel
theorem dX12_e_15 : decode cX12_e 15 = .ok (.aload_n 0, 1) := by decide +kernel
theorem dX12_e_16 : decode cX12_e 16 = .ok (.iconst 5, 1) := by decide +kernel
theorem dX12_e_17 : decode cX12_e 17 = .ok (.bipush 10, 2) := by decide +kernel
theorem dX12_e_19 : decode cX12_e 19 = .ok (.invokevirtual 200, 3) := by decide +kernel
theorem dX12_e_22 : decode cX12_e 22 = .ok (.ifCond .eq 14, 3) := by decide +kernel
theorem dX12_e_25 : decode cX12_e 25 = .ok (.aload_n 0, 1) := by decide +kernel
theorem dX12_e_26 : decode cX12_e 26 = .ok (.aload_n 0, 1) := by decide +kernel
theorem dX12_e_27 : decode cX12_e 27 = .ok (.iload_n 2, 1) := by decide +kernel
theorem dX12_e_28 : decode cX12_e 28 = .ok (.iload_n 1, 1) := by decide +kernel
theorem dX12_e_29 : decode cX12_e 29 = .ok (.invokevirtual 204, 3) := by decide +kernel
theorem dX12_e_32 : decode cX12_e 32 = .ok (.invokevirtual 211, 3) := by decide +kernel
theorem dX12_e_35 : decode cX12_e 35 = .ok (.istore_n 3, 1) := by decide +kernel
theorem dX12_e_36 : decode cX12_e 36 = .ok (.iload_n 3, 1) := by decide +kernel
theorem dX12_e_37 : decode cX12_e 37 = .ok (.ireturn, 1) := by decide +kernel
theorem dX12_row_0 : decode cX12_row 0 = .ok (.iconst (-1), 1) := by decide +kernel
theorem dX12_row_1 : decode cX12_row 1 = .ok (.istore 4, 2) := by decide +kernel
theorem dX12_row_3 : decode cX12_row 3 = .ok (.iconst 1, 1) := by decide +kernel
theorem dX12_row_4 : decode cX12_row 4 = .ok (.istore 5, 2) := by decide +kernel
theorem dX12_row_6 : decode cX12_row 6 = .ok (.iload 5, 2) := by decide +kernel
theorem dX12_row_8 : decode cX12_row 8 = .ok (.ifCond .eq 99, 3) := by decide +kernel
theorem dX12_row_11 : decode cX12_row 11 = .ok (.iload_n 3, 1) := by decide +kernel
theorem dX12_row_12 : decode cX12_row 12 = .ok (.ifCond .eq 15, 3) := by decide +kernel
theorem dX12_row_15 : decode cX12_row 15 = .ok (.aload_n 0, 1) := by decide +kernel
theorem dX12_row_16 : decode cX12_row 16 = .ok (.bipush 125, 2) := by decide +kernel
theorem dX12_row_18 : decode cX12_row 18 = .ok (.invokevirtual 161, 3) := by decide +kernel
theorem dX12_row_21 : decode cX12_row 21 = .ok (.ifCond .eq 19, 3) := by decide +kernel
theorem dX12_row_24 : decode cX12_row 24 = .ok (.goto 83, 3) := by decide +kernel
theorem dX12_row_27 : decode cX12_row 27 = .ok (.aload_n 0, 1) := by decide +kernel
theorem dX12_row_28 : decode cX12_row 28 = .ok (.getfield 144, 3) := by decide +kernel
theorem dX12_row_31 : decode cX12_row 31 = .ok (.ifCond .ne 9, 3) := by decide +kernel
theorem dX12_row_34 : decode cX12_row 34 = .ok (.iload 4, 2) := by decide +kernel
theorem dX12_row_36 : decode cX12_row 36 = .ok (.iconst (-1), 1) := by decide +kernel
theorem dX12_row_37 : decode cX12_row 37 = .ok (.if_icmp .ne 70, 3) := by decide +kernel
theorem dX12_row_40 : decode cX12_row 40 = .ok (.aload_n 0, 1) := by decide +kernel
theorem dX12_row_41 : decode cX12_row 41 = .ok (.getfield 170, 3) := by decide +kernel
theorem dX12_row_44 : decode cX12_row 44 = .ok (.istore 6, 2) := by decide +kernel
theorem dX12_row_46 : decode cX12_row 46 = .ok (.aload_n 0, 1) := by decide +kernel
theorem dX12_row_47 : decode cX12_row 47 = .ok (.iload_n 1, 1) := by decide +kernel
theorem dX12_row_48 : decode cX12_row 48 = .ok (.invokevirtual 214, 3) := by decide +kernel
theorem dX12_row_51 : decode cX12_row 51 = .ok (.istore 5, 2) := by decide +kernel
theorem dX12_row_53 : decode cX12_row 53 = .ok (.iload 5, 2) := by decide +kernel
theorem dX12_row_55 : decode cX12_row 55 = .ok (.ifCond .eq 22, 3) := by decide +kernel
theorem dX12_row_58 : decode cX12_row 58 = .ok (.iload 4, 2) := by decide +kernel
theorem dX12_row_60 : decode cX12_row 60 = .ok (.iconst (-1), 1) := by decide +kernel
theorem dX12_row_61 : decode cX12_row 61 = .ok (.if_icmp .ne 16, 3) := by decide +kernel
theorem dX12_row_64 : decode cX12_row 64 = .ok (.iload_n 1, 1) := by decide +kernel
theorem dX12_row_65 : decode cX12_row 65 = .ok (.iconst (-1), 1) := by decide +kernel
theorem dX12_row_66 : decode cX12_row 66 = .ok (.if_icmp .eq 11, 3) := by decide +kernel
theorem dX12_row_69 : decode cX12_row 69 = .ok (.aload_n 2, 1) := by decide +kernel
theorem dX12_row_70 : decode cX12_row 70 = .ok (.bipush 100, 2) := by decide +kernel
theorem dX12_row_72 : decode cX12_row 72 = .ok (.iload_n 1, 1) := by decide +kernel
theorem dX12_row_73 : decode cX12_row 73 = .ok (.iadd, 1) := by decide +kernel
theorem dX12_row_74 : decode cX12_row 74 = .ok (.iload 6, 2) := by decide +kernel
theorem dX12_row_76 : decode cX12_row 76 = .ok (.iastore, 1) := by decide +kernel
theorem dX12_row_77 : decode cX12_row 77 = .ok (.iload 5, 2) := by decide +kernel
theorem dX12_row_79 : decode cX12_row 79 = .ok (.ifCond .eq 21, 3) := by decide +kernel
theorem dX12_row_82 : decode cX12_row 82 = .ok (.iload 4, 2) := by decide +kernel
theorem dX12_row_84 : decode cX12_row 84 = .ok (.iconst (-1), 1) := by decide +kernel
theorem dX12_row_85 : decode cX12_row 85 = .ok (.if_icmp .eq 15, 3) := by decide +kernel
theorem dX12_row_88 : decode cX12_row 88 = .ok (.aload_n 0, 1) := by decide +kernel
theorem dX12_row_89 : decode cX12_row 89 = .ok (.getfield 38, 3) := by decide +kernel
theorem dX12_row_92 : decode cX12_row 92 = .ok (.bipush 100, 2) := by decide +kernel
theorem dX12_row_94 : decode cX12_row 94 = .ok (.iload 4, 2) := by decide +kernel
theorem dX12_row_96 : decode cX12_row 96 = .ok (.iadd, 1) := by decide +kernel
theorem dX12_row_97 : decode cX12_row 97 = .ok (.iload 6, 2) := by decide +kernel
theorem dX12_row_99 : decode cX12_row 99 = .ok (.iastore, 1) := by decide +kernel
theorem dX12_row_100 : decode cX12_row 100 = .ok (.iload 6, 2) := by decide +kernel
theorem dX12_row_102 : decode cX12_row 102 = .ok (.istore 4, 2) := by decide +kernel
theorem dX12_row_104 : decode cX12_row 104 = .ok (.goto (-98), 3) := by decide +kernel
theorem dX12_row_107 : decode cX12_row 107 = .ok (.iload 5, 2) := by decide +kernel
theorem dX12_row_109 : decode cX12_row 109 = .ok (.ireturn, 1) := by decide +kernel
theorem dX12_block_0 : decode cX12_block 0 = .ok (.aload_n 0, 1) := by decide +kernel
theorem dX12_block_1 : decode cX12_block 1 = .ok (.bipush 123, 2) := by decide +kernel
theorem dX12_block_3 : decode cX12_block 3 = .ok (.invokevirtual 161, 3) := by decide +kernel
theorem dX12_block_6 : decode cX12_block 6 = .ok (.ifCond .ne 9, 3) := by decide +kernel
theorem dX12_block_9 : decode cX12_block 9 = .ok (.aload_n 0, 1) := by decide +kernel
theorem dX12_block_10 : decode cX12_block 10 = .ok (.iconst 1, 1) := by decide +kernel
theorem dX12_block_11 : decode cX12_block 11 = .ok (.invokevirtual 164, 3) := by decide +kernel
theorem dX12_block_14 : decode cX12_block 14 = .ok (.ireturn, 1) := by decide +kernel
theorem dX12_block_15 : decode cX12_block 15 = .ok (.aload_n 0, 1) := by decide +kernel
theorem dX12_block_16 : decode cX12_block 16 = .ok (.getfield 217, 3) := by decide +kernel
theorem dX12_block_19 : decode cX12_block 19 = .ok (.iconst 4, 1) := by decide +kernel
theorem dX12_block_20 : decode cX12_block 20 = .ok (.if_icmp .ne 9, 3) := by decide +kernel
theorem dX12_block_23 : decode cX12_block 23 = .ok (.aload_n 0, 1) := by decide +kernel
theorem dX12_block_24 : decode cX12_block 24 = .ok (.iconst 2, 1) := by decide +kernel
theorem dX12_block_25 : decode cX12_block 25 = .ok (.invokevirtual 164, 3) := by decide +kernel
theorem dX12_block_28 : decode cX12_block 28 = .ok (.ireturn, 1) := by decide +kernel
theorem dX12_block_29 : decode cX12_block 29 = .ok (.aload_n 0, 1) := by decide +kernel
theorem dX12_block_30 : decode cX12_block 30 = .ok (.dup, 1) := by decide +kernel
theorem dX12_block_31 : decode cX12_block 31 = .ok (.getfield 217, 3) := by decide +kernel
theorem dX12_block_34 : decode cX12_block 34 = .ok (.iconst 1, 1) := by decide +kernel
theorem dX12_block_35 : decode cX12_block 35 = .ok (.iadd, 1) := by decide +kernel
theorem dX12_block_36 : decode cX12_block 36 = .ok (.putfield 217, 3) := by decide +kernel
theorem dX12_block_39 : decode cX12_block 39 = .ok (.aload_n 0, 1) := by decide +kernel
theorem dX12_block_40 : decode cX12_block 40 = .ok (.invokevirtual 167, 3) := by decide +kernel
theorem dX12_block_43 : decode cX12_block 43 = .ok (.aload_n 0, 1) := by decide +kernel
theorem dX12_block_44 : decode cX12_block 44 = .ok (.iload_n 1, 1) := by decide +kernel
theorem dX12_block_45 : decode cX12_block 45 = .ok (.aload_n 2, 1) := by decide +kernel
theorem dX12_block_46 : decode cX12_block 46 = .ok (.iconst 1, 1) := by decide +kernel
theorem dX12_block_47 : decode cX12_block 47 = .ok (.invokevirtual 220, 3) := by decide +kernel
theorem dX12_block_50 : decode cX12_block 50 = .ok (.ifCond .eq 16, 3) := by decide +kernel
theorem dX12_block_53 : decode cX12_block 53 = .ok (.aload_n 0, 1) := by decide +kernel
theorem dX12_block_54 : decode cX12_block 54 = .ok (.bipush 125, 2) := by decide +kernel
theorem dX12_block_56 : decode cX12_block 56 = .ok (.invokevirtual 190, 3) := by decide +kernel
theorem dX12_block_59 : decode cX12_block 59 = .ok (.ifCond .eq 7, 3) := by decide +kernel
theorem dX12_block_62 : decode cX12_block 62 = .ok (.iconst 1, 1) := by decide +kernel
theorem dX12_block_63 : decode cX12_block 63 = .ok (.goto 4, 3) := by decide +kernel
theorem dX12_block_66 : decode cX12_block 66 = .ok (.iconst 0, 1) := by decide +kernel
theorem dX12_block_67 : decode cX12_block 67 = .ok (.istore_n 3, 1) := by decide +kernel
theorem dX12_block_68 : decode cX12_block 68 = .ok (.aload_n 0, 1) := by decide +kernel
theorem dX12_block_69 : decode cX12_block 69 = .ok (.dup, 1) := by decide +kernel
theorem dX12_block_70 : decode cX12_block 70 = .ok (.getfield 217, 3) := by decide +kernel
theorem dX12_block_73 : decode cX12_block 73 = .ok (.iconst 1, 1) := by decide +kernel
theorem dX12_block_74 : decode cX12_block 74 = .ok (.isub, 1) := by decide +kernel
theorem dX12_block_75 : decode cX12_block 75 = .ok (.putfield 217, 3) := by decide +kernel
theorem dX12_block_78 : decode cX12_block 78 = .ok (.iload_n 3, 1) := by decide +kernel
theorem dX12_block_79 : decode cX12_block 79 = .ok (.ireturn, 1) := by decide +kernel
theorem dX12_statement_0 : decode cX12_statement 0 = .ok (.aload_n 0, 1) := by decide +kernel
theorem dX12_statement_1 : decode cX12_statement 1 = .ok (.bipush 105, 2) := by decide +kernel
theorem dX12_statement_3 : decode cX12_statement 3 = .ok (.bipush 102, 2) := by decide +kernel
theorem dX12_statement_5 : decode cX12_statement 5 = .ok (.iconst 0, 1) := by decide +kernel
theorem dX12_statement_6 : decode cX12_statement 6 = .ok (.iconst 0, 1) := by decide +kernel
theorem dX12_statement_7 : decode cX12_statement 7 = .ok (.iconst 0, 1) := by decide +kernel
theorem dX12_statement_8 : decode cX12_statement 8 = .ok (.iconst 0, 1) := by decide +kernel
theorem dX12_statement_9 : decode cX12_statement 9 = .ok (.invokevirtual 224, 3) := by decide +kernel
theorem dX12_statement_12 : decode cX12_statement 12 = .ok (.istore_n 2, 1) := by decide +kernel
theorem dX12_statement_13 : decode cX12_statement 13 = .ok (.aload_n 0, 1) := by decide +kernel
theorem dX12_statement_14 : decode cX12_statement 14 = .ok (.bipush 119, 2) := by decide +kernel
theorem dX12_statement_16 : decode cX12_statement 16 = .ok (.bipush 104, 2) := by decide +kernel
theorem dX12_statement_18 : decode cX12_statement 18 = .ok (.bipush 105, 2) := by decide +kernel
theorem dX12_statement_20 : decode cX12_statement 20 = .ok (.bipush 108, 2) := by decide +kernel
theorem dX12_statement_22 : decode cX12_statement 22 = .ok (.bipush 101, 2) := by decide +kernel
theorem dX12_statement_24 : decode cX12_statement 24 = .ok (.iconst 0, 1) := by decide +kernel
theorem dX12_statement_25 : decode cX12_statement 25 = .ok (.invokevirtual 224, 3) := by decide +kernel
theorem dX12_statement_28 : decode cX12_statement 28 = .ok (.istore_n 3, 1) := by decide +kernel
theorem dX12_statement_29 : decode cX12_statement 29 = .ok (.aload_n 0, 1) := by decide +kernel
theorem dX12_statement_30 : decode cX12_statement 30 = .ok (.bipush 114, 2) := by decide +kernel
theorem dX12_statement_32 : decode cX12_statement 32 = .ok (.bipush 101, 2) := by decide +kernel
theorem dX12_statement_34 : decode cX12_statement 34 = .ok (.bipush 116, 2) := by decide +kernel
theorem dX12_statement_36 : decode cX12_statement 36 = .ok (.bipush 117, 2) := by decide +kernel
theorem dX12_statement_38 : decode cX12_statement 38 = .ok (.bipush 114, 2) := by decide +kernel
theorem dX12_statement_40 : decode cX12_statement 40 = .ok (.bipush 110, 2) := by decide +kernel
theorem dX12_statement_42 : decode cX12_statement 42 = .ok (.invokevirtual 224, 3) := by decide +kernel
theorem dX12_statement_45 : decode cX12_statement 45 = .ok (.istore 4, 2) := by decide +kernel
theorem dX12_statement_47 : decode cX12_statement 47 = .ok (.aload_n 0, 1) := by decide +kernel
theorem dX12_statement_48 : decode cX12_statement 48 = .ok (.invokevirtual 177, 3) := by decide +kernel
theorem dX12_statement_51 : decode cX12_statement 51 = .ok (.istore 5, 2) := by decide +kernel
theorem dX12_statement_53 : decode cX12_statement 53 = .ok (.iload_n 2, 1) := by decide +kernel
theorem dX12_statement_54 : decode cX12_statement 54 = .ok (.ifCond .ne 24, 3) := by decide +kernel
theorem dX12_statement_57 : decode cX12_statement 57 = .ok (.iload_n 3, 1) := by decide +kernel
theorem dX12_statement_58 : decode cX12_statement 58 = .ok (.ifCond .ne 20, 3) := by decide +kernel
theorem dX12_statement_61 : decode cX12_statement 61 = .ok (.iload 4, 2) := by decide +kernel
theorem dX12_statement_63 : decode cX12_statement 63 = .ok (.ifCond .ne 15, 3) := by decide +kernel
theorem dX12_statement_66 : decode cX12_statement 66 = .ok (.iload 5, 2) := by decide +kernel
theorem dX12_statement_68 : decode cX12_statement 68 = .ok (.iconst (-1), 1) := by decide +kernel
theorem dX12_statement_69 : decode cX12_statement 69 = .ok (.if_icmp .ne 9, 3) := by decide +kernel
theorem dX12_statement_72 : decode cX12_statement 72 = .ok (.aload_n 0, 1) := by decide +kernel
theorem dX12_statement_73 : decode cX12_statement 73 = .ok (.iconst 1, 1) := by decide +kernel
theorem dX12_statement_74 : decode cX12_statement 74 = .ok (.invokevirtual 164, 3) := by decide +kernel
theorem dX12_statement_77 : decode cX12_statement 77 = .ok (.ireturn, 1) := by decide +kernel
theorem dX12_statement_78 : decode cX12_statement 78 = .ok (.aload_n 0, 1) := by decide +kernel
theorem dX12_statement_79 : decode cX12_statement 79 = .ok (.getfield 228, 3) := by decide +kernel
theorem dX12_statement_82 : decode cX12_statement 82 = .ok (.bipush 20, 2) := by decide +kernel
theorem dX12_statement_84 : decode cX12_statement 84 = .ok (.if_icmp .ne 9, 3) := by decide +kernel
theorem dX12_statement_87 : decode cX12_statement 87 = .ok (.aload_n 0, 1) := by decide +kernel
theorem dX12_statement_88 : decode cX12_statement 88 = .ok (.iconst 2, 1) := by decide +kernel
theorem dX12_statement_89 : decode cX12_statement 89 = .ok (.invokevirtual 164, 3) := by decide +kernel
theorem dX12_statement_92 : decode cX12_statement 92 = .ok (.ireturn, 1) := by decide +kernel
theorem dX12_statement_93 : decode cX12_statement 93 = .ok (.aload_n 0, 1) := by decide +kernel
theorem dX12_statement_94 : decode cX12_statement 94 = .ok (.dup, 1) := by decide +kernel
theorem dX12_statement_95 : decode cX12_statement 95 = .ok (.getfield 228, 3) := by decide +kernel
theorem dX12_statement_98 : decode cX12_statement 98 = .ok (.iconst 1, 1) := by decide +kernel
theorem dX12_statement_99 : decode cX12_statement 99 = .ok (.iadd, 1) := by decide +kernel
theorem dX12_statement_100 : decode cX12_statement 100 = .ok (.putfield 228, 3) := by decide +kernel
theorem dX12_statement_103 : decode cX12_statement 103 = .ok (.aload_n 0, 1) := by decide +kernel
theorem dX12_statement_104 : decode cX12_statement 104 = .ok (.iload_n 2, 1) := by decide +kernel
theorem dX12_statement_105 : decode cX12_statement 105 = .ok (.ifCond .eq 7, 3) := by decide +kernel
theorem dX12_statement_108 : decode cX12_statement 108 = .ok (.iconst 1, 1) := by decide +kernel
theorem dX12_statement_109 : decode cX12_statement 109 = .ok (.goto 21, 3) := by decide +kernel
theorem dX12_statement_112 : decode cX12_statement 112 = .ok (.iload_n 3, 1) := by decide +kernel
theorem dX12_statement_113 : decode cX12_statement 113 = .ok (.ifCond .eq 7, 3) := by decide +kernel
theorem dX12_statement_116 : decode cX12_statement 116 = .ok (.iconst 2, 1) := by decide +kernel
theorem dX12_statement_117 : decode cX12_statement 117 = .ok (.goto 13, 3) := by decide +kernel
theorem dX12_statement_120 : decode cX12_statement 120 = .ok (.iload 4, 2) := by decide +kernel
theorem dX12_statement_122 : decode cX12_statement 122 = .ok (.ifCond .eq 7, 3) := by decide +kernel
theorem dX12_statement_125 : decode cX12_statement 125 = .ok (.iconst 3, 1) := by decide +kernel
theorem dX12_statement_126 : decode cX12_statement 126 = .ok (.goto 4, 3) := by decide +kernel
theorem dX12_statement_129 : decode cX12_statement 129 = .ok (.iconst 0, 1) := by decide +kernel
theorem dX12_statement_130 : decode cX12_statement 130 = .ok (.iload 5, 2) := by decide +kernel
theorem dX12_statement_132 : decode cX12_statement 132 = .ok (.iconst (-1), 1) := by decide +kernel
theorem dX12_statement_133 : decode cX12_statement 133 = .ok (.if_icmp .ne 8, 3) := by decide +kernel
theorem dX12_statement_136 : decode cX12_statement 136 = .ok (.bipush (-100), 2) := by decide +kernel
theorem dX12_statement_138 : decode cX12_statement 138 = .ok (.goto 5, 3) := by decide +kernel
theorem dX12_statement_141 : decode cX12_statement 141 = .ok (.iload 5, 2) := by decide +kernel
theorem dX12_statement_143 : decode cX12_statement 143 = .ok (.iload_n 1, 1) := by decide +kernel
theorem dX12_statement_144 : decode cX12_statement 144 = .ok (.invokevirtual 173, 3) := by decide +kernel
theorem dX12_statement_147 : decode cX12_statement 147 = .ok (.istore 6, 2) := by decide +kernel
theorem dX12_statement_149 : decode cX12_statement 149 = .ok (.aload_n 0, 1) := by decide +kernel
theorem dX12_statement_150 : decode cX12_statement 150 = .ok (.invokevirtual 167, 3) := by decide +kernel
theorem dX12_statement_153 : decode cX12_statement 153 = .ok (.iload 5, 2) := by decide +kernel
theorem dX12_statement_155 : decode cX12_statement 155 = .ok (.iconst (-1), 1) := by decide +kernel
theorem dX12_statement_156 : decode cX12_statement 156 = .ok (.if_icmp .eq 14, 3) := by decide +kernel
theorem dX12_statement_159 : decode cX12_statement 159 = .ok (.aload_n 0, 1) := by decide +kernel
theorem dX12_statement_160 : decode cX12_statement 160 = .ok (.bipush 61, 2) := by decide +kernel
theorem dX12_statement_162 : decode cX12_statement 162 = .ok (.invokevirtual 190, 3) := by decide +kernel
theorem dX12_statement_165 : decode cX12_statement 165 = .ok (.ifCond .ne 5, 3) := by decide +kernel
theorem dX12_statement_168 : decode cX12_statement 168 = .ok (.iconst 0, 1) := by decide +kernel
theorem dX12_statement_169 : decode cX12_statement 169 = .ok (.ireturn, 1) := by decide +kernel
theorem dX12_statement_170 : decode cX12_statement 170 = .ok (.aload_n 0, 1) := by decide +kernel
theorem dX12_statement_171 : decode cX12_statement 171 = .ok (.getfield 26, 3) := by decide +kernel
theorem dX12_statement_174 : decode cX12_statement 174 = .ok (.bipush 100, 2) := by decide +kernel
theorem dX12_statement_176 : decode cX12_statement 176 = .ok (.iload 6, 2) := by decide +kernel
theorem dX12_statement_178 : decode cX12_statement 178 = .ok (.iadd, 1) := by decide +kernel
theorem dX12_statement_179 : decode cX12_statement 179 = .ok (.aload_n 0, 1) := by decide +kernel
theorem dX12_statement_180 : decode cX12_statement 180 = .ok (.getfield 170, 3) := by decide +kernel
theorem dX12_statement_183 : decode cX12_statement 183 = .ok (.iastore, 1) := by decide +kernel
theorem dX12_statement_184 : decode cX12_statement 184 = .ok (.aload_n 0, 1) := by decide +kernel
theorem dX12_statement_185 : decode cX12_statement 185 = .ok (.iload 6, 2) := by decide +kernel
theorem dX12_statement_187 : decode cX12_statement 187 = .ok (.invokevirtual 187, 3) := by decide +kernel
theorem dX12_statement_190 : decode cX12_statement 190 = .ok (.ifCond .ne 5, 3) := by decide +kernel
theorem dX12_statement_193 : decode cX12_statement 193 = .ok (.iconst 0, 1) := by decide +kernel
theorem dX12_statement_194 : decode cX12_statement 194 = .ok (.ireturn, 1) := by decide +kernel
theorem dX12_statement_195 : decode cX12_statement 195 = .ok (.iload 5, 2) := by decide +kernel
theorem dX12_statement_197 : decode cX12_statement 197 = .ok (.iconst (-1), 1) := by decide +kernel
theorem dX12_statement_198 : decode cX12_statement 198 = .ok (.if_icmp .ne 8, 3) := by decide +kernel
theorem dX12_statement_201 : decode cX12_statement 201 = .ok (.iload 4, 2) := by decide +kernel
theorem dX12_statement_203 : decode cX12_statement 203 = .ok (.ifCond .eq 10, 3) := by decide +kernel
theorem dX12_statement_206 : decode cX12_statement 206 = .ok (.aload_n 0, 1) := by decide +kernel
theorem dX12_statement_207 : decode cX12_statement 207 = .ok (.bipush 59, 2) := by decide +kernel
theorem dX12_statement_209 : decode cX12_statement 209 = .ok (.invokevirtual 190, 3) := by decide +kernel
theorem dX12_statement_212 : decode cX12_statement 212 = .ok (.ireturn, 1) := by decide +kernel
theorem dX12_statement_213 : decode cX12_statement 213 = .ok (.aload_n 0, 1) := by decide +kernel
theorem dX12_statement_214 : decode cX12_statement 214 = .ok (.iload 6, 2) := by decide +kernel
theorem dX12_statement_216 : decode cX12_statement 216 = .ok (.aload_n 0, 1) := by decide +kernel
theorem dX12_statement_217 : decode cX12_statement 217 = .ok (.getfield 32, 3) := by decide +kernel
theorem dX12_statement_220 : decode cX12_statement 220 = .ok (.invokevirtual 231, 3) := by decide +kernel
theorem dX12_statement_223 : decode cX12_statement 223 = .ok (.istore 7, 2) := by decide +kernel
theorem dX12_statement_225 : decode cX12_statement 225 = .ok (.iload 7, 2) := by decide +kernel
theorem dX12_statement_227 : decode cX12_statement 227 = .ok (.ifCond .eq 40, 3) := by decide +kernel
theorem dX12_statement_230 : decode cX12_statement 230 = .ok (.iload_n 2, 1) := by decide +kernel
theorem dX12_statement_231 : decode cX12_statement 231 = .ok (.ifCond .eq 36, 3) := by decide +kernel
theorem dX12_statement_234 : decode cX12_statement 234 = .ok (.aload_n 0, 1) := by decide +kernel
theorem dX12_statement_235 : decode cX12_statement 235 = .ok (.bipush 101, 2) := by decide +kernel
theorem dX12_statement_237 : decode cX12_statement 237 = .ok (.bipush 108, 2) := by decide +kernel
theorem dX12_statement_239 : decode cX12_statement 239 = .ok (.bipush 115, 2) := by decide +kernel
theorem dX12_statement_241 : decode cX12_statement 241 = .ok (.bipush 101, 2) := by decide +kernel
theorem dX12_statement_243 : decode cX12_statement 243 = .ok (.iconst 0, 1) := by decide +kernel
theorem dX12_statement_244 : decode cX12_statement 244 = .ok (.iconst 0, 1) := by decide +kernel
theorem dX12_statement_245 : decode cX12_statement 245 = .ok (.invokevirtual 224, 3) := by decide +kernel
theorem dX12_statement_248 : decode cX12_statement 248 = .ok (.ifCond .eq 19, 3) := by decide +kernel
theorem dX12_statement_251 : decode cX12_statement 251 = .ok (.aload_n 0, 1) := by decide +kernel
theorem dX12_statement_252 : decode cX12_statement 252 = .ok (.invokevirtual 167, 3) := by decide +kernel
theorem dX12_statement_255 : decode cX12_statement 255 = .ok (.aload_n 0, 1) := by decide +kernel
theorem dX12_statement_256 : decode cX12_statement 256 = .ok (.iload 6, 2) := by decide +kernel
theorem dX12_statement_258 : decode cX12_statement 258 = .ok (.aload_n 0, 1) := by decide +kernel
theorem dX12_statement_259 : decode cX12_statement 259 = .ok (.getfield 35, 3) := by decide +kernel
theorem dX12_statement_262 : decode cX12_statement 262 = .ok (.invokevirtual 231, 3) := by decide +kernel
theorem dX12_statement_265 : decode cX12_statement 265 = .ok (.istore 7, 2) := by decide +kernel
theorem dX12_statement_267 : decode cX12_statement 267 = .ok (.iload 7, 2) := by decide +kernel
theorem dX12_statement_269 : decode cX12_statement 269 = .ok (.ireturn, 1) := by decide +kernel
theorem dX12_program_0 : decode cX12_program 0 = .ok (.aload_n 0, 1) := by decide +kernel
theorem dX12_program_1 : decode cX12_program 1 = .ok (.iconst 0, 1) := by decide +kernel
theorem dX12_program_2 : decode cX12_program 2 = .ok (.putfield 121, 3) := by decide +kernel
theorem dX12_program_5 : decode cX12_program 5 = .ok (.iload_n 1, 1) := by decide +kernel
theorem dX12_program_6 : decode cX12_program 6 = .ok (.iconst 0, 1) := by decide +kernel
theorem dX12_program_7 : decode cX12_program 7 = .ok (.aload_n 0, 1) := by decide +kernel
theorem dX12_program_8 : decode cX12_program 8 = .ok (.getfield 124, 3) := by decide +kernel
theorem dX12_program_11 : decode cX12_program 11 = .ok (.invokestatic 147, 3) := by decide +kernel
theorem dX12_program_14 : decode cX12_program 14 = .ok (.ifCond .ne 5, 3) := by decide +kernel
theorem dX12_program_17 : decode cX12_program 17 = .ok (.iconst (-1), 1) := by decide +kernel
theorem dX12_program_18 : decode cX12_program 18 = .ok (.ireturn, 1) := by decide +kernel
theorem dX12_program_19 : decode cX12_program 19 = .ok (.aload_n 0, 1) := by decide +kernel
theorem dX12_program_20 : decode cX12_program 20 = .ok (.iload_n 1, 1) := by decide +kernel
theorem dX12_program_21 : decode cX12_program 21 = .ok (.putfield 131, 3) := by decide +kernel
theorem dX12_program_24 : decode cX12_program 24 = .ok (.aload_n 0, 1) := by decide +kernel
theorem dX12_program_25 : decode cX12_program 25 = .ok (.iconst 0, 1) := by decide +kernel
theorem dX12_program_26 : decode cX12_program 26 = .ok (.putfield 124, 3) := by decide +kernel
theorem dX12_program_29 : decode cX12_program 29 = .ok (.aload_n 0, 1) := by decide +kernel
theorem dX12_program_30 : decode cX12_program 30 = .ok (.iconst 0, 1) := by decide +kernel
theorem dX12_program_31 : decode cX12_program 31 = .ok (.putfield 134, 3) := by decide +kernel
theorem dX12_program_34 : decode cX12_program 34 = .ok (.aload_n 0, 1) := by decide +kernel
theorem dX12_program_35 : decode cX12_program 35 = .ok (.iconst 0, 1) := by decide +kernel
theorem dX12_program_36 : decode cX12_program 36 = .ok (.putfield 158, 3) := by decide +kernel
theorem dX12_program_39 : decode cX12_program 39 = .ok (.aload_n 0, 1) := by decide +kernel
theorem dX12_program_40 : decode cX12_program 40 = .ok (.iconst 0, 1) := by decide +kernel
theorem dX12_program_41 : decode cX12_program 41 = .ok (.putfield 170, 3) := by decide +kernel
theorem dX12_program_44 : decode cX12_program 44 = .ok (.aload_n 0, 1) := by decide +kernel
theorem dX12_program_45 : decode cX12_program 45 = .ok (.iconst 0, 1) := by decide +kernel
theorem dX12_program_46 : decode cX12_program 46 = .ok (.putfield 228, 3) := by decide +kernel
theorem dX12_program_49 : decode cX12_program 49 = .ok (.aload_n 0, 1) := by decide +kernel
theorem dX12_program_50 : decode cX12_program 50 = .ok (.iconst 0, 1) := by decide +kernel
theorem dX12_program_51 : decode cX12_program 51 = .ok (.putfield 181, 3) := by decide +kernel
theorem dX12_program_54 : decode cX12_program 54 = .ok (.aload_n 0, 1) := by decide +kernel
theorem dX12_program_55 : decode cX12_program 55 = .ok (.iconst 0, 1) := by decide +kernel
theorem dX12_program_56 : decode cX12_program 56 = .ok (.putfield 217, 3) := by decide +kernel
theorem dX12_program_59 : decode cX12_program 59 = .ok (.aload_n 0, 1) := by decide +kernel
theorem dX12_program_60 : decode cX12_program 60 = .ok (.invokevirtual 167, 3) := by decide +kernel
theorem dX12_program_63 : decode cX12_program 63 = .ok (.aload_n 0, 1) := by decide +kernel
theorem dX12_program_64 : decode cX12_program 64 = .ok (.iconst (-1), 1) := by decide +kernel
theorem dX12_program_65 : decode cX12_program 65 = .ok (.aload_n 0, 1) := by decide +kernel
theorem dX12_program_66 : decode cX12_program 66 = .ok (.getfield 32, 3) := by decide +kernel
theorem dX12_program_69 : decode cX12_program 69 = .ok (.iconst 0, 1) := by decide +kernel
theorem dX12_program_70 : decode cX12_program 70 = .ok (.invokevirtual 220, 3) := by decide +kernel
theorem dX12_program_73 : decode cX12_program 73 = .ok (.istore_n 2, 1) := by decide +kernel
theorem dX12_program_74 : decode cX12_program 74 = .ok (.iload_n 2, 1) := by decide +kernel
theorem dX12_program_75 : decode cX12_program 75 = .ok (.ifCond .eq 19, 3) := by decide +kernel
theorem dX12_program_78 : decode cX12_program 78 = .ok (.aload_n 0, 1) := by decide +kernel
theorem dX12_program_79 : decode cX12_program 79 = .ok (.getfield 170, 3) := by decide +kernel
theorem dX12_program_82 : decode cX12_program 82 = .ok (.bipush 60, 2) := by decide +kernel
theorem dX12_program_84 : decode cX12_program 84 = .ok (.if_icmp .le 10, 3) := by decide +kernel
theorem dX12_program_87 : decode cX12_program 87 = .ok (.iconst 0, 1) := by decide +kernel
theorem dX12_program_88 : decode cX12_program 88 = .ok (.istore_n 2, 1) := by decide +kernel
theorem dX12_program_89 : decode cX12_program 89 = .ok (.aload_n 0, 1) := by decide +kernel
theorem dX12_program_90 : decode cX12_program 90 = .ok (.iconst 2, 1) := by decide +kernel
theorem dX12_program_91 : decode cX12_program 91 = .ok (.putfield 158, 3) := by decide +kernel
theorem dX12_program_94 : decode cX12_program 94 = .ok (.iload_n 2, 1) := by decide +kernel
theorem dX12_program_95 : decode cX12_program 95 = .ok (.ifCond .ne 11, 3) := by decide +kernel
theorem dX12_program_98 : decode cX12_program 98 = .ok (.bipush (-2), 2) := by decide +kernel
theorem dX12_program_100 : decode cX12_program 100 = .ok (.aload_n 0, 1) := by decide +kernel
theorem dX12_program_101 : decode cX12_program 101 = .ok (.getfield 158, 3) := by decide +kernel
theorem dX12_program_104 : decode cX12_program 104 = .ok (.isub, 1) := by decide +kernel
theorem dX12_program_105 : decode cX12_program 105 = .ok (.ireturn, 1) := by decide +kernel
theorem dX12_program_106 : decode cX12_program 106 = .ok (.aload_n 0, 1) := by decide +kernel
theorem dX12_program_107 : decode cX12_program 107 = .ok (.getfield 13, 3) := by decide +kernel
theorem dX12_program_110 : decode cX12_program 110 = .ok (.iconst 0, 1) := by decide +kernel
theorem dX12_program_111 : decode cX12_program 111 = .ok (.aload_n 0, 1) := by decide +kernel
theorem dX12_program_112 : decode cX12_program 112 = .ok (.getfield 170, 3) := by decide +kernel
theorem dX12_program_115 : decode cX12_program 115 = .ok (.iastore, 1) := by decide +kernel
theorem dX12_program_116 : decode cX12_program 116 = .ok (.aload_n 0, 1) := by decide +kernel
theorem dX12_program_117 : decode cX12_program 117 = .ok (.getfield 13, 3) := by decide +kernel
theorem dX12_program_120 : decode cX12_program 120 = .ok (.iconst 1, 1) := by decide +kernel
theorem dX12_program_121 : decode cX12_program 121 = .ok (.aload_n 0, 1) := by decide +kernel
theorem dX12_program_122 : decode cX12_program 122 = .ok (.getfield 228, 3) := by decide +kernel
theorem dX12_program_125 : decode cX12_program 125 = .ok (.iastore, 1) := by decide +kernel
theorem dX12_program_126 : decode cX12_program 126 = .ok (.iconst 0, 1) := by decide +kernel
theorem dX12_program_127 : decode cX12_program 127 = .ok (.istore_n 3, 1) := by decide +kernel
theorem dX12_program_128 : decode cX12_program 128 = .ok (.iload_n 3, 1) := by decide +kernel
theorem dX12_program_129 : decode cX12_program 129 = .ok (.aload_n 0, 1) := by decide +kernel
theorem dX12_program_130 : decode cX12_program 130 = .ok (.getfield 170, 3) := by decide +kernel
theorem dX12_program_133 : decode cX12_program 133 = .ok (.if_icmp .ge 136, 3) := by decide +kernel
theorem dX12_program_136 : decode cX12_program 136 = .ok (.aload_n 0, 1) := by decide +kernel
theorem dX12_program_137 : decode cX12_program 137 = .ok (.getfield 17, 3) := by decide +kernel
theorem dX12_program_140 : decode cX12_program 140 = .ok (.iload_n 3, 1) := by decide +kernel
theorem dX12_program_141 : decode cX12_program 141 = .ok (.aload_n 0, 1) := by decide +kernel
theorem dX12_program_142 : decode cX12_program 142 = .ok (.getfield 17, 3) := by decide +kernel
theorem dX12_program_145 : decode cX12_program 145 = .ok (.bipush 100, 2) := by decide +kernel
theorem dX12_program_147 : decode cX12_program 147 = .ok (.iload_n 3, 1) := by decide +kernel
theorem dX12_program_148 : decode cX12_program 148 = .ok (.iadd, 1) := by decide +kernel
theorem dX12_program_149 : decode cX12_program 149 = .ok (.iaload, 1) := by decide +kernel
theorem dX12_program_150 : decode cX12_program 150 = .ok (.iastore, 1) := by decide +kernel
theorem dX12_program_151 : decode cX12_program 151 = .ok (.aload_n 0, 1) := by decide +kernel
theorem dX12_program_152 : decode cX12_program 152 = .ok (.getfield 20, 3) := by decide +kernel
theorem dX12_program_155 : decode cX12_program 155 = .ok (.iload_n 3, 1) := by decide +kernel
theorem dX12_program_156 : decode cX12_program 156 = .ok (.aload_n 0, 1) := by decide +kernel
theorem dX12_program_157 : decode cX12_program 157 = .ok (.getfield 20, 3) := by decide +kernel
theorem dX12_program_160 : decode cX12_program 160 = .ok (.bipush 100, 2) := by decide +kernel
theorem dX12_program_162 : decode cX12_program 162 = .ok (.iload_n 3, 1) := by decide +kernel
theorem dX12_program_163 : decode cX12_program 163 = .ok (.iadd, 1) := by decide +kernel
theorem dX12_program_164 : decode cX12_program 164 = .ok (.iaload, 1) := by decide +kernel
theorem dX12_program_165 : decode cX12_program 165 = .ok (.iastore, 1) := by decide +kernel
theorem dX12_program_166 : decode cX12_program 166 = .ok (.aload_n 0, 1) := by decide +kernel
theorem dX12_program_167 : decode cX12_program 167 = .ok (.getfield 23, 3) := by decide +kernel
theorem dX12_program_170 : decode cX12_program 170 = .ok (.iload_n 3, 1) := by decide +kernel
theorem dX12_program_171 : decode cX12_program 171 = .ok (.aload_n 0, 1) := by decide +kernel
theorem dX12_program_172 : decode cX12_program 172 = .ok (.getfield 23, 3) := by decide +kernel
theorem dX12_program_175 : decode cX12_program 175 = .ok (.bipush 100, 2) := by decide +kernel
theorem dX12_program_177 : decode cX12_program 177 = .ok (.iload_n 3, 1) := by decide +kernel
theorem dX12_program_178 : decode cX12_program 178 = .ok (.iadd, 1) := by decide +kernel
theorem dX12_program_179 : decode cX12_program 179 = .ok (.iaload, 1) := by decide +kernel
theorem dX12_program_180 : decode cX12_program 180 = .ok (.iastore, 1) := by decide +kernel
theorem dX12_program_181 : decode cX12_program 181 = .ok (.aload_n 0, 1) := by decide +kernel
theorem dX12_program_182 : decode cX12_program 182 = .ok (.getfield 26, 3) := by decide +kernel
theorem dX12_program_185 : decode cX12_program 185 = .ok (.iload_n 3, 1) := by decide +kernel
theorem dX12_program_186 : decode cX12_program 186 = .ok (.aload_n 0, 1) := by decide +kernel
theorem dX12_program_187 : decode cX12_program 187 = .ok (.getfield 26, 3) := by decide +kernel
theorem dX12_program_190 : decode cX12_program 190 = .ok (.bipush 100, 2) := by decide +kernel
theorem dX12_program_192 : decode cX12_program 192 = .ok (.iload_n 3, 1) := by decide +kernel
theorem dX12_program_193 : decode cX12_program 193 = .ok (.iadd, 1) := by decide +kernel
theorem dX12_program_194 : decode cX12_program 194 = .ok (.iaload, 1) := by decide +kernel
theorem dX12_program_195 : decode cX12_program 195 = .ok (.iastore, 1) := by decide +kernel
theorem dX12_program_196 : decode cX12_program 196 = .ok (.aload_n 0, 1) := by decide +kernel
theorem dX12_program_197 : decode cX12_program 197 = .ok (.getfield 29, 3) := by decide +kernel
theorem dX12_program_200 : decode cX12_program 200 = .ok (.iload_n 3, 1) := by decide +kernel
theorem dX12_program_201 : decode cX12_program 201 = .ok (.aload_n 0, 1) := by decide +kernel
theorem dX12_program_202 : decode cX12_program 202 = .ok (.getfield 29, 3) := by decide +kernel
theorem dX12_program_205 : decode cX12_program 205 = .ok (.bipush 100, 2) := by decide +kernel
theorem dX12_program_207 : decode cX12_program 207 = .ok (.iload_n 3, 1) := by decide +kernel
theorem dX12_program_208 : decode cX12_program 208 = .ok (.iadd, 1) := by decide +kernel
theorem dX12_program_209 : decode cX12_program 209 = .ok (.iaload, 1) := by decide +kernel
theorem dX12_program_210 : decode cX12_program 210 = .ok (.iastore, 1) := by decide +kernel
theorem dX12_program_211 : decode cX12_program 211 = .ok (.aload_n 0, 1) := by decide +kernel
theorem dX12_program_212 : decode cX12_program 212 = .ok (.getfield 32, 3) := by decide +kernel
theorem dX12_program_215 : decode cX12_program 215 = .ok (.iload_n 3, 1) := by decide +kernel
theorem dX12_program_216 : decode cX12_program 216 = .ok (.aload_n 0, 1) := by decide +kernel
theorem dX12_program_217 : decode cX12_program 217 = .ok (.getfield 32, 3) := by decide +kernel
theorem dX12_program_220 : decode cX12_program 220 = .ok (.bipush 100, 2) := by decide +kernel
theorem dX12_program_222 : decode cX12_program 222 = .ok (.iload_n 3, 1) := by decide +kernel
theorem dX12_program_223 : decode cX12_program 223 = .ok (.iadd, 1) := by decide +kernel
theorem dX12_program_224 : decode cX12_program 224 = .ok (.iaload, 1) := by decide +kernel
theorem dX12_program_225 : decode cX12_program 225 = .ok (.iastore, 1) := by decide +kernel
theorem dX12_program_226 : decode cX12_program 226 = .ok (.aload_n 0, 1) := by decide +kernel
theorem dX12_program_227 : decode cX12_program 227 = .ok (.getfield 35, 3) := by decide +kernel
theorem dX12_program_230 : decode cX12_program 230 = .ok (.iload_n 3, 1) := by decide +kernel
theorem dX12_program_231 : decode cX12_program 231 = .ok (.aload_n 0, 1) := by decide +kernel
theorem dX12_program_232 : decode cX12_program 232 = .ok (.getfield 35, 3) := by decide +kernel
theorem dX12_program_235 : decode cX12_program 235 = .ok (.bipush 100, 2) := by decide +kernel
theorem dX12_program_237 : decode cX12_program 237 = .ok (.iload_n 3, 1) := by decide +kernel
theorem dX12_program_238 : decode cX12_program 238 = .ok (.iadd, 1) := by decide +kernel
theorem dX12_program_239 : decode cX12_program 239 = .ok (.iaload, 1) := by decide +kernel
theorem dX12_program_240 : decode cX12_program 240 = .ok (.iastore, 1) := by decide +kernel
theorem dX12_program_241 : decode cX12_program 241 = .ok (.aload_n 0, 1) := by decide +kernel
theorem dX12_program_242 : decode cX12_program 242 = .ok (.getfield 38, 3) := by decide +kernel
theorem dX12_program_245 : decode cX12_program 245 = .ok (.iload_n 3, 1) := by decide +kernel
theorem dX12_program_246 : decode cX12_program 246 = .ok (.aload_n 0, 1) := by decide +kernel
theorem dX12_program_247 : decode cX12_program 247 = .ok (.getfield 38, 3) := by decide +kernel
theorem dX12_program_250 : decode cX12_program 250 = .ok (.bipush 100, 2) := by decide +kernel
theorem dX12_program_252 : decode cX12_program 252 = .ok (.iload_n 3, 1) := by decide +kernel
theorem dX12_program_253 : decode cX12_program 253 = .ok (.iadd, 1) := by decide +kernel
theorem dX12_program_254 : decode cX12_program 254 = .ok (.iaload, 1) := by decide +kernel
theorem dX12_program_255 : decode cX12_program 255 = .ok (.iastore, 1) := by decide +kernel
theorem dX12_program_256 : decode cX12_program 256 = .ok (.aload_n 0, 1) := by decide +kernel
theorem dX12_program_257 : decode cX12_program 257 = .ok (.getfield 41, 3) := by decide +kernel
theorem dX12_program_260 : decode cX12_program 260 = .ok (.iload_n 3, 1) := by decide +kernel
theorem dX12_program_261 : decode cX12_program 261 = .ok (.iconst 0, 1) := by decide +kernel
theorem dX12_program_262 : decode cX12_program 262 = .ok (.iastore, 1) := by decide +kernel
theorem dX12_program_263 : decode cX12_program 263 = .ok (.iinc 3 1, 3) := by decide +kernel
theorem dX12_program_266 : decode cX12_program 266 = .ok (.goto (-138), 3) := by decide +kernel
theorem dX12_program_269 : decode cX12_program 269 = .ok (.aload_n 0, 1) := by decide +kernel
theorem dX12_program_270 : decode cX12_program 270 = .ok (.iconst 0, 1) := by decide +kernel
theorem dX12_program_271 : decode cX12_program 271 = .ok (.putfield 235, 3) := by decide +kernel
theorem dX12_program_274 : decode cX12_program 274 = .ok (.iconst 0, 1) := by decide +kernel
theorem dX12_program_275 : decode cX12_program 275 = .ok (.istore_n 3, 1) := by decide +kernel
theorem dX12_program_276 : decode cX12_program 276 = .ok (.iload_n 3, 1) := by decide +kernel
theorem dX12_program_277 : decode cX12_program 277 = .ok (.aload_n 0, 1) := by decide +kernel
theorem dX12_program_278 : decode cX12_program 278 = .ok (.getfield 170, 3) := by decide +kernel
theorem dX12_program_281 : decode cX12_program 281 = .ok (.if_icmp .ge 49, 3) := by decide +kernel
theorem dX12_program_284 : decode cX12_program 284 = .ok (.aload_n 0, 1) := by decide +kernel
theorem dX12_program_285 : decode cX12_program 285 = .ok (.dup, 1) := by decide +kernel
theorem dX12_program_286 : decode cX12_program 286 = .ok (.getfield 235, 3) := by decide +kernel
theorem dX12_program_289 : decode cX12_program 289 = .ok (.aload_n 0, 1) := by decide +kernel
theorem dX12_program_290 : decode cX12_program 290 = .ok (.getfield 17, 3) := by decide +kernel
theorem dX12_program_293 : decode cX12_program 293 = .ok (.iload_n 3, 1) := by decide +kernel
theorem dX12_program_294 : decode cX12_program 294 = .ok (.iaload, 1) := by decide +kernel
theorem dX12_program_295 : decode cX12_program 295 = .ok (.ifCond .eq 13, 3) := by decide +kernel
theorem dX12_program_298 : decode cX12_program 298 = .ok (.aload_n 0, 1) := by decide +kernel
theorem dX12_program_299 : decode cX12_program 299 = .ok (.getfield 17, 3) := by decide +kernel
theorem dX12_program_302 : decode cX12_program 302 = .ok (.iload_n 3, 1) := by decide +kernel
theorem dX12_program_303 : decode cX12_program 303 = .ok (.iaload, 1) := by decide +kernel
theorem dX12_program_304 : decode cX12_program 304 = .ok (.iconst 5, 1) := by decide +kernel
theorem dX12_program_305 : decode cX12_program 305 = .ok (.if_icmp .ne 14, 3) := by decide +kernel
theorem dX12_program_308 : decode cX12_program 308 = .ok (.iconst 1, 1) := by decide +kernel
theorem dX12_program_309 : decode cX12_program 309 = .ok (.aload_n 0, 1) := by decide +kernel
theorem dX12_program_310 : decode cX12_program 310 = .ok (.getfield 20, 3) := by decide +kernel
theorem dX12_program_313 : decode cX12_program 313 = .ok (.iload_n 3, 1) := by decide +kernel
theorem dX12_program_314 : decode cX12_program 314 = .ok (.iaload, 1) := by decide +kernel
theorem dX12_program_315 : decode cX12_program 315 = .ok (.ishl, 1) := by decide +kernel
theorem dX12_program_316 : decode cX12_program 316 = .ok (.goto 4, 3) := by decide +kernel
theorem dX12_program_319 : decode cX12_program 319 = .ok (.iconst 0, 1) := by decide +kernel
theorem dX12_program_320 : decode cX12_program 320 = .ok (.ior, 1) := by decide +kernel
theorem dX12_program_321 : decode cX12_program 321 = .ok (.putfield 235, 3) := by decide +kernel
theorem dX12_program_324 : decode cX12_program 324 = .ok (.iinc 3 1, 3) := by decide +kernel
theorem dX12_program_327 : decode cX12_program 327 = .ok (.goto (-51), 3) := by decide +kernel
theorem dX12_program_330 : decode cX12_program 330 = .ok (.aload_n 0, 1) := by decide +kernel
theorem dX12_program_331 : decode cX12_program 331 = .ok (.iconst 0, 1) := by decide +kernel
theorem dX12_program_332 : decode cX12_program 332 = .ok (.putfield 238, 3) := by decide +kernel
theorem dX12_program_335 : decode cX12_program 335 = .ok (.aload_n 0, 1) := by decide +kernel
theorem dX12_program_336 : decode cX12_program 336 = .ok (.getfield 170, 3) := by decide +kernel
theorem dX12_program_339 : decode cX12_program 339 = .ok (.ireturn, 1) := by decide +kernel
theorem dX12_value_0 : decode cX12_value 0 = .ok (.aload_n 0, 1) := by decide +kernel
theorem dX12_value_1 : decode cX12_value 1 = .ok (.bipush 45, 2) := by decide +kernel
theorem dX12_value_3 : decode cX12_value 3 = .ok (.invokevirtual 161, 3) := by decide +kernel
theorem dX12_value_6 : decode cX12_value 6 = .ok (.istore_n 2, 1) := by decide +kernel
theorem dX12_value_7 : decode cX12_value 7 = .ok (.iload_n 2, 1) := by decide +kernel
theorem dX12_value_8 : decode cX12_value 8 = .ok (.ifCond .eq 7, 3) := by decide +kernel
theorem dX12_value_11 : decode cX12_value 11 = .ok (.aload_n 0, 1) := by decide +kernel
theorem dX12_value_12 : decode cX12_value 12 = .ok (.invokevirtual 167, 3) := by decide +kernel
theorem dX12_value_15 : decode cX12_value 15 = .ok (.aload_n 0, 1) := by decide +kernel
theorem dX12_value_16 : decode cX12_value 16 = .ok (.getfield 144, 3) := by decide +kernel
theorem dX12_value_19 : decode cX12_value 19 = .ok (.iconst 2, 1) := by decide +kernel
theorem dX12_value_20 : decode cX12_value 20 = .ok (.if_icmp .eq 9, 3) := by decide +kernel
theorem dX12_value_23 : decode cX12_value 23 = .ok (.aload_n 0, 1) := by decide +kernel
theorem dX12_value_24 : decode cX12_value 24 = .ok (.iconst 1, 1) := by decide +kernel
theorem dX12_value_25 : decode cX12_value 25 = .ok (.invokevirtual 164, 3) := by decide +kernel
theorem dX12_value_28 : decode cX12_value 28 = .ok (.ireturn, 1) := by decide +kernel
theorem dX12_value_29 : decode cX12_value 29 = .ok (.aload_n 0, 1) := by decide +kernel
theorem dX12_value_30 : decode cX12_value 30 = .ok (.getfield 47, 3) := by decide +kernel
theorem dX12_value_33 : decode cX12_value 33 = .ok (.iload_n 1, 1) := by decide +kernel
theorem dX12_value_34 : decode cX12_value 34 = .ok (.iload_n 2, 1) := by decide +kernel
theorem dX12_value_35 : decode cX12_value 35 = .ok (.ifCond .eq 11, 3) := by decide +kernel
theorem dX12_value_38 : decode cX12_value 38 = .ok (.aload_n 0, 1) := by decide +kernel
theorem dX12_value_39 : decode cX12_value 39 = .ok (.getfield 151, 3) := by decide +kernel
theorem dX12_value_42 : decode cX12_value 42 = .ok (.ineg, 1) := by decide +kernel
theorem dX12_value_43 : decode cX12_value 43 = .ok (.goto 7, 3) := by decide +kernel
theorem dX12_value_46 : decode cX12_value 46 = .ok (.aload_n 0, 1) := by decide +kernel
theorem dX12_value_47 : decode cX12_value 47 = .ok (.getfield 151, 3) := by decide +kernel
theorem dX12_value_50 : decode cX12_value 50 = .ok (.iastore, 1) := by decide +kernel
theorem dX12_value_51 : decode cX12_value 51 = .ok (.aload_n 0, 1) := by decide +kernel
theorem dX12_value_52 : decode cX12_value 52 = .ok (.invokevirtual 167, 3) := by decide +kernel
theorem dX12_value_55 : decode cX12_value 55 = .ok (.iconst 1, 1) := by decide +kernel
theorem dX12_value_56 : decode cX12_value 56 = .ok (.ireturn, 1) := by decide +kernel
theorem dX12_testLine_0 : decode cX12_testLine 0 = .ok (.aload_n 0, 1) := by decide +kernel
theorem dX12_testLine_1 : decode cX12_testLine 1 = .ok (.bipush 116, 2) := by decide +kernel
theorem dX12_testLine_3 : decode cX12_testLine 3 = .ok (.bipush 101, 2) := by decide +kernel
theorem dX12_testLine_5 : decode cX12_testLine 5 = .ok (.bipush 115, 2) := by decide +kernel
theorem dX12_testLine_7 : decode cX12_testLine 7 = .ok (.bipush 116, 2) := by decide +kernel
theorem dX12_testLine_9 : decode cX12_testLine 9 = .ok (.iconst 0, 1) := by decide +kernel
theorem dX12_testLine_10 : decode cX12_testLine 10 = .ok (.iconst 0, 1) := by decide +kernel
theorem dX12_testLine_11 : decode cX12_testLine 11 = .ok (.invokevirtual 224, 3) := by decide +kernel
theorem dX12_testLine_14 : decode cX12_testLine 14 = .ok (.ifCond .ne 9, 3) := by decide +kernel
theorem dX12_testLine_17 : decode cX12_testLine 17 = .ok (.aload_n 0, 1) := by decide +kernel
theorem dX12_testLine_18 : decode cX12_testLine 18 = .ok (.iconst 1, 1) := by decide +kernel
theorem dX12_testLine_19 : decode cX12_testLine 19 = .ok (.invokevirtual 164, 3) := by decide +kernel
theorem dX12_testLine_22 : decode cX12_testLine 22 = .ok (.ireturn, 1) := by decide +kernel
theorem dX12_testLine_23 : decode cX12_testLine 23 = .ok (.iload_n 1, 1) := by decide +kernel
theorem dX12_testLine_24 : decode cX12_testLine 24 = .ok (.bipush 16, 2) := by decide +kernel
theorem dX12_testLine_26 : decode cX12_testLine 26 = .ok (.if_icmp .ne 9, 3) := by decide +kernel
theorem dX12_testLine_29 : decode cX12_testLine 29 = .ok (.aload_n 0, 1) := by decide +kernel
theorem dX12_testLine_30 : decode cX12_testLine 30 = .ok (.iconst 2, 1) := by decide +kernel
theorem dX12_testLine_31 : decode cX12_testLine 31 = .ok (.invokevirtual 164, 3) := by decide +kernel
theorem dX12_testLine_34 : decode cX12_testLine 34 = .ok (.ireturn, 1) := by decide +kernel
theorem dX12_testLine_35 : decode cX12_testLine 35 = .ok (.aload_n 0, 1) := by decide +kernel
theorem dX12_testLine_36 : decode cX12_testLine 36 = .ok (.invokevirtual 167, 3) := by decide +kernel
theorem dX12_testLine_39 : decode cX12_testLine 39 = .ok (.aload_n 0, 1) := by decide +kernel
theorem dX12_testLine_40 : decode cX12_testLine 40 = .ok (.iconst 5, 1) := by decide +kernel
theorem dX12_testLine_41 : decode cX12_testLine 41 = .ok (.iload_n 1, 1) := by decide +kernel
theorem dX12_testLine_42 : decode cX12_testLine 42 = .ok (.imul, 1) := by decide +kernel
theorem dX12_testLine_43 : decode cX12_testLine 43 = .ok (.invokevirtual 241, 3) := by decide +kernel
theorem dX12_testLine_46 : decode cX12_testLine 46 = .ok (.ifCond .eq 27, 3) := by decide +kernel
theorem dX12_testLine_49 : decode cX12_testLine 49 = .ok (.aload_n 0, 1) := by decide +kernel
theorem dX12_testLine_50 : decode cX12_testLine 50 = .ok (.iconst 5, 1) := by decide +kernel
theorem dX12_testLine_51 : decode cX12_testLine 51 = .ok (.iload_n 1, 1) := by decide +kernel
theorem dX12_testLine_52 : decode cX12_testLine 52 = .ok (.imul, 1) := by decide +kernel
theorem dX12_testLine_53 : decode cX12_testLine 53 = .ok (.iconst 1, 1) := by decide +kernel
theorem dX12_testLine_54 : decode cX12_testLine 54 = .ok (.iadd, 1) := by decide +kernel
theorem dX12_testLine_55 : decode cX12_testLine 55 = .ok (.invokevirtual 241, 3) := by decide +kernel
theorem dX12_testLine_58 : decode cX12_testLine 58 = .ok (.ifCond .eq 15, 3) := by decide +kernel
theorem dX12_testLine_61 : decode cX12_testLine 61 = .ok (.aload_n 0, 1) := by decide +kernel
theorem dX12_testLine_62 : decode cX12_testLine 62 = .ok (.iconst 5, 1) := by decide +kernel
theorem dX12_testLine_63 : decode cX12_testLine 63 = .ok (.iload_n 1, 1) := by decide +kernel
theorem dX12_testLine_64 : decode cX12_testLine 64 = .ok (.imul, 1) := by decide +kernel
theorem dX12_testLine_65 : decode cX12_testLine 65 = .ok (.iconst 2, 1) := by decide +kernel
theorem dX12_testLine_66 : decode cX12_testLine 66 = .ok (.iadd, 1) := by decide +kernel
theorem dX12_testLine_67 : decode cX12_testLine 67 = .ok (.invokevirtual 241, 3) := by decide +kernel
theorem dX12_testLine_70 : decode cX12_testLine 70 = .ok (.ifCond .ne 5, 3) := by decide +kernel
theorem dX12_testLine_73 : decode cX12_testLine 73 = .ok (.iconst 0, 1) := by decide +kernel
theorem dX12_testLine_74 : decode cX12_testLine 74 = .ok (.ireturn, 1) := by decide +kernel
theorem dX12_testLine_75 : decode cX12_testLine 75 = .ok (.aload_n 0, 1) := by decide +kernel
theorem dX12_testLine_76 : decode cX12_testLine 76 = .ok (.bipush 103, 2) := by decide +kernel
theorem dX12_testLine_78 : decode cX12_testLine 78 = .ok (.bipush 105, 2) := by decide +kernel
theorem dX12_testLine_80 : decode cX12_testLine 80 = .ok (.bipush 118, 2) := by decide +kernel
theorem dX12_testLine_82 : decode cX12_testLine 82 = .ok (.bipush 101, 2) := by decide +kernel
theorem dX12_testLine_84 : decode cX12_testLine 84 = .ok (.bipush 115, 2) := by decide +kernel
theorem dX12_testLine_86 : decode cX12_testLine 86 = .ok (.iconst 0, 1) := by decide +kernel
theorem dX12_testLine_87 : decode cX12_testLine 87 = .ok (.invokevirtual 224, 3) := by decide +kernel
theorem dX12_testLine_90 : decode cX12_testLine 90 = .ok (.ifCond .ne 9, 3) := by decide +kernel
theorem dX12_testLine_93 : decode cX12_testLine 93 = .ok (.aload_n 0, 1) := by decide +kernel
theorem dX12_testLine_94 : decode cX12_testLine 94 = .ok (.iconst 1, 1) := by decide +kernel
theorem dX12_testLine_95 : decode cX12_testLine 95 = .ok (.invokevirtual 164, 3) := by decide +kernel
theorem dX12_testLine_98 : decode cX12_testLine 98 = .ok (.ireturn, 1) := by decide +kernel
theorem dX12_testLine_99 : decode cX12_testLine 99 = .ok (.aload_n 0, 1) := by decide +kernel
theorem dX12_testLine_100 : decode cX12_testLine 100 = .ok (.invokevirtual 167, 3) := by decide +kernel
theorem dX12_testLine_103 : decode cX12_testLine 103 = .ok (.aload_n 0, 1) := by decide +kernel
theorem dX12_testLine_104 : decode cX12_testLine 104 = .ok (.iconst 5, 1) := by decide +kernel
theorem dX12_testLine_105 : decode cX12_testLine 105 = .ok (.iload_n 1, 1) := by decide +kernel
theorem dX12_testLine_106 : decode cX12_testLine 106 = .ok (.imul, 1) := by decide +kernel
theorem dX12_testLine_107 : decode cX12_testLine 107 = .ok (.iconst 3, 1) := by decide +kernel
theorem dX12_testLine_108 : decode cX12_testLine 108 = .ok (.iadd, 1) := by decide +kernel
theorem dX12_testLine_109 : decode cX12_testLine 109 = .ok (.invokevirtual 241, 3) := by decide +kernel
theorem dX12_testLine_112 : decode cX12_testLine 112 = .ok (.istore_n 2, 1) := by decide +kernel
theorem dX12_testLine_113 : decode cX12_testLine 113 = .ok (.iload_n 2, 1) := by decide +kernel
theorem dX12_testLine_114 : decode cX12_testLine 114 = .ok (.ifCond .eq 24, 3) := by decide +kernel
theorem dX12_testLine_117 : decode cX12_testLine 117 = .ok (.aload_n 0, 1) := by decide +kernel
theorem dX12_testLine_118 : decode cX12_testLine 118 = .ok (.bipush 104, 2) := by decide +kernel
theorem dX12_testLine_120 : decode cX12_testLine 120 = .ok (.bipush 101, 2) := by decide +kernel
theorem dX12_testLine_122 : decode cX12_testLine 122 = .ok (.bipush 108, 2) := by decide +kernel
theorem dX12_testLine_124 : decode cX12_testLine 124 = .ok (.bipush 100, 2) := by decide +kernel
theorem dX12_testLine_126 : decode cX12_testLine 126 = .ok (.iconst 0, 1) := by decide +kernel
theorem dX12_testLine_127 : decode cX12_testLine 127 = .ok (.iconst 0, 1) := by decide +kernel
theorem dX12_testLine_128 : decode cX12_testLine 128 = .ok (.invokevirtual 224, 3) := by decide +kernel
theorem dX12_testLine_131 : decode cX12_testLine 131 = .ok (.ifCond .eq 7, 3) := by decide +kernel
theorem dX12_testLine_134 : decode cX12_testLine 134 = .ok (.iconst 1, 1) := by decide +kernel
theorem dX12_testLine_135 : decode cX12_testLine 135 = .ok (.goto 4, 3) := by decide +kernel
theorem dX12_testLine_138 : decode cX12_testLine 138 = .ok (.iconst 0, 1) := by decide +kernel
theorem dX12_testLine_139 : decode cX12_testLine 139 = .ok (.istore_n 3, 1) := by decide +kernel
theorem dX12_testLine_140 : decode cX12_testLine 140 = .ok (.aload_n 0, 1) := by decide +kernel
theorem dX12_testLine_141 : decode cX12_testLine 141 = .ok (.getfield 47, 3) := by decide +kernel
theorem dX12_testLine_144 : decode cX12_testLine 144 = .ok (.iconst 5, 1) := by decide +kernel
theorem dX12_testLine_145 : decode cX12_testLine 145 = .ok (.iload_n 1, 1) := by decide +kernel
theorem dX12_testLine_146 : decode cX12_testLine 146 = .ok (.imul, 1) := by decide +kernel
theorem dX12_testLine_147 : decode cX12_testLine 147 = .ok (.iconst 4, 1) := by decide +kernel
theorem dX12_testLine_148 : decode cX12_testLine 148 = .ok (.iadd, 1) := by decide +kernel
theorem dX12_testLine_149 : decode cX12_testLine 149 = .ok (.bipush 80, 2) := by decide +kernel
theorem dX12_testLine_151 : decode cX12_testLine 151 = .ok (.if_icmp .ge 11, 3) := by decide +kernel
theorem dX12_testLine_154 : decode cX12_testLine 154 = .ok (.iconst 5, 1) := by decide +kernel
theorem dX12_testLine_155 : decode cX12_testLine 155 = .ok (.iload_n 1, 1) := by decide +kernel
theorem dX12_testLine_156 : decode cX12_testLine 156 = .ok (.imul, 1) := by decide +kernel
theorem dX12_testLine_157 : decode cX12_testLine 157 = .ok (.iconst 4, 1) := by decide +kernel
theorem dX12_testLine_158 : decode cX12_testLine 158 = .ok (.iadd, 1) := by decide +kernel
theorem dX12_testLine_159 : decode cX12_testLine 159 = .ok (.goto 4, 3) := by decide +kernel
theorem dX12_testLine_162 : decode cX12_testLine 162 = .ok (.iconst 0, 1) := by decide +kernel
theorem dX12_testLine_163 : decode cX12_testLine 163 = .ok (.iload_n 3, 1) := by decide +kernel
theorem dX12_testLine_164 : decode cX12_testLine 164 = .ok (.ifCond .eq 7, 3) := by decide +kernel
theorem dX12_testLine_167 : decode cX12_testLine 167 = .ok (.iconst 1, 1) := by decide +kernel
theorem dX12_testLine_168 : decode cX12_testLine 168 = .ok (.goto 4, 3) := by decide +kernel
theorem dX12_testLine_171 : decode cX12_testLine 171 = .ok (.iconst 0, 1) := by decide +kernel
theorem dX12_testLine_172 : decode cX12_testLine 172 = .ok (.iastore, 1) := by decide +kernel
theorem dX12_testLine_173 : decode cX12_testLine 173 = .ok (.iload_n 3, 1) := by decide +kernel
theorem dX12_testLine_174 : decode cX12_testLine 174 = .ok (.ifCond .eq 7, 3) := by decide +kernel
theorem dX12_testLine_177 : decode cX12_testLine 177 = .ok (.aload_n 0, 1) := by decide +kernel
theorem dX12_testLine_178 : decode cX12_testLine 178 = .ok (.invokevirtual 167, 3) := by decide +kernel
theorem dX12_testLine_181 : decode cX12_testLine 181 = .ok (.iload_n 2, 1) := by decide +kernel
theorem dX12_testLine_182 : decode cX12_testLine 182 = .ok (.ireturn, 1) := by decide +kernel
theorem dX12_tests_0 : decode cX12_tests 0 = .ok (.aload_n 0, 1) := by decide +kernel
theorem dX12_tests_1 : decode cX12_tests 1 = .ok (.iconst 0, 1) := by decide +kernel
theorem dX12_tests_2 : decode cX12_tests 2 = .ok (.putfield 121, 3) := by decide +kernel
theorem dX12_tests_5 : decode cX12_tests 5 = .ok (.iload_n 1, 1) := by decide +kernel
theorem dX12_tests_6 : decode cX12_tests 6 = .ok (.iconst 0, 1) := by decide +kernel
theorem dX12_tests_7 : decode cX12_tests 7 = .ok (.aload_n 0, 1) := by decide +kernel
theorem dX12_tests_8 : decode cX12_tests 8 = .ok (.getfield 124, 3) := by decide +kernel
theorem dX12_tests_11 : decode cX12_tests 11 = .ok (.invokestatic 147, 3) := by decide +kernel
theorem dX12_tests_14 : decode cX12_tests 14 = .ok (.ifCond .ne 5, 3) := by decide +kernel
theorem dX12_tests_17 : decode cX12_tests 17 = .ok (.iconst (-1), 1) := by decide +kernel
theorem dX12_tests_18 : decode cX12_tests 18 = .ok (.ireturn, 1) := by decide +kernel
theorem dX12_tests_19 : decode cX12_tests 19 = .ok (.aload_n 0, 1) := by decide +kernel
theorem dX12_tests_20 : decode cX12_tests 20 = .ok (.iload_n 1, 1) := by decide +kernel
theorem dX12_tests_21 : decode cX12_tests 21 = .ok (.putfield 131, 3) := by decide +kernel
theorem dX12_tests_24 : decode cX12_tests 24 = .ok (.aload_n 0, 1) := by decide +kernel
theorem dX12_tests_25 : decode cX12_tests 25 = .ok (.iconst 0, 1) := by decide +kernel
theorem dX12_tests_26 : decode cX12_tests 26 = .ok (.putfield 124, 3) := by decide +kernel
theorem dX12_tests_29 : decode cX12_tests 29 = .ok (.aload_n 0, 1) := by decide +kernel
theorem dX12_tests_30 : decode cX12_tests 30 = .ok (.iconst 0, 1) := by decide +kernel
theorem dX12_tests_31 : decode cX12_tests 31 = .ok (.putfield 134, 3) := by decide +kernel
theorem dX12_tests_34 : decode cX12_tests 34 = .ok (.aload_n 0, 1) := by decide +kernel
theorem dX12_tests_35 : decode cX12_tests 35 = .ok (.iconst 0, 1) := by decide +kernel
theorem dX12_tests_36 : decode cX12_tests 36 = .ok (.putfield 158, 3) := by decide +kernel
theorem dX12_tests_39 : decode cX12_tests 39 = .ok (.aload_n 0, 1) := by decide +kernel
theorem dX12_tests_40 : decode cX12_tests 40 = .ok (.invokevirtual 167, 3) := by decide +kernel
theorem dX12_tests_43 : decode cX12_tests 43 = .ok (.iconst 0, 1) := by decide +kernel
theorem dX12_tests_44 : decode cX12_tests 44 = .ok (.istore_n 2, 1) := by decide +kernel
theorem dX12_tests_45 : decode cX12_tests 45 = .ok (.aload_n 0, 1) := by decide +kernel
theorem dX12_tests_46 : decode cX12_tests 46 = .ok (.iconst 0, 1) := by decide +kernel
theorem dX12_tests_47 : decode cX12_tests 47 = .ok (.invokevirtual 243, 3) := by decide +kernel
theorem dX12_tests_50 : decode cX12_tests 50 = .ok (.istore_n 3, 1) := by decide +kernel
theorem dX12_tests_51 : decode cX12_tests 51 = .ok (.iload_n 3, 1) := by decide +kernel
theorem dX12_tests_52 : decode cX12_tests 52 = .ok (.ifCond .eq 28, 3) := by decide +kernel
theorem dX12_tests_55 : decode cX12_tests 55 = .ok (.aload_n 0, 1) := by decide +kernel
theorem dX12_tests_56 : decode cX12_tests 56 = .ok (.bipush 59, 2) := by decide +kernel
theorem dX12_tests_58 : decode cX12_tests 58 = .ok (.invokevirtual 161, 3) := by decide +kernel
theorem dX12_tests_61 : decode cX12_tests 61 = .ok (.ifCond .eq 19, 3) := by decide +kernel
theorem dX12_tests_64 : decode cX12_tests 64 = .ok (.iinc 2 1, 3) := by decide +kernel
theorem dX12_tests_67 : decode cX12_tests 67 = .ok (.aload_n 0, 1) := by decide +kernel
theorem dX12_tests_68 : decode cX12_tests 68 = .ok (.invokevirtual 167, 3) := by decide +kernel
theorem dX12_tests_71 : decode cX12_tests 71 = .ok (.aload_n 0, 1) := by decide +kernel
theorem dX12_tests_72 : decode cX12_tests 72 = .ok (.iload_n 2, 1) := by decide +kernel
theorem dX12_tests_73 : decode cX12_tests 73 = .ok (.invokevirtual 243, 3) := by decide +kernel
theorem dX12_tests_76 : decode cX12_tests 76 = .ok (.istore_n 3, 1) := by decide +kernel
theorem dX12_tests_77 : decode cX12_tests 77 = .ok (.goto (-26), 3) := by decide +kernel
theorem dX12_tests_80 : decode cX12_tests 80 = .ok (.iload_n 3, 1) := by decide +kernel
theorem dX12_tests_81 : decode cX12_tests 81 = .ok (.ifCond .eq 16, 3) := by decide +kernel
theorem dX12_tests_84 : decode cX12_tests 84 = .ok (.aload_n 0, 1) := by decide +kernel
theorem dX12_tests_85 : decode cX12_tests 85 = .ok (.getfield 144, 3) := by decide +kernel
theorem dX12_tests_88 : decode cX12_tests 88 = .ok (.ifCond .eq 9, 3) := by decide +kernel
theorem dX12_tests_91 : decode cX12_tests 91 = .ok (.aload_n 0, 1) := by decide +kernel
theorem dX12_tests_92 : decode cX12_tests 92 = .ok (.iconst 1, 1) := by decide +kernel
theorem dX12_tests_93 : decode cX12_tests 93 = .ok (.invokevirtual 164, 3) := by decide +kernel
theorem dX12_tests_96 : decode cX12_tests 96 = .ok (.istore_n 3, 1) := by decide +kernel
theorem dX12_tests_97 : decode cX12_tests 97 = .ok (.iload_n 3, 1) := by decide +kernel
theorem dX12_tests_98 : decode cX12_tests 98 = .ok (.ifCond .ne 11, 3) := by decide +kernel
theorem dX12_tests_101 : decode cX12_tests 101 = .ok (.bipush (-2), 2) := by decide +kernel
theorem dX12_tests_103 : decode cX12_tests 103 = .ok (.aload_n 0, 1) := by decide +kernel
theorem dX12_tests_104 : decode cX12_tests 104 = .ok (.getfield 158, 3) := by decide +kernel
theorem dX12_tests_107 : decode cX12_tests 107 = .ok (.isub, 1) := by decide +kernel
theorem dX12_tests_108 : decode cX12_tests 108 = .ok (.ireturn, 1) := by decide +kernel
theorem dX12_tests_109 : decode cX12_tests 109 = .ok (.aload_n 0, 1) := by decide +kernel
theorem dX12_tests_110 : decode cX12_tests 110 = .ok (.iload_n 2, 1) := by decide +kernel
theorem dX12_tests_111 : decode cX12_tests 111 = .ok (.iconst 1, 1) := by decide +kernel
theorem dX12_tests_112 : decode cX12_tests 112 = .ok (.iadd, 1) := by decide +kernel
theorem dX12_tests_113 : decode cX12_tests 113 = .ok (.putfield 246, 3) := by decide +kernel
theorem dX12_tests_116 : decode cX12_tests 116 = .ok (.iconst 0, 1) := by decide +kernel
theorem dX12_tests_117 : decode cX12_tests 117 = .ok (.istore 4, 2) := by decide +kernel
theorem dX12_tests_119 : decode cX12_tests 119 = .ok (.iload 4, 2) := by decide +kernel
theorem dX12_tests_121 : decode cX12_tests 121 = .ok (.iconst 5, 1) := by decide +kernel
theorem dX12_tests_122 : decode cX12_tests 122 = .ok (.aload_n 0, 1) := by decide +kernel
theorem dX12_tests_123 : decode cX12_tests 123 = .ok (.getfield 246, 3) := by decide +kernel
theorem dX12_tests_126 : decode cX12_tests 126 = .ok (.imul, 1) := by decide +kernel
theorem dX12_tests_127 : decode cX12_tests 127 = .ok (.if_icmp .ge 23, 3) := by decide +kernel
theorem dX12_tests_130 : decode cX12_tests 130 = .ok (.aload_n 0, 1) := by decide +kernel
theorem dX12_tests_131 : decode cX12_tests 131 = .ok (.getfield 44, 3) := by decide +kernel
theorem dX12_tests_134 : decode cX12_tests 134 = .ok (.iload 4, 2) := by decide +kernel
theorem dX12_tests_136 : decode cX12_tests 136 = .ok (.aload_n 0, 1) := by decide +kernel
theorem dX12_tests_137 : decode cX12_tests 137 = .ok (.getfield 47, 3) := by decide +kernel
theorem dX12_tests_140 : decode cX12_tests 140 = .ok (.iload 4, 2) := by decide +kernel
theorem dX12_tests_142 : decode cX12_tests 142 = .ok (.iaload, 1) := by decide +kernel
theorem dX12_tests_143 : decode cX12_tests 143 = .ok (.iastore, 1) := by decide +kernel
theorem dX12_tests_144 : decode cX12_tests 144 = .ok (.iinc 4 1, 3) := by decide +kernel
theorem dX12_tests_147 : decode cX12_tests 147 = .ok (.goto (-28), 3) := by decide +kernel
theorem dX12_tests_150 : decode cX12_tests 150 = .ok (.aload_n 0, 1) := by decide +kernel
theorem dX12_tests_151 : decode cX12_tests 151 = .ok (.getfield 246, 3) := by decide +kernel
theorem dX12_tests_154 : decode cX12_tests 154 = .ok (.ireturn, 1) := by decide +kernel
theorem dX12_isTest_0 : decode cX12_isTest 0 = .ok (.iload_n 1, 1) := by decide +kernel
theorem dX12_isTest_1 : decode cX12_isTest 1 = .ok (.iconst 0, 1) := by decide +kernel
theorem dX12_isTest_2 : decode cX12_isTest 2 = .ok (.aload_n 0, 1) := by decide +kernel
theorem dX12_isTest_3 : decode cX12_isTest 3 = .ok (.getfield 246, 3) := by decide +kernel
theorem dX12_isTest_6 : decode cX12_isTest 6 = .ok (.iconst 1, 1) := by decide +kernel
theorem dX12_isTest_7 : decode cX12_isTest 7 = .ok (.isub, 1) := by decide +kernel
theorem dX12_isTest_8 : decode cX12_isTest 8 = .ok (.invokestatic 147, 3) := by decide +kernel
theorem dX12_isTest_11 : decode cX12_isTest 11 = .ok (.ireturn, 1) := by decide +kernel
theorem dX12_isHeld_0 : decode cX12_isHeld 0 = .ok (.aload_n 0, 1) := by decide +kernel
theorem dX12_isHeld_1 : decode cX12_isHeld 1 = .ok (.getfield 44, 3) := by decide +kernel
theorem dX12_isHeld_4 : decode cX12_isHeld 4 = .ok (.iconst 5, 1) := by decide +kernel
theorem dX12_isHeld_5 : decode cX12_isHeld 5 = .ok (.iload_n 1, 1) := by decide +kernel
theorem dX12_isHeld_6 : decode cX12_isHeld 6 = .ok (.imul, 1) := by decide +kernel
theorem dX12_isHeld_7 : decode cX12_isHeld 7 = .ok (.iconst 4, 1) := by decide +kernel
theorem dX12_isHeld_8 : decode cX12_isHeld 8 = .ok (.iadd, 1) := by decide +kernel
theorem dX12_isHeld_9 : decode cX12_isHeld 9 = .ok (.iaload, 1) := by decide +kernel
theorem dX12_isHeld_10 : decode cX12_isHeld 10 = .ok (.iconst 1, 1) := by decide +kernel
theorem dX12_isHeld_11 : decode cX12_isHeld 11 = .ok (.if_icmp .ne 7, 3) := by decide +kernel
theorem dX12_isHeld_14 : decode cX12_isHeld 14 = .ok (.iconst 1, 1) := by decide +kernel
theorem dX12_isHeld_15 : decode cX12_isHeld 15 = .ok (.goto 4, 3) := by decide +kernel
theorem dX12_isHeld_18 : decode cX12_isHeld 18 = .ok (.iconst 0, 1) := by decide +kernel
theorem dX12_isHeld_19 : decode cX12_isHeld 19 = .ok (.ireturn, 1) := by decide +kernel
theorem dX12_test_0 : decode cX12_test 0 = .ok (.aload_n 0, 1) := by decide +kernel
theorem dX12_test_1 : decode cX12_test 1 = .ok (.aload_n 0, 1) := by decide +kernel
theorem dX12_test_2 : decode cX12_test 2 = .ok (.iload_n 1, 1) := by decide +kernel
theorem dX12_test_3 : decode cX12_test 3 = .ok (.invokevirtual 249, 3) := by decide +kernel
theorem dX12_test_6 : decode cX12_test 6 = .ok (.ifCond .eq 16, 3) := by decide +kernel
theorem dX12_test_9 : decode cX12_test 9 = .ok (.iload_n 2, 1) := by decide +kernel
theorem dX12_test_10 : decode cX12_test 10 = .ok (.iconst 0, 1) := by decide +kernel
theorem dX12_test_11 : decode cX12_test 11 = .ok (.iconst 4, 1) := by decide +kernel
theorem dX12_test_12 : decode cX12_test 12 = .ok (.invokestatic 147, 3) := by decide +kernel
theorem dX12_test_15 : decode cX12_test 15 = .ok (.ifCond .eq 7, 3) := by decide +kernel
theorem dX12_test_18 : decode cX12_test 18 = .ok (.iconst 0, 1) := by decide +kernel
theorem dX12_test_19 : decode cX12_test 19 = .ok (.goto 4, 3) := by decide +kernel
theorem dX12_test_22 : decode cX12_test 22 = .ok (.iconst 1, 1) := by decide +kernel
theorem dX12_test_23 : decode cX12_test 23 = .ok (.putfield 121, 3) := by decide +kernel
theorem dX12_test_26 : decode cX12_test 26 = .ok (.aload_n 0, 1) := by decide +kernel
theorem dX12_test_27 : decode cX12_test 27 = .ok (.getfield 121, 3) := by decide +kernel
theorem dX12_test_30 : decode cX12_test 30 = .ok (.ifCond .le 7, 3) := by decide +kernel
theorem dX12_test_33 : decode cX12_test 33 = .ok (.iconst 0, 1) := by decide +kernel
theorem dX12_test_34 : decode cX12_test 34 = .ok (.goto 13, 3) := by decide +kernel
theorem dX12_test_37 : decode cX12_test 37 = .ok (.aload_n 0, 1) := by decide +kernel
theorem dX12_test_38 : decode cX12_test 38 = .ok (.getfield 44, 3) := by decide +kernel
theorem dX12_test_41 : decode cX12_test 41 = .ok (.iconst 5, 1) := by decide +kernel
theorem dX12_test_42 : decode cX12_test 42 = .ok (.iload_n 1, 1) := by decide +kernel
theorem dX12_test_43 : decode cX12_test 43 = .ok (.imul, 1) := by decide +kernel
theorem dX12_test_44 : decode cX12_test 44 = .ok (.iload_n 2, 1) := by decide +kernel
theorem dX12_test_45 : decode cX12_test 45 = .ok (.iadd, 1) := by decide +kernel
theorem dX12_test_46 : decode cX12_test 46 = .ok (.iaload, 1) := by decide +kernel
theorem dX12_test_47 : decode cX12_test 47 = .ok (.ireturn, 1) := by decide +kernel
theorem dX12_isOut_0 : decode cX12_isOut 0 = .ok (.aload_n 0, 1) := by decide +kernel
theorem dX12_isOut_1 : decode cX12_isOut 1 = .ok (.getfield 41, 3) := by decide +kernel
theorem dX12_isOut_4 : decode cX12_isOut 4 = .ok (.iload_n 1, 1) := by decide +kernel
theorem dX12_isOut_5 : decode cX12_isOut 5 = .ok (.iaload, 1) := by decide +kernel
theorem dX12_isOut_6 : decode cX12_isOut 6 = .ok (.iconst 1, 1) := by decide +kernel
theorem dX12_isOut_7 : decode cX12_isOut 7 = .ok (.iand, 1) := by decide +kernel
theorem dX12_isOut_8 : decode cX12_isOut 8 = .ok (.ifCond .le 7, 3) := by decide +kernel
theorem dX12_isOut_11 : decode cX12_isOut 11 = .ok (.iconst 1, 1) := by decide +kernel
theorem dX12_isOut_12 : decode cX12_isOut 12 = .ok (.goto 4, 3) := by decide +kernel
theorem dX12_isOut_15 : decode cX12_isOut 15 = .ok (.iconst 0, 1) := by decide +kernel
theorem dX12_isOut_16 : decode cX12_isOut 16 = .ok (.ireturn, 1) := by decide +kernel
theorem dX12_worth_0 : decode cX12_worth 0 = .ok (.aload_n 0, 1) := by decide +kernel
theorem dX12_worth_1 : decode cX12_worth 1 = .ok (.getfield 17, 3) := by decide +kernel
theorem dX12_worth_4 : decode cX12_worth 4 = .ok (.iload_n 1, 1) := by decide +kernel
theorem dX12_worth_5 : decode cX12_worth 5 = .ok (.iaload, 1) := by decide +kernel
theorem dX12_worth_6 : decode cX12_worth 6 = .ok (.tableswitch 78 4 6 #[26, 33, 45], 26) := by decide +kernel
theorem dX12_worth_32 : decode cX12_worth 32 = .ok (.aload_n 0, 1) := by decide +kernel
theorem dX12_worth_33 : decode cX12_worth 33 = .ok (.getfield 20, 3) := by decide +kernel
theorem dX12_worth_36 : decode cX12_worth 36 = .ok (.iload_n 1, 1) := by decide +kernel
theorem dX12_worth_37 : decode cX12_worth 37 = .ok (.iaload, 1) := by decide +kernel
theorem dX12_worth_38 : decode cX12_worth 38 = .ok (.ireturn, 1) := by decide +kernel
theorem dX12_worth_39 : decode cX12_worth 39 = .ok (.aload_n 0, 1) := by decide +kernel
theorem dX12_worth_40 : decode cX12_worth 40 = .ok (.getfield 50, 3) := by decide +kernel
theorem dX12_worth_43 : decode cX12_worth 43 = .ok (.aload_n 0, 1) := by decide +kernel
theorem dX12_worth_44 : decode cX12_worth 44 = .ok (.getfield 20, 3) := by decide +kernel
theorem dX12_worth_47 : decode cX12_worth 47 = .ok (.iload_n 1, 1) := by decide +kernel
theorem dX12_worth_48 : decode cX12_worth 48 = .ok (.iaload, 1) := by decide +kernel
theorem dX12_worth_49 : decode cX12_worth 49 = .ok (.iaload, 1) := by decide +kernel
theorem dX12_worth_50 : decode cX12_worth 50 = .ok (.ireturn, 1) := by decide +kernel
theorem dX12_worth_51 : decode cX12_worth 51 = .ok (.aload_n 0, 1) := by decide +kernel
theorem dX12_worth_52 : decode cX12_worth 52 = .ok (.iload_n 1, 1) := by decide +kernel
theorem dX12_worth_53 : decode cX12_worth 53 = .ok (.invokevirtual 252, 3) := by decide +kernel
theorem dX12_worth_56 : decode cX12_worth 56 = .ok (.ifCond .eq 16, 3) := by decide +kernel
theorem dX12_worth_59 : decode cX12_worth 59 = .ok (.aload_n 0, 1) := by decide +kernel
theorem dX12_worth_60 : decode cX12_worth 60 = .ok (.aload_n 0, 1) := by decide +kernel
theorem dX12_worth_61 : decode cX12_worth 61 = .ok (.getfield 26, 3) := by decide +kernel
theorem dX12_worth_64 : decode cX12_worth 64 = .ok (.iload_n 1, 1) := by decide +kernel
theorem dX12_worth_65 : decode cX12_worth 65 = .ok (.iaload, 1) := by decide +kernel
theorem dX12_worth_66 : decode cX12_worth 66 = .ok (.invokevirtual 255, 3) := by decide +kernel
theorem dX12_worth_69 : decode cX12_worth 69 = .ok (.goto 14, 3) := by decide +kernel
theorem dX12_worth_72 : decode cX12_worth 72 = .ok (.aload_n 0, 1) := by decide +kernel
theorem dX12_worth_73 : decode cX12_worth 73 = .ok (.aload_n 0, 1) := by decide +kernel
theorem dX12_worth_74 : decode cX12_worth 74 = .ok (.getfield 26, 3) := by decide +kernel
theorem dX12_worth_77 : decode cX12_worth 77 = .ok (.iload_n 1, 1) := by decide +kernel
theorem dX12_worth_78 : decode cX12_worth 78 = .ok (.iaload, 1) := by decide +kernel
theorem dX12_worth_79 : decode cX12_worth 79 = .ok (.invokevirtual 255, 3) := by decide +kernel
theorem dX12_worth_82 : decode cX12_worth 82 = .ok (.ineg, 1) := by decide +kernel
theorem dX12_worth_83 : decode cX12_worth 83 = .ok (.ireturn, 1) := by decide +kernel
theorem dX12_worth_84 : decode cX12_worth 84 = .ok (.aload_n 0, 1) := by decide +kernel
theorem dX12_worth_85 : decode cX12_worth 85 = .ok (.getfield 41, 3) := by decide +kernel
theorem dX12_worth_88 : decode cX12_worth 88 = .ok (.iload_n 1, 1) := by decide +kernel
theorem dX12_worth_89 : decode cX12_worth 89 = .ok (.iaload, 1) := by decide +kernel
theorem dX12_worth_90 : decode cX12_worth 90 = .ok (.iconst 4, 1) := by decide +kernel
theorem dX12_worth_91 : decode cX12_worth 91 = .ok (.iand, 1) := by decide +kernel
theorem dX12_worth_92 : decode cX12_worth 92 = .ok (.ifCond .le 7, 3) := by decide +kernel
theorem dX12_worth_95 : decode cX12_worth 95 = .ok (.iconst 1, 1) := by decide +kernel
theorem dX12_worth_96 : decode cX12_worth 96 = .ok (.goto 4, 3) := by decide +kernel
theorem dX12_worth_99 : decode cX12_worth 99 = .ok (.iconst 0, 1) := by decide +kernel
theorem dX12_worth_100 : decode cX12_worth 100 = .ok (.istore_n 2, 1) := by decide +kernel
theorem dX12_worth_101 : decode cX12_worth 101 = .ok (.aload_n 0, 1) := by decide +kernel
theorem dX12_worth_102 : decode cX12_worth 102 = .ok (.iload_n 2, 1) := by decide +kernel
theorem dX12_worth_103 : decode cX12_worth 103 = .ok (.ifCond .eq 12, 3) := by decide +kernel
theorem dX12_worth_106 : decode cX12_worth 106 = .ok (.aload_n 0, 1) := by decide +kernel
theorem dX12_worth_107 : decode cX12_worth 107 = .ok (.getfield 29, 3) := by decide +kernel
theorem dX12_worth_110 : decode cX12_worth 110 = .ok (.iload_n 1, 1) := by decide +kernel
theorem dX12_worth_111 : decode cX12_worth 111 = .ok (.iaload, 1) := by decide +kernel
theorem dX12_worth_112 : decode cX12_worth 112 = .ok (.goto 9, 3) := by decide +kernel
theorem dX12_worth_115 : decode cX12_worth 115 = .ok (.aload_n 0, 1) := by decide +kernel
theorem dX12_worth_116 : decode cX12_worth 116 = .ok (.getfield 26, 3) := by decide +kernel
theorem dX12_worth_119 : decode cX12_worth 119 = .ok (.iload_n 1, 1) := by decide +kernel
theorem dX12_worth_120 : decode cX12_worth 120 = .ok (.iaload, 1) := by decide +kernel
theorem dX12_worth_121 : decode cX12_worth 121 = .ok (.invokevirtual 255, 3) := by decide +kernel
theorem dX12_worth_124 : decode cX12_worth 124 = .ok (.istore_n 3, 1) := by decide +kernel
theorem dX12_worth_125 : decode cX12_worth 125 = .ok (.aload_n 0, 1) := by decide +kernel
theorem dX12_worth_126 : decode cX12_worth 126 = .ok (.getfield 258, 3) := by decide +kernel
theorem dX12_worth_129 : decode cX12_worth 129 = .ok (.ifCond .ne 29, 3) := by decide +kernel
theorem dX12_worth_132 : decode cX12_worth 132 = .ok (.aload_n 0, 1) := by decide +kernel
theorem dX12_worth_133 : decode cX12_worth 133 = .ok (.iload_n 2, 1) := by decide +kernel
theorem dX12_worth_134 : decode cX12_worth 134 = .ok (.ifCond .eq 12, 3) := by decide +kernel
theorem dX12_worth_137 : decode cX12_worth 137 = .ok (.aload_n 0, 1) := by decide +kernel
theorem dX12_worth_138 : decode cX12_worth 138 = .ok (.getfield 26, 3) := by decide +kernel
theorem dX12_worth_141 : decode cX12_worth 141 = .ok (.iload_n 1, 1) := by decide +kernel
theorem dX12_worth_142 : decode cX12_worth 142 = .ok (.iaload, 1) := by decide +kernel
theorem dX12_worth_143 : decode cX12_worth 143 = .ok (.goto 9, 3) := by decide +kernel
theorem dX12_worth_146 : decode cX12_worth 146 = .ok (.aload_n 0, 1) := by decide +kernel
theorem dX12_worth_147 : decode cX12_worth 147 = .ok (.getfield 29, 3) := by decide +kernel
theorem dX12_worth_150 : decode cX12_worth 150 = .ok (.iload_n 1, 1) := by decide +kernel
theorem dX12_worth_151 : decode cX12_worth 151 = .ok (.iaload, 1) := by decide +kernel
theorem dX12_worth_152 : decode cX12_worth 152 = .ok (.invokevirtual 255, 3) := by decide +kernel
theorem dX12_worth_155 : decode cX12_worth 155 = .ok (.goto 4, 3) := by decide +kernel
theorem dX12_worth_158 : decode cX12_worth 158 = .ok (.iconst 0, 1) := by decide +kernel
theorem dX12_worth_159 : decode cX12_worth 159 = .ok (.istore 4, 2) := by decide +kernel
theorem dX12_worth_161 : decode cX12_worth 161 = .ok (.aload_n 0, 1) := by decide +kernel
theorem dX12_worth_162 : decode cX12_worth 162 = .ok (.getfield 258, 3) := by decide +kernel
theorem dX12_worth_165 : decode cX12_worth 165 = .ok (.ifCond .ne 19, 3) := by decide +kernel
theorem dX12_worth_168 : decode cX12_worth 168 = .ok (.aload_n 0, 1) := by decide +kernel
theorem dX12_worth_169 : decode cX12_worth 169 = .ok (.aload_n 0, 1) := by decide +kernel
theorem dX12_worth_170 : decode cX12_worth 170 = .ok (.getfield 20, 3) := by decide +kernel
theorem dX12_worth_173 : decode cX12_worth 173 = .ok (.iload_n 1, 1) := by decide +kernel
theorem dX12_worth_174 : decode cX12_worth 174 = .ok (.iaload, 1) := by decide +kernel
theorem dX12_worth_175 : decode cX12_worth 175 = .ok (.iload_n 3, 1) := by decide +kernel
theorem dX12_worth_176 : decode cX12_worth 176 = .ok (.iload 4, 2) := by decide +kernel
theorem dX12_worth_178 : decode cX12_worth 178 = .ok (.invokevirtual 261, 3) := by decide +kernel
theorem dX12_worth_181 : decode cX12_worth 181 = .ok (.goto 4, 3) := by decide +kernel
theorem dX12_worth_184 : decode cX12_worth 184 = .ok (.iconst 0, 1) := by decide +kernel
theorem dX12_worth_185 : decode cX12_worth 185 = .ok (.ireturn, 1) := by decide +kernel
theorem dX12_joined_0 : decode cX12_joined 0 = .ok (.iload_n 1, 1) := by decide +kernel
theorem dX12_joined_1 : decode cX12_joined 1 = .ok (.iconst 3, 1) := by decide +kernel
theorem dX12_joined_2 : decode cX12_joined 2 = .ok (.if_icmp .eq 8, 3) := by decide +kernel
theorem dX12_joined_5 : decode cX12_joined 5 = .ok (.iload_n 1, 1) := by decide +kernel
theorem dX12_joined_6 : decode cX12_joined 6 = .ok (.iconst 4, 1) := by decide +kernel
theorem dX12_joined_7 : decode cX12_joined 7 = .ok (.if_icmp .ne 14, 3) := by decide +kernel
theorem dX12_joined_10 : decode cX12_joined 10 = .ok (.iload_n 3, 1) := by decide +kernel
theorem dX12_joined_11 : decode cX12_joined 11 = .ok (.ifCond .ne 10, 3) := by decide +kernel
theorem dX12_joined_14 : decode cX12_joined 14 = .ok (.aload_n 0, 1) := by decide +kernel
theorem dX12_joined_15 : decode cX12_joined 15 = .ok (.iconst 1, 1) := by decide +kernel
theorem dX12_joined_16 : decode cX12_joined 16 = .ok (.putfield 258, 3) := by decide +kernel
theorem dX12_joined_19 : decode cX12_joined 19 = .ok (.iconst 0, 1) := by decide +kernel
theorem dX12_joined_20 : decode cX12_joined 20 = .ok (.ireturn, 1) := by decide +kernel
theorem dX12_joined_21 : decode cX12_joined 21 = .ok (.iload_n 1, 1) := by decide +kernel
theorem dX12_joined_22 : decode cX12_joined 22 = .ok (.tableswitch 129 0 9 #[54, 58, 62, 66, 70, 74, 85, 96, 107, 118], 54) := by decide +kernel
theorem dX12_joined_76 : decode cX12_joined 76 = .ok (.iload_n 2, 1) := by decide +kernel
theorem dX12_joined_77 : decode cX12_joined 77 = .ok (.iload_n 3, 1) := by decide +kernel
theorem dX12_joined_78 : decode cX12_joined 78 = .ok (.iadd, 1) := by decide +kernel
theorem dX12_joined_79 : decode cX12_joined 79 = .ok (.ireturn, 1) := by decide +kernel
theorem dX12_joined_80 : decode cX12_joined 80 = .ok (.iload_n 2, 1) := by decide +kernel
theorem dX12_joined_81 : decode cX12_joined 81 = .ok (.iload_n 3, 1) := by decide +kernel
theorem dX12_joined_82 : decode cX12_joined 82 = .ok (.isub, 1) := by decide +kernel
theorem dX12_joined_83 : decode cX12_joined 83 = .ok (.ireturn, 1) := by decide +kernel
theorem dX12_joined_84 : decode cX12_joined 84 = .ok (.iload_n 2, 1) := by decide +kernel
theorem dX12_joined_85 : decode cX12_joined 85 = .ok (.iload_n 3, 1) := by decide +kernel
theorem dX12_joined_86 : decode cX12_joined 86 = .ok (.imul, 1) := by decide +kernel
theorem dX12_joined_87 : decode cX12_joined 87 = .ok (.ireturn, 1) := by decide +kernel
theorem dX12_joined_88 : decode cX12_joined 88 = .ok (.iload_n 2, 1) := by decide +kernel
theorem dX12_joined_89 : decode cX12_joined 89 = .ok (.iload_n 3, 1) := by decide +kernel
theorem dX12_joined_90 : decode cX12_joined 90 = .ok (.idiv, 1) := by decide +kernel
theorem dX12_joined_91 : decode cX12_joined 91 = .ok (.ireturn, 1) := by decide +kernel
theorem dX12_joined_92 : decode cX12_joined 92 = .ok (.iload_n 2, 1) := by decide +kernel
theorem dX12_joined_93 : decode cX12_joined 93 = .ok (.iload_n 3, 1) := by decide +kernel
theorem dX12_joined_94 : decode cX12_joined 94 = .ok (.irem, 1) := by decide +kernel
theorem dX12_joined_95 : decode cX12_joined 95 = .ok (.ireturn, 1) := by decide +kernel
theorem dX12_joined_96 : decode cX12_joined 96 = .ok (.iload_n 2, 1) := by decide +kernel
theorem dX12_joined_97 : decode cX12_joined 97 = .ok (.iload_n 3, 1) := by decide +kernel
theorem dX12_joined_98 : decode cX12_joined 98 = .ok (.if_icmp .ge 7, 3) := by decide +kernel
theorem dX12_joined_101 : decode cX12_joined 101 = .ok (.iconst 1, 1) := by decide +kernel
theorem dX12_joined_102 : decode cX12_joined 102 = .ok (.goto 4, 3) := by decide +kernel
theorem dX12_joined_105 : decode cX12_joined 105 = .ok (.iconst 0, 1) := by decide +kernel
theorem dX12_joined_106 : decode cX12_joined 106 = .ok (.ireturn, 1) := by decide +kernel
theorem dX12_joined_107 : decode cX12_joined 107 = .ok (.iload_n 2, 1) := by decide +kernel
theorem dX12_joined_108 : decode cX12_joined 108 = .ok (.iload_n 3, 1) := by decide +kernel
theorem dX12_joined_109 : decode cX12_joined 109 = .ok (.if_icmp .gt 7, 3) := by decide +kernel
theorem dX12_joined_112 : decode cX12_joined 112 = .ok (.iconst 1, 1) := by decide +kernel
theorem dX12_joined_113 : decode cX12_joined 113 = .ok (.goto 4, 3) := by decide +kernel
theorem dX12_joined_116 : decode cX12_joined 116 = .ok (.iconst 0, 1) := by decide +kernel
theorem dX12_joined_117 : decode cX12_joined 117 = .ok (.ireturn, 1) := by decide +kernel
theorem dX12_joined_118 : decode cX12_joined 118 = .ok (.iload_n 2, 1) := by decide +kernel
theorem dX12_joined_119 : decode cX12_joined 119 = .ok (.iload_n 3, 1) := by decide +kernel
theorem dX12_joined_120 : decode cX12_joined 120 = .ok (.if_icmp .ne 7, 3) := by decide +kernel
theorem dX12_joined_123 : decode cX12_joined 123 = .ok (.iconst 1, 1) := by decide +kernel
theorem dX12_joined_124 : decode cX12_joined 124 = .ok (.goto 4, 3) := by decide +kernel
theorem dX12_joined_127 : decode cX12_joined 127 = .ok (.iconst 0, 1) := by decide +kernel
theorem dX12_joined_128 : decode cX12_joined 128 = .ok (.ireturn, 1) := by decide +kernel
theorem dX12_joined_129 : decode cX12_joined 129 = .ok (.iload_n 2, 1) := by decide +kernel
theorem dX12_joined_130 : decode cX12_joined 130 = .ok (.iload_n 3, 1) := by decide +kernel
theorem dX12_joined_131 : decode cX12_joined 131 = .ok (.if_icmp .eq 7, 3) := by decide +kernel
theorem dX12_joined_134 : decode cX12_joined 134 = .ok (.iconst 1, 1) := by decide +kernel
theorem dX12_joined_135 : decode cX12_joined 135 = .ok (.goto 4, 3) := by decide +kernel
theorem dX12_joined_138 : decode cX12_joined 138 = .ok (.iconst 0, 1) := by decide +kernel
theorem dX12_joined_139 : decode cX12_joined 139 = .ok (.ireturn, 1) := by decide +kernel
theorem dX12_joined_140 : decode cX12_joined 140 = .ok (.iload_n 2, 1) := by decide +kernel
theorem dX12_joined_141 : decode cX12_joined 141 = .ok (.iload_n 3, 1) := by decide +kernel
theorem dX12_joined_142 : decode cX12_joined 142 = .ok (.if_icmp .le 7, 3) := by decide +kernel
theorem dX12_joined_145 : decode cX12_joined 145 = .ok (.iconst 1, 1) := by decide +kernel
theorem dX12_joined_146 : decode cX12_joined 146 = .ok (.goto 4, 3) := by decide +kernel
theorem dX12_joined_149 : decode cX12_joined 149 = .ok (.iconst 0, 1) := by decide +kernel
theorem dX12_joined_150 : decode cX12_joined 150 = .ok (.ireturn, 1) := by decide +kernel
theorem dX12_joined_151 : decode cX12_joined 151 = .ok (.iload_n 2, 1) := by decide +kernel
theorem dX12_joined_152 : decode cX12_joined 152 = .ok (.iload_n 3, 1) := by decide +kernel
theorem dX12_joined_153 : decode cX12_joined 153 = .ok (.if_icmp .lt 7, 3) := by decide +kernel
theorem dX12_joined_156 : decode cX12_joined 156 = .ok (.iconst 1, 1) := by decide +kernel
theorem dX12_joined_157 : decode cX12_joined 157 = .ok (.goto 4, 3) := by decide +kernel
theorem dX12_joined_160 : decode cX12_joined 160 = .ok (.iconst 0, 1) := by decide +kernel
theorem dX12_joined_161 : decode cX12_joined 161 = .ok (.ireturn, 1) := by decide +kernel
theorem dX12_isOn_0 : decode cX12_isOn 0 = .ok (.aload_n 0, 1) := by decide +kernel
theorem dX12_isOn_1 : decode cX12_isOn 1 = .ok (.getfield 258, 3) := by decide +kernel
theorem dX12_isOn_4 : decode cX12_isOn 4 = .ok (.ifCond .ne 14, 3) := by decide +kernel
theorem dX12_isOn_7 : decode cX12_isOn 7 = .ok (.aload_n 0, 1) := by decide +kernel
theorem dX12_isOn_8 : decode cX12_isOn 8 = .ok (.getfield 264, 3) := by decide +kernel
theorem dX12_isOn_11 : decode cX12_isOn 11 = .ok (.ifCond .ne 7, 3) := by decide +kernel
theorem dX12_isOn_14 : decode cX12_isOn 14 = .ok (.iconst 1, 1) := by decide +kernel
theorem dX12_isOn_15 : decode cX12_isOn 15 = .ok (.goto 4, 3) := by decide +kernel
theorem dX12_isOn_18 : decode cX12_isOn 18 = .ok (.iconst 0, 1) := by decide +kernel
theorem dX12_isOn_19 : decode cX12_isOn 19 = .ok (.ireturn, 1) := by decide +kernel
theorem dX12_step_0 : decode cX12_step 0 = .ok (.aload_n 0, 1) := by decide +kernel
theorem dX12_step_1 : decode cX12_step 1 = .ok (.getfield 268, 3) := by decide +kernel
theorem dX12_step_4 : decode cX12_step 4 = .ok (.sipush 300, 3) := by decide +kernel
theorem dX12_step_7 : decode cX12_step 7 = .ok (.if_icmp .ne 10, 3) := by decide +kernel
theorem dX12_step_10 : decode cX12_step 10 = .ok (.aload_n 0, 1) := by decide +kernel
theorem dX12_step_11 : decode cX12_step 11 = .ok (.iconst 2, 1) := by decide +kernel
theorem dX12_step_12 : decode cX12_step 12 = .ok (.putfield 258, 3) := by decide +kernel
theorem dX12_step_15 : decode cX12_step 15 = .ok (.iconst 0, 1) := by decide +kernel
theorem dX12_step_16 : decode cX12_step 16 = .ok (.ireturn, 1) := by decide +kernel
theorem dX12_step_17 : decode cX12_step 17 = .ok (.aload_n 0, 1) := by decide +kernel
theorem dX12_step_18 : decode cX12_step 18 = .ok (.getfield 56, 3) := by decide +kernel
theorem dX12_step_21 : decode cX12_step 21 = .ok (.aload_n 0, 1) := by decide +kernel
theorem dX12_step_22 : decode cX12_step 22 = .ok (.getfield 268, 3) := by decide +kernel
theorem dX12_step_25 : decode cX12_step 25 = .ok (.iload_n 1, 1) := by decide +kernel
theorem dX12_step_26 : decode cX12_step 26 = .ok (.iastore, 1) := by decide +kernel
theorem dX12_step_27 : decode cX12_step 27 = .ok (.aload_n 0, 1) := by decide +kernel
theorem dX12_step_28 : decode cX12_step 28 = .ok (.dup, 1) := by decide +kernel
theorem dX12_step_29 : decode cX12_step 29 = .ok (.getfield 268, 3) := by decide +kernel
theorem dX12_step_32 : decode cX12_step 32 = .ok (.iconst 1, 1) := by decide +kernel
theorem dX12_step_33 : decode cX12_step 33 = .ok (.iadd, 1) := by decide +kernel
theorem dX12_step_34 : decode cX12_step 34 = .ok (.putfield 268, 3) := by decide +kernel
theorem dX12_step_37 : decode cX12_step 37 = .ok (.aload_n 0, 1) := by decide +kernel
theorem dX12_step_38 : decode cX12_step 38 = .ok (.getfield 53, 3) := by decide +kernel
theorem dX12_step_41 : decode cX12_step 41 = .ok (.iload_n 1, 1) := by decide +kernel
theorem dX12_step_42 : decode cX12_step 42 = .ok (.dup2, 1) := by decide +kernel
theorem dX12_step_43 : decode cX12_step 43 = .ok (.iaload, 1) := by decide +kernel
theorem dX12_step_44 : decode cX12_step 44 = .ok (.iconst 1, 1) := by decide +kernel
theorem dX12_step_45 : decode cX12_step 45 = .ok (.iadd, 1) := by decide +kernel
theorem dX12_step_46 : decode cX12_step 46 = .ok (.iastore, 1) := by decide +kernel
theorem dX12_step_47 : decode cX12_step 47 = .ok (.iconst 1, 1) := by decide +kernel
theorem dX12_step_48 : decode cX12_step 48 = .ok (.ireturn, 1) := by decide +kernel
theorem dX12_comesOut_0 : decode cX12_comesOut 0 = .ok (.aload_n 0, 1) := by decide +kernel
theorem dX12_comesOut_1 : decode cX12_comesOut 1 = .ok (.aload_n 0, 1) := by decide +kernel
theorem dX12_comesOut_2 : decode cX12_comesOut 2 = .ok (.getfield 26, 3) := by decide +kernel
theorem dX12_comesOut_5 : decode cX12_comesOut 5 = .ok (.iload_n 1, 1) := by decide +kernel
theorem dX12_comesOut_6 : decode cX12_comesOut 6 = .ok (.iaload, 1) := by decide +kernel
theorem dX12_comesOut_7 : decode cX12_comesOut 7 = .ok (.invokevirtual 255, 3) := by decide +kernel
theorem dX12_comesOut_10 : decode cX12_comesOut 10 = .ok (.istore_n 2, 1) := by decide +kernel
theorem dX12_comesOut_11 : decode cX12_comesOut 11 = .ok (.aload_n 0, 1) := by decide +kernel
theorem dX12_comesOut_12 : decode cX12_comesOut 12 = .ok (.getfield 258, 3) := by decide +kernel
theorem dX12_comesOut_15 : decode cX12_comesOut 15 = .ok (.ifCond .eq 5, 3) := by decide +kernel
theorem dX12_comesOut_18 : decode cX12_comesOut 18 = .ok (.iconst 0, 1) := by decide +kernel
theorem dX12_comesOut_19 : decode cX12_comesOut 19 = .ok (.ireturn, 1) := by decide +kernel
theorem dX12_comesOut_20 : decode cX12_comesOut 20 = .ok (.iload_n 2, 1) := by decide +kernel
theorem dX12_comesOut_21 : decode cX12_comesOut 21 = .ok (.ifCond .eq 7, 3) := by decide +kernel
theorem dX12_comesOut_24 : decode cX12_comesOut 24 = .ok (.iconst 1, 1) := by decide +kernel
theorem dX12_comesOut_25 : decode cX12_comesOut 25 = .ok (.goto 4, 3) := by decide +kernel
theorem dX12_comesOut_28 : decode cX12_comesOut 28 = .ok (.iconst 0, 1) := by decide +kernel
theorem dX12_comesOut_29 : decode cX12_comesOut 29 = .ok (.aload_n 0, 1) := by decide +kernel
theorem dX12_comesOut_30 : decode cX12_comesOut 30 = .ok (.getfield 41, 3) := by decide +kernel
theorem dX12_comesOut_33 : decode cX12_comesOut 33 = .ok (.iload_n 1, 1) := by decide +kernel
theorem dX12_comesOut_34 : decode cX12_comesOut 34 = .ok (.iaload, 1) := by decide +kernel
theorem dX12_comesOut_35 : decode cX12_comesOut 35 = .ok (.iconst 2, 1) := by decide +kernel
theorem dX12_comesOut_36 : decode cX12_comesOut 36 = .ok (.iand, 1) := by decide +kernel
theorem dX12_comesOut_37 : decode cX12_comesOut 37 = .ok (.ifCond .le 7, 3) := by decide +kernel
theorem dX12_comesOut_40 : decode cX12_comesOut 40 = .ok (.iconst 1, 1) := by decide +kernel
theorem dX12_comesOut_41 : decode cX12_comesOut 41 = .ok (.goto 4, 3) := by decide +kernel
theorem dX12_comesOut_44 : decode cX12_comesOut 44 = .ok (.iconst 0, 1) := by decide +kernel
theorem dX12_comesOut_45 : decode cX12_comesOut 45 = .ok (.if_icmp .eq 7, 3) := by decide +kernel
theorem dX12_comesOut_48 : decode cX12_comesOut 48 = .ok (.iconst 1, 1) := by decide +kernel
theorem dX12_comesOut_49 : decode cX12_comesOut 49 = .ok (.goto 4, 3) := by decide +kernel
theorem dX12_comesOut_52 : decode cX12_comesOut 52 = .ok (.iconst 0, 1) := by decide +kernel
theorem dX12_comesOut_53 : decode cX12_comesOut 53 = .ok (.istore_n 3, 1) := by decide +kernel
theorem dX12_comesOut_54 : decode cX12_comesOut 54 = .ok (.iload_n 1, 1) := by decide +kernel
theorem dX12_comesOut_55 : decode cX12_comesOut 55 = .ok (.aload_n 0, 1) := by decide +kernel
theorem dX12_comesOut_56 : decode cX12_comesOut 56 = .ok (.getfield 63, 3) := by decide +kernel
theorem dX12_comesOut_59 : decode cX12_comesOut 59 = .ok (.if_icmp .ne 10, 3) := by decide +kernel
theorem dX12_comesOut_62 : decode cX12_comesOut 62 = .ok (.aload_n 0, 1) := by decide +kernel
theorem dX12_comesOut_63 : decode cX12_comesOut 63 = .ok (.getfield 271, 3) := by decide +kernel
theorem dX12_comesOut_66 : decode cX12_comesOut 66 = .ok (.goto 4, 3) := by decide +kernel
theorem dX12_comesOut_69 : decode cX12_comesOut 69 = .ok (.iload_n 3, 1) := by decide +kernel
theorem dX12_comesOut_70 : decode cX12_comesOut 70 = .ok (.istore_n 3, 1) := by decide +kernel
theorem dX12_comesOut_71 : decode cX12_comesOut 71 = .ok (.aload_n 0, 1) := by decide +kernel
theorem dX12_comesOut_72 : decode cX12_comesOut 72 = .ok (.getfield 274, 3) := by decide +kernel
theorem dX12_comesOut_75 : decode cX12_comesOut 75 = .ok (.aload_n 0, 1) := by decide +kernel
theorem dX12_comesOut_76 : decode cX12_comesOut 76 = .ok (.getfield 59, 3) := by decide +kernel
theorem dX12_comesOut_79 : decode cX12_comesOut 79 = .ok (.if_icmp .ne 15, 3) := by decide +kernel
theorem dX12_comesOut_82 : decode cX12_comesOut 82 = .ok (.iload_n 3, 1) := by decide +kernel
theorem dX12_comesOut_83 : decode cX12_comesOut 83 = .ok (.ifCond .ne 7, 3) := by decide +kernel
theorem dX12_comesOut_86 : decode cX12_comesOut 86 = .ok (.iconst 1, 1) := by decide +kernel
theorem dX12_comesOut_87 : decode cX12_comesOut 87 = .ok (.goto 8, 3) := by decide +kernel
theorem dX12_comesOut_90 : decode cX12_comesOut 90 = .ok (.iconst 0, 1) := by decide +kernel
theorem dX12_comesOut_91 : decode cX12_comesOut 91 = .ok (.goto 4, 3) := by decide +kernel
theorem dX12_comesOut_94 : decode cX12_comesOut 94 = .ok (.iload_n 3, 1) := by decide +kernel
theorem dX12_comesOut_95 : decode cX12_comesOut 95 = .ok (.istore_n 3, 1) := by decide +kernel
theorem dX12_comesOut_96 : decode cX12_comesOut 96 = .ok (.aload_n 0, 1) := by decide +kernel
theorem dX12_comesOut_97 : decode cX12_comesOut 97 = .ok (.dup, 1) := by decide +kernel
theorem dX12_comesOut_98 : decode cX12_comesOut 98 = .ok (.getfield 274, 3) := by decide +kernel
theorem dX12_comesOut_101 : decode cX12_comesOut 101 = .ok (.iconst 1, 1) := by decide +kernel
theorem dX12_comesOut_102 : decode cX12_comesOut 102 = .ok (.iadd, 1) := by decide +kernel
theorem dX12_comesOut_103 : decode cX12_comesOut 103 = .ok (.putfield 274, 3) := by decide +kernel
theorem dX12_comesOut_106 : decode cX12_comesOut 106 = .ok (.iload_n 3, 1) := by decide +kernel
theorem dX12_comesOut_107 : decode cX12_comesOut 107 = .ok (.ireturn, 1) := by decide +kernel
theorem dX12_goesRow_0 : decode cX12_goesRow 0 = .ok (.iload_n 1, 1) := by decide +kernel
theorem dX12_goesRow_1 : decode cX12_goesRow 1 = .ok (.istore_n 2, 1) := by decide +kernel
theorem dX12_goesRow_2 : decode cX12_goesRow 2 = .ok (.iload_n 2, 1) := by decide +kernel
theorem dX12_goesRow_3 : decode cX12_goesRow 3 = .ok (.iconst (-1), 1) := by decide +kernel
theorem dX12_goesRow_4 : decode cX12_goesRow 4 = .ok (.if_icmp .eq 33, 3) := by decide +kernel
theorem dX12_goesRow_7 : decode cX12_goesRow 7 = .ok (.aload_n 0, 1) := by decide +kernel
theorem dX12_goesRow_8 : decode cX12_goesRow 8 = .ok (.invokevirtual 277, 3) := by decide +kernel
theorem dX12_goesRow_11 : decode cX12_goesRow 11 = .ok (.ifCond .eq 26, 3) := by decide +kernel
theorem dX12_goesRow_14 : decode cX12_goesRow 14 = .ok (.aload_n 0, 1) := by decide +kernel
theorem dX12_goesRow_15 : decode cX12_goesRow 15 = .ok (.iload_n 2, 1) := by decide +kernel
theorem dX12_goesRow_16 : decode cX12_goesRow 16 = .ok (.invokevirtual 252, 3) := by decide +kernel
theorem dX12_goesRow_19 : decode cX12_goesRow 19 = .ok (.ifCond .ne 8, 3) := by decide +kernel
theorem dX12_goesRow_22 : decode cX12_goesRow 22 = .ok (.aload_n 0, 1) := by decide +kernel
theorem dX12_goesRow_23 : decode cX12_goesRow 23 = .ok (.iload_n 2, 1) := by decide +kernel
theorem dX12_goesRow_24 : decode cX12_goesRow 24 = .ok (.invokevirtual 281, 3) := by decide +kernel
theorem dX12_goesRow_27 : decode cX12_goesRow 27 = .ok (.aload_n 0, 1) := by decide +kernel
theorem dX12_goesRow_28 : decode cX12_goesRow 28 = .ok (.getfield 38, 3) := by decide +kernel
theorem dX12_goesRow_31 : decode cX12_goesRow 31 = .ok (.iload_n 2, 1) := by decide +kernel
theorem dX12_goesRow_32 : decode cX12_goesRow 32 = .ok (.iaload, 1) := by decide +kernel
theorem dX12_goesRow_33 : decode cX12_goesRow 33 = .ok (.istore_n 2, 1) := by decide +kernel
theorem dX12_goesRow_34 : decode cX12_goesRow 34 = .ok (.goto (-32), 3) := by decide +kernel
theorem dX12_goesRow_37 : decode cX12_goesRow 37 = .ok (.return_, 1) := by decide +kernel
theorem dX12_goes_0 : decode cX12_goes 0 = .ok (.aload_n 0, 1) := by decide +kernel
theorem dX12_goes_1 : decode cX12_goes 1 = .ok (.iload_n 1, 1) := by decide +kernel
theorem dX12_goes_2 : decode cX12_goes 2 = .ok (.invokevirtual 284, 3) := by decide +kernel
theorem dX12_goes_5 : decode cX12_goes 5 = .ok (.ifCond .ne 4, 3) := by decide +kernel
theorem dX12_goes_8 : decode cX12_goes 8 = .ok (.return_, 1) := by decide +kernel
theorem dX12_goes_9 : decode cX12_goes 9 = .ok (.aload_n 0, 1) := by decide +kernel
theorem dX12_goes_10 : decode cX12_goes 10 = .ok (.getfield 17, 3) := by decide +kernel
theorem dX12_goes_13 : decode cX12_goes 13 = .ok (.iload_n 1, 1) := by decide +kernel
theorem dX12_goes_14 : decode cX12_goes 14 = .ok (.iaload, 1) := by decide +kernel
theorem dX12_goes_15 : decode cX12_goes 15 = .ok (.tableswitch 161 0 3 #[29, 122, 161, 76], 29) := by decide +kernel
theorem dX12_goes_44 : decode cX12_goes 44 = .ok (.aload_n 0, 1) := by decide +kernel
theorem dX12_goes_45 : decode cX12_goes 45 = .ok (.aload_n 0, 1) := by decide +kernel
theorem dX12_goes_46 : decode cX12_goes 46 = .ok (.getfield 26, 3) := by decide +kernel
theorem dX12_goes_49 : decode cX12_goes 49 = .ok (.iload_n 1, 1) := by decide +kernel
theorem dX12_goes_50 : decode cX12_goes 50 = .ok (.iaload, 1) := by decide +kernel
theorem dX12_goes_51 : decode cX12_goes 51 = .ok (.invokevirtual 255, 3) := by decide +kernel
theorem dX12_goes_54 : decode cX12_goes 54 = .ok (.istore_n 2, 1) := by decide +kernel
theorem dX12_goes_55 : decode cX12_goes 55 = .ok (.aload_n 0, 1) := by decide +kernel
theorem dX12_goes_56 : decode cX12_goes 56 = .ok (.getfield 50, 3) := by decide +kernel
theorem dX12_goes_59 : decode cX12_goes 59 = .ok (.aload_n 0, 1) := by decide +kernel
theorem dX12_goes_60 : decode cX12_goes 60 = .ok (.getfield 20, 3) := by decide +kernel
theorem dX12_goes_63 : decode cX12_goes 63 = .ok (.iload_n 1, 1) := by decide +kernel
theorem dX12_goes_64 : decode cX12_goes 64 = .ok (.iaload, 1) := by decide +kernel
theorem dX12_goes_65 : decode cX12_goes 65 = .ok (.aload_n 0, 1) := by decide +kernel
theorem dX12_goes_66 : decode cX12_goes 66 = .ok (.getfield 258, 3) := by decide +kernel
theorem dX12_goes_69 : decode cX12_goes 69 = .ok (.ifCond .ne 7, 3) := by decide +kernel
theorem dX12_goes_72 : decode cX12_goes 72 = .ok (.iload_n 2, 1) := by decide +kernel
theorem dX12_goes_73 : decode cX12_goes 73 = .ok (.goto 14, 3) := by decide +kernel
theorem dX12_goes_76 : decode cX12_goes 76 = .ok (.aload_n 0, 1) := by decide +kernel
theorem dX12_goes_77 : decode cX12_goes 77 = .ok (.getfield 50, 3) := by decide +kernel
theorem dX12_goes_80 : decode cX12_goes 80 = .ok (.aload_n 0, 1) := by decide +kernel
theorem dX12_goes_81 : decode cX12_goes 81 = .ok (.getfield 20, 3) := by decide +kernel
theorem dX12_goes_84 : decode cX12_goes 84 = .ok (.iload_n 1, 1) := by decide +kernel
theorem dX12_goes_85 : decode cX12_goes 85 = .ok (.iaload, 1) := by decide +kernel
theorem dX12_goes_86 : decode cX12_goes 86 = .ok (.iaload, 1) := by decide +kernel
theorem dX12_goes_87 : decode cX12_goes 87 = .ok (.iastore, 1) := by decide +kernel
theorem dX12_goes_88 : decode cX12_goes 88 = .ok (.goto 129, 3) := by decide +kernel
theorem dX12_goes_91 : decode cX12_goes 91 = .ok (.aload_n 0, 1) := by decide +kernel
theorem dX12_goes_92 : decode cX12_goes 92 = .ok (.aload_n 0, 1) := by decide +kernel
theorem dX12_goes_93 : decode cX12_goes 93 = .ok (.getfield 26, 3) := by decide +kernel
theorem dX12_goes_96 : decode cX12_goes 96 = .ok (.iload_n 1, 1) := by decide +kernel
theorem dX12_goes_97 : decode cX12_goes 97 = .ok (.iaload, 1) := by decide +kernel
theorem dX12_goes_98 : decode cX12_goes 98 = .ok (.invokevirtual 255, 3) := by decide +kernel
theorem dX12_goes_101 : decode cX12_goes 101 = .ok (.istore_n 2, 1) := by decide +kernel
theorem dX12_goes_102 : decode cX12_goes 102 = .ok (.aload_n 0, 1) := by decide +kernel
theorem dX12_goes_103 : decode cX12_goes 103 = .ok (.aload_n 0, 1) := by decide +kernel
theorem dX12_goes_104 : decode cX12_goes 104 = .ok (.getfield 258, 3) := by decide +kernel
theorem dX12_goes_107 : decode cX12_goes 107 = .ok (.ifCond .ne 7, 3) := by decide +kernel
theorem dX12_goes_110 : decode cX12_goes 110 = .ok (.iload_n 2, 1) := by decide +kernel
theorem dX12_goes_111 : decode cX12_goes 111 = .ok (.goto 4, 3) := by decide +kernel
theorem dX12_goes_114 : decode cX12_goes 114 = .ok (.iconst 0, 1) := by decide +kernel
theorem dX12_goes_115 : decode cX12_goes 115 = .ok (.putfield 287, 3) := by decide +kernel
theorem dX12_goes_118 : decode cX12_goes 118 = .ok (.aload_n 0, 1) := by decide +kernel
theorem dX12_goes_119 : decode cX12_goes 119 = .ok (.aload_n 0, 1) := by decide +kernel
theorem dX12_goes_120 : decode cX12_goes 120 = .ok (.getfield 258, 3) := by decide +kernel
theorem dX12_goes_123 : decode cX12_goes 123 = .ok (.ifCond .ne 7, 3) := by decide +kernel
theorem dX12_goes_126 : decode cX12_goes 126 = .ok (.iconst 1, 1) := by decide +kernel
theorem dX12_goes_127 : decode cX12_goes 127 = .ok (.goto 4, 3) := by decide +kernel
theorem dX12_goes_130 : decode cX12_goes 130 = .ok (.iconst 0, 1) := by decide +kernel
theorem dX12_goes_131 : decode cX12_goes 131 = .ok (.putfield 264, 3) := by decide +kernel
theorem dX12_goes_134 : decode cX12_goes 134 = .ok (.goto 83, 3) := by decide +kernel
theorem dX12_goes_137 : decode cX12_goes 137 = .ok (.aload_n 0, 1) := by decide +kernel
theorem dX12_goes_138 : decode cX12_goes 138 = .ok (.iload_n 1, 1) := by decide +kernel
theorem dX12_goes_139 : decode cX12_goes 139 = .ok (.invokevirtual 290, 3) := by decide +kernel
theorem dX12_goes_142 : decode cX12_goes 142 = .ok (.istore_n 3, 1) := by decide +kernel
theorem dX12_goes_143 : decode cX12_goes 143 = .ok (.aload_n 0, 1) := by decide +kernel
theorem dX12_goes_144 : decode cX12_goes 144 = .ok (.getfield 258, 3) := by decide +kernel
theorem dX12_goes_147 : decode cX12_goes 147 = .ok (.ifCond .ne 70, 3) := by decide +kernel
theorem dX12_goes_150 : decode cX12_goes 150 = .ok (.aload_n 0, 1) := by decide +kernel
theorem dX12_goes_151 : decode cX12_goes 151 = .ok (.iload_n 3, 1) := by decide +kernel
theorem dX12_goes_152 : decode cX12_goes 152 = .ok (.ifCond .eq 12, 3) := by decide +kernel
theorem dX12_goes_155 : decode cX12_goes 155 = .ok (.aload_n 0, 1) := by decide +kernel
theorem dX12_goes_156 : decode cX12_goes 156 = .ok (.getfield 32, 3) := by decide +kernel
theorem dX12_goes_159 : decode cX12_goes 159 = .ok (.iload_n 1, 1) := by decide +kernel
theorem dX12_goes_160 : decode cX12_goes 160 = .ok (.iaload, 1) := by decide +kernel
theorem dX12_goes_161 : decode cX12_goes 161 = .ok (.goto 9, 3) := by decide +kernel
theorem dX12_goes_164 : decode cX12_goes 164 = .ok (.aload_n 0, 1) := by decide +kernel
theorem dX12_goes_165 : decode cX12_goes 165 = .ok (.getfield 35, 3) := by decide +kernel
theorem dX12_goes_168 : decode cX12_goes 168 = .ok (.iload_n 1, 1) := by decide +kernel
theorem dX12_goes_169 : decode cX12_goes 169 = .ok (.iaload, 1) := by decide +kernel
theorem dX12_goes_170 : decode cX12_goes 170 = .ok (.invokevirtual 293, 3) := by decide +kernel
theorem dX12_goes_173 : decode cX12_goes 173 = .ok (.goto 44, 3) := by decide +kernel
theorem dX12_goes_176 : decode cX12_goes 176 = .ok (.aload_n 0, 1) := by decide +kernel
theorem dX12_goes_177 : decode cX12_goes 177 = .ok (.invokevirtual 277, 3) := by decide +kernel
theorem dX12_goes_180 : decode cX12_goes 180 = .ok (.ifCond .eq 37, 3) := by decide +kernel
theorem dX12_goes_183 : decode cX12_goes 183 = .ok (.aload_n 0, 1) := by decide +kernel
theorem dX12_goes_184 : decode cX12_goes 184 = .ok (.iload_n 1, 1) := by decide +kernel
theorem dX12_goes_185 : decode cX12_goes 185 = .ok (.invokevirtual 290, 3) := by decide +kernel
theorem dX12_goes_188 : decode cX12_goes 188 = .ok (.ifCond .eq 29, 3) := by decide +kernel
theorem dX12_goes_191 : decode cX12_goes 191 = .ok (.aload_n 0, 1) := by decide +kernel
theorem dX12_goes_192 : decode cX12_goes 192 = .ok (.aload_n 0, 1) := by decide +kernel
theorem dX12_goes_193 : decode cX12_goes 193 = .ok (.getfield 32, 3) := by decide +kernel
theorem dX12_goes_196 : decode cX12_goes 196 = .ok (.iload_n 1, 1) := by decide +kernel
theorem dX12_goes_197 : decode cX12_goes 197 = .ok (.iaload, 1) := by decide +kernel
theorem dX12_goes_198 : decode cX12_goes 198 = .ok (.invokevirtual 293, 3) := by decide +kernel
theorem dX12_goes_201 : decode cX12_goes 201 = .ok (.aload_n 0, 1) := by decide +kernel
theorem dX12_goes_202 : decode cX12_goes 202 = .ok (.invokevirtual 277, 3) := by decide +kernel
theorem dX12_goes_205 : decode cX12_goes 205 = .ok (.ifCond .eq 11, 3) := by decide +kernel
theorem dX12_goes_208 : decode cX12_goes 208 = .ok (.aload_n 0, 1) := by decide +kernel
theorem dX12_goes_209 : decode cX12_goes 209 = .ok (.iload_n 1, 1) := by decide +kernel
theorem dX12_goes_210 : decode cX12_goes 210 = .ok (.invokevirtual 284, 3) := by decide +kernel
theorem dX12_goes_213 : decode cX12_goes 213 = .ok (.ifCond .ne (-37), 3) := by decide +kernel
theorem dX12_goes_216 : decode cX12_goes 216 = .ok (.return_, 1) := by decide +kernel
theorem dX12_goes_217 : decode cX12_goes 217 = .ok (.return_, 1) := by decide +kernel
theorem dX12_runs_0 : decode cX12_runs 0 = .ok (.iconst 0, 1) := by decide +kernel
theorem dX12_runs_1 : decode cX12_runs 1 = .ok (.istore_n 2, 1) := by decide +kernel
theorem dX12_runs_2 : decode cX12_runs 2 = .ok (.iload_n 2, 1) := by decide +kernel
theorem dX12_runs_3 : decode cX12_runs 3 = .ok (.bipush 9, 2) := by decide +kernel
theorem dX12_runs_5 : decode cX12_runs 5 = .ok (.if_icmp .ge 34, 3) := by decide +kernel
theorem dX12_runs_8 : decode cX12_runs 8 = .ok (.aload_n 0, 1) := by decide +kernel
theorem dX12_runs_9 : decode cX12_runs 9 = .ok (.getfield 50, 3) := by decide +kernel
theorem dX12_runs_12 : decode cX12_runs 12 = .ok (.iload_n 2, 1) := by decide +kernel
theorem dX12_runs_13 : decode cX12_runs 13 = .ok (.iload_n 2, 1) := by decide +kernel
theorem dX12_runs_14 : decode cX12_runs 14 = .ok (.iconst 3, 1) := by decide +kernel
theorem dX12_runs_15 : decode cX12_runs 15 = .ok (.if_icmp .ge 16, 3) := by decide +kernel
theorem dX12_runs_18 : decode cX12_runs 18 = .ok (.aload_n 0, 1) := by decide +kernel
theorem dX12_runs_19 : decode cX12_runs 19 = .ok (.getfield 44, 3) := by decide +kernel
theorem dX12_runs_22 : decode cX12_runs 22 = .ok (.iconst 5, 1) := by decide +kernel
theorem dX12_runs_23 : decode cX12_runs 23 = .ok (.iload_n 1, 1) := by decide +kernel
theorem dX12_runs_24 : decode cX12_runs 24 = .ok (.imul, 1) := by decide +kernel
theorem dX12_runs_25 : decode cX12_runs 25 = .ok (.iload_n 2, 1) := by decide +kernel
theorem dX12_runs_26 : decode cX12_runs 26 = .ok (.iadd, 1) := by decide +kernel
theorem dX12_runs_27 : decode cX12_runs 27 = .ok (.iaload, 1) := by decide +kernel
theorem dX12_runs_28 : decode cX12_runs 28 = .ok (.goto 4, 3) := by decide +kernel
theorem dX12_runs_31 : decode cX12_runs 31 = .ok (.iconst 0, 1) := by decide +kernel
theorem dX12_runs_32 : decode cX12_runs 32 = .ok (.iastore, 1) := by decide +kernel
theorem dX12_runs_33 : decode cX12_runs 33 = .ok (.iinc 2 1, 3) := by decide +kernel
theorem dX12_runs_36 : decode cX12_runs 36 = .ok (.goto (-34), 3) := by decide +kernel
theorem dX12_runs_39 : decode cX12_runs 39 = .ok (.iconst 0, 1) := by decide +kernel
theorem dX12_runs_40 : decode cX12_runs 40 = .ok (.istore_n 2, 1) := by decide +kernel
theorem dX12_runs_41 : decode cX12_runs 41 = .ok (.iload_n 2, 1) := by decide +kernel
theorem dX12_runs_42 : decode cX12_runs 42 = .ok (.bipush 60, 2) := by decide +kernel
theorem dX12_runs_44 : decode cX12_runs 44 = .ok (.if_icmp .ge 16, 3) := by decide +kernel
theorem dX12_runs_47 : decode cX12_runs 47 = .ok (.aload_n 0, 1) := by decide +kernel
theorem dX12_runs_48 : decode cX12_runs 48 = .ok (.getfield 53, 3) := by decide +kernel
theorem dX12_runs_51 : decode cX12_runs 51 = .ok (.iload_n 2, 1) := by decide +kernel
theorem dX12_runs_52 : decode cX12_runs 52 = .ok (.iconst 0, 1) := by decide +kernel
theorem dX12_runs_53 : decode cX12_runs 53 = .ok (.iastore, 1) := by decide +kernel
theorem dX12_runs_54 : decode cX12_runs 54 = .ok (.iinc 2 1, 3) := by decide +kernel
theorem dX12_runs_57 : decode cX12_runs 57 = .ok (.goto (-16), 3) := by decide +kernel
theorem dX12_runs_60 : decode cX12_runs 60 = .ok (.aload_n 0, 1) := by decide +kernel
theorem dX12_runs_61 : decode cX12_runs 61 = .ok (.iconst 0, 1) := by decide +kernel
theorem dX12_runs_62 : decode cX12_runs 62 = .ok (.putfield 268, 3) := by decide +kernel
theorem dX12_runs_65 : decode cX12_runs 65 = .ok (.aload_n 0, 1) := by decide +kernel
theorem dX12_runs_66 : decode cX12_runs 66 = .ok (.iconst 0, 1) := by decide +kernel
theorem dX12_runs_67 : decode cX12_runs 67 = .ok (.putfield 274, 3) := by decide +kernel
theorem dX12_runs_70 : decode cX12_runs 70 = .ok (.aload_n 0, 1) := by decide +kernel
theorem dX12_runs_71 : decode cX12_runs 71 = .ok (.iconst 0, 1) := by decide +kernel
theorem dX12_runs_72 : decode cX12_runs 72 = .ok (.putfield 258, 3) := by decide +kernel
theorem dX12_runs_75 : decode cX12_runs 75 = .ok (.aload_n 0, 1) := by decide +kernel
theorem dX12_runs_76 : decode cX12_runs 76 = .ok (.iconst 0, 1) := by decide +kernel
theorem dX12_runs_77 : decode cX12_runs 77 = .ok (.putfield 287, 3) := by decide +kernel
theorem dX12_runs_80 : decode cX12_runs 80 = .ok (.aload_n 0, 1) := by decide +kernel
theorem dX12_runs_81 : decode cX12_runs 81 = .ok (.iconst 0, 1) := by decide +kernel
theorem dX12_runs_82 : decode cX12_runs 82 = .ok (.putfield 264, 3) := by decide +kernel
theorem dX12_runs_85 : decode cX12_runs 85 = .ok (.aload_n 0, 1) := by decide +kernel
theorem dX12_runs_86 : decode cX12_runs 86 = .ok (.iconst 0, 1) := by decide +kernel
theorem dX12_runs_87 : decode cX12_runs 87 = .ok (.invokevirtual 293, 3) := by decide +kernel
theorem dX12_runs_90 : decode cX12_runs 90 = .ok (.aload_n 0, 1) := by decide +kernel
theorem dX12_runs_91 : decode cX12_runs 91 = .ok (.aload_n 0, 1) := by decide +kernel
theorem dX12_runs_92 : decode cX12_runs 92 = .ok (.getfield 258, 3) := by decide +kernel
theorem dX12_runs_95 : decode cX12_runs 95 = .ok (.ifCond .ne 10, 3) := by decide +kernel
theorem dX12_runs_98 : decode cX12_runs 98 = .ok (.aload_n 0, 1) := by decide +kernel
theorem dX12_runs_99 : decode cX12_runs 99 = .ok (.getfield 287, 3) := by decide +kernel
theorem dX12_runs_102 : decode cX12_runs 102 = .ok (.goto 4, 3) := by decide +kernel
theorem dX12_runs_105 : decode cX12_runs 105 = .ok (.iconst 0, 1) := by decide +kernel
theorem dX12_runs_106 : decode cX12_runs 106 = .ok (.putfield 287, 3) := by decide +kernel
theorem dX12_runs_109 : decode cX12_runs 109 = .ok (.return_, 1) := by decide +kernel
theorem dX12_passes_0 : decode cX12_passes 0 = .ok (.aload_n 0, 1) := by decide +kernel
theorem dX12_passes_1 : decode cX12_passes 1 = .ok (.iload_n 1, 1) := by decide +kernel
theorem dX12_passes_2 : decode cX12_passes 2 = .ok (.invokevirtual 296, 3) := by decide +kernel
theorem dX12_passes_5 : decode cX12_passes 5 = .ok (.aload_n 0, 1) := by decide +kernel
theorem dX12_passes_6 : decode cX12_passes 6 = .ok (.getfield 258, 3) := by decide +kernel
theorem dX12_passes_9 : decode cX12_passes 9 = .ok (.ifCond .ne 24, 3) := by decide +kernel
theorem dX12_passes_12 : decode cX12_passes 12 = .ok (.aload_n 0, 1) := by decide +kernel
theorem dX12_passes_13 : decode cX12_passes 13 = .ok (.getfield 287, 3) := by decide +kernel
theorem dX12_passes_16 : decode cX12_passes 16 = .ok (.aload_n 0, 1) := by decide +kernel
theorem dX12_passes_17 : decode cX12_passes 17 = .ok (.getfield 44, 3) := by decide +kernel
theorem dX12_passes_20 : decode cX12_passes 20 = .ok (.iconst 5, 1) := by decide +kernel
theorem dX12_passes_21 : decode cX12_passes 21 = .ok (.iload_n 1, 1) := by decide +kernel
theorem dX12_passes_22 : decode cX12_passes 22 = .ok (.imul, 1) := by decide +kernel
theorem dX12_passes_23 : decode cX12_passes 23 = .ok (.iconst 3, 1) := by decide +kernel
theorem dX12_passes_24 : decode cX12_passes 24 = .ok (.iadd, 1) := by decide +kernel
theorem dX12_passes_25 : decode cX12_passes 25 = .ok (.iaload, 1) := by decide +kernel
theorem dX12_passes_26 : decode cX12_passes 26 = .ok (.if_icmp .ne 7, 3) := by decide +kernel
theorem dX12_passes_29 : decode cX12_passes 29 = .ok (.iconst 1, 1) := by decide +kernel
theorem dX12_passes_30 : decode cX12_passes 30 = .ok (.goto 4, 3) := by decide +kernel
theorem dX12_passes_33 : decode cX12_passes 33 = .ok (.iconst 0, 1) := by decide +kernel
theorem dX12_passes_34 : decode cX12_passes 34 = .ok (.ireturn, 1) := by decide +kernel
theorem dX12_isProgram_0 : decode cX12_isProgram 0 = .ok (.aload_n 0, 1) := by decide +kernel
theorem dX12_isProgram_1 : decode cX12_isProgram 1 = .ok (.getfield 13, 3) := by decide +kernel
theorem dX12_isProgram_4 : decode cX12_isProgram 4 = .ok (.iconst 0, 1) := by decide +kernel
theorem dX12_isProgram_5 : decode cX12_isProgram 5 = .ok (.iaload, 1) := by decide +kernel
theorem dX12_isProgram_6 : decode cX12_isProgram 6 = .ok (.ifCond .le 7, 3) := by decide +kernel
theorem dX12_isProgram_9 : decode cX12_isProgram 9 = .ok (.iconst 1, 1) := by decide +kernel
theorem dX12_isProgram_10 : decode cX12_isProgram 10 = .ok (.goto 4, 3) := by decide +kernel
theorem dX12_isProgram_13 : decode cX12_isProgram 13 = .ok (.iconst 0, 1) := by decide +kernel
theorem dX12_isProgram_14 : decode cX12_isProgram 14 = .ok (.ireturn, 1) := by decide +kernel
theorem dX12_run_0 : decode cX12_run 0 = .ok (.aload_n 0, 1) := by decide +kernel
theorem dX12_run_1 : decode cX12_run 1 = .ok (.iconst 0, 1) := by decide +kernel
theorem dX12_run_2 : decode cX12_run 2 = .ok (.putfield 121, 3) := by decide +kernel
theorem dX12_run_5 : decode cX12_run 5 = .ok (.aload_n 0, 1) := by decide +kernel
theorem dX12_run_6 : decode cX12_run 6 = .ok (.invokevirtual 299, 3) := by decide +kernel
theorem dX12_run_9 : decode cX12_run 9 = .ok (.ifCond .eq 20, 3) := by decide +kernel
theorem dX12_run_12 : decode cX12_run 12 = .ok (.aload_n 0, 1) := by decide +kernel
theorem dX12_run_13 : decode cX12_run 13 = .ok (.iload_n 1, 1) := by decide +kernel
theorem dX12_run_14 : decode cX12_run 14 = .ok (.invokevirtual 249, 3) := by decide +kernel
theorem dX12_run_17 : decode cX12_run 17 = .ok (.ifCond .eq 12, 3) := by decide +kernel
theorem dX12_run_20 : decode cX12_run 20 = .ok (.iload_n 2, 1) := by decide +kernel
theorem dX12_run_21 : decode cX12_run 21 = .ok (.iconst 0, 1) := by decide +kernel
theorem dX12_run_22 : decode cX12_run 22 = .ok (.iconst 3, 1) := by decide +kernel
theorem dX12_run_23 : decode cX12_run 23 = .ok (.invokestatic 147, 3) := by decide +kernel
theorem dX12_run_26 : decode cX12_run 26 = .ok (.ifCond .ne 5, 3) := by decide +kernel
theorem dX12_run_29 : decode cX12_run 29 = .ok (.iconst (-1), 1) := by decide +kernel
theorem dX12_run_30 : decode cX12_run 30 = .ok (.ireturn, 1) := by decide +kernel
theorem dX12_run_31 : decode cX12_run 31 = .ok (.aload_n 0, 1) := by decide +kernel
theorem dX12_run_32 : decode cX12_run 32 = .ok (.iload_n 1, 1) := by decide +kernel
theorem dX12_run_33 : decode cX12_run 33 = .ok (.invokevirtual 302, 3) := by decide +kernel
theorem dX12_run_36 : decode cX12_run 36 = .ok (.istore_n 3, 1) := by decide +kernel
theorem dX12_run_37 : decode cX12_run 37 = .ok (.iload_n 2, 1) := by decide +kernel
theorem dX12_run_38 : decode cX12_run 38 = .ok (.ifCond .ne 10, 3) := by decide +kernel
theorem dX12_run_41 : decode cX12_run 41 = .ok (.aload_n 0, 1) := by decide +kernel
theorem dX12_run_42 : decode cX12_run 42 = .ok (.getfield 258, 3) := by decide +kernel
theorem dX12_run_45 : decode cX12_run 45 = .ok (.goto 36, 3) := by decide +kernel
theorem dX12_run_48 : decode cX12_run 48 = .ok (.iload_n 2, 1) := by decide +kernel
theorem dX12_run_49 : decode cX12_run 49 = .ok (.iconst 1, 1) := by decide +kernel
theorem dX12_run_50 : decode cX12_run 50 = .ok (.if_icmp .ne 10, 3) := by decide +kernel
theorem dX12_run_53 : decode cX12_run 53 = .ok (.aload_n 0, 1) := by decide +kernel
theorem dX12_run_54 : decode cX12_run 54 = .ok (.getfield 287, 3) := by decide +kernel
theorem dX12_run_57 : decode cX12_run 57 = .ok (.goto 24, 3) := by decide +kernel
theorem dX12_run_60 : decode cX12_run 60 = .ok (.iload_n 2, 1) := by decide +kernel
theorem dX12_run_61 : decode cX12_run 61 = .ok (.iconst 2, 1) := by decide +kernel
theorem dX12_run_62 : decode cX12_run 62 = .ok (.if_icmp .ne 10, 3) := by decide +kernel
theorem dX12_run_65 : decode cX12_run 65 = .ok (.aload_n 0, 1) := by decide +kernel
theorem dX12_run_66 : decode cX12_run 66 = .ok (.getfield 268, 3) := by decide +kernel
theorem dX12_run_69 : decode cX12_run 69 = .ok (.goto 12, 3) := by decide +kernel
theorem dX12_run_72 : decode cX12_run 72 = .ok (.iload_n 3, 1) := by decide +kernel
theorem dX12_run_73 : decode cX12_run 73 = .ok (.ifCond .eq 7, 3) := by decide +kernel
theorem dX12_run_76 : decode cX12_run 76 = .ok (.iconst 1, 1) := by decide +kernel
theorem dX12_run_77 : decode cX12_run 77 = .ok (.goto 4, 3) := by decide +kernel
theorem dX12_run_80 : decode cX12_run 80 = .ok (.iconst 0, 1) := by decide +kernel
theorem dX12_run_81 : decode cX12_run 81 = .ok (.ireturn, 1) := by decide +kernel
theorem dX12_isNode_0 : decode cX12_isNode 0 = .ok (.iload_n 1, 1) := by decide +kernel
theorem dX12_isNode_1 : decode cX12_isNode 1 = .ok (.iconst 0, 1) := by decide +kernel
theorem dX12_isNode_2 : decode cX12_isNode 2 = .ok (.aload_n 0, 1) := by decide +kernel
theorem dX12_isNode_3 : decode cX12_isNode 3 = .ok (.getfield 13, 3) := by decide +kernel
theorem dX12_isNode_6 : decode cX12_isNode 6 = .ok (.iconst 0, 1) := by decide +kernel
theorem dX12_isNode_7 : decode cX12_isNode 7 = .ok (.iaload, 1) := by decide +kernel
theorem dX12_isNode_8 : decode cX12_isNode 8 = .ok (.iconst 1, 1) := by decide +kernel
theorem dX12_isNode_9 : decode cX12_isNode 9 = .ok (.isub, 1) := by decide +kernel
theorem dX12_isNode_10 : decode cX12_isNode 10 = .ok (.invokestatic 147, 3) := by decide +kernel
theorem dX12_isNode_13 : decode cX12_isNode 13 = .ok (.ireturn, 1) := by decide +kernel
theorem dX12_isStatement_0 : decode cX12_isStatement 0 = .ok (.aload_n 0, 1) := by decide +kernel
theorem dX12_isStatement_1 : decode cX12_isStatement 1 = .ok (.iload_n 1, 1) := by decide +kernel
theorem dX12_isStatement_2 : decode cX12_isStatement 2 = .ok (.invokevirtual 305, 3) := by decide +kernel
theorem dX12_isStatement_5 : decode cX12_isStatement 5 = .ok (.ifCond .eq 17, 3) := by decide +kernel
theorem dX12_isStatement_8 : decode cX12_isStatement 8 = .ok (.aload_n 0, 1) := by decide +kernel
theorem dX12_isStatement_9 : decode cX12_isStatement 9 = .ok (.getfield 17, 3) := by decide +kernel
theorem dX12_isStatement_12 : decode cX12_isStatement 12 = .ok (.iload_n 1, 1) := by decide +kernel
theorem dX12_isStatement_13 : decode cX12_isStatement 13 = .ok (.iaload, 1) := by decide +kernel
theorem dX12_isStatement_14 : decode cX12_isStatement 14 = .ok (.iconst 3, 1) := by decide +kernel
theorem dX12_isStatement_15 : decode cX12_isStatement 15 = .ok (.if_icmp .gt 7, 3) := by decide +kernel
theorem dX12_isStatement_18 : decode cX12_isStatement 18 = .ok (.iconst 1, 1) := by decide +kernel
theorem dX12_isStatement_19 : decode cX12_isStatement 19 = .ok (.goto 4, 3) := by decide +kernel
theorem dX12_isStatement_22 : decode cX12_isStatement 22 = .ok (.iconst 0, 1) := by decide +kernel
theorem dX12_isStatement_23 : decode cX12_isStatement 23 = .ok (.ireturn, 1) := by decide +kernel
theorem dX12_done_0 : decode cX12_done 0 = .ok (.aload_n 0, 1) := by decide +kernel
theorem dX12_done_1 : decode cX12_done 1 = .ok (.iconst 0, 1) := by decide +kernel
theorem dX12_done_2 : decode cX12_done 2 = .ok (.putfield 121, 3) := by decide +kernel
theorem dX12_done_5 : decode cX12_done 5 = .ok (.aload_n 0, 1) := by decide +kernel
theorem dX12_done_6 : decode cX12_done 6 = .ok (.iload_n 1, 1) := by decide +kernel
theorem dX12_done_7 : decode cX12_done 7 = .ok (.invokevirtual 249, 3) := by decide +kernel
theorem dX12_done_10 : decode cX12_done 10 = .ok (.ifCond .eq 11, 3) := by decide +kernel
theorem dX12_done_13 : decode cX12_done 13 = .ok (.aload_n 0, 1) := by decide +kernel
theorem dX12_done_14 : decode cX12_done 14 = .ok (.iload_n 2, 1) := by decide +kernel
theorem dX12_done_15 : decode cX12_done 15 = .ok (.invokevirtual 308, 3) := by decide +kernel
theorem dX12_done_18 : decode cX12_done 18 = .ok (.ifCond .ne 5, 3) := by decide +kernel
theorem dX12_done_21 : decode cX12_done 21 = .ok (.iconst (-1), 1) := by decide +kernel
theorem dX12_done_22 : decode cX12_done 22 = .ok (.ireturn, 1) := by decide +kernel
theorem dX12_done_23 : decode cX12_done 23 = .ok (.aload_n 0, 1) := by decide +kernel
theorem dX12_done_24 : decode cX12_done 24 = .ok (.iload_n 1, 1) := by decide +kernel
theorem dX12_done_25 : decode cX12_done 25 = .ok (.invokevirtual 296, 3) := by decide +kernel
theorem dX12_done_28 : decode cX12_done 28 = .ok (.aload_n 0, 1) := by decide +kernel
theorem dX12_done_29 : decode cX12_done 29 = .ok (.getfield 53, 3) := by decide +kernel
theorem dX12_done_32 : decode cX12_done 32 = .ok (.iload_n 2, 1) := by decide +kernel
theorem dX12_done_33 : decode cX12_done 33 = .ok (.iaload, 1) := by decide +kernel
theorem dX12_done_34 : decode cX12_done 34 = .ok (.ireturn, 1) := by decide +kernel
theorem dX12_trace_0 : decode cX12_trace 0 = .ok (.aload_n 0, 1) := by decide +kernel
theorem dX12_trace_1 : decode cX12_trace 1 = .ok (.iconst 0, 1) := by decide +kernel
theorem dX12_trace_2 : decode cX12_trace 2 = .ok (.putfield 121, 3) := by decide +kernel
theorem dX12_trace_5 : decode cX12_trace 5 = .ok (.aload_n 0, 1) := by decide +kernel
theorem dX12_trace_6 : decode cX12_trace 6 = .ok (.invokevirtual 299, 3) := by decide +kernel
theorem dX12_trace_9 : decode cX12_trace 9 = .ok (.ifCond .eq 11, 3) := by decide +kernel
theorem dX12_trace_12 : decode cX12_trace 12 = .ok (.aload_n 0, 1) := by decide +kernel
theorem dX12_trace_13 : decode cX12_trace 13 = .ok (.iload_n 1, 1) := by decide +kernel
theorem dX12_trace_14 : decode cX12_trace 14 = .ok (.invokevirtual 249, 3) := by decide +kernel
theorem dX12_trace_17 : decode cX12_trace 17 = .ok (.ifCond .ne 5, 3) := by decide +kernel
theorem dX12_trace_20 : decode cX12_trace 20 = .ok (.iconst (-1), 1) := by decide +kernel
theorem dX12_trace_21 : decode cX12_trace 21 = .ok (.ireturn, 1) := by decide +kernel
theorem dX12_trace_22 : decode cX12_trace 22 = .ok (.aload_n 0, 1) := by decide +kernel
theorem dX12_trace_23 : decode cX12_trace 23 = .ok (.iload_n 1, 1) := by decide +kernel
theorem dX12_trace_24 : decode cX12_trace 24 = .ok (.invokevirtual 296, 3) := by decide +kernel
theorem dX12_trace_27 : decode cX12_trace 27 = .ok (.iload_n 2, 1) := by decide +kernel
theorem dX12_trace_28 : decode cX12_trace 28 = .ok (.iconst 0, 1) := by decide +kernel
theorem dX12_trace_29 : decode cX12_trace 29 = .ok (.aload_n 0, 1) := by decide +kernel
theorem dX12_trace_30 : decode cX12_trace 30 = .ok (.getfield 268, 3) := by decide +kernel
theorem dX12_trace_33 : decode cX12_trace 33 = .ok (.iconst 1, 1) := by decide +kernel
theorem dX12_trace_34 : decode cX12_trace 34 = .ok (.isub, 1) := by decide +kernel
theorem dX12_trace_35 : decode cX12_trace 35 = .ok (.invokestatic 147, 3) := by decide +kernel
theorem dX12_trace_38 : decode cX12_trace 38 = .ok (.ifCond .eq 12, 3) := by decide +kernel
theorem dX12_trace_41 : decode cX12_trace 41 = .ok (.aload_n 0, 1) := by decide +kernel
theorem dX12_trace_42 : decode cX12_trace 42 = .ok (.getfield 56, 3) := by decide +kernel
theorem dX12_trace_45 : decode cX12_trace 45 = .ok (.iload_n 2, 1) := by decide +kernel
theorem dX12_trace_46 : decode cX12_trace 46 = .ok (.iaload, 1) := by decide +kernel
theorem dX12_trace_47 : decode cX12_trace 47 = .ok (.goto 4, 3) := by decide +kernel
theorem dX12_trace_50 : decode cX12_trace 50 = .ok (.iconst (-1), 1) := by decide +kernel
theorem dX12_trace_51 : decode cX12_trace 51 = .ok (.ireturn, 1) := by decide +kernel
theorem dX12_statementOf_0 : decode cX12_statementOf 0 = .ok (.iload_n 1, 1) := by decide +kernel
theorem dX12_statementOf_1 : decode cX12_statementOf 1 = .ok (.istore_n 2, 1) := by decide +kernel
theorem dX12_statementOf_2 : decode cX12_statementOf 2 = .ok (.aload_n 0, 1) := by decide +kernel
theorem dX12_statementOf_3 : decode cX12_statementOf 3 = .ok (.getfield 17, 3) := by decide +kernel
theorem dX12_statementOf_6 : decode cX12_statementOf 6 = .ok (.iload_n 2, 1) := by decide +kernel
theorem dX12_statementOf_7 : decode cX12_statementOf 7 = .ok (.iaload, 1) := by decide +kernel
theorem dX12_statementOf_8 : decode cX12_statementOf 8 = .ok (.iconst 3, 1) := by decide +kernel
theorem dX12_statementOf_9 : decode cX12_statementOf 9 = .ok (.if_icmp .le 13, 3) := by decide +kernel
theorem dX12_statementOf_12 : decode cX12_statementOf 12 = .ok (.aload_n 0, 1) := by decide +kernel
theorem dX12_statementOf_13 : decode cX12_statementOf 13 = .ok (.getfield 23, 3) := by decide +kernel
theorem dX12_statementOf_16 : decode cX12_statementOf 16 = .ok (.iload_n 2, 1) := by decide +kernel
theorem dX12_statementOf_17 : decode cX12_statementOf 17 = .ok (.iaload, 1) := by decide +kernel
theorem dX12_statementOf_18 : decode cX12_statementOf 18 = .ok (.istore_n 2, 1) := by decide +kernel
theorem dX12_statementOf_19 : decode cX12_statementOf 19 = .ok (.goto (-17), 3) := by decide +kernel
theorem dX12_statementOf_22 : decode cX12_statementOf 22 = .ok (.iload_n 2, 1) := by decide +kernel
theorem dX12_statementOf_23 : decode cX12_statementOf 23 = .ok (.ireturn, 1) := by decide +kernel
theorem dX12_isGone_0 : decode cX12_isGone 0 = .ok (.aload_n 0, 1) := by decide +kernel
theorem dX12_isGone_1 : decode cX12_isGone 1 = .ok (.iload_n 1, 1) := by decide +kernel
theorem dX12_isGone_2 : decode cX12_isGone 2 = .ok (.invokevirtual 252, 3) := by decide +kernel
theorem dX12_isGone_5 : decode cX12_isGone 5 = .ok (.istore_n 2, 1) := by decide +kernel
theorem dX12_isGone_6 : decode cX12_isGone 6 = .ok (.aload_n 0, 1) := by decide +kernel
theorem dX12_isGone_7 : decode cX12_isGone 7 = .ok (.getfield 23, 3) := by decide +kernel
theorem dX12_isGone_10 : decode cX12_isGone 10 = .ok (.iload_n 1, 1) := by decide +kernel
theorem dX12_isGone_11 : decode cX12_isGone 11 = .ok (.iaload, 1) := by decide +kernel
theorem dX12_isGone_12 : decode cX12_isGone 12 = .ok (.istore_n 3, 1) := by decide +kernel
theorem dX12_isGone_13 : decode cX12_isGone 13 = .ok (.iload_n 3, 1) := by decide +kernel
theorem dX12_isGone_14 : decode cX12_isGone 14 = .ok (.iconst (-1), 1) := by decide +kernel
theorem dX12_isGone_15 : decode cX12_isGone 15 = .ok (.if_icmp .eq 41, 3) := by decide +kernel
theorem dX12_isGone_18 : decode cX12_isGone 18 = .ok (.iload_n 2, 1) := by decide +kernel
theorem dX12_isGone_19 : decode cX12_isGone 19 = .ok (.ifCond .ne 21, 3) := by decide +kernel
theorem dX12_isGone_22 : decode cX12_isGone 22 = .ok (.aload_n 0, 1) := by decide +kernel
theorem dX12_isGone_23 : decode cX12_isGone 23 = .ok (.getfield 17, 3) := by decide +kernel
theorem dX12_isGone_26 : decode cX12_isGone 26 = .ok (.iload_n 3, 1) := by decide +kernel
theorem dX12_isGone_27 : decode cX12_isGone 27 = .ok (.iaload, 1) := by decide +kernel
theorem dX12_isGone_28 : decode cX12_isGone 28 = .ok (.iconst 3, 1) := by decide +kernel
theorem dX12_isGone_29 : decode cX12_isGone 29 = .ok (.if_icmp .gt 15, 3) := by decide +kernel
theorem dX12_isGone_32 : decode cX12_isGone 32 = .ok (.aload_n 0, 1) := by decide +kernel
theorem dX12_isGone_33 : decode cX12_isGone 33 = .ok (.iload_n 3, 1) := by decide +kernel
theorem dX12_isGone_34 : decode cX12_isGone 34 = .ok (.invokevirtual 252, 3) := by decide +kernel
theorem dX12_isGone_37 : decode cX12_isGone 37 = .ok (.ifCond .eq 7, 3) := by decide +kernel
theorem dX12_isGone_40 : decode cX12_isGone 40 = .ok (.iconst 1, 1) := by decide +kernel
theorem dX12_isGone_41 : decode cX12_isGone 41 = .ok (.goto 4, 3) := by decide +kernel
theorem dX12_isGone_44 : decode cX12_isGone 44 = .ok (.iconst 0, 1) := by decide +kernel
theorem dX12_isGone_45 : decode cX12_isGone 45 = .ok (.istore_n 2, 1) := by decide +kernel
theorem dX12_isGone_46 : decode cX12_isGone 46 = .ok (.aload_n 0, 1) := by decide +kernel
theorem dX12_isGone_47 : decode cX12_isGone 47 = .ok (.getfield 23, 3) := by decide +kernel
theorem dX12_isGone_50 : decode cX12_isGone 50 = .ok (.iload_n 3, 1) := by decide +kernel
theorem dX12_isGone_51 : decode cX12_isGone 51 = .ok (.iaload, 1) := by decide +kernel
theorem dX12_isGone_52 : decode cX12_isGone 52 = .ok (.istore_n 3, 1) := by decide +kernel
theorem dX12_isGone_53 : decode cX12_isGone 53 = .ok (.goto (-40), 3) := by decide +kernel
theorem dX12_isGone_56 : decode cX12_isGone 56 = .ok (.iload_n 2, 1) := by decide +kernel
theorem dX12_isGone_57 : decode cX12_isGone 57 = .ok (.ireturn, 1) := by decide +kernel
theorem dX12_node_0 : decode cX12_node 0 = .ok (.aload_n 0, 1) := by decide +kernel
theorem dX12_node_1 : decode cX12_node 1 = .ok (.aload_n 0, 1) := by decide +kernel
theorem dX12_node_2 : decode cX12_node 2 = .ok (.iload_n 1, 1) := by decide +kernel
theorem dX12_node_3 : decode cX12_node 3 = .ok (.invokevirtual 305, 3) := by decide +kernel
theorem dX12_node_6 : decode cX12_node 6 = .ok (.ifCond .eq 16, 3) := by decide +kernel
theorem dX12_node_9 : decode cX12_node 9 = .ok (.iload_n 2, 1) := by decide +kernel
theorem dX12_node_10 : decode cX12_node 10 = .ok (.iconst 0, 1) := by decide +kernel
theorem dX12_node_11 : decode cX12_node 11 = .ok (.iconst 4, 1) := by decide +kernel
theorem dX12_node_12 : decode cX12_node 12 = .ok (.invokestatic 147, 3) := by decide +kernel
theorem dX12_node_15 : decode cX12_node 15 = .ok (.ifCond .eq 7, 3) := by decide +kernel
theorem dX12_node_18 : decode cX12_node 18 = .ok (.iconst 0, 1) := by decide +kernel
theorem dX12_node_19 : decode cX12_node 19 = .ok (.goto 4, 3) := by decide +kernel
theorem dX12_node_22 : decode cX12_node 22 = .ok (.iconst 1, 1) := by decide +kernel
theorem dX12_node_23 : decode cX12_node 23 = .ok (.putfield 121, 3) := by decide +kernel
theorem dX12_node_26 : decode cX12_node 26 = .ok (.aload_n 0, 1) := by decide +kernel
theorem dX12_node_27 : decode cX12_node 27 = .ok (.getfield 121, 3) := by decide +kernel
theorem dX12_node_30 : decode cX12_node 30 = .ok (.ifCond .le 5, 3) := by decide +kernel
theorem dX12_node_33 : decode cX12_node 33 = .ok (.iconst 0, 1) := by decide +kernel
theorem dX12_node_34 : decode cX12_node 34 = .ok (.ireturn, 1) := by decide +kernel
theorem dX12_node_35 : decode cX12_node 35 = .ok (.iload_n 2, 1) := by decide +kernel
theorem dX12_node_36 : decode cX12_node 36 = .ok (.tableswitch 89 0 3 #[32, 39, 76, 83], 32) := by decide +kernel
theorem dX12_node_68 : decode cX12_node 68 = .ok (.aload_n 0, 1) := by decide +kernel
theorem dX12_node_69 : decode cX12_node 69 = .ok (.getfield 17, 3) := by decide +kernel
theorem dX12_node_72 : decode cX12_node 72 = .ok (.iload_n 1, 1) := by decide +kernel
theorem dX12_node_73 : decode cX12_node 73 = .ok (.iaload, 1) := by decide +kernel
theorem dX12_node_74 : decode cX12_node 74 = .ok (.ireturn, 1) := by decide +kernel
theorem dX12_node_75 : decode cX12_node 75 = .ok (.aload_n 0, 1) := by decide +kernel
theorem dX12_node_76 : decode cX12_node 76 = .ok (.getfield 17, 3) := by decide +kernel
theorem dX12_node_79 : decode cX12_node 79 = .ok (.iload_n 1, 1) := by decide +kernel
theorem dX12_node_80 : decode cX12_node 80 = .ok (.iaload, 1) := by decide +kernel
theorem dX12_node_81 : decode cX12_node 81 = .ok (.bipush 6, 2) := by decide +kernel
theorem dX12_node_83 : decode cX12_node 83 = .ok (.if_icmp .eq 17, 3) := by decide +kernel
theorem dX12_node_86 : decode cX12_node 86 = .ok (.aload_n 0, 1) := by decide +kernel
theorem dX12_node_87 : decode cX12_node 87 = .ok (.getfield 17, 3) := by decide +kernel
theorem dX12_node_90 : decode cX12_node 90 = .ok (.iload_n 1, 1) := by decide +kernel
theorem dX12_node_91 : decode cX12_node 91 = .ok (.iaload, 1) := by decide +kernel
theorem dX12_node_92 : decode cX12_node 92 = .ok (.iconst 1, 1) := by decide +kernel
theorem dX12_node_93 : decode cX12_node 93 = .ok (.iconst 3, 1) := by decide +kernel
theorem dX12_node_94 : decode cX12_node 94 = .ok (.invokestatic 147, 3) := by decide +kernel
theorem dX12_node_97 : decode cX12_node 97 = .ok (.ifCond .eq 8, 3) := by decide +kernel
theorem dX12_node_100 : decode cX12_node 100 = .ok (.bipush (-100), 2) := by decide +kernel
theorem dX12_node_102 : decode cX12_node 102 = .ok (.goto 9, 3) := by decide +kernel
theorem dX12_node_105 : decode cX12_node 105 = .ok (.aload_n 0, 1) := by decide +kernel
theorem dX12_node_106 : decode cX12_node 106 = .ok (.getfield 20, 3) := by decide +kernel
theorem dX12_node_109 : decode cX12_node 109 = .ok (.iload_n 1, 1) := by decide +kernel
theorem dX12_node_110 : decode cX12_node 110 = .ok (.iaload, 1) := by decide +kernel
theorem dX12_node_111 : decode cX12_node 111 = .ok (.ireturn, 1) := by decide +kernel
theorem dX12_node_112 : decode cX12_node 112 = .ok (.aload_n 0, 1) := by decide +kernel
theorem dX12_node_113 : decode cX12_node 113 = .ok (.getfield 23, 3) := by decide +kernel
theorem dX12_node_116 : decode cX12_node 116 = .ok (.iload_n 1, 1) := by decide +kernel
theorem dX12_node_117 : decode cX12_node 117 = .ok (.iaload, 1) := by decide +kernel
theorem dX12_node_118 : decode cX12_node 118 = .ok (.ireturn, 1) := by decide +kernel
theorem dX12_node_119 : decode cX12_node 119 = .ok (.aload_n 0, 1) := by decide +kernel
theorem dX12_node_120 : decode cX12_node 120 = .ok (.iload_n 1, 1) := by decide +kernel
theorem dX12_node_121 : decode cX12_node 121 = .ok (.invokevirtual 311, 3) := by decide +kernel
theorem dX12_node_124 : decode cX12_node 124 = .ok (.ireturn, 1) := by decide +kernel
theorem dX12_node_125 : decode cX12_node 125 = .ok (.aload_n 0, 1) := by decide +kernel
theorem dX12_node_126 : decode cX12_node 126 = .ok (.iload_n 1, 1) := by decide +kernel
theorem dX12_node_127 : decode cX12_node 127 = .ok (.invokevirtual 314, 3) := by decide +kernel
theorem dX12_node_130 : decode cX12_node 130 = .ok (.ifCond .eq 7, 3) := by decide +kernel
theorem dX12_node_133 : decode cX12_node 133 = .ok (.iconst 1, 1) := by decide +kernel
theorem dX12_node_134 : decode cX12_node 134 = .ok (.goto 34, 3) := by decide +kernel
theorem dX12_node_137 : decode cX12_node 137 = .ok (.aload_n 0, 1) := by decide +kernel
theorem dX12_node_138 : decode cX12_node 138 = .ok (.getfield 41, 3) := by decide +kernel
theorem dX12_node_141 : decode cX12_node 141 = .ok (.iload_n 1, 1) := by decide +kernel
theorem dX12_node_142 : decode cX12_node 142 = .ok (.iaload, 1) := by decide +kernel
theorem dX12_node_143 : decode cX12_node 143 = .ok (.iconst 2, 1) := by decide +kernel
theorem dX12_node_144 : decode cX12_node 144 = .ok (.iand, 1) := by decide +kernel
theorem dX12_node_145 : decode cX12_node 145 = .ok (.ifCond .le 7, 3) := by decide +kernel
theorem dX12_node_148 : decode cX12_node 148 = .ok (.iconst 2, 1) := by decide +kernel
theorem dX12_node_149 : decode cX12_node 149 = .ok (.goto 19, 3) := by decide +kernel
theorem dX12_node_152 : decode cX12_node 152 = .ok (.aload_n 0, 1) := by decide +kernel
theorem dX12_node_153 : decode cX12_node 153 = .ok (.getfield 41, 3) := by decide +kernel
theorem dX12_node_156 : decode cX12_node 156 = .ok (.iload_n 1, 1) := by decide +kernel
theorem dX12_node_157 : decode cX12_node 157 = .ok (.iaload, 1) := by decide +kernel
theorem dX12_node_158 : decode cX12_node 158 = .ok (.iconst 4, 1) := by decide +kernel
theorem dX12_node_159 : decode cX12_node 159 = .ok (.iand, 1) := by decide +kernel
theorem dX12_node_160 : decode cX12_node 160 = .ok (.ifCond .le 7, 3) := by decide +kernel
theorem dX12_node_163 : decode cX12_node 163 = .ok (.iconst 3, 1) := by decide +kernel
theorem dX12_node_164 : decode cX12_node 164 = .ok (.goto 4, 3) := by decide +kernel
theorem dX12_node_167 : decode cX12_node 167 = .ok (.iconst 0, 1) := by decide +kernel
theorem dX12_node_168 : decode cX12_node 168 = .ok (.ireturn, 1) := by decide +kernel
theorem dX12_laysSpectra_0 : decode cX12_laysSpectra 0 = .ok (.aload_n 0, 1) := by decide +kernel
theorem dX12_laysSpectra_1 : decode cX12_laysSpectra 1 = .ok (.iconst 0, 1) := by decide +kernel
theorem dX12_laysSpectra_2 : decode cX12_laysSpectra 2 = .ok (.putfield 317, 3) := by decide +kernel
theorem dX12_laysSpectra_5 : decode cX12_laysSpectra 5 = .ok (.aload_n 0, 1) := by decide +kernel
theorem dX12_laysSpectra_6 : decode cX12_laysSpectra 6 = .ok (.iconst 0, 1) := by decide +kernel
theorem dX12_laysSpectra_7 : decode cX12_laysSpectra 7 = .ok (.putfield 320, 3) := by decide +kernel
theorem dX12_laysSpectra_10 : decode cX12_laysSpectra 10 = .ok (.iconst 0, 1) := by decide +kernel
theorem dX12_laysSpectra_11 : decode cX12_laysSpectra 11 = .ok (.istore_n 1, 1) := by decide +kernel
theorem dX12_laysSpectra_12 : decode cX12_laysSpectra 12 = .ok (.iload_n 1, 1) := by decide +kernel
theorem dX12_laysSpectra_13 : decode cX12_laysSpectra 13 = .ok (.bipush 60, 2) := by decide +kernel
theorem dX12_laysSpectra_15 : decode cX12_laysSpectra 15 = .ok (.if_icmp .ge 23, 3) := by decide +kernel
theorem dX12_laysSpectra_18 : decode cX12_laysSpectra 18 = .ok (.aload_n 0, 1) := by decide +kernel
theorem dX12_laysSpectra_19 : decode cX12_laysSpectra 19 = .ok (.getfield 66, 3) := by decide +kernel
theorem dX12_laysSpectra_22 : decode cX12_laysSpectra 22 = .ok (.iload_n 1, 1) := by decide +kernel
theorem dX12_laysSpectra_23 : decode cX12_laysSpectra 23 = .ok (.iconst 0, 1) := by decide +kernel
theorem dX12_laysSpectra_24 : decode cX12_laysSpectra 24 = .ok (.iastore, 1) := by decide +kernel
theorem dX12_laysSpectra_25 : decode cX12_laysSpectra 25 = .ok (.aload_n 0, 1) := by decide +kernel
theorem dX12_laysSpectra_26 : decode cX12_laysSpectra 26 = .ok (.getfield 69, 3) := by decide +kernel
theorem dX12_laysSpectra_29 : decode cX12_laysSpectra 29 = .ok (.iload_n 1, 1) := by decide +kernel
theorem dX12_laysSpectra_30 : decode cX12_laysSpectra 30 = .ok (.iconst 0, 1) := by decide +kernel
theorem dX12_laysSpectra_31 : decode cX12_laysSpectra 31 = .ok (.iastore, 1) := by decide +kernel
theorem dX12_laysSpectra_32 : decode cX12_laysSpectra 32 = .ok (.iinc 1 1, 3) := by decide +kernel
theorem dX12_laysSpectra_35 : decode cX12_laysSpectra 35 = .ok (.goto (-23), 3) := by decide +kernel
theorem dX12_laysSpectra_38 : decode cX12_laysSpectra 38 = .ok (.iconst 0, 1) := by decide +kernel
theorem dX12_laysSpectra_39 : decode cX12_laysSpectra 39 = .ok (.istore_n 1, 1) := by decide +kernel
theorem dX12_laysSpectra_40 : decode cX12_laysSpectra 40 = .ok (.iload_n 1, 1) := by decide +kernel
theorem dX12_laysSpectra_41 : decode cX12_laysSpectra 41 = .ok (.aload_n 0, 1) := by decide +kernel
theorem dX12_laysSpectra_42 : decode cX12_laysSpectra 42 = .ok (.getfield 246, 3) := by decide +kernel
theorem dX12_laysSpectra_45 : decode cX12_laysSpectra 45 = .ok (.if_icmp .ge 122, 3) := by decide +kernel
theorem dX12_laysSpectra_48 : decode cX12_laysSpectra 48 = .ok (.aload_n 0, 1) := by decide +kernel
theorem dX12_laysSpectra_49 : decode cX12_laysSpectra 49 = .ok (.iload_n 1, 1) := by decide +kernel
theorem dX12_laysSpectra_50 : decode cX12_laysSpectra 50 = .ok (.invokevirtual 323, 3) := by decide +kernel
theorem dX12_laysSpectra_53 : decode cX12_laysSpectra 53 = .ok (.ifCond .ne 108, 3) := by decide +kernel
theorem dX12_laysSpectra_56 : decode cX12_laysSpectra 56 = .ok (.aload_n 0, 1) := by decide +kernel
theorem dX12_laysSpectra_57 : decode cX12_laysSpectra 57 = .ok (.iload_n 1, 1) := by decide +kernel
theorem dX12_laysSpectra_58 : decode cX12_laysSpectra 58 = .ok (.invokevirtual 302, 3) := by decide +kernel
theorem dX12_laysSpectra_61 : decode cX12_laysSpectra 61 = .ok (.istore_n 2, 1) := by decide +kernel
theorem dX12_laysSpectra_62 : decode cX12_laysSpectra 62 = .ok (.aload_n 0, 1) := by decide +kernel
theorem dX12_laysSpectra_63 : decode cX12_laysSpectra 63 = .ok (.dup, 1) := by decide +kernel
theorem dX12_laysSpectra_64 : decode cX12_laysSpectra 64 = .ok (.getfield 320, 3) := by decide +kernel
theorem dX12_laysSpectra_67 : decode cX12_laysSpectra 67 = .ok (.iload_n 2, 1) := by decide +kernel
theorem dX12_laysSpectra_68 : decode cX12_laysSpectra 68 = .ok (.ifCond .eq 7, 3) := by decide +kernel
theorem dX12_laysSpectra_71 : decode cX12_laysSpectra 71 = .ok (.iconst 1, 1) := by decide +kernel
theorem dX12_laysSpectra_72 : decode cX12_laysSpectra 72 = .ok (.goto 4, 3) := by decide +kernel
theorem dX12_laysSpectra_75 : decode cX12_laysSpectra 75 = .ok (.iconst 0, 1) := by decide +kernel
theorem dX12_laysSpectra_76 : decode cX12_laysSpectra 76 = .ok (.iadd, 1) := by decide +kernel
theorem dX12_laysSpectra_77 : decode cX12_laysSpectra 77 = .ok (.putfield 320, 3) := by decide +kernel
theorem dX12_laysSpectra_80 : decode cX12_laysSpectra 80 = .ok (.aload_n 0, 1) := by decide +kernel
theorem dX12_laysSpectra_81 : decode cX12_laysSpectra 81 = .ok (.dup, 1) := by decide +kernel
theorem dX12_laysSpectra_82 : decode cX12_laysSpectra 82 = .ok (.getfield 317, 3) := by decide +kernel
theorem dX12_laysSpectra_85 : decode cX12_laysSpectra 85 = .ok (.iload_n 2, 1) := by decide +kernel
theorem dX12_laysSpectra_86 : decode cX12_laysSpectra 86 = .ok (.ifCond .eq 7, 3) := by decide +kernel
theorem dX12_laysSpectra_89 : decode cX12_laysSpectra 89 = .ok (.iconst 0, 1) := by decide +kernel
theorem dX12_laysSpectra_90 : decode cX12_laysSpectra 90 = .ok (.goto 4, 3) := by decide +kernel
theorem dX12_laysSpectra_93 : decode cX12_laysSpectra 93 = .ok (.iconst 1, 1) := by decide +kernel
theorem dX12_laysSpectra_94 : decode cX12_laysSpectra 94 = .ok (.iadd, 1) := by decide +kernel
theorem dX12_laysSpectra_95 : decode cX12_laysSpectra 95 = .ok (.putfield 317, 3) := by decide +kernel
theorem dX12_laysSpectra_98 : decode cX12_laysSpectra 98 = .ok (.iconst 0, 1) := by decide +kernel
theorem dX12_laysSpectra_99 : decode cX12_laysSpectra 99 = .ok (.istore_n 3, 1) := by decide +kernel
theorem dX12_laysSpectra_100 : decode cX12_laysSpectra 100 = .ok (.iload_n 3, 1) := by decide +kernel
theorem dX12_laysSpectra_101 : decode cX12_laysSpectra 101 = .ok (.aload_n 0, 1) := by decide +kernel
theorem dX12_laysSpectra_102 : decode cX12_laysSpectra 102 = .ok (.getfield 13, 3) := by decide +kernel
theorem dX12_laysSpectra_105 : decode cX12_laysSpectra 105 = .ok (.iconst 0, 1) := by decide +kernel
theorem dX12_laysSpectra_106 : decode cX12_laysSpectra 106 = .ok (.iaload, 1) := by decide +kernel
theorem dX12_laysSpectra_107 : decode cX12_laysSpectra 107 = .ok (.if_icmp .ge 54, 3) := by decide +kernel
theorem dX12_laysSpectra_110 : decode cX12_laysSpectra 110 = .ok (.aload_n 0, 1) := by decide +kernel
theorem dX12_laysSpectra_111 : decode cX12_laysSpectra 111 = .ok (.getfield 53, 3) := by decide +kernel
theorem dX12_laysSpectra_114 : decode cX12_laysSpectra 114 = .ok (.iload_n 3, 1) := by decide +kernel
theorem dX12_laysSpectra_115 : decode cX12_laysSpectra 115 = .ok (.iaload, 1) := by decide +kernel
theorem dX12_laysSpectra_116 : decode cX12_laysSpectra 116 = .ok (.ifCond .le 39, 3) := by decide +kernel
theorem dX12_laysSpectra_119 : decode cX12_laysSpectra 119 = .ok (.aload_n 0, 1) := by decide +kernel
theorem dX12_laysSpectra_120 : decode cX12_laysSpectra 120 = .ok (.getfield 69, 3) := by decide +kernel
theorem dX12_laysSpectra_123 : decode cX12_laysSpectra 123 = .ok (.iload_n 3, 1) := by decide +kernel
theorem dX12_laysSpectra_124 : decode cX12_laysSpectra 124 = .ok (.dup2, 1) := by decide +kernel
theorem dX12_laysSpectra_125 : decode cX12_laysSpectra 125 = .ok (.iaload, 1) := by decide +kernel
theorem dX12_laysSpectra_126 : decode cX12_laysSpectra 126 = .ok (.iload_n 2, 1) := by decide +kernel
theorem dX12_laysSpectra_127 : decode cX12_laysSpectra 127 = .ok (.ifCond .eq 7, 3) := by decide +kernel
theorem dX12_laysSpectra_130 : decode cX12_laysSpectra 130 = .ok (.iconst 1, 1) := by decide +kernel
theorem dX12_laysSpectra_131 : decode cX12_laysSpectra 131 = .ok (.goto 4, 3) := by decide +kernel
theorem dX12_laysSpectra_134 : decode cX12_laysSpectra 134 = .ok (.iconst 0, 1) := by decide +kernel
theorem dX12_laysSpectra_135 : decode cX12_laysSpectra 135 = .ok (.iadd, 1) := by decide +kernel
theorem dX12_laysSpectra_136 : decode cX12_laysSpectra 136 = .ok (.iastore, 1) := by decide +kernel
theorem dX12_laysSpectra_137 : decode cX12_laysSpectra 137 = .ok (.aload_n 0, 1) := by decide +kernel
theorem dX12_laysSpectra_138 : decode cX12_laysSpectra 138 = .ok (.getfield 66, 3) := by decide +kernel
theorem dX12_laysSpectra_141 : decode cX12_laysSpectra 141 = .ok (.iload_n 3, 1) := by decide +kernel
theorem dX12_laysSpectra_142 : decode cX12_laysSpectra 142 = .ok (.dup2, 1) := by decide +kernel
theorem dX12_laysSpectra_143 : decode cX12_laysSpectra 143 = .ok (.iaload, 1) := by decide +kernel
theorem dX12_laysSpectra_144 : decode cX12_laysSpectra 144 = .ok (.iload_n 2, 1) := by decide +kernel
theorem dX12_laysSpectra_145 : decode cX12_laysSpectra 145 = .ok (.ifCond .eq 7, 3) := by decide +kernel
theorem dX12_laysSpectra_148 : decode cX12_laysSpectra 148 = .ok (.iconst 0, 1) := by decide +kernel
theorem dX12_laysSpectra_149 : decode cX12_laysSpectra 149 = .ok (.goto 4, 3) := by decide +kernel
theorem dX12_laysSpectra_152 : decode cX12_laysSpectra 152 = .ok (.iconst 1, 1) := by decide +kernel
theorem dX12_laysSpectra_153 : decode cX12_laysSpectra 153 = .ok (.iadd, 1) := by decide +kernel
theorem dX12_laysSpectra_154 : decode cX12_laysSpectra 154 = .ok (.iastore, 1) := by decide +kernel
theorem dX12_laysSpectra_155 : decode cX12_laysSpectra 155 = .ok (.iinc 3 1, 3) := by decide +kernel
theorem dX12_laysSpectra_158 : decode cX12_laysSpectra 158 = .ok (.goto (-58), 3) := by decide +kernel
theorem dX12_laysSpectra_161 : decode cX12_laysSpectra 161 = .ok (.iinc 1 1, 3) := by decide +kernel
theorem dX12_laysSpectra_164 : decode cX12_laysSpectra 164 = .ok (.goto (-124), 3) := by decide +kernel
theorem dX12_laysSpectra_167 : decode cX12_laysSpectra 167 = .ok (.return_, 1) := by decide +kernel
theorem dX12_spectrum_0 : decode cX12_spectrum 0 = .ok (.aload_n 0, 1) := by decide +kernel
theorem dX12_spectrum_1 : decode cX12_spectrum 1 = .ok (.iconst 0, 1) := by decide +kernel
theorem dX12_spectrum_2 : decode cX12_spectrum 2 = .ok (.putfield 121, 3) := by decide +kernel
theorem dX12_spectrum_5 : decode cX12_spectrum 5 = .ok (.aload_n 0, 1) := by decide +kernel
theorem dX12_spectrum_6 : decode cX12_spectrum 6 = .ok (.iload_n 1, 1) := by decide +kernel
theorem dX12_spectrum_7 : decode cX12_spectrum 7 = .ok (.invokevirtual 308, 3) := by decide +kernel
theorem dX12_spectrum_10 : decode cX12_spectrum 10 = .ok (.ifCond .eq 12, 3) := by decide +kernel
theorem dX12_spectrum_13 : decode cX12_spectrum 13 = .ok (.iload_n 2, 1) := by decide +kernel
theorem dX12_spectrum_14 : decode cX12_spectrum 14 = .ok (.iconst 0, 1) := by decide +kernel
theorem dX12_spectrum_15 : decode cX12_spectrum 15 = .ok (.iconst 3, 1) := by decide +kernel
theorem dX12_spectrum_16 : decode cX12_spectrum 16 = .ok (.invokestatic 147, 3) := by decide +kernel
theorem dX12_spectrum_19 : decode cX12_spectrum 19 = .ok (.ifCond .ne 5, 3) := by decide +kernel
theorem dX12_spectrum_22 : decode cX12_spectrum 22 = .ok (.iconst (-1), 1) := by decide +kernel
theorem dX12_spectrum_23 : decode cX12_spectrum 23 = .ok (.ireturn, 1) := by decide +kernel
theorem dX12_spectrum_24 : decode cX12_spectrum 24 = .ok (.aload_n 0, 1) := by decide +kernel
theorem dX12_spectrum_25 : decode cX12_spectrum 25 = .ok (.invokevirtual 326, 3) := by decide +kernel
theorem dX12_spectrum_28 : decode cX12_spectrum 28 = .ok (.iload_n 2, 1) := by decide +kernel
theorem dX12_spectrum_29 : decode cX12_spectrum 29 = .ok (.tableswitch 53 0 2 #[27, 34, 41], 27) := by decide +kernel
theorem dX12_spectrum_56 : decode cX12_spectrum 56 = .ok (.aload_n 0, 1) := by decide +kernel
theorem dX12_spectrum_57 : decode cX12_spectrum 57 = .ok (.getfield 66, 3) := by decide +kernel
theorem dX12_spectrum_60 : decode cX12_spectrum 60 = .ok (.iload_n 1, 1) := by decide +kernel
theorem dX12_spectrum_61 : decode cX12_spectrum 61 = .ok (.iaload, 1) := by decide +kernel
theorem dX12_spectrum_62 : decode cX12_spectrum 62 = .ok (.ireturn, 1) := by decide +kernel
theorem dX12_spectrum_63 : decode cX12_spectrum 63 = .ok (.aload_n 0, 1) := by decide +kernel
theorem dX12_spectrum_64 : decode cX12_spectrum 64 = .ok (.getfield 69, 3) := by decide +kernel
theorem dX12_spectrum_67 : decode cX12_spectrum 67 = .ok (.iload_n 1, 1) := by decide +kernel
theorem dX12_spectrum_68 : decode cX12_spectrum 68 = .ok (.iaload, 1) := by decide +kernel
theorem dX12_spectrum_69 : decode cX12_spectrum 69 = .ok (.ireturn, 1) := by decide +kernel
theorem dX12_spectrum_70 : decode cX12_spectrum 70 = .ok (.aload_n 0, 1) := by decide +kernel
theorem dX12_spectrum_71 : decode cX12_spectrum 71 = .ok (.getfield 317, 3) := by decide +kernel
theorem dX12_spectrum_74 : decode cX12_spectrum 74 = .ok (.aload_n 0, 1) := by decide +kernel
theorem dX12_spectrum_75 : decode cX12_spectrum 75 = .ok (.getfield 66, 3) := by decide +kernel
theorem dX12_spectrum_78 : decode cX12_spectrum 78 = .ok (.iload_n 1, 1) := by decide +kernel
theorem dX12_spectrum_79 : decode cX12_spectrum 79 = .ok (.iaload, 1) := by decide +kernel
theorem dX12_spectrum_80 : decode cX12_spectrum 80 = .ok (.isub, 1) := by decide +kernel
theorem dX12_spectrum_81 : decode cX12_spectrum 81 = .ok (.ireturn, 1) := by decide +kernel
theorem dX12_spectrum_82 : decode cX12_spectrum 82 = .ok (.aload_n 0, 1) := by decide +kernel
theorem dX12_spectrum_83 : decode cX12_spectrum 83 = .ok (.getfield 320, 3) := by decide +kernel
theorem dX12_spectrum_86 : decode cX12_spectrum 86 = .ok (.aload_n 0, 1) := by decide +kernel
theorem dX12_spectrum_87 : decode cX12_spectrum 87 = .ok (.getfield 69, 3) := by decide +kernel
theorem dX12_spectrum_90 : decode cX12_spectrum 90 = .ok (.iload_n 1, 1) := by decide +kernel
theorem dX12_spectrum_91 : decode cX12_spectrum 91 = .ok (.iaload, 1) := by decide +kernel
theorem dX12_spectrum_92 : decode cX12_spectrum 92 = .ok (.isub, 1) := by decide +kernel
theorem dX12_spectrum_93 : decode cX12_spectrum 93 = .ok (.ireturn, 1) := by decide +kernel
theorem dX12_scores_0 : decode cX12_scores 0 = .ok (.aload_n 0, 1) := by decide +kernel
theorem dX12_scores_1 : decode cX12_scores 1 = .ok (.getfield 66, 3) := by decide +kernel
theorem dX12_scores_4 : decode cX12_scores 4 = .ok (.iload_n 2, 1) := by decide +kernel
theorem dX12_scores_5 : decode cX12_scores 5 = .ok (.iaload, 1) := by decide +kernel
theorem dX12_scores_6 : decode cX12_scores 6 = .ok (.istore_n 3, 1) := by decide +kernel
theorem dX12_scores_7 : decode cX12_scores 7 = .ok (.aload_n 0, 1) := by decide +kernel
theorem dX12_scores_8 : decode cX12_scores 8 = .ok (.getfield 69, 3) := by decide +kernel
theorem dX12_scores_11 : decode cX12_scores 11 = .ok (.iload_n 2, 1) := by decide +kernel
theorem dX12_scores_12 : decode cX12_scores 12 = .ok (.iaload, 1) := by decide +kernel
theorem dX12_scores_13 : decode cX12_scores 13 = .ok (.istore 4, 2) := by decide +kernel
theorem dX12_scores_15 : decode cX12_scores 15 = .ok (.aload_n 0, 1) := by decide +kernel
theorem dX12_scores_16 : decode cX12_scores 16 = .ok (.iconst 0, 1) := by decide +kernel
theorem dX12_scores_17 : decode cX12_scores 17 = .ok (.putfield 329, 3) := by decide +kernel
theorem dX12_scores_20 : decode cX12_scores 20 = .ok (.aload_n 0, 1) := by decide +kernel
theorem dX12_scores_21 : decode cX12_scores 21 = .ok (.iconst 1, 1) := by decide +kernel
theorem dX12_scores_22 : decode cX12_scores 22 = .ok (.putfield 332, 3) := by decide +kernel
theorem dX12_scores_25 : decode cX12_scores 25 = .ok (.iload_n 3, 1) := by decide +kernel
theorem dX12_scores_26 : decode cX12_scores 26 = .ok (.ifCond .le 60, 3) := by decide +kernel
theorem dX12_scores_29 : decode cX12_scores 29 = .ok (.iload_n 1, 1) := by decide +kernel
theorem dX12_scores_30 : decode cX12_scores 30 = .ok (.ifCond .ne 56, 3) := by decide +kernel
theorem dX12_scores_33 : decode cX12_scores 33 = .ok (.aload_n 0, 1) := by decide +kernel
theorem dX12_scores_34 : decode cX12_scores 34 = .ok (.aload_n 0, 1) := by decide +kernel
theorem dX12_scores_35 : decode cX12_scores 35 = .ok (.getfield 320, 3) := by decide +kernel
theorem dX12_scores_38 : decode cX12_scores 38 = .ok (.ifCond .ne 7, 3) := by decide +kernel
theorem dX12_scores_41 : decode cX12_scores 41 = .ok (.iconst 1, 1) := by decide +kernel
theorem dX12_scores_42 : decode cX12_scores 42 = .ok (.goto 9, 3) := by decide +kernel
theorem dX12_scores_45 : decode cX12_scores 45 = .ok (.iload_n 3, 1) := by decide +kernel
theorem dX12_scores_46 : decode cX12_scores 46 = .ok (.aload_n 0, 1) := by decide +kernel
theorem dX12_scores_47 : decode cX12_scores 47 = .ok (.getfield 320, 3) := by decide +kernel
theorem dX12_scores_50 : decode cX12_scores 50 = .ok (.imul, 1) := by decide +kernel
theorem dX12_scores_51 : decode cX12_scores 51 = .ok (.putfield 329, 3) := by decide +kernel
theorem dX12_scores_54 : decode cX12_scores 54 = .ok (.aload_n 0, 1) := by decide +kernel
theorem dX12_scores_55 : decode cX12_scores 55 = .ok (.aload_n 0, 1) := by decide +kernel
theorem dX12_scores_56 : decode cX12_scores 56 = .ok (.getfield 320, 3) := by decide +kernel
theorem dX12_scores_59 : decode cX12_scores 59 = .ok (.ifCond .ne 7, 3) := by decide +kernel
theorem dX12_scores_62 : decode cX12_scores 62 = .ok (.iconst 1, 1) := by decide +kernel
theorem dX12_scores_63 : decode cX12_scores 63 = .ok (.goto 17, 3) := by decide +kernel
theorem dX12_scores_66 : decode cX12_scores 66 = .ok (.iload_n 3, 1) := by decide +kernel
theorem dX12_scores_67 : decode cX12_scores 67 = .ok (.aload_n 0, 1) := by decide +kernel
theorem dX12_scores_68 : decode cX12_scores 68 = .ok (.getfield 320, 3) := by decide +kernel
theorem dX12_scores_71 : decode cX12_scores 71 = .ok (.imul, 1) := by decide +kernel
theorem dX12_scores_72 : decode cX12_scores 72 = .ok (.iload 4, 2) := by decide +kernel
theorem dX12_scores_74 : decode cX12_scores 74 = .ok (.aload_n 0, 1) := by decide +kernel
theorem dX12_scores_75 : decode cX12_scores 75 = .ok (.getfield 317, 3) := by decide +kernel
theorem dX12_scores_78 : decode cX12_scores 78 = .ok (.imul, 1) := by decide +kernel
theorem dX12_scores_79 : decode cX12_scores 79 = .ok (.iadd, 1) := by decide +kernel
theorem dX12_scores_80 : decode cX12_scores 80 = .ok (.putfield 332, 3) := by decide +kernel
theorem dX12_scores_83 : decode cX12_scores 83 = .ok (.goto 83, 3) := by decide +kernel
theorem dX12_scores_86 : decode cX12_scores 86 = .ok (.iload_n 3, 1) := by decide +kernel
theorem dX12_scores_87 : decode cX12_scores 87 = .ok (.ifCond .le 31, 3) := by decide +kernel
theorem dX12_scores_90 : decode cX12_scores 90 = .ok (.iload_n 1, 1) := by decide +kernel
theorem dX12_scores_91 : decode cX12_scores 91 = .ok (.iconst 1, 1) := by decide +kernel
theorem dX12_scores_92 : decode cX12_scores 92 = .ok (.if_icmp .ne 26, 3) := by decide +kernel
theorem dX12_scores_95 : decode cX12_scores 95 = .ok (.aload_n 0, 1) := by decide +kernel
theorem dX12_scores_96 : decode cX12_scores 96 = .ok (.iload_n 3, 1) := by decide +kernel
theorem dX12_scores_97 : decode cX12_scores 97 = .ok (.iload_n 3, 1) := by decide +kernel
theorem dX12_scores_98 : decode cX12_scores 98 = .ok (.imul, 1) := by decide +kernel
theorem dX12_scores_99 : decode cX12_scores 99 = .ok (.putfield 329, 3) := by decide +kernel
theorem dX12_scores_102 : decode cX12_scores 102 = .ok (.aload_n 0, 1) := by decide +kernel
theorem dX12_scores_103 : decode cX12_scores 103 = .ok (.aload_n 0, 1) := by decide +kernel
theorem dX12_scores_104 : decode cX12_scores 104 = .ok (.getfield 317, 3) := by decide +kernel
theorem dX12_scores_107 : decode cX12_scores 107 = .ok (.iload_n 3, 1) := by decide +kernel
theorem dX12_scores_108 : decode cX12_scores 108 = .ok (.iload 4, 2) := by decide +kernel
theorem dX12_scores_110 : decode cX12_scores 110 = .ok (.iadd, 1) := by decide +kernel
theorem dX12_scores_111 : decode cX12_scores 111 = .ok (.imul, 1) := by decide +kernel
theorem dX12_scores_112 : decode cX12_scores 112 = .ok (.putfield 332, 3) := by decide +kernel
theorem dX12_scores_115 : decode cX12_scores 115 = .ok (.goto 51, 3) := by decide +kernel
theorem dX12_scores_118 : decode cX12_scores 118 = .ok (.iload_n 3, 1) := by decide +kernel
theorem dX12_scores_119 : decode cX12_scores 119 = .ok (.ifCond .le 47, 3) := by decide +kernel
theorem dX12_scores_122 : decode cX12_scores 122 = .ok (.iload 4, 2) := by decide +kernel
theorem dX12_scores_124 : decode cX12_scores 124 = .ok (.aload_n 0, 1) := by decide +kernel
theorem dX12_scores_125 : decode cX12_scores 125 = .ok (.getfield 317, 3) := by decide +kernel
theorem dX12_scores_128 : decode cX12_scores 128 = .ok (.iadd, 1) := by decide +kernel
theorem dX12_scores_129 : decode cX12_scores 129 = .ok (.iload_n 3, 1) := by decide +kernel
theorem dX12_scores_130 : decode cX12_scores 130 = .ok (.isub, 1) := by decide +kernel
theorem dX12_scores_131 : decode cX12_scores 131 = .ok (.istore 5, 2) := by decide +kernel
theorem dX12_scores_133 : decode cX12_scores 133 = .ok (.aload_n 0, 1) := by decide +kernel
theorem dX12_scores_134 : decode cX12_scores 134 = .ok (.iload 5, 2) := by decide +kernel
theorem dX12_scores_136 : decode cX12_scores 136 = .ok (.ifCond .ne 9, 3) := by decide +kernel
theorem dX12_scores_139 : decode cX12_scores 139 = .ok (.sipush 1000, 3) := by decide +kernel
theorem dX12_scores_142 : decode cX12_scores 142 = .ok (.goto 6, 3) := by decide +kernel
theorem dX12_scores_145 : decode cX12_scores 145 = .ok (.iload_n 3, 1) := by decide +kernel
theorem dX12_scores_146 : decode cX12_scores 146 = .ok (.iload_n 3, 1) := by decide +kernel
theorem dX12_scores_147 : decode cX12_scores 147 = .ok (.imul, 1) := by decide +kernel
theorem dX12_scores_148 : decode cX12_scores 148 = .ok (.putfield 329, 3) := by decide +kernel
theorem dX12_scores_151 : decode cX12_scores 151 = .ok (.aload_n 0, 1) := by decide +kernel
theorem dX12_scores_152 : decode cX12_scores 152 = .ok (.iload 5, 2) := by decide +kernel
theorem dX12_scores_154 : decode cX12_scores 154 = .ok (.ifCond .ne 7, 3) := by decide +kernel
theorem dX12_scores_157 : decode cX12_scores 157 = .ok (.iconst 1, 1) := by decide +kernel
theorem dX12_scores_158 : decode cX12_scores 158 = .ok (.goto 5, 3) := by decide +kernel
theorem dX12_scores_161 : decode cX12_scores 161 = .ok (.iload 5, 2) := by decide +kernel
theorem dX12_scores_163 : decode cX12_scores 163 = .ok (.putfield 332, 3) := by decide +kernel
theorem dX12_scores_166 : decode cX12_scores 166 = .ok (.aload_n 0, 1) := by decide +kernel
theorem dX12_scores_167 : decode cX12_scores 167 = .ok (.getfield 329, 3) := by decide +kernel
theorem dX12_scores_170 : decode cX12_scores 170 = .ok (.istore 5, 2) := by decide +kernel
theorem dX12_scores_172 : decode cX12_scores 172 = .ok (.aload_n 0, 1) := by decide +kernel
theorem dX12_scores_173 : decode cX12_scores 173 = .ok (.getfield 332, 3) := by decide +kernel
theorem dX12_scores_176 : decode cX12_scores 176 = .ok (.istore 6, 2) := by decide +kernel
theorem dX12_scores_178 : decode cX12_scores 178 = .ok (.iload 6, 2) := by decide +kernel
theorem dX12_scores_180 : decode cX12_scores 180 = .ok (.ifCond .eq 21, 3) := by decide +kernel
theorem dX12_scores_183 : decode cX12_scores 183 = .ok (.iload 5, 2) := by decide +kernel
theorem dX12_scores_185 : decode cX12_scores 185 = .ok (.iload 6, 2) := by decide +kernel
theorem dX12_scores_187 : decode cX12_scores 187 = .ok (.irem, 1) := by decide +kernel
theorem dX12_scores_188 : decode cX12_scores 188 = .ok (.istore 7, 2) := by decide +kernel
theorem dX12_scores_190 : decode cX12_scores 190 = .ok (.iload 6, 2) := by decide +kernel
theorem dX12_scores_192 : decode cX12_scores 192 = .ok (.istore 5, 2) := by decide +kernel
theorem dX12_scores_194 : decode cX12_scores 194 = .ok (.iload 7, 2) := by decide +kernel
theorem dX12_scores_196 : decode cX12_scores 196 = .ok (.istore 6, 2) := by decide +kernel
theorem dX12_scores_198 : decode cX12_scores 198 = .ok (.goto (-20), 3) := by decide +kernel
theorem dX12_scores_201 : decode cX12_scores 201 = .ok (.aload_n 0, 1) := by decide +kernel
theorem dX12_scores_202 : decode cX12_scores 202 = .ok (.dup, 1) := by decide +kernel
theorem dX12_scores_203 : decode cX12_scores 203 = .ok (.getfield 329, 3) := by decide +kernel
theorem dX12_scores_206 : decode cX12_scores 206 = .ok (.iload 5, 2) := by decide +kernel
theorem dX12_scores_208 : decode cX12_scores 208 = .ok (.idiv, 1) := by decide +kernel
theorem dX12_scores_209 : decode cX12_scores 209 = .ok (.putfield 329, 3) := by decide +kernel
theorem dX12_scores_212 : decode cX12_scores 212 = .ok (.aload_n 0, 1) := by decide +kernel
theorem dX12_scores_213 : decode cX12_scores 213 = .ok (.dup, 1) := by decide +kernel
theorem dX12_scores_214 : decode cX12_scores 214 = .ok (.getfield 332, 3) := by decide +kernel
theorem dX12_scores_217 : decode cX12_scores 217 = .ok (.iload 5, 2) := by decide +kernel
theorem dX12_scores_219 : decode cX12_scores 219 = .ok (.idiv, 1) := by decide +kernel
theorem dX12_scores_220 : decode cX12_scores 220 = .ok (.putfield 332, 3) := by decide +kernel
theorem dX12_scores_223 : decode cX12_scores 223 = .ok (.return_, 1) := by decide +kernel
theorem dX12_score_0 : decode cX12_score 0 = .ok (.aload_n 0, 1) := by decide +kernel
theorem dX12_score_1 : decode cX12_score 1 = .ok (.iconst 0, 1) := by decide +kernel
theorem dX12_score_2 : decode cX12_score 2 = .ok (.putfield 121, 3) := by decide +kernel
theorem dX12_score_5 : decode cX12_score 5 = .ok (.iload_n 1, 1) := by decide +kernel
theorem dX12_score_6 : decode cX12_score 6 = .ok (.iconst 0, 1) := by decide +kernel
theorem dX12_score_7 : decode cX12_score 7 = .ok (.iconst 2, 1) := by decide +kernel
theorem dX12_score_8 : decode cX12_score 8 = .ok (.invokestatic 147, 3) := by decide +kernel
theorem dX12_score_11 : decode cX12_score 11 = .ok (.ifCond .eq 20, 3) := by decide +kernel
theorem dX12_score_14 : decode cX12_score 14 = .ok (.aload_n 0, 1) := by decide +kernel
theorem dX12_score_15 : decode cX12_score 15 = .ok (.iload_n 2, 1) := by decide +kernel
theorem dX12_score_16 : decode cX12_score 16 = .ok (.invokevirtual 308, 3) := by decide +kernel
theorem dX12_score_19 : decode cX12_score 19 = .ok (.ifCond .eq 12, 3) := by decide +kernel
theorem dX12_score_22 : decode cX12_score 22 = .ok (.iload_n 3, 1) := by decide +kernel
theorem dX12_score_23 : decode cX12_score 23 = .ok (.iconst 0, 1) := by decide +kernel
theorem dX12_score_24 : decode cX12_score 24 = .ok (.iconst 1, 1) := by decide +kernel
theorem dX12_score_25 : decode cX12_score 25 = .ok (.invokestatic 147, 3) := by decide +kernel
theorem dX12_score_28 : decode cX12_score 28 = .ok (.ifCond .ne 5, 3) := by decide +kernel
theorem dX12_score_31 : decode cX12_score 31 = .ok (.iconst (-1), 1) := by decide +kernel
theorem dX12_score_32 : decode cX12_score 32 = .ok (.ireturn, 1) := by decide +kernel
theorem dX12_score_33 : decode cX12_score 33 = .ok (.aload_n 0, 1) := by decide +kernel
theorem dX12_score_34 : decode cX12_score 34 = .ok (.invokevirtual 326, 3) := by decide +kernel
theorem dX12_score_37 : decode cX12_score 37 = .ok (.aload_n 0, 1) := by decide +kernel
theorem dX12_score_38 : decode cX12_score 38 = .ok (.iload_n 1, 1) := by decide +kernel
theorem dX12_score_39 : decode cX12_score 39 = .ok (.iload_n 2, 1) := by decide +kernel
theorem dX12_score_40 : decode cX12_score 40 = .ok (.invokevirtual 335, 3) := by decide +kernel
theorem dX12_score_43 : decode cX12_score 43 = .ok (.iload_n 3, 1) := by decide +kernel
theorem dX12_score_44 : decode cX12_score 44 = .ok (.ifCond .ne 10, 3) := by decide +kernel
theorem dX12_score_47 : decode cX12_score 47 = .ok (.aload_n 0, 1) := by decide +kernel
theorem dX12_score_48 : decode cX12_score 48 = .ok (.getfield 329, 3) := by decide +kernel
theorem dX12_score_51 : decode cX12_score 51 = .ok (.goto 7, 3) := by decide +kernel
theorem dX12_score_54 : decode cX12_score 54 = .ok (.aload_n 0, 1) := by decide +kernel
theorem dX12_score_55 : decode cX12_score 55 = .ok (.getfield 332, 3) := by decide +kernel
theorem dX12_score_58 : decode cX12_score 58 = .ok (.ireturn, 1) := by decide +kernel
theorem dX12_isAhead_0 : decode cX12_isAhead 0 = .ok (.aload_n 0, 1) := by decide +kernel
theorem dX12_isAhead_1 : decode cX12_isAhead 1 = .ok (.iload_n 1, 1) := by decide +kernel
theorem dX12_isAhead_2 : decode cX12_isAhead 2 = .ok (.iload_n 2, 1) := by decide +kernel
theorem dX12_isAhead_3 : decode cX12_isAhead 3 = .ok (.invokevirtual 335, 3) := by decide +kernel
theorem dX12_isAhead_6 : decode cX12_isAhead 6 = .ok (.aload_n 0, 1) := by decide +kernel
theorem dX12_isAhead_7 : decode cX12_isAhead 7 = .ok (.getfield 329, 3) := by decide +kernel
theorem dX12_isAhead_10 : decode cX12_isAhead 10 = .ok (.istore 4, 2) := by decide +kernel
theorem dX12_isAhead_12 : decode cX12_isAhead 12 = .ok (.aload_n 0, 1) := by decide +kernel
theorem dX12_isAhead_13 : decode cX12_isAhead 13 = .ok (.getfield 332, 3) := by decide +kernel
theorem dX12_isAhead_16 : decode cX12_isAhead 16 = .ok (.istore 5, 2) := by decide +kernel
theorem dX12_isAhead_18 : decode cX12_isAhead 18 = .ok (.aload_n 0, 1) := by decide +kernel
theorem dX12_isAhead_19 : decode cX12_isAhead 19 = .ok (.iload_n 1, 1) := by decide +kernel
theorem dX12_isAhead_20 : decode cX12_isAhead 20 = .ok (.iload_n 3, 1) := by decide +kernel
theorem dX12_isAhead_21 : decode cX12_isAhead 21 = .ok (.invokevirtual 335, 3) := by decide +kernel
theorem dX12_isAhead_24 : decode cX12_isAhead 24 = .ok (.iload 4, 2) := by decide +kernel
theorem dX12_isAhead_26 : decode cX12_isAhead 26 = .ok (.aload_n 0, 1) := by decide +kernel
theorem dX12_isAhead_27 : decode cX12_isAhead 27 = .ok (.getfield 332, 3) := by decide +kernel
theorem dX12_isAhead_30 : decode cX12_isAhead 30 = .ok (.imul, 1) := by decide +kernel
theorem dX12_isAhead_31 : decode cX12_isAhead 31 = .ok (.aload_n 0, 1) := by decide +kernel
theorem dX12_isAhead_32 : decode cX12_isAhead 32 = .ok (.getfield 329, 3) := by decide +kernel
theorem dX12_isAhead_35 : decode cX12_isAhead 35 = .ok (.iload 5, 2) := by decide +kernel
theorem dX12_isAhead_37 : decode cX12_isAhead 37 = .ok (.imul, 1) := by decide +kernel
theorem dX12_isAhead_38 : decode cX12_isAhead 38 = .ok (.if_icmp .le 7, 3) := by decide +kernel
theorem dX12_isAhead_41 : decode cX12_isAhead 41 = .ok (.iconst 1, 1) := by decide +kernel
theorem dX12_isAhead_42 : decode cX12_isAhead 42 = .ok (.goto 4, 3) := by decide +kernel
theorem dX12_isAhead_45 : decode cX12_isAhead 45 = .ok (.iconst 0, 1) := by decide +kernel
theorem dX12_isAhead_46 : decode cX12_isAhead 46 = .ok (.ireturn, 1) := by decide +kernel
theorem dX12_laysRanked_0 : decode cX12_laysRanked 0 = .ok (.aload_n 0, 1) := by decide +kernel
theorem dX12_laysRanked_1 : decode cX12_laysRanked 1 = .ok (.invokevirtual 326, 3) := by decide +kernel
theorem dX12_laysRanked_4 : decode cX12_laysRanked 4 = .ok (.iconst 0, 1) := by decide +kernel
theorem dX12_laysRanked_5 : decode cX12_laysRanked 5 = .ok (.istore_n 2, 1) := by decide +kernel
theorem dX12_laysRanked_6 : decode cX12_laysRanked 6 = .ok (.iconst 0, 1) := by decide +kernel
theorem dX12_laysRanked_7 : decode cX12_laysRanked 7 = .ok (.istore_n 3, 1) := by decide +kernel
theorem dX12_laysRanked_8 : decode cX12_laysRanked 8 = .ok (.iload_n 3, 1) := by decide +kernel
theorem dX12_laysRanked_9 : decode cX12_laysRanked 9 = .ok (.aload_n 0, 1) := by decide +kernel
theorem dX12_laysRanked_10 : decode cX12_laysRanked 10 = .ok (.getfield 13, 3) := by decide +kernel
theorem dX12_laysRanked_13 : decode cX12_laysRanked 13 = .ok (.iconst 0, 1) := by decide +kernel
theorem dX12_laysRanked_14 : decode cX12_laysRanked 14 = .ok (.iaload, 1) := by decide +kernel
theorem dX12_laysRanked_15 : decode cX12_laysRanked 15 = .ok (.if_icmp .ge 76, 3) := by decide +kernel
theorem dX12_laysRanked_18 : decode cX12_laysRanked 18 = .ok (.aload_n 0, 1) := by decide +kernel
theorem dX12_laysRanked_19 : decode cX12_laysRanked 19 = .ok (.iload_n 3, 1) := by decide +kernel
theorem dX12_laysRanked_20 : decode cX12_laysRanked 20 = .ok (.invokevirtual 308, 3) := by decide +kernel
theorem dX12_laysRanked_23 : decode cX12_laysRanked 23 = .ok (.ifCond .eq 62, 3) := by decide +kernel
theorem dX12_laysRanked_26 : decode cX12_laysRanked 26 = .ok (.iload_n 2, 1) := by decide +kernel
theorem dX12_laysRanked_27 : decode cX12_laysRanked 27 = .ok (.istore 4, 2) := by decide +kernel
theorem dX12_laysRanked_29 : decode cX12_laysRanked 29 = .ok (.iload 4, 2) := by decide +kernel
theorem dX12_laysRanked_31 : decode cX12_laysRanked 31 = .ok (.ifCond .le 43, 3) := by decide +kernel
theorem dX12_laysRanked_34 : decode cX12_laysRanked 34 = .ok (.aload_n 0, 1) := by decide +kernel
theorem dX12_laysRanked_35 : decode cX12_laysRanked 35 = .ok (.iload_n 1, 1) := by decide +kernel
theorem dX12_laysRanked_36 : decode cX12_laysRanked 36 = .ok (.iload_n 3, 1) := by decide +kernel
theorem dX12_laysRanked_37 : decode cX12_laysRanked 37 = .ok (.aload_n 0, 1) := by decide +kernel
theorem dX12_laysRanked_38 : decode cX12_laysRanked 38 = .ok (.getfield 72, 3) := by decide +kernel
theorem dX12_laysRanked_41 : decode cX12_laysRanked 41 = .ok (.iload 4, 2) := by decide +kernel
theorem dX12_laysRanked_43 : decode cX12_laysRanked 43 = .ok (.iconst 1, 1) := by decide +kernel
theorem dX12_laysRanked_44 : decode cX12_laysRanked 44 = .ok (.isub, 1) := by decide +kernel
theorem dX12_laysRanked_45 : decode cX12_laysRanked 45 = .ok (.iaload, 1) := by decide +kernel
theorem dX12_laysRanked_46 : decode cX12_laysRanked 46 = .ok (.invokevirtual 339, 3) := by decide +kernel
theorem dX12_laysRanked_49 : decode cX12_laysRanked 49 = .ok (.ifCond .eq 25, 3) := by decide +kernel
theorem dX12_laysRanked_52 : decode cX12_laysRanked 52 = .ok (.aload_n 0, 1) := by decide +kernel
theorem dX12_laysRanked_53 : decode cX12_laysRanked 53 = .ok (.getfield 72, 3) := by decide +kernel
theorem dX12_laysRanked_56 : decode cX12_laysRanked 56 = .ok (.iload 4, 2) := by decide +kernel
theorem dX12_laysRanked_58 : decode cX12_laysRanked 58 = .ok (.aload_n 0, 1) := by decide +kernel
theorem dX12_laysRanked_59 : decode cX12_laysRanked 59 = .ok (.getfield 72, 3) := by decide +kernel
theorem dX12_laysRanked_62 : decode cX12_laysRanked 62 = .ok (.iload 4, 2) := by decide +kernel
theorem dX12_laysRanked_64 : decode cX12_laysRanked 64 = .ok (.iconst 1, 1) := by decide +kernel
theorem dX12_laysRanked_65 : decode cX12_laysRanked 65 = .ok (.isub, 1) := by decide +kernel
theorem dX12_laysRanked_66 : decode cX12_laysRanked 66 = .ok (.iaload, 1) := by decide +kernel
theorem dX12_laysRanked_67 : decode cX12_laysRanked 67 = .ok (.iastore, 1) := by decide +kernel
theorem dX12_laysRanked_68 : decode cX12_laysRanked 68 = .ok (.iinc 4 (-1), 3) := by decide +kernel
theorem dX12_laysRanked_71 : decode cX12_laysRanked 71 = .ok (.goto (-42), 3) := by decide +kernel
theorem dX12_laysRanked_74 : decode cX12_laysRanked 74 = .ok (.aload_n 0, 1) := by decide +kernel
theorem dX12_laysRanked_75 : decode cX12_laysRanked 75 = .ok (.getfield 72, 3) := by decide +kernel
theorem dX12_laysRanked_78 : decode cX12_laysRanked 78 = .ok (.iload 4, 2) := by decide +kernel
theorem dX12_laysRanked_80 : decode cX12_laysRanked 80 = .ok (.iload_n 3, 1) := by decide +kernel
theorem dX12_laysRanked_81 : decode cX12_laysRanked 81 = .ok (.iastore, 1) := by decide +kernel
theorem dX12_laysRanked_82 : decode cX12_laysRanked 82 = .ok (.iinc 2 1, 3) := by decide +kernel
theorem dX12_laysRanked_85 : decode cX12_laysRanked 85 = .ok (.iinc 3 1, 3) := by decide +kernel
theorem dX12_laysRanked_88 : decode cX12_laysRanked 88 = .ok (.goto (-80), 3) := by decide +kernel
theorem dX12_laysRanked_91 : decode cX12_laysRanked 91 = .ok (.iload_n 2, 1) := by decide +kernel
theorem dX12_laysRanked_92 : decode cX12_laysRanked 92 = .ok (.ireturn, 1) := by decide +kernel
theorem dX12_suspect_0 : decode cX12_suspect 0 = .ok (.aload_n 0, 1) := by decide +kernel
theorem dX12_suspect_1 : decode cX12_suspect 1 = .ok (.iconst 0, 1) := by decide +kernel
theorem dX12_suspect_2 : decode cX12_suspect 2 = .ok (.putfield 121, 3) := by decide +kernel
theorem dX12_suspect_5 : decode cX12_suspect 5 = .ok (.iload_n 1, 1) := by decide +kernel
theorem dX12_suspect_6 : decode cX12_suspect 6 = .ok (.iconst 0, 1) := by decide +kernel
theorem dX12_suspect_7 : decode cX12_suspect 7 = .ok (.iconst 2, 1) := by decide +kernel
theorem dX12_suspect_8 : decode cX12_suspect 8 = .ok (.invokestatic 147, 3) := by decide +kernel
theorem dX12_suspect_11 : decode cX12_suspect 11 = .ok (.ifCond .eq 19, 3) := by decide +kernel
theorem dX12_suspect_14 : decode cX12_suspect 14 = .ok (.iload_n 2, 1) := by decide +kernel
theorem dX12_suspect_15 : decode cX12_suspect 15 = .ok (.iconst 0, 1) := by decide +kernel
theorem dX12_suspect_16 : decode cX12_suspect 16 = .ok (.aload_n 0, 1) := by decide +kernel
theorem dX12_suspect_17 : decode cX12_suspect 17 = .ok (.getfield 13, 3) := by decide +kernel
theorem dX12_suspect_20 : decode cX12_suspect 20 = .ok (.iconst 1, 1) := by decide +kernel
theorem dX12_suspect_21 : decode cX12_suspect 21 = .ok (.iaload, 1) := by decide +kernel
theorem dX12_suspect_22 : decode cX12_suspect 22 = .ok (.iconst 1, 1) := by decide +kernel
theorem dX12_suspect_23 : decode cX12_suspect 23 = .ok (.isub, 1) := by decide +kernel
theorem dX12_suspect_24 : decode cX12_suspect 24 = .ok (.invokestatic 147, 3) := by decide +kernel
theorem dX12_suspect_27 : decode cX12_suspect 27 = .ok (.ifCond .ne 5, 3) := by decide +kernel
theorem dX12_suspect_30 : decode cX12_suspect 30 = .ok (.iconst (-1), 1) := by decide +kernel
theorem dX12_suspect_31 : decode cX12_suspect 31 = .ok (.ireturn, 1) := by decide +kernel
theorem dX12_suspect_32 : decode cX12_suspect 32 = .ok (.aload_n 0, 1) := by decide +kernel
theorem dX12_suspect_33 : decode cX12_suspect 33 = .ok (.iload_n 1, 1) := by decide +kernel
theorem dX12_suspect_34 : decode cX12_suspect 34 = .ok (.invokevirtual 342, 3) := by decide +kernel
theorem dX12_suspect_37 : decode cX12_suspect 37 = .ok (.istore_n 3, 1) := by decide +kernel
theorem dX12_suspect_38 : decode cX12_suspect 38 = .ok (.aload_n 0, 1) := by decide +kernel
theorem dX12_suspect_39 : decode cX12_suspect 39 = .ok (.getfield 72, 3) := by decide +kernel
theorem dX12_suspect_42 : decode cX12_suspect 42 = .ok (.iload_n 2, 1) := by decide +kernel
theorem dX12_suspect_43 : decode cX12_suspect 43 = .ok (.iaload, 1) := by decide +kernel
theorem dX12_suspect_44 : decode cX12_suspect 44 = .ok (.ireturn, 1) := by decide +kernel
theorem dX12_asks_0 : decode cX12_asks 0 = .ok (.aload_n 0, 1) := by decide +kernel
theorem dX12_asks_1 : decode cX12_asks 1 = .ok (.aload_n 0, 1) := by decide +kernel
theorem dX12_asks_2 : decode cX12_asks 2 = .ok (.getfield 20, 3) := by decide +kernel
theorem dX12_asks_5 : decode cX12_asks 5 = .ok (.iload_n 1, 1) := by decide +kernel
theorem dX12_asks_6 : decode cX12_asks 6 = .ok (.iaload, 1) := by decide +kernel
theorem dX12_asks_7 : decode cX12_asks 7 = .ok (.putfield 345, 3) := by decide +kernel
theorem dX12_asks_10 : decode cX12_asks 10 = .ok (.aload_n 0, 1) := by decide +kernel
theorem dX12_asks_11 : decode cX12_asks 11 = .ok (.aload_n 0, 1) := by decide +kernel
theorem dX12_asks_12 : decode cX12_asks 12 = .ok (.getfield 41, 3) := by decide +kernel
theorem dX12_asks_15 : decode cX12_asks 15 = .ok (.iload_n 1, 1) := by decide +kernel
theorem dX12_asks_16 : decode cX12_asks 16 = .ok (.iaload, 1) := by decide +kernel
theorem dX12_asks_17 : decode cX12_asks 17 = .ok (.putfield 348, 3) := by decide +kernel
theorem dX12_asks_20 : decode cX12_asks 20 = .ok (.iload_n 2, 1) := by decide +kernel
theorem dX12_asks_21 : decode cX12_asks 21 = .ok (.ifCond .lt 11, 3) := by decide +kernel
theorem dX12_asks_24 : decode cX12_asks 24 = .ok (.aload_n 0, 1) := by decide +kernel
theorem dX12_asks_25 : decode cX12_asks 25 = .ok (.iload_n 1, 1) := by decide +kernel
theorem dX12_asks_26 : decode cX12_asks 26 = .ok (.invokevirtual 314, 3) := by decide +kernel
theorem dX12_asks_29 : decode cX12_asks 29 = .ok (.ifCond .eq 5, 3) := by decide +kernel
theorem dX12_asks_32 : decode cX12_asks 32 = .ok (.iconst 0, 1) := by decide +kernel
theorem dX12_asks_33 : decode cX12_asks 33 = .ok (.ireturn, 1) := by decide +kernel
theorem dX12_asks_34 : decode cX12_asks 34 = .ok (.aload_n 0, 1) := by decide +kernel
theorem dX12_asks_35 : decode cX12_asks 35 = .ok (.getfield 17, 3) := by decide +kernel
theorem dX12_asks_38 : decode cX12_asks 38 = .ok (.iload_n 1, 1) := by decide +kernel
theorem dX12_asks_39 : decode cX12_asks 39 = .ok (.iaload, 1) := by decide +kernel
theorem dX12_asks_40 : decode cX12_asks 40 = .ok (.tableswitch 190 1 7 #[152, 152, 190, 44, 110, 190, 145], 44) := by decide +kernel
theorem dX12_asks_84 : decode cX12_asks 84 = .ok (.aload_n 0, 1) := by decide +kernel
theorem dX12_asks_85 : decode cX12_asks 85 = .ok (.iload_n 2, 1) := by decide +kernel
theorem dX12_asks_86 : decode cX12_asks 86 = .ok (.ifCond .ne 14, 3) := by decide +kernel
theorem dX12_asks_89 : decode cX12_asks 89 = .ok (.aload_n 0, 1) := by decide +kernel
theorem dX12_asks_90 : decode cX12_asks 90 = .ok (.getfield 20, 3) := by decide +kernel
theorem dX12_asks_93 : decode cX12_asks 93 = .ok (.iload_n 1, 1) := by decide +kernel
theorem dX12_asks_94 : decode cX12_asks 94 = .ok (.iaload, 1) := by decide +kernel
theorem dX12_asks_95 : decode cX12_asks 95 = .ok (.iconst 1, 1) := by decide +kernel
theorem dX12_asks_96 : decode cX12_asks 96 = .ok (.iadd, 1) := by decide +kernel
theorem dX12_asks_97 : decode cX12_asks 97 = .ok (.goto 20, 3) := by decide +kernel
theorem dX12_asks_100 : decode cX12_asks 100 = .ok (.iload_n 2, 1) := by decide +kernel
theorem dX12_asks_101 : decode cX12_asks 101 = .ok (.iconst 1, 1) := by decide +kernel
theorem dX12_asks_102 : decode cX12_asks 102 = .ok (.if_icmp .ne 14, 3) := by decide +kernel
theorem dX12_asks_105 : decode cX12_asks 105 = .ok (.aload_n 0, 1) := by decide +kernel
theorem dX12_asks_106 : decode cX12_asks 106 = .ok (.getfield 20, 3) := by decide +kernel
theorem dX12_asks_109 : decode cX12_asks 109 = .ok (.iload_n 1, 1) := by decide +kernel
theorem dX12_asks_110 : decode cX12_asks 110 = .ok (.iaload, 1) := by decide +kernel
theorem dX12_asks_111 : decode cX12_asks 111 = .ok (.iconst 1, 1) := by decide +kernel
theorem dX12_asks_112 : decode cX12_asks 112 = .ok (.isub, 1) := by decide +kernel
theorem dX12_asks_113 : decode cX12_asks 113 = .ok (.goto 4, 3) := by decide +kernel
theorem dX12_asks_116 : decode cX12_asks 116 = .ok (.iconst 0, 1) := by decide +kernel
theorem dX12_asks_117 : decode cX12_asks 117 = .ok (.putfield 345, 3) := by decide +kernel
theorem dX12_asks_120 : decode cX12_asks 120 = .ok (.iload_n 2, 1) := by decide +kernel
theorem dX12_asks_121 : decode cX12_asks 121 = .ok (.iconst 2, 1) := by decide +kernel
theorem dX12_asks_122 : decode cX12_asks 122 = .ok (.if_icmp .lt 22, 3) := by decide +kernel
theorem dX12_asks_125 : decode cX12_asks 125 = .ok (.iload_n 2, 1) := by decide +kernel
theorem dX12_asks_126 : decode cX12_asks 126 = .ok (.iconst 2, 1) := by decide +kernel
theorem dX12_asks_127 : decode cX12_asks 127 = .ok (.if_icmp .ne 21, 3) := by decide +kernel
theorem dX12_asks_130 : decode cX12_asks 130 = .ok (.aload_n 0, 1) := by decide +kernel
theorem dX12_asks_131 : decode cX12_asks 131 = .ok (.getfield 20, 3) := by decide +kernel
theorem dX12_asks_134 : decode cX12_asks 134 = .ok (.iload_n 1, 1) := by decide +kernel
theorem dX12_asks_135 : decode cX12_asks 135 = .ok (.iaload, 1) := by decide +kernel
theorem dX12_asks_136 : decode cX12_asks 136 = .ok (.iconst (-1), 1) := by decide +kernel
theorem dX12_asks_137 : decode cX12_asks 137 = .ok (.iconst 1, 1) := by decide +kernel
theorem dX12_asks_138 : decode cX12_asks 138 = .ok (.invokestatic 147, 3) := by decide +kernel
theorem dX12_asks_141 : decode cX12_asks 141 = .ok (.ifCond .ne 7, 3) := by decide +kernel
theorem dX12_asks_144 : decode cX12_asks 144 = .ok (.iconst 1, 1) := by decide +kernel
theorem dX12_asks_145 : decode cX12_asks 145 = .ok (.goto 4, 3) := by decide +kernel
theorem dX12_asks_148 : decode cX12_asks 148 = .ok (.iconst 0, 1) := by decide +kernel
theorem dX12_asks_149 : decode cX12_asks 149 = .ok (.ireturn, 1) := by decide +kernel
theorem dX12_asks_150 : decode cX12_asks 150 = .ok (.aload_n 0, 1) := by decide +kernel
theorem dX12_asks_151 : decode cX12_asks 151 = .ok (.iload_n 2, 1) := by decide +kernel
theorem dX12_asks_152 : decode cX12_asks 152 = .ok (.iconst 0, 1) := by decide +kernel
theorem dX12_asks_153 : decode cX12_asks 153 = .ok (.bipush 8, 2) := by decide +kernel
theorem dX12_asks_155 : decode cX12_asks 155 = .ok (.aload_n 0, 1) := by decide +kernel
theorem dX12_asks_156 : decode cX12_asks 156 = .ok (.getfield 235, 3) := by decide +kernel
theorem dX12_asks_159 : decode cX12_asks 159 = .ok (.aload_n 0, 1) := by decide +kernel
theorem dX12_asks_160 : decode cX12_asks 160 = .ok (.getfield 20, 3) := by decide +kernel
theorem dX12_asks_163 : decode cX12_asks 163 = .ok (.iload_n 1, 1) := by decide +kernel
theorem dX12_asks_164 : decode cX12_asks 164 = .ok (.iaload, 1) := by decide +kernel
theorem dX12_asks_165 : decode cX12_asks 165 = .ok (.invokestatic 351, 3) := by decide +kernel
theorem dX12_asks_168 : decode cX12_asks 168 = .ok (.putfield 345, 3) := by decide +kernel
theorem dX12_asks_171 : decode cX12_asks 171 = .ok (.aload_n 0, 1) := by decide +kernel
theorem dX12_asks_172 : decode cX12_asks 172 = .ok (.getfield 345, 3) := by decide +kernel
theorem dX12_asks_175 : decode cX12_asks 175 = .ok (.iconst (-1), 1) := by decide +kernel
theorem dX12_asks_176 : decode cX12_asks 176 = .ok (.if_icmp .eq 7, 3) := by decide +kernel
theorem dX12_asks_179 : decode cX12_asks 179 = .ok (.iconst 1, 1) := by decide +kernel
theorem dX12_asks_180 : decode cX12_asks 180 = .ok (.goto 4, 3) := by decide +kernel
theorem dX12_asks_183 : decode cX12_asks 183 = .ok (.iconst 0, 1) := by decide +kernel
theorem dX12_asks_184 : decode cX12_asks 184 = .ok (.ireturn, 1) := by decide +kernel
theorem dX12_asks_185 : decode cX12_asks 185 = .ok (.aload_n 0, 1) := by decide +kernel
theorem dX12_asks_186 : decode cX12_asks 186 = .ok (.iload_n 1, 1) := by decide +kernel
theorem dX12_asks_187 : decode cX12_asks 187 = .ok (.iload_n 2, 1) := by decide +kernel
theorem dX12_asks_188 : decode cX12_asks 188 = .ok (.invokevirtual 355, 3) := by decide +kernel
theorem dX12_asks_191 : decode cX12_asks 191 = .ok (.ireturn, 1) := by decide +kernel
theorem dX12_asks_192 : decode cX12_asks 192 = .ok (.aload_n 0, 1) := by decide +kernel
theorem dX12_asks_193 : decode cX12_asks 193 = .ok (.iload_n 2, 1) := by decide +kernel
theorem dX12_asks_194 : decode cX12_asks 194 = .ok (.ifCond .ne 14, 3) := by decide +kernel
theorem dX12_asks_197 : decode cX12_asks 197 = .ok (.aload_n 0, 1) := by decide +kernel
theorem dX12_asks_198 : decode cX12_asks 198 = .ok (.getfield 41, 3) := by decide +kernel
theorem dX12_asks_201 : decode cX12_asks 201 = .ok (.iload_n 1, 1) := by decide +kernel
theorem dX12_asks_202 : decode cX12_asks 202 = .ok (.iaload, 1) := by decide +kernel
theorem dX12_asks_203 : decode cX12_asks 203 = .ok (.iconst 2, 1) := by decide +kernel
theorem dX12_asks_204 : decode cX12_asks 204 = .ok (.ixor, 1) := by decide +kernel
theorem dX12_asks_205 : decode cX12_asks 205 = .ok (.goto 11, 3) := by decide +kernel
theorem dX12_asks_208 : decode cX12_asks 208 = .ok (.aload_n 0, 1) := by decide +kernel
theorem dX12_asks_209 : decode cX12_asks 209 = .ok (.getfield 41, 3) := by decide +kernel
theorem dX12_asks_212 : decode cX12_asks 212 = .ok (.iload_n 1, 1) := by decide +kernel
theorem dX12_asks_213 : decode cX12_asks 213 = .ok (.iaload, 1) := by decide +kernel
theorem dX12_asks_214 : decode cX12_asks 214 = .ok (.iconst 1, 1) := by decide +kernel
theorem dX12_asks_215 : decode cX12_asks 215 = .ok (.ior, 1) := by decide +kernel
theorem dX12_asks_216 : decode cX12_asks 216 = .ok (.putfield 348, 3) := by decide +kernel
