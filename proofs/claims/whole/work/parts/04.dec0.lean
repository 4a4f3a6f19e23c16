theorem dX0_init_0 : decode cX0_init 0 = .ok (.aload_n 0, 1) := by decide +kernel
theorem dX0_init_1 : decode cX0_init 1 = .ok (.invokespecial 3, 3) := by decide +kernel
theorem dX0_init_4 : decode cX0_init 4 = .ok (.aload_n 0, 1) := by decide +kernel
theorem dX0_init_5 : decode cX0_init 5 = .ok (.bipush 60, 2) := by decide +kernel
theorem dX0_init_7 : decode cX0_init 7 = .ok (.newarray .int, 2) := by decide +kernel
theorem dX0_init_9 : decode cX0_init 9 = .ok (.putfield 9, 3) := by decide +kernel
theorem dX0_init_12 : decode cX0_init 12 = .ok (.aload_n 0, 1) := by decide +kernel
theorem dX0_init_13 : decode cX0_init 13 = .ok (.bipush 60, 2) := by decide +kernel
theorem dX0_init_15 : decode cX0_init 15 = .ok (.newarray .int, 2) := by decide +kernel
theorem dX0_init_17 : decode cX0_init 17 = .ok (.putfield 15, 3) := by decide +kernel
theorem dX0_init_20 : decode cX0_init 20 = .ok (.aload_n 0, 1) := by decide +kernel
theorem dX0_init_21 : decode cX0_init 21 = .ok (.bipush 60, 2) := by decide +kernel
theorem dX0_init_23 : decode cX0_init 23 = .ok (.newarray .int, 2) := by decide +kernel
theorem dX0_init_25 : decode cX0_init 25 = .ok (.putfield 18, 3) := by decide +kernel
theorem dX0_init_28 : decode cX0_init 28 = .ok (.aload_n 0, 1) := by decide +kernel
theorem dX0_init_29 : decode cX0_init 29 = .ok (.bipush 60, 2) := by decide +kernel
theorem dX0_init_31 : decode cX0_init 31 = .ok (.newarray .int, 2) := by decide +kernel
theorem dX0_init_33 : decode cX0_init 33 = .ok (.putfield 21, 3) := by decide +kernel
theorem dX0_init_36 : decode cX0_init 36 = .ok (.aload_n 0, 1) := by decide +kernel
theorem dX0_init_37 : decode cX0_init 37 = .ok (.bipush 60, 2) := by decide +kernel
theorem dX0_init_39 : decode cX0_init 39 = .ok (.newarray .int, 2) := by decide +kernel
theorem dX0_init_41 : decode cX0_init 41 = .ok (.putfield 24, 3) := by decide +kernel
theorem dX0_init_44 : decode cX0_init 44 = .ok (.aload_n 0, 1) := by decide +kernel
theorem dX0_init_45 : decode cX0_init 45 = .ok (.bipush 60, 2) := by decide +kernel
theorem dX0_init_47 : decode cX0_init 47 = .ok (.newarray .int, 2) := by decide +kernel
theorem dX0_init_49 : decode cX0_init 49 = .ok (.putfield 27, 3) := by decide +kernel
theorem dX0_init_52 : decode cX0_init 52 = .ok (.aload_n 0, 1) := by decide +kernel
theorem dX0_init_53 : decode cX0_init 53 = .ok (.bipush 60, 2) := by decide +kernel
theorem dX0_init_55 : decode cX0_init 55 = .ok (.newarray .int, 2) := by decide +kernel
theorem dX0_init_57 : decode cX0_init 57 = .ok (.putfield 30, 3) := by decide +kernel
theorem dX0_init_60 : decode cX0_init 60 = .ok (.aload_n 0, 1) := by decide +kernel
theorem dX0_init_61 : decode cX0_init 61 = .ok (.bipush 60, 2) := by decide +kernel
theorem dX0_init_63 : decode cX0_init 63 = .ok (.newarray .int, 2) := by decide +kernel
theorem dX0_init_65 : decode cX0_init 65 = .ok (.putfield 33, 3) := by decide +kernel
theorem dX0_init_68 : decode cX0_init 68 = .ok (.aload_n 0, 1) := by decide +kernel
theorem dX0_init_69 : decode cX0_init 69 = .ok (.bipush 60, 2) := by decide +kernel
theorem dX0_init_71 : decode cX0_init 71 = .ok (.newarray .int, 2) := by decide +kernel
theorem dX0_init_73 : decode cX0_init 73 = .ok (.putfield 36, 3) := by decide +kernel
theorem dX0_init_76 : decode cX0_init 76 = .ok (.aload_n 0, 1) := by decide +kernel
theorem dX0_init_77 : decode cX0_init 77 = .ok (.bipush 60, 2) := by decide +kernel
theorem dX0_init_79 : decode cX0_init 79 = .ok (.newarray .int, 2) := by decide +kernel
theorem dX0_init_81 : decode cX0_init 81 = .ok (.putfield 39, 3) := by decide +kernel
theorem dX0_init_84 : decode cX0_init 84 = .ok (.aload_n 0, 1) := by decide +kernel
theorem dX0_init_85 : decode cX0_init 85 = .ok (.bipush 60, 2) := by decide +kernel
theorem dX0_init_87 : decode cX0_init 87 = .ok (.newarray .int, 2) := by decide +kernel
theorem dX0_init_89 : decode cX0_init 89 = .ok (.putfield 42, 3) := by decide +kernel
theorem dX0_init_92 : decode cX0_init 92 = .ok (.aload_n 0, 1) := by decide +kernel
theorem dX0_init_93 : decode cX0_init 93 = .ok (.bipush 20, 2) := by decide +kernel
theorem dX0_init_95 : decode cX0_init 95 = .ok (.newarray .int, 2) := by decide +kernel
theorem dX0_init_97 : decode cX0_init 97 = .ok (.putfield 45, 3) := by decide +kernel
theorem dX0_init_100 : decode cX0_init 100 = .ok (.aload_n 0, 1) := by decide +kernel
theorem dX0_init_101 : decode cX0_init 101 = .ok (.bipush 20, 2) := by decide +kernel
theorem dX0_init_103 : decode cX0_init 103 = .ok (.newarray .int, 2) := by decide +kernel
theorem dX0_init_105 : decode cX0_init 105 = .ok (.putfield 48, 3) := by decide +kernel
theorem dX0_init_108 : decode cX0_init 108 = .ok (.aload_n 0, 1) := by decide +kernel
theorem dX0_init_109 : decode cX0_init 109 = .ok (.bipush 20, 2) := by decide +kernel
theorem dX0_init_111 : decode cX0_init 111 = .ok (.newarray .int, 2) := by decide +kernel
theorem dX0_init_113 : decode cX0_init 113 = .ok (.putfield 51, 3) := by decide +kernel
theorem dX0_init_116 : decode cX0_init 116 = .ok (.aload_n 0, 1) := by decide +kernel
theorem dX0_init_117 : decode cX0_init 117 = .ok (.bipush 20, 2) := by decide +kernel
theorem dX0_init_119 : decode cX0_init 119 = .ok (.newarray .int, 2) := by decide +kernel
theorem dX0_init_121 : decode cX0_init 121 = .ok (.putfield 54, 3) := by decide +kernel
theorem dX0_init_124 : decode cX0_init 124 = .ok (.return_, 1) := by decide +kernel
theorem dX0_clear_0 : decode cX0_clear 0 = .ok (.aload_n 0, 1) := by decide +kernel
theorem dX0_clear_1 : decode cX0_clear 1 = .ok (.iconst 0, 1) := by decide +kernel
theorem dX0_clear_2 : decode cX0_clear 2 = .ok (.putfield 57, 3) := by decide +kernel
theorem dX0_clear_5 : decode cX0_clear 5 = .ok (.aload_n 0, 1) := by decide +kernel
theorem dX0_clear_6 : decode cX0_clear 6 = .ok (.iconst 0, 1) := by decide +kernel
theorem dX0_clear_7 : decode cX0_clear 7 = .ok (.putfield 61, 3) := by decide +kernel
theorem dX0_clear_10 : decode cX0_clear 10 = .ok (.aload_n 0, 1) := by decide +kernel
theorem dX0_clear_11 : decode cX0_clear 11 = .ok (.iconst 0, 1) := by decide +kernel
theorem dX0_clear_12 : decode cX0_clear 12 = .ok (.putfield 64, 3) := by decide +kernel
theorem dX0_clear_15 : decode cX0_clear 15 = .ok (.aload_n 0, 1) := by decide +kernel
theorem dX0_clear_16 : decode cX0_clear 16 = .ok (.iconst 0, 1) := by decide +kernel
theorem dX0_clear_17 : decode cX0_clear 17 = .ok (.putfield 67, 3) := by decide +kernel
theorem dX0_clear_20 : decode cX0_clear 20 = .ok (.aload_n 0, 1) := by decide +kernel
theorem dX0_clear_21 : decode cX0_clear 21 = .ok (.getfield 18, 3) := by decide +kernel
theorem dX0_clear_24 : decode cX0_clear 24 = .ok (.iconst 0, 1) := by decide +kernel
theorem dX0_clear_25 : decode cX0_clear 25 = .ok (.invokestatic 70, 3) := by decide +kernel
theorem dX0_clear_28 : decode cX0_clear 28 = .ok (.return_, 1) := by decide +kernel
theorem dX0_addStatement_0 : decode cX0_addStatement 0 = .ok (.aload_n 0, 1) := by decide +kernel
theorem dX0_addStatement_1 : decode cX0_addStatement 1 = .ok (.getfield 61, 3) := by decide +kernel
theorem dX0_addStatement_4 : decode cX0_addStatement 4 = .ok (.bipush 20, 2) := by decide +kernel
theorem dX0_addStatement_6 : decode cX0_addStatement 6 = .ok (.if_icmp .ge 26, 3) := by decide +kernel
theorem dX0_addStatement_9 : decode cX0_addStatement 9 = .ok (.aload_n 0, 1) := by decide +kernel
theorem dX0_addStatement_10 : decode cX0_addStatement 10 = .ok (.getfield 45, 3) := by decide +kernel
theorem dX0_addStatement_13 : decode cX0_addStatement 13 = .ok (.aload_n 0, 1) := by decide +kernel
theorem dX0_addStatement_14 : decode cX0_addStatement 14 = .ok (.getfield 61, 3) := by decide +kernel
theorem dX0_addStatement_17 : decode cX0_addStatement 17 = .ok (.aload_n 0, 1) := by decide +kernel
theorem dX0_addStatement_18 : decode cX0_addStatement 18 = .ok (.getfield 57, 3) := by decide +kernel
theorem dX0_addStatement_21 : decode cX0_addStatement 21 = .ok (.iastore, 1) := by decide +kernel
theorem dX0_addStatement_22 : decode cX0_addStatement 22 = .ok (.aload_n 0, 1) := by decide +kernel
theorem dX0_addStatement_23 : decode cX0_addStatement 23 = .ok (.dup, 1) := by decide +kernel
theorem dX0_addStatement_24 : decode cX0_addStatement 24 = .ok (.getfield 61, 3) := by decide +kernel
theorem dX0_addStatement_27 : decode cX0_addStatement 27 = .ok (.iconst 1, 1) := by decide +kernel
theorem dX0_addStatement_28 : decode cX0_addStatement 28 = .ok (.iadd, 1) := by decide +kernel
theorem dX0_addStatement_29 : decode cX0_addStatement 29 = .ok (.putfield 61, 3) := by decide +kernel
theorem dX0_addStatement_32 : decode cX0_addStatement 32 = .ok (.aload_n 0, 1) := by decide +kernel
theorem dX0_addStatement_33 : decode cX0_addStatement 33 = .ok (.getfield 57, 3) := by decide +kernel
theorem dX0_addStatement_36 : decode cX0_addStatement 36 = .ok (.bipush 60, 2) := by decide +kernel
theorem dX0_addStatement_38 : decode cX0_addStatement 38 = .ok (.if_icmp .ge 24, 3) := by decide +kernel
theorem dX0_addStatement_41 : decode cX0_addStatement 41 = .ok (.aload_n 0, 1) := by decide +kernel
theorem dX0_addStatement_42 : decode cX0_addStatement 42 = .ok (.getfield 21, 3) := by decide +kernel
theorem dX0_addStatement_45 : decode cX0_addStatement 45 = .ok (.aload_n 0, 1) := by decide +kernel
theorem dX0_addStatement_46 : decode cX0_addStatement 46 = .ok (.getfield 57, 3) := by decide +kernel
theorem dX0_addStatement_49 : decode cX0_addStatement 49 = .ok (.iload_n 3, 1) := by decide +kernel
theorem dX0_addStatement_50 : decode cX0_addStatement 50 = .ok (.iastore, 1) := by decide +kernel
theorem dX0_addStatement_51 : decode cX0_addStatement 51 = .ok (.aload_n 0, 1) := by decide +kernel
theorem dX0_addStatement_52 : decode cX0_addStatement 52 = .ok (.getfield 42, 3) := by decide +kernel
theorem dX0_addStatement_55 : decode cX0_addStatement 55 = .ok (.aload_n 0, 1) := by decide +kernel
theorem dX0_addStatement_56 : decode cX0_addStatement 56 = .ok (.getfield 57, 3) := by decide +kernel
theorem dX0_addStatement_59 : decode cX0_addStatement 59 = .ok (.iload 4, 2) := by decide +kernel
theorem dX0_addStatement_61 : decode cX0_addStatement 61 = .ok (.iastore, 1) := by decide +kernel
theorem dX0_addStatement_62 : decode cX0_addStatement 62 = .ok (.aload_n 0, 1) := by decide +kernel
theorem dX0_addStatement_63 : decode cX0_addStatement 63 = .ok (.aload_n 0, 1) := by decide +kernel
theorem dX0_addStatement_64 : decode cX0_addStatement 64 = .ok (.getfield 57, 3) := by decide +kernel
theorem dX0_addStatement_67 : decode cX0_addStatement 67 = .ok (.iload_n 1, 1) := by decide +kernel
theorem dX0_addStatement_68 : decode cX0_addStatement 68 = .ok (.iload_n 2, 1) := by decide +kernel
theorem dX0_addStatement_69 : decode cX0_addStatement 69 = .ok (.invokevirtual 76, 3) := by decide +kernel
theorem dX0_addStatement_72 : decode cX0_addStatement 72 = .ok (.return_, 1) := by decide +kernel
theorem dX0_insert_0 : decode cX0_insert 0 = .ok (.aload_n 0, 1) := by decide +kernel
theorem dX0_insert_1 : decode cX0_insert 1 = .ok (.getfield 57, 3) := by decide +kernel
theorem dX0_insert_4 : decode cX0_insert 4 = .ok (.bipush 60, 2) := by decide +kernel
theorem dX0_insert_6 : decode cX0_insert 6 = .ok (.if_icmp .ge 71, 3) := by decide +kernel
theorem dX0_insert_9 : decode cX0_insert 9 = .ok (.iload_n 1, 1) := by decide +kernel
theorem dX0_insert_10 : decode cX0_insert 10 = .ok (.ifCond .lt 67, 3) := by decide +kernel
theorem dX0_insert_13 : decode cX0_insert 13 = .ok (.iload_n 1, 1) := by decide +kernel
theorem dX0_insert_14 : decode cX0_insert 14 = .ok (.aload_n 0, 1) := by decide +kernel
theorem dX0_insert_15 : decode cX0_insert 15 = .ok (.getfield 57, 3) := by decide +kernel
theorem dX0_insert_18 : decode cX0_insert 18 = .ok (.if_icmp .gt 59, 3) := by decide +kernel
theorem dX0_insert_21 : decode cX0_insert 21 = .ok (.aload_n 0, 1) := by decide +kernel
theorem dX0_insert_22 : decode cX0_insert 22 = .ok (.getfield 9, 3) := by decide +kernel
theorem dX0_insert_25 : decode cX0_insert 25 = .ok (.iload_n 1, 1) := by decide +kernel
theorem dX0_insert_26 : decode cX0_insert 26 = .ok (.aload_n 0, 1) := by decide +kernel
theorem dX0_insert_27 : decode cX0_insert 27 = .ok (.getfield 9, 3) := by decide +kernel
theorem dX0_insert_30 : decode cX0_insert 30 = .ok (.iload_n 1, 1) := by decide +kernel
theorem dX0_insert_31 : decode cX0_insert 31 = .ok (.iconst 1, 1) := by decide +kernel
theorem dX0_insert_32 : decode cX0_insert 32 = .ok (.iadd, 1) := by decide +kernel
theorem dX0_insert_33 : decode cX0_insert 33 = .ok (.aload_n 0, 1) := by decide +kernel
theorem dX0_insert_34 : decode cX0_insert 34 = .ok (.getfield 57, 3) := by decide +kernel
theorem dX0_insert_37 : decode cX0_insert 37 = .ok (.iload_n 1, 1) := by decide +kernel
theorem dX0_insert_38 : decode cX0_insert 38 = .ok (.isub, 1) := by decide +kernel
theorem dX0_insert_39 : decode cX0_insert 39 = .ok (.invokestatic 80, 3) := by decide +kernel
theorem dX0_insert_42 : decode cX0_insert 42 = .ok (.aload_n 0, 1) := by decide +kernel
theorem dX0_insert_43 : decode cX0_insert 43 = .ok (.getfield 15, 3) := by decide +kernel
theorem dX0_insert_46 : decode cX0_insert 46 = .ok (.iload_n 1, 1) := by decide +kernel
theorem dX0_insert_47 : decode cX0_insert 47 = .ok (.aload_n 0, 1) := by decide +kernel
theorem dX0_insert_48 : decode cX0_insert 48 = .ok (.getfield 15, 3) := by decide +kernel
theorem dX0_insert_51 : decode cX0_insert 51 = .ok (.iload_n 1, 1) := by decide +kernel
theorem dX0_insert_52 : decode cX0_insert 52 = .ok (.iconst 1, 1) := by decide +kernel
theorem dX0_insert_53 : decode cX0_insert 53 = .ok (.iadd, 1) := by decide +kernel
theorem dX0_insert_54 : decode cX0_insert 54 = .ok (.aload_n 0, 1) := by decide +kernel
theorem dX0_insert_55 : decode cX0_insert 55 = .ok (.getfield 57, 3) := by decide +kernel
theorem dX0_insert_58 : decode cX0_insert 58 = .ok (.iload_n 1, 1) := by decide +kernel
theorem dX0_insert_59 : decode cX0_insert 59 = .ok (.isub, 1) := by decide +kernel
theorem dX0_insert_60 : decode cX0_insert 60 = .ok (.invokestatic 80, 3) := by decide +kernel
theorem dX0_insert_63 : decode cX0_insert 63 = .ok (.aload_n 0, 1) := by decide +kernel
theorem dX0_insert_64 : decode cX0_insert 64 = .ok (.getfield 9, 3) := by decide +kernel
theorem dX0_insert_67 : decode cX0_insert 67 = .ok (.iload_n 1, 1) := by decide +kernel
theorem dX0_insert_68 : decode cX0_insert 68 = .ok (.iload_n 2, 1) := by decide +kernel
theorem dX0_insert_69 : decode cX0_insert 69 = .ok (.iastore, 1) := by decide +kernel
theorem dX0_insert_70 : decode cX0_insert 70 = .ok (.aload_n 0, 1) := by decide +kernel
theorem dX0_insert_71 : decode cX0_insert 71 = .ok (.getfield 15, 3) := by decide +kernel
theorem dX0_insert_74 : decode cX0_insert 74 = .ok (.iload_n 1, 1) := by decide +kernel
theorem dX0_insert_75 : decode cX0_insert 75 = .ok (.iload_n 3, 1) := by decide +kernel
theorem dX0_insert_76 : decode cX0_insert 76 = .ok (.iastore, 1) := by decide +kernel
theorem dX0_insert_77 : decode cX0_insert 77 = .ok (.aload_n 0, 1) := by decide +kernel
theorem dX0_insert_78 : decode cX0_insert 78 = .ok (.dup, 1) := by decide +kernel
theorem dX0_insert_79 : decode cX0_insert 79 = .ok (.getfield 57, 3) := by decide +kernel
theorem dX0_insert_82 : decode cX0_insert 82 = .ok (.iconst 1, 1) := by decide +kernel
theorem dX0_insert_83 : decode cX0_insert 83 = .ok (.iadd, 1) := by decide +kernel
theorem dX0_insert_84 : decode cX0_insert 84 = .ok (.putfield 57, 3) := by decide +kernel
theorem dX0_insert_87 : decode cX0_insert 87 = .ok (.iload_n 2, 1) := by decide +kernel
theorem dX0_insert_88 : decode cX0_insert 88 = .ok (.ifCond .eq 8, 3) := by decide +kernel
theorem dX0_insert_91 : decode cX0_insert 91 = .ok (.iload_n 2, 1) := by decide +kernel
theorem dX0_insert_92 : decode cX0_insert 92 = .ok (.iconst 5, 1) := by decide +kernel
theorem dX0_insert_93 : decode cX0_insert 93 = .ok (.if_icmp .ne 19, 3) := by decide +kernel
theorem dX0_insert_96 : decode cX0_insert 96 = .ok (.iload_n 3, 1) := by decide +kernel
theorem dX0_insert_97 : decode cX0_insert 97 = .ok (.ifCond .lt 15, 3) := by decide +kernel
theorem dX0_insert_100 : decode cX0_insert 100 = .ok (.aload_n 0, 1) := by decide +kernel
theorem dX0_insert_101 : decode cX0_insert 101 = .ok (.dup, 1) := by decide +kernel
theorem dX0_insert_102 : decode cX0_insert 102 = .ok (.getfield 67, 3) := by decide +kernel
theorem dX0_insert_105 : decode cX0_insert 105 = .ok (.iconst 1, 1) := by decide +kernel
theorem dX0_insert_106 : decode cX0_insert 106 = .ok (.iload_n 3, 1) := by decide +kernel
theorem dX0_insert_107 : decode cX0_insert 107 = .ok (.ishl, 1) := by decide +kernel
theorem dX0_insert_108 : decode cX0_insert 108 = .ok (.ior, 1) := by decide +kernel
theorem dX0_insert_109 : decode cX0_insert 109 = .ok (.putfield 67, 3) := by decide +kernel
theorem dX0_insert_112 : decode cX0_insert 112 = .ok (.return_, 1) := by decide +kernel
theorem dX0_link_0 : decode cX0_link 0 = .ok (.iconst 0, 1) := by decide +kernel
theorem dX0_link_1 : decode cX0_link 1 = .ok (.istore_n 1, 1) := by decide +kernel
theorem dX0_link_2 : decode cX0_link 2 = .ok (.iload_n 1, 1) := by decide +kernel
theorem dX0_link_3 : decode cX0_link 3 = .ok (.aload_n 0, 1) := by decide +kernel
theorem dX0_link_4 : decode cX0_link 4 = .ok (.getfield 61, 3) := by decide +kernel
theorem dX0_link_7 : decode cX0_link 7 = .ok (.if_icmp .ge 66, 3) := by decide +kernel
theorem dX0_link_10 : decode cX0_link 10 = .ok (.aload_n 0, 1) := by decide +kernel
theorem dX0_link_11 : decode cX0_link 11 = .ok (.getfield 45, 3) := by decide +kernel
theorem dX0_link_14 : decode cX0_link 14 = .ok (.iload_n 1, 1) := by decide +kernel
theorem dX0_link_15 : decode cX0_link 15 = .ok (.iaload, 1) := by decide +kernel
theorem dX0_link_16 : decode cX0_link 16 = .ok (.istore_n 2, 1) := by decide +kernel
theorem dX0_link_17 : decode cX0_link 17 = .ok (.aload_n 0, 1) := by decide +kernel
theorem dX0_link_18 : decode cX0_link 18 = .ok (.getfield 30, 3) := by decide +kernel
theorem dX0_link_21 : decode cX0_link 21 = .ok (.iload_n 2, 1) := by decide +kernel
theorem dX0_link_22 : decode cX0_link 22 = .ok (.iload_n 1, 1) := by decide +kernel
theorem dX0_link_23 : decode cX0_link 23 = .ok (.iconst 1, 1) := by decide +kernel
theorem dX0_link_24 : decode cX0_link 24 = .ok (.iadd, 1) := by decide +kernel
theorem dX0_link_25 : decode cX0_link 25 = .ok (.aload_n 0, 1) := by decide +kernel
theorem dX0_link_26 : decode cX0_link 26 = .ok (.getfield 61, 3) := by decide +kernel
theorem dX0_link_29 : decode cX0_link 29 = .ok (.if_icmp .ge 14, 3) := by decide +kernel
theorem dX0_link_32 : decode cX0_link 32 = .ok (.aload_n 0, 1) := by decide +kernel
theorem dX0_link_33 : decode cX0_link 33 = .ok (.getfield 45, 3) := by decide +kernel
theorem dX0_link_36 : decode cX0_link 36 = .ok (.iload_n 1, 1) := by decide +kernel
theorem dX0_link_37 : decode cX0_link 37 = .ok (.iconst 1, 1) := by decide +kernel
theorem dX0_link_38 : decode cX0_link 38 = .ok (.iadd, 1) := by decide +kernel
theorem dX0_link_39 : decode cX0_link 39 = .ok (.iaload, 1) := by decide +kernel
theorem dX0_link_40 : decode cX0_link 40 = .ok (.goto 7, 3) := by decide +kernel
theorem dX0_link_43 : decode cX0_link 43 = .ok (.aload_n 0, 1) := by decide +kernel
theorem dX0_link_44 : decode cX0_link 44 = .ok (.getfield 57, 3) := by decide +kernel
theorem dX0_link_47 : decode cX0_link 47 = .ok (.iconst 1, 1) := by decide +kernel
theorem dX0_link_48 : decode cX0_link 48 = .ok (.isub, 1) := by decide +kernel
theorem dX0_link_49 : decode cX0_link 49 = .ok (.iastore, 1) := by decide +kernel
theorem dX0_link_50 : decode cX0_link 50 = .ok (.aload_n 0, 1) := by decide +kernel
theorem dX0_link_51 : decode cX0_link 51 = .ok (.getfield 24, 3) := by decide +kernel
theorem dX0_link_54 : decode cX0_link 54 = .ok (.iload_n 2, 1) := by decide +kernel
theorem dX0_link_55 : decode cX0_link 55 = .ok (.iload_n 2, 1) := by decide +kernel
theorem dX0_link_56 : decode cX0_link 56 = .ok (.iastore, 1) := by decide +kernel
theorem dX0_link_57 : decode cX0_link 57 = .ok (.aload_n 0, 1) := by decide +kernel
theorem dX0_link_58 : decode cX0_link 58 = .ok (.iload_n 2, 1) := by decide +kernel
theorem dX0_link_59 : decode cX0_link 59 = .ok (.invokevirtual 86, 3) := by decide +kernel
theorem dX0_link_62 : decode cX0_link 62 = .ok (.aload_n 0, 1) := by decide +kernel
theorem dX0_link_63 : decode cX0_link 63 = .ok (.iload_n 2, 1) := by decide +kernel
theorem dX0_link_64 : decode cX0_link 64 = .ok (.invokevirtual 90, 3) := by decide +kernel
theorem dX0_link_67 : decode cX0_link 67 = .ok (.iinc 1 1, 3) := by decide +kernel
theorem dX0_link_70 : decode cX0_link 70 = .ok (.goto (-68), 3) := by decide +kernel
theorem dX0_link_73 : decode cX0_link 73 = .ok (.return_, 1) := by decide +kernel
theorem dX0_linkExpression_0 : decode cX0_linkExpression 0 = .ok (.aload_n 0, 1) := by decide +kernel
theorem dX0_linkExpression_1 : decode cX0_linkExpression 1 = .ok (.getfield 30, 3) := by decide +kernel
theorem dX0_linkExpression_4 : decode cX0_linkExpression 4 = .ok (.iload_n 1, 1) := by decide +kernel
theorem dX0_linkExpression_5 : decode cX0_linkExpression 5 = .ok (.iaload, 1) := by decide +kernel
theorem dX0_linkExpression_6 : decode cX0_linkExpression 6 = .ok (.istore_n 2, 1) := by decide +kernel
theorem dX0_linkExpression_7 : decode cX0_linkExpression 7 = .ok (.iload_n 2, 1) := by decide +kernel
theorem dX0_linkExpression_8 : decode cX0_linkExpression 8 = .ok (.iload_n 1, 1) := by decide +kernel
theorem dX0_linkExpression_9 : decode cX0_linkExpression 9 = .ok (.if_icmp .le 124, 3) := by decide +kernel
theorem dX0_linkExpression_12 : decode cX0_linkExpression 12 = .ok (.aload_n 0, 1) := by decide +kernel
theorem dX0_linkExpression_13 : decode cX0_linkExpression 13 = .ok (.getfield 24, 3) := by decide +kernel
theorem dX0_linkExpression_16 : decode cX0_linkExpression 16 = .ok (.iload_n 2, 1) := by decide +kernel
theorem dX0_linkExpression_17 : decode cX0_linkExpression 17 = .ok (.iload_n 1, 1) := by decide +kernel
theorem dX0_linkExpression_18 : decode cX0_linkExpression 18 = .ok (.iastore, 1) := by decide +kernel
theorem dX0_linkExpression_19 : decode cX0_linkExpression 19 = .ok (.aload_n 0, 1) := by decide +kernel
theorem dX0_linkExpression_20 : decode cX0_linkExpression 20 = .ok (.getfield 30, 3) := by decide +kernel
theorem dX0_linkExpression_23 : decode cX0_linkExpression 23 = .ok (.iload_n 2, 1) := by decide +kernel
theorem dX0_linkExpression_24 : decode cX0_linkExpression 24 = .ok (.iload_n 2, 1) := by decide +kernel
theorem dX0_linkExpression_25 : decode cX0_linkExpression 25 = .ok (.iastore, 1) := by decide +kernel
theorem dX0_linkExpression_26 : decode cX0_linkExpression 26 = .ok (.aload_n 0, 1) := by decide +kernel
theorem dX0_linkExpression_27 : decode cX0_linkExpression 27 = .ok (.getfield 9, 3) := by decide +kernel
theorem dX0_linkExpression_30 : decode cX0_linkExpression 30 = .ok (.iload_n 2, 1) := by decide +kernel
theorem dX0_linkExpression_31 : decode cX0_linkExpression 31 = .ok (.iaload, 1) := by decide +kernel
theorem dX0_linkExpression_32 : decode cX0_linkExpression 32 = .ok (.bipush 6, 2) := by decide +kernel
theorem dX0_linkExpression_34 : decode cX0_linkExpression 34 = .ok (.if_icmp .eq 14, 3) := by decide +kernel
theorem dX0_linkExpression_37 : decode cX0_linkExpression 37 = .ok (.aload_n 0, 1) := by decide +kernel
theorem dX0_linkExpression_38 : decode cX0_linkExpression 38 = .ok (.getfield 9, 3) := by decide +kernel
theorem dX0_linkExpression_41 : decode cX0_linkExpression 41 = .ok (.iload_n 2, 1) := by decide +kernel
theorem dX0_linkExpression_42 : decode cX0_linkExpression 42 = .ok (.iaload, 1) := by decide +kernel
theorem dX0_linkExpression_43 : decode cX0_linkExpression 43 = .ok (.bipush 7, 2) := by decide +kernel
theorem dX0_linkExpression_45 : decode cX0_linkExpression 45 = .ok (.if_icmp .ne 26, 3) := by decide +kernel
theorem dX0_linkExpression_48 : decode cX0_linkExpression 48 = .ok (.aload_n 0, 1) := by decide +kernel
theorem dX0_linkExpression_49 : decode cX0_linkExpression 49 = .ok (.getfield 21, 3) := by decide +kernel
theorem dX0_linkExpression_52 : decode cX0_linkExpression 52 = .ok (.iload_n 2, 1) := by decide +kernel
theorem dX0_linkExpression_53 : decode cX0_linkExpression 53 = .ok (.iconst 1, 1) := by decide +kernel
theorem dX0_linkExpression_54 : decode cX0_linkExpression 54 = .ok (.iadd, 1) := by decide +kernel
theorem dX0_linkExpression_55 : decode cX0_linkExpression 55 = .ok (.iload_n 2, 1) := by decide +kernel
theorem dX0_linkExpression_56 : decode cX0_linkExpression 56 = .ok (.iastore, 1) := by decide +kernel
theorem dX0_linkExpression_57 : decode cX0_linkExpression 57 = .ok (.aload_n 0, 1) := by decide +kernel
theorem dX0_linkExpression_58 : decode cX0_linkExpression 58 = .ok (.getfield 30, 3) := by decide +kernel
theorem dX0_linkExpression_61 : decode cX0_linkExpression 61 = .ok (.iload_n 2, 1) := by decide +kernel
theorem dX0_linkExpression_62 : decode cX0_linkExpression 62 = .ok (.aload_n 0, 1) := by decide +kernel
theorem dX0_linkExpression_63 : decode cX0_linkExpression 63 = .ok (.getfield 30, 3) := by decide +kernel
theorem dX0_linkExpression_66 : decode cX0_linkExpression 66 = .ok (.iload_n 2, 1) := by decide +kernel
theorem dX0_linkExpression_67 : decode cX0_linkExpression 67 = .ok (.iconst 1, 1) := by decide +kernel
theorem dX0_linkExpression_68 : decode cX0_linkExpression 68 = .ok (.iadd, 1) := by decide +kernel
theorem dX0_linkExpression_69 : decode cX0_linkExpression 69 = .ok (.iaload, 1) := by decide +kernel
theorem dX0_linkExpression_70 : decode cX0_linkExpression 70 = .ok (.iastore, 1) := by decide +kernel
theorem dX0_linkExpression_71 : decode cX0_linkExpression 71 = .ok (.aload_n 0, 1) := by decide +kernel
theorem dX0_linkExpression_72 : decode cX0_linkExpression 72 = .ok (.getfield 9, 3) := by decide +kernel
theorem dX0_linkExpression_75 : decode cX0_linkExpression 75 = .ok (.iload_n 2, 1) := by decide +kernel
theorem dX0_linkExpression_76 : decode cX0_linkExpression 76 = .ok (.iaload, 1) := by decide +kernel
theorem dX0_linkExpression_77 : decode cX0_linkExpression 77 = .ok (.bipush 7, 2) := by decide +kernel
theorem dX0_linkExpression_79 : decode cX0_linkExpression 79 = .ok (.if_icmp .ne 48, 3) := by decide +kernel
theorem dX0_linkExpression_82 : decode cX0_linkExpression 82 = .ok (.aload_n 0, 1) := by decide +kernel
theorem dX0_linkExpression_83 : decode cX0_linkExpression 83 = .ok (.getfield 27, 3) := by decide +kernel
theorem dX0_linkExpression_86 : decode cX0_linkExpression 86 = .ok (.iload_n 2, 1) := by decide +kernel
theorem dX0_linkExpression_87 : decode cX0_linkExpression 87 = .ok (.aload_n 0, 1) := by decide +kernel
theorem dX0_linkExpression_88 : decode cX0_linkExpression 88 = .ok (.getfield 30, 3) := by decide +kernel
theorem dX0_linkExpression_91 : decode cX0_linkExpression 91 = .ok (.iload_n 2, 1) := by decide +kernel
theorem dX0_linkExpression_92 : decode cX0_linkExpression 92 = .ok (.iconst 1, 1) := by decide +kernel
theorem dX0_linkExpression_93 : decode cX0_linkExpression 93 = .ok (.iadd, 1) := by decide +kernel
theorem dX0_linkExpression_94 : decode cX0_linkExpression 94 = .ok (.iaload, 1) := by decide +kernel
theorem dX0_linkExpression_95 : decode cX0_linkExpression 95 = .ok (.iconst 1, 1) := by decide +kernel
theorem dX0_linkExpression_96 : decode cX0_linkExpression 96 = .ok (.iadd, 1) := by decide +kernel
theorem dX0_linkExpression_97 : decode cX0_linkExpression 97 = .ok (.iastore, 1) := by decide +kernel
theorem dX0_linkExpression_98 : decode cX0_linkExpression 98 = .ok (.aload_n 0, 1) := by decide +kernel
theorem dX0_linkExpression_99 : decode cX0_linkExpression 99 = .ok (.getfield 21, 3) := by decide +kernel
theorem dX0_linkExpression_102 : decode cX0_linkExpression 102 = .ok (.aload_n 0, 1) := by decide +kernel
theorem dX0_linkExpression_103 : decode cX0_linkExpression 103 = .ok (.getfield 27, 3) := by decide +kernel
theorem dX0_linkExpression_106 : decode cX0_linkExpression 106 = .ok (.iload_n 2, 1) := by decide +kernel
theorem dX0_linkExpression_107 : decode cX0_linkExpression 107 = .ok (.iaload, 1) := by decide +kernel
theorem dX0_linkExpression_108 : decode cX0_linkExpression 108 = .ok (.iload_n 2, 1) := by decide +kernel
theorem dX0_linkExpression_109 : decode cX0_linkExpression 109 = .ok (.iastore, 1) := by decide +kernel
theorem dX0_linkExpression_110 : decode cX0_linkExpression 110 = .ok (.aload_n 0, 1) := by decide +kernel
theorem dX0_linkExpression_111 : decode cX0_linkExpression 111 = .ok (.getfield 30, 3) := by decide +kernel
theorem dX0_linkExpression_114 : decode cX0_linkExpression 114 = .ok (.iload_n 2, 1) := by decide +kernel
theorem dX0_linkExpression_115 : decode cX0_linkExpression 115 = .ok (.aload_n 0, 1) := by decide +kernel
theorem dX0_linkExpression_116 : decode cX0_linkExpression 116 = .ok (.getfield 30, 3) := by decide +kernel
theorem dX0_linkExpression_119 : decode cX0_linkExpression 119 = .ok (.aload_n 0, 1) := by decide +kernel
theorem dX0_linkExpression_120 : decode cX0_linkExpression 120 = .ok (.getfield 27, 3) := by decide +kernel
theorem dX0_linkExpression_123 : decode cX0_linkExpression 123 = .ok (.iload_n 2, 1) := by decide +kernel
theorem dX0_linkExpression_124 : decode cX0_linkExpression 124 = .ok (.iaload, 1) := by decide +kernel
theorem dX0_linkExpression_125 : decode cX0_linkExpression 125 = .ok (.iaload, 1) := by decide +kernel
theorem dX0_linkExpression_126 : decode cX0_linkExpression 126 = .ok (.iastore, 1) := by decide +kernel
theorem dX0_linkExpression_127 : decode cX0_linkExpression 127 = .ok (.iinc 2 (-1), 3) := by decide +kernel
theorem dX0_linkExpression_130 : decode cX0_linkExpression 130 = .ok (.goto (-123), 3) := by decide +kernel
theorem dX0_linkExpression_133 : decode cX0_linkExpression 133 = .ok (.aload_n 0, 1) := by decide +kernel
theorem dX0_linkExpression_134 : decode cX0_linkExpression 134 = .ok (.getfield 21, 3) := by decide +kernel
theorem dX0_linkExpression_137 : decode cX0_linkExpression 137 = .ok (.iload_n 1, 1) := by decide +kernel
theorem dX0_linkExpression_138 : decode cX0_linkExpression 138 = .ok (.iconst 1, 1) := by decide +kernel
theorem dX0_linkExpression_139 : decode cX0_linkExpression 139 = .ok (.iadd, 1) := by decide +kernel
theorem dX0_linkExpression_140 : decode cX0_linkExpression 140 = .ok (.iload_n 1, 1) := by decide +kernel
theorem dX0_linkExpression_141 : decode cX0_linkExpression 141 = .ok (.iastore, 1) := by decide +kernel
theorem dX0_linkExpression_142 : decode cX0_linkExpression 142 = .ok (.return_, 1) := by decide +kernel
theorem dX0_linkWays_0 : decode cX0_linkWays 0 = .ok (.aload_n 0, 1) := by decide +kernel
theorem dX0_linkWays_1 : decode cX0_linkWays 1 = .ok (.getfield 21, 3) := by decide +kernel
theorem dX0_linkWays_4 : decode cX0_linkWays 4 = .ok (.iload_n 1, 1) := by decide +kernel
theorem dX0_linkWays_5 : decode cX0_linkWays 5 = .ok (.iaload, 1) := by decide +kernel
theorem dX0_linkWays_6 : decode cX0_linkWays 6 = .ok (.istore_n 2, 1) := by decide +kernel
theorem dX0_linkWays_7 : decode cX0_linkWays 7 = .ok (.aload_n 0, 1) := by decide +kernel
theorem dX0_linkWays_8 : decode cX0_linkWays 8 = .ok (.iload_n 2, 1) := by decide +kernel
theorem dX0_linkWays_9 : decode cX0_linkWays 9 = .ok (.aload_n 0, 1) := by decide +kernel
theorem dX0_linkWays_10 : decode cX0_linkWays 10 = .ok (.getfield 42, 3) := by decide +kernel
theorem dX0_linkWays_13 : decode cX0_linkWays 13 = .ok (.iload_n 1, 1) := by decide +kernel
theorem dX0_linkWays_14 : decode cX0_linkWays 14 = .ok (.iaload, 1) := by decide +kernel
theorem dX0_linkWays_15 : decode cX0_linkWays 15 = .ok (.iload_n 1, 1) := by decide +kernel
theorem dX0_linkWays_16 : decode cX0_linkWays 16 = .ok (.iconst 1, 1) := by decide +kernel
theorem dX0_linkWays_17 : decode cX0_linkWays 17 = .ok (.iadd, 1) := by decide +kernel
theorem dX0_linkWays_18 : decode cX0_linkWays 18 = .ok (.invokevirtual 93, 3) := by decide +kernel
theorem dX0_linkWays_21 : decode cX0_linkWays 21 = .ok (.istore_n 3, 1) := by decide +kernel
theorem dX0_linkWays_22 : decode cX0_linkWays 22 = .ok (.iload_n 3, 1) := by decide +kernel
theorem dX0_linkWays_23 : decode cX0_linkWays 23 = .ok (.iconst (-1), 1) := by decide +kernel
theorem dX0_linkWays_24 : decode cX0_linkWays 24 = .ok (.if_icmp .ne 29, 3) := by decide +kernel
theorem dX0_linkWays_27 : decode cX0_linkWays 27 = .ok (.iload_n 2, 1) := by decide +kernel
theorem dX0_linkWays_28 : decode cX0_linkWays 28 = .ok (.iconst (-1), 1) := by decide +kernel
theorem dX0_linkWays_29 : decode cX0_linkWays 29 = .ok (.if_icmp .eq 24, 3) := by decide +kernel
theorem dX0_linkWays_32 : decode cX0_linkWays 32 = .ok (.aload_n 0, 1) := by decide +kernel
theorem dX0_linkWays_33 : decode cX0_linkWays 33 = .ok (.getfield 9, 3) := by decide +kernel
theorem dX0_linkWays_36 : decode cX0_linkWays 36 = .ok (.iload_n 2, 1) := by decide +kernel
theorem dX0_linkWays_37 : decode cX0_linkWays 37 = .ok (.iaload, 1) := by decide +kernel
theorem dX0_linkWays_38 : decode cX0_linkWays 38 = .ok (.iconst 2, 1) := by decide +kernel
theorem dX0_linkWays_39 : decode cX0_linkWays 39 = .ok (.if_icmp .ne 7, 3) := by decide +kernel
theorem dX0_linkWays_42 : decode cX0_linkWays 42 = .ok (.iload_n 2, 1) := by decide +kernel
theorem dX0_linkWays_43 : decode cX0_linkWays 43 = .ok (.goto 9, 3) := by decide +kernel
theorem dX0_linkWays_46 : decode cX0_linkWays 46 = .ok (.aload_n 0, 1) := by decide +kernel
theorem dX0_linkWays_47 : decode cX0_linkWays 47 = .ok (.getfield 33, 3) := by decide +kernel
theorem dX0_linkWays_50 : decode cX0_linkWays 50 = .ok (.iload_n 2, 1) := by decide +kernel
theorem dX0_linkWays_51 : decode cX0_linkWays 51 = .ok (.iaload, 1) := by decide +kernel
theorem dX0_linkWays_52 : decode cX0_linkWays 52 = .ok (.istore_n 3, 1) := by decide +kernel
theorem dX0_linkWays_53 : decode cX0_linkWays 53 = .ok (.aload_n 0, 1) := by decide +kernel
theorem dX0_linkWays_54 : decode cX0_linkWays 54 = .ok (.getfield 33, 3) := by decide +kernel
theorem dX0_linkWays_57 : decode cX0_linkWays 57 = .ok (.iload_n 1, 1) := by decide +kernel
theorem dX0_linkWays_58 : decode cX0_linkWays 58 = .ok (.iload_n 3, 1) := by decide +kernel
theorem dX0_linkWays_59 : decode cX0_linkWays 59 = .ok (.iastore, 1) := by decide +kernel
theorem dX0_linkWays_60 : decode cX0_linkWays 60 = .ok (.aload_n 0, 1) := by decide +kernel
theorem dX0_linkWays_61 : decode cX0_linkWays 61 = .ok (.iload_n 1, 1) := by decide +kernel
theorem dX0_linkWays_62 : decode cX0_linkWays 62 = .ok (.iconst 0, 1) := by decide +kernel
theorem dX0_linkWays_63 : decode cX0_linkWays 63 = .ok (.iload_n 1, 1) := by decide +kernel
theorem dX0_linkWays_64 : decode cX0_linkWays 64 = .ok (.iconst 1, 1) := by decide +kernel
theorem dX0_linkWays_65 : decode cX0_linkWays 65 = .ok (.iadd, 1) := by decide +kernel
theorem dX0_linkWays_66 : decode cX0_linkWays 66 = .ok (.invokevirtual 93, 3) := by decide +kernel
theorem dX0_linkWays_69 : decode cX0_linkWays 69 = .ok (.istore 4, 2) := by decide +kernel
theorem dX0_linkWays_71 : decode cX0_linkWays 71 = .ok (.aload_n 0, 1) := by decide +kernel
theorem dX0_linkWays_72 : decode cX0_linkWays 72 = .ok (.getfield 36, 3) := by decide +kernel
theorem dX0_linkWays_75 : decode cX0_linkWays 75 = .ok (.iload_n 1, 1) := by decide +kernel
theorem dX0_linkWays_76 : decode cX0_linkWays 76 = .ok (.iload 4, 2) := by decide +kernel
theorem dX0_linkWays_78 : decode cX0_linkWays 78 = .ok (.iconst (-1), 1) := by decide +kernel
theorem dX0_linkWays_79 : decode cX0_linkWays 79 = .ok (.if_icmp .eq 8, 3) := by decide +kernel
theorem dX0_linkWays_82 : decode cX0_linkWays 82 = .ok (.iload 4, 2) := by decide +kernel
theorem dX0_linkWays_84 : decode cX0_linkWays 84 = .ok (.goto 18, 3) := by decide +kernel
theorem dX0_linkWays_87 : decode cX0_linkWays 87 = .ok (.aload_n 0, 1) := by decide +kernel
theorem dX0_linkWays_88 : decode cX0_linkWays 88 = .ok (.getfield 9, 3) := by decide +kernel
theorem dX0_linkWays_91 : decode cX0_linkWays 91 = .ok (.iload_n 1, 1) := by decide +kernel
theorem dX0_linkWays_92 : decode cX0_linkWays 92 = .ok (.iaload, 1) := by decide +kernel
theorem dX0_linkWays_93 : decode cX0_linkWays 93 = .ok (.iconst 2, 1) := by decide +kernel
theorem dX0_linkWays_94 : decode cX0_linkWays 94 = .ok (.if_icmp .ne 7, 3) := by decide +kernel
theorem dX0_linkWays_97 : decode cX0_linkWays 97 = .ok (.iload_n 1, 1) := by decide +kernel
theorem dX0_linkWays_98 : decode cX0_linkWays 98 = .ok (.goto 4, 3) := by decide +kernel
theorem dX0_linkWays_101 : decode cX0_linkWays 101 = .ok (.iload_n 3, 1) := by decide +kernel
theorem dX0_linkWays_102 : decode cX0_linkWays 102 = .ok (.iastore, 1) := by decide +kernel
theorem dX0_linkWays_103 : decode cX0_linkWays 103 = .ok (.aload_n 0, 1) := by decide +kernel
theorem dX0_linkWays_104 : decode cX0_linkWays 104 = .ok (.iload_n 1, 1) := by decide +kernel
theorem dX0_linkWays_105 : decode cX0_linkWays 105 = .ok (.iconst 1, 1) := by decide +kernel
theorem dX0_linkWays_106 : decode cX0_linkWays 106 = .ok (.iload_n 1, 1) := by decide +kernel
theorem dX0_linkWays_107 : decode cX0_linkWays 107 = .ok (.iconst 1, 1) := by decide +kernel
theorem dX0_linkWays_108 : decode cX0_linkWays 108 = .ok (.iadd, 1) := by decide +kernel
theorem dX0_linkWays_109 : decode cX0_linkWays 109 = .ok (.invokevirtual 93, 3) := by decide +kernel
theorem dX0_linkWays_112 : decode cX0_linkWays 112 = .ok (.istore 5, 2) := by decide +kernel
theorem dX0_linkWays_114 : decode cX0_linkWays 114 = .ok (.aload_n 0, 1) := by decide +kernel
theorem dX0_linkWays_115 : decode cX0_linkWays 115 = .ok (.getfield 39, 3) := by decide +kernel
theorem dX0_linkWays_118 : decode cX0_linkWays 118 = .ok (.iload_n 1, 1) := by decide +kernel
theorem dX0_linkWays_119 : decode cX0_linkWays 119 = .ok (.iload 5, 2) := by decide +kernel
theorem dX0_linkWays_121 : decode cX0_linkWays 121 = .ok (.iconst (-1), 1) := by decide +kernel
theorem dX0_linkWays_122 : decode cX0_linkWays 122 = .ok (.if_icmp .eq 8, 3) := by decide +kernel
theorem dX0_linkWays_125 : decode cX0_linkWays 125 = .ok (.iload 5, 2) := by decide +kernel
theorem dX0_linkWays_127 : decode cX0_linkWays 127 = .ok (.goto 4, 3) := by decide +kernel
theorem dX0_linkWays_130 : decode cX0_linkWays 130 = .ok (.iload_n 3, 1) := by decide +kernel
theorem dX0_linkWays_131 : decode cX0_linkWays 131 = .ok (.iastore, 1) := by decide +kernel
theorem dX0_linkWays_132 : decode cX0_linkWays 132 = .ok (.return_, 1) := by decide +kernel
theorem dX0_firstIn_0 : decode cX0_firstIn 0 = .ok (.iconst 0, 1) := by decide +kernel
theorem dX0_firstIn_1 : decode cX0_firstIn 1 = .ok (.istore 4, 2) := by decide +kernel
theorem dX0_firstIn_3 : decode cX0_firstIn 3 = .ok (.iload 4, 2) := by decide +kernel
theorem dX0_firstIn_5 : decode cX0_firstIn 5 = .ok (.aload_n 0, 1) := by decide +kernel
theorem dX0_firstIn_6 : decode cX0_firstIn 6 = .ok (.getfield 61, 3) := by decide +kernel
theorem dX0_firstIn_9 : decode cX0_firstIn 9 = .ok (.if_icmp .ge 49, 3) := by decide +kernel
theorem dX0_firstIn_12 : decode cX0_firstIn 12 = .ok (.aload_n 0, 1) := by decide +kernel
theorem dX0_firstIn_13 : decode cX0_firstIn 13 = .ok (.getfield 45, 3) := by decide +kernel
theorem dX0_firstIn_16 : decode cX0_firstIn 16 = .ok (.iload 4, 2) := by decide +kernel
theorem dX0_firstIn_18 : decode cX0_firstIn 18 = .ok (.iaload, 1) := by decide +kernel
theorem dX0_firstIn_19 : decode cX0_firstIn 19 = .ok (.istore 5, 2) := by decide +kernel
theorem dX0_firstIn_21 : decode cX0_firstIn 21 = .ok (.iload 5, 2) := by decide +kernel
theorem dX0_firstIn_23 : decode cX0_firstIn 23 = .ok (.iload_n 3, 1) := by decide +kernel
theorem dX0_firstIn_24 : decode cX0_firstIn 24 = .ok (.if_icmp .lt 28, 3) := by decide +kernel
theorem dX0_firstIn_27 : decode cX0_firstIn 27 = .ok (.aload_n 0, 1) := by decide +kernel
theorem dX0_firstIn_28 : decode cX0_firstIn 28 = .ok (.getfield 21, 3) := by decide +kernel
theorem dX0_firstIn_31 : decode cX0_firstIn 31 = .ok (.iload 5, 2) := by decide +kernel
theorem dX0_firstIn_33 : decode cX0_firstIn 33 = .ok (.iaload, 1) := by decide +kernel
theorem dX0_firstIn_34 : decode cX0_firstIn 34 = .ok (.iload_n 1, 1) := by decide +kernel
theorem dX0_firstIn_35 : decode cX0_firstIn 35 = .ok (.if_icmp .ne 17, 3) := by decide +kernel
theorem dX0_firstIn_38 : decode cX0_firstIn 38 = .ok (.aload_n 0, 1) := by decide +kernel
theorem dX0_firstIn_39 : decode cX0_firstIn 39 = .ok (.getfield 42, 3) := by decide +kernel
theorem dX0_firstIn_42 : decode cX0_firstIn 42 = .ok (.iload 5, 2) := by decide +kernel
theorem dX0_firstIn_44 : decode cX0_firstIn 44 = .ok (.iaload, 1) := by decide +kernel
theorem dX0_firstIn_45 : decode cX0_firstIn 45 = .ok (.iload_n 2, 1) := by decide +kernel
theorem dX0_firstIn_46 : decode cX0_firstIn 46 = .ok (.if_icmp .ne 6, 3) := by decide +kernel
theorem dX0_firstIn_49 : decode cX0_firstIn 49 = .ok (.iload 5, 2) := by decide +kernel
theorem dX0_firstIn_51 : decode cX0_firstIn 51 = .ok (.ireturn, 1) := by decide +kernel
theorem dX0_firstIn_52 : decode cX0_firstIn 52 = .ok (.iinc 4 1, 3) := by decide +kernel
theorem dX0_firstIn_55 : decode cX0_firstIn 55 = .ok (.goto (-52), 3) := by decide +kernel
theorem dX0_firstIn_58 : decode cX0_firstIn 58 = .ok (.iconst (-1), 1) := by decide +kernel
theorem dX0_firstIn_59 : decode cX0_firstIn 59 = .ok (.ireturn, 1) := by decide +kernel
theorem dX0_hasNode_0 : decode cX0_hasNode 0 = .ok (.iload_n 1, 1) := by decide +kernel
theorem dX0_hasNode_1 : decode cX0_hasNode 1 = .ok (.ifCond .lt 15, 3) := by decide +kernel
theorem dX0_hasNode_4 : decode cX0_hasNode 4 = .ok (.iload_n 1, 1) := by decide +kernel
theorem dX0_hasNode_5 : decode cX0_hasNode 5 = .ok (.aload_n 0, 1) := by decide +kernel
theorem dX0_hasNode_6 : decode cX0_hasNode 6 = .ok (.getfield 57, 3) := by decide +kernel
theorem dX0_hasNode_9 : decode cX0_hasNode 9 = .ok (.if_icmp .ge 7, 3) := by decide +kernel
theorem dX0_hasNode_12 : decode cX0_hasNode 12 = .ok (.iconst 1, 1) := by decide +kernel
theorem dX0_hasNode_13 : decode cX0_hasNode 13 = .ok (.goto 4, 3) := by decide +kernel
theorem dX0_hasNode_16 : decode cX0_hasNode 16 = .ok (.iconst 0, 1) := by decide +kernel
theorem dX0_hasNode_17 : decode cX0_hasNode 17 = .ok (.ireturn, 1) := by decide +kernel
theorem dX0_hasStatement_0 : decode cX0_hasStatement 0 = .ok (.aload_n 0, 1) := by decide +kernel
theorem dX0_hasStatement_1 : decode cX0_hasStatement 1 = .ok (.iload_n 1, 1) := by decide +kernel
theorem dX0_hasStatement_2 : decode cX0_hasStatement 2 = .ok (.invokevirtual 97, 3) := by decide +kernel
theorem dX0_hasStatement_5 : decode cX0_hasStatement 5 = .ok (.ifCond .eq 17, 3) := by decide +kernel
theorem dX0_hasStatement_8 : decode cX0_hasStatement 8 = .ok (.aload_n 0, 1) := by decide +kernel
theorem dX0_hasStatement_9 : decode cX0_hasStatement 9 = .ok (.getfield 9, 3) := by decide +kernel
theorem dX0_hasStatement_12 : decode cX0_hasStatement 12 = .ok (.iload_n 1, 1) := by decide +kernel
theorem dX0_hasStatement_13 : decode cX0_hasStatement 13 = .ok (.iaload, 1) := by decide +kernel
theorem dX0_hasStatement_14 : decode cX0_hasStatement 14 = .ok (.iconst 3, 1) := by decide +kernel
theorem dX0_hasStatement_15 : decode cX0_hasStatement 15 = .ok (.if_icmp .gt 7, 3) := by decide +kernel
theorem dX0_hasStatement_18 : decode cX0_hasStatement 18 = .ok (.iconst 1, 1) := by decide +kernel
theorem dX0_hasStatement_19 : decode cX0_hasStatement 19 = .ok (.goto 4, 3) := by decide +kernel
theorem dX0_hasStatement_22 : decode cX0_hasStatement 22 = .ok (.iconst 0, 1) := by decide +kernel
theorem dX0_hasStatement_23 : decode cX0_hasStatement 23 = .ok (.ireturn, 1) := by decide +kernel
theorem dX0_isCondition_0 : decode cX0_isCondition 0 = .ok (.aload_n 0, 1) := by decide +kernel
theorem dX0_isCondition_1 : decode cX0_isCondition 1 = .ok (.iload_n 1, 1) := by decide +kernel
theorem dX0_isCondition_2 : decode cX0_isCondition 2 = .ok (.invokevirtual 97, 3) := by decide +kernel
theorem dX0_isCondition_5 : decode cX0_isCondition 5 = .ok (.ifCond .eq 27, 3) := by decide +kernel
theorem dX0_isCondition_8 : decode cX0_isCondition 8 = .ok (.aload_n 0, 1) := by decide +kernel
theorem dX0_isCondition_9 : decode cX0_isCondition 9 = .ok (.getfield 9, 3) := by decide +kernel
theorem dX0_isCondition_12 : decode cX0_isCondition 12 = .ok (.iload_n 1, 1) := by decide +kernel
theorem dX0_isCondition_13 : decode cX0_isCondition 13 = .ok (.iaload, 1) := by decide +kernel
theorem dX0_isCondition_14 : decode cX0_isCondition 14 = .ok (.iconst 1, 1) := by decide +kernel
theorem dX0_isCondition_15 : decode cX0_isCondition 15 = .ok (.if_icmp .eq 13, 3) := by decide +kernel
theorem dX0_isCondition_18 : decode cX0_isCondition 18 = .ok (.aload_n 0, 1) := by decide +kernel
theorem dX0_isCondition_19 : decode cX0_isCondition 19 = .ok (.getfield 9, 3) := by decide +kernel
theorem dX0_isCondition_22 : decode cX0_isCondition 22 = .ok (.iload_n 1, 1) := by decide +kernel
theorem dX0_isCondition_23 : decode cX0_isCondition 23 = .ok (.iaload, 1) := by decide +kernel
theorem dX0_isCondition_24 : decode cX0_isCondition 24 = .ok (.iconst 2, 1) := by decide +kernel
theorem dX0_isCondition_25 : decode cX0_isCondition 25 = .ok (.if_icmp .ne 7, 3) := by decide +kernel
theorem dX0_isCondition_28 : decode cX0_isCondition 28 = .ok (.iconst 1, 1) := by decide +kernel
theorem dX0_isCondition_29 : decode cX0_isCondition 29 = .ok (.goto 4, 3) := by decide +kernel
theorem dX0_isCondition_32 : decode cX0_isCondition 32 = .ok (.iconst 0, 1) := by decide +kernel
theorem dX0_isCondition_33 : decode cX0_isCondition 33 = .ok (.ireturn, 1) := by decide +kernel
theorem dX0_hasChange_0 : decode cX0_hasChange 0 = .ok (.aload_n 0, 1) := by decide +kernel
theorem dX0_hasChange_1 : decode cX0_hasChange 1 = .ok (.iload_n 1, 1) := by decide +kernel
theorem dX0_hasChange_2 : decode cX0_hasChange 2 = .ok (.invokevirtual 97, 3) := by decide +kernel
theorem dX0_hasChange_5 : decode cX0_hasChange 5 = .ok (.ifCond .eq 20, 3) := by decide +kernel
theorem dX0_hasChange_8 : decode cX0_hasChange 8 = .ok (.iload_n 2, 1) := by decide +kernel
theorem dX0_hasChange_9 : decode cX0_hasChange 9 = .ok (.ifCond .lt 16, 3) := by decide +kernel
theorem dX0_hasChange_12 : decode cX0_hasChange 12 = .ok (.iload_n 2, 1) := by decide +kernel
theorem dX0_hasChange_13 : decode cX0_hasChange 13 = .ok (.aload_n 0, 1) := by decide +kernel
theorem dX0_hasChange_14 : decode cX0_hasChange 14 = .ok (.iload_n 1, 1) := by decide +kernel
theorem dX0_hasChange_15 : decode cX0_hasChange 15 = .ok (.invokevirtual 101, 3) := by decide +kernel
theorem dX0_hasChange_18 : decode cX0_hasChange 18 = .ok (.if_icmp .ge 7, 3) := by decide +kernel
theorem dX0_hasChange_21 : decode cX0_hasChange 21 = .ok (.iconst 1, 1) := by decide +kernel
theorem dX0_hasChange_22 : decode cX0_hasChange 22 = .ok (.goto 4, 3) := by decide +kernel
theorem dX0_hasChange_25 : decode cX0_hasChange 25 = .ok (.iconst 0, 1) := by decide +kernel
theorem dX0_hasChange_26 : decode cX0_hasChange 26 = .ok (.ireturn, 1) := by decide +kernel
theorem dX0_told_0 : decode cX0_told 0 = .ok (.aload_n 0, 1) := by decide +kernel
theorem dX0_told_1 : decode cX0_told 1 = .ok (.getfield 9, 3) := by decide +kernel
theorem dX0_told_4 : decode cX0_told 4 = .ok (.iload_n 1, 1) := by decide +kernel
theorem dX0_told_5 : decode cX0_told 5 = .ok (.iaload, 1) := by decide +kernel
theorem dX0_told_6 : decode cX0_told 6 = .ok (.tableswitch 53 0 7 #[46, 53, 53, 53, 46, 46, 53, 46], 46) := by decide +kernel
theorem dX0_told_52 : decode cX0_told 52 = .ok (.aload_n 0, 1) := by decide +kernel
theorem dX0_told_53 : decode cX0_told 53 = .ok (.getfield 15, 3) := by decide +kernel
theorem dX0_told_56 : decode cX0_told 56 = .ok (.iload_n 1, 1) := by decide +kernel
theorem dX0_told_57 : decode cX0_told 57 = .ok (.iaload, 1) := by decide +kernel
theorem dX0_told_58 : decode cX0_told 58 = .ok (.ireturn, 1) := by decide +kernel
theorem dX0_told_59 : decode cX0_told 59 = .ok (.bipush (-100), 2) := by decide +kernel
theorem dX0_told_61 : decode cX0_told 61 = .ok (.ireturn, 1) := by decide +kernel
theorem dX0_isGone_0 : decode cX0_isGone 0 = .ok (.aload_n 0, 1) := by decide +kernel
theorem dX0_isGone_1 : decode cX0_isGone 1 = .ok (.getfield 18, 3) := by decide +kernel
theorem dX0_isGone_4 : decode cX0_isGone 4 = .ok (.iload_n 1, 1) := by decide +kernel
theorem dX0_isGone_5 : decode cX0_isGone 5 = .ok (.iaload, 1) := by decide +kernel
theorem dX0_isGone_6 : decode cX0_isGone 6 = .ok (.iconst 1, 1) := by decide +kernel
theorem dX0_isGone_7 : decode cX0_isGone 7 = .ok (.if_icmp .ne 5, 3) := by decide +kernel
theorem dX0_isGone_10 : decode cX0_isGone 10 = .ok (.iconst 1, 1) := by decide +kernel
theorem dX0_isGone_11 : decode cX0_isGone 11 = .ok (.ireturn, 1) := by decide +kernel
theorem dX0_isGone_12 : decode cX0_isGone 12 = .ok (.aload_n 0, 1) := by decide +kernel
theorem dX0_isGone_13 : decode cX0_isGone 13 = .ok (.getfield 24, 3) := by decide +kernel
theorem dX0_isGone_16 : decode cX0_isGone 16 = .ok (.iload_n 1, 1) := by decide +kernel
theorem dX0_isGone_17 : decode cX0_isGone 17 = .ok (.iaload, 1) := by decide +kernel
theorem dX0_isGone_18 : decode cX0_isGone 18 = .ok (.istore_n 2, 1) := by decide +kernel
theorem dX0_isGone_19 : decode cX0_isGone 19 = .ok (.iconst 0, 1) := by decide +kernel
theorem dX0_isGone_20 : decode cX0_isGone 20 = .ok (.istore_n 3, 1) := by decide +kernel
theorem dX0_isGone_21 : decode cX0_isGone 21 = .ok (.iload_n 3, 1) := by decide +kernel
theorem dX0_isGone_22 : decode cX0_isGone 22 = .ok (.bipush 20, 2) := by decide +kernel
theorem dX0_isGone_24 : decode cX0_isGone 24 = .ok (.if_icmp .ge 33, 3) := by decide +kernel
theorem dX0_isGone_27 : decode cX0_isGone 27 = .ok (.iload_n 2, 1) := by decide +kernel
theorem dX0_isGone_28 : decode cX0_isGone 28 = .ok (.iconst (-1), 1) := by decide +kernel
theorem dX0_isGone_29 : decode cX0_isGone 29 = .ok (.if_icmp .eq 28, 3) := by decide +kernel
theorem dX0_isGone_32 : decode cX0_isGone 32 = .ok (.aload_n 0, 1) := by decide +kernel
theorem dX0_isGone_33 : decode cX0_isGone 33 = .ok (.getfield 18, 3) := by decide +kernel
theorem dX0_isGone_36 : decode cX0_isGone 36 = .ok (.iload_n 2, 1) := by decide +kernel
theorem dX0_isGone_37 : decode cX0_isGone 37 = .ok (.iaload, 1) := by decide +kernel
theorem dX0_isGone_38 : decode cX0_isGone 38 = .ok (.iconst 1, 1) := by decide +kernel
theorem dX0_isGone_39 : decode cX0_isGone 39 = .ok (.if_icmp .ne 5, 3) := by decide +kernel
theorem dX0_isGone_42 : decode cX0_isGone 42 = .ok (.iconst 1, 1) := by decide +kernel
theorem dX0_isGone_43 : decode cX0_isGone 43 = .ok (.ireturn, 1) := by decide +kernel
theorem dX0_isGone_44 : decode cX0_isGone 44 = .ok (.aload_n 0, 1) := by decide +kernel
theorem dX0_isGone_45 : decode cX0_isGone 45 = .ok (.getfield 21, 3) := by decide +kernel
theorem dX0_isGone_48 : decode cX0_isGone 48 = .ok (.iload_n 2, 1) := by decide +kernel
theorem dX0_isGone_49 : decode cX0_isGone 49 = .ok (.iaload, 1) := by decide +kernel
theorem dX0_isGone_50 : decode cX0_isGone 50 = .ok (.istore_n 2, 1) := by decide +kernel
theorem dX0_isGone_51 : decode cX0_isGone 51 = .ok (.iinc 3 1, 3) := by decide +kernel
theorem dX0_isGone_54 : decode cX0_isGone 54 = .ok (.goto (-33), 3) := by decide +kernel
theorem dX0_isGone_57 : decode cX0_isGone 57 = .ok (.iconst 0, 1) := by decide +kernel
theorem dX0_isGone_58 : decode cX0_isGone 58 = .ok (.ireturn, 1) := by decide +kernel
theorem dX0_variableCount_0 : decode cX0_variableCount 0 = .ok (.aload_n 0, 1) := by decide +kernel
theorem dX0_variableCount_1 : decode cX0_variableCount 1 = .ok (.getfield 67, 3) := by decide +kernel
theorem dX0_variableCount_4 : decode cX0_variableCount 4 = .ok (.invokestatic 105, 3) := by decide +kernel
theorem dX0_variableCount_7 : decode cX0_variableCount 7 = .ok (.ireturn, 1) := by decide +kernel
theorem dX0_allChanges_0 : decode cX0_allChanges 0 = .ok (.iconst 0, 1) := by decide +kernel
theorem dX0_allChanges_1 : decode cX0_allChanges 1 = .ok (.istore_n 1, 1) := by decide +kernel
theorem dX0_allChanges_2 : decode cX0_allChanges 2 = .ok (.iconst 0, 1) := by decide +kernel
theorem dX0_allChanges_3 : decode cX0_allChanges 3 = .ok (.istore_n 2, 1) := by decide +kernel
theorem dX0_allChanges_4 : decode cX0_allChanges 4 = .ok (.iload_n 2, 1) := by decide +kernel
theorem dX0_allChanges_5 : decode cX0_allChanges 5 = .ok (.aload_n 0, 1) := by decide +kernel
theorem dX0_allChanges_6 : decode cX0_allChanges 6 = .ok (.getfield 57, 3) := by decide +kernel
theorem dX0_allChanges_9 : decode cX0_allChanges 9 = .ok (.if_icmp .ge 17, 3) := by decide +kernel
theorem dX0_allChanges_12 : decode cX0_allChanges 12 = .ok (.iload_n 1, 1) := by decide +kernel
theorem dX0_allChanges_13 : decode cX0_allChanges 13 = .ok (.aload_n 0, 1) := by decide +kernel
theorem dX0_allChanges_14 : decode cX0_allChanges 14 = .ok (.iload_n 2, 1) := by decide +kernel
theorem dX0_allChanges_15 : decode cX0_allChanges 15 = .ok (.invokevirtual 101, 3) := by decide +kernel
theorem dX0_allChanges_18 : decode cX0_allChanges 18 = .ok (.iadd, 1) := by decide +kernel
theorem dX0_allChanges_19 : decode cX0_allChanges 19 = .ok (.istore_n 1, 1) := by decide +kernel
theorem dX0_allChanges_20 : decode cX0_allChanges 20 = .ok (.iinc 2 1, 3) := by decide +kernel
theorem dX0_allChanges_23 : decode cX0_allChanges 23 = .ok (.goto (-19), 3) := by decide +kernel
theorem dX0_allChanges_26 : decode cX0_allChanges 26 = .ok (.iload_n 1, 1) := by decide +kernel
theorem dX0_allChanges_27 : decode cX0_allChanges 27 = .ok (.ireturn, 1) := by decide +kernel
theorem dX0_changeCount_0 : decode cX0_changeCount 0 = .ok (.aload_n 0, 1) := by decide +kernel
theorem dX0_changeCount_1 : decode cX0_changeCount 1 = .ok (.iload_n 1, 1) := by decide +kernel
theorem dX0_changeCount_2 : decode cX0_changeCount 2 = .ok (.invokevirtual 110, 3) := by decide +kernel
theorem dX0_changeCount_5 : decode cX0_changeCount 5 = .ok (.ifCond .eq 5, 3) := by decide +kernel
theorem dX0_changeCount_8 : decode cX0_changeCount 8 = .ok (.iconst 0, 1) := by decide +kernel
theorem dX0_changeCount_9 : decode cX0_changeCount 9 = .ok (.ireturn, 1) := by decide +kernel
theorem dX0_changeCount_10 : decode cX0_changeCount 10 = .ok (.aload_n 0, 1) := by decide +kernel
theorem dX0_changeCount_11 : decode cX0_changeCount 11 = .ok (.getfield 9, 3) := by decide +kernel
theorem dX0_changeCount_14 : decode cX0_changeCount 14 = .ok (.iload_n 1, 1) := by decide +kernel
theorem dX0_changeCount_15 : decode cX0_changeCount 15 = .ok (.iaload, 1) := by decide +kernel
theorem dX0_changeCount_16 : decode cX0_changeCount 16 = .ok (.tableswitch 104 1 7 #[44, 44, 104, 46, 72, 104, 79], 44) := by decide +kernel
theorem dX0_changeCount_60 : decode cX0_changeCount 60 = .ok (.iconst 2, 1) := by decide +kernel
theorem dX0_changeCount_61 : decode cX0_changeCount 61 = .ok (.ireturn, 1) := by decide +kernel
theorem dX0_changeCount_62 : decode cX0_changeCount 62 = .ok (.aload_n 0, 1) := by decide +kernel
theorem dX0_changeCount_63 : decode cX0_changeCount 63 = .ok (.getfield 15, 3) := by decide +kernel
theorem dX0_changeCount_66 : decode cX0_changeCount 66 = .ok (.iload_n 1, 1) := by decide +kernel
theorem dX0_changeCount_67 : decode cX0_changeCount 67 = .ok (.iaload, 1) := by decide +kernel
theorem dX0_changeCount_68 : decode cX0_changeCount 68 = .ok (.iconst (-1), 1) := by decide +kernel
theorem dX0_changeCount_69 : decode cX0_changeCount 69 = .ok (.if_icmp .lt 17, 3) := by decide +kernel
theorem dX0_changeCount_72 : decode cX0_changeCount 72 = .ok (.aload_n 0, 1) := by decide +kernel
theorem dX0_changeCount_73 : decode cX0_changeCount 73 = .ok (.getfield 15, 3) := by decide +kernel
theorem dX0_changeCount_76 : decode cX0_changeCount 76 = .ok (.iload_n 1, 1) := by decide +kernel
theorem dX0_changeCount_77 : decode cX0_changeCount 77 = .ok (.iaload, 1) := by decide +kernel
theorem dX0_changeCount_78 : decode cX0_changeCount 78 = .ok (.iconst 1, 1) := by decide +kernel
theorem dX0_changeCount_79 : decode cX0_changeCount 79 = .ok (.if_icmp .gt 7, 3) := by decide +kernel
theorem dX0_changeCount_82 : decode cX0_changeCount 82 = .ok (.iconst 2, 1) := by decide +kernel
theorem dX0_changeCount_83 : decode cX0_changeCount 83 = .ok (.goto 4, 3) := by decide +kernel
theorem dX0_changeCount_86 : decode cX0_changeCount 86 = .ok (.iconst 3, 1) := by decide +kernel
theorem dX0_changeCount_87 : decode cX0_changeCount 87 = .ok (.ireturn, 1) := by decide +kernel
theorem dX0_changeCount_88 : decode cX0_changeCount 88 = .ok (.aload_n 0, 1) := by decide +kernel
theorem dX0_changeCount_89 : decode cX0_changeCount 89 = .ok (.invokevirtual 113, 3) := by decide +kernel
theorem dX0_changeCount_92 : decode cX0_changeCount 92 = .ok (.iconst 1, 1) := by decide +kernel
theorem dX0_changeCount_93 : decode cX0_changeCount 93 = .ok (.isub, 1) := by decide +kernel
theorem dX0_changeCount_94 : decode cX0_changeCount 94 = .ok (.ireturn, 1) := by decide +kernel
theorem dX0_changeCount_95 : decode cX0_changeCount 95 = .ok (.aload_n 0, 1) := by decide +kernel
theorem dX0_changeCount_96 : decode cX0_changeCount 96 = .ok (.getfield 15, 3) := by decide +kernel
theorem dX0_changeCount_99 : decode cX0_changeCount 99 = .ok (.iload_n 1, 1) := by decide +kernel
theorem dX0_changeCount_100 : decode cX0_changeCount 100 = .ok (.iaload, 1) := by decide +kernel
theorem dX0_changeCount_101 : decode cX0_changeCount 101 = .ok (.ifCond .eq 13, 3) := by decide +kernel
theorem dX0_changeCount_104 : decode cX0_changeCount 104 = .ok (.aload_n 0, 1) := by decide +kernel
theorem dX0_changeCount_105 : decode cX0_changeCount 105 = .ok (.getfield 15, 3) := by decide +kernel
theorem dX0_changeCount_108 : decode cX0_changeCount 108 = .ok (.iload_n 1, 1) := by decide +kernel
theorem dX0_changeCount_109 : decode cX0_changeCount 109 = .ok (.iaload, 1) := by decide +kernel
theorem dX0_changeCount_110 : decode cX0_changeCount 110 = .ok (.iconst 2, 1) := by decide +kernel
theorem dX0_changeCount_111 : decode cX0_changeCount 111 = .ok (.if_icmp .ne 7, 3) := by decide +kernel
theorem dX0_changeCount_114 : decode cX0_changeCount 114 = .ok (.iconst 4, 1) := by decide +kernel
theorem dX0_changeCount_115 : decode cX0_changeCount 115 = .ok (.goto 4, 3) := by decide +kernel
theorem dX0_changeCount_118 : decode cX0_changeCount 118 = .ok (.iconst 5, 1) := by decide +kernel
theorem dX0_changeCount_119 : decode cX0_changeCount 119 = .ok (.ireturn, 1) := by decide +kernel
theorem dX0_changeCount_120 : decode cX0_changeCount 120 = .ok (.iconst 1, 1) := by decide +kernel
theorem dX0_changeCount_121 : decode cX0_changeCount 121 = .ok (.ireturn, 1) := by decide +kernel
theorem dX0_makes_0 : decode cX0_makes 0 = .ok (.aload_n 0, 1) := by decide +kernel
theorem dX0_makes_1 : decode cX0_makes 1 = .ok (.getfield 9, 3) := by decide +kernel
theorem dX0_makes_4 : decode cX0_makes 4 = .ok (.iload_n 1, 1) := by decide +kernel
theorem dX0_makes_5 : decode cX0_makes 5 = .ok (.iaload, 1) := by decide +kernel
theorem dX0_makes_6 : decode cX0_makes 6 = .ok (.tableswitch 86 4 7 #[30, 63, 86, 75], 30) := by decide +kernel
theorem dX0_makes_36 : decode cX0_makes 36 = .ok (.iload_n 2, 1) := by decide +kernel
theorem dX0_makes_37 : decode cX0_makes 37 = .ok (.ifCond .ne 14, 3) := by decide +kernel
theorem dX0_makes_40 : decode cX0_makes 40 = .ok (.aload_n 0, 1) := by decide +kernel
theorem dX0_makes_41 : decode cX0_makes 41 = .ok (.getfield 15, 3) := by decide +kernel
theorem dX0_makes_44 : decode cX0_makes 44 = .ok (.iload_n 1, 1) := by decide +kernel
theorem dX0_makes_45 : decode cX0_makes 45 = .ok (.iaload, 1) := by decide +kernel
theorem dX0_makes_46 : decode cX0_makes 46 = .ok (.iconst 1, 1) := by decide +kernel
theorem dX0_makes_47 : decode cX0_makes 47 = .ok (.iadd, 1) := by decide +kernel
theorem dX0_makes_48 : decode cX0_makes 48 = .ok (.goto 20, 3) := by decide +kernel
theorem dX0_makes_51 : decode cX0_makes 51 = .ok (.iload_n 2, 1) := by decide +kernel
theorem dX0_makes_52 : decode cX0_makes 52 = .ok (.iconst 1, 1) := by decide +kernel
theorem dX0_makes_53 : decode cX0_makes 53 = .ok (.if_icmp .ne 14, 3) := by decide +kernel
theorem dX0_makes_56 : decode cX0_makes 56 = .ok (.aload_n 0, 1) := by decide +kernel
theorem dX0_makes_57 : decode cX0_makes 57 = .ok (.getfield 15, 3) := by decide +kernel
theorem dX0_makes_60 : decode cX0_makes 60 = .ok (.iload_n 1, 1) := by decide +kernel
theorem dX0_makes_61 : decode cX0_makes 61 = .ok (.iaload, 1) := by decide +kernel
theorem dX0_makes_62 : decode cX0_makes 62 = .ok (.iconst 1, 1) := by decide +kernel
theorem dX0_makes_63 : decode cX0_makes 63 = .ok (.isub, 1) := by decide +kernel
theorem dX0_makes_64 : decode cX0_makes 64 = .ok (.goto 4, 3) := by decide +kernel
theorem dX0_makes_67 : decode cX0_makes 67 = .ok (.iconst 0, 1) := by decide +kernel
theorem dX0_makes_68 : decode cX0_makes 68 = .ok (.ireturn, 1) := by decide +kernel
theorem dX0_makes_69 : decode cX0_makes 69 = .ok (.aload_n 0, 1) := by decide +kernel
theorem dX0_makes_70 : decode cX0_makes 70 = .ok (.aload_n 0, 1) := by decide +kernel
theorem dX0_makes_71 : decode cX0_makes 71 = .ok (.getfield 15, 3) := by decide +kernel
theorem dX0_makes_74 : decode cX0_makes 74 = .ok (.iload_n 1, 1) := by decide +kernel
theorem dX0_makes_75 : decode cX0_makes 75 = .ok (.iaload, 1) := by decide +kernel
theorem dX0_makes_76 : decode cX0_makes 76 = .ok (.iload_n 2, 1) := by decide +kernel
theorem dX0_makes_77 : decode cX0_makes 77 = .ok (.invokevirtual 117, 3) := by decide +kernel
theorem dX0_makes_80 : decode cX0_makes 80 = .ok (.ireturn, 1) := by decide +kernel
theorem dX0_makes_81 : decode cX0_makes 81 = .ok (.aload_n 0, 1) := by decide +kernel
theorem dX0_makes_82 : decode cX0_makes 82 = .ok (.getfield 15, 3) := by decide +kernel
theorem dX0_makes_85 : decode cX0_makes 85 = .ok (.iload_n 1, 1) := by decide +kernel
theorem dX0_makes_86 : decode cX0_makes 86 = .ok (.iaload, 1) := by decide +kernel
theorem dX0_makes_87 : decode cX0_makes 87 = .ok (.iload_n 2, 1) := by decide +kernel
theorem dX0_makes_88 : decode cX0_makes 88 = .ok (.invokestatic 121, 3) := by decide +kernel
theorem dX0_makes_91 : decode cX0_makes 91 = .ok (.ireturn, 1) := by decide +kernel
theorem dX0_makes_92 : decode cX0_makes 92 = .ok (.bipush (-100), 2) := by decide +kernel
theorem dX0_makes_94 : decode cX0_makes 94 = .ok (.ireturn, 1) := by decide +kernel
theorem dX0_otherVariable_0 : decode cX0_otherVariable 0 = .ok (.iload_n 2, 1) := by decide +kernel
theorem dX0_otherVariable_1 : decode cX0_otherVariable 1 = .ok (.istore_n 3, 1) := by decide +kernel
theorem dX0_otherVariable_2 : decode cX0_otherVariable 2 = .ok (.iconst 0, 1) := by decide +kernel
theorem dX0_otherVariable_3 : decode cX0_otherVariable 3 = .ok (.istore 4, 2) := by decide +kernel
theorem dX0_otherVariable_5 : decode cX0_otherVariable 5 = .ok (.iload 4, 2) := by decide +kernel
theorem dX0_otherVariable_7 : decode cX0_otherVariable 7 = .ok (.bipush 9, 2) := by decide +kernel
theorem dX0_otherVariable_9 : decode cX0_otherVariable 9 = .ok (.if_icmp .ge 38, 3) := by decide +kernel
theorem dX0_otherVariable_12 : decode cX0_otherVariable 12 = .ok (.iload 4, 2) := by decide +kernel
theorem dX0_otherVariable_14 : decode cX0_otherVariable 14 = .ok (.iload_n 1, 1) := by decide +kernel
theorem dX0_otherVariable_15 : decode cX0_otherVariable 15 = .ok (.if_icmp .eq 26, 3) := by decide +kernel
theorem dX0_otherVariable_18 : decode cX0_otherVariable 18 = .ok (.aload_n 0, 1) := by decide +kernel
theorem dX0_otherVariable_19 : decode cX0_otherVariable 19 = .ok (.getfield 67, 3) := by decide +kernel
theorem dX0_otherVariable_22 : decode cX0_otherVariable 22 = .ok (.iload 4, 2) := by decide +kernel
theorem dX0_otherVariable_24 : decode cX0_otherVariable 24 = .ok (.ishr, 1) := by decide +kernel
theorem dX0_otherVariable_25 : decode cX0_otherVariable 25 = .ok (.iconst 1, 1) := by decide +kernel
theorem dX0_otherVariable_26 : decode cX0_otherVariable 26 = .ok (.iand, 1) := by decide +kernel
theorem dX0_otherVariable_27 : decode cX0_otherVariable 27 = .ok (.iconst 1, 1) := by decide +kernel
theorem dX0_otherVariable_28 : decode cX0_otherVariable 28 = .ok (.if_icmp .ne 13, 3) := by decide +kernel
theorem dX0_otherVariable_31 : decode cX0_otherVariable 31 = .ok (.iload_n 3, 1) := by decide +kernel
theorem dX0_otherVariable_32 : decode cX0_otherVariable 32 = .ok (.ifCond .ne 6, 3) := by decide +kernel
theorem dX0_otherVariable_35 : decode cX0_otherVariable 35 = .ok (.iload 4, 2) := by decide +kernel
theorem dX0_otherVariable_37 : decode cX0_otherVariable 37 = .ok (.ireturn, 1) := by decide +kernel
theorem dX0_otherVariable_38 : decode cX0_otherVariable 38 = .ok (.iinc 3 (-1), 3) := by decide +kernel
theorem dX0_otherVariable_41 : decode cX0_otherVariable 41 = .ok (.iinc 4 1, 3) := by decide +kernel
theorem dX0_otherVariable_44 : decode cX0_otherVariable 44 = .ok (.goto (-39), 3) := by decide +kernel
theorem dX0_otherVariable_47 : decode cX0_otherVariable 47 = .ok (.bipush (-100), 2) := by decide +kernel
theorem dX0_otherVariable_49 : decode cX0_otherVariable 49 = .ok (.ireturn, 1) := by decide +kernel
theorem dX0_otherSign_0 : decode cX0_otherSign 0 = .ok (.iload_n 0, 1) := by decide +kernel
theorem dX0_otherSign_1 : decode cX0_otherSign 1 = .ok (.iconst 5, 1) := by decide +kernel
theorem dX0_otherSign_2 : decode cX0_otherSign 2 = .ok (.if_icmp .lt 7, 3) := by decide +kernel
theorem dX0_otherSign_5 : decode cX0_otherSign 5 = .ok (.iconst 5, 1) := by decide +kernel
theorem dX0_otherSign_6 : decode cX0_otherSign 6 = .ok (.goto 4, 3) := by decide +kernel
theorem dX0_otherSign_9 : decode cX0_otherSign 9 = .ok (.iconst 0, 1) := by decide +kernel
theorem dX0_otherSign_10 : decode cX0_otherSign 10 = .ok (.istore_n 2, 1) := by decide +kernel
theorem dX0_otherSign_11 : decode cX0_otherSign 11 = .ok (.iload_n 0, 1) := by decide +kernel
theorem dX0_otherSign_12 : decode cX0_otherSign 12 = .ok (.iconst 5, 1) := by decide +kernel
theorem dX0_otherSign_13 : decode cX0_otherSign 13 = .ok (.if_icmp .lt 8, 3) := by decide +kernel
theorem dX0_otherSign_16 : decode cX0_otherSign 16 = .ok (.bipush 10, 2) := by decide +kernel
theorem dX0_otherSign_18 : decode cX0_otherSign 18 = .ok (.goto 4, 3) := by decide +kernel
theorem dX0_otherSign_21 : decode cX0_otherSign 21 = .ok (.iconst 4, 1) := by decide +kernel
theorem dX0_otherSign_22 : decode cX0_otherSign 22 = .ok (.istore_n 3, 1) := by decide +kernel
theorem dX0_otherSign_23 : decode cX0_otherSign 23 = .ok (.iload_n 2, 1) := by decide +kernel
theorem dX0_otherSign_24 : decode cX0_otherSign 24 = .ok (.iload_n 1, 1) := by decide +kernel
theorem dX0_otherSign_25 : decode cX0_otherSign 25 = .ok (.iadd, 1) := by decide +kernel
theorem dX0_otherSign_26 : decode cX0_otherSign 26 = .ok (.iload_n 0, 1) := by decide +kernel
theorem dX0_otherSign_27 : decode cX0_otherSign 27 = .ok (.if_icmp .ge 9, 3) := by decide +kernel
theorem dX0_otherSign_30 : decode cX0_otherSign 30 = .ok (.iload_n 2, 1) := by decide +kernel
theorem dX0_otherSign_31 : decode cX0_otherSign 31 = .ok (.iload_n 1, 1) := by decide +kernel
theorem dX0_otherSign_32 : decode cX0_otherSign 32 = .ok (.iadd, 1) := by decide +kernel
theorem dX0_otherSign_33 : decode cX0_otherSign 33 = .ok (.goto 8, 3) := by decide +kernel
theorem dX0_otherSign_36 : decode cX0_otherSign 36 = .ok (.iload_n 2, 1) := by decide +kernel
theorem dX0_otherSign_37 : decode cX0_otherSign 37 = .ok (.iload_n 1, 1) := by decide +kernel
theorem dX0_otherSign_38 : decode cX0_otherSign 38 = .ok (.iadd, 1) := by decide +kernel
theorem dX0_otherSign_39 : decode cX0_otherSign 39 = .ok (.iconst 1, 1) := by decide +kernel
theorem dX0_otherSign_40 : decode cX0_otherSign 40 = .ok (.iadd, 1) := by decide +kernel
theorem dX0_otherSign_41 : decode cX0_otherSign 41 = .ok (.istore 4, 2) := by decide +kernel
theorem dX0_otherSign_43 : decode cX0_otherSign 43 = .ok (.iload 4, 2) := by decide +kernel
theorem dX0_otherSign_45 : decode cX0_otherSign 45 = .ok (.iload_n 3, 1) := by decide +kernel
theorem dX0_otherSign_46 : decode cX0_otherSign 46 = .ok (.if_icmp .gt 8, 3) := by decide +kernel
theorem dX0_otherSign_49 : decode cX0_otherSign 49 = .ok (.iload 4, 2) := by decide +kernel
theorem dX0_otherSign_51 : decode cX0_otherSign 51 = .ok (.goto 5, 3) := by decide +kernel
theorem dX0_otherSign_54 : decode cX0_otherSign 54 = .ok (.bipush (-100), 2) := by decide +kernel
theorem dX0_otherSign_56 : decode cX0_otherSign 56 = .ok (.ireturn, 1) := by decide +kernel
theorem dX0_apply_0 : decode cX0_apply 0 = .ok (.aload_n 0, 1) := by decide +kernel
theorem dX0_apply_1 : decode cX0_apply 1 = .ok (.getfield 9, 3) := by decide +kernel
theorem dX0_apply_4 : decode cX0_apply 4 = .ok (.iload_n 1, 1) := by decide +kernel
theorem dX0_apply_5 : decode cX0_apply 5 = .ok (.iaload, 1) := by decide +kernel
theorem dX0_apply_6 : decode cX0_apply 6 = .ok (.tableswitch 104 1 7 #[71, 71, 104, 42, 42, 104, 57], 42) := by decide +kernel
theorem dX0_apply_48 : decode cX0_apply 48 = .ok (.aload_n 0, 1) := by decide +kernel
theorem dX0_apply_49 : decode cX0_apply 49 = .ok (.getfield 15, 3) := by decide +kernel
theorem dX0_apply_52 : decode cX0_apply 52 = .ok (.iload_n 1, 1) := by decide +kernel
theorem dX0_apply_53 : decode cX0_apply 53 = .ok (.aload_n 0, 1) := by decide +kernel
theorem dX0_apply_54 : decode cX0_apply 54 = .ok (.iload_n 1, 1) := by decide +kernel
theorem dX0_apply_55 : decode cX0_apply 55 = .ok (.iload_n 2, 1) := by decide +kernel
theorem dX0_apply_56 : decode cX0_apply 56 = .ok (.invokevirtual 124, 3) := by decide +kernel
theorem dX0_apply_59 : decode cX0_apply 59 = .ok (.iastore, 1) := by decide +kernel
theorem dX0_apply_60 : decode cX0_apply 60 = .ok (.goto 57, 3) := by decide +kernel
theorem dX0_apply_63 : decode cX0_apply 63 = .ok (.aload_n 0, 1) := by decide +kernel
theorem dX0_apply_64 : decode cX0_apply 64 = .ok (.iload_n 1, 1) := by decide +kernel
theorem dX0_apply_65 : decode cX0_apply 65 = .ok (.aload_n 0, 1) := by decide +kernel
theorem dX0_apply_66 : decode cX0_apply 66 = .ok (.iload_n 1, 1) := by decide +kernel
theorem dX0_apply_67 : decode cX0_apply 67 = .ok (.iload_n 2, 1) := by decide +kernel
theorem dX0_apply_68 : decode cX0_apply 68 = .ok (.invokevirtual 124, 3) := by decide +kernel
theorem dX0_apply_71 : decode cX0_apply 71 = .ok (.invokevirtual 127, 3) := by decide +kernel
theorem dX0_apply_74 : decode cX0_apply 74 = .ok (.goto 43, 3) := by decide +kernel
theorem dX0_apply_77 : decode cX0_apply 77 = .ok (.aload_n 0, 1) := by decide +kernel
theorem dX0_apply_78 : decode cX0_apply 78 = .ok (.getfield 18, 3) := by decide +kernel
theorem dX0_apply_81 : decode cX0_apply 81 = .ok (.iload_n 1, 1) := by decide +kernel
theorem dX0_apply_82 : decode cX0_apply 82 = .ok (.iload_n 2, 1) := by decide +kernel
theorem dX0_apply_83 : decode cX0_apply 83 = .ok (.iconst 1, 1) := by decide +kernel
theorem dX0_apply_84 : decode cX0_apply 84 = .ok (.if_icmp .ne 7, 3) := by decide +kernel
theorem dX0_apply_87 : decode cX0_apply 87 = .ok (.iconst 1, 1) := by decide +kernel
theorem dX0_apply_88 : decode cX0_apply 88 = .ok (.goto 18, 3) := by decide +kernel
theorem dX0_apply_91 : decode cX0_apply 91 = .ok (.aload_n 0, 1) := by decide +kernel
theorem dX0_apply_92 : decode cX0_apply 92 = .ok (.getfield 18, 3) := by decide +kernel
theorem dX0_apply_95 : decode cX0_apply 95 = .ok (.iload_n 1, 1) := by decide +kernel
theorem dX0_apply_96 : decode cX0_apply 96 = .ok (.iaload, 1) := by decide +kernel
theorem dX0_apply_97 : decode cX0_apply 97 = .ok (.iconst 2, 1) := by decide +kernel
theorem dX0_apply_98 : decode cX0_apply 98 = .ok (.if_icmp .ne 7, 3) := by decide +kernel
theorem dX0_apply_101 : decode cX0_apply 101 = .ok (.iconst 0, 1) := by decide +kernel
theorem dX0_apply_102 : decode cX0_apply 102 = .ok (.goto 4, 3) := by decide +kernel
theorem dX0_apply_105 : decode cX0_apply 105 = .ok (.iconst 2, 1) := by decide +kernel
theorem dX0_apply_106 : decode cX0_apply 106 = .ok (.iastore, 1) := by decide +kernel
theorem dX0_apply_107 : decode cX0_apply 107 = .ok (.goto 10, 3) := by decide +kernel
theorem dX0_apply_110 : decode cX0_apply 110 = .ok (.aload_n 0, 1) := by decide +kernel
theorem dX0_apply_111 : decode cX0_apply 111 = .ok (.getfield 18, 3) := by decide +kernel
theorem dX0_apply_114 : decode cX0_apply 114 = .ok (.iload_n 1, 1) := by decide +kernel
theorem dX0_apply_115 : decode cX0_apply 115 = .ok (.iconst 1, 1) := by decide +kernel
theorem dX0_apply_116 : decode cX0_apply 116 = .ok (.iastore, 1) := by decide +kernel
theorem dX0_apply_117 : decode cX0_apply 117 = .ok (.return_, 1) := by decide +kernel
theorem dX0_changeSides_0 : decode cX0_changeSides 0 = .ok (.iload_n 2, 1) := by decide +kernel
theorem dX0_changeSides_1 : decode cX0_changeSides 1 = .ok (.bipush (-100), 2) := by decide +kernel
theorem dX0_changeSides_3 : decode cX0_changeSides 3 = .ok (.if_icmp .eq 13, 3) := by decide +kernel
theorem dX0_changeSides_6 : decode cX0_changeSides 6 = .ok (.aload_n 0, 1) := by decide +kernel
theorem dX0_changeSides_7 : decode cX0_changeSides 7 = .ok (.getfield 15, 3) := by decide +kernel
theorem dX0_changeSides_10 : decode cX0_changeSides 10 = .ok (.iload_n 1, 1) := by decide +kernel
theorem dX0_changeSides_11 : decode cX0_changeSides 11 = .ok (.iload_n 2, 1) := by decide +kernel
theorem dX0_changeSides_12 : decode cX0_changeSides 12 = .ok (.iastore, 1) := by decide +kernel
theorem dX0_changeSides_13 : decode cX0_changeSides 13 = .ok (.goto 24, 3) := by decide +kernel
theorem dX0_changeSides_16 : decode cX0_changeSides 16 = .ok (.aload_n 0, 1) := by decide +kernel
theorem dX0_changeSides_17 : decode cX0_changeSides 17 = .ok (.getfield 18, 3) := by decide +kernel
theorem dX0_changeSides_20 : decode cX0_changeSides 20 = .ok (.iload_n 1, 1) := by decide +kernel
theorem dX0_changeSides_21 : decode cX0_changeSides 21 = .ok (.aload_n 0, 1) := by decide +kernel
theorem dX0_changeSides_22 : decode cX0_changeSides 22 = .ok (.getfield 18, 3) := by decide +kernel
theorem dX0_changeSides_25 : decode cX0_changeSides 25 = .ok (.iload_n 1, 1) := by decide +kernel
theorem dX0_changeSides_26 : decode cX0_changeSides 26 = .ok (.iaload, 1) := by decide +kernel
theorem dX0_changeSides_27 : decode cX0_changeSides 27 = .ok (.iconst 3, 1) := by decide +kernel
theorem dX0_changeSides_28 : decode cX0_changeSides 28 = .ok (.if_icmp .ne 7, 3) := by decide +kernel
theorem dX0_changeSides_31 : decode cX0_changeSides 31 = .ok (.iconst 0, 1) := by decide +kernel
theorem dX0_changeSides_32 : decode cX0_changeSides 32 = .ok (.goto 4, 3) := by decide +kernel
theorem dX0_changeSides_35 : decode cX0_changeSides 35 = .ok (.iconst 3, 1) := by decide +kernel
theorem dX0_changeSides_36 : decode cX0_changeSides 36 = .ok (.iastore, 1) := by decide +kernel
theorem dX0_changeSides_37 : decode cX0_changeSides 37 = .ok (.return_, 1) := by decide +kernel
theorem dX0_restore_0 : decode cX0_restore 0 = .ok (.aload_n 0, 1) := by decide +kernel
theorem dX0_restore_1 : decode cX0_restore 1 = .ok (.getfield 15, 3) := by decide +kernel
theorem dX0_restore_4 : decode cX0_restore 4 = .ok (.iload_n 1, 1) := by decide +kernel
theorem dX0_restore_5 : decode cX0_restore 5 = .ok (.iload_n 2, 1) := by decide +kernel
theorem dX0_restore_6 : decode cX0_restore 6 = .ok (.iastore, 1) := by decide +kernel
theorem dX0_restore_7 : decode cX0_restore 7 = .ok (.aload_n 0, 1) := by decide +kernel
theorem dX0_restore_8 : decode cX0_restore 8 = .ok (.getfield 18, 3) := by decide +kernel
theorem dX0_restore_11 : decode cX0_restore 11 = .ok (.iload_n 1, 1) := by decide +kernel
theorem dX0_restore_12 : decode cX0_restore 12 = .ok (.iload_n 3, 1) := by decide +kernel
theorem dX0_restore_13 : decode cX0_restore 13 = .ok (.iastore, 1) := by decide +kernel
theorem dX0_restore_14 : decode cX0_restore 14 = .ok (.return_, 1) := by decide +kernel
theorem dX0_keepChange_0 : decode cX0_keepChange 0 = .ok (.aload_n 0, 1) := by decide +kernel
theorem dX0_keepChange_1 : decode cX0_keepChange 1 = .ok (.getfield 64, 3) := by decide +kernel
theorem dX0_keepChange_4 : decode cX0_keepChange 4 = .ok (.bipush 20, 2) := by decide +kernel
theorem dX0_keepChange_6 : decode cX0_keepChange 6 = .ok (.if_icmp .ge 59, 3) := by decide +kernel
theorem dX0_keepChange_9 : decode cX0_keepChange 9 = .ok (.aload_n 0, 1) := by decide +kernel
theorem dX0_keepChange_10 : decode cX0_keepChange 10 = .ok (.getfield 48, 3) := by decide +kernel
theorem dX0_keepChange_13 : decode cX0_keepChange 13 = .ok (.aload_n 0, 1) := by decide +kernel
theorem dX0_keepChange_14 : decode cX0_keepChange 14 = .ok (.getfield 64, 3) := by decide +kernel
theorem dX0_keepChange_17 : decode cX0_keepChange 17 = .ok (.iload_n 1, 1) := by decide +kernel
theorem dX0_keepChange_18 : decode cX0_keepChange 18 = .ok (.iastore, 1) := by decide +kernel
theorem dX0_keepChange_19 : decode cX0_keepChange 19 = .ok (.aload_n 0, 1) := by decide +kernel
theorem dX0_keepChange_20 : decode cX0_keepChange 20 = .ok (.getfield 51, 3) := by decide +kernel
theorem dX0_keepChange_23 : decode cX0_keepChange 23 = .ok (.aload_n 0, 1) := by decide +kernel
theorem dX0_keepChange_24 : decode cX0_keepChange 24 = .ok (.getfield 64, 3) := by decide +kernel
theorem dX0_keepChange_27 : decode cX0_keepChange 27 = .ok (.aload_n 0, 1) := by decide +kernel
theorem dX0_keepChange_28 : decode cX0_keepChange 28 = .ok (.getfield 15, 3) := by decide +kernel
theorem dX0_keepChange_31 : decode cX0_keepChange 31 = .ok (.iload_n 1, 1) := by decide +kernel
theorem dX0_keepChange_32 : decode cX0_keepChange 32 = .ok (.iaload, 1) := by decide +kernel
theorem dX0_keepChange_33 : decode cX0_keepChange 33 = .ok (.iastore, 1) := by decide +kernel
theorem dX0_keepChange_34 : decode cX0_keepChange 34 = .ok (.aload_n 0, 1) := by decide +kernel
theorem dX0_keepChange_35 : decode cX0_keepChange 35 = .ok (.getfield 54, 3) := by decide +kernel
theorem dX0_keepChange_38 : decode cX0_keepChange 38 = .ok (.aload_n 0, 1) := by decide +kernel
theorem dX0_keepChange_39 : decode cX0_keepChange 39 = .ok (.getfield 64, 3) := by decide +kernel
theorem dX0_keepChange_42 : decode cX0_keepChange 42 = .ok (.aload_n 0, 1) := by decide +kernel
theorem dX0_keepChange_43 : decode cX0_keepChange 43 = .ok (.getfield 18, 3) := by decide +kernel
theorem dX0_keepChange_46 : decode cX0_keepChange 46 = .ok (.iload_n 1, 1) := by decide +kernel
theorem dX0_keepChange_47 : decode cX0_keepChange 47 = .ok (.iaload, 1) := by decide +kernel
theorem dX0_keepChange_48 : decode cX0_keepChange 48 = .ok (.iastore, 1) := by decide +kernel
theorem dX0_keepChange_49 : decode cX0_keepChange 49 = .ok (.aload_n 0, 1) := by decide +kernel
theorem dX0_keepChange_50 : decode cX0_keepChange 50 = .ok (.dup, 1) := by decide +kernel
theorem dX0_keepChange_51 : decode cX0_keepChange 51 = .ok (.getfield 64, 3) := by decide +kernel
theorem dX0_keepChange_54 : decode cX0_keepChange 54 = .ok (.iconst 1, 1) := by decide +kernel
theorem dX0_keepChange_55 : decode cX0_keepChange 55 = .ok (.iadd, 1) := by decide +kernel
theorem dX0_keepChange_56 : decode cX0_keepChange 56 = .ok (.putfield 64, 3) := by decide +kernel
theorem dX0_keepChange_59 : decode cX0_keepChange 59 = .ok (.aload_n 0, 1) := by decide +kernel
theorem dX0_keepChange_60 : decode cX0_keepChange 60 = .ok (.iload_n 1, 1) := by decide +kernel
theorem dX0_keepChange_61 : decode cX0_keepChange 61 = .ok (.iload_n 2, 1) := by decide +kernel
theorem dX0_keepChange_62 : decode cX0_keepChange 62 = .ok (.invokevirtual 131, 3) := by decide +kernel
theorem dX0_keepChange_65 : decode cX0_keepChange 65 = .ok (.return_, 1) := by decide +kernel
theorem dX0_dropLatest_0 : decode cX0_dropLatest 0 = .ok (.aload_n 0, 1) := by decide +kernel
theorem dX0_dropLatest_1 : decode cX0_dropLatest 1 = .ok (.getfield 64, 3) := by decide +kernel
theorem dX0_dropLatest_4 : decode cX0_dropLatest 4 = .ok (.ifCond .le 44, 3) := by decide +kernel
theorem dX0_dropLatest_7 : decode cX0_dropLatest 7 = .ok (.aload_n 0, 1) := by decide +kernel
theorem dX0_dropLatest_8 : decode cX0_dropLatest 8 = .ok (.dup, 1) := by decide +kernel
theorem dX0_dropLatest_9 : decode cX0_dropLatest 9 = .ok (.getfield 64, 3) := by decide +kernel
theorem dX0_dropLatest_12 : decode cX0_dropLatest 12 = .ok (.iconst 1, 1) := by decide +kernel
theorem dX0_dropLatest_13 : decode cX0_dropLatest 13 = .ok (.isub, 1) := by decide +kernel
theorem dX0_dropLatest_14 : decode cX0_dropLatest 14 = .ok (.putfield 64, 3) := by decide +kernel
theorem dX0_dropLatest_17 : decode cX0_dropLatest 17 = .ok (.aload_n 0, 1) := by decide +kernel
theorem dX0_dropLatest_18 : decode cX0_dropLatest 18 = .ok (.aload_n 0, 1) := by decide +kernel
theorem dX0_dropLatest_19 : decode cX0_dropLatest 19 = .ok (.getfield 48, 3) := by decide +kernel
theorem dX0_dropLatest_22 : decode cX0_dropLatest 22 = .ok (.aload_n 0, 1) := by decide +kernel
theorem dX0_dropLatest_23 : decode cX0_dropLatest 23 = .ok (.getfield 64, 3) := by decide +kernel
theorem dX0_dropLatest_26 : decode cX0_dropLatest 26 = .ok (.iaload, 1) := by decide +kernel
theorem dX0_dropLatest_27 : decode cX0_dropLatest 27 = .ok (.aload_n 0, 1) := by decide +kernel
theorem dX0_dropLatest_28 : decode cX0_dropLatest 28 = .ok (.getfield 51, 3) := by decide +kernel
theorem dX0_dropLatest_31 : decode cX0_dropLatest 31 = .ok (.aload_n 0, 1) := by decide +kernel
theorem dX0_dropLatest_32 : decode cX0_dropLatest 32 = .ok (.getfield 64, 3) := by decide +kernel
theorem dX0_dropLatest_35 : decode cX0_dropLatest 35 = .ok (.iaload, 1) := by decide +kernel
theorem dX0_dropLatest_36 : decode cX0_dropLatest 36 = .ok (.aload_n 0, 1) := by decide +kernel
theorem dX0_dropLatest_37 : decode cX0_dropLatest 37 = .ok (.getfield 54, 3) := by decide +kernel
theorem dX0_dropLatest_40 : decode cX0_dropLatest 40 = .ok (.aload_n 0, 1) := by decide +kernel
theorem dX0_dropLatest_41 : decode cX0_dropLatest 41 = .ok (.getfield 64, 3) := by decide +kernel
theorem dX0_dropLatest_44 : decode cX0_dropLatest 44 = .ok (.iaload, 1) := by decide +kernel
theorem dX0_dropLatest_45 : decode cX0_dropLatest 45 = .ok (.invokevirtual 134, 3) := by decide +kernel
theorem dX0_dropLatest_48 : decode cX0_dropLatest 48 = .ok (.return_, 1) := by decide +kernel
theorem dX1_init_0 : decode cX1_init 0 = .ok (.aload_n 0, 1) := by decide +kernel
theorem dX1_init_1 : decode cX1_init 1 = .ok (.invokespecial 3, 3) := by decide +kernel
theorem dX1_init_4 : decode cX1_init 4 = .ok (.aload_n 0, 1) := by decide +kernel
theorem dX1_init_5 : decode cX1_init 5 = .ok (.bipush 9, 2) := by decide +kernel
theorem dX1_init_7 : decode cX1_init 7 = .ok (.newarray .int, 2) := by decide +kernel
theorem dX1_init_9 : decode cX1_init 9 = .ok (.putfield 9, 3) := by decide +kernel
theorem dX1_init_12 : decode cX1_init 12 = .ok (.aload_n 0, 1) := by decide +kernel
theorem dX1_init_13 : decode cX1_init 13 = .ok (.bipush 60, 2) := by decide +kernel
theorem dX1_init_15 : decode cX1_init 15 = .ok (.newarray .int, 2) := by decide +kernel
theorem dX1_init_17 : decode cX1_init 17 = .ok (.putfield 15, 3) := by decide +kernel
theorem dX1_init_20 : decode cX1_init 20 = .ok (.aload_n 0, 1) := by decide +kernel
theorem dX1_init_21 : decode cX1_init 21 = .ok (.sipush 300, 3) := by decide +kernel
theorem dX1_init_24 : decode cX1_init 24 = .ok (.newarray .int, 2) := by decide +kernel
theorem dX1_init_26 : decode cX1_init 26 = .ok (.putfield 18, 3) := by decide +kernel
theorem dX1_init_29 : decode cX1_init 29 = .ok (.aload_n 0, 1) := by decide +kernel
theorem dX1_init_30 : decode cX1_init 30 = .ok (.iconst (-1), 1) := by decide +kernel
theorem dX1_init_31 : decode cX1_init 31 = .ok (.putfield 21, 3) := by decide +kernel
theorem dX1_init_34 : decode cX1_init 34 = .ok (.aload_n 0, 1) := by decide +kernel
theorem dX1_init_35 : decode cX1_init 35 = .ok (.iconst (-1), 1) := by decide +kernel
theorem dX1_init_36 : decode cX1_init 36 = .ok (.putfield 25, 3) := by decide +kernel
theorem dX1_init_39 : decode cX1_init 39 = .ok (.aload_n 0, 1) := by decide +kernel
theorem dX1_init_40 : decode cX1_init 40 = .ok (.aload_n 1, 1) := by decide +kernel
theorem dX1_init_41 : decode cX1_init 41 = .ok (.putfield 28, 3) := by decide +kernel
theorem dX1_init_44 : decode cX1_init 44 = .ok (.aload_n 0, 1) := by decide +kernel
theorem dX1_init_45 : decode cX1_init 45 = .ok (.aload_n 2, 1) := by decide +kernel
theorem dX1_init_46 : decode cX1_init 46 = .ok (.putfield 32, 3) := by decide +kernel
theorem dX1_init_49 : decode cX1_init 49 = .ok (.return_, 1) := by decide +kernel
theorem dX1_allShownPass_0 : decode cX1_allShownPass 0 = .ok (.aload_n 0, 1) := by decide +kernel
theorem dX1_allShownPass_1 : decode cX1_allShownPass 1 = .ok (.getfield 36, 3) := by decide +kernel
theorem dX1_allShownPass_4 : decode cX1_allShownPass 4 = .ok (.istore_n 1, 1) := by decide +kernel
theorem dX1_allShownPass_5 : decode cX1_allShownPass 5 = .ok (.aload_n 0, 1) := by decide +kernel
theorem dX1_allShownPass_6 : decode cX1_allShownPass 6 = .ok (.getfield 32, 3) := by decide +kernel
theorem dX1_allShownPass_9 : decode cX1_allShownPass 9 = .ok (.iload_n 1, 1) := by decide +kernel
theorem dX1_allShownPass_10 : decode cX1_allShownPass 10 = .ok (.invokevirtual 39, 3) := by decide +kernel
theorem dX1_allShownPass_13 : decode cX1_allShownPass 13 = .ok (.ifCond .eq 13, 3) := by decide +kernel
theorem dX1_allShownPass_16 : decode cX1_allShownPass 16 = .ok (.aload_n 0, 1) := by decide +kernel
theorem dX1_allShownPass_17 : decode cX1_allShownPass 17 = .ok (.iload_n 1, 1) := by decide +kernel
theorem dX1_allShownPass_18 : decode cX1_allShownPass 18 = .ok (.invokevirtual 45, 3) := by decide +kernel
theorem dX1_allShownPass_21 : decode cX1_allShownPass 21 = .ok (.ifCond .ne 5, 3) := by decide +kernel
theorem dX1_allShownPass_24 : decode cX1_allShownPass 24 = .ok (.iconst 0, 1) := by decide +kernel
theorem dX1_allShownPass_25 : decode cX1_allShownPass 25 = .ok (.ireturn, 1) := by decide +kernel
theorem dX1_allShownPass_26 : decode cX1_allShownPass 26 = .ok (.iconst 0, 1) := by decide +kernel
theorem dX1_allShownPass_27 : decode cX1_allShownPass 27 = .ok (.istore_n 2, 1) := by decide +kernel
theorem dX1_allShownPass_28 : decode cX1_allShownPass 28 = .ok (.iload_n 2, 1) := by decide +kernel
theorem dX1_allShownPass_29 : decode cX1_allShownPass 29 = .ok (.aload_n 0, 1) := by decide +kernel
theorem dX1_allShownPass_30 : decode cX1_allShownPass 30 = .ok (.getfield 32, 3) := by decide +kernel
theorem dX1_allShownPass_33 : decode cX1_allShownPass 33 = .ok (.getfield 48, 3) := by decide +kernel
theorem dX1_allShownPass_36 : decode cX1_allShownPass 36 = .ok (.if_icmp .ge 40, 3) := by decide +kernel
theorem dX1_allShownPass_39 : decode cX1_allShownPass 39 = .ok (.iload_n 2, 1) := by decide +kernel
theorem dX1_allShownPass_40 : decode cX1_allShownPass 40 = .ok (.iload_n 1, 1) := by decide +kernel
theorem dX1_allShownPass_41 : decode cX1_allShownPass 41 = .ok (.if_icmp .eq 29, 3) := by decide +kernel
theorem dX1_allShownPass_44 : decode cX1_allShownPass 44 = .ok (.aload_n 0, 1) := by decide +kernel
theorem dX1_allShownPass_45 : decode cX1_allShownPass 45 = .ok (.getfield 32, 3) := by decide +kernel
theorem dX1_allShownPass_48 : decode cX1_allShownPass 48 = .ok (.iload_n 2, 1) := by decide +kernel
theorem dX1_allShownPass_49 : decode cX1_allShownPass 49 = .ok (.invokevirtual 39, 3) := by decide +kernel
theorem dX1_allShownPass_52 : decode cX1_allShownPass 52 = .ok (.ifCond .eq 18, 3) := by decide +kernel
theorem dX1_allShownPass_55 : decode cX1_allShownPass 55 = .ok (.aload_n 0, 1) := by decide +kernel
theorem dX1_allShownPass_56 : decode cX1_allShownPass 56 = .ok (.iload_n 2, 1) := by decide +kernel
theorem dX1_allShownPass_57 : decode cX1_allShownPass 57 = .ok (.invokevirtual 45, 3) := by decide +kernel
theorem dX1_allShownPass_60 : decode cX1_allShownPass 60 = .ok (.ifCond .ne 10, 3) := by decide +kernel
theorem dX1_allShownPass_63 : decode cX1_allShownPass 63 = .ok (.aload_n 0, 1) := by decide +kernel
theorem dX1_allShownPass_64 : decode cX1_allShownPass 64 = .ok (.iload_n 2, 1) := by decide +kernel
theorem dX1_allShownPass_65 : decode cX1_allShownPass 65 = .ok (.putfield 36, 3) := by decide +kernel
theorem dX1_allShownPass_68 : decode cX1_allShownPass 68 = .ok (.iconst 0, 1) := by decide +kernel
theorem dX1_allShownPass_69 : decode cX1_allShownPass 69 = .ok (.ireturn, 1) := by decide +kernel
theorem dX1_allShownPass_70 : decode cX1_allShownPass 70 = .ok (.iinc 2 1, 3) := by decide +kernel
theorem dX1_allShownPass_73 : decode cX1_allShownPass 73 = .ok (.goto (-45), 3) := by decide +kernel
theorem dX1_allShownPass_76 : decode cX1_allShownPass 76 = .ok (.iconst 1, 1) := by decide +kernel
theorem dX1_allShownPass_77 : decode cX1_allShownPass 77 = .ok (.ireturn, 1) := by decide +kernel
theorem dX1_countPassing_0 : decode cX1_countPassing 0 = .ok (.iconst 0, 1) := by decide +kernel
theorem dX1_countPassing_1 : decode cX1_countPassing 1 = .ok (.istore_n 2, 1) := by decide +kernel
theorem dX1_countPassing_2 : decode cX1_countPassing 2 = .ok (.iconst 0, 1) := by decide +kernel
theorem dX1_countPassing_3 : decode cX1_countPassing 3 = .ok (.istore_n 3, 1) := by decide +kernel
theorem dX1_countPassing_4 : decode cX1_countPassing 4 = .ok (.iload_n 3, 1) := by decide +kernel
theorem dX1_countPassing_5 : decode cX1_countPassing 5 = .ok (.aload_n 0, 1) := by decide +kernel
theorem dX1_countPassing_6 : decode cX1_countPassing 6 = .ok (.getfield 32, 3) := by decide +kernel
theorem dX1_countPassing_9 : decode cX1_countPassing 9 = .ok (.getfield 48, 3) := by decide +kernel
theorem dX1_countPassing_12 : decode cX1_countPassing 12 = .ok (.if_icmp .ge 32, 3) := by decide +kernel
theorem dX1_countPassing_15 : decode cX1_countPassing 15 = .ok (.aload_n 0, 1) := by decide +kernel
theorem dX1_countPassing_16 : decode cX1_countPassing 16 = .ok (.getfield 32, 3) := by decide +kernel
theorem dX1_countPassing_19 : decode cX1_countPassing 19 = .ok (.iload_n 3, 1) := by decide +kernel
theorem dX1_countPassing_20 : decode cX1_countPassing 20 = .ok (.invokevirtual 51, 3) := by decide +kernel
theorem dX1_countPassing_23 : decode cX1_countPassing 23 = .ok (.iload_n 1, 1) := by decide +kernel
theorem dX1_countPassing_24 : decode cX1_countPassing 24 = .ok (.if_icmp .ne 14, 3) := by decide +kernel
theorem dX1_countPassing_27 : decode cX1_countPassing 27 = .ok (.aload_n 0, 1) := by decide +kernel
theorem dX1_countPassing_28 : decode cX1_countPassing 28 = .ok (.iload_n 3, 1) := by decide +kernel
theorem dX1_countPassing_29 : decode cX1_countPassing 29 = .ok (.invokevirtual 45, 3) := by decide +kernel
theorem dX1_countPassing_32 : decode cX1_countPassing 32 = .ok (.ifCond .eq 6, 3) := by decide +kernel
theorem dX1_countPassing_35 : decode cX1_countPassing 35 = .ok (.iinc 2 1, 3) := by decide +kernel
theorem dX1_countPassing_38 : decode cX1_countPassing 38 = .ok (.iinc 3 1, 3) := by decide +kernel
theorem dX1_countPassing_41 : decode cX1_countPassing 41 = .ok (.goto (-37), 3) := by decide +kernel
theorem dX1_countPassing_44 : decode cX1_countPassing 44 = .ok (.iload_n 2, 1) := by decide +kernel
theorem dX1_countPassing_45 : decode cX1_countPassing 45 = .ok (.ireturn, 1) := by decide +kernel
theorem dX1_passes_0 : decode cX1_passes 0 = .ok (.aload_n 0, 1) := by decide +kernel
theorem dX1_passes_1 : decode cX1_passes 1 = .ok (.getfield 9, 3) := by decide +kernel
theorem dX1_passes_4 : decode cX1_passes 4 = .ok (.iconst 0, 1) := by decide +kernel
theorem dX1_passes_5 : decode cX1_passes 5 = .ok (.invokestatic 54, 3) := by decide +kernel
theorem dX1_passes_8 : decode cX1_passes 8 = .ok (.aload_n 0, 1) := by decide +kernel
theorem dX1_passes_9 : decode cX1_passes 9 = .ok (.getfield 32, 3) := by decide +kernel
theorem dX1_passes_12 : decode cX1_passes 12 = .ok (.getfield 60, 3) := by decide +kernel
theorem dX1_passes_15 : decode cX1_passes 15 = .ok (.iload_n 1, 1) := by decide +kernel
theorem dX1_passes_16 : decode cX1_passes 16 = .ok (.aaload, 1) := by decide +kernel
theorem dX1_passes_17 : decode cX1_passes 17 = .ok (.iconst 0, 1) := by decide +kernel
theorem dX1_passes_18 : decode cX1_passes 18 = .ok (.aload_n 0, 1) := by decide +kernel
theorem dX1_passes_19 : decode cX1_passes 19 = .ok (.getfield 9, 3) := by decide +kernel
theorem dX1_passes_22 : decode cX1_passes 22 = .ok (.iconst 0, 1) := by decide +kernel
theorem dX1_passes_23 : decode cX1_passes 23 = .ok (.iconst 3, 1) := by decide +kernel
theorem dX1_passes_24 : decode cX1_passes 24 = .ok (.invokestatic 64, 3) := by decide +kernel
theorem dX1_passes_27 : decode cX1_passes 27 = .ok (.aload_n 0, 1) := by decide +kernel
theorem dX1_passes_28 : decode cX1_passes 28 = .ok (.iconst 0, 1) := by decide +kernel
theorem dX1_passes_29 : decode cX1_passes 29 = .ok (.putfield 70, 3) := by decide +kernel
theorem dX1_passes_32 : decode cX1_passes 32 = .ok (.aload_n 0, 1) := by decide +kernel
theorem dX1_passes_33 : decode cX1_passes 33 = .ok (.iconst 0, 1) := by decide +kernel
theorem dX1_passes_34 : decode cX1_passes 34 = .ok (.putfield 73, 3) := by decide +kernel
theorem dX1_passes_37 : decode cX1_passes 37 = .ok (.aload_n 0, 1) := by decide +kernel
theorem dX1_passes_38 : decode cX1_passes 38 = .ok (.iconst 0, 1) := by decide +kernel
theorem dX1_passes_39 : decode cX1_passes 39 = .ok (.putfield 76, 3) := by decide +kernel
theorem dX1_passes_42 : decode cX1_passes 42 = .ok (.aload_n 0, 1) := by decide +kernel
theorem dX1_passes_43 : decode cX1_passes 43 = .ok (.iconst 0, 1) := by decide +kernel
theorem dX1_passes_44 : decode cX1_passes 44 = .ok (.putfield 79, 3) := by decide +kernel
theorem dX1_passes_47 : decode cX1_passes 47 = .ok (.aload_n 0, 1) := by decide +kernel
theorem dX1_passes_48 : decode cX1_passes 48 = .ok (.lconst 0, 1) := by decide +kernel
theorem dX1_passes_49 : decode cX1_passes 49 = .ok (.putfield 82, 3) := by decide +kernel
theorem dX1_passes_52 : decode cX1_passes 52 = .ok (.iconst 0, 1) := by decide +kernel
theorem dX1_passes_53 : decode cX1_passes 53 = .ok (.istore_n 2, 1) := by decide +kernel
theorem dX1_passes_54 : decode cX1_passes 54 = .ok (.iconst 0, 1) := by decide +kernel
theorem dX1_passes_55 : decode cX1_passes 55 = .ok (.istore_n 3, 1) := by decide +kernel
theorem dX1_passes_56 : decode cX1_passes 56 = .ok (.iload_n 3, 1) := by decide +kernel
theorem dX1_passes_57 : decode cX1_passes 57 = .ok (.sipush 6321, 3) := by decide +kernel
theorem dX1_passes_60 : decode cX1_passes 60 = .ok (.if_icmp .ge 124, 3) := by decide +kernel
theorem dX1_passes_63 : decode cX1_passes 63 = .ok (.aload_n 0, 1) := by decide +kernel
theorem dX1_passes_64 : decode cX1_passes 64 = .ok (.getfield 28, 3) := by decide +kernel
theorem dX1_passes_67 : decode cX1_passes 67 = .ok (.iload_n 2, 1) := by decide +kernel
theorem dX1_passes_68 : decode cX1_passes 68 = .ok (.invokevirtual 86, 3) := by decide +kernel
theorem dX1_passes_71 : decode cX1_passes 71 = .ok (.ifCond .eq 113, 3) := by decide +kernel
theorem dX1_passes_74 : decode cX1_passes 74 = .ok (.aload_n 0, 1) := by decide +kernel
theorem dX1_passes_75 : decode cX1_passes 75 = .ok (.getfield 28, 3) := by decide +kernel
theorem dX1_passes_78 : decode cX1_passes 78 = .ok (.getfield 91, 3) := by decide +kernel
theorem dX1_passes_81 : decode cX1_passes 81 = .ok (.iload_n 2, 1) := by decide +kernel
theorem dX1_passes_82 : decode cX1_passes 82 = .ok (.iaload, 1) := by decide +kernel
theorem dX1_passes_83 : decode cX1_passes 83 = .ok (.iconst 1, 1) := by decide +kernel
theorem dX1_passes_84 : decode cX1_passes 84 = .ok (.if_icmp .ne 16, 3) := by decide +kernel
theorem dX1_passes_87 : decode cX1_passes 87 = .ok (.aload_n 0, 1) := by decide +kernel
theorem dX1_passes_88 : decode cX1_passes 88 = .ok (.getfield 28, 3) := by decide +kernel
theorem dX1_passes_91 : decode cX1_passes 91 = .ok (.getfield 94, 3) := by decide +kernel
theorem dX1_passes_94 : decode cX1_passes 94 = .ok (.iload_n 2, 1) := by decide +kernel
theorem dX1_passes_95 : decode cX1_passes 95 = .ok (.iaload, 1) := by decide +kernel
theorem dX1_passes_96 : decode cX1_passes 96 = .ok (.istore_n 2, 1) := by decide +kernel
theorem dX1_passes_97 : decode cX1_passes 97 = .ok (.goto 81, 3) := by decide +kernel
theorem dX1_passes_100 : decode cX1_passes 100 = .ok (.aload_n 0, 1) := by decide +kernel
theorem dX1_passes_101 : decode cX1_passes 101 = .ok (.dup, 1) := by decide +kernel
theorem dX1_passes_102 : decode cX1_passes 102 = .ok (.getfield 82, 3) := by decide +kernel
theorem dX1_passes_105 : decode cX1_passes 105 = .ok (.lconst 1, 1) := by decide +kernel
theorem dX1_passes_106 : decode cX1_passes 106 = .ok (.iload_n 2, 1) := by decide +kernel
theorem dX1_passes_107 : decode cX1_passes 107 = .ok (.lshl, 1) := by decide +kernel
theorem dX1_passes_108 : decode cX1_passes 108 = .ok (.lor, 1) := by decide +kernel
theorem dX1_passes_109 : decode cX1_passes 109 = .ok (.putfield 82, 3) := by decide +kernel
theorem dX1_passes_112 : decode cX1_passes 112 = .ok (.aload_n 0, 1) := by decide +kernel
theorem dX1_passes_113 : decode cX1_passes 113 = .ok (.getfield 70, 3) := by decide +kernel
theorem dX1_passes_116 : decode cX1_passes 116 = .ok (.sipush 300, 3) := by decide +kernel
theorem dX1_passes_119 : decode cX1_passes 119 = .ok (.if_icmp .lt 13, 3) := by decide +kernel
theorem dX1_passes_122 : decode cX1_passes 122 = .ok (.aload_n 0, 1) := by decide +kernel
theorem dX1_passes_123 : decode cX1_passes 123 = .ok (.iconst 2, 1) := by decide +kernel
theorem dX1_passes_124 : decode cX1_passes 124 = .ok (.putfield 73, 3) := by decide +kernel
theorem dX1_passes_127 : decode cX1_passes 127 = .ok (.iconst (-1), 1) := by decide +kernel
theorem dX1_passes_128 : decode cX1_passes 128 = .ok (.istore_n 2, 1) := by decide +kernel
theorem dX1_passes_129 : decode cX1_passes 129 = .ok (.goto 49, 3) := by decide +kernel
theorem dX1_passes_132 : decode cX1_passes 132 = .ok (.aload_n 0, 1) := by decide +kernel
theorem dX1_passes_133 : decode cX1_passes 133 = .ok (.getfield 18, 3) := by decide +kernel
theorem dX1_passes_136 : decode cX1_passes 136 = .ok (.aload_n 0, 1) := by decide +kernel
theorem dX1_passes_137 : decode cX1_passes 137 = .ok (.getfield 70, 3) := by decide +kernel
theorem dX1_passes_140 : decode cX1_passes 140 = .ok (.iload_n 2, 1) := by decide +kernel
theorem dX1_passes_141 : decode cX1_passes 141 = .ok (.iastore, 1) := by decide +kernel
theorem dX1_passes_142 : decode cX1_passes 142 = .ok (.aload_n 0, 1) := by decide +kernel
theorem dX1_passes_143 : decode cX1_passes 143 = .ok (.dup, 1) := by decide +kernel
theorem dX1_passes_144 : decode cX1_passes 144 = .ok (.getfield 70, 3) := by decide +kernel
theorem dX1_passes_147 : decode cX1_passes 147 = .ok (.iconst 1, 1) := by decide +kernel
theorem dX1_passes_148 : decode cX1_passes 148 = .ok (.iadd, 1) := by decide +kernel
theorem dX1_passes_149 : decode cX1_passes 149 = .ok (.putfield 70, 3) := by decide +kernel
theorem dX1_passes_152 : decode cX1_passes 152 = .ok (.aload_n 0, 1) := by decide +kernel
theorem dX1_passes_153 : decode cX1_passes 153 = .ok (.iload_n 2, 1) := by decide +kernel
theorem dX1_passes_154 : decode cX1_passes 154 = .ok (.invokevirtual 97, 3) := by decide +kernel
theorem dX1_passes_157 : decode cX1_passes 157 = .ok (.ifCond .eq 19, 3) := by decide +kernel
theorem dX1_passes_160 : decode cX1_passes 160 = .ok (.aload_n 0, 1) := by decide +kernel
theorem dX1_passes_161 : decode cX1_passes 161 = .ok (.iload_n 2, 1) := by decide +kernel
theorem dX1_passes_162 : decode cX1_passes 162 = .ok (.aload_n 0, 1) := by decide +kernel
theorem dX1_passes_163 : decode cX1_passes 163 = .ok (.getfield 15, 3) := by decide +kernel
theorem dX1_passes_166 : decode cX1_passes 166 = .ok (.iload_n 2, 1) := by decide +kernel
theorem dX1_passes_167 : decode cX1_passes 167 = .ok (.iconst 1, 1) := by decide +kernel
theorem dX1_passes_168 : decode cX1_passes 168 = .ok (.iadd, 1) := by decide +kernel
theorem dX1_passes_169 : decode cX1_passes 169 = .ok (.iaload, 1) := by decide +kernel
theorem dX1_passes_170 : decode cX1_passes 170 = .ok (.invokevirtual 100, 3) := by decide +kernel
theorem dX1_passes_173 : decode cX1_passes 173 = .ok (.goto 4, 3) := by decide +kernel
theorem dX1_passes_176 : decode cX1_passes 176 = .ok (.iconst (-1), 1) := by decide +kernel
theorem dX1_passes_177 : decode cX1_passes 177 = .ok (.istore_n 2, 1) := by decide +kernel
theorem dX1_passes_178 : decode cX1_passes 178 = .ok (.iinc 3 1, 3) := by decide +kernel
theorem dX1_passes_181 : decode cX1_passes 181 = .ok (.goto (-125), 3) := by decide +kernel
theorem dX1_passes_184 : decode cX1_passes 184 = .ok (.aload_n 0, 1) := by decide +kernel
theorem dX1_passes_185 : decode cX1_passes 185 = .ok (.getfield 73, 3) := by decide +kernel
theorem dX1_passes_188 : decode cX1_passes 188 = .ok (.ifCond .ne 25, 3) := by decide +kernel
theorem dX1_passes_191 : decode cX1_passes 191 = .ok (.aload_n 0, 1) := by decide +kernel
theorem dX1_passes_192 : decode cX1_passes 192 = .ok (.getfield 76, 3) := by decide +kernel
theorem dX1_passes_195 : decode cX1_passes 195 = .ok (.aload_n 0, 1) := by decide +kernel
theorem dX1_passes_196 : decode cX1_passes 196 = .ok (.getfield 32, 3) := by decide +kernel
theorem dX1_passes_199 : decode cX1_passes 199 = .ok (.getfield 60, 3) := by decide +kernel
theorem dX1_passes_202 : decode cX1_passes 202 = .ok (.iload_n 1, 1) := by decide +kernel
theorem dX1_passes_203 : decode cX1_passes 203 = .ok (.aaload, 1) := by decide +kernel
theorem dX1_passes_204 : decode cX1_passes 204 = .ok (.iconst 3, 1) := by decide +kernel
theorem dX1_passes_205 : decode cX1_passes 205 = .ok (.iaload, 1) := by decide +kernel
theorem dX1_passes_206 : decode cX1_passes 206 = .ok (.if_icmp .ne 7, 3) := by decide +kernel
theorem dX1_passes_209 : decode cX1_passes 209 = .ok (.iconst 1, 1) := by decide +kernel
theorem dX1_passes_210 : decode cX1_passes 210 = .ok (.goto 4, 3) := by decide +kernel
theorem dX1_passes_213 : decode cX1_passes 213 = .ok (.iconst 0, 1) := by decide +kernel
theorem dX1_passes_214 : decode cX1_passes 214 = .ok (.ireturn, 1) := by decide +kernel
theorem dX1_goOn_0 : decode cX1_goOn 0 = .ok (.aload_n 0, 1) := by decide +kernel
theorem dX1_goOn_1 : decode cX1_goOn 1 = .ok (.getfield 28, 3) := by decide +kernel
theorem dX1_goOn_4 : decode cX1_goOn 4 = .ok (.getfield 104, 3) := by decide +kernel
theorem dX1_goOn_7 : decode cX1_goOn 7 = .ok (.iload_n 1, 1) := by decide +kernel
theorem dX1_goOn_8 : decode cX1_goOn 8 = .ok (.iaload, 1) := by decide +kernel
theorem dX1_goOn_9 : decode cX1_goOn 9 = .ok (.lookupswitch 59 #[(0, 27), (3, 52)], 27) := by decide +kernel
theorem dX1_goOn_36 : decode cX1_goOn 36 = .ok (.aload_n 0, 1) := by decide +kernel
theorem dX1_goOn_37 : decode cX1_goOn 37 = .ok (.getfield 9, 3) := by decide +kernel
theorem dX1_goOn_40 : decode cX1_goOn 40 = .ok (.aload_n 0, 1) := by decide +kernel
theorem dX1_goOn_41 : decode cX1_goOn 41 = .ok (.getfield 28, 3) := by decide +kernel
theorem dX1_goOn_44 : decode cX1_goOn 44 = .ok (.getfield 107, 3) := by decide +kernel
theorem dX1_goOn_47 : decode cX1_goOn 47 = .ok (.iload_n 1, 1) := by decide +kernel
theorem dX1_goOn_48 : decode cX1_goOn 48 = .ok (.iaload, 1) := by decide +kernel
theorem dX1_goOn_49 : decode cX1_goOn 49 = .ok (.iload_n 2, 1) := by decide +kernel
theorem dX1_goOn_50 : decode cX1_goOn 50 = .ok (.iastore, 1) := by decide +kernel
theorem dX1_goOn_51 : decode cX1_goOn 51 = .ok (.aload_n 0, 1) := by decide +kernel
theorem dX1_goOn_52 : decode cX1_goOn 52 = .ok (.getfield 28, 3) := by decide +kernel
theorem dX1_goOn_55 : decode cX1_goOn 55 = .ok (.getfield 94, 3) := by decide +kernel
theorem dX1_goOn_58 : decode cX1_goOn 58 = .ok (.iload_n 1, 1) := by decide +kernel
theorem dX1_goOn_59 : decode cX1_goOn 59 = .ok (.iaload, 1) := by decide +kernel
theorem dX1_goOn_60 : decode cX1_goOn 60 = .ok (.ireturn, 1) := by decide +kernel
theorem dX1_goOn_61 : decode cX1_goOn 61 = .ok (.aload_n 0, 1) := by decide +kernel
theorem dX1_goOn_62 : decode cX1_goOn 62 = .ok (.iload_n 2, 1) := by decide +kernel
theorem dX1_goOn_63 : decode cX1_goOn 63 = .ok (.putfield 76, 3) := by decide +kernel
theorem dX1_goOn_66 : decode cX1_goOn 66 = .ok (.iconst (-1), 1) := by decide +kernel
theorem dX1_goOn_67 : decode cX1_goOn 67 = .ok (.ireturn, 1) := by decide +kernel
theorem dX1_goOn_68 : decode cX1_goOn 68 = .ok (.aload_n 0, 1) := by decide +kernel
theorem dX1_goOn_69 : decode cX1_goOn 69 = .ok (.iload_n 1, 1) := by decide +kernel
theorem dX1_goOn_70 : decode cX1_goOn 70 = .ok (.iload_n 2, 1) := by decide +kernel
theorem dX1_goOn_71 : decode cX1_goOn 71 = .ok (.invokevirtual 110, 3) := by decide +kernel
theorem dX1_goOn_74 : decode cX1_goOn 74 = .ok (.ifCond .eq 15, 3) := by decide +kernel
theorem dX1_goOn_77 : decode cX1_goOn 77 = .ok (.aload_n 0, 1) := by decide +kernel
theorem dX1_goOn_78 : decode cX1_goOn 78 = .ok (.getfield 28, 3) := by decide +kernel
theorem dX1_goOn_81 : decode cX1_goOn 81 = .ok (.getfield 114, 3) := by decide +kernel
theorem dX1_goOn_84 : decode cX1_goOn 84 = .ok (.iload_n 1, 1) := by decide +kernel
theorem dX1_goOn_85 : decode cX1_goOn 85 = .ok (.iaload, 1) := by decide +kernel
theorem dX1_goOn_86 : decode cX1_goOn 86 = .ok (.goto 12, 3) := by decide +kernel
theorem dX1_goOn_89 : decode cX1_goOn 89 = .ok (.aload_n 0, 1) := by decide +kernel
theorem dX1_goOn_90 : decode cX1_goOn 90 = .ok (.getfield 28, 3) := by decide +kernel
theorem dX1_goOn_93 : decode cX1_goOn 93 = .ok (.getfield 117, 3) := by decide +kernel
theorem dX1_goOn_96 : decode cX1_goOn 96 = .ok (.iload_n 1, 1) := by decide +kernel
theorem dX1_goOn_97 : decode cX1_goOn 97 = .ok (.iaload, 1) := by decide +kernel
theorem dX1_goOn_98 : decode cX1_goOn 98 = .ok (.ireturn, 1) := by decide +kernel
theorem dX1_comesOutSo_0 : decode cX1_comesOutSo 0 = .ok (.iload_n 2, 1) := by decide +kernel
theorem dX1_comesOutSo_1 : decode cX1_comesOutSo 1 = .ok (.ifCond .eq 7, 3) := by decide +kernel
theorem dX1_comesOutSo_4 : decode cX1_comesOutSo 4 = .ok (.iconst 1, 1) := by decide +kernel
theorem dX1_comesOutSo_5 : decode cX1_comesOutSo 5 = .ok (.goto 4, 3) := by decide +kernel
theorem dX1_comesOutSo_8 : decode cX1_comesOutSo 8 = .ok (.iconst 0, 1) := by decide +kernel
theorem dX1_comesOutSo_9 : decode cX1_comesOutSo 9 = .ok (.aload_n 0, 1) := by decide +kernel
theorem dX1_comesOutSo_10 : decode cX1_comesOutSo 10 = .ok (.getfield 28, 3) := by decide +kernel
theorem dX1_comesOutSo_13 : decode cX1_comesOutSo 13 = .ok (.getfield 91, 3) := by decide +kernel
theorem dX1_comesOutSo_16 : decode cX1_comesOutSo 16 = .ok (.iload_n 1, 1) := by decide +kernel
theorem dX1_comesOutSo_17 : decode cX1_comesOutSo 17 = .ok (.iaload, 1) := by decide +kernel
theorem dX1_comesOutSo_18 : decode cX1_comesOutSo 18 = .ok (.iconst 2, 1) := by decide +kernel
theorem dX1_comesOutSo_19 : decode cX1_comesOutSo 19 = .ok (.if_icmp .ne 7, 3) := by decide +kernel
theorem dX1_comesOutSo_22 : decode cX1_comesOutSo 22 = .ok (.iconst 1, 1) := by decide +kernel
theorem dX1_comesOutSo_23 : decode cX1_comesOutSo 23 = .ok (.goto 4, 3) := by decide +kernel
theorem dX1_comesOutSo_26 : decode cX1_comesOutSo 26 = .ok (.iconst 0, 1) := by decide +kernel
theorem dX1_comesOutSo_27 : decode cX1_comesOutSo 27 = .ok (.if_icmp .eq 7, 3) := by decide +kernel
theorem dX1_comesOutSo_30 : decode cX1_comesOutSo 30 = .ok (.iconst 1, 1) := by decide +kernel
theorem dX1_comesOutSo_31 : decode cX1_comesOutSo 31 = .ok (.goto 4, 3) := by decide +kernel
theorem dX1_comesOutSo_34 : decode cX1_comesOutSo 34 = .ok (.iconst 0, 1) := by decide +kernel
theorem dX1_comesOutSo_35 : decode cX1_comesOutSo 35 = .ok (.istore_n 3, 1) := by decide +kernel
theorem dX1_comesOutSo_36 : decode cX1_comesOutSo 36 = .ok (.iload_n 1, 1) := by decide +kernel
theorem dX1_comesOutSo_37 : decode cX1_comesOutSo 37 = .ok (.aload_n 0, 1) := by decide +kernel
theorem dX1_comesOutSo_38 : decode cX1_comesOutSo 38 = .ok (.getfield 21, 3) := by decide +kernel
theorem dX1_comesOutSo_41 : decode cX1_comesOutSo 41 = .ok (.if_icmp .ne 8, 3) := by decide +kernel
theorem dX1_comesOutSo_44 : decode cX1_comesOutSo 44 = .ok (.aload_n 0, 1) := by decide +kernel
theorem dX1_comesOutSo_45 : decode cX1_comesOutSo 45 = .ok (.getfield 120, 3) := by decide +kernel
theorem dX1_comesOutSo_48 : decode cX1_comesOutSo 48 = .ok (.istore_n 3, 1) := by decide +kernel
theorem dX1_comesOutSo_49 : decode cX1_comesOutSo 49 = .ok (.aload_n 0, 1) := by decide +kernel
theorem dX1_comesOutSo_50 : decode cX1_comesOutSo 50 = .ok (.getfield 79, 3) := by decide +kernel
theorem dX1_comesOutSo_53 : decode cX1_comesOutSo 53 = .ok (.aload_n 0, 1) := by decide +kernel
theorem dX1_comesOutSo_54 : decode cX1_comesOutSo 54 = .ok (.getfield 25, 3) := by decide +kernel
theorem dX1_comesOutSo_57 : decode cX1_comesOutSo 57 = .ok (.if_icmp .ne 13, 3) := by decide +kernel
theorem dX1_comesOutSo_60 : decode cX1_comesOutSo 60 = .ok (.iload_n 3, 1) := by decide +kernel
theorem dX1_comesOutSo_61 : decode cX1_comesOutSo 61 = .ok (.ifCond .ne 7, 3) := by decide +kernel
theorem dX1_comesOutSo_64 : decode cX1_comesOutSo 64 = .ok (.iconst 1, 1) := by decide +kernel
theorem dX1_comesOutSo_65 : decode cX1_comesOutSo 65 = .ok (.goto 4, 3) := by decide +kernel
theorem dX1_comesOutSo_68 : decode cX1_comesOutSo 68 = .ok (.iconst 0, 1) := by decide +kernel
theorem dX1_comesOutSo_69 : decode cX1_comesOutSo 69 = .ok (.istore_n 3, 1) := by decide +kernel
theorem dX1_comesOutSo_70 : decode cX1_comesOutSo 70 = .ok (.aload_n 0, 1) := by decide +kernel
theorem dX1_comesOutSo_71 : decode cX1_comesOutSo 71 = .ok (.dup, 1) := by decide +kernel
theorem dX1_comesOutSo_72 : decode cX1_comesOutSo 72 = .ok (.getfield 79, 3) := by decide +kernel
theorem dX1_comesOutSo_75 : decode cX1_comesOutSo 75 = .ok (.iconst 1, 1) := by decide +kernel
theorem dX1_comesOutSo_76 : decode cX1_comesOutSo 76 = .ok (.iadd, 1) := by decide +kernel
theorem dX1_comesOutSo_77 : decode cX1_comesOutSo 77 = .ok (.putfield 79, 3) := by decide +kernel
theorem dX1_comesOutSo_80 : decode cX1_comesOutSo 80 = .ok (.iload_n 3, 1) := by decide +kernel
theorem dX1_comesOutSo_81 : decode cX1_comesOutSo 81 = .ok (.ireturn, 1) := by decide +kernel
theorem dX1_workOut_0 : decode cX1_workOut 0 = .ok (.aload_n 0, 1) := by decide +kernel
theorem dX1_workOut_1 : decode cX1_workOut 1 = .ok (.getfield 28, 3) := by decide +kernel
theorem dX1_workOut_4 : decode cX1_workOut 4 = .ok (.getfield 124, 3) := by decide +kernel
theorem dX1_workOut_7 : decode cX1_workOut 7 = .ok (.iload_n 1, 1) := by decide +kernel
theorem dX1_workOut_8 : decode cX1_workOut 8 = .ok (.iaload, 1) := by decide +kernel
theorem dX1_workOut_9 : decode cX1_workOut 9 = .ok (.istore_n 2, 1) := by decide +kernel
theorem dX1_workOut_10 : decode cX1_workOut 10 = .ok (.iload_n 2, 1) := by decide +kernel
theorem dX1_workOut_11 : decode cX1_workOut 11 = .ok (.iload_n 1, 1) := by decide +kernel
theorem dX1_workOut_12 : decode cX1_workOut 12 = .ok (.if_icmp .le 231, 3) := by decide +kernel
theorem dX1_workOut_15 : decode cX1_workOut 15 = .ok (.aload_n 0, 1) := by decide +kernel
theorem dX1_workOut_16 : decode cX1_workOut 16 = .ok (.getfield 28, 3) := by decide +kernel
theorem dX1_workOut_19 : decode cX1_workOut 19 = .ok (.getfield 107, 3) := by decide +kernel
theorem dX1_workOut_22 : decode cX1_workOut 22 = .ok (.iload_n 2, 1) := by decide +kernel
theorem dX1_workOut_23 : decode cX1_workOut 23 = .ok (.iaload, 1) := by decide +kernel
theorem dX1_workOut_24 : decode cX1_workOut 24 = .ok (.istore_n 3, 1) := by decide +kernel
theorem dX1_workOut_25 : decode cX1_workOut 25 = .ok (.aload_n 0, 1) := by decide +kernel
theorem dX1_workOut_26 : decode cX1_workOut 26 = .ok (.getfield 28, 3) := by decide +kernel
theorem dX1_workOut_29 : decode cX1_workOut 29 = .ok (.getfield 104, 3) := by decide +kernel
theorem dX1_workOut_32 : decode cX1_workOut 32 = .ok (.iload_n 2, 1) := by decide +kernel
theorem dX1_workOut_33 : decode cX1_workOut 33 = .ok (.iaload, 1) := by decide +kernel
theorem dX1_workOut_34 : decode cX1_workOut 34 = .ok (.tableswitch 93 4 6 #[26, 36, 51], 26) := by decide +kernel
theorem dX1_workOut_60 : decode cX1_workOut 60 = .ok (.aload_n 0, 1) := by decide +kernel
theorem dX1_workOut_61 : decode cX1_workOut 61 = .ok (.getfield 15, 3) := by decide +kernel
theorem dX1_workOut_64 : decode cX1_workOut 64 = .ok (.iload_n 2, 1) := by decide +kernel
theorem dX1_workOut_65 : decode cX1_workOut 65 = .ok (.iload_n 3, 1) := by decide +kernel
theorem dX1_workOut_66 : decode cX1_workOut 66 = .ok (.iastore, 1) := by decide +kernel
theorem dX1_workOut_67 : decode cX1_workOut 67 = .ok (.goto 170, 3) := by decide +kernel
theorem dX1_workOut_70 : decode cX1_workOut 70 = .ok (.aload_n 0, 1) := by decide +kernel
theorem dX1_workOut_71 : decode cX1_workOut 71 = .ok (.getfield 15, 3) := by decide +kernel
theorem dX1_workOut_74 : decode cX1_workOut 74 = .ok (.iload_n 2, 1) := by decide +kernel
theorem dX1_workOut_75 : decode cX1_workOut 75 = .ok (.aload_n 0, 1) := by decide +kernel
theorem dX1_workOut_76 : decode cX1_workOut 76 = .ok (.getfield 9, 3) := by decide +kernel
theorem dX1_workOut_79 : decode cX1_workOut 79 = .ok (.iload_n 3, 1) := by decide +kernel
theorem dX1_workOut_80 : decode cX1_workOut 80 = .ok (.iaload, 1) := by decide +kernel
theorem dX1_workOut_81 : decode cX1_workOut 81 = .ok (.iastore, 1) := by decide +kernel
theorem dX1_workOut_82 : decode cX1_workOut 82 = .ok (.goto 155, 3) := by decide +kernel
theorem dX1_workOut_85 : decode cX1_workOut 85 = .ok (.aload_n 0, 1) := by decide +kernel
theorem dX1_workOut_86 : decode cX1_workOut 86 = .ok (.getfield 15, 3) := by decide +kernel
theorem dX1_workOut_89 : decode cX1_workOut 89 = .ok (.iload_n 2, 1) := by decide +kernel
theorem dX1_workOut_90 : decode cX1_workOut 90 = .ok (.aload_n 0, 1) := by decide +kernel
theorem dX1_workOut_91 : decode cX1_workOut 91 = .ok (.getfield 28, 3) := by decide +kernel
theorem dX1_workOut_94 : decode cX1_workOut 94 = .ok (.getfield 91, 3) := by decide +kernel
theorem dX1_workOut_97 : decode cX1_workOut 97 = .ok (.iload_n 2, 1) := by decide +kernel
theorem dX1_workOut_98 : decode cX1_workOut 98 = .ok (.iaload, 1) := by decide +kernel
theorem dX1_workOut_99 : decode cX1_workOut 99 = .ok (.iconst 1, 1) := by decide +kernel
theorem dX1_workOut_100 : decode cX1_workOut 100 = .ok (.if_icmp .ne 14, 3) := by decide +kernel
theorem dX1_workOut_103 : decode cX1_workOut 103 = .ok (.aload_n 0, 1) := by decide +kernel
theorem dX1_workOut_104 : decode cX1_workOut 104 = .ok (.getfield 15, 3) := by decide +kernel
theorem dX1_workOut_107 : decode cX1_workOut 107 = .ok (.iload_n 2, 1) := by decide +kernel
theorem dX1_workOut_108 : decode cX1_workOut 108 = .ok (.iconst 1, 1) := by decide +kernel
theorem dX1_workOut_109 : decode cX1_workOut 109 = .ok (.iadd, 1) := by decide +kernel
theorem dX1_workOut_110 : decode cX1_workOut 110 = .ok (.iaload, 1) := by decide +kernel
theorem dX1_workOut_111 : decode cX1_workOut 111 = .ok (.goto 12, 3) := by decide +kernel
theorem dX1_workOut_114 : decode cX1_workOut 114 = .ok (.aload_n 0, 1) := by decide +kernel
theorem dX1_workOut_115 : decode cX1_workOut 115 = .ok (.getfield 15, 3) := by decide +kernel
theorem dX1_workOut_118 : decode cX1_workOut 118 = .ok (.iload_n 2, 1) := by decide +kernel
theorem dX1_workOut_119 : decode cX1_workOut 119 = .ok (.iconst 1, 1) := by decide +kernel
theorem dX1_workOut_120 : decode cX1_workOut 120 = .ok (.iadd, 1) := by decide +kernel
theorem dX1_workOut_121 : decode cX1_workOut 121 = .ok (.iaload, 1) := by decide +kernel
theorem dX1_workOut_122 : decode cX1_workOut 122 = .ok (.ineg, 1) := by decide +kernel
theorem dX1_workOut_123 : decode cX1_workOut 123 = .ok (.iastore, 1) := by decide +kernel
theorem dX1_workOut_124 : decode cX1_workOut 124 = .ok (.goto 113, 3) := by decide +kernel
theorem dX1_workOut_127 : decode cX1_workOut 127 = .ok (.aload_n 0, 1) := by decide +kernel
theorem dX1_workOut_128 : decode cX1_workOut 128 = .ok (.getfield 28, 3) := by decide +kernel
theorem dX1_workOut_131 : decode cX1_workOut 131 = .ok (.getfield 91, 3) := by decide +kernel
theorem dX1_workOut_134 : decode cX1_workOut 134 = .ok (.iload_n 2, 1) := by decide +kernel
theorem dX1_workOut_135 : decode cX1_workOut 135 = .ok (.iaload, 1) := by decide +kernel
theorem dX1_workOut_136 : decode cX1_workOut 136 = .ok (.iconst 3, 1) := by decide +kernel
theorem dX1_workOut_137 : decode cX1_workOut 137 = .ok (.if_icmp .ne 7, 3) := by decide +kernel
theorem dX1_workOut_140 : decode cX1_workOut 140 = .ok (.iconst 1, 1) := by decide +kernel
theorem dX1_workOut_141 : decode cX1_workOut 141 = .ok (.goto 4, 3) := by decide +kernel
theorem dX1_workOut_144 : decode cX1_workOut 144 = .ok (.iconst 0, 1) := by decide +kernel
theorem dX1_workOut_145 : decode cX1_workOut 145 = .ok (.istore 4, 2) := by decide +kernel
theorem dX1_workOut_147 : decode cX1_workOut 147 = .ok (.aload_n 0, 1) := by decide +kernel
theorem dX1_workOut_148 : decode cX1_workOut 148 = .ok (.getfield 15, 3) := by decide +kernel
theorem dX1_workOut_151 : decode cX1_workOut 151 = .ok (.iload 4, 2) := by decide +kernel
theorem dX1_workOut_153 : decode cX1_workOut 153 = .ok (.ifCond .eq 15, 3) := by decide +kernel
theorem dX1_workOut_156 : decode cX1_workOut 156 = .ok (.aload_n 0, 1) := by decide +kernel
theorem dX1_workOut_157 : decode cX1_workOut 157 = .ok (.getfield 28, 3) := by decide +kernel
theorem dX1_workOut_160 : decode cX1_workOut 160 = .ok (.getfield 127, 3) := by decide +kernel
theorem dX1_workOut_163 : decode cX1_workOut 163 = .ok (.iload_n 2, 1) := by decide +kernel
theorem dX1_workOut_164 : decode cX1_workOut 164 = .ok (.iaload, 1) := by decide +kernel
theorem dX1_workOut_165 : decode cX1_workOut 165 = .ok (.goto 6, 3) := by decide +kernel
theorem dX1_workOut_168 : decode cX1_workOut 168 = .ok (.iload_n 2, 1) := by decide +kernel
theorem dX1_workOut_169 : decode cX1_workOut 169 = .ok (.iconst 1, 1) := by decide +kernel
theorem dX1_workOut_170 : decode cX1_workOut 170 = .ok (.iadd, 1) := by decide +kernel
theorem dX1_workOut_171 : decode cX1_workOut 171 = .ok (.iaload, 1) := by decide +kernel
theorem dX1_workOut_172 : decode cX1_workOut 172 = .ok (.istore 5, 2) := by decide +kernel
theorem dX1_workOut_174 : decode cX1_workOut 174 = .ok (.aload_n 0, 1) := by decide +kernel
theorem dX1_workOut_175 : decode cX1_workOut 175 = .ok (.getfield 15, 3) := by decide +kernel
theorem dX1_workOut_178 : decode cX1_workOut 178 = .ok (.iload 4, 2) := by decide +kernel
theorem dX1_workOut_180 : decode cX1_workOut 180 = .ok (.ifCond .eq 9, 3) := by decide +kernel
theorem dX1_workOut_183 : decode cX1_workOut 183 = .ok (.iload_n 2, 1) := by decide +kernel
theorem dX1_workOut_184 : decode cX1_workOut 184 = .ok (.iconst 1, 1) := by decide +kernel
theorem dX1_workOut_185 : decode cX1_workOut 185 = .ok (.iadd, 1) := by decide +kernel
theorem dX1_workOut_186 : decode cX1_workOut 186 = .ok (.goto 12, 3) := by decide +kernel
theorem dX1_workOut_189 : decode cX1_workOut 189 = .ok (.aload_n 0, 1) := by decide +kernel
theorem dX1_workOut_190 : decode cX1_workOut 190 = .ok (.getfield 28, 3) := by decide +kernel
theorem dX1_workOut_193 : decode cX1_workOut 193 = .ok (.getfield 127, 3) := by decide +kernel
theorem dX1_workOut_196 : decode cX1_workOut 196 = .ok (.iload_n 2, 1) := by decide +kernel
theorem dX1_workOut_197 : decode cX1_workOut 197 = .ok (.iaload, 1) := by decide +kernel
theorem dX1_workOut_198 : decode cX1_workOut 198 = .ok (.iaload, 1) := by decide +kernel
theorem dX1_workOut_199 : decode cX1_workOut 199 = .ok (.istore 6, 2) := by decide +kernel
theorem dX1_workOut_201 : decode cX1_workOut 201 = .ok (.iload 6, 2) := by decide +kernel
theorem dX1_workOut_203 : decode cX1_workOut 203 = .ok (.ifCond .ne 20, 3) := by decide +kernel
theorem dX1_workOut_206 : decode cX1_workOut 206 = .ok (.iload_n 3, 1) := by decide +kernel
theorem dX1_workOut_207 : decode cX1_workOut 207 = .ok (.iconst 3, 1) := by decide +kernel
theorem dX1_workOut_208 : decode cX1_workOut 208 = .ok (.if_icmp .eq 8, 3) := by decide +kernel
theorem dX1_workOut_211 : decode cX1_workOut 211 = .ok (.iload_n 3, 1) := by decide +kernel
theorem dX1_workOut_212 : decode cX1_workOut 212 = .ok (.iconst 4, 1) := by decide +kernel
theorem dX1_workOut_213 : decode cX1_workOut 213 = .ok (.if_icmp .ne 10, 3) := by decide +kernel
theorem dX1_workOut_216 : decode cX1_workOut 216 = .ok (.aload_n 0, 1) := by decide +kernel
theorem dX1_workOut_217 : decode cX1_workOut 217 = .ok (.iconst 1, 1) := by decide +kernel
theorem dX1_workOut_218 : decode cX1_workOut 218 = .ok (.putfield 73, 3) := by decide +kernel
theorem dX1_workOut_221 : decode cX1_workOut 221 = .ok (.iconst 0, 1) := by decide +kernel
theorem dX1_workOut_222 : decode cX1_workOut 222 = .ok (.ireturn, 1) := by decide +kernel
theorem dX1_workOut_223 : decode cX1_workOut 223 = .ok (.aload_n 0, 1) := by decide +kernel
theorem dX1_workOut_224 : decode cX1_workOut 224 = .ok (.getfield 15, 3) := by decide +kernel
theorem dX1_workOut_227 : decode cX1_workOut 227 = .ok (.iload_n 2, 1) := by decide +kernel
theorem dX1_workOut_228 : decode cX1_workOut 228 = .ok (.iload_n 3, 1) := by decide +kernel
theorem dX1_workOut_229 : decode cX1_workOut 229 = .ok (.iload 5, 2) := by decide +kernel
theorem dX1_workOut_231 : decode cX1_workOut 231 = .ok (.iload 6, 2) := by decide +kernel
theorem dX1_workOut_233 : decode cX1_workOut 233 = .ok (.invokestatic 130, 3) := by decide +kernel
theorem dX1_workOut_236 : decode cX1_workOut 236 = .ok (.iastore, 1) := by decide +kernel
theorem dX1_workOut_237 : decode cX1_workOut 237 = .ok (.iinc 2 (-1), 3) := by decide +kernel
theorem dX1_workOut_240 : decode cX1_workOut 240 = .ok (.goto (-230), 3) := by decide +kernel
theorem dX1_workOut_243 : decode cX1_workOut 243 = .ok (.iconst 1, 1) := by decide +kernel
theorem dX1_workOut_244 : decode cX1_workOut 244 = .ok (.ireturn, 1) := by decide +kernel
theorem dX1_combined_0 : decode cX1_combined 0 = .ok (.iload_n 0, 1) := by decide +kernel
theorem dX1_combined_1 : decode cX1_combined 1 = .ok (.tableswitch 146 0 9 #[55, 59, 63, 67, 79, 91, 102, 113, 124, 135], 55) := by decide +kernel
theorem dX1_combined_56 : decode cX1_combined 56 = .ok (.iload_n 1, 1) := by decide +kernel
theorem dX1_combined_57 : decode cX1_combined 57 = .ok (.iload_n 2, 1) := by decide +kernel
theorem dX1_combined_58 : decode cX1_combined 58 = .ok (.iadd, 1) := by decide +kernel
theorem dX1_combined_59 : decode cX1_combined 59 = .ok (.ireturn, 1) := by decide +kernel
theorem dX1_combined_60 : decode cX1_combined 60 = .ok (.iload_n 1, 1) := by decide +kernel
theorem dX1_combined_61 : decode cX1_combined 61 = .ok (.iload_n 2, 1) := by decide +kernel
theorem dX1_combined_62 : decode cX1_combined 62 = .ok (.isub, 1) := by decide +kernel
theorem dX1_combined_63 : decode cX1_combined 63 = .ok (.ireturn, 1) := by decide +kernel
theorem dX1_combined_64 : decode cX1_combined 64 = .ok (.iload_n 1, 1) := by decide +kernel
theorem dX1_combined_65 : decode cX1_combined 65 = .ok (.iload_n 2, 1) := by decide +kernel
theorem dX1_combined_66 : decode cX1_combined 66 = .ok (.imul, 1) := by decide +kernel
theorem dX1_combined_67 : decode cX1_combined 67 = .ok (.ireturn, 1) := by decide +kernel
theorem dX1_combined_68 : decode cX1_combined 68 = .ok (.iload_n 2, 1) := by decide +kernel
theorem dX1_combined_69 : decode cX1_combined 69 = .ok (.ifCond .ne 7, 3) := by decide +kernel
theorem dX1_combined_72 : decode cX1_combined 72 = .ok (.iconst 0, 1) := by decide +kernel
theorem dX1_combined_73 : decode cX1_combined 73 = .ok (.goto 6, 3) := by decide +kernel
theorem dX1_combined_76 : decode cX1_combined 76 = .ok (.iload_n 1, 1) := by decide +kernel
theorem dX1_combined_77 : decode cX1_combined 77 = .ok (.iload_n 2, 1) := by decide +kernel
theorem dX1_combined_78 : decode cX1_combined 78 = .ok (.idiv, 1) := by decide +kernel
theorem dX1_combined_79 : decode cX1_combined 79 = .ok (.ireturn, 1) := by decide +kernel
theorem dX1_combined_80 : decode cX1_combined 80 = .ok (.iload_n 2, 1) := by decide +kernel
theorem dX1_combined_81 : decode cX1_combined 81 = .ok (.ifCond .ne 7, 3) := by decide +kernel
theorem dX1_combined_84 : decode cX1_combined 84 = .ok (.iconst 0, 1) := by decide +kernel
theorem dX1_combined_85 : decode cX1_combined 85 = .ok (.goto 6, 3) := by decide +kernel
theorem dX1_combined_88 : decode cX1_combined 88 = .ok (.iload_n 1, 1) := by decide +kernel
theorem dX1_combined_89 : decode cX1_combined 89 = .ok (.iload_n 2, 1) := by decide +kernel
theorem dX1_combined_90 : decode cX1_combined 90 = .ok (.irem, 1) := by decide +kernel
theorem dX1_combined_91 : decode cX1_combined 91 = .ok (.ireturn, 1) := by decide +kernel
theorem dX1_combined_92 : decode cX1_combined 92 = .ok (.iload_n 1, 1) := by decide +kernel
theorem dX1_combined_93 : decode cX1_combined 93 = .ok (.iload_n 2, 1) := by decide +kernel
theorem dX1_combined_94 : decode cX1_combined 94 = .ok (.if_icmp .ge 7, 3) := by decide +kernel
theorem dX1_combined_97 : decode cX1_combined 97 = .ok (.iconst 1, 1) := by decide +kernel
theorem dX1_combined_98 : decode cX1_combined 98 = .ok (.goto 4, 3) := by decide +kernel
theorem dX1_combined_101 : decode cX1_combined 101 = .ok (.iconst 0, 1) := by decide +kernel
theorem dX1_combined_102 : decode cX1_combined 102 = .ok (.ireturn, 1) := by decide +kernel
theorem dX1_combined_103 : decode cX1_combined 103 = .ok (.iload_n 1, 1) := by decide +kernel
theorem dX1_combined_104 : decode cX1_combined 104 = .ok (.iload_n 2, 1) := by decide +kernel
theorem dX1_combined_105 : decode cX1_combined 105 = .ok (.if_icmp .gt 7, 3) := by decide +kernel
theorem dX1_combined_108 : decode cX1_combined 108 = .ok (.iconst 1, 1) := by decide +kernel
theorem dX1_combined_109 : decode cX1_combined 109 = .ok (.goto 4, 3) := by decide +kernel
theorem dX1_combined_112 : decode cX1_combined 112 = .ok (.iconst 0, 1) := by decide +kernel
theorem dX1_combined_113 : decode cX1_combined 113 = .ok (.ireturn, 1) := by decide +kernel
theorem dX1_combined_114 : decode cX1_combined 114 = .ok (.iload_n 1, 1) := by decide +kernel
theorem dX1_combined_115 : decode cX1_combined 115 = .ok (.iload_n 2, 1) := by decide +kernel
theorem dX1_combined_116 : decode cX1_combined 116 = .ok (.if_icmp .ne 7, 3) := by decide +kernel
theorem dX1_combined_119 : decode cX1_combined 119 = .ok (.iconst 1, 1) := by decide +kernel
theorem dX1_combined_120 : decode cX1_combined 120 = .ok (.goto 4, 3) := by decide +kernel
theorem dX1_combined_123 : decode cX1_combined 123 = .ok (.iconst 0, 1) := by decide +kernel
theorem dX1_combined_124 : decode cX1_combined 124 = .ok (.ireturn, 1) := by decide +kernel
theorem dX1_combined_125 : decode cX1_combined 125 = .ok (.iload_n 1, 1) := by decide +kernel
theorem dX1_combined_126 : decode cX1_combined 126 = .ok (.iload_n 2, 1) := by decide +kernel
theorem dX1_combined_127 : decode cX1_combined 127 = .ok (.if_icmp .eq 7, 3) := by decide +kernel
theorem dX1_combined_130 : decode cX1_combined 130 = .ok (.iconst 1, 1) := by decide +kernel
theorem dX1_combined_131 : decode cX1_combined 131 = .ok (.goto 4, 3) := by decide +kernel
theorem dX1_combined_134 : decode cX1_combined 134 = .ok (.iconst 0, 1) := by decide +kernel
theorem dX1_combined_135 : decode cX1_combined 135 = .ok (.ireturn, 1) := by decide +kernel
theorem dX1_combined_136 : decode cX1_combined 136 = .ok (.iload_n 1, 1) := by decide +kernel
theorem dX1_combined_137 : decode cX1_combined 137 = .ok (.iload_n 2, 1) := by decide +kernel
theorem dX1_combined_138 : decode cX1_combined 138 = .ok (.if_icmp .le 7, 3) := by decide +kernel
theorem dX1_combined_141 : decode cX1_combined 141 = .ok (.iconst 1, 1) := by decide +kernel
theorem dX1_combined_142 : decode cX1_combined 142 = .ok (.goto 4, 3) := by decide +kernel
theorem dX1_combined_145 : decode cX1_combined 145 = .ok (.iconst 0, 1) := by decide +kernel
theorem dX1_combined_146 : decode cX1_combined 146 = .ok (.ireturn, 1) := by decide +kernel
theorem dX1_combined_147 : decode cX1_combined 147 = .ok (.iload_n 1, 1) := by decide +kernel
theorem dX1_combined_148 : decode cX1_combined 148 = .ok (.iload_n 2, 1) := by decide +kernel
theorem dX1_combined_149 : decode cX1_combined 149 = .ok (.if_icmp .lt 7, 3) := by decide +kernel
theorem dX1_combined_152 : decode cX1_combined 152 = .ok (.iconst 1, 1) := by decide +kernel
theorem dX1_combined_153 : decode cX1_combined 153 = .ok (.goto 4, 3) := by decide +kernel
theorem dX1_combined_156 : decode cX1_combined 156 = .ok (.iconst 0, 1) := by decide +kernel
theorem dX1_combined_157 : decode cX1_combined 157 = .ok (.ireturn, 1) := by decide +kernel
theorem dX2_init_0 : decode cX2_init 0 = .ok (.aload_n 0, 1) := by decide +kernel
theorem dX2_init_1 : decode cX2_init 1 = .ok (.invokespecial 3, 3) := by decide +kernel
theorem dX2_init_4 : decode cX2_init 4 = .ok (.aload_n 0, 1) := by decide +kernel
theorem dX2_init_5 : decode cX2_init 5 = .ok (.sipush 480, 3) := by decide +kernel
theorem dX2_init_8 : decode cX2_init 8 = .ok (.newarray .int, 2) := by decide +kernel
theorem dX2_init_10 : decode cX2_init 10 = .ok (.putfield 9, 3) := by decide +kernel
theorem dX2_init_13 : decode cX2_init 13 = .ok (.aload_n 0, 1) := by decide +kernel
theorem dX2_init_14 : decode cX2_init 14 = .ok (.sipush 480, 3) := by decide +kernel
theorem dX2_init_17 : decode cX2_init 17 = .ok (.newarray .int, 2) := by decide +kernel
theorem dX2_init_19 : decode cX2_init 19 = .ok (.putfield 15, 3) := by decide +kernel
theorem dX2_init_22 : decode cX2_init 22 = .ok (.aload_n 0, 1) := by decide +kernel
theorem dX2_init_23 : decode cX2_init 23 = .ok (.sipush 480, 3) := by decide +kernel
theorem dX2_init_26 : decode cX2_init 26 = .ok (.newarray .int, 2) := by decide +kernel
theorem dX2_init_28 : decode cX2_init 28 = .ok (.putfield 18, 3) := by decide +kernel
theorem dX2_init_31 : decode cX2_init 31 = .ok (.aload_n 0, 1) := by decide +kernel
theorem dX2_init_32 : decode cX2_init 32 = .ok (.sipush 480, 3) := by decide +kernel
theorem dX2_init_35 : decode cX2_init 35 = .ok (.newarray .int, 2) := by decide +kernel
theorem dX2_init_37 : decode cX2_init 37 = .ok (.putfield 21, 3) := by decide +kernel
theorem dX2_init_40 : decode cX2_init 40 = .ok (.aload_n 0, 1) := by decide +kernel
theorem dX2_init_41 : decode cX2_init 41 = .ok (.sipush 7680, 3) := by decide +kernel
theorem dX2_init_44 : decode cX2_init 44 = .ok (.newarray .long, 2) := by decide +kernel
theorem dX2_init_46 : decode cX2_init 46 = .ok (.putfield 24, 3) := by decide +kernel
theorem dX2_init_49 : decode cX2_init 49 = .ok (.aload_n 0, 1) := by decide +kernel
theorem dX2_init_50 : decode cX2_init 50 = .ok (.aload_n 1, 1) := by decide +kernel
theorem dX2_init_51 : decode cX2_init 51 = .ok (.putfield 28, 3) := by decide +kernel
theorem dX2_init_54 : decode cX2_init 54 = .ok (.aload_n 0, 1) := by decide +kernel
theorem dX2_init_55 : decode cX2_init 55 = .ok (.aload_n 2, 1) := by decide +kernel
theorem dX2_init_56 : decode cX2_init 56 = .ok (.putfield 32, 3) := by decide +kernel
theorem dX2_init_59 : decode cX2_init 59 = .ok (.aload_n 0, 1) := by decide +kernel
theorem dX2_init_60 : decode cX2_init 60 = .ok (.aload_n 3, 1) := by decide +kernel
theorem dX2_init_61 : decode cX2_init 61 = .ok (.putfield 36, 3) := by decide +kernel
theorem dX2_init_64 : decode cX2_init 64 = .ok (.aload_n 0, 1) := by decide +kernel
theorem dX2_init_65 : decode cX2_init 65 = .ok (.aload 4, 2) := by decide +kernel
theorem dX2_init_67 : decode cX2_init 67 = .ok (.putfield 40, 3) := by decide +kernel
theorem dX2_init_70 : decode cX2_init 70 = .ok (.aload_n 0, 1) := by decide +kernel
theorem dX2_init_71 : decode cX2_init 71 = .ok (.aload 5, 2) := by decide +kernel
theorem dX2_init_73 : decode cX2_init 73 = .ok (.putfield 44, 3) := by decide +kernel
theorem dX2_init_76 : decode cX2_init 76 = .ok (.return_, 1) := by decide +kernel
theorem dX2_find_0 : decode cX2_find 0 = .ok (.aload_n 0, 1) := by decide +kernel
theorem dX2_find_1 : decode cX2_find 1 = .ok (.getfield 48, 3) := by decide +kernel
theorem dX2_find_4 : decode cX2_find 4 = .ok (.ifCond .eq 4, 3) := by decide +kernel
theorem dX2_find_7 : decode cX2_find 7 = .ok (.return_, 1) := by decide +kernel
theorem dX2_find_8 : decode cX2_find 8 = .ok (.aload_n 0, 1) := by decide +kernel
theorem dX2_find_9 : decode cX2_find 9 = .ok (.iconst 1, 1) := by decide +kernel
theorem dX2_find_10 : decode cX2_find 10 = .ok (.putfield 48, 3) := by decide +kernel
theorem dX2_find_13 : decode cX2_find 13 = .ok (.aload_n 0, 1) := by decide +kernel
theorem dX2_find_14 : decode cX2_find 14 = .ok (.iconst 0, 1) := by decide +kernel
theorem dX2_find_15 : decode cX2_find 15 = .ok (.putfield 52, 3) := by decide +kernel
theorem dX2_find_18 : decode cX2_find 18 = .ok (.aload_n 0, 1) := by decide +kernel
theorem dX2_find_19 : decode cX2_find 19 = .ok (.getfield 40, 3) := by decide +kernel
theorem dX2_find_22 : decode cX2_find 22 = .ok (.getfield 56, 3) := by decide +kernel
theorem dX2_find_25 : decode cX2_find 25 = .ok (.ifCond .ne 4, 3) := by decide +kernel
theorem dX2_find_28 : decode cX2_find 28 = .ok (.return_, 1) := by decide +kernel
theorem dX2_find_29 : decode cX2_find 29 = .ok (.iconst 0, 1) := by decide +kernel
theorem dX2_find_30 : decode cX2_find 30 = .ok (.istore_n 1, 1) := by decide +kernel
theorem dX2_find_31 : decode cX2_find 31 = .ok (.iload_n 1, 1) := by decide +kernel
theorem dX2_find_32 : decode cX2_find 32 = .ok (.aload_n 0, 1) := by decide +kernel
theorem dX2_find_33 : decode cX2_find 33 = .ok (.getfield 28, 3) := by decide +kernel
theorem dX2_find_36 : decode cX2_find 36 = .ok (.getfield 61, 3) := by decide +kernel
theorem dX2_find_39 : decode cX2_find 39 = .ok (.if_icmp .ge 37, 3) := by decide +kernel
theorem dX2_find_42 : decode cX2_find 42 = .ok (.aload_n 0, 1) := by decide +kernel
theorem dX2_find_43 : decode cX2_find 43 = .ok (.getfield 44, 3) := by decide +kernel
theorem dX2_find_46 : decode cX2_find 46 = .ok (.getfield 66, 3) := by decide +kernel
theorem dX2_find_49 : decode cX2_find 49 = .ok (.iconst 1, 1) := by decide +kernel
theorem dX2_find_50 : decode cX2_find 50 = .ok (.aaload, 1) := by decide +kernel
theorem dX2_find_51 : decode cX2_find 51 = .ok (.iload_n 1, 1) := by decide +kernel
theorem dX2_find_52 : decode cX2_find 52 = .ok (.iaload, 1) := by decide +kernel
theorem dX2_find_53 : decode cX2_find 53 = .ok (.istore_n 2, 1) := by decide +kernel
theorem dX2_find_54 : decode cX2_find 54 = .ok (.aload_n 0, 1) := by decide +kernel
theorem dX2_find_55 : decode cX2_find 55 = .ok (.getfield 40, 3) := by decide +kernel
theorem dX2_find_58 : decode cX2_find 58 = .ok (.iload_n 2, 1) := by decide +kernel
theorem dX2_find_59 : decode cX2_find 59 = .ok (.invokevirtual 72, 3) := by decide +kernel
theorem dX2_find_62 : decode cX2_find 62 = .ok (.ifCond .eq 8, 3) := by decide +kernel
theorem dX2_find_65 : decode cX2_find 65 = .ok (.aload_n 0, 1) := by decide +kernel
theorem dX2_find_66 : decode cX2_find 66 = .ok (.iload_n 2, 1) := by decide +kernel
theorem dX2_find_67 : decode cX2_find 67 = .ok (.invokevirtual 76, 3) := by decide +kernel
theorem dX2_find_70 : decode cX2_find 70 = .ok (.iinc 1 1, 3) := by decide +kernel
theorem dX2_find_73 : decode cX2_find 73 = .ok (.goto (-42), 3) := by decide +kernel
theorem dX2_find_76 : decode cX2_find 76 = .ok (.return_, 1) := by decide +kernel
theorem dX2_tryStatement_0 : decode cX2_tryStatement 0 = .ok (.iload_n 1, 1) := by decide +kernel
theorem dX2_tryStatement_1 : decode cX2_tryStatement 1 = .ok (.istore_n 2, 1) := by decide +kernel
theorem dX2_tryStatement_2 : decode cX2_tryStatement 2 = .ok (.iload_n 2, 1) := by decide +kernel
theorem dX2_tryStatement_3 : decode cX2_tryStatement 3 = .ok (.aload_n 0, 1) := by decide +kernel
theorem dX2_tryStatement_4 : decode cX2_tryStatement 4 = .ok (.getfield 28, 3) := by decide +kernel
theorem dX2_tryStatement_7 : decode cX2_tryStatement 7 = .ok (.getfield 80, 3) := by decide +kernel
theorem dX2_tryStatement_10 : decode cX2_tryStatement 10 = .ok (.iload_n 1, 1) := by decide +kernel
theorem dX2_tryStatement_11 : decode cX2_tryStatement 11 = .ok (.iaload, 1) := by decide +kernel
theorem dX2_tryStatement_12 : decode cX2_tryStatement 12 = .ok (.if_icmp .gt 94, 3) := by decide +kernel
theorem dX2_tryStatement_15 : decode cX2_tryStatement 15 = .ok (.aload_n 0, 1) := by decide +kernel
theorem dX2_tryStatement_16 : decode cX2_tryStatement 16 = .ok (.getfield 28, 3) := by decide +kernel
theorem dX2_tryStatement_19 : decode cX2_tryStatement 19 = .ok (.getfield 83, 3) := by decide +kernel
theorem dX2_tryStatement_22 : decode cX2_tryStatement 22 = .ok (.iload_n 2, 1) := by decide +kernel
theorem dX2_tryStatement_23 : decode cX2_tryStatement 23 = .ok (.iaload, 1) := by decide +kernel
theorem dX2_tryStatement_24 : decode cX2_tryStatement 24 = .ok (.istore_n 3, 1) := by decide +kernel
theorem dX2_tryStatement_25 : decode cX2_tryStatement 25 = .ok (.aload_n 0, 1) := by decide +kernel
theorem dX2_tryStatement_26 : decode cX2_tryStatement 26 = .ok (.getfield 28, 3) := by decide +kernel
theorem dX2_tryStatement_29 : decode cX2_tryStatement 29 = .ok (.getfield 86, 3) := by decide +kernel
theorem dX2_tryStatement_32 : decode cX2_tryStatement 32 = .ok (.iload_n 2, 1) := by decide +kernel
theorem dX2_tryStatement_33 : decode cX2_tryStatement 33 = .ok (.iaload, 1) := by decide +kernel
theorem dX2_tryStatement_34 : decode cX2_tryStatement 34 = .ok (.istore 4, 2) := by decide +kernel
theorem dX2_tryStatement_36 : decode cX2_tryStatement 36 = .ok (.aload_n 0, 1) := by decide +kernel
theorem dX2_tryStatement_37 : decode cX2_tryStatement 37 = .ok (.getfield 28, 3) := by decide +kernel
theorem dX2_tryStatement_40 : decode cX2_tryStatement 40 = .ok (.iload_n 2, 1) := by decide +kernel
theorem dX2_tryStatement_41 : decode cX2_tryStatement 41 = .ok (.invokevirtual 89, 3) := by decide +kernel
theorem dX2_tryStatement_44 : decode cX2_tryStatement 44 = .ok (.istore 5, 2) := by decide +kernel
theorem dX2_tryStatement_46 : decode cX2_tryStatement 46 = .ok (.iconst 0, 1) := by decide +kernel
theorem dX2_tryStatement_47 : decode cX2_tryStatement 47 = .ok (.istore 6, 2) := by decide +kernel
theorem dX2_tryStatement_49 : decode cX2_tryStatement 49 = .ok (.iload 6, 2) := by decide +kernel
theorem dX2_tryStatement_51 : decode cX2_tryStatement 51 = .ok (.iload 5, 2) := by decide +kernel
theorem dX2_tryStatement_53 : decode cX2_tryStatement 53 = .ok (.if_icmp .ge 47, 3) := by decide +kernel
theorem dX2_tryStatement_56 : decode cX2_tryStatement 56 = .ok (.aload_n 0, 1) := by decide +kernel
theorem dX2_tryStatement_57 : decode cX2_tryStatement 57 = .ok (.getfield 28, 3) := by decide +kernel
theorem dX2_tryStatement_60 : decode cX2_tryStatement 60 = .ok (.iload_n 2, 1) := by decide +kernel
theorem dX2_tryStatement_61 : decode cX2_tryStatement 61 = .ok (.iload 6, 2) := by decide +kernel
theorem dX2_tryStatement_63 : decode cX2_tryStatement 63 = .ok (.invokevirtual 93, 3) := by decide +kernel
theorem dX2_tryStatement_66 : decode cX2_tryStatement 66 = .ok (.aload_n 0, 1) := by decide +kernel
theorem dX2_tryStatement_67 : decode cX2_tryStatement 67 = .ok (.getfield 36, 3) := by decide +kernel
theorem dX2_tryStatement_70 : decode cX2_tryStatement 70 = .ok (.invokevirtual 97, 3) := by decide +kernel
theorem dX2_tryStatement_73 : decode cX2_tryStatement 73 = .ok (.ifCond .eq 10, 3) := by decide +kernel
theorem dX2_tryStatement_76 : decode cX2_tryStatement 76 = .ok (.aload_n 0, 1) := by decide +kernel
theorem dX2_tryStatement_77 : decode cX2_tryStatement 77 = .ok (.iload_n 2, 1) := by decide +kernel
theorem dX2_tryStatement_78 : decode cX2_tryStatement 78 = .ok (.iload 6, 2) := by decide +kernel
theorem dX2_tryStatement_80 : decode cX2_tryStatement 80 = .ok (.invokevirtual 103, 3) := by decide +kernel
theorem dX2_tryStatement_83 : decode cX2_tryStatement 83 = .ok (.aload_n 0, 1) := by decide +kernel
theorem dX2_tryStatement_84 : decode cX2_tryStatement 84 = .ok (.getfield 28, 3) := by decide +kernel
theorem dX2_tryStatement_87 : decode cX2_tryStatement 87 = .ok (.iload_n 2, 1) := by decide +kernel
theorem dX2_tryStatement_88 : decode cX2_tryStatement 88 = .ok (.iload_n 3, 1) := by decide +kernel
theorem dX2_tryStatement_89 : decode cX2_tryStatement 89 = .ok (.iload 4, 2) := by decide +kernel
theorem dX2_tryStatement_91 : decode cX2_tryStatement 91 = .ok (.invokevirtual 106, 3) := by decide +kernel
theorem dX2_tryStatement_94 : decode cX2_tryStatement 94 = .ok (.iinc 6 1, 3) := by decide +kernel
theorem dX2_tryStatement_97 : decode cX2_tryStatement 97 = .ok (.goto (-48), 3) := by decide +kernel
theorem dX2_tryStatement_100 : decode cX2_tryStatement 100 = .ok (.iinc 2 1, 3) := by decide +kernel
theorem dX2_tryStatement_103 : decode cX2_tryStatement 103 = .ok (.goto (-101), 3) := by decide +kernel
theorem dX2_tryStatement_106 : decode cX2_tryStatement 106 = .ok (.return_, 1) := by decide +kernel
theorem dX2_keep_0 : decode cX2_keep 0 = .ok (.aload_n 0, 1) := by decide +kernel
theorem dX2_keep_1 : decode cX2_keep 1 = .ok (.getfield 52, 3) := by decide +kernel
theorem dX2_keep_4 : decode cX2_keep 4 = .ok (.sipush 480, 3) := by decide +kernel
theorem dX2_keep_7 : decode cX2_keep 7 = .ok (.if_icmp .lt 4, 3) := by decide +kernel
theorem dX2_keep_10 : decode cX2_keep 10 = .ok (.return_, 1) := by decide +kernel
theorem dX2_keep_11 : decode cX2_keep 11 = .ok (.aload_n 0, 1) := by decide +kernel
theorem dX2_keep_12 : decode cX2_keep 12 = .ok (.getfield 9, 3) := by decide +kernel
theorem dX2_keep_15 : decode cX2_keep 15 = .ok (.aload_n 0, 1) := by decide +kernel
theorem dX2_keep_16 : decode cX2_keep 16 = .ok (.getfield 52, 3) := by decide +kernel
theorem dX2_keep_19 : decode cX2_keep 19 = .ok (.iload_n 1, 1) := by decide +kernel
theorem dX2_keep_20 : decode cX2_keep 20 = .ok (.iastore, 1) := by decide +kernel
theorem dX2_keep_21 : decode cX2_keep 21 = .ok (.aload_n 0, 1) := by decide +kernel
theorem dX2_keep_22 : decode cX2_keep 22 = .ok (.getfield 15, 3) := by decide +kernel
theorem dX2_keep_25 : decode cX2_keep 25 = .ok (.aload_n 0, 1) := by decide +kernel
theorem dX2_keep_26 : decode cX2_keep 26 = .ok (.getfield 52, 3) := by decide +kernel
theorem dX2_keep_29 : decode cX2_keep 29 = .ok (.iload_n 2, 1) := by decide +kernel
theorem dX2_keep_30 : decode cX2_keep 30 = .ok (.iastore, 1) := by decide +kernel
theorem dX2_keep_31 : decode cX2_keep 31 = .ok (.aload_n 0, 1) := by decide +kernel
theorem dX2_keep_32 : decode cX2_keep 32 = .ok (.getfield 18, 3) := by decide +kernel
theorem dX2_keep_35 : decode cX2_keep 35 = .ok (.aload_n 0, 1) := by decide +kernel
theorem dX2_keep_36 : decode cX2_keep 36 = .ok (.getfield 52, 3) := by decide +kernel
theorem dX2_keep_39 : decode cX2_keep 39 = .ok (.iconst 0, 1) := by decide +kernel
theorem dX2_keep_40 : decode cX2_keep 40 = .ok (.iastore, 1) := by decide +kernel
theorem dX2_keep_41 : decode cX2_keep 41 = .ok (.iconst 0, 1) := by decide +kernel
theorem dX2_keep_42 : decode cX2_keep 42 = .ok (.istore_n 3, 1) := by decide +kernel
theorem dX2_keep_43 : decode cX2_keep 43 = .ok (.iload_n 3, 1) := by decide +kernel
theorem dX2_keep_44 : decode cX2_keep 44 = .ok (.aload_n 0, 1) := by decide +kernel
theorem dX2_keep_45 : decode cX2_keep 45 = .ok (.getfield 32, 3) := by decide +kernel
theorem dX2_keep_48 : decode cX2_keep 48 = .ok (.getfield 110, 3) := by decide +kernel
theorem dX2_keep_51 : decode cX2_keep 51 = .ok (.if_icmp .ge 82, 3) := by decide +kernel
theorem dX2_keep_54 : decode cX2_keep 54 = .ok (.aload_n 0, 1) := by decide +kernel
theorem dX2_keep_55 : decode cX2_keep 55 = .ok (.getfield 36, 3) := by decide +kernel
theorem dX2_keep_58 : decode cX2_keep 58 = .ok (.iload_n 3, 1) := by decide +kernel
theorem dX2_keep_59 : decode cX2_keep 59 = .ok (.invokevirtual 115, 3) := by decide +kernel
theorem dX2_keep_62 : decode cX2_keep 62 = .ok (.ifCond .eq 27, 3) := by decide +kernel
theorem dX2_keep_65 : decode cX2_keep 65 = .ok (.aload_n 0, 1) := by decide +kernel
theorem dX2_keep_66 : decode cX2_keep 66 = .ok (.getfield 32, 3) := by decide +kernel
theorem dX2_keep_69 : decode cX2_keep 69 = .ok (.iload_n 3, 1) := by decide +kernel
theorem dX2_keep_70 : decode cX2_keep 70 = .ok (.invokevirtual 118, 3) := by decide +kernel
theorem dX2_keep_73 : decode cX2_keep 73 = .ok (.ifCond .eq 16, 3) := by decide +kernel
theorem dX2_keep_76 : decode cX2_keep 76 = .ok (.aload_n 0, 1) := by decide +kernel
theorem dX2_keep_77 : decode cX2_keep 77 = .ok (.getfield 18, 3) := by decide +kernel
theorem dX2_keep_80 : decode cX2_keep 80 = .ok (.aload_n 0, 1) := by decide +kernel
theorem dX2_keep_81 : decode cX2_keep 81 = .ok (.getfield 52, 3) := by decide +kernel
theorem dX2_keep_84 : decode cX2_keep 84 = .ok (.dup2, 1) := by decide +kernel
theorem dX2_keep_85 : decode cX2_keep 85 = .ok (.iaload, 1) := by decide +kernel
theorem dX2_keep_86 : decode cX2_keep 86 = .ok (.iconst 1, 1) := by decide +kernel
theorem dX2_keep_87 : decode cX2_keep 87 = .ok (.iadd, 1) := by decide +kernel
theorem dX2_keep_88 : decode cX2_keep 88 = .ok (.iastore, 1) := by decide +kernel
theorem dX2_keep_89 : decode cX2_keep 89 = .ok (.aload_n 0, 1) := by decide +kernel
theorem dX2_keep_90 : decode cX2_keep 90 = .ok (.getfield 24, 3) := by decide +kernel
theorem dX2_keep_93 : decode cX2_keep 93 = .ok (.aload_n 0, 1) := by decide +kernel
theorem dX2_keep_94 : decode cX2_keep 94 = .ok (.getfield 52, 3) := by decide +kernel
theorem dX2_keep_97 : decode cX2_keep 97 = .ok (.bipush 16, 2) := by decide +kernel
theorem dX2_keep_99 : decode cX2_keep 99 = .ok (.imul, 1) := by decide +kernel
theorem dX2_keep_100 : decode cX2_keep 100 = .ok (.iload_n 3, 1) := by decide +kernel
theorem dX2_keep_101 : decode cX2_keep 101 = .ok (.iadd, 1) := by decide +kernel
theorem dX2_keep_102 : decode cX2_keep 102 = .ok (.aload_n 0, 1) := by decide +kernel
theorem dX2_keep_103 : decode cX2_keep 103 = .ok (.getfield 36, 3) := by decide +kernel
theorem dX2_keep_106 : decode cX2_keep 106 = .ok (.getfield 121, 3) := by decide +kernel
theorem dX2_keep_109 : decode cX2_keep 109 = .ok (.i2l, 1) := by decide +kernel
theorem dX2_keep_110 : decode cX2_keep 110 = .ok (.bipush 32, 2) := by decide +kernel
theorem dX2_keep_112 : decode cX2_keep 112 = .ok (.lshl, 1) := by decide +kernel
theorem dX2_keep_113 : decode cX2_keep 113 = .ok (.aload_n 0, 1) := by decide +kernel
theorem dX2_keep_114 : decode cX2_keep 114 = .ok (.getfield 36, 3) := by decide +kernel
theorem dX2_keep_117 : decode cX2_keep 117 = .ok (.getfield 124, 3) := by decide +kernel
theorem dX2_keep_120 : decode cX2_keep 120 = .ok (.i2l, 1) := by decide +kernel
theorem dX2_keep_121 : decode cX2_keep 121 = .ok (.ldc2_w 127, 3) := by decide +kernel
theorem dX2_keep_124 : decode cX2_keep 124 = .ok (.land, 1) := by decide +kernel
theorem dX2_keep_125 : decode cX2_keep 125 = .ok (.lor, 1) := by decide +kernel
theorem dX2_keep_126 : decode cX2_keep 126 = .ok (.lastore, 1) := by decide +kernel
theorem dX2_keep_127 : decode cX2_keep 127 = .ok (.iinc 3 1, 3) := by decide +kernel
theorem dX2_keep_130 : decode cX2_keep 130 = .ok (.goto (-87), 3) := by decide +kernel
theorem dX2_keep_133 : decode cX2_keep 133 = .ok (.aload_n 0, 1) := by decide +kernel
theorem dX2_keep_134 : decode cX2_keep 134 = .ok (.getfield 21, 3) := by decide +kernel
theorem dX2_keep_137 : decode cX2_keep 137 = .ok (.aload_n 0, 1) := by decide +kernel
theorem dX2_keep_138 : decode cX2_keep 138 = .ok (.getfield 52, 3) := by decide +kernel
theorem dX2_keep_141 : decode cX2_keep 141 = .ok (.aload_n 0, 1) := by decide +kernel
theorem dX2_keep_142 : decode cX2_keep 142 = .ok (.aload_n 0, 1) := by decide +kernel
theorem dX2_keep_143 : decode cX2_keep 143 = .ok (.getfield 52, 3) := by decide +kernel
theorem dX2_keep_146 : decode cX2_keep 146 = .ok (.invokevirtual 129, 3) := by decide +kernel
theorem dX2_keep_149 : decode cX2_keep 149 = .ok (.iastore, 1) := by decide +kernel
theorem dX2_keep_150 : decode cX2_keep 150 = .ok (.aload_n 0, 1) := by decide +kernel
theorem dX2_keep_151 : decode cX2_keep 151 = .ok (.dup, 1) := by decide +kernel
theorem dX2_keep_152 : decode cX2_keep 152 = .ok (.getfield 52, 3) := by decide +kernel
theorem dX2_keep_155 : decode cX2_keep 155 = .ok (.iconst 1, 1) := by decide +kernel
theorem dX2_keep_156 : decode cX2_keep 156 = .ok (.iadd, 1) := by decide +kernel
theorem dX2_keep_157 : decode cX2_keep 157 = .ok (.putfield 52, 3) := by decide +kernel
theorem dX2_keep_160 : decode cX2_keep 160 = .ok (.return_, 1) := by decide +kernel
theorem dX2_firstAlike_0 : decode cX2_firstAlike 0 = .ok (.iconst 0, 1) := by decide +kernel
theorem dX2_firstAlike_1 : decode cX2_firstAlike 1 = .ok (.istore_n 2, 1) := by decide +kernel
theorem dX2_firstAlike_2 : decode cX2_firstAlike 2 = .ok (.iload_n 2, 1) := by decide +kernel
theorem dX2_firstAlike_3 : decode cX2_firstAlike 3 = .ok (.iload_n 1, 1) := by decide +kernel
theorem dX2_firstAlike_4 : decode cX2_firstAlike 4 = .ok (.if_icmp .ge 30, 3) := by decide +kernel
theorem dX2_firstAlike_7 : decode cX2_firstAlike 7 = .ok (.aload_n 0, 1) := by decide +kernel
theorem dX2_firstAlike_8 : decode cX2_firstAlike 8 = .ok (.getfield 21, 3) := by decide +kernel
theorem dX2_firstAlike_11 : decode cX2_firstAlike 11 = .ok (.iload_n 2, 1) := by decide +kernel
theorem dX2_firstAlike_12 : decode cX2_firstAlike 12 = .ok (.iaload, 1) := by decide +kernel
theorem dX2_firstAlike_13 : decode cX2_firstAlike 13 = .ok (.iload_n 2, 1) := by decide +kernel
theorem dX2_firstAlike_14 : decode cX2_firstAlike 14 = .ok (.if_icmp .ne 14, 3) := by decide +kernel
theorem dX2_firstAlike_17 : decode cX2_firstAlike 17 = .ok (.aload_n 0, 1) := by decide +kernel
theorem dX2_firstAlike_18 : decode cX2_firstAlike 18 = .ok (.iload_n 2, 1) := by decide +kernel
theorem dX2_firstAlike_19 : decode cX2_firstAlike 19 = .ok (.iload_n 1, 1) := by decide +kernel
theorem dX2_firstAlike_20 : decode cX2_firstAlike 20 = .ok (.invokevirtual 132, 3) := by decide +kernel
theorem dX2_firstAlike_23 : decode cX2_firstAlike 23 = .ok (.ifCond .eq 5, 3) := by decide +kernel
theorem dX2_firstAlike_26 : decode cX2_firstAlike 26 = .ok (.iload_n 2, 1) := by decide +kernel
theorem dX2_firstAlike_27 : decode cX2_firstAlike 27 = .ok (.ireturn, 1) := by decide +kernel
theorem dX2_firstAlike_28 : decode cX2_firstAlike 28 = .ok (.iinc 2 1, 3) := by decide +kernel
theorem dX2_firstAlike_31 : decode cX2_firstAlike 31 = .ok (.goto (-29), 3) := by decide +kernel
theorem dX2_firstAlike_34 : decode cX2_firstAlike 34 = .ok (.iload_n 1, 1) := by decide +kernel
theorem dX2_firstAlike_35 : decode cX2_firstAlike 35 = .ok (.ireturn, 1) := by decide +kernel
theorem dX2_endAlike_0 : decode cX2_endAlike 0 = .ok (.iconst 0, 1) := by decide +kernel
theorem dX2_endAlike_1 : decode cX2_endAlike 1 = .ok (.istore_n 3, 1) := by decide +kernel
theorem dX2_endAlike_2 : decode cX2_endAlike 2 = .ok (.iload_n 3, 1) := by decide +kernel
theorem dX2_endAlike_3 : decode cX2_endAlike 3 = .ok (.aload_n 0, 1) := by decide +kernel
theorem dX2_endAlike_4 : decode cX2_endAlike 4 = .ok (.getfield 32, 3) := by decide +kernel
theorem dX2_endAlike_7 : decode cX2_endAlike 7 = .ok (.getfield 110, 3) := by decide +kernel
theorem dX2_endAlike_10 : decode cX2_endAlike 10 = .ok (.if_icmp .ge 37, 3) := by decide +kernel
theorem dX2_endAlike_13 : decode cX2_endAlike 13 = .ok (.aload_n 0, 1) := by decide +kernel
theorem dX2_endAlike_14 : decode cX2_endAlike 14 = .ok (.getfield 24, 3) := by decide +kernel
theorem dX2_endAlike_17 : decode cX2_endAlike 17 = .ok (.iload_n 1, 1) := by decide +kernel
theorem dX2_endAlike_18 : decode cX2_endAlike 18 = .ok (.bipush 16, 2) := by decide +kernel
theorem dX2_endAlike_20 : decode cX2_endAlike 20 = .ok (.imul, 1) := by decide +kernel
theorem dX2_endAlike_21 : decode cX2_endAlike 21 = .ok (.iload_n 3, 1) := by decide +kernel
theorem dX2_endAlike_22 : decode cX2_endAlike 22 = .ok (.iadd, 1) := by decide +kernel
theorem dX2_endAlike_23 : decode cX2_endAlike 23 = .ok (.laload, 1) := by decide +kernel
theorem dX2_endAlike_24 : decode cX2_endAlike 24 = .ok (.aload_n 0, 1) := by decide +kernel
theorem dX2_endAlike_25 : decode cX2_endAlike 25 = .ok (.getfield 24, 3) := by decide +kernel
theorem dX2_endAlike_28 : decode cX2_endAlike 28 = .ok (.iload_n 2, 1) := by decide +kernel
theorem dX2_endAlike_29 : decode cX2_endAlike 29 = .ok (.bipush 16, 2) := by decide +kernel
theorem dX2_endAlike_31 : decode cX2_endAlike 31 = .ok (.imul, 1) := by decide +kernel
theorem dX2_endAlike_32 : decode cX2_endAlike 32 = .ok (.iload_n 3, 1) := by decide +kernel
theorem dX2_endAlike_33 : decode cX2_endAlike 33 = .ok (.iadd, 1) := by decide +kernel
theorem dX2_endAlike_34 : decode cX2_endAlike 34 = .ok (.laload, 1) := by decide +kernel
theorem dX2_endAlike_35 : decode cX2_endAlike 35 = .ok (.lcmp, 1) := by decide +kernel
theorem dX2_endAlike_36 : decode cX2_endAlike 36 = .ok (.ifCond .eq 5, 3) := by decide +kernel
theorem dX2_endAlike_39 : decode cX2_endAlike 39 = .ok (.iconst 0, 1) := by decide +kernel
theorem dX2_endAlike_40 : decode cX2_endAlike 40 = .ok (.ireturn, 1) := by decide +kernel
theorem dX2_endAlike_41 : decode cX2_endAlike 41 = .ok (.iinc 3 1, 3) := by decide +kernel
theorem dX2_endAlike_44 : decode cX2_endAlike 44 = .ok (.goto (-42), 3) := by decide +kernel
theorem dX2_endAlike_47 : decode cX2_endAlike 47 = .ok (.iconst 1, 1) := by decide +kernel
theorem dX2_endAlike_48 : decode cX2_endAlike 48 = .ok (.ireturn, 1) := by decide +kernel
theorem dX2_kinds_0 : decode cX2_kinds 0 = .ok (.iconst 0, 1) := by decide +kernel
theorem dX2_kinds_1 : decode cX2_kinds 1 = .ok (.istore_n 1, 1) := by decide +kernel
theorem dX2_kinds_2 : decode cX2_kinds 2 = .ok (.iconst 0, 1) := by decide +kernel
theorem dX2_kinds_3 : decode cX2_kinds 3 = .ok (.istore_n 2, 1) := by decide +kernel
theorem dX2_kinds_4 : decode cX2_kinds 4 = .ok (.iload_n 2, 1) := by decide +kernel
theorem dX2_kinds_5 : decode cX2_kinds 5 = .ok (.aload_n 0, 1) := by decide +kernel
theorem dX2_kinds_6 : decode cX2_kinds 6 = .ok (.getfield 52, 3) := by decide +kernel
theorem dX2_kinds_9 : decode cX2_kinds 9 = .ok (.if_icmp .ge 22, 3) := by decide +kernel
theorem dX2_kinds_12 : decode cX2_kinds 12 = .ok (.aload_n 0, 1) := by decide +kernel
theorem dX2_kinds_13 : decode cX2_kinds 13 = .ok (.getfield 21, 3) := by decide +kernel
theorem dX2_kinds_16 : decode cX2_kinds 16 = .ok (.iload_n 2, 1) := by decide +kernel
theorem dX2_kinds_17 : decode cX2_kinds 17 = .ok (.iaload, 1) := by decide +kernel
theorem dX2_kinds_18 : decode cX2_kinds 18 = .ok (.iload_n 2, 1) := by decide +kernel
theorem dX2_kinds_19 : decode cX2_kinds 19 = .ok (.if_icmp .ne 6, 3) := by decide +kernel
theorem dX2_kinds_22 : decode cX2_kinds 22 = .ok (.iinc 1 1, 3) := by decide +kernel
theorem dX2_kinds_25 : decode cX2_kinds 25 = .ok (.iinc 2 1, 3) := by decide +kernel
theorem dX2_kinds_28 : decode cX2_kinds 28 = .ok (.goto (-24), 3) := by decide +kernel
theorem dX2_kinds_31 : decode cX2_kinds 31 = .ok (.iload_n 1, 1) := by decide +kernel
theorem dX2_kinds_32 : decode cX2_kinds 32 = .ok (.ireturn, 1) := by decide +kernel
theorem dX2_fittest_0 : decode cX2_fittest 0 = .ok (.iconst (-1), 1) := by decide +kernel
theorem dX2_fittest_1 : decode cX2_fittest 1 = .ok (.istore_n 1, 1) := by decide +kernel
theorem dX2_fittest_2 : decode cX2_fittest 2 = .ok (.iconst 0, 1) := by decide +kernel
theorem dX2_fittest_3 : decode cX2_fittest 3 = .ok (.istore_n 2, 1) := by decide +kernel
theorem dX2_fittest_4 : decode cX2_fittest 4 = .ok (.iload_n 2, 1) := by decide +kernel
theorem dX2_fittest_5 : decode cX2_fittest 5 = .ok (.aload_n 0, 1) := by decide +kernel
theorem dX2_fittest_6 : decode cX2_fittest 6 = .ok (.getfield 52, 3) := by decide +kernel
theorem dX2_fittest_9 : decode cX2_fittest 9 = .ok (.if_icmp .ge 31, 3) := by decide +kernel
theorem dX2_fittest_12 : decode cX2_fittest 12 = .ok (.iload_n 1, 1) := by decide +kernel
theorem dX2_fittest_13 : decode cX2_fittest 13 = .ok (.iconst (-1), 1) := by decide +kernel
theorem dX2_fittest_14 : decode cX2_fittest 14 = .ok (.if_icmp .eq 18, 3) := by decide +kernel
theorem dX2_fittest_17 : decode cX2_fittest 17 = .ok (.aload_n 0, 1) := by decide +kernel
theorem dX2_fittest_18 : decode cX2_fittest 18 = .ok (.getfield 18, 3) := by decide +kernel
theorem dX2_fittest_21 : decode cX2_fittest 21 = .ok (.iload_n 2, 1) := by decide +kernel
theorem dX2_fittest_22 : decode cX2_fittest 22 = .ok (.iaload, 1) := by decide +kernel
theorem dX2_fittest_23 : decode cX2_fittest 23 = .ok (.aload_n 0, 1) := by decide +kernel
theorem dX2_fittest_24 : decode cX2_fittest 24 = .ok (.getfield 18, 3) := by decide +kernel
theorem dX2_fittest_27 : decode cX2_fittest 27 = .ok (.iload_n 1, 1) := by decide +kernel
theorem dX2_fittest_28 : decode cX2_fittest 28 = .ok (.iaload, 1) := by decide +kernel
theorem dX2_fittest_29 : decode cX2_fittest 29 = .ok (.if_icmp .le 5, 3) := by decide +kernel
theorem dX2_fittest_32 : decode cX2_fittest 32 = .ok (.iload_n 2, 1) := by decide +kernel
theorem dX2_fittest_33 : decode cX2_fittest 33 = .ok (.istore_n 1, 1) := by decide +kernel
theorem dX2_fittest_34 : decode cX2_fittest 34 = .ok (.iinc 2 1, 3) := by decide +kernel
theorem dX2_fittest_37 : decode cX2_fittest 37 = .ok (.goto (-33), 3) := by decide +kernel
theorem dX2_fittest_40 : decode cX2_fittest 40 = .ok (.iload_n 1, 1) := by decide +kernel
theorem dX2_fittest_41 : decode cX2_fittest 41 = .ok (.ireturn, 1) := by decide +kernel
theorem dX3_init_0 : decode cX3_init 0 = .ok (.aload_n 0, 1) := by decide +kernel
theorem dX3_init_1 : decode cX3_init 1 = .ok (.invokespecial 3, 3) := by decide +kernel
theorem dX3_init_4 : decode cX3_init 4 = .ok (.aload_n 0, 1) := by decide +kernel
theorem dX3_init_5 : decode cX3_init 5 = .ok (.sipush 480, 3) := by decide +kernel
theorem dX3_init_8 : decode cX3_init 8 = .ok (.newarray .long, 2) := by decide +kernel
theorem dX3_init_10 : decode cX3_init 10 = .ok (.putfield 9, 3) := by decide +kernel
theorem dX3_init_13 : decode cX3_init 13 = .ok (.aload_n 0, 1) := by decide +kernel
theorem dX3_init_14 : decode cX3_init 14 = .ok (.bipush 60, 2) := by decide +kernel
theorem dX3_init_16 : decode cX3_init 16 = .ok (.newarray .int, 2) := by decide +kernel
theorem dX3_init_18 : decode cX3_init 18 = .ok (.putfield 15, 3) := by decide +kernel
theorem dX3_init_21 : decode cX3_init 21 = .ok (.aload_n 0, 1) := by decide +kernel
theorem dX3_init_22 : decode cX3_init 22 = .ok (.aload_n 1, 1) := by decide +kernel
theorem dX3_init_23 : decode cX3_init 23 = .ok (.putfield 19, 3) := by decide +kernel
theorem dX3_init_26 : decode cX3_init 26 = .ok (.aload_n 0, 1) := by decide +kernel
theorem dX3_init_27 : decode cX3_init 27 = .ok (.aload_n 2, 1) := by decide +kernel
theorem dX3_init_28 : decode cX3_init 28 = .ok (.putfield 23, 3) := by decide +kernel
theorem dX3_init_31 : decode cX3_init 31 = .ok (.aload_n 0, 1) := by decide +kernel
theorem dX3_init_32 : decode cX3_init 32 = .ok (.aload_n 3, 1) := by decide +kernel
theorem dX3_init_33 : decode cX3_init 33 = .ok (.putfield 27, 3) := by decide +kernel
theorem dX3_init_36 : decode cX3_init 36 = .ok (.aload_n 0, 1) := by decide +kernel
theorem dX3_init_37 : decode cX3_init 37 = .ok (.aload 4, 2) := by decide +kernel
theorem dX3_init_39 : decode cX3_init 39 = .ok (.putfield 31, 3) := by decide +kernel
theorem dX3_init_42 : decode cX3_init 42 = .ok (.aload_n 0, 1) := by decide +kernel
theorem dX3_init_43 : decode cX3_init 43 = .ok (.aload 5, 2) := by decide +kernel
theorem dX3_init_45 : decode cX3_init 45 = .ok (.putfield 35, 3) := by decide +kernel
theorem dX3_init_48 : decode cX3_init 48 = .ok (.return_, 1) := by decide +kernel
theorem dX3_find_0 : decode cX3_find 0 = .ok (.aload_n 0, 1) := by decide +kernel
theorem dX3_find_1 : decode cX3_find 1 = .ok (.getfield 39, 3) := by decide +kernel
theorem dX3_find_4 : decode cX3_find 4 = .ok (.ifCond .eq 4, 3) := by decide +kernel
theorem dX3_find_7 : decode cX3_find 7 = .ok (.return_, 1) := by decide +kernel
theorem dX3_find_8 : decode cX3_find 8 = .ok (.aload_n 0, 1) := by decide +kernel
theorem dX3_find_9 : decode cX3_find 9 = .ok (.iconst 1, 1) := by decide +kernel
theorem dX3_find_10 : decode cX3_find 10 = .ok (.putfield 39, 3) := by decide +kernel
theorem dX3_find_13 : decode cX3_find 13 = .ok (.aload_n 0, 1) := by decide +kernel
theorem dX3_find_14 : decode cX3_find 14 = .ok (.iconst 0, 1) := by decide +kernel
theorem dX3_find_15 : decode cX3_find 15 = .ok (.putfield 43, 3) := by decide +kernel
theorem dX3_find_18 : decode cX3_find 18 = .ok (.aload_n 0, 1) := by decide +kernel
theorem dX3_find_19 : decode cX3_find 19 = .ok (.getfield 31, 3) := by decide +kernel
theorem dX3_find_22 : decode cX3_find 22 = .ok (.getfield 46, 3) := by decide +kernel
theorem dX3_find_25 : decode cX3_find 25 = .ok (.ifCond .eq 7, 3) := by decide +kernel
theorem dX3_find_28 : decode cX3_find 28 = .ok (.iload_n 1, 1) := by decide +kernel
theorem dX3_find_29 : decode cX3_find 29 = .ok (.ifCond .le 4, 3) := by decide +kernel
theorem dX3_find_32 : decode cX3_find 32 = .ok (.return_, 1) := by decide +kernel
theorem dX3_find_33 : decode cX3_find 33 = .ok (.aload_n 0, 1) := by decide +kernel
theorem dX3_find_34 : decode cX3_find 34 = .ok (.lconst 0, 1) := by decide +kernel
theorem dX3_find_35 : decode cX3_find 35 = .ok (.putfield 52, 3) := by decide +kernel
theorem dX3_find_38 : decode cX3_find 38 = .ok (.iconst 0, 1) := by decide +kernel
theorem dX3_find_39 : decode cX3_find 39 = .ok (.istore_n 2, 1) := by decide +kernel
theorem dX3_find_40 : decode cX3_find 40 = .ok (.iload_n 2, 1) := by decide +kernel
theorem dX3_find_41 : decode cX3_find 41 = .ok (.bipush 6, 2) := by decide +kernel
theorem dX3_find_43 : decode cX3_find 43 = .ok (.if_icmp .ge 42, 3) := by decide +kernel
theorem dX3_find_46 : decode cX3_find 46 = .ok (.iload_n 2, 1) := by decide +kernel
theorem dX3_find_47 : decode cX3_find 47 = .ok (.aload_n 0, 1) := by decide +kernel
theorem dX3_find_48 : decode cX3_find 48 = .ok (.getfield 19, 3) := by decide +kernel
theorem dX3_find_51 : decode cX3_find 51 = .ok (.getfield 56, 3) := by decide +kernel
theorem dX3_find_54 : decode cX3_find 54 = .ok (.if_icmp .ge 31, 3) := by decide +kernel
theorem dX3_find_57 : decode cX3_find 57 = .ok (.aload_n 0, 1) := by decide +kernel
theorem dX3_find_58 : decode cX3_find 58 = .ok (.dup, 1) := by decide +kernel
theorem dX3_find_59 : decode cX3_find 59 = .ok (.getfield 52, 3) := by decide +kernel
theorem dX3_find_62 : decode cX3_find 62 = .ok (.lconst 1, 1) := by decide +kernel
theorem dX3_find_63 : decode cX3_find 63 = .ok (.aload_n 0, 1) := by decide +kernel
theorem dX3_find_64 : decode cX3_find 64 = .ok (.getfield 35, 3) := by decide +kernel
theorem dX3_find_67 : decode cX3_find 67 = .ok (.getfield 61, 3) := by decide +kernel
theorem dX3_find_70 : decode cX3_find 70 = .ok (.iconst 1, 1) := by decide +kernel
theorem dX3_find_71 : decode cX3_find 71 = .ok (.aaload, 1) := by decide +kernel
theorem dX3_find_72 : decode cX3_find 72 = .ok (.iload_n 2, 1) := by decide +kernel
theorem dX3_find_73 : decode cX3_find 73 = .ok (.iaload, 1) := by decide +kernel
theorem dX3_find_74 : decode cX3_find 74 = .ok (.lshl, 1) := by decide +kernel
theorem dX3_find_75 : decode cX3_find 75 = .ok (.lor, 1) := by decide +kernel
theorem dX3_find_76 : decode cX3_find 76 = .ok (.putfield 52, 3) := by decide +kernel
theorem dX3_find_79 : decode cX3_find 79 = .ok (.iinc 2 1, 3) := by decide +kernel
theorem dX3_find_82 : decode cX3_find 82 = .ok (.goto (-42), 3) := by decide +kernel
theorem dX3_find_85 : decode cX3_find 85 = .ok (.aload_n 0, 1) := by decide +kernel
theorem dX3_find_86 : decode cX3_find 86 = .ok (.invokevirtual 67, 3) := by decide +kernel
theorem dX3_find_89 : decode cX3_find 89 = .ok (.iconst 0, 1) := by decide +kernel
theorem dX3_find_90 : decode cX3_find 90 = .ok (.istore_n 2, 1) := by decide +kernel
theorem dX3_find_91 : decode cX3_find 91 = .ok (.iload_n 2, 1) := by decide +kernel
theorem dX3_find_92 : decode cX3_find 92 = .ok (.aload_n 0, 1) := by decide +kernel
theorem dX3_find_93 : decode cX3_find 93 = .ok (.getfield 19, 3) := by decide +kernel
theorem dX3_find_96 : decode cX3_find 96 = .ok (.getfield 70, 3) := by decide +kernel
theorem dX3_find_99 : decode cX3_find 99 = .ok (.if_icmp .ge 33, 3) := by decide +kernel
theorem dX3_find_102 : decode cX3_find 102 = .ok (.aload_n 0, 1) := by decide +kernel
theorem dX3_find_103 : decode cX3_find 103 = .ok (.getfield 43, 3) := by decide +kernel
theorem dX3_find_106 : decode cX3_find 106 = .ok (.ifCond .ne 26, 3) := by decide +kernel
theorem dX3_find_109 : decode cX3_find 109 = .ok (.aload_n 0, 1) := by decide +kernel
theorem dX3_find_110 : decode cX3_find 110 = .ok (.aload_n 0, 1) := by decide +kernel
theorem dX3_find_111 : decode cX3_find 111 = .ok (.getfield 52, 3) := by decide +kernel
theorem dX3_find_114 : decode cX3_find 114 = .ok (.iload_n 2, 1) := by decide +kernel
theorem dX3_find_115 : decode cX3_find 115 = .ok (.invokevirtual 73, 3) := by decide +kernel
theorem dX3_find_118 : decode cX3_find 118 = .ok (.ifCond .eq 8, 3) := by decide +kernel
theorem dX3_find_121 : decode cX3_find 121 = .ok (.aload_n 0, 1) := by decide +kernel
theorem dX3_find_122 : decode cX3_find 122 = .ok (.iload_n 2, 1) := by decide +kernel
theorem dX3_find_123 : decode cX3_find 123 = .ok (.invokevirtual 77, 3) := by decide +kernel
theorem dX3_find_126 : decode cX3_find 126 = .ok (.iinc 2 1, 3) := by decide +kernel
theorem dX3_find_129 : decode cX3_find 129 = .ok (.goto (-38), 3) := by decide +kernel
theorem dX3_find_132 : decode cX3_find 132 = .ok (.return_, 1) := by decide +kernel
theorem dX3_isIn_0 : decode cX3_isIn 0 = .ok (.lload_n 1, 1) := by decide +kernel
theorem dX3_isIn_1 : decode cX3_isIn 1 = .ok (.aload_n 0, 1) := by decide +kernel
theorem dX3_isIn_2 : decode cX3_isIn 2 = .ok (.getfield 19, 3) := by decide +kernel
theorem dX3_isIn_5 : decode cX3_isIn 5 = .ok (.getfield 81, 3) := by decide +kernel
theorem dX3_isIn_8 : decode cX3_isIn 8 = .ok (.iload_n 3, 1) := by decide +kernel
theorem dX3_isIn_9 : decode cX3_isIn 9 = .ok (.iaload, 1) := by decide +kernel
theorem dX3_isIn_10 : decode cX3_isIn 10 = .ok (.lshr, 1) := by decide +kernel
theorem dX3_isIn_11 : decode cX3_isIn 11 = .ok (.lconst 1, 1) := by decide +kernel
theorem dX3_isIn_12 : decode cX3_isIn 12 = .ok (.land, 1) := by decide +kernel
theorem dX3_isIn_13 : decode cX3_isIn 13 = .ok (.lconst 1, 1) := by decide +kernel
theorem dX3_isIn_14 : decode cX3_isIn 14 = .ok (.lcmp, 1) := by decide +kernel
theorem dX3_isIn_15 : decode cX3_isIn 15 = .ok (.ifCond .ne 7, 3) := by decide +kernel
theorem dX3_isIn_18 : decode cX3_isIn 18 = .ok (.iconst 1, 1) := by decide +kernel
theorem dX3_isIn_19 : decode cX3_isIn 19 = .ok (.goto 4, 3) := by decide +kernel
theorem dX3_isIn_22 : decode cX3_isIn 22 = .ok (.iconst 0, 1) := by decide +kernel
theorem dX3_isIn_23 : decode cX3_isIn 23 = .ok (.ireturn, 1) := by decide +kernel
theorem dX3_learnWhatFails_0 : decode cX3_learnWhatFails 0 = .ok (.iconst 0, 1) := by decide +kernel
theorem dX3_learnWhatFails_1 : decode cX3_learnWhatFails 1 = .ok (.istore_n 1, 1) := by decide +kernel
theorem dX3_learnWhatFails_2 : decode cX3_learnWhatFails 2 = .ok (.iconst 0, 1) := by decide +kernel
theorem dX3_learnWhatFails_3 : decode cX3_learnWhatFails 3 = .ok (.istore_n 2, 1) := by decide +kernel
theorem dX3_learnWhatFails_4 : decode cX3_learnWhatFails 4 = .ok (.iload_n 2, 1) := by decide +kernel
theorem dX3_learnWhatFails_5 : decode cX3_learnWhatFails 5 = .ok (.aload_n 0, 1) := by decide +kernel
theorem dX3_learnWhatFails_6 : decode cX3_learnWhatFails 6 = .ok (.getfield 19, 3) := by decide +kernel
theorem dX3_learnWhatFails_9 : decode cX3_learnWhatFails 9 = .ok (.getfield 70, 3) := by decide +kernel
theorem dX3_learnWhatFails_12 : decode cX3_learnWhatFails 12 = .ok (.if_icmp .ge 120, 3) := by decide +kernel
theorem dX3_learnWhatFails_15 : decode cX3_learnWhatFails 15 = .ok (.aload_n 0, 1) := by decide +kernel
theorem dX3_learnWhatFails_16 : decode cX3_learnWhatFails 16 = .ok (.getfield 15, 3) := by decide +kernel
theorem dX3_learnWhatFails_19 : decode cX3_learnWhatFails 19 = .ok (.iload_n 2, 1) := by decide +kernel
theorem dX3_learnWhatFails_20 : decode cX3_learnWhatFails 20 = .ok (.iload_n 1, 1) := by decide +kernel
theorem dX3_learnWhatFails_21 : decode cX3_learnWhatFails 21 = .ok (.iastore, 1) := by decide +kernel
theorem dX3_learnWhatFails_22 : decode cX3_learnWhatFails 22 = .ok (.aload_n 0, 1) := by decide +kernel
theorem dX3_learnWhatFails_23 : decode cX3_learnWhatFails 23 = .ok (.aload_n 0, 1) := by decide +kernel
theorem dX3_learnWhatFails_24 : decode cX3_learnWhatFails 24 = .ok (.getfield 52, 3) := by decide +kernel
theorem dX3_learnWhatFails_27 : decode cX3_learnWhatFails 27 = .ok (.iload_n 2, 1) := by decide +kernel
theorem dX3_learnWhatFails_28 : decode cX3_learnWhatFails 28 = .ok (.invokevirtual 73, 3) := by decide +kernel
theorem dX3_learnWhatFails_31 : decode cX3_learnWhatFails 31 = .ok (.ifCond .eq 14, 3) := by decide +kernel
theorem dX3_learnWhatFails_34 : decode cX3_learnWhatFails 34 = .ok (.aload_n 0, 1) := by decide +kernel
theorem dX3_learnWhatFails_35 : decode cX3_learnWhatFails 35 = .ok (.getfield 19, 3) := by decide +kernel
theorem dX3_learnWhatFails_38 : decode cX3_learnWhatFails 38 = .ok (.iload_n 2, 1) := by decide +kernel
theorem dX3_learnWhatFails_39 : decode cX3_learnWhatFails 39 = .ok (.invokevirtual 84, 3) := by decide +kernel
theorem dX3_learnWhatFails_42 : decode cX3_learnWhatFails 42 = .ok (.goto 4, 3) := by decide +kernel
theorem dX3_learnWhatFails_45 : decode cX3_learnWhatFails 45 = .ok (.iconst 0, 1) := by decide +kernel
theorem dX3_learnWhatFails_46 : decode cX3_learnWhatFails 46 = .ok (.istore_n 3, 1) := by decide +kernel
theorem dX3_learnWhatFails_47 : decode cX3_learnWhatFails 47 = .ok (.aload_n 0, 1) := by decide +kernel
theorem dX3_learnWhatFails_48 : decode cX3_learnWhatFails 48 = .ok (.getfield 19, 3) := by decide +kernel
theorem dX3_learnWhatFails_51 : decode cX3_learnWhatFails 51 = .ok (.getfield 88, 3) := by decide +kernel
theorem dX3_learnWhatFails_54 : decode cX3_learnWhatFails 54 = .ok (.iload_n 2, 1) := by decide +kernel
theorem dX3_learnWhatFails_55 : decode cX3_learnWhatFails 55 = .ok (.iaload, 1) := by decide +kernel
theorem dX3_learnWhatFails_56 : decode cX3_learnWhatFails 56 = .ok (.istore 4, 2) := by decide +kernel
theorem dX3_learnWhatFails_58 : decode cX3_learnWhatFails 58 = .ok (.aload_n 0, 1) := by decide +kernel
theorem dX3_learnWhatFails_59 : decode cX3_learnWhatFails 59 = .ok (.getfield 19, 3) := by decide +kernel
theorem dX3_learnWhatFails_62 : decode cX3_learnWhatFails 62 = .ok (.getfield 91, 3) := by decide +kernel
theorem dX3_learnWhatFails_65 : decode cX3_learnWhatFails 65 = .ok (.iload_n 2, 1) := by decide +kernel
theorem dX3_learnWhatFails_66 : decode cX3_learnWhatFails 66 = .ok (.iaload, 1) := by decide +kernel
theorem dX3_learnWhatFails_67 : decode cX3_learnWhatFails 67 = .ok (.istore 5, 2) := by decide +kernel
theorem dX3_learnWhatFails_69 : decode cX3_learnWhatFails 69 = .ok (.iconst 0, 1) := by decide +kernel
theorem dX3_learnWhatFails_70 : decode cX3_learnWhatFails 70 = .ok (.istore 6, 2) := by decide +kernel
theorem dX3_learnWhatFails_72 : decode cX3_learnWhatFails 72 = .ok (.iload 6, 2) := by decide +kernel
theorem dX3_learnWhatFails_74 : decode cX3_learnWhatFails 74 = .ok (.iload_n 3, 1) := by decide +kernel
theorem dX3_learnWhatFails_75 : decode cX3_learnWhatFails 75 = .ok (.if_icmp .ge 51, 3) := by decide +kernel
theorem dX3_learnWhatFails_78 : decode cX3_learnWhatFails 78 = .ok (.iload_n 1, 1) := by decide +kernel
theorem dX3_learnWhatFails_79 : decode cX3_learnWhatFails 79 = .ok (.sipush 480, 3) := by decide +kernel
theorem dX3_learnWhatFails_82 : decode cX3_learnWhatFails 82 = .ok (.if_icmp .ge 44, 3) := by decide +kernel
theorem dX3_learnWhatFails_85 : decode cX3_learnWhatFails 85 = .ok (.aload_n 0, 1) := by decide +kernel
theorem dX3_learnWhatFails_86 : decode cX3_learnWhatFails 86 = .ok (.getfield 19, 3) := by decide +kernel
theorem dX3_learnWhatFails_89 : decode cX3_learnWhatFails 89 = .ok (.iload_n 2, 1) := by decide +kernel
theorem dX3_learnWhatFails_90 : decode cX3_learnWhatFails 90 = .ok (.iload 6, 2) := by decide +kernel
theorem dX3_learnWhatFails_92 : decode cX3_learnWhatFails 92 = .ok (.invokevirtual 94, 3) := by decide +kernel
theorem dX3_learnWhatFails_95 : decode cX3_learnWhatFails 95 = .ok (.aload_n 0, 1) := by decide +kernel
theorem dX3_learnWhatFails_96 : decode cX3_learnWhatFails 96 = .ok (.getfield 9, 3) := by decide +kernel
theorem dX3_learnWhatFails_99 : decode cX3_learnWhatFails 99 = .ok (.iload_n 1, 1) := by decide +kernel
theorem dX3_learnWhatFails_100 : decode cX3_learnWhatFails 100 = .ok (.aload_n 0, 1) := by decide +kernel
theorem dX3_learnWhatFails_101 : decode cX3_learnWhatFails 101 = .ok (.invokevirtual 98, 3) := by decide +kernel
theorem dX3_learnWhatFails_104 : decode cX3_learnWhatFails 104 = .ok (.lastore, 1) := by decide +kernel
theorem dX3_learnWhatFails_105 : decode cX3_learnWhatFails 105 = .ok (.iinc 1 1, 3) := by decide +kernel
theorem dX3_learnWhatFails_108 : decode cX3_learnWhatFails 108 = .ok (.aload_n 0, 1) := by decide +kernel
theorem dX3_learnWhatFails_109 : decode cX3_learnWhatFails 109 = .ok (.getfield 19, 3) := by decide +kernel
theorem dX3_learnWhatFails_112 : decode cX3_learnWhatFails 112 = .ok (.iload_n 2, 1) := by decide +kernel
theorem dX3_learnWhatFails_113 : decode cX3_learnWhatFails 113 = .ok (.iload 4, 2) := by decide +kernel
theorem dX3_learnWhatFails_115 : decode cX3_learnWhatFails 115 = .ok (.iload 5, 2) := by decide +kernel
theorem dX3_learnWhatFails_117 : decode cX3_learnWhatFails 117 = .ok (.invokevirtual 102, 3) := by decide +kernel
theorem dX3_learnWhatFails_120 : decode cX3_learnWhatFails 120 = .ok (.iinc 6 1, 3) := by decide +kernel
theorem dX3_learnWhatFails_123 : decode cX3_learnWhatFails 123 = .ok (.goto (-51), 3) := by decide +kernel
theorem dX3_learnWhatFails_126 : decode cX3_learnWhatFails 126 = .ok (.iinc 2 1, 3) := by decide +kernel
theorem dX3_learnWhatFails_129 : decode cX3_learnWhatFails 129 = .ok (.goto (-125), 3) := by decide +kernel
theorem dX3_learnWhatFails_132 : decode cX3_learnWhatFails 132 = .ok (.return_, 1) := by decide +kernel
theorem dX3_reachedByAllFailing_0 : decode cX3_reachedByAllFailing 0 = .ok (.ldc2_w 106, 3) := by decide +kernel
theorem dX3_reachedByAllFailing_3 : decode cX3_reachedByAllFailing 3 = .ok (.lstore_n 1, 1) := by decide +kernel
theorem dX3_reachedByAllFailing_4 : decode cX3_reachedByAllFailing 4 = .ok (.iconst 0, 1) := by decide +kernel
theorem dX3_reachedByAllFailing_5 : decode cX3_reachedByAllFailing 5 = .ok (.istore_n 3, 1) := by decide +kernel
theorem dX3_reachedByAllFailing_6 : decode cX3_reachedByAllFailing 6 = .ok (.iload_n 3, 1) := by decide +kernel
theorem dX3_reachedByAllFailing_7 : decode cX3_reachedByAllFailing 7 = .ok (.aload_n 0, 1) := by decide +kernel
theorem dX3_reachedByAllFailing_8 : decode cX3_reachedByAllFailing 8 = .ok (.getfield 23, 3) := by decide +kernel
theorem dX3_reachedByAllFailing_11 : decode cX3_reachedByAllFailing 11 = .ok (.getfield 108, 3) := by decide +kernel
theorem dX3_reachedByAllFailing_14 : decode cX3_reachedByAllFailing 14 = .ok (.if_icmp .ge 41, 3) := by decide +kernel
theorem dX3_reachedByAllFailing_17 : decode cX3_reachedByAllFailing 17 = .ok (.aload_n 0, 1) := by decide +kernel
theorem dX3_reachedByAllFailing_18 : decode cX3_reachedByAllFailing 18 = .ok (.getfield 23, 3) := by decide +kernel
theorem dX3_reachedByAllFailing_21 : decode cX3_reachedByAllFailing 21 = .ok (.iload_n 3, 1) := by decide +kernel
theorem dX3_reachedByAllFailing_22 : decode cX3_reachedByAllFailing 22 = .ok (.invokevirtual 111, 3) := by decide +kernel
theorem dX3_reachedByAllFailing_25 : decode cX3_reachedByAllFailing 25 = .ok (.ifCond .eq 24, 3) := by decide +kernel
theorem dX3_reachedByAllFailing_28 : decode cX3_reachedByAllFailing 28 = .ok (.aload_n 0, 1) := by decide +kernel
theorem dX3_reachedByAllFailing_29 : decode cX3_reachedByAllFailing 29 = .ok (.getfield 27, 3) := by decide +kernel
theorem dX3_reachedByAllFailing_32 : decode cX3_reachedByAllFailing 32 = .ok (.iload_n 3, 1) := by decide +kernel
theorem dX3_reachedByAllFailing_33 : decode cX3_reachedByAllFailing 33 = .ok (.invokevirtual 115, 3) := by decide +kernel
theorem dX3_reachedByAllFailing_36 : decode cX3_reachedByAllFailing 36 = .ok (.ifCond .ne 13, 3) := by decide +kernel
theorem dX3_reachedByAllFailing_39 : decode cX3_reachedByAllFailing 39 = .ok (.lload_n 1, 1) := by decide +kernel
theorem dX3_reachedByAllFailing_40 : decode cX3_reachedByAllFailing 40 = .ok (.aload_n 0, 1) := by decide +kernel
theorem dX3_reachedByAllFailing_41 : decode cX3_reachedByAllFailing 41 = .ok (.getfield 27, 3) := by decide +kernel
theorem dX3_reachedByAllFailing_44 : decode cX3_reachedByAllFailing 44 = .ok (.getfield 120, 3) := by decide +kernel
theorem dX3_reachedByAllFailing_47 : decode cX3_reachedByAllFailing 47 = .ok (.land, 1) := by decide +kernel
theorem dX3_reachedByAllFailing_48 : decode cX3_reachedByAllFailing 48 = .ok (.lstore_n 1, 1) := by decide +kernel
theorem dX3_reachedByAllFailing_49 : decode cX3_reachedByAllFailing 49 = .ok (.iinc 3 1, 3) := by decide +kernel
theorem dX3_reachedByAllFailing_52 : decode cX3_reachedByAllFailing 52 = .ok (.goto (-46), 3) := by decide +kernel
theorem dX3_reachedByAllFailing_55 : decode cX3_reachedByAllFailing 55 = .ok (.lload_n 1, 1) := by decide +kernel
theorem dX3_reachedByAllFailing_56 : decode cX3_reachedByAllFailing 56 = .ok (.lreturn, 1) := by decide +kernel
theorem dX3_tryFirst_0 : decode cX3_tryFirst 0 = .ok (.aload_n 0, 1) := by decide +kernel
theorem dX3_tryFirst_1 : decode cX3_tryFirst 1 = .ok (.getfield 19, 3) := by decide +kernel
theorem dX3_tryFirst_4 : decode cX3_tryFirst 4 = .ok (.getfield 88, 3) := by decide +kernel
theorem dX3_tryFirst_7 : decode cX3_tryFirst 7 = .ok (.iload_n 1, 1) := by decide +kernel
theorem dX3_tryFirst_8 : decode cX3_tryFirst 8 = .ok (.iaload, 1) := by decide +kernel
theorem dX3_tryFirst_9 : decode cX3_tryFirst 9 = .ok (.istore_n 2, 1) := by decide +kernel
theorem dX3_tryFirst_10 : decode cX3_tryFirst 10 = .ok (.aload_n 0, 1) := by decide +kernel
theorem dX3_tryFirst_11 : decode cX3_tryFirst 11 = .ok (.getfield 19, 3) := by decide +kernel
theorem dX3_tryFirst_14 : decode cX3_tryFirst 14 = .ok (.getfield 91, 3) := by decide +kernel
theorem dX3_tryFirst_17 : decode cX3_tryFirst 17 = .ok (.iload_n 1, 1) := by decide +kernel
theorem dX3_tryFirst_18 : decode cX3_tryFirst 18 = .ok (.iaload, 1) := by decide +kernel
theorem dX3_tryFirst_19 : decode cX3_tryFirst 19 = .ok (.istore_n 3, 1) := by decide +kernel
theorem dX3_tryFirst_20 : decode cX3_tryFirst 20 = .ok (.aload_n 0, 1) := by decide +kernel
theorem dX3_tryFirst_21 : decode cX3_tryFirst 21 = .ok (.getfield 19, 3) := by decide +kernel
theorem dX3_tryFirst_24 : decode cX3_tryFirst 24 = .ok (.iload_n 1, 1) := by decide +kernel
theorem dX3_tryFirst_25 : decode cX3_tryFirst 25 = .ok (.invokevirtual 84, 3) := by decide +kernel
theorem dX3_tryFirst_28 : decode cX3_tryFirst 28 = .ok (.istore 4, 2) := by decide +kernel
theorem dX3_tryFirst_30 : decode cX3_tryFirst 30 = .ok (.iconst 0, 1) := by decide +kernel
theorem dX3_tryFirst_31 : decode cX3_tryFirst 31 = .ok (.istore 5, 2) := by decide +kernel
theorem dX3_tryFirst_33 : decode cX3_tryFirst 33 = .ok (.iload 5, 2) := by decide +kernel
theorem dX3_tryFirst_35 : decode cX3_tryFirst 35 = .ok (.iload 4, 2) := by decide +kernel
theorem dX3_tryFirst_37 : decode cX3_tryFirst 37 = .ok (.if_icmp .ge 57, 3) := by decide +kernel
theorem dX3_tryFirst_40 : decode cX3_tryFirst 40 = .ok (.aload_n 0, 1) := by decide +kernel
theorem dX3_tryFirst_41 : decode cX3_tryFirst 41 = .ok (.getfield 43, 3) := by decide +kernel
theorem dX3_tryFirst_44 : decode cX3_tryFirst 44 = .ok (.ifCond .ne 50, 3) := by decide +kernel
theorem dX3_tryFirst_47 : decode cX3_tryFirst 47 = .ok (.aload_n 0, 1) := by decide +kernel
theorem dX3_tryFirst_48 : decode cX3_tryFirst 48 = .ok (.getfield 19, 3) := by decide +kernel
theorem dX3_tryFirst_51 : decode cX3_tryFirst 51 = .ok (.iload_n 1, 1) := by decide +kernel
theorem dX3_tryFirst_52 : decode cX3_tryFirst 52 = .ok (.iload 5, 2) := by decide +kernel
theorem dX3_tryFirst_54 : decode cX3_tryFirst 54 = .ok (.invokevirtual 94, 3) := by decide +kernel
theorem dX3_tryFirst_57 : decode cX3_tryFirst 57 = .ok (.aload_n 0, 1) := by decide +kernel
theorem dX3_tryFirst_58 : decode cX3_tryFirst 58 = .ok (.iload_n 1, 1) := by decide +kernel
theorem dX3_tryFirst_59 : decode cX3_tryFirst 59 = .ok (.iload 5, 2) := by decide +kernel
theorem dX3_tryFirst_61 : decode cX3_tryFirst 61 = .ok (.aload_n 0, 1) := by decide +kernel
theorem dX3_tryFirst_62 : decode cX3_tryFirst 62 = .ok (.getfield 9, 3) := by decide +kernel
theorem dX3_tryFirst_65 : decode cX3_tryFirst 65 = .ok (.aload_n 0, 1) := by decide +kernel
theorem dX3_tryFirst_66 : decode cX3_tryFirst 66 = .ok (.getfield 15, 3) := by decide +kernel
theorem dX3_tryFirst_69 : decode cX3_tryFirst 69 = .ok (.iload_n 1, 1) := by decide +kernel
theorem dX3_tryFirst_70 : decode cX3_tryFirst 70 = .ok (.iaload, 1) := by decide +kernel
theorem dX3_tryFirst_71 : decode cX3_tryFirst 71 = .ok (.iload 5, 2) := by decide +kernel
theorem dX3_tryFirst_73 : decode cX3_tryFirst 73 = .ok (.iadd, 1) := by decide +kernel
theorem dX3_tryFirst_74 : decode cX3_tryFirst 74 = .ok (.laload, 1) := by decide +kernel
theorem dX3_tryFirst_75 : decode cX3_tryFirst 75 = .ok (.invokevirtual 123, 3) := by decide +kernel
theorem dX3_tryFirst_78 : decode cX3_tryFirst 78 = .ok (.aload_n 0, 1) := by decide +kernel
theorem dX3_tryFirst_79 : decode cX3_tryFirst 79 = .ok (.getfield 19, 3) := by decide +kernel
theorem dX3_tryFirst_82 : decode cX3_tryFirst 82 = .ok (.iload_n 1, 1) := by decide +kernel
theorem dX3_tryFirst_83 : decode cX3_tryFirst 83 = .ok (.iload_n 2, 1) := by decide +kernel
theorem dX3_tryFirst_84 : decode cX3_tryFirst 84 = .ok (.iload_n 3, 1) := by decide +kernel
theorem dX3_tryFirst_85 : decode cX3_tryFirst 85 = .ok (.invokevirtual 102, 3) := by decide +kernel
theorem dX3_tryFirst_88 : decode cX3_tryFirst 88 = .ok (.iinc 5 1, 3) := by decide +kernel
theorem dX3_tryFirst_91 : decode cX3_tryFirst 91 = .ok (.goto (-58), 3) := by decide +kernel
theorem dX3_tryFirst_94 : decode cX3_tryFirst 94 = .ok (.return_, 1) := by decide +kernel
theorem dX3_tryOthers_0 : decode cX3_tryOthers 0 = .ok (.iload_n 1, 1) := by decide +kernel
theorem dX3_tryOthers_1 : decode cX3_tryOthers 1 = .ok (.iconst 1, 1) := by decide +kernel
theorem dX3_tryOthers_2 : decode cX3_tryOthers 2 = .ok (.iadd, 1) := by decide +kernel
theorem dX3_tryOthers_3 : decode cX3_tryOthers 3 = .ok (.istore 5, 2) := by decide +kernel
theorem dX3_tryOthers_5 : decode cX3_tryOthers 5 = .ok (.iload 5, 2) := by decide +kernel
theorem dX3_tryOthers_7 : decode cX3_tryOthers 7 = .ok (.aload_n 0, 1) := by decide +kernel
theorem dX3_tryOthers_8 : decode cX3_tryOthers 8 = .ok (.getfield 19, 3) := by decide +kernel
theorem dX3_tryOthers_11 : decode cX3_tryOthers 11 = .ok (.getfield 70, 3) := by decide +kernel
theorem dX3_tryOthers_14 : decode cX3_tryOthers 14 = .ok (.if_icmp .ge 171, 3) := by decide +kernel
theorem dX3_tryOthers_17 : decode cX3_tryOthers 17 = .ok (.aload_n 0, 1) := by decide +kernel
theorem dX3_tryOthers_18 : decode cX3_tryOthers 18 = .ok (.getfield 43, 3) := by decide +kernel
theorem dX3_tryOthers_21 : decode cX3_tryOthers 21 = .ok (.ifCond .ne 164, 3) := by decide +kernel
theorem dX3_tryOthers_24 : decode cX3_tryOthers 24 = .ok (.aload_n 0, 1) := by decide +kernel
theorem dX3_tryOthers_25 : decode cX3_tryOthers 25 = .ok (.aload_n 0, 1) := by decide +kernel
theorem dX3_tryOthers_26 : decode cX3_tryOthers 26 = .ok (.getfield 52, 3) := by decide +kernel
theorem dX3_tryOthers_29 : decode cX3_tryOthers 29 = .ok (.lload_n 3, 1) := by decide +kernel
theorem dX3_tryOthers_30 : decode cX3_tryOthers 30 = .ok (.land, 1) := by decide +kernel
theorem dX3_tryOthers_31 : decode cX3_tryOthers 31 = .ok (.iload 5, 2) := by decide +kernel
theorem dX3_tryOthers_33 : decode cX3_tryOthers 33 = .ok (.invokevirtual 73, 3) := by decide +kernel
theorem dX3_tryOthers_36 : decode cX3_tryOthers 36 = .ok (.ifCond .ne 6, 3) := by decide +kernel
theorem dX3_tryOthers_39 : decode cX3_tryOthers 39 = .ok (.goto 140, 3) := by decide +kernel
theorem dX3_tryOthers_42 : decode cX3_tryOthers 42 = .ok (.aload_n 0, 1) := by decide +kernel
theorem dX3_tryOthers_43 : decode cX3_tryOthers 43 = .ok (.getfield 19, 3) := by decide +kernel
theorem dX3_tryOthers_46 : decode cX3_tryOthers 46 = .ok (.getfield 88, 3) := by decide +kernel
theorem dX3_tryOthers_49 : decode cX3_tryOthers 49 = .ok (.iload 5, 2) := by decide +kernel
theorem dX3_tryOthers_51 : decode cX3_tryOthers 51 = .ok (.iaload, 1) := by decide +kernel
theorem dX3_tryOthers_52 : decode cX3_tryOthers 52 = .ok (.istore 6, 2) := by decide +kernel
theorem dX3_tryOthers_54 : decode cX3_tryOthers 54 = .ok (.aload_n 0, 1) := by decide +kernel
theorem dX3_tryOthers_55 : decode cX3_tryOthers 55 = .ok (.getfield 19, 3) := by decide +kernel
theorem dX3_tryOthers_58 : decode cX3_tryOthers 58 = .ok (.getfield 91, 3) := by decide +kernel
theorem dX3_tryOthers_61 : decode cX3_tryOthers 61 = .ok (.iload 5, 2) := by decide +kernel
theorem dX3_tryOthers_63 : decode cX3_tryOthers 63 = .ok (.iaload, 1) := by decide +kernel
theorem dX3_tryOthers_64 : decode cX3_tryOthers 64 = .ok (.istore 7, 2) := by decide +kernel
theorem dX3_tryOthers_66 : decode cX3_tryOthers 66 = .ok (.aload_n 0, 1) := by decide +kernel
theorem dX3_tryOthers_67 : decode cX3_tryOthers 67 = .ok (.getfield 19, 3) := by decide +kernel
theorem dX3_tryOthers_70 : decode cX3_tryOthers 70 = .ok (.iload 5, 2) := by decide +kernel
theorem dX3_tryOthers_72 : decode cX3_tryOthers 72 = .ok (.invokevirtual 84, 3) := by decide +kernel
theorem dX3_tryOthers_75 : decode cX3_tryOthers 75 = .ok (.istore 8, 2) := by decide +kernel
theorem dX3_tryOthers_77 : decode cX3_tryOthers 77 = .ok (.iconst 0, 1) := by decide +kernel
theorem dX3_tryOthers_78 : decode cX3_tryOthers 78 = .ok (.istore 9, 2) := by decide +kernel
theorem dX3_tryOthers_80 : decode cX3_tryOthers 80 = .ok (.iload 9, 2) := by decide +kernel
theorem dX3_tryOthers_82 : decode cX3_tryOthers 82 = .ok (.iload 8, 2) := by decide +kernel
theorem dX3_tryOthers_84 : decode cX3_tryOthers 84 = .ok (.if_icmp .ge 95, 3) := by decide +kernel
theorem dX3_tryOthers_87 : decode cX3_tryOthers 87 = .ok (.aload_n 0, 1) := by decide +kernel
theorem dX3_tryOthers_88 : decode cX3_tryOthers 88 = .ok (.getfield 43, 3) := by decide +kernel
theorem dX3_tryOthers_91 : decode cX3_tryOthers 91 = .ok (.ifCond .ne 88, 3) := by decide +kernel
theorem dX3_tryOthers_94 : decode cX3_tryOthers 94 = .ok (.aload_n 0, 1) := by decide +kernel
theorem dX3_tryOthers_95 : decode cX3_tryOthers 95 = .ok (.aload_n 0, 1) := by decide +kernel
theorem dX3_tryOthers_96 : decode cX3_tryOthers 96 = .ok (.getfield 9, 3) := by decide +kernel
theorem dX3_tryOthers_99 : decode cX3_tryOthers 99 = .ok (.aload_n 0, 1) := by decide +kernel
theorem dX3_tryOthers_100 : decode cX3_tryOthers 100 = .ok (.getfield 15, 3) := by decide +kernel
theorem dX3_tryOthers_103 : decode cX3_tryOthers 103 = .ok (.iload 5, 2) := by decide +kernel
theorem dX3_tryOthers_105 : decode cX3_tryOthers 105 = .ok (.iaload, 1) := by decide +kernel
theorem dX3_tryOthers_106 : decode cX3_tryOthers 106 = .ok (.iload 9, 2) := by decide +kernel
theorem dX3_tryOthers_108 : decode cX3_tryOthers 108 = .ok (.iadd, 1) := by decide +kernel
theorem dX3_tryOthers_109 : decode cX3_tryOthers 109 = .ok (.laload, 1) := by decide +kernel
theorem dX3_tryOthers_110 : decode cX3_tryOthers 110 = .ok (.iload_n 1, 1) := by decide +kernel
theorem dX3_tryOthers_111 : decode cX3_tryOthers 111 = .ok (.invokevirtual 73, 3) := by decide +kernel
theorem dX3_tryOthers_114 : decode cX3_tryOthers 114 = .ok (.ifCond .eq 59, 3) := by decide +kernel
theorem dX3_tryOthers_117 : decode cX3_tryOthers 117 = .ok (.aload_n 0, 1) := by decide +kernel
theorem dX3_tryOthers_118 : decode cX3_tryOthers 118 = .ok (.getfield 19, 3) := by decide +kernel
theorem dX3_tryOthers_121 : decode cX3_tryOthers 121 = .ok (.iload 5, 2) := by decide +kernel
theorem dX3_tryOthers_123 : decode cX3_tryOthers 123 = .ok (.iload 9, 2) := by decide +kernel
theorem dX3_tryOthers_125 : decode cX3_tryOthers 125 = .ok (.invokevirtual 94, 3) := by decide +kernel
theorem dX3_tryOthers_128 : decode cX3_tryOthers 128 = .ok (.aload_n 0, 1) := by decide +kernel
theorem dX3_tryOthers_129 : decode cX3_tryOthers 129 = .ok (.getfield 27, 3) := by decide +kernel
theorem dX3_tryOthers_132 : decode cX3_tryOthers 132 = .ok (.invokevirtual 127, 3) := by decide +kernel
theorem dX3_tryOthers_135 : decode cX3_tryOthers 135 = .ok (.ifCond .eq 25, 3) := by decide +kernel
theorem dX3_tryOthers_138 : decode cX3_tryOthers 138 = .ok (.aload_n 0, 1) := by decide +kernel
theorem dX3_tryOthers_139 : decode cX3_tryOthers 139 = .ok (.iload_n 1, 1) := by decide +kernel
theorem dX3_tryOthers_140 : decode cX3_tryOthers 140 = .ok (.iload_n 2, 1) := by decide +kernel
theorem dX3_tryOthers_141 : decode cX3_tryOthers 141 = .ok (.iload 5, 2) := by decide +kernel
theorem dX3_tryOthers_143 : decode cX3_tryOthers 143 = .ok (.iload 9, 2) := by decide +kernel
theorem dX3_tryOthers_145 : decode cX3_tryOthers 145 = .ok (.invokevirtual 131, 3) := by decide +kernel
theorem dX3_tryOthers_148 : decode cX3_tryOthers 148 = .ok (.aload_n 0, 1) := by decide +kernel
theorem dX3_tryOthers_149 : decode cX3_tryOthers 149 = .ok (.aload_n 0, 1) := by decide +kernel
theorem dX3_tryOthers_150 : decode cX3_tryOthers 150 = .ok (.getfield 27, 3) := by decide +kernel
theorem dX3_tryOthers_153 : decode cX3_tryOthers 153 = .ok (.iconst 1, 1) := by decide +kernel
theorem dX3_tryOthers_154 : decode cX3_tryOthers 154 = .ok (.invokevirtual 135, 3) := by decide +kernel
theorem dX3_tryOthers_157 : decode cX3_tryOthers 157 = .ok (.putfield 139, 3) := by decide +kernel
theorem dX3_tryOthers_160 : decode cX3_tryOthers 160 = .ok (.aload_n 0, 1) := by decide +kernel
theorem dX3_tryOthers_161 : decode cX3_tryOthers 161 = .ok (.getfield 19, 3) := by decide +kernel
theorem dX3_tryOthers_164 : decode cX3_tryOthers 164 = .ok (.iload 5, 2) := by decide +kernel
theorem dX3_tryOthers_166 : decode cX3_tryOthers 166 = .ok (.iload 6, 2) := by decide +kernel
theorem dX3_tryOthers_168 : decode cX3_tryOthers 168 = .ok (.iload 7, 2) := by decide +kernel
theorem dX3_tryOthers_170 : decode cX3_tryOthers 170 = .ok (.invokevirtual 102, 3) := by decide +kernel
theorem dX3_tryOthers_173 : decode cX3_tryOthers 173 = .ok (.iinc 9 1, 3) := by decide +kernel
theorem dX3_tryOthers_176 : decode cX3_tryOthers 176 = .ok (.goto (-96), 3) := by decide +kernel
theorem dX3_tryOthers_179 : decode cX3_tryOthers 179 = .ok (.iinc 5 1, 3) := by decide +kernel
theorem dX3_tryOthers_182 : decode cX3_tryOthers 182 = .ok (.goto (-177), 3) := by decide +kernel
theorem dX3_tryOthers_185 : decode cX3_tryOthers 185 = .ok (.return_, 1) := by decide +kernel
theorem dX3_keep_0 : decode cX3_keep 0 = .ok (.aload_n 0, 1) := by decide +kernel
theorem dX3_keep_1 : decode cX3_keep 1 = .ok (.iconst 1, 1) := by decide +kernel
theorem dX3_keep_2 : decode cX3_keep 2 = .ok (.putfield 43, 3) := by decide +kernel
theorem dX3_keep_5 : decode cX3_keep 5 = .ok (.aload_n 0, 1) := by decide +kernel
theorem dX3_keep_6 : decode cX3_keep 6 = .ok (.iload_n 1, 1) := by decide +kernel
theorem dX3_keep_7 : decode cX3_keep 7 = .ok (.putfield 142, 3) := by decide +kernel
theorem dX3_keep_10 : decode cX3_keep 10 = .ok (.aload_n 0, 1) := by decide +kernel
theorem dX3_keep_11 : decode cX3_keep 11 = .ok (.iload_n 2, 1) := by decide +kernel
theorem dX3_keep_12 : decode cX3_keep 12 = .ok (.putfield 145, 3) := by decide +kernel
theorem dX3_keep_15 : decode cX3_keep 15 = .ok (.aload_n 0, 1) := by decide +kernel
theorem dX3_keep_16 : decode cX3_keep 16 = .ok (.iload_n 3, 1) := by decide +kernel
theorem dX3_keep_17 : decode cX3_keep 17 = .ok (.putfield 148, 3) := by decide +kernel
theorem dX3_keep_20 : decode cX3_keep 20 = .ok (.aload_n 0, 1) := by decide +kernel
theorem dX3_keep_21 : decode cX3_keep 21 = .ok (.iload 4, 2) := by decide +kernel
theorem dX3_keep_23 : decode cX3_keep 23 = .ok (.putfield 151, 3) := by decide +kernel
theorem dX3_keep_26 : decode cX3_keep 26 = .ok (.return_, 1) := by decide +kernel
theorem dX4_init_0 : decode cX4_init 0 = .ok (.aload_n 0, 1) := by decide +kernel
theorem dX4_init_1 : decode cX4_init 1 = .ok (.invokespecial 3, 3) := by decide +kernel
theorem dX4_init_4 : decode cX4_init 4 = .ok (.aload_n 0, 1) := by decide +kernel
theorem dX4_init_5 : decode cX4_init 5 = .ok (.aload_n 1, 1) := by decide +kernel
theorem dX4_init_6 : decode cX4_init 6 = .ok (.putfield 9, 3) := by decide +kernel
theorem dX4_init_9 : decode cX4_init 9 = .ok (.return_, 1) := by decide +kernel
theorem dX4_read_0 : decode cX4_read 0 = .ok (.aload_n 0, 1) := by decide +kernel
theorem dX4_read_1 : decode cX4_read 1 = .ok (.aload_n 2, 1) := by decide +kernel
theorem dX4_read_2 : decode cX4_read 2 = .ok (.putfield 15, 3) := by decide +kernel
theorem dX4_read_5 : decode cX4_read 5 = .ok (.aload_n 0, 1) := by decide +kernel
theorem dX4_read_6 : decode cX4_read 6 = .ok (.getfield 15, 3) := by decide +kernel
theorem dX4_read_9 : decode cX4_read 9 = .ok (.invokevirtual 19, 3) := by decide +kernel
theorem dX4_read_12 : decode cX4_read 12 = .ok (.aload_n 0, 1) := by decide +kernel
theorem dX4_read_13 : decode cX4_read 13 = .ok (.getfield 9, 3) := by decide +kernel
theorem dX4_read_16 : decode cX4_read 16 = .ok (.iload_n 1, 1) := by decide +kernel
theorem dX4_read_17 : decode cX4_read 17 = .ok (.invokevirtual 24, 3) := by decide +kernel
theorem dX4_read_20 : decode cX4_read 20 = .ok (.aload_n 0, 1) := by decide +kernel
theorem dX4_read_21 : decode cX4_read 21 = .ok (.iconst (-1), 1) := by decide +kernel
theorem dX4_read_22 : decode cX4_read 22 = .ok (.iconst 0, 1) := by decide +kernel
theorem dX4_read_23 : decode cX4_read 23 = .ok (.iconst 0, 1) := by decide +kernel
theorem dX4_read_24 : decode cX4_read 24 = .ok (.invokevirtual 30, 3) := by decide +kernel
theorem dX4_read_27 : decode cX4_read 27 = .ok (.iconst 0, 1) := by decide +kernel
theorem dX4_read_28 : decode cX4_read 28 = .ok (.istore_n 3, 1) := by decide +kernel
theorem dX4_read_29 : decode cX4_read 29 = .ok (.iload_n 3, 1) := by decide +kernel
theorem dX4_read_30 : decode cX4_read 30 = .ok (.sipush 600, 3) := by decide +kernel
theorem dX4_read_33 : decode cX4_read 33 = .ok (.if_icmp .ge 36, 3) := by decide +kernel
theorem dX4_read_36 : decode cX4_read 36 = .ok (.aload_n 0, 1) := by decide +kernel
theorem dX4_read_37 : decode cX4_read 37 = .ok (.getfield 9, 3) := by decide +kernel
theorem dX4_read_40 : decode cX4_read 40 = .ok (.getfield 34, 3) := by decide +kernel
theorem dX4_read_43 : decode cX4_read 43 = .ok (.ifCond .ne 26, 3) := by decide +kernel
theorem dX4_read_46 : decode cX4_read 46 = .ok (.aload_n 0, 1) := by decide +kernel
theorem dX4_read_47 : decode cX4_read 47 = .ok (.getfield 9, 3) := by decide +kernel
theorem dX4_read_50 : decode cX4_read 50 = .ok (.getfield 38, 3) := by decide +kernel
theorem dX4_read_53 : decode cX4_read 53 = .ok (.ifCond .eq 16, 3) := by decide +kernel
theorem dX4_read_56 : decode cX4_read 56 = .ok (.aload_n 0, 1) := by decide +kernel
theorem dX4_read_57 : decode cX4_read 57 = .ok (.iconst (-1), 1) := by decide +kernel
theorem dX4_read_58 : decode cX4_read 58 = .ok (.iconst 0, 1) := by decide +kernel
theorem dX4_read_59 : decode cX4_read 59 = .ok (.iconst 0, 1) := by decide +kernel
theorem dX4_read_60 : decode cX4_read 60 = .ok (.invokevirtual 30, 3) := by decide +kernel
theorem dX4_read_63 : decode cX4_read 63 = .ok (.iinc 3 1, 3) := by decide +kernel
theorem dX4_read_66 : decode cX4_read 66 = .ok (.goto (-37), 3) := by decide +kernel
theorem dX4_read_69 : decode cX4_read 69 = .ok (.aload_n 0, 1) := by decide +kernel
theorem dX4_read_70 : decode cX4_read 70 = .ok (.getfield 9, 3) := by decide +kernel
theorem dX4_read_73 : decode cX4_read 73 = .ok (.getfield 34, 3) := by decide +kernel
theorem dX4_read_76 : decode cX4_read 76 = .ok (.ifCond .eq 11, 3) := by decide +kernel
theorem dX4_read_79 : decode cX4_read 79 = .ok (.aload_n 0, 1) := by decide +kernel
theorem dX4_read_80 : decode cX4_read 80 = .ok (.getfield 9, 3) := by decide +kernel
theorem dX4_read_83 : decode cX4_read 83 = .ok (.getfield 34, 3) := by decide +kernel
theorem dX4_read_86 : decode cX4_read 86 = .ok (.ireturn, 1) := by decide +kernel
theorem dX4_read_87 : decode cX4_read 87 = .ok (.aload_n 0, 1) := by decide +kernel
theorem dX4_read_88 : decode cX4_read 88 = .ok (.getfield 15, 3) := by decide +kernel
theorem dX4_read_91 : decode cX4_read 91 = .ok (.getfield 41, 3) := by decide +kernel
theorem dX4_read_94 : decode cX4_read 94 = .ok (.bipush 60, 2) := by decide +kernel
theorem dX4_read_96 : decode cX4_read 96 = .ok (.if_icmp .le 5, 3) := by decide +kernel
theorem dX4_read_99 : decode cX4_read 99 = .ok (.iconst 2, 1) := by decide +kernel
theorem dX4_read_100 : decode cX4_read 100 = .ok (.ireturn, 1) := by decide +kernel
theorem dX4_read_101 : decode cX4_read 101 = .ok (.aload_n 0, 1) := by decide +kernel
theorem dX4_read_102 : decode cX4_read 102 = .ok (.getfield 15, 3) := by decide +kernel
theorem dX4_read_105 : decode cX4_read 105 = .ok (.invokevirtual 44, 3) := by decide +kernel
theorem dX4_read_108 : decode cX4_read 108 = .ok (.iconst 0, 1) := by decide +kernel
theorem dX4_read_109 : decode cX4_read 109 = .ok (.ireturn, 1) := by decide +kernel
theorem dX4_readStatement_0 : decode cX4_readStatement 0 = .ok (.aload_n 0, 1) := by decide +kernel
theorem dX4_readStatement_1 : decode cX4_readStatement 1 = .ok (.invokevirtual 47, 3) := by decide +kernel
theorem dX4_readStatement_4 : decode cX4_readStatement 4 = .ok (.istore 4, 2) := by decide +kernel
theorem dX4_readStatement_6 : decode cX4_readStatement 6 = .ok (.iload 4, 2) := by decide +kernel
theorem dX4_readStatement_8 : decode cX4_readStatement 8 = .ok (.iconst (-1), 1) := by decide +kernel
theorem dX4_readStatement_9 : decode cX4_readStatement 9 = .ok (.if_icmp .eq 15, 3) := by decide +kernel
theorem dX4_readStatement_12 : decode cX4_readStatement 12 = .ok (.aload_n 0, 1) := by decide +kernel
theorem dX4_readStatement_13 : decode cX4_readStatement 13 = .ok (.getfield 15, 3) := by decide +kernel
theorem dX4_readStatement_16 : decode cX4_readStatement 16 = .ok (.getfield 51, 3) := by decide +kernel
theorem dX4_readStatement_19 : decode cX4_readStatement 19 = .ok (.bipush 20, 2) := by decide +kernel
theorem dX4_readStatement_21 : decode cX4_readStatement 21 = .ok (.if_icmp .lt 22, 3) := by decide +kernel
theorem dX4_readStatement_24 : decode cX4_readStatement 24 = .ok (.aload_n 0, 1) := by decide +kernel
theorem dX4_readStatement_25 : decode cX4_readStatement 25 = .ok (.getfield 9, 3) := by decide +kernel
theorem dX4_readStatement_28 : decode cX4_readStatement 28 = .ok (.iload 4, 2) := by decide +kernel
theorem dX4_readStatement_30 : decode cX4_readStatement 30 = .ok (.iconst (-1), 1) := by decide +kernel
theorem dX4_readStatement_31 : decode cX4_readStatement 31 = .ok (.if_icmp .ne 7, 3) := by decide +kernel
theorem dX4_readStatement_34 : decode cX4_readStatement 34 = .ok (.iconst 1, 1) := by decide +kernel
theorem dX4_readStatement_35 : decode cX4_readStatement 35 = .ok (.goto 4, 3) := by decide +kernel
theorem dX4_readStatement_38 : decode cX4_readStatement 38 = .ok (.iconst 2, 1) := by decide +kernel
theorem dX4_readStatement_39 : decode cX4_readStatement 39 = .ok (.invokevirtual 54, 3) := by decide +kernel
theorem dX4_readStatement_42 : decode cX4_readStatement 42 = .ok (.return_, 1) := by decide +kernel
theorem dX4_readStatement_43 : decode cX4_readStatement 43 = .ok (.aload_n 0, 1) := by decide +kernel
theorem dX4_readStatement_44 : decode cX4_readStatement 44 = .ok (.getfield 15, 3) := by decide +kernel
theorem dX4_readStatement_47 : decode cX4_readStatement 47 = .ok (.getfield 41, 3) := by decide +kernel
theorem dX4_readStatement_50 : decode cX4_readStatement 50 = .ok (.istore 5, 2) := by decide +kernel
theorem dX4_readStatement_52 : decode cX4_readStatement 52 = .ok (.aload_n 0, 1) := by decide +kernel
theorem dX4_readStatement_53 : decode cX4_readStatement 53 = .ok (.getfield 15, 3) := by decide +kernel
theorem dX4_readStatement_56 : decode cX4_readStatement 56 = .ok (.iload 4, 2) := by decide +kernel
theorem dX4_readStatement_58 : decode cX4_readStatement 58 = .ok (.aload_n 0, 1) := by decide +kernel
theorem dX4_readStatement_59 : decode cX4_readStatement 59 = .ok (.getfield 9, 3) := by decide +kernel
theorem dX4_readStatement_62 : decode cX4_readStatement 62 = .ok (.invokevirtual 57, 3) := by decide +kernel
theorem dX4_readStatement_65 : decode cX4_readStatement 65 = .ok (.iload_n 1, 1) := by decide +kernel
theorem dX4_readStatement_66 : decode cX4_readStatement 66 = .ok (.iload_n 2, 1) := by decide +kernel
theorem dX4_readStatement_67 : decode cX4_readStatement 67 = .ok (.invokevirtual 60, 3) := by decide +kernel
theorem dX4_readStatement_70 : decode cX4_readStatement 70 = .ok (.aload_n 0, 1) := by decide +kernel
theorem dX4_readStatement_71 : decode cX4_readStatement 71 = .ok (.getfield 9, 3) := by decide +kernel
theorem dX4_readStatement_74 : decode cX4_readStatement 74 = .ok (.invokevirtual 64, 3) := by decide +kernel
theorem dX4_readStatement_77 : decode cX4_readStatement 77 = .ok (.iload 4, 2) := by decide +kernel
theorem dX4_readStatement_79 : decode cX4_readStatement 79 = .ok (.ifCond .ne 12, 3) := by decide +kernel
theorem dX4_readStatement_82 : decode cX4_readStatement 82 = .ok (.aload_n 0, 1) := by decide +kernel
theorem dX4_readStatement_83 : decode cX4_readStatement 83 = .ok (.getfield 9, 3) := by decide +kernel
theorem dX4_readStatement_86 : decode cX4_readStatement 86 = .ok (.bipush 61, 2) := by decide +kernel
theorem dX4_readStatement_88 : decode cX4_readStatement 88 = .ok (.invokevirtual 67, 3) := by decide +kernel
theorem dX4_readStatement_91 : decode cX4_readStatement 91 = .ok (.aload_n 0, 1) := by decide +kernel
theorem dX4_readStatement_92 : decode cX4_readStatement 92 = .ok (.iconst 0, 1) := by decide +kernel
theorem dX4_readStatement_93 : decode cX4_readStatement 93 = .ok (.iconst 0, 1) := by decide +kernel
theorem dX4_readStatement_94 : decode cX4_readStatement 94 = .ok (.invokevirtual 71, 3) := by decide +kernel
theorem dX4_readStatement_97 : decode cX4_readStatement 97 = .ok (.iload 4, 2) := by decide +kernel
theorem dX4_readStatement_99 : decode cX4_readStatement 99 = .ok (.ifCond .eq 9, 3) := by decide +kernel
theorem dX4_readStatement_102 : decode cX4_readStatement 102 = .ok (.iload 4, 2) := by decide +kernel
theorem dX4_readStatement_104 : decode cX4_readStatement 104 = .ok (.iconst 3, 1) := by decide +kernel
theorem dX4_readStatement_105 : decode cX4_readStatement 105 = .ok (.if_icmp .ne 13, 3) := by decide +kernel
theorem dX4_readStatement_108 : decode cX4_readStatement 108 = .ok (.aload_n 0, 1) := by decide +kernel
theorem dX4_readStatement_109 : decode cX4_readStatement 109 = .ok (.getfield 9, 3) := by decide +kernel
theorem dX4_readStatement_112 : decode cX4_readStatement 112 = .ok (.bipush 59, 2) := by decide +kernel
theorem dX4_readStatement_114 : decode cX4_readStatement 114 = .ok (.invokevirtual 67, 3) := by decide +kernel
theorem dX4_readStatement_117 : decode cX4_readStatement 117 = .ok (.return_, 1) := by decide +kernel
theorem dX4_readStatement_118 : decode cX4_readStatement 118 = .ok (.aload_n 0, 1) := by decide +kernel
theorem dX4_readStatement_119 : decode cX4_readStatement 119 = .ok (.iload 5, 2) := by decide +kernel
theorem dX4_readStatement_121 : decode cX4_readStatement 121 = .ok (.iconst 0, 1) := by decide +kernel
theorem dX4_readStatement_122 : decode cX4_readStatement 122 = .ok (.iload_n 3, 1) := by decide +kernel
theorem dX4_readStatement_123 : decode cX4_readStatement 123 = .ok (.invokevirtual 75, 3) := by decide +kernel
theorem dX4_readStatement_126 : decode cX4_readStatement 126 = .ok (.iload 4, 2) := by decide +kernel
theorem dX4_readStatement_128 : decode cX4_readStatement 128 = .ok (.iconst 1, 1) := by decide +kernel
theorem dX4_readStatement_129 : decode cX4_readStatement 129 = .ok (.if_icmp .ne 30, 3) := by decide +kernel
theorem dX4_readStatement_132 : decode cX4_readStatement 132 = .ok (.aload_n 0, 1) := by decide +kernel
theorem dX4_readStatement_133 : decode cX4_readStatement 133 = .ok (.getfield 9, 3) := by decide +kernel
theorem dX4_readStatement_136 : decode cX4_readStatement 136 = .ok (.ldc 78, 2) := by decide +kernel
theorem dX4_readStatement_138 : decode cX4_readStatement 138 = .ok (.invokevirtual 80, 3) := by decide +kernel
theorem dX4_readStatement_141 : decode cX4_readStatement 141 = .ok (.ifCond .eq 18, 3) := by decide +kernel
theorem dX4_readStatement_144 : decode cX4_readStatement 144 = .ok (.aload_n 0, 1) := by decide +kernel
theorem dX4_readStatement_145 : decode cX4_readStatement 145 = .ok (.getfield 9, 3) := by decide +kernel
theorem dX4_readStatement_148 : decode cX4_readStatement 148 = .ok (.invokevirtual 64, 3) := by decide +kernel
theorem dX4_readStatement_151 : decode cX4_readStatement 151 = .ok (.aload_n 0, 1) := by decide +kernel
theorem dX4_readStatement_152 : decode cX4_readStatement 152 = .ok (.iload 5, 2) := by decide +kernel
theorem dX4_readStatement_154 : decode cX4_readStatement 154 = .ok (.iconst 1, 1) := by decide +kernel
theorem dX4_readStatement_155 : decode cX4_readStatement 155 = .ok (.iload_n 3, 1) := by decide +kernel
theorem dX4_readStatement_156 : decode cX4_readStatement 156 = .ok (.invokevirtual 75, 3) := by decide +kernel
theorem dX4_readStatement_159 : decode cX4_readStatement 159 = .ok (.return_, 1) := by decide +kernel
theorem dX4_statementKind_0 : decode cX4_statementKind 0 = .ok (.aload_n 0, 1) := by decide +kernel
theorem dX4_statementKind_1 : decode cX4_statementKind 1 = .ok (.getfield 9, 3) := by decide +kernel
theorem dX4_statementKind_4 : decode cX4_statementKind 4 = .ok (.invokevirtual 57, 3) := by decide +kernel
theorem dX4_statementKind_7 : decode cX4_statementKind 7 = .ok (.iconst (-1), 1) := by decide +kernel
theorem dX4_statementKind_8 : decode cX4_statementKind 8 = .ok (.if_icmp .eq 5, 3) := by decide +kernel
theorem dX4_statementKind_11 : decode cX4_statementKind 11 = .ok (.iconst 0, 1) := by decide +kernel
theorem dX4_statementKind_12 : decode cX4_statementKind 12 = .ok (.ireturn, 1) := by decide +kernel
theorem dX4_statementKind_13 : decode cX4_statementKind 13 = .ok (.aload_n 0, 1) := by decide +kernel
theorem dX4_statementKind_14 : decode cX4_statementKind 14 = .ok (.getfield 9, 3) := by decide +kernel
theorem dX4_statementKind_17 : decode cX4_statementKind 17 = .ok (.ldc 84, 2) := by decide +kernel
theorem dX4_statementKind_19 : decode cX4_statementKind 19 = .ok (.invokevirtual 80, 3) := by decide +kernel
theorem dX4_statementKind_22 : decode cX4_statementKind 22 = .ok (.ifCond .eq 5, 3) := by decide +kernel
theorem dX4_statementKind_25 : decode cX4_statementKind 25 = .ok (.iconst 1, 1) := by decide +kernel
theorem dX4_statementKind_26 : decode cX4_statementKind 26 = .ok (.ireturn, 1) := by decide +kernel
theorem dX4_statementKind_27 : decode cX4_statementKind 27 = .ok (.aload_n 0, 1) := by decide +kernel
theorem dX4_statementKind_28 : decode cX4_statementKind 28 = .ok (.getfield 9, 3) := by decide +kernel
theorem dX4_statementKind_31 : decode cX4_statementKind 31 = .ok (.ldc 86, 2) := by decide +kernel
theorem dX4_statementKind_33 : decode cX4_statementKind 33 = .ok (.invokevirtual 80, 3) := by decide +kernel
theorem dX4_statementKind_36 : decode cX4_statementKind 36 = .ok (.ifCond .eq 5, 3) := by decide +kernel
theorem dX4_statementKind_39 : decode cX4_statementKind 39 = .ok (.iconst 2, 1) := by decide +kernel
theorem dX4_statementKind_40 : decode cX4_statementKind 40 = .ok (.ireturn, 1) := by decide +kernel
theorem dX4_statementKind_41 : decode cX4_statementKind 41 = .ok (.aload_n 0, 1) := by decide +kernel
theorem dX4_statementKind_42 : decode cX4_statementKind 42 = .ok (.getfield 9, 3) := by decide +kernel
theorem dX4_statementKind_45 : decode cX4_statementKind 45 = .ok (.ldc 88, 2) := by decide +kernel
theorem dX4_statementKind_47 : decode cX4_statementKind 47 = .ok (.invokevirtual 80, 3) := by decide +kernel
theorem dX4_statementKind_50 : decode cX4_statementKind 50 = .ok (.ifCond .eq 7, 3) := by decide +kernel
theorem dX4_statementKind_53 : decode cX4_statementKind 53 = .ok (.iconst 3, 1) := by decide +kernel
theorem dX4_statementKind_54 : decode cX4_statementKind 54 = .ok (.goto 4, 3) := by decide +kernel
theorem dX4_statementKind_57 : decode cX4_statementKind 57 = .ok (.iconst (-1), 1) := by decide +kernel
theorem dX4_statementKind_58 : decode cX4_statementKind 58 = .ok (.ireturn, 1) := by decide +kernel
theorem dX4_readBlock_0 : decode cX4_readBlock 0 = .ok (.aload_n 0, 1) := by decide +kernel
theorem dX4_readBlock_1 : decode cX4_readBlock 1 = .ok (.getfield 9, 3) := by decide +kernel
theorem dX4_readBlock_4 : decode cX4_readBlock 4 = .ok (.bipush 123, 2) := by decide +kernel
theorem dX4_readBlock_6 : decode cX4_readBlock 6 = .ok (.invokevirtual 90, 3) := by decide +kernel
theorem dX4_readBlock_9 : decode cX4_readBlock 9 = .ok (.ifCond .eq 17, 3) := by decide +kernel
theorem dX4_readBlock_12 : decode cX4_readBlock 12 = .ok (.iload_n 3, 1) := by decide +kernel
theorem dX4_readBlock_13 : decode cX4_readBlock 13 = .ok (.iconst 4, 1) := by decide +kernel
theorem dX4_readBlock_14 : decode cX4_readBlock 14 = .ok (.if_icmp .lt 12, 3) := by decide +kernel
theorem dX4_readBlock_17 : decode cX4_readBlock 17 = .ok (.aload_n 0, 1) := by decide +kernel
theorem dX4_readBlock_18 : decode cX4_readBlock 18 = .ok (.getfield 9, 3) := by decide +kernel
theorem dX4_readBlock_21 : decode cX4_readBlock 21 = .ok (.iconst 2, 1) := by decide +kernel
theorem dX4_readBlock_22 : decode cX4_readBlock 22 = .ok (.invokevirtual 54, 3) := by decide +kernel
theorem dX4_readBlock_25 : decode cX4_readBlock 25 = .ok (.return_, 1) := by decide +kernel
theorem dX4_readBlock_26 : decode cX4_readBlock 26 = .ok (.aload_n 0, 1) := by decide +kernel
theorem dX4_readBlock_27 : decode cX4_readBlock 27 = .ok (.getfield 9, 3) := by decide +kernel
theorem dX4_readBlock_30 : decode cX4_readBlock 30 = .ok (.bipush 123, 2) := by decide +kernel
theorem dX4_readBlock_32 : decode cX4_readBlock 32 = .ok (.invokevirtual 67, 3) := by decide +kernel
theorem dX4_readBlock_35 : decode cX4_readBlock 35 = .ok (.iconst 0, 1) := by decide +kernel
theorem dX4_readBlock_36 : decode cX4_readBlock 36 = .ok (.istore 4, 2) := by decide +kernel
theorem dX4_readBlock_38 : decode cX4_readBlock 38 = .ok (.iload 4, 2) := by decide +kernel
theorem dX4_readBlock_40 : decode cX4_readBlock 40 = .ok (.sipush 600, 3) := by decide +kernel
theorem dX4_readBlock_43 : decode cX4_readBlock 43 = .ok (.if_icmp .ge 40, 3) := by decide +kernel
theorem dX4_readBlock_46 : decode cX4_readBlock 46 = .ok (.aload_n 0, 1) := by decide +kernel
theorem dX4_readBlock_47 : decode cX4_readBlock 47 = .ok (.getfield 9, 3) := by decide +kernel
theorem dX4_readBlock_50 : decode cX4_readBlock 50 = .ok (.getfield 34, 3) := by decide +kernel
theorem dX4_readBlock_53 : decode cX4_readBlock 53 = .ok (.ifCond .ne 30, 3) := by decide +kernel
theorem dX4_readBlock_56 : decode cX4_readBlock 56 = .ok (.aload_n 0, 1) := by decide +kernel
theorem dX4_readBlock_57 : decode cX4_readBlock 57 = .ok (.getfield 9, 3) := by decide +kernel
theorem dX4_readBlock_60 : decode cX4_readBlock 60 = .ok (.bipush 125, 2) := by decide +kernel
theorem dX4_readBlock_62 : decode cX4_readBlock 62 = .ok (.invokevirtual 90, 3) := by decide +kernel
theorem dX4_readBlock_65 : decode cX4_readBlock 65 = .ok (.ifCond .ne 18, 3) := by decide +kernel
theorem dX4_readBlock_68 : decode cX4_readBlock 68 = .ok (.aload_n 0, 1) := by decide +kernel
theorem dX4_readBlock_69 : decode cX4_readBlock 69 = .ok (.iload_n 1, 1) := by decide +kernel
theorem dX4_readBlock_70 : decode cX4_readBlock 70 = .ok (.iload_n 2, 1) := by decide +kernel
theorem dX4_readBlock_71 : decode cX4_readBlock 71 = .ok (.iload_n 3, 1) := by decide +kernel
theorem dX4_readBlock_72 : decode cX4_readBlock 72 = .ok (.iconst 1, 1) := by decide +kernel
theorem dX4_readBlock_73 : decode cX4_readBlock 73 = .ok (.iadd, 1) := by decide +kernel
theorem dX4_readBlock_74 : decode cX4_readBlock 74 = .ok (.invokevirtual 30, 3) := by decide +kernel
theorem dX4_readBlock_77 : decode cX4_readBlock 77 = .ok (.iinc 4 1, 3) := by decide +kernel
theorem dX4_readBlock_80 : decode cX4_readBlock 80 = .ok (.goto (-42), 3) := by decide +kernel
theorem dX4_readBlock_83 : decode cX4_readBlock 83 = .ok (.aload_n 0, 1) := by decide +kernel
theorem dX4_readBlock_84 : decode cX4_readBlock 84 = .ok (.getfield 9, 3) := by decide +kernel
theorem dX4_readBlock_87 : decode cX4_readBlock 87 = .ok (.bipush 125, 2) := by decide +kernel
theorem dX4_readBlock_89 : decode cX4_readBlock 89 = .ok (.invokevirtual 67, 3) := by decide +kernel
theorem dX4_readBlock_92 : decode cX4_readBlock 92 = .ok (.return_, 1) := by decide +kernel
theorem dX4_readSides_0 : decode cX4_readSides 0 = .ok (.iload_n 1, 1) := by decide +kernel
theorem dX4_readSides_1 : decode cX4_readSides 1 = .ok (.iconst 2, 1) := by decide +kernel
theorem dX4_readSides_2 : decode cX4_readSides 2 = .ok (.if_icmp .le 9, 3) := by decide +kernel
theorem dX4_readSides_5 : decode cX4_readSides 5 = .ok (.aload_n 0, 1) := by decide +kernel
theorem dX4_readSides_6 : decode cX4_readSides 6 = .ok (.iload_n 2, 1) := by decide +kernel
theorem dX4_readSides_7 : decode cX4_readSides 7 = .ok (.invokevirtual 94, 3) := by decide +kernel
theorem dX4_readSides_10 : decode cX4_readSides 10 = .ok (.return_, 1) := by decide +kernel
theorem dX4_readSides_11 : decode cX4_readSides 11 = .ok (.aload_n 0, 1) := by decide +kernel
theorem dX4_readSides_12 : decode cX4_readSides 12 = .ok (.getfield 15, 3) := by decide +kernel
theorem dX4_readSides_15 : decode cX4_readSides 15 = .ok (.getfield 41, 3) := by decide +kernel
theorem dX4_readSides_18 : decode cX4_readSides 18 = .ok (.istore_n 3, 1) := by decide +kernel
theorem dX4_readSides_19 : decode cX4_readSides 19 = .ok (.aload_n 0, 1) := by decide +kernel
theorem dX4_readSides_20 : decode cX4_readSides 20 = .ok (.iload_n 1, 1) := by decide +kernel
theorem dX4_readSides_21 : decode cX4_readSides 21 = .ok (.iconst 1, 1) := by decide +kernel
theorem dX4_readSides_22 : decode cX4_readSides 22 = .ok (.iadd, 1) := by decide +kernel
theorem dX4_readSides_23 : decode cX4_readSides 23 = .ok (.iload_n 2, 1) := by decide +kernel
theorem dX4_readSides_24 : decode cX4_readSides 24 = .ok (.invokevirtual 71, 3) := by decide +kernel
theorem dX4_readSides_27 : decode cX4_readSides 27 = .ok (.iload_n 1, 1) := by decide +kernel
theorem dX4_readSides_28 : decode cX4_readSides 28 = .ok (.ifCond .ne 7, 3) := by decide +kernel
theorem dX4_readSides_31 : decode cX4_readSides 31 = .ok (.iconst 1, 1) := by decide +kernel
theorem dX4_readSides_32 : decode cX4_readSides 32 = .ok (.goto 6, 3) := by decide +kernel
theorem dX4_readSides_35 : decode cX4_readSides 35 = .ok (.sipush 600, 3) := by decide +kernel
theorem dX4_readSides_38 : decode cX4_readSides 38 = .ok (.istore 4, 2) := by decide +kernel
theorem dX4_readSides_40 : decode cX4_readSides 40 = .ok (.iconst 0, 1) := by decide +kernel
theorem dX4_readSides_41 : decode cX4_readSides 41 = .ok (.istore 5, 2) := by decide +kernel
theorem dX4_readSides_43 : decode cX4_readSides 43 = .ok (.iload 5, 2) := by decide +kernel
theorem dX4_readSides_45 : decode cX4_readSides 45 = .ok (.iload 4, 2) := by decide +kernel
theorem dX4_readSides_47 : decode cX4_readSides 47 = .ok (.if_icmp .ge 66, 3) := by decide +kernel
theorem dX4_readSides_50 : decode cX4_readSides 50 = .ok (.aload_n 0, 1) := by decide +kernel
theorem dX4_readSides_51 : decode cX4_readSides 51 = .ok (.getfield 9, 3) := by decide +kernel
theorem dX4_readSides_54 : decode cX4_readSides 54 = .ok (.getfield 38, 3) := by decide +kernel
theorem dX4_readSides_57 : decode cX4_readSides 57 = .ok (.iconst 4, 1) := by decide +kernel
theorem dX4_readSides_58 : decode cX4_readSides 58 = .ok (.if_icmp .ne 55, 3) := by decide +kernel
theorem dX4_readSides_61 : decode cX4_readSides 61 = .ok (.aload_n 0, 1) := by decide +kernel
theorem dX4_readSides_62 : decode cX4_readSides 62 = .ok (.getfield 9, 3) := by decide +kernel
theorem dX4_readSides_65 : decode cX4_readSides 65 = .ok (.getfield 97, 3) := by decide +kernel
theorem dX4_readSides_68 : decode cX4_readSides 68 = .ok (.invokestatic 100, 3) := by decide +kernel
theorem dX4_readSides_71 : decode cX4_readSides 71 = .ok (.iload_n 1, 1) := by decide +kernel
theorem dX4_readSides_72 : decode cX4_readSides 72 = .ok (.if_icmp .ne 41, 3) := by decide +kernel
theorem dX4_readSides_75 : decode cX4_readSides 75 = .ok (.aload_n 0, 1) := by decide +kernel
theorem dX4_readSides_76 : decode cX4_readSides 76 = .ok (.getfield 15, 3) := by decide +kernel
theorem dX4_readSides_79 : decode cX4_readSides 79 = .ok (.iload_n 3, 1) := by decide +kernel
theorem dX4_readSides_80 : decode cX4_readSides 80 = .ok (.bipush 7, 2) := by decide +kernel
theorem dX4_readSides_82 : decode cX4_readSides 82 = .ok (.aload_n 0, 1) := by decide +kernel
theorem dX4_readSides_83 : decode cX4_readSides 83 = .ok (.getfield 9, 3) := by decide +kernel
theorem dX4_readSides_86 : decode cX4_readSides 86 = .ok (.getfield 97, 3) := by decide +kernel
theorem dX4_readSides_89 : decode cX4_readSides 89 = .ok (.invokevirtual 104, 3) := by decide +kernel
theorem dX4_readSides_92 : decode cX4_readSides 92 = .ok (.aload_n 0, 1) := by decide +kernel
theorem dX4_readSides_93 : decode cX4_readSides 93 = .ok (.getfield 9, 3) := by decide +kernel
theorem dX4_readSides_96 : decode cX4_readSides 96 = .ok (.invokevirtual 64, 3) := by decide +kernel
theorem dX4_readSides_99 : decode cX4_readSides 99 = .ok (.aload_n 0, 1) := by decide +kernel
theorem dX4_readSides_100 : decode cX4_readSides 100 = .ok (.iload_n 1, 1) := by decide +kernel
theorem dX4_readSides_101 : decode cX4_readSides 101 = .ok (.iconst 1, 1) := by decide +kernel
theorem dX4_readSides_102 : decode cX4_readSides 102 = .ok (.iadd, 1) := by decide +kernel
theorem dX4_readSides_103 : decode cX4_readSides 103 = .ok (.iload_n 2, 1) := by decide +kernel
theorem dX4_readSides_104 : decode cX4_readSides 104 = .ok (.invokevirtual 71, 3) := by decide +kernel
theorem dX4_readSides_107 : decode cX4_readSides 107 = .ok (.iinc 5 1, 3) := by decide +kernel
theorem dX4_readSides_110 : decode cX4_readSides 110 = .ok (.goto (-67), 3) := by decide +kernel
theorem dX4_readSides_113 : decode cX4_readSides 113 = .ok (.return_, 1) := by decide +kernel
theorem dX4_readPart_0 : decode cX4_readPart 0 = .ok (.aload_n 0, 1) := by decide +kernel
theorem dX4_readPart_1 : decode cX4_readPart 1 = .ok (.getfield 9, 3) := by decide +kernel
theorem dX4_readPart_4 : decode cX4_readPart 4 = .ok (.bipush 40, 2) := by decide +kernel
theorem dX4_readPart_6 : decode cX4_readPart 6 = .ok (.invokevirtual 90, 3) := by decide +kernel
theorem dX4_readPart_9 : decode cX4_readPart 9 = .ok (.istore_n 2, 1) := by decide +kernel
theorem dX4_readPart_10 : decode cX4_readPart 10 = .ok (.aload_n 0, 1) := by decide +kernel
theorem dX4_readPart_11 : decode cX4_readPart 11 = .ok (.getfield 9, 3) := by decide +kernel
theorem dX4_readPart_14 : decode cX4_readPart 14 = .ok (.iconst 1, 1) := by decide +kernel
theorem dX4_readPart_15 : decode cX4_readPart 15 = .ok (.invokevirtual 107, 3) := by decide +kernel
theorem dX4_readPart_18 : decode cX4_readPart 18 = .ok (.istore_n 3, 1) := by decide +kernel
theorem dX4_readPart_19 : decode cX4_readPart 19 = .ok (.aload_n 0, 1) := by decide +kernel
theorem dX4_readPart_20 : decode cX4_readPart 20 = .ok (.getfield 9, 3) := by decide +kernel
theorem dX4_readPart_23 : decode cX4_readPart 23 = .ok (.invokevirtual 57, 3) := by decide +kernel
theorem dX4_readPart_26 : decode cX4_readPart 26 = .ok (.istore 4, 2) := by decide +kernel
theorem dX4_readPart_28 : decode cX4_readPart 28 = .ok (.iload_n 2, 1) := by decide +kernel
theorem dX4_readPart_29 : decode cX4_readPart 29 = .ok (.ifCond .ne 7, 3) := by decide +kernel
theorem dX4_readPart_32 : decode cX4_readPart 32 = .ok (.iload_n 3, 1) := by decide +kernel
theorem dX4_readPart_33 : decode cX4_readPart 33 = .ok (.ifCond .eq 20, 3) := by decide +kernel
theorem dX4_readPart_36 : decode cX4_readPart 36 = .ok (.iload_n 1, 1) := by decide +kernel
theorem dX4_readPart_37 : decode cX4_readPart 37 = .ok (.bipush 8, 2) := by decide +kernel
theorem dX4_readPart_39 : decode cX4_readPart 39 = .ok (.if_icmp .lt 14, 3) := by decide +kernel
theorem dX4_readPart_42 : decode cX4_readPart 42 = .ok (.aload_n 0, 1) := by decide +kernel
theorem dX4_readPart_43 : decode cX4_readPart 43 = .ok (.getfield 9, 3) := by decide +kernel
theorem dX4_readPart_46 : decode cX4_readPart 46 = .ok (.iconst 2, 1) := by decide +kernel
theorem dX4_readPart_47 : decode cX4_readPart 47 = .ok (.invokevirtual 54, 3) := by decide +kernel
theorem dX4_readPart_50 : decode cX4_readPart 50 = .ok (.goto 156, 3) := by decide +kernel
theorem dX4_readPart_53 : decode cX4_readPart 53 = .ok (.iload_n 2, 1) := by decide +kernel
theorem dX4_readPart_54 : decode cX4_readPart 54 = .ok (.ifCond .eq 30, 3) := by decide +kernel
theorem dX4_readPart_57 : decode cX4_readPart 57 = .ok (.aload_n 0, 1) := by decide +kernel
theorem dX4_readPart_58 : decode cX4_readPart 58 = .ok (.getfield 9, 3) := by decide +kernel
theorem dX4_readPart_61 : decode cX4_readPart 61 = .ok (.invokevirtual 64, 3) := by decide +kernel
theorem dX4_readPart_64 : decode cX4_readPart 64 = .ok (.aload_n 0, 1) := by decide +kernel
theorem dX4_readPart_65 : decode cX4_readPart 65 = .ok (.iconst 0, 1) := by decide +kernel
theorem dX4_readPart_66 : decode cX4_readPart 66 = .ok (.iload_n 1, 1) := by decide +kernel
theorem dX4_readPart_67 : decode cX4_readPart 67 = .ok (.iconst 1, 1) := by decide +kernel
theorem dX4_readPart_68 : decode cX4_readPart 68 = .ok (.iadd, 1) := by decide +kernel
theorem dX4_readPart_69 : decode cX4_readPart 69 = .ok (.invokevirtual 71, 3) := by decide +kernel
theorem dX4_readPart_72 : decode cX4_readPart 72 = .ok (.aload_n 0, 1) := by decide +kernel
theorem dX4_readPart_73 : decode cX4_readPart 73 = .ok (.getfield 9, 3) := by decide +kernel
theorem dX4_readPart_76 : decode cX4_readPart 76 = .ok (.bipush 41, 2) := by decide +kernel
theorem dX4_readPart_78 : decode cX4_readPart 78 = .ok (.invokevirtual 67, 3) := by decide +kernel
theorem dX4_readPart_81 : decode cX4_readPart 81 = .ok (.goto 125, 3) := by decide +kernel
theorem dX4_readPart_84 : decode cX4_readPart 84 = .ok (.iload_n 3, 1) := by decide +kernel
theorem dX4_readPart_85 : decode cX4_readPart 85 = .ok (.ifCond .eq 37, 3) := by decide +kernel
theorem dX4_readPart_88 : decode cX4_readPart 88 = .ok (.aload_n 0, 1) := by decide +kernel
theorem dX4_readPart_89 : decode cX4_readPart 89 = .ok (.getfield 15, 3) := by decide +kernel
theorem dX4_readPart_92 : decode cX4_readPart 92 = .ok (.aload_n 0, 1) := by decide +kernel
theorem dX4_readPart_93 : decode cX4_readPart 93 = .ok (.getfield 15, 3) := by decide +kernel
theorem dX4_readPart_96 : decode cX4_readPart 96 = .ok (.getfield 41, 3) := by decide +kernel
theorem dX4_readPart_99 : decode cX4_readPart 99 = .ok (.bipush 6, 2) := by decide +kernel
theorem dX4_readPart_101 : decode cX4_readPart 101 = .ok (.iconst 0, 1) := by decide +kernel
theorem dX4_readPart_102 : decode cX4_readPart 102 = .ok (.invokevirtual 104, 3) := by decide +kernel
theorem dX4_readPart_105 : decode cX4_readPart 105 = .ok (.aload_n 0, 1) := by decide +kernel
theorem dX4_readPart_106 : decode cX4_readPart 106 = .ok (.getfield 9, 3) := by decide +kernel
theorem dX4_readPart_109 : decode cX4_readPart 109 = .ok (.invokevirtual 64, 3) := by decide +kernel
theorem dX4_readPart_112 : decode cX4_readPart 112 = .ok (.aload_n 0, 1) := by decide +kernel
theorem dX4_readPart_113 : decode cX4_readPart 113 = .ok (.iload_n 1, 1) := by decide +kernel
theorem dX4_readPart_114 : decode cX4_readPart 114 = .ok (.iconst 1, 1) := by decide +kernel
theorem dX4_readPart_115 : decode cX4_readPart 115 = .ok (.iadd, 1) := by decide +kernel
theorem dX4_readPart_116 : decode cX4_readPart 116 = .ok (.invokevirtual 94, 3) := by decide +kernel
theorem dX4_readPart_119 : decode cX4_readPart 119 = .ok (.goto 87, 3) := by decide +kernel
theorem dX4_readPart_122 : decode cX4_readPart 122 = .ok (.aload_n 0, 1) := by decide +kernel
theorem dX4_readPart_123 : decode cX4_readPart 123 = .ok (.getfield 9, 3) := by decide +kernel
theorem dX4_readPart_126 : decode cX4_readPart 126 = .ok (.getfield 38, 3) := by decide +kernel
theorem dX4_readPart_129 : decode cX4_readPart 129 = .ok (.iconst 3, 1) := by decide +kernel
theorem dX4_readPart_130 : decode cX4_readPart 130 = .ok (.if_icmp .ne 35, 3) := by decide +kernel
theorem dX4_readPart_133 : decode cX4_readPart 133 = .ok (.aload_n 0, 1) := by decide +kernel
theorem dX4_readPart_134 : decode cX4_readPart 134 = .ok (.getfield 15, 3) := by decide +kernel
theorem dX4_readPart_137 : decode cX4_readPart 137 = .ok (.aload_n 0, 1) := by decide +kernel
theorem dX4_readPart_138 : decode cX4_readPart 138 = .ok (.getfield 15, 3) := by decide +kernel
theorem dX4_readPart_141 : decode cX4_readPart 141 = .ok (.getfield 41, 3) := by decide +kernel
theorem dX4_readPart_144 : decode cX4_readPart 144 = .ok (.iconst 4, 1) := by decide +kernel
theorem dX4_readPart_145 : decode cX4_readPart 145 = .ok (.aload_n 0, 1) := by decide +kernel
theorem dX4_readPart_146 : decode cX4_readPart 146 = .ok (.getfield 9, 3) := by decide +kernel
theorem dX4_readPart_149 : decode cX4_readPart 149 = .ok (.getfield 97, 3) := by decide +kernel
theorem dX4_readPart_152 : decode cX4_readPart 152 = .ok (.invokevirtual 104, 3) := by decide +kernel
theorem dX4_readPart_155 : decode cX4_readPart 155 = .ok (.aload_n 0, 1) := by decide +kernel
theorem dX4_readPart_156 : decode cX4_readPart 156 = .ok (.getfield 9, 3) := by decide +kernel
theorem dX4_readPart_159 : decode cX4_readPart 159 = .ok (.invokevirtual 64, 3) := by decide +kernel
theorem dX4_readPart_162 : decode cX4_readPart 162 = .ok (.goto 44, 3) := by decide +kernel
theorem dX4_readPart_165 : decode cX4_readPart 165 = .ok (.iload 4, 2) := by decide +kernel
theorem dX4_readPart_167 : decode cX4_readPart 167 = .ok (.iconst (-1), 1) := by decide +kernel
theorem dX4_readPart_168 : decode cX4_readPart 168 = .ok (.if_icmp .eq 30, 3) := by decide +kernel
theorem dX4_readPart_171 : decode cX4_readPart 171 = .ok (.aload_n 0, 1) := by decide +kernel
theorem dX4_readPart_172 : decode cX4_readPart 172 = .ok (.getfield 15, 3) := by decide +kernel
theorem dX4_readPart_175 : decode cX4_readPart 175 = .ok (.aload_n 0, 1) := by decide +kernel
theorem dX4_readPart_176 : decode cX4_readPart 176 = .ok (.getfield 15, 3) := by decide +kernel
theorem dX4_readPart_179 : decode cX4_readPart 179 = .ok (.getfield 41, 3) := by decide +kernel
theorem dX4_readPart_182 : decode cX4_readPart 182 = .ok (.iconst 5, 1) := by decide +kernel
theorem dX4_readPart_183 : decode cX4_readPart 183 = .ok (.iload 4, 2) := by decide +kernel
theorem dX4_readPart_185 : decode cX4_readPart 185 = .ok (.invokevirtual 104, 3) := by decide +kernel
theorem dX4_readPart_188 : decode cX4_readPart 188 = .ok (.aload_n 0, 1) := by decide +kernel
theorem dX4_readPart_189 : decode cX4_readPart 189 = .ok (.getfield 9, 3) := by decide +kernel
theorem dX4_readPart_192 : decode cX4_readPart 192 = .ok (.invokevirtual 64, 3) := by decide +kernel
theorem dX4_readPart_195 : decode cX4_readPart 195 = .ok (.goto 11, 3) := by decide +kernel
theorem dX4_readPart_198 : decode cX4_readPart 198 = .ok (.aload_n 0, 1) := by decide +kernel
theorem dX4_readPart_199 : decode cX4_readPart 199 = .ok (.getfield 9, 3) := by decide +kernel
theorem dX4_readPart_202 : decode cX4_readPart 202 = .ok (.iconst 1, 1) := by decide +kernel
theorem dX4_readPart_203 : decode cX4_readPart 203 = .ok (.invokevirtual 54, 3) := by decide +kernel
theorem dX4_readPart_206 : decode cX4_readPart 206 = .ok (.return_, 1) := by decide +kernel
theorem dX4_levelOf_0 : decode cX4_levelOf 0 = .ok (.iload_n 0, 1) := by decide +kernel
theorem dX4_levelOf_1 : decode cX4_levelOf 1 = .ok (.iconst 5, 1) := by decide +kernel
theorem dX4_levelOf_2 : decode cX4_levelOf 2 = .ok (.if_icmp .lt 5, 3) := by decide +kernel
theorem dX4_levelOf_5 : decode cX4_levelOf 5 = .ok (.iconst 0, 1) := by decide +kernel
theorem dX4_levelOf_6 : decode cX4_levelOf 6 = .ok (.ireturn, 1) := by decide +kernel
theorem dX4_levelOf_7 : decode cX4_levelOf 7 = .ok (.iload_n 0, 1) := by decide +kernel
theorem dX4_levelOf_8 : decode cX4_levelOf 8 = .ok (.iconst 2, 1) := by decide +kernel
theorem dX4_levelOf_9 : decode cX4_levelOf 9 = .ok (.if_icmp .lt 7, 3) := by decide +kernel
theorem dX4_levelOf_12 : decode cX4_levelOf 12 = .ok (.iconst 2, 1) := by decide +kernel
theorem dX4_levelOf_13 : decode cX4_levelOf 13 = .ok (.goto 4, 3) := by decide +kernel
theorem dX4_levelOf_16 : decode cX4_levelOf 16 = .ok (.iconst 1, 1) := by decide +kernel
theorem dX4_levelOf_17 : decode cX4_levelOf 17 = .ok (.ireturn, 1) := by decide +kernel
theorem dX5_init_0 : decode cX5_init 0 = .ok (.aload_n 0, 1) := by decide +kernel
theorem dX5_init_1 : decode cX5_init 1 = .ok (.invokespecial 3, 3) := by decide +kernel
theorem dX5_init_4 : decode cX5_init 4 = .ok (.aload_n 0, 1) := by decide +kernel
theorem dX5_init_5 : decode cX5_init 5 = .ok (.bipush 60, 2) := by decide +kernel
theorem dX5_init_7 : decode cX5_init 7 = .ok (.newarray .int, 2) := by decide +kernel
theorem dX5_init_9 : decode cX5_init 9 = .ok (.putfield 9, 3) := by decide +kernel
theorem dX5_init_12 : decode cX5_init 12 = .ok (.aload_n 0, 1) := by decide +kernel
theorem dX5_init_13 : decode cX5_init 13 = .ok (.bipush 60, 2) := by decide +kernel
theorem dX5_init_15 : decode cX5_init 15 = .ok (.newarray .int, 2) := by decide +kernel
theorem dX5_init_17 : decode cX5_init 17 = .ok (.putfield 15, 3) := by decide +kernel
theorem dX5_init_20 : decode cX5_init 20 = .ok (.aload_n 0, 1) := by decide +kernel
theorem dX5_init_21 : decode cX5_init 21 = .ok (.iconst 3, 1) := by decide +kernel
theorem dX5_init_22 : decode cX5_init 22 = .ok (.bipush 60, 2) := by decide +kernel
theorem dX5_init_24 : decode cX5_init 24 = .ok (.multianewarray 18 2, 4) := by decide +kernel
theorem dX5_init_28 : decode cX5_init 28 = .ok (.putfield 20, 3) := by decide +kernel
theorem dX5_init_31 : decode cX5_init 31 = .ok (.aload_n 0, 1) := by decide +kernel
theorem dX5_init_32 : decode cX5_init 32 = .ok (.iconst 3, 1) := by decide +kernel
theorem dX5_init_33 : decode cX5_init 33 = .ok (.bipush 60, 2) := by decide +kernel
theorem dX5_init_35 : decode cX5_init 35 = .ok (.multianewarray 18 2, 4) := by decide +kernel
theorem dX5_init_39 : decode cX5_init 39 = .ok (.putfield 23, 3) := by decide +kernel
theorem dX5_init_42 : decode cX5_init 42 = .ok (.aload_n 0, 1) := by decide +kernel
theorem dX5_init_43 : decode cX5_init 43 = .ok (.iconst 3, 1) := by decide +kernel
theorem dX5_init_44 : decode cX5_init 44 = .ok (.bipush 20, 2) := by decide +kernel
theorem dX5_init_46 : decode cX5_init 46 = .ok (.multianewarray 18 2, 4) := by decide +kernel
theorem dX5_init_50 : decode cX5_init 50 = .ok (.putfield 26, 3) := by decide +kernel
theorem dX5_init_53 : decode cX5_init 53 = .ok (.aload_n 0, 1) := by decide +kernel
theorem dX5_init_54 : decode cX5_init 54 = .ok (.aload_n 1, 1) := by decide +kernel
theorem dX5_init_55 : decode cX5_init 55 = .ok (.putfield 29, 3) := by decide +kernel
theorem dX5_init_58 : decode cX5_init 58 = .ok (.aload_n 0, 1) := by decide +kernel
theorem dX5_init_59 : decode cX5_init 59 = .ok (.aload_n 2, 1) := by decide +kernel
theorem dX5_init_60 : decode cX5_init 60 = .ok (.putfield 33, 3) := by decide +kernel
theorem dX5_init_63 : decode cX5_init 63 = .ok (.return_, 1) := by decide +kernel
theorem dX5_learn_0 : decode cX5_learn 0 = .ok (.iconst 0, 1) := by decide +kernel
theorem dX5_learn_1 : decode cX5_learn 1 = .ok (.istore_n 1, 1) := by decide +kernel
theorem dX5_learn_2 : decode cX5_learn 2 = .ok (.iload_n 1, 1) := by decide +kernel
theorem dX5_learn_3 : decode cX5_learn 3 = .ok (.aload_n 0, 1) := by decide +kernel
theorem dX5_learn_4 : decode cX5_learn 4 = .ok (.getfield 29, 3) := by decide +kernel
theorem dX5_learn_7 : decode cX5_learn 7 = .ok (.getfield 37, 3) := by decide +kernel
theorem dX5_learn_10 : decode cX5_learn 10 = .ok (.if_icmp .ge 54, 3) := by decide +kernel
theorem dX5_learn_13 : decode cX5_learn 13 = .ok (.aload_n 0, 1) := by decide +kernel
theorem dX5_learn_14 : decode cX5_learn 14 = .ok (.getfield 29, 3) := by decide +kernel
theorem dX5_learn_17 : decode cX5_learn 17 = .ok (.getfield 43, 3) := by decide +kernel
theorem dX5_learn_20 : decode cX5_learn 20 = .ok (.iload_n 1, 1) := by decide +kernel
theorem dX5_learn_21 : decode cX5_learn 21 = .ok (.iaload, 1) := by decide +kernel
theorem dX5_learn_22 : decode cX5_learn 22 = .ok (.istore_n 2, 1) := by decide +kernel
theorem dX5_learn_23 : decode cX5_learn 23 = .ok (.aload_n 0, 1) := by decide +kernel
theorem dX5_learn_24 : decode cX5_learn 24 = .ok (.getfield 9, 3) := by decide +kernel
theorem dX5_learn_27 : decode cX5_learn 27 = .ok (.iload_n 2, 1) := by decide +kernel
theorem dX5_learn_28 : decode cX5_learn 28 = .ok (.aload_n 0, 1) := by decide +kernel
theorem dX5_learn_29 : decode cX5_learn 29 = .ok (.getfield 33, 3) := by decide +kernel
theorem dX5_learn_32 : decode cX5_learn 32 = .ok (.iload_n 2, 1) := by decide +kernel
theorem dX5_learn_33 : decode cX5_learn 33 = .ok (.iconst 0, 1) := by decide +kernel
theorem dX5_learn_34 : decode cX5_learn 34 = .ok (.invokevirtual 46, 3) := by decide +kernel
theorem dX5_learn_37 : decode cX5_learn 37 = .ok (.iastore, 1) := by decide +kernel
theorem dX5_learn_38 : decode cX5_learn 38 = .ok (.aload_n 0, 1) := by decide +kernel
theorem dX5_learn_39 : decode cX5_learn 39 = .ok (.getfield 15, 3) := by decide +kernel
theorem dX5_learn_42 : decode cX5_learn 42 = .ok (.iload_n 2, 1) := by decide +kernel
theorem dX5_learn_43 : decode cX5_learn 43 = .ok (.aload_n 0, 1) := by decide +kernel
theorem dX5_learn_44 : decode cX5_learn 44 = .ok (.getfield 33, 3) := by decide +kernel
theorem dX5_learn_47 : decode cX5_learn 47 = .ok (.iload_n 2, 1) := by decide +kernel
theorem dX5_learn_48 : decode cX5_learn 48 = .ok (.iconst 1, 1) := by decide +kernel
theorem dX5_learn_49 : decode cX5_learn 49 = .ok (.invokevirtual 46, 3) := by decide +kernel
theorem dX5_learn_52 : decode cX5_learn 52 = .ok (.iastore, 1) := by decide +kernel
theorem dX5_learn_53 : decode cX5_learn 53 = .ok (.aload_n 0, 1) := by decide +kernel
theorem dX5_learn_54 : decode cX5_learn 54 = .ok (.iload_n 2, 1) := by decide +kernel
theorem dX5_learn_55 : decode cX5_learn 55 = .ok (.invokevirtual 52, 3) := by decide +kernel
theorem dX5_learn_58 : decode cX5_learn 58 = .ok (.iinc 1 1, 3) := by decide +kernel
theorem dX5_learn_61 : decode cX5_learn 61 = .ok (.goto (-59), 3) := by decide +kernel
theorem dX5_learn_64 : decode cX5_learn 64 = .ok (.iconst 0, 1) := by decide +kernel
theorem dX5_learn_65 : decode cX5_learn 65 = .ok (.istore_n 1, 1) := by decide +kernel
theorem dX5_learn_66 : decode cX5_learn 66 = .ok (.iload_n 1, 1) := by decide +kernel
theorem dX5_learn_67 : decode cX5_learn 67 = .ok (.iconst 3, 1) := by decide +kernel
theorem dX5_learn_68 : decode cX5_learn 68 = .ok (.if_icmp .ge 14, 3) := by decide +kernel
theorem dX5_learn_71 : decode cX5_learn 71 = .ok (.aload_n 0, 1) := by decide +kernel
theorem dX5_learn_72 : decode cX5_learn 72 = .ok (.iload_n 1, 1) := by decide +kernel
theorem dX5_learn_73 : decode cX5_learn 73 = .ok (.invokevirtual 56, 3) := by decide +kernel
theorem dX5_learn_76 : decode cX5_learn 76 = .ok (.iinc 1 1, 3) := by decide +kernel
theorem dX5_learn_79 : decode cX5_learn 79 = .ok (.goto (-13), 3) := by decide +kernel
theorem dX5_learn_82 : decode cX5_learn 82 = .ok (.return_, 1) := by decide +kernel
theorem dX5_learnScores_0 : decode cX5_learnScores 0 = .ok (.aload_n 0, 1) := by decide +kernel
theorem dX5_learnScores_1 : decode cX5_learnScores 1 = .ok (.getfield 9, 3) := by decide +kernel
theorem dX5_learnScores_4 : decode cX5_learnScores 4 = .ok (.iload_n 1, 1) := by decide +kernel
theorem dX5_learnScores_5 : decode cX5_learnScores 5 = .ok (.iaload, 1) := by decide +kernel
theorem dX5_learnScores_6 : decode cX5_learnScores 6 = .ok (.istore_n 2, 1) := by decide +kernel
theorem dX5_learnScores_7 : decode cX5_learnScores 7 = .ok (.aload_n 0, 1) := by decide +kernel
theorem dX5_learnScores_8 : decode cX5_learnScores 8 = .ok (.getfield 15, 3) := by decide +kernel
theorem dX5_learnScores_11 : decode cX5_learnScores 11 = .ok (.iload_n 1, 1) := by decide +kernel
theorem dX5_learnScores_12 : decode cX5_learnScores 12 = .ok (.iaload, 1) := by decide +kernel
theorem dX5_learnScores_13 : decode cX5_learnScores 13 = .ok (.istore_n 3, 1) := by decide +kernel
theorem dX5_learnScores_14 : decode cX5_learnScores 14 = .ok (.aload_n 0, 1) := by decide +kernel
theorem dX5_learnScores_15 : decode cX5_learnScores 15 = .ok (.getfield 33, 3) := by decide +kernel
theorem dX5_learnScores_18 : decode cX5_learnScores 18 = .ok (.getfield 59, 3) := by decide +kernel
theorem dX5_learnScores_21 : decode cX5_learnScores 21 = .ok (.istore 4, 2) := by decide +kernel
theorem dX5_learnScores_23 : decode cX5_learnScores 23 = .ok (.aload_n 0, 1) := by decide +kernel
theorem dX5_learnScores_24 : decode cX5_learnScores 24 = .ok (.getfield 33, 3) := by decide +kernel
theorem dX5_learnScores_27 : decode cX5_learnScores 27 = .ok (.getfield 62, 3) := by decide +kernel
theorem dX5_learnScores_30 : decode cX5_learnScores 30 = .ok (.istore 5, 2) := by decide +kernel
theorem dX5_learnScores_32 : decode cX5_learnScores 32 = .ok (.iload 5, 2) := by decide +kernel
theorem dX5_learnScores_34 : decode cX5_learnScores 34 = .ok (.ifCond .ne 14, 3) := by decide +kernel
theorem dX5_learnScores_37 : decode cX5_learnScores 37 = .ok (.aload_n 0, 1) := by decide +kernel
theorem dX5_learnScores_38 : decode cX5_learnScores 38 = .ok (.iconst 0, 1) := by decide +kernel
theorem dX5_learnScores_39 : decode cX5_learnScores 39 = .ok (.iload_n 1, 1) := by decide +kernel
theorem dX5_learnScores_40 : decode cX5_learnScores 40 = .ok (.iload_n 2, 1) := by decide +kernel
theorem dX5_learnScores_41 : decode cX5_learnScores 41 = .ok (.iload_n 2, 1) := by decide +kernel
theorem dX5_learnScores_42 : decode cX5_learnScores 42 = .ok (.invokevirtual 65, 3) := by decide +kernel
theorem dX5_learnScores_45 : decode cX5_learnScores 45 = .ok (.goto 22, 3) := by decide +kernel
theorem dX5_learnScores_48 : decode cX5_learnScores 48 = .ok (.aload_n 0, 1) := by decide +kernel
theorem dX5_learnScores_49 : decode cX5_learnScores 49 = .ok (.iconst 0, 1) := by decide +kernel
theorem dX5_learnScores_50 : decode cX5_learnScores 50 = .ok (.iload_n 1, 1) := by decide +kernel
theorem dX5_learnScores_51 : decode cX5_learnScores 51 = .ok (.iload_n 2, 1) := by decide +kernel
theorem dX5_learnScores_52 : decode cX5_learnScores 52 = .ok (.iload 5, 2) := by decide +kernel
theorem dX5_learnScores_54 : decode cX5_learnScores 54 = .ok (.imul, 1) := by decide +kernel
theorem dX5_learnScores_55 : decode cX5_learnScores 55 = .ok (.iload_n 2, 1) := by decide +kernel
theorem dX5_learnScores_56 : decode cX5_learnScores 56 = .ok (.iload 5, 2) := by decide +kernel
theorem dX5_learnScores_58 : decode cX5_learnScores 58 = .ok (.imul, 1) := by decide +kernel
theorem dX5_learnScores_59 : decode cX5_learnScores 59 = .ok (.iload_n 3, 1) := by decide +kernel
theorem dX5_learnScores_60 : decode cX5_learnScores 60 = .ok (.iload 4, 2) := by decide +kernel
theorem dX5_learnScores_62 : decode cX5_learnScores 62 = .ok (.imul, 1) := by decide +kernel
theorem dX5_learnScores_63 : decode cX5_learnScores 63 = .ok (.iadd, 1) := by decide +kernel
theorem dX5_learnScores_64 : decode cX5_learnScores 64 = .ok (.invokevirtual 65, 3) := by decide +kernel
theorem dX5_learnScores_67 : decode cX5_learnScores 67 = .ok (.aload_n 0, 1) := by decide +kernel
theorem dX5_learnScores_68 : decode cX5_learnScores 68 = .ok (.iconst 1, 1) := by decide +kernel
theorem dX5_learnScores_69 : decode cX5_learnScores 69 = .ok (.iload_n 1, 1) := by decide +kernel
theorem dX5_learnScores_70 : decode cX5_learnScores 70 = .ok (.iload_n 2, 1) := by decide +kernel
theorem dX5_learnScores_71 : decode cX5_learnScores 71 = .ok (.iload_n 2, 1) := by decide +kernel
theorem dX5_learnScores_72 : decode cX5_learnScores 72 = .ok (.imul, 1) := by decide +kernel
theorem dX5_learnScores_73 : decode cX5_learnScores 73 = .ok (.iload 4, 2) := by decide +kernel
theorem dX5_learnScores_75 : decode cX5_learnScores 75 = .ok (.iload_n 2, 1) := by decide +kernel
theorem dX5_learnScores_76 : decode cX5_learnScores 76 = .ok (.iload_n 3, 1) := by decide +kernel
theorem dX5_learnScores_77 : decode cX5_learnScores 77 = .ok (.iadd, 1) := by decide +kernel
theorem dX5_learnScores_78 : decode cX5_learnScores 78 = .ok (.imul, 1) := by decide +kernel
theorem dX5_learnScores_79 : decode cX5_learnScores 79 = .ok (.invokevirtual 65, 3) := by decide +kernel
theorem dX5_learnScores_82 : decode cX5_learnScores 82 = .ok (.iload_n 3, 1) := by decide +kernel
theorem dX5_learnScores_83 : decode cX5_learnScores 83 = .ok (.iload 4, 2) := by decide +kernel
theorem dX5_learnScores_85 : decode cX5_learnScores 85 = .ok (.iadd, 1) := by decide +kernel
theorem dX5_learnScores_86 : decode cX5_learnScores 86 = .ok (.iload_n 2, 1) := by decide +kernel
theorem dX5_learnScores_87 : decode cX5_learnScores 87 = .ok (.isub, 1) := by decide +kernel
theorem dX5_learnScores_88 : decode cX5_learnScores 88 = .ok (.istore 6, 2) := by decide +kernel
theorem dX5_learnScores_90 : decode cX5_learnScores 90 = .ok (.aload_n 0, 1) := by decide +kernel
theorem dX5_learnScores_91 : decode cX5_learnScores 91 = .ok (.iconst 2, 1) := by decide +kernel
