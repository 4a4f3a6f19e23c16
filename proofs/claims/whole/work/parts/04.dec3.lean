theorem dX12_asks_219 : decode cX12_asks 219 = .ok (.iload_n 2, 1) := by decide +kernel
theorem dX12_asks_220 : decode cX12_asks 220 = .ok (.iconst 2, 1) := by decide +kernel
theorem dX12_asks_221 : decode cX12_asks 221 = .ok (.if_icmp .ge 7, 3) := by decide +kernel
theorem dX12_asks_224 : decode cX12_asks 224 = .ok (.iconst 1, 1) := by decide +kernel
theorem dX12_asks_225 : decode cX12_asks 225 = .ok (.goto 4, 3) := by decide +kernel
theorem dX12_asks_228 : decode cX12_asks 228 = .ok (.iconst 0, 1) := by decide +kernel
theorem dX12_asks_229 : decode cX12_asks 229 = .ok (.ireturn, 1) := by decide +kernel
theorem dX12_asks_230 : decode cX12_asks 230 = .ok (.aload_n 0, 1) := by decide +kernel
theorem dX12_asks_231 : decode cX12_asks 231 = .ok (.aload_n 0, 1) := by decide +kernel
theorem dX12_asks_232 : decode cX12_asks 232 = .ok (.getfield 41, 3) := by decide +kernel
theorem dX12_asks_235 : decode cX12_asks 235 = .ok (.iload_n 1, 1) := by decide +kernel
theorem dX12_asks_236 : decode cX12_asks 236 = .ok (.iaload, 1) := by decide +kernel
theorem dX12_asks_237 : decode cX12_asks 237 = .ok (.iconst 1, 1) := by decide +kernel
theorem dX12_asks_238 : decode cX12_asks 238 = .ok (.ior, 1) := by decide +kernel
theorem dX12_asks_239 : decode cX12_asks 239 = .ok (.putfield 348, 3) := by decide +kernel
theorem dX12_asks_242 : decode cX12_asks 242 = .ok (.iload_n 2, 1) := by decide +kernel
theorem dX12_asks_243 : decode cX12_asks 243 = .ok (.ifCond .ne 7, 3) := by decide +kernel
theorem dX12_asks_246 : decode cX12_asks 246 = .ok (.iconst 1, 1) := by decide +kernel
theorem dX12_asks_247 : decode cX12_asks 247 = .ok (.goto 4, 3) := by decide +kernel
theorem dX12_asks_250 : decode cX12_asks 250 = .ok (.iconst 0, 1) := by decide +kernel
theorem dX12_asks_251 : decode cX12_asks 251 = .ok (.ireturn, 1) := by decide +kernel
theorem dX12_asksSides_0 : decode cX12_asksSides 0 = .ok (.aload_n 0, 1) := by decide +kernel
theorem dX12_asksSides_1 : decode cX12_asksSides 1 = .ok (.getfield 20, 3) := by decide +kernel
theorem dX12_asksSides_4 : decode cX12_asksSides 4 = .ok (.iload_n 1, 1) := by decide +kernel
theorem dX12_asksSides_5 : decode cX12_asksSides 5 = .ok (.iaload, 1) := by decide +kernel
theorem dX12_asksSides_6 : decode cX12_asksSides 6 = .ok (.istore_n 3, 1) := by decide +kernel
theorem dX12_asksSides_7 : decode cX12_asksSides 7 = .ok (.iload_n 3, 1) := by decide +kernel
theorem dX12_asksSides_8 : decode cX12_asksSides 8 = .ok (.iconst 4, 1) := by decide +kernel
theorem dX12_asksSides_9 : decode cX12_asksSides 9 = .ok (.if_icmp .le 7, 3) := by decide +kernel
theorem dX12_asksSides_12 : decode cX12_asksSides 12 = .ok (.iconst 1, 1) := by decide +kernel
theorem dX12_asksSides_13 : decode cX12_asksSides 13 = .ok (.goto 4, 3) := by decide +kernel
theorem dX12_asksSides_16 : decode cX12_asksSides 16 = .ok (.iconst 0, 1) := by decide +kernel
theorem dX12_asksSides_17 : decode cX12_asksSides 17 = .ok (.istore 4, 2) := by decide +kernel
theorem dX12_asksSides_19 : decode cX12_asksSides 19 = .ok (.aload_n 0, 1) := by decide +kernel
theorem dX12_asksSides_20 : decode cX12_asksSides 20 = .ok (.iload 4, 2) := by decide +kernel
theorem dX12_asksSides_22 : decode cX12_asksSides 22 = .ok (.ifCond .eq 17, 3) := by decide +kernel
theorem dX12_asksSides_25 : decode cX12_asksSides 25 = .ok (.iload_n 2, 1) := by decide +kernel
theorem dX12_asksSides_26 : decode cX12_asksSides 26 = .ok (.iconst 5, 1) := by decide +kernel
theorem dX12_asksSides_27 : decode cX12_asksSides 27 = .ok (.bipush 10, 2) := by decide +kernel
theorem dX12_asksSides_29 : decode cX12_asksSides 29 = .ok (.sipush 2047, 3) := by decide +kernel
theorem dX12_asksSides_32 : decode cX12_asksSides 32 = .ok (.iload_n 3, 1) := by decide +kernel
theorem dX12_asksSides_33 : decode cX12_asksSides 33 = .ok (.invokestatic 351, 3) := by decide +kernel
theorem dX12_asksSides_36 : decode cX12_asksSides 36 = .ok (.goto 13, 3) := by decide +kernel
theorem dX12_asksSides_39 : decode cX12_asksSides 39 = .ok (.iload_n 2, 1) := by decide +kernel
theorem dX12_asksSides_40 : decode cX12_asksSides 40 = .ok (.iconst 0, 1) := by decide +kernel
theorem dX12_asksSides_41 : decode cX12_asksSides 41 = .ok (.iconst 4, 1) := by decide +kernel
theorem dX12_asksSides_42 : decode cX12_asksSides 42 = .ok (.sipush 2047, 3) := by decide +kernel
theorem dX12_asksSides_45 : decode cX12_asksSides 45 = .ok (.iload_n 3, 1) := by decide +kernel
theorem dX12_asksSides_46 : decode cX12_asksSides 46 = .ok (.invokestatic 351, 3) := by decide +kernel
theorem dX12_asksSides_49 : decode cX12_asksSides 49 = .ok (.putfield 345, 3) := by decide +kernel
theorem dX12_asksSides_52 : decode cX12_asksSides 52 = .ok (.aload_n 0, 1) := by decide +kernel
theorem dX12_asksSides_53 : decode cX12_asksSides 53 = .ok (.getfield 345, 3) := by decide +kernel
theorem dX12_asksSides_56 : decode cX12_asksSides 56 = .ok (.iconst (-1), 1) := by decide +kernel
theorem dX12_asksSides_57 : decode cX12_asksSides 57 = .ok (.if_icmp .eq 5, 3) := by decide +kernel
theorem dX12_asksSides_60 : decode cX12_asksSides 60 = .ok (.iconst 1, 1) := by decide +kernel
theorem dX12_asksSides_61 : decode cX12_asksSides 61 = .ok (.ireturn, 1) := by decide +kernel
theorem dX12_asksSides_62 : decode cX12_asksSides 62 = .ok (.aload_n 0, 1) := by decide +kernel
theorem dX12_asksSides_63 : decode cX12_asksSides 63 = .ok (.iload_n 3, 1) := by decide +kernel
theorem dX12_asksSides_64 : decode cX12_asksSides 64 = .ok (.putfield 345, 3) := by decide +kernel
theorem dX12_asksSides_67 : decode cX12_asksSides 67 = .ok (.aload_n 0, 1) := by decide +kernel
theorem dX12_asksSides_68 : decode cX12_asksSides 68 = .ok (.aload_n 0, 1) := by decide +kernel
theorem dX12_asksSides_69 : decode cX12_asksSides 69 = .ok (.getfield 41, 3) := by decide +kernel
theorem dX12_asksSides_72 : decode cX12_asksSides 72 = .ok (.iload_n 1, 1) := by decide +kernel
theorem dX12_asksSides_73 : decode cX12_asksSides 73 = .ok (.iaload, 1) := by decide +kernel
theorem dX12_asksSides_74 : decode cX12_asksSides 74 = .ok (.iconst 4, 1) := by decide +kernel
theorem dX12_asksSides_75 : decode cX12_asksSides 75 = .ok (.ixor, 1) := by decide +kernel
theorem dX12_asksSides_76 : decode cX12_asksSides 76 = .ok (.putfield 348, 3) := by decide +kernel
theorem dX12_asksSides_79 : decode cX12_asksSides 79 = .ok (.iload_n 2, 1) := by decide +kernel
theorem dX12_asksSides_80 : decode cX12_asksSides 80 = .ok (.iconst 4, 1) := by decide +kernel
theorem dX12_asksSides_81 : decode cX12_asksSides 81 = .ok (.if_icmp .ne 22, 3) := by decide +kernel
theorem dX12_asksSides_84 : decode cX12_asksSides 84 = .ok (.iload_n 3, 1) := by decide +kernel
theorem dX12_asksSides_85 : decode cX12_asksSides 85 = .ok (.iconst 1, 1) := by decide +kernel
theorem dX12_asksSides_86 : decode cX12_asksSides 86 = .ok (.if_icmp .eq 13, 3) := by decide +kernel
theorem dX12_asksSides_89 : decode cX12_asksSides 89 = .ok (.iload_n 3, 1) := by decide +kernel
theorem dX12_asksSides_90 : decode cX12_asksSides 90 = .ok (.iconst 3, 1) := by decide +kernel
theorem dX12_asksSides_91 : decode cX12_asksSides 91 = .ok (.if_icmp .eq 8, 3) := by decide +kernel
theorem dX12_asksSides_94 : decode cX12_asksSides 94 = .ok (.iload_n 3, 1) := by decide +kernel
theorem dX12_asksSides_95 : decode cX12_asksSides 95 = .ok (.iconst 4, 1) := by decide +kernel
theorem dX12_asksSides_96 : decode cX12_asksSides 96 = .ok (.if_icmp .ne 7, 3) := by decide +kernel
theorem dX12_asksSides_99 : decode cX12_asksSides 99 = .ok (.iconst 1, 1) := by decide +kernel
theorem dX12_asksSides_100 : decode cX12_asksSides 100 = .ok (.goto 4, 3) := by decide +kernel
theorem dX12_asksSides_103 : decode cX12_asksSides 103 = .ok (.iconst 0, 1) := by decide +kernel
theorem dX12_asksSides_104 : decode cX12_asksSides 104 = .ok (.ireturn, 1) := by decide +kernel
theorem dX12_otherOf_0 : decode cX12_otherOf 0 = .ok (.iload_n 0, 1) := by decide +kernel
theorem dX12_otherOf_1 : decode cX12_otherOf 1 = .ok (.istore 5, 2) := by decide +kernel
theorem dX12_otherOf_3 : decode cX12_otherOf 3 = .ok (.iload_n 1, 1) := by decide +kernel
theorem dX12_otherOf_4 : decode cX12_otherOf 4 = .ok (.istore 6, 2) := by decide +kernel
theorem dX12_otherOf_6 : decode cX12_otherOf 6 = .ok (.iload 6, 2) := by decide +kernel
theorem dX12_otherOf_8 : decode cX12_otherOf 8 = .ok (.iload_n 2, 1) := by decide +kernel
theorem dX12_otherOf_9 : decode cX12_otherOf 9 = .ok (.if_icmp .gt 37, 3) := by decide +kernel
theorem dX12_otherOf_12 : decode cX12_otherOf 12 = .ok (.iload 6, 2) := by decide +kernel
theorem dX12_otherOf_14 : decode cX12_otherOf 14 = .ok (.iload 4, 2) := by decide +kernel
theorem dX12_otherOf_16 : decode cX12_otherOf 16 = .ok (.if_icmp .eq 24, 3) := by decide +kernel
theorem dX12_otherOf_19 : decode cX12_otherOf 19 = .ok (.iload_n 3, 1) := by decide +kernel
theorem dX12_otherOf_20 : decode cX12_otherOf 20 = .ok (.iload 6, 2) := by decide +kernel
theorem dX12_otherOf_22 : decode cX12_otherOf 22 = .ok (.ishr, 1) := by decide +kernel
theorem dX12_otherOf_23 : decode cX12_otherOf 23 = .ok (.iconst 1, 1) := by decide +kernel
theorem dX12_otherOf_24 : decode cX12_otherOf 24 = .ok (.iand, 1) := by decide +kernel
theorem dX12_otherOf_25 : decode cX12_otherOf 25 = .ok (.iconst 1, 1) := by decide +kernel
theorem dX12_otherOf_26 : decode cX12_otherOf 26 = .ok (.if_icmp .ne 14, 3) := by decide +kernel
theorem dX12_otherOf_29 : decode cX12_otherOf 29 = .ok (.iload 5, 2) := by decide +kernel
theorem dX12_otherOf_31 : decode cX12_otherOf 31 = .ok (.ifCond .ne 6, 3) := by decide +kernel
theorem dX12_otherOf_34 : decode cX12_otherOf 34 = .ok (.iload 6, 2) := by decide +kernel
theorem dX12_otherOf_36 : decode cX12_otherOf 36 = .ok (.ireturn, 1) := by decide +kernel
theorem dX12_otherOf_37 : decode cX12_otherOf 37 = .ok (.iinc 5 (-1), 3) := by decide +kernel
theorem dX12_otherOf_40 : decode cX12_otherOf 40 = .ok (.iinc 6 1, 3) := by decide +kernel
theorem dX12_otherOf_43 : decode cX12_otherOf 43 = .ok (.goto (-37), 3) := by decide +kernel
theorem dX12_otherOf_46 : decode cX12_otherOf 46 = .ok (.iconst (-1), 1) := by decide +kernel
theorem dX12_otherOf_47 : decode cX12_otherOf 47 = .ok (.ireturn, 1) := by decide +kernel
theorem dX12_changesOf_0 : decode cX12_changesOf 0 = .ok (.iconst 0, 1) := by decide +kernel
theorem dX12_changesOf_1 : decode cX12_changesOf 1 = .ok (.istore_n 2, 1) := by decide +kernel
theorem dX12_changesOf_2 : decode cX12_changesOf 2 = .ok (.aload_n 0, 1) := by decide +kernel
theorem dX12_changesOf_3 : decode cX12_changesOf 3 = .ok (.iload_n 1, 1) := by decide +kernel
theorem dX12_changesOf_4 : decode cX12_changesOf 4 = .ok (.iload_n 2, 1) := by decide +kernel
theorem dX12_changesOf_5 : decode cX12_changesOf 5 = .ok (.invokevirtual 358, 3) := by decide +kernel
theorem dX12_changesOf_8 : decode cX12_changesOf 8 = .ok (.ifCond .eq 9, 3) := by decide +kernel
theorem dX12_changesOf_11 : decode cX12_changesOf 11 = .ok (.iinc 2 1, 3) := by decide +kernel
theorem dX12_changesOf_14 : decode cX12_changesOf 14 = .ok (.goto (-12), 3) := by decide +kernel
theorem dX12_changesOf_17 : decode cX12_changesOf 17 = .ok (.iload_n 2, 1) := by decide +kernel
theorem dX12_changesOf_18 : decode cX12_changesOf 18 = .ok (.ireturn, 1) := by decide +kernel
theorem dX12_changes_0 : decode cX12_changes 0 = .ok (.aload_n 0, 1) := by decide +kernel
theorem dX12_changes_1 : decode cX12_changes 1 = .ok (.iconst 0, 1) := by decide +kernel
theorem dX12_changes_2 : decode cX12_changes 2 = .ok (.putfield 121, 3) := by decide +kernel
theorem dX12_changes_5 : decode cX12_changes 5 = .ok (.aload_n 0, 1) := by decide +kernel
theorem dX12_changes_6 : decode cX12_changes 6 = .ok (.iload_n 1, 1) := by decide +kernel
theorem dX12_changes_7 : decode cX12_changes 7 = .ok (.invokevirtual 305, 3) := by decide +kernel
theorem dX12_changes_10 : decode cX12_changes 10 = .ok (.ifCond .eq 11, 3) := by decide +kernel
theorem dX12_changes_13 : decode cX12_changes 13 = .ok (.aload_n 0, 1) := by decide +kernel
theorem dX12_changes_14 : decode cX12_changes 14 = .ok (.iload_n 1, 1) := by decide +kernel
theorem dX12_changes_15 : decode cX12_changes 15 = .ok (.invokevirtual 361, 3) := by decide +kernel
theorem dX12_changes_18 : decode cX12_changes 18 = .ok (.goto 4, 3) := by decide +kernel
theorem dX12_changes_21 : decode cX12_changes 21 = .ok (.iconst (-1), 1) := by decide +kernel
theorem dX12_changes_22 : decode cX12_changes 22 = .ok (.ireturn, 1) := by decide +kernel
theorem dX12_puts__0 : decode cX12_puts_ 0 = .ok (.aload_n 0, 1) := by decide +kernel
theorem dX12_puts__1 : decode cX12_puts_ 1 = .ok (.getfield 75, 3) := by decide +kernel
theorem dX12_puts__4 : decode cX12_puts_ 4 = .ok (.iload_n 1, 1) := by decide +kernel
theorem dX12_puts__5 : decode cX12_puts_ 5 = .ok (.iload_n 2, 1) := by decide +kernel
theorem dX12_puts__6 : decode cX12_puts_ 6 = .ok (.iastore, 1) := by decide +kernel
theorem dX12_puts__7 : decode cX12_puts_ 7 = .ok (.aload_n 0, 1) := by decide +kernel
theorem dX12_puts__8 : decode cX12_puts_ 8 = .ok (.getfield 78, 3) := by decide +kernel
theorem dX12_puts__11 : decode cX12_puts_ 11 = .ok (.iload_n 1, 1) := by decide +kernel
theorem dX12_puts__12 : decode cX12_puts_ 12 = .ok (.aload_n 0, 1) := by decide +kernel
theorem dX12_puts__13 : decode cX12_puts_ 13 = .ok (.getfield 20, 3) := by decide +kernel
theorem dX12_puts__16 : decode cX12_puts_ 16 = .ok (.iload_n 2, 1) := by decide +kernel
theorem dX12_puts__17 : decode cX12_puts_ 17 = .ok (.iaload, 1) := by decide +kernel
theorem dX12_puts__18 : decode cX12_puts_ 18 = .ok (.iastore, 1) := by decide +kernel
theorem dX12_puts__19 : decode cX12_puts_ 19 = .ok (.aload_n 0, 1) := by decide +kernel
theorem dX12_puts__20 : decode cX12_puts_ 20 = .ok (.getfield 81, 3) := by decide +kernel
theorem dX12_puts__23 : decode cX12_puts_ 23 = .ok (.iload_n 1, 1) := by decide +kernel
theorem dX12_puts__24 : decode cX12_puts_ 24 = .ok (.aload_n 0, 1) := by decide +kernel
theorem dX12_puts__25 : decode cX12_puts_ 25 = .ok (.getfield 41, 3) := by decide +kernel
theorem dX12_puts__28 : decode cX12_puts_ 28 = .ok (.iload_n 2, 1) := by decide +kernel
theorem dX12_puts__29 : decode cX12_puts_ 29 = .ok (.iaload, 1) := by decide +kernel
theorem dX12_puts__30 : decode cX12_puts_ 30 = .ok (.iastore, 1) := by decide +kernel
theorem dX12_puts__31 : decode cX12_puts_ 31 = .ok (.aload_n 0, 1) := by decide +kernel
theorem dX12_puts__32 : decode cX12_puts_ 32 = .ok (.getfield 20, 3) := by decide +kernel
theorem dX12_puts__35 : decode cX12_puts_ 35 = .ok (.iload_n 2, 1) := by decide +kernel
theorem dX12_puts__36 : decode cX12_puts_ 36 = .ok (.iload_n 3, 1) := by decide +kernel
theorem dX12_puts__37 : decode cX12_puts_ 37 = .ok (.iastore, 1) := by decide +kernel
theorem dX12_puts__38 : decode cX12_puts_ 38 = .ok (.aload_n 0, 1) := by decide +kernel
theorem dX12_puts__39 : decode cX12_puts_ 39 = .ok (.getfield 41, 3) := by decide +kernel
theorem dX12_puts__42 : decode cX12_puts_ 42 = .ok (.iload_n 2, 1) := by decide +kernel
theorem dX12_puts__43 : decode cX12_puts_ 43 = .ok (.iload 4, 2) := by decide +kernel
theorem dX12_puts__45 : decode cX12_puts_ 45 = .ok (.iastore, 1) := by decide +kernel
theorem dX12_puts__46 : decode cX12_puts_ 46 = .ok (.return_, 1) := by decide +kernel
theorem dX12_takesOut_0 : decode cX12_takesOut 0 = .ok (.aload_n 0, 1) := by decide +kernel
theorem dX12_takesOut_1 : decode cX12_takesOut 1 = .ok (.getfield 20, 3) := by decide +kernel
theorem dX12_takesOut_4 : decode cX12_takesOut 4 = .ok (.aload_n 0, 1) := by decide +kernel
theorem dX12_takesOut_5 : decode cX12_takesOut 5 = .ok (.getfield 75, 3) := by decide +kernel
theorem dX12_takesOut_8 : decode cX12_takesOut 8 = .ok (.iload_n 1, 1) := by decide +kernel
theorem dX12_takesOut_9 : decode cX12_takesOut 9 = .ok (.iaload, 1) := by decide +kernel
theorem dX12_takesOut_10 : decode cX12_takesOut 10 = .ok (.aload_n 0, 1) := by decide +kernel
theorem dX12_takesOut_11 : decode cX12_takesOut 11 = .ok (.getfield 78, 3) := by decide +kernel
theorem dX12_takesOut_14 : decode cX12_takesOut 14 = .ok (.iload_n 1, 1) := by decide +kernel
theorem dX12_takesOut_15 : decode cX12_takesOut 15 = .ok (.iaload, 1) := by decide +kernel
theorem dX12_takesOut_16 : decode cX12_takesOut 16 = .ok (.iastore, 1) := by decide +kernel
theorem dX12_takesOut_17 : decode cX12_takesOut 17 = .ok (.aload_n 0, 1) := by decide +kernel
theorem dX12_takesOut_18 : decode cX12_takesOut 18 = .ok (.getfield 41, 3) := by decide +kernel
theorem dX12_takesOut_21 : decode cX12_takesOut 21 = .ok (.aload_n 0, 1) := by decide +kernel
theorem dX12_takesOut_22 : decode cX12_takesOut 22 = .ok (.getfield 75, 3) := by decide +kernel
theorem dX12_takesOut_25 : decode cX12_takesOut 25 = .ok (.iload_n 1, 1) := by decide +kernel
theorem dX12_takesOut_26 : decode cX12_takesOut 26 = .ok (.iaload, 1) := by decide +kernel
theorem dX12_takesOut_27 : decode cX12_takesOut 27 = .ok (.aload_n 0, 1) := by decide +kernel
theorem dX12_takesOut_28 : decode cX12_takesOut 28 = .ok (.getfield 81, 3) := by decide +kernel
theorem dX12_takesOut_31 : decode cX12_takesOut 31 = .ok (.iload_n 1, 1) := by decide +kernel
theorem dX12_takesOut_32 : decode cX12_takesOut 32 = .ok (.iaload, 1) := by decide +kernel
theorem dX12_takesOut_33 : decode cX12_takesOut 33 = .ok (.iastore, 1) := by decide +kernel
theorem dX12_takesOut_34 : decode cX12_takesOut 34 = .ok (.return_, 1) := by decide +kernel
theorem dX12_manyPass_0 : decode cX12_manyPass 0 = .ok (.iconst 0, 1) := by decide +kernel
theorem dX12_manyPass_1 : decode cX12_manyPass 1 = .ok (.istore_n 2, 1) := by decide +kernel
theorem dX12_manyPass_2 : decode cX12_manyPass 2 = .ok (.iconst 0, 1) := by decide +kernel
theorem dX12_manyPass_3 : decode cX12_manyPass 3 = .ok (.istore_n 3, 1) := by decide +kernel
theorem dX12_manyPass_4 : decode cX12_manyPass 4 = .ok (.iload_n 3, 1) := by decide +kernel
theorem dX12_manyPass_5 : decode cX12_manyPass 5 = .ok (.aload_n 0, 1) := by decide +kernel
theorem dX12_manyPass_6 : decode cX12_manyPass 6 = .ok (.getfield 246, 3) := by decide +kernel
theorem dX12_manyPass_9 : decode cX12_manyPass 9 = .ok (.if_icmp .ge 34, 3) := by decide +kernel
theorem dX12_manyPass_12 : decode cX12_manyPass 12 = .ok (.iload_n 2, 1) := by decide +kernel
theorem dX12_manyPass_13 : decode cX12_manyPass 13 = .ok (.aload_n 0, 1) := by decide +kernel
theorem dX12_manyPass_14 : decode cX12_manyPass 14 = .ok (.iload_n 3, 1) := by decide +kernel
theorem dX12_manyPass_15 : decode cX12_manyPass 15 = .ok (.invokevirtual 323, 3) := by decide +kernel
theorem dX12_manyPass_18 : decode cX12_manyPass 18 = .ok (.iload_n 1, 1) := by decide +kernel
theorem dX12_manyPass_19 : decode cX12_manyPass 19 = .ok (.if_icmp .ne 15, 3) := by decide +kernel
theorem dX12_manyPass_22 : decode cX12_manyPass 22 = .ok (.aload_n 0, 1) := by decide +kernel
theorem dX12_manyPass_23 : decode cX12_manyPass 23 = .ok (.iload_n 3, 1) := by decide +kernel
theorem dX12_manyPass_24 : decode cX12_manyPass 24 = .ok (.invokevirtual 302, 3) := by decide +kernel
theorem dX12_manyPass_27 : decode cX12_manyPass 27 = .ok (.ifCond .eq 7, 3) := by decide +kernel
theorem dX12_manyPass_30 : decode cX12_manyPass 30 = .ok (.iconst 1, 1) := by decide +kernel
theorem dX12_manyPass_31 : decode cX12_manyPass 31 = .ok (.goto 4, 3) := by decide +kernel
theorem dX12_manyPass_34 : decode cX12_manyPass 34 = .ok (.iconst 0, 1) := by decide +kernel
theorem dX12_manyPass_35 : decode cX12_manyPass 35 = .ok (.iadd, 1) := by decide +kernel
theorem dX12_manyPass_36 : decode cX12_manyPass 36 = .ok (.istore_n 2, 1) := by decide +kernel
theorem dX12_manyPass_37 : decode cX12_manyPass 37 = .ok (.iinc 3 1, 3) := by decide +kernel
theorem dX12_manyPass_40 : decode cX12_manyPass 40 = .ok (.goto (-36), 3) := by decide +kernel
theorem dX12_manyPass_43 : decode cX12_manyPass 43 = .ok (.iload_n 2, 1) := by decide +kernel
theorem dX12_manyPass_44 : decode cX12_manyPass 44 = .ok (.ireturn, 1) := by decide +kernel
theorem dX12_manyTests_0 : decode cX12_manyTests 0 = .ok (.iconst 0, 1) := by decide +kernel
theorem dX12_manyTests_1 : decode cX12_manyTests 1 = .ok (.istore_n 2, 1) := by decide +kernel
theorem dX12_manyTests_2 : decode cX12_manyTests 2 = .ok (.iconst 0, 1) := by decide +kernel
theorem dX12_manyTests_3 : decode cX12_manyTests 3 = .ok (.istore_n 3, 1) := by decide +kernel
theorem dX12_manyTests_4 : decode cX12_manyTests 4 = .ok (.iload_n 3, 1) := by decide +kernel
theorem dX12_manyTests_5 : decode cX12_manyTests 5 = .ok (.aload_n 0, 1) := by decide +kernel
theorem dX12_manyTests_6 : decode cX12_manyTests 6 = .ok (.getfield 246, 3) := by decide +kernel
theorem dX12_manyTests_9 : decode cX12_manyTests 9 = .ok (.if_icmp .ge 26, 3) := by decide +kernel
theorem dX12_manyTests_12 : decode cX12_manyTests 12 = .ok (.iload_n 2, 1) := by decide +kernel
theorem dX12_manyTests_13 : decode cX12_manyTests 13 = .ok (.aload_n 0, 1) := by decide +kernel
theorem dX12_manyTests_14 : decode cX12_manyTests 14 = .ok (.iload_n 3, 1) := by decide +kernel
theorem dX12_manyTests_15 : decode cX12_manyTests 15 = .ok (.invokevirtual 323, 3) := by decide +kernel
theorem dX12_manyTests_18 : decode cX12_manyTests 18 = .ok (.iload_n 1, 1) := by decide +kernel
theorem dX12_manyTests_19 : decode cX12_manyTests 19 = .ok (.if_icmp .ne 7, 3) := by decide +kernel
theorem dX12_manyTests_22 : decode cX12_manyTests 22 = .ok (.iconst 1, 1) := by decide +kernel
theorem dX12_manyTests_23 : decode cX12_manyTests 23 = .ok (.goto 4, 3) := by decide +kernel
theorem dX12_manyTests_26 : decode cX12_manyTests 26 = .ok (.iconst 0, 1) := by decide +kernel
theorem dX12_manyTests_27 : decode cX12_manyTests 27 = .ok (.iadd, 1) := by decide +kernel
theorem dX12_manyTests_28 : decode cX12_manyTests 28 = .ok (.istore_n 2, 1) := by decide +kernel
theorem dX12_manyTests_29 : decode cX12_manyTests 29 = .ok (.iinc 3 1, 3) := by decide +kernel
theorem dX12_manyTests_32 : decode cX12_manyTests 32 = .ok (.goto (-28), 3) := by decide +kernel
theorem dX12_manyTests_35 : decode cX12_manyTests 35 = .ok (.iload_n 2, 1) := by decide +kernel
theorem dX12_manyTests_36 : decode cX12_manyTests 36 = .ok (.ireturn, 1) := by decide +kernel
theorem dX12_allPass_0 : decode cX12_allPass 0 = .ok (.aload_n 0, 1) := by decide +kernel
theorem dX12_allPass_1 : decode cX12_allPass 1 = .ok (.invokevirtual 299, 3) := by decide +kernel
theorem dX12_allPass_4 : decode cX12_allPass 4 = .ok (.ifCond .ne 5, 3) := by decide +kernel
theorem dX12_allPass_7 : decode cX12_allPass 7 = .ok (.iconst 1, 1) := by decide +kernel
theorem dX12_allPass_8 : decode cX12_allPass 8 = .ok (.ireturn, 1) := by decide +kernel
theorem dX12_allPass_9 : decode cX12_allPass 9 = .ok (.iconst 0, 1) := by decide +kernel
theorem dX12_allPass_10 : decode cX12_allPass 10 = .ok (.istore_n 1, 1) := by decide +kernel
theorem dX12_allPass_11 : decode cX12_allPass 11 = .ok (.iload_n 1, 1) := by decide +kernel
theorem dX12_allPass_12 : decode cX12_allPass 12 = .ok (.aload_n 0, 1) := by decide +kernel
theorem dX12_allPass_13 : decode cX12_allPass 13 = .ok (.getfield 246, 3) := by decide +kernel
theorem dX12_allPass_16 : decode cX12_allPass 16 = .ok (.if_icmp .ge 27, 3) := by decide +kernel
theorem dX12_allPass_19 : decode cX12_allPass 19 = .ok (.aload_n 0, 1) := by decide +kernel
theorem dX12_allPass_20 : decode cX12_allPass 20 = .ok (.iload_n 1, 1) := by decide +kernel
theorem dX12_allPass_21 : decode cX12_allPass 21 = .ok (.invokevirtual 323, 3) := by decide +kernel
theorem dX12_allPass_24 : decode cX12_allPass 24 = .ok (.ifCond .ne 13, 3) := by decide +kernel
theorem dX12_allPass_27 : decode cX12_allPass 27 = .ok (.aload_n 0, 1) := by decide +kernel
theorem dX12_allPass_28 : decode cX12_allPass 28 = .ok (.iload_n 1, 1) := by decide +kernel
theorem dX12_allPass_29 : decode cX12_allPass 29 = .ok (.invokevirtual 302, 3) := by decide +kernel
theorem dX12_allPass_32 : decode cX12_allPass 32 = .ok (.ifCond .ne 5, 3) := by decide +kernel
theorem dX12_allPass_35 : decode cX12_allPass 35 = .ok (.iconst 0, 1) := by decide +kernel
theorem dX12_allPass_36 : decode cX12_allPass 36 = .ok (.ireturn, 1) := by decide +kernel
theorem dX12_allPass_37 : decode cX12_allPass 37 = .ok (.iinc 1 1, 3) := by decide +kernel
theorem dX12_allPass_40 : decode cX12_allPass 40 = .ok (.goto (-29), 3) := by decide +kernel
theorem dX12_allPass_43 : decode cX12_allPass 43 = .ok (.iconst 1, 1) := by decide +kernel
theorem dX12_allPass_44 : decode cX12_allPass 44 = .ok (.ireturn, 1) := by decide +kernel
theorem dX12_change_0 : decode cX12_change 0 = .ok (.aload_n 0, 1) := by decide +kernel
theorem dX12_change_1 : decode cX12_change 1 = .ok (.iconst 0, 1) := by decide +kernel
theorem dX12_change_2 : decode cX12_change 2 = .ok (.putfield 121, 3) := by decide +kernel
theorem dX12_change_5 : decode cX12_change 5 = .ok (.aload_n 0, 1) := by decide +kernel
theorem dX12_change_6 : decode cX12_change 6 = .ok (.iload_n 1, 1) := by decide +kernel
theorem dX12_change_7 : decode cX12_change 7 = .ok (.invokevirtual 305, 3) := by decide +kernel
theorem dX12_change_10 : decode cX12_change 10 = .ok (.ifCond .eq 21, 3) := by decide +kernel
theorem dX12_change_13 : decode cX12_change 13 = .ok (.iload_n 3, 1) := by decide +kernel
theorem dX12_change_14 : decode cX12_change 14 = .ok (.iconst 0, 1) := by decide +kernel
theorem dX12_change_15 : decode cX12_change 15 = .ok (.iconst 3, 1) := by decide +kernel
theorem dX12_change_16 : decode cX12_change 16 = .ok (.invokestatic 147, 3) := by decide +kernel
theorem dX12_change_19 : decode cX12_change 19 = .ok (.ifCond .eq 12, 3) := by decide +kernel
theorem dX12_change_22 : decode cX12_change 22 = .ok (.aload_n 0, 1) := by decide +kernel
theorem dX12_change_23 : decode cX12_change 23 = .ok (.iload_n 1, 1) := by decide +kernel
theorem dX12_change_24 : decode cX12_change 24 = .ok (.iload_n 2, 1) := by decide +kernel
theorem dX12_change_25 : decode cX12_change 25 = .ok (.invokevirtual 358, 3) := by decide +kernel
theorem dX12_change_28 : decode cX12_change 28 = .ok (.ifCond .ne 7, 3) := by decide +kernel
theorem dX12_change_31 : decode cX12_change 31 = .ok (.sipush (-200), 3) := by decide +kernel
theorem dX12_change_34 : decode cX12_change 34 = .ok (.ireturn, 1) := by decide +kernel
theorem dX12_change_35 : decode cX12_change 35 = .ok (.iload_n 3, 1) := by decide +kernel
theorem dX12_change_36 : decode cX12_change 36 = .ok (.iconst 3, 1) := by decide +kernel
theorem dX12_change_37 : decode cX12_change 37 = .ok (.if_icmp .ne 26, 3) := by decide +kernel
theorem dX12_change_40 : decode cX12_change 40 = .ok (.aload_n 0, 1) := by decide +kernel
theorem dX12_change_41 : decode cX12_change 41 = .ok (.getfield 348, 3) := by decide +kernel
theorem dX12_change_44 : decode cX12_change 44 = .ok (.aload_n 0, 1) := by decide +kernel
theorem dX12_change_45 : decode cX12_change 45 = .ok (.getfield 41, 3) := by decide +kernel
theorem dX12_change_48 : decode cX12_change 48 = .ok (.iload_n 1, 1) := by decide +kernel
theorem dX12_change_49 : decode cX12_change 49 = .ok (.iaload, 1) := by decide +kernel
theorem dX12_change_50 : decode cX12_change 50 = .ok (.if_icmp .ne 10, 3) := by decide +kernel
theorem dX12_change_53 : decode cX12_change 53 = .ok (.aload_n 0, 1) := by decide +kernel
theorem dX12_change_54 : decode cX12_change 54 = .ok (.getfield 345, 3) := by decide +kernel
theorem dX12_change_57 : decode cX12_change 57 = .ok (.goto 5, 3) := by decide +kernel
theorem dX12_change_60 : decode cX12_change 60 = .ok (.bipush (-100), 2) := by decide +kernel
theorem dX12_change_62 : decode cX12_change 62 = .ok (.ireturn, 1) := by decide +kernel
theorem dX12_change_63 : decode cX12_change 63 = .ok (.aload_n 0, 1) := by decide +kernel
theorem dX12_change_64 : decode cX12_change 64 = .ok (.invokevirtual 364, 3) := by decide +kernel
theorem dX12_change_67 : decode cX12_change 67 = .ok (.ifCond .ne 7, 3) := by decide +kernel
theorem dX12_change_70 : decode cX12_change 70 = .ok (.iconst 1, 1) := by decide +kernel
theorem dX12_change_71 : decode cX12_change 71 = .ok (.goto 4, 3) := by decide +kernel
theorem dX12_change_74 : decode cX12_change 74 = .ok (.iconst 0, 1) := by decide +kernel
theorem dX12_change_75 : decode cX12_change 75 = .ok (.istore 4, 2) := by decide +kernel
theorem dX12_change_77 : decode cX12_change 77 = .ok (.aload_n 0, 1) := by decide +kernel
theorem dX12_change_78 : decode cX12_change 78 = .ok (.iload_n 1, 1) := by decide +kernel
theorem dX12_change_79 : decode cX12_change 79 = .ok (.iload_n 2, 1) := by decide +kernel
theorem dX12_change_80 : decode cX12_change 80 = .ok (.invokevirtual 358, 3) := by decide +kernel
theorem dX12_change_83 : decode cX12_change 83 = .ok (.istore 5, 2) := by decide +kernel
theorem dX12_change_85 : decode cX12_change 85 = .ok (.aload_n 0, 1) := by decide +kernel
theorem dX12_change_86 : decode cX12_change 86 = .ok (.iconst 0, 1) := by decide +kernel
theorem dX12_change_87 : decode cX12_change 87 = .ok (.iload_n 1, 1) := by decide +kernel
theorem dX12_change_88 : decode cX12_change 88 = .ok (.aload_n 0, 1) := by decide +kernel
theorem dX12_change_89 : decode cX12_change 89 = .ok (.getfield 345, 3) := by decide +kernel
theorem dX12_change_92 : decode cX12_change 92 = .ok (.aload_n 0, 1) := by decide +kernel
theorem dX12_change_93 : decode cX12_change 93 = .ok (.getfield 348, 3) := by decide +kernel
theorem dX12_change_96 : decode cX12_change 96 = .ok (.invokevirtual 367, 3) := by decide +kernel
theorem dX12_change_99 : decode cX12_change 99 = .ok (.iload_n 3, 1) := by decide +kernel
theorem dX12_change_100 : decode cX12_change 100 = .ok (.iconst 2, 1) := by decide +kernel
theorem dX12_change_101 : decode cX12_change 101 = .ok (.if_icmp .ne 23, 3) := by decide +kernel
theorem dX12_change_104 : decode cX12_change 104 = .ok (.iload 4, 2) := by decide +kernel
theorem dX12_change_106 : decode cX12_change 106 = .ok (.ifCond .eq 14, 3) := by decide +kernel
theorem dX12_change_109 : decode cX12_change 109 = .ok (.aload_n 0, 1) := by decide +kernel
theorem dX12_change_110 : decode cX12_change 110 = .ok (.invokevirtual 364, 3) := by decide +kernel
theorem dX12_change_113 : decode cX12_change 113 = .ok (.ifCond .eq 7, 3) := by decide +kernel
theorem dX12_change_116 : decode cX12_change 116 = .ok (.iconst 1, 1) := by decide +kernel
theorem dX12_change_117 : decode cX12_change 117 = .ok (.goto 21, 3) := by decide +kernel
theorem dX12_change_120 : decode cX12_change 120 = .ok (.iconst 0, 1) := by decide +kernel
theorem dX12_change_121 : decode cX12_change 121 = .ok (.goto 17, 3) := by decide +kernel
theorem dX12_change_124 : decode cX12_change 124 = .ok (.aload_n 0, 1) := by decide +kernel
theorem dX12_change_125 : decode cX12_change 125 = .ok (.iload_n 3, 1) := by decide +kernel
theorem dX12_change_126 : decode cX12_change 126 = .ok (.iconst 1, 1) := by decide +kernel
theorem dX12_change_127 : decode cX12_change 127 = .ok (.if_icmp .ne 7, 3) := by decide +kernel
theorem dX12_change_130 : decode cX12_change 130 = .ok (.iconst 1, 1) := by decide +kernel
theorem dX12_change_131 : decode cX12_change 131 = .ok (.goto 4, 3) := by decide +kernel
theorem dX12_change_134 : decode cX12_change 134 = .ok (.iconst 0, 1) := by decide +kernel
theorem dX12_change_135 : decode cX12_change 135 = .ok (.invokevirtual 370, 3) := by decide +kernel
theorem dX12_change_138 : decode cX12_change 138 = .ok (.istore 6, 2) := by decide +kernel
theorem dX12_change_140 : decode cX12_change 140 = .ok (.aload_n 0, 1) := by decide +kernel
theorem dX12_change_141 : decode cX12_change 141 = .ok (.iconst 0, 1) := by decide +kernel
theorem dX12_change_142 : decode cX12_change 142 = .ok (.invokevirtual 374, 3) := by decide +kernel
theorem dX12_change_145 : decode cX12_change 145 = .ok (.iload 6, 2) := by decide +kernel
theorem dX12_change_147 : decode cX12_change 147 = .ok (.ireturn, 1) := by decide +kernel
theorem dX12_laysMends_0 : decode cX12_laysMends 0 = .ok (.aload_n 0, 1) := by decide +kernel
theorem dX12_laysMends_1 : decode cX12_laysMends 1 = .ok (.iconst 0, 1) := by decide +kernel
theorem dX12_laysMends_2 : decode cX12_laysMends 2 = .ok (.putfield 377, 3) := by decide +kernel
theorem dX12_laysMends_5 : decode cX12_laysMends 5 = .ok (.aload_n 0, 1) := by decide +kernel
theorem dX12_laysMends_6 : decode cX12_laysMends 6 = .ok (.invokevirtual 364, 3) := by decide +kernel
theorem dX12_laysMends_9 : decode cX12_laysMends 9 = .ok (.ifCond .eq 4, 3) := by decide +kernel
theorem dX12_laysMends_12 : decode cX12_laysMends 12 = .ok (.return_, 1) := by decide +kernel
theorem dX12_laysMends_13 : decode cX12_laysMends 13 = .ok (.aload_n 0, 1) := by decide +kernel
theorem dX12_laysMends_14 : decode cX12_laysMends 14 = .ok (.iconst 1, 1) := by decide +kernel
theorem dX12_laysMends_15 : decode cX12_laysMends 15 = .ok (.invokevirtual 342, 3) := by decide +kernel
theorem dX12_laysMends_18 : decode cX12_laysMends 18 = .ok (.istore_n 1, 1) := by decide +kernel
theorem dX12_laysMends_19 : decode cX12_laysMends 19 = .ok (.iconst 0, 1) := by decide +kernel
theorem dX12_laysMends_20 : decode cX12_laysMends 20 = .ok (.istore_n 2, 1) := by decide +kernel
theorem dX12_laysMends_21 : decode cX12_laysMends 21 = .ok (.iload_n 2, 1) := by decide +kernel
theorem dX12_laysMends_22 : decode cX12_laysMends 22 = .ok (.iload_n 1, 1) := by decide +kernel
theorem dX12_laysMends_23 : decode cX12_laysMends 23 = .ok (.if_icmp .ge 46, 3) := by decide +kernel
theorem dX12_laysMends_26 : decode cX12_laysMends 26 = .ok (.iconst 0, 1) := by decide +kernel
theorem dX12_laysMends_27 : decode cX12_laysMends 27 = .ok (.istore_n 3, 1) := by decide +kernel
theorem dX12_laysMends_28 : decode cX12_laysMends 28 = .ok (.iload_n 3, 1) := by decide +kernel
theorem dX12_laysMends_29 : decode cX12_laysMends 29 = .ok (.aload_n 0, 1) := by decide +kernel
theorem dX12_laysMends_30 : decode cX12_laysMends 30 = .ok (.getfield 13, 3) := by decide +kernel
theorem dX12_laysMends_33 : decode cX12_laysMends 33 = .ok (.iconst 0, 1) := by decide +kernel
theorem dX12_laysMends_34 : decode cX12_laysMends 34 = .ok (.iaload, 1) := by decide +kernel
theorem dX12_laysMends_35 : decode cX12_laysMends 35 = .ok (.if_icmp .ge 28, 3) := by decide +kernel
theorem dX12_laysMends_38 : decode cX12_laysMends 38 = .ok (.aload_n 0, 1) := by decide +kernel
theorem dX12_laysMends_39 : decode cX12_laysMends 39 = .ok (.iload_n 3, 1) := by decide +kernel
theorem dX12_laysMends_40 : decode cX12_laysMends 40 = .ok (.invokevirtual 311, 3) := by decide +kernel
theorem dX12_laysMends_43 : decode cX12_laysMends 43 = .ok (.aload_n 0, 1) := by decide +kernel
theorem dX12_laysMends_44 : decode cX12_laysMends 44 = .ok (.getfield 72, 3) := by decide +kernel
theorem dX12_laysMends_47 : decode cX12_laysMends 47 = .ok (.iload_n 2, 1) := by decide +kernel
theorem dX12_laysMends_48 : decode cX12_laysMends 48 = .ok (.iaload, 1) := by decide +kernel
theorem dX12_laysMends_49 : decode cX12_laysMends 49 = .ok (.if_icmp .ne 8, 3) := by decide +kernel
theorem dX12_laysMends_52 : decode cX12_laysMends 52 = .ok (.aload_n 0, 1) := by decide +kernel
theorem dX12_laysMends_53 : decode cX12_laysMends 53 = .ok (.iload_n 3, 1) := by decide +kernel
theorem dX12_laysMends_54 : decode cX12_laysMends 54 = .ok (.invokevirtual 380, 3) := by decide +kernel
theorem dX12_laysMends_57 : decode cX12_laysMends 57 = .ok (.iinc 3 1, 3) := by decide +kernel
theorem dX12_laysMends_60 : decode cX12_laysMends 60 = .ok (.goto (-32), 3) := by decide +kernel
theorem dX12_laysMends_63 : decode cX12_laysMends 63 = .ok (.iinc 2 1, 3) := by decide +kernel
theorem dX12_laysMends_66 : decode cX12_laysMends 66 = .ok (.goto (-45), 3) := by decide +kernel
theorem dX12_laysMends_69 : decode cX12_laysMends 69 = .ok (.return_, 1) := by decide +kernel
theorem dX12_laysMendsOf_0 : decode cX12_laysMendsOf 0 = .ok (.iconst 0, 1) := by decide +kernel
theorem dX12_laysMendsOf_1 : decode cX12_laysMendsOf 1 = .ok (.istore_n 2, 1) := by decide +kernel
theorem dX12_laysMendsOf_2 : decode cX12_laysMendsOf 2 = .ok (.aload_n 0, 1) := by decide +kernel
theorem dX12_laysMendsOf_3 : decode cX12_laysMendsOf 3 = .ok (.iload_n 1, 1) := by decide +kernel
theorem dX12_laysMendsOf_4 : decode cX12_laysMendsOf 4 = .ok (.iload_n 2, 1) := by decide +kernel
theorem dX12_laysMendsOf_5 : decode cX12_laysMendsOf 5 = .ok (.invokevirtual 358, 3) := by decide +kernel
theorem dX12_laysMendsOf_8 : decode cX12_laysMendsOf 8 = .ok (.ifCond .eq 69, 3) := by decide +kernel
theorem dX12_laysMendsOf_11 : decode cX12_laysMendsOf 11 = .ok (.aload_n 0, 1) := by decide +kernel
theorem dX12_laysMendsOf_12 : decode cX12_laysMendsOf 12 = .ok (.iconst 0, 1) := by decide +kernel
theorem dX12_laysMendsOf_13 : decode cX12_laysMendsOf 13 = .ok (.iload_n 1, 1) := by decide +kernel
theorem dX12_laysMendsOf_14 : decode cX12_laysMendsOf 14 = .ok (.aload_n 0, 1) := by decide +kernel
theorem dX12_laysMendsOf_15 : decode cX12_laysMendsOf 15 = .ok (.getfield 345, 3) := by decide +kernel
theorem dX12_laysMendsOf_18 : decode cX12_laysMendsOf 18 = .ok (.aload_n 0, 1) := by decide +kernel
theorem dX12_laysMendsOf_19 : decode cX12_laysMendsOf 19 = .ok (.getfield 348, 3) := by decide +kernel
theorem dX12_laysMendsOf_22 : decode cX12_laysMendsOf 22 = .ok (.invokevirtual 367, 3) := by decide +kernel
theorem dX12_laysMendsOf_25 : decode cX12_laysMendsOf 25 = .ok (.aload_n 0, 1) := by decide +kernel
theorem dX12_laysMendsOf_26 : decode cX12_laysMendsOf 26 = .ok (.invokevirtual 364, 3) := by decide +kernel
theorem dX12_laysMendsOf_29 : decode cX12_laysMendsOf 29 = .ok (.ifCond .eq 37, 3) := by decide +kernel
theorem dX12_laysMendsOf_32 : decode cX12_laysMendsOf 32 = .ok (.aload_n 0, 1) := by decide +kernel
theorem dX12_laysMendsOf_33 : decode cX12_laysMendsOf 33 = .ok (.getfield 84, 3) := by decide +kernel
theorem dX12_laysMendsOf_36 : decode cX12_laysMendsOf 36 = .ok (.aload_n 0, 1) := by decide +kernel
theorem dX12_laysMendsOf_37 : decode cX12_laysMendsOf 37 = .ok (.getfield 377, 3) := by decide +kernel
theorem dX12_laysMendsOf_40 : decode cX12_laysMendsOf 40 = .ok (.iload_n 1, 1) := by decide +kernel
theorem dX12_laysMendsOf_41 : decode cX12_laysMendsOf 41 = .ok (.iastore, 1) := by decide +kernel
theorem dX12_laysMendsOf_42 : decode cX12_laysMendsOf 42 = .ok (.aload_n 0, 1) := by decide +kernel
theorem dX12_laysMendsOf_43 : decode cX12_laysMendsOf 43 = .ok (.getfield 87, 3) := by decide +kernel
theorem dX12_laysMendsOf_46 : decode cX12_laysMendsOf 46 = .ok (.aload_n 0, 1) := by decide +kernel
theorem dX12_laysMendsOf_47 : decode cX12_laysMendsOf 47 = .ok (.getfield 377, 3) := by decide +kernel
theorem dX12_laysMendsOf_50 : decode cX12_laysMendsOf 50 = .ok (.iload_n 2, 1) := by decide +kernel
theorem dX12_laysMendsOf_51 : decode cX12_laysMendsOf 51 = .ok (.iastore, 1) := by decide +kernel
theorem dX12_laysMendsOf_52 : decode cX12_laysMendsOf 52 = .ok (.aload_n 0, 1) := by decide +kernel
theorem dX12_laysMendsOf_53 : decode cX12_laysMendsOf 53 = .ok (.invokevirtual 383, 3) := by decide +kernel
theorem dX12_laysMendsOf_56 : decode cX12_laysMendsOf 56 = .ok (.aload_n 0, 1) := by decide +kernel
theorem dX12_laysMendsOf_57 : decode cX12_laysMendsOf 57 = .ok (.dup, 1) := by decide +kernel
theorem dX12_laysMendsOf_58 : decode cX12_laysMendsOf 58 = .ok (.getfield 377, 3) := by decide +kernel
theorem dX12_laysMendsOf_61 : decode cX12_laysMendsOf 61 = .ok (.iconst 1, 1) := by decide +kernel
theorem dX12_laysMendsOf_62 : decode cX12_laysMendsOf 62 = .ok (.iadd, 1) := by decide +kernel
theorem dX12_laysMendsOf_63 : decode cX12_laysMendsOf 63 = .ok (.putfield 377, 3) := by decide +kernel
theorem dX12_laysMendsOf_66 : decode cX12_laysMendsOf 66 = .ok (.aload_n 0, 1) := by decide +kernel
theorem dX12_laysMendsOf_67 : decode cX12_laysMendsOf 67 = .ok (.iconst 0, 1) := by decide +kernel
theorem dX12_laysMendsOf_68 : decode cX12_laysMendsOf 68 = .ok (.invokevirtual 374, 3) := by decide +kernel
theorem dX12_laysMendsOf_71 : decode cX12_laysMendsOf 71 = .ok (.iinc 2 1, 3) := by decide +kernel
theorem dX12_laysMendsOf_74 : decode cX12_laysMendsOf 74 = .ok (.goto (-72), 3) := by decide +kernel
theorem dX12_laysMendsOf_77 : decode cX12_laysMendsOf 77 = .ok (.return_, 1) := by decide +kernel
theorem dX12_laysEnds_0 : decode cX12_laysEnds 0 = .ok (.aload_n 0, 1) := by decide +kernel
theorem dX12_laysEnds_1 : decode cX12_laysEnds 1 = .ok (.getfield 90, 3) := by decide +kernel
theorem dX12_laysEnds_4 : decode cX12_laysEnds 4 = .ok (.aload_n 0, 1) := by decide +kernel
theorem dX12_laysEnds_5 : decode cX12_laysEnds 5 = .ok (.getfield 377, 3) := by decide +kernel
theorem dX12_laysEnds_8 : decode cX12_laysEnds 8 = .ok (.iconst 0, 1) := by decide +kernel
theorem dX12_laysEnds_9 : decode cX12_laysEnds 9 = .ok (.iastore, 1) := by decide +kernel
theorem dX12_laysEnds_10 : decode cX12_laysEnds 10 = .ok (.iconst 0, 1) := by decide +kernel
theorem dX12_laysEnds_11 : decode cX12_laysEnds 11 = .ok (.istore_n 1, 1) := by decide +kernel
theorem dX12_laysEnds_12 : decode cX12_laysEnds 12 = .ok (.iload_n 1, 1) := by decide +kernel
theorem dX12_laysEnds_13 : decode cX12_laysEnds 13 = .ok (.aload_n 0, 1) := by decide +kernel
theorem dX12_laysEnds_14 : decode cX12_laysEnds 14 = .ok (.getfield 246, 3) := by decide +kernel
theorem dX12_laysEnds_17 : decode cX12_laysEnds 17 = .ok (.if_icmp .ge 78, 3) := by decide +kernel
theorem dX12_laysEnds_20 : decode cX12_laysEnds 20 = .ok (.aload_n 0, 1) := by decide +kernel
theorem dX12_laysEnds_21 : decode cX12_laysEnds 21 = .ok (.getfield 90, 3) := by decide +kernel
theorem dX12_laysEnds_24 : decode cX12_laysEnds 24 = .ok (.aload_n 0, 1) := by decide +kernel
theorem dX12_laysEnds_25 : decode cX12_laysEnds 25 = .ok (.getfield 377, 3) := by decide +kernel
theorem dX12_laysEnds_28 : decode cX12_laysEnds 28 = .ok (.dup2, 1) := by decide +kernel
theorem dX12_laysEnds_29 : decode cX12_laysEnds 29 = .ok (.iaload, 1) := by decide +kernel
theorem dX12_laysEnds_30 : decode cX12_laysEnds 30 = .ok (.aload_n 0, 1) := by decide +kernel
theorem dX12_laysEnds_31 : decode cX12_laysEnds 31 = .ok (.iload_n 1, 1) := by decide +kernel
theorem dX12_laysEnds_32 : decode cX12_laysEnds 32 = .ok (.invokevirtual 302, 3) := by decide +kernel
theorem dX12_laysEnds_35 : decode cX12_laysEnds 35 = .ok (.ifCond .eq 15, 3) := by decide +kernel
theorem dX12_laysEnds_38 : decode cX12_laysEnds 38 = .ok (.aload_n 0, 1) := by decide +kernel
theorem dX12_laysEnds_39 : decode cX12_laysEnds 39 = .ok (.iload_n 1, 1) := by decide +kernel
theorem dX12_laysEnds_40 : decode cX12_laysEnds 40 = .ok (.invokevirtual 323, 3) := by decide +kernel
theorem dX12_laysEnds_43 : decode cX12_laysEnds 43 = .ok (.ifCond .eq 7, 3) := by decide +kernel
theorem dX12_laysEnds_46 : decode cX12_laysEnds 46 = .ok (.iconst 1, 1) := by decide +kernel
theorem dX12_laysEnds_47 : decode cX12_laysEnds 47 = .ok (.goto 4, 3) := by decide +kernel
theorem dX12_laysEnds_50 : decode cX12_laysEnds 50 = .ok (.iconst 0, 1) := by decide +kernel
theorem dX12_laysEnds_51 : decode cX12_laysEnds 51 = .ok (.iadd, 1) := by decide +kernel
theorem dX12_laysEnds_52 : decode cX12_laysEnds 52 = .ok (.iastore, 1) := by decide +kernel
theorem dX12_laysEnds_53 : decode cX12_laysEnds 53 = .ok (.aload_n 0, 1) := by decide +kernel
theorem dX12_laysEnds_54 : decode cX12_laysEnds 54 = .ok (.getfield 96, 3) := by decide +kernel
theorem dX12_laysEnds_57 : decode cX12_laysEnds 57 = .ok (.bipush 16, 2) := by decide +kernel
theorem dX12_laysEnds_59 : decode cX12_laysEnds 59 = .ok (.aload_n 0, 1) := by decide +kernel
theorem dX12_laysEnds_60 : decode cX12_laysEnds 60 = .ok (.getfield 377, 3) := by decide +kernel
theorem dX12_laysEnds_63 : decode cX12_laysEnds 63 = .ok (.imul, 1) := by decide +kernel
theorem dX12_laysEnds_64 : decode cX12_laysEnds 64 = .ok (.iload_n 1, 1) := by decide +kernel
theorem dX12_laysEnds_65 : decode cX12_laysEnds 65 = .ok (.iadd, 1) := by decide +kernel
theorem dX12_laysEnds_66 : decode cX12_laysEnds 66 = .ok (.aload_n 0, 1) := by decide +kernel
theorem dX12_laysEnds_67 : decode cX12_laysEnds 67 = .ok (.getfield 258, 3) := by decide +kernel
theorem dX12_laysEnds_70 : decode cX12_laysEnds 70 = .ok (.iastore, 1) := by decide +kernel
theorem dX12_laysEnds_71 : decode cX12_laysEnds 71 = .ok (.aload_n 0, 1) := by decide +kernel
theorem dX12_laysEnds_72 : decode cX12_laysEnds 72 = .ok (.getfield 99, 3) := by decide +kernel
theorem dX12_laysEnds_75 : decode cX12_laysEnds 75 = .ok (.bipush 16, 2) := by decide +kernel
theorem dX12_laysEnds_77 : decode cX12_laysEnds 77 = .ok (.aload_n 0, 1) := by decide +kernel
theorem dX12_laysEnds_78 : decode cX12_laysEnds 78 = .ok (.getfield 377, 3) := by decide +kernel
theorem dX12_laysEnds_81 : decode cX12_laysEnds 81 = .ok (.imul, 1) := by decide +kernel
theorem dX12_laysEnds_82 : decode cX12_laysEnds 82 = .ok (.iload_n 1, 1) := by decide +kernel
theorem dX12_laysEnds_83 : decode cX12_laysEnds 83 = .ok (.iadd, 1) := by decide +kernel
theorem dX12_laysEnds_84 : decode cX12_laysEnds 84 = .ok (.aload_n 0, 1) := by decide +kernel
theorem dX12_laysEnds_85 : decode cX12_laysEnds 85 = .ok (.getfield 287, 3) := by decide +kernel
theorem dX12_laysEnds_88 : decode cX12_laysEnds 88 = .ok (.iastore, 1) := by decide +kernel
theorem dX12_laysEnds_89 : decode cX12_laysEnds 89 = .ok (.iinc 1 1, 3) := by decide +kernel
theorem dX12_laysEnds_92 : decode cX12_laysEnds 92 = .ok (.goto (-80), 3) := by decide +kernel
theorem dX12_laysEnds_95 : decode cX12_laysEnds 95 = .ok (.iconst 0, 1) := by decide +kernel
theorem dX12_laysEnds_96 : decode cX12_laysEnds 96 = .ok (.istore_n 1, 1) := by decide +kernel
theorem dX12_laysEnds_97 : decode cX12_laysEnds 97 = .ok (.iload_n 1, 1) := by decide +kernel
theorem dX12_laysEnds_98 : decode cX12_laysEnds 98 = .ok (.aload_n 0, 1) := by decide +kernel
theorem dX12_laysEnds_99 : decode cX12_laysEnds 99 = .ok (.getfield 377, 3) := by decide +kernel
theorem dX12_laysEnds_102 : decode cX12_laysEnds 102 = .ok (.if_icmp .ge 21, 3) := by decide +kernel
theorem dX12_laysEnds_105 : decode cX12_laysEnds 105 = .ok (.aload_n 0, 1) := by decide +kernel
theorem dX12_laysEnds_106 : decode cX12_laysEnds 106 = .ok (.iload_n 1, 1) := by decide +kernel
theorem dX12_laysEnds_107 : decode cX12_laysEnds 107 = .ok (.aload_n 0, 1) := by decide +kernel
theorem dX12_laysEnds_108 : decode cX12_laysEnds 108 = .ok (.getfield 377, 3) := by decide +kernel
theorem dX12_laysEnds_111 : decode cX12_laysEnds 111 = .ok (.invokevirtual 386, 3) := by decide +kernel
theorem dX12_laysEnds_114 : decode cX12_laysEnds 114 = .ok (.ifCond .ne 9, 3) := by decide +kernel
theorem dX12_laysEnds_117 : decode cX12_laysEnds 117 = .ok (.iinc 1 1, 3) := by decide +kernel
theorem dX12_laysEnds_120 : decode cX12_laysEnds 120 = .ok (.goto (-23), 3) := by decide +kernel
theorem dX12_laysEnds_123 : decode cX12_laysEnds 123 = .ok (.aload_n 0, 1) := by decide +kernel
theorem dX12_laysEnds_124 : decode cX12_laysEnds 124 = .ok (.getfield 93, 3) := by decide +kernel
theorem dX12_laysEnds_127 : decode cX12_laysEnds 127 = .ok (.aload_n 0, 1) := by decide +kernel
theorem dX12_laysEnds_128 : decode cX12_laysEnds 128 = .ok (.getfield 377, 3) := by decide +kernel
theorem dX12_laysEnds_131 : decode cX12_laysEnds 131 = .ok (.iload_n 1, 1) := by decide +kernel
theorem dX12_laysEnds_132 : decode cX12_laysEnds 132 = .ok (.iastore, 1) := by decide +kernel
theorem dX12_laysEnds_133 : decode cX12_laysEnds 133 = .ok (.return_, 1) := by decide +kernel
theorem dX12_areAlike_0 : decode cX12_areAlike 0 = .ok (.iconst 1, 1) := by decide +kernel
theorem dX12_areAlike_1 : decode cX12_areAlike 1 = .ok (.istore_n 3, 1) := by decide +kernel
theorem dX12_areAlike_2 : decode cX12_areAlike 2 = .ok (.iconst 0, 1) := by decide +kernel
theorem dX12_areAlike_3 : decode cX12_areAlike 3 = .ok (.istore 4, 2) := by decide +kernel
theorem dX12_areAlike_5 : decode cX12_areAlike 5 = .ok (.iload 4, 2) := by decide +kernel
theorem dX12_areAlike_7 : decode cX12_areAlike 7 = .ok (.aload_n 0, 1) := by decide +kernel
theorem dX12_areAlike_8 : decode cX12_areAlike 8 = .ok (.getfield 246, 3) := by decide +kernel
theorem dX12_areAlike_11 : decode cX12_areAlike 11 = .ok (.if_icmp .ge 73, 3) := by decide +kernel
theorem dX12_areAlike_14 : decode cX12_areAlike 14 = .ok (.iload_n 3, 1) := by decide +kernel
theorem dX12_areAlike_15 : decode cX12_areAlike 15 = .ok (.ifCond .eq 61, 3) := by decide +kernel
theorem dX12_areAlike_18 : decode cX12_areAlike 18 = .ok (.aload_n 0, 1) := by decide +kernel
theorem dX12_areAlike_19 : decode cX12_areAlike 19 = .ok (.getfield 96, 3) := by decide +kernel
theorem dX12_areAlike_22 : decode cX12_areAlike 22 = .ok (.bipush 16, 2) := by decide +kernel
theorem dX12_areAlike_24 : decode cX12_areAlike 24 = .ok (.iload_n 1, 1) := by decide +kernel
theorem dX12_areAlike_25 : decode cX12_areAlike 25 = .ok (.imul, 1) := by decide +kernel
theorem dX12_areAlike_26 : decode cX12_areAlike 26 = .ok (.iload 4, 2) := by decide +kernel
theorem dX12_areAlike_28 : decode cX12_areAlike 28 = .ok (.iadd, 1) := by decide +kernel
theorem dX12_areAlike_29 : decode cX12_areAlike 29 = .ok (.iaload, 1) := by decide +kernel
theorem dX12_areAlike_30 : decode cX12_areAlike 30 = .ok (.aload_n 0, 1) := by decide +kernel
theorem dX12_areAlike_31 : decode cX12_areAlike 31 = .ok (.getfield 96, 3) := by decide +kernel
theorem dX12_areAlike_34 : decode cX12_areAlike 34 = .ok (.bipush 16, 2) := by decide +kernel
theorem dX12_areAlike_36 : decode cX12_areAlike 36 = .ok (.iload_n 2, 1) := by decide +kernel
theorem dX12_areAlike_37 : decode cX12_areAlike 37 = .ok (.imul, 1) := by decide +kernel
theorem dX12_areAlike_38 : decode cX12_areAlike 38 = .ok (.iload 4, 2) := by decide +kernel
theorem dX12_areAlike_40 : decode cX12_areAlike 40 = .ok (.iadd, 1) := by decide +kernel
theorem dX12_areAlike_41 : decode cX12_areAlike 41 = .ok (.iaload, 1) := by decide +kernel
theorem dX12_areAlike_42 : decode cX12_areAlike 42 = .ok (.if_icmp .ne 34, 3) := by decide +kernel
theorem dX12_areAlike_45 : decode cX12_areAlike 45 = .ok (.aload_n 0, 1) := by decide +kernel
theorem dX12_areAlike_46 : decode cX12_areAlike 46 = .ok (.getfield 99, 3) := by decide +kernel
theorem dX12_areAlike_49 : decode cX12_areAlike 49 = .ok (.bipush 16, 2) := by decide +kernel
theorem dX12_areAlike_51 : decode cX12_areAlike 51 = .ok (.iload_n 1, 1) := by decide +kernel
theorem dX12_areAlike_52 : decode cX12_areAlike 52 = .ok (.imul, 1) := by decide +kernel
theorem dX12_areAlike_53 : decode cX12_areAlike 53 = .ok (.iload 4, 2) := by decide +kernel
theorem dX12_areAlike_55 : decode cX12_areAlike 55 = .ok (.iadd, 1) := by decide +kernel
theorem dX12_areAlike_56 : decode cX12_areAlike 56 = .ok (.iaload, 1) := by decide +kernel
theorem dX12_areAlike_57 : decode cX12_areAlike 57 = .ok (.aload_n 0, 1) := by decide +kernel
theorem dX12_areAlike_58 : decode cX12_areAlike 58 = .ok (.getfield 99, 3) := by decide +kernel
theorem dX12_areAlike_61 : decode cX12_areAlike 61 = .ok (.bipush 16, 2) := by decide +kernel
theorem dX12_areAlike_63 : decode cX12_areAlike 63 = .ok (.iload_n 2, 1) := by decide +kernel
theorem dX12_areAlike_64 : decode cX12_areAlike 64 = .ok (.imul, 1) := by decide +kernel
theorem dX12_areAlike_65 : decode cX12_areAlike 65 = .ok (.iload 4, 2) := by decide +kernel
theorem dX12_areAlike_67 : decode cX12_areAlike 67 = .ok (.iadd, 1) := by decide +kernel
theorem dX12_areAlike_68 : decode cX12_areAlike 68 = .ok (.iaload, 1) := by decide +kernel
theorem dX12_areAlike_69 : decode cX12_areAlike 69 = .ok (.if_icmp .ne 7, 3) := by decide +kernel
theorem dX12_areAlike_72 : decode cX12_areAlike 72 = .ok (.iconst 1, 1) := by decide +kernel
theorem dX12_areAlike_73 : decode cX12_areAlike 73 = .ok (.goto 4, 3) := by decide +kernel
theorem dX12_areAlike_76 : decode cX12_areAlike 76 = .ok (.iconst 0, 1) := by decide +kernel
theorem dX12_areAlike_77 : decode cX12_areAlike 77 = .ok (.istore_n 3, 1) := by decide +kernel
theorem dX12_areAlike_78 : decode cX12_areAlike 78 = .ok (.iinc 4 1, 3) := by decide +kernel
theorem dX12_areAlike_81 : decode cX12_areAlike 81 = .ok (.goto (-76), 3) := by decide +kernel
theorem dX12_areAlike_84 : decode cX12_areAlike 84 = .ok (.iload_n 3, 1) := by decide +kernel
theorem dX12_areAlike_85 : decode cX12_areAlike 85 = .ok (.ireturn, 1) := by decide +kernel
theorem dX12_mend_0 : decode cX12_mend 0 = .ok (.aload_n 0, 1) := by decide +kernel
theorem dX12_mend_1 : decode cX12_mend 1 = .ok (.iconst 0, 1) := by decide +kernel
theorem dX12_mend_2 : decode cX12_mend 2 = .ok (.putfield 121, 3) := by decide +kernel
theorem dX12_mend_5 : decode cX12_mend 5 = .ok (.iload_n 1, 1) := by decide +kernel
theorem dX12_mend_6 : decode cX12_mend 6 = .ok (.iconst (-1), 1) := by decide +kernel
theorem dX12_mend_7 : decode cX12_mend 7 = .ok (.if_icmp .lt 17, 3) := by decide +kernel
theorem dX12_mend_10 : decode cX12_mend 10 = .ok (.iload_n 1, 1) := by decide +kernel
theorem dX12_mend_11 : decode cX12_mend 11 = .ok (.iconst (-1), 1) := by decide +kernel
theorem dX12_mend_12 : decode cX12_mend 12 = .ok (.if_icmp .eq 14, 3) := by decide +kernel
theorem dX12_mend_15 : decode cX12_mend 15 = .ok (.iload_n 2, 1) := by decide +kernel
theorem dX12_mend_16 : decode cX12_mend 16 = .ok (.iconst 0, 1) := by decide +kernel
theorem dX12_mend_17 : decode cX12_mend 17 = .ok (.iconst 4, 1) := by decide +kernel
theorem dX12_mend_18 : decode cX12_mend 18 = .ok (.invokestatic 147, 3) := by decide +kernel
theorem dX12_mend_21 : decode cX12_mend 21 = .ok (.ifCond .ne 5, 3) := by decide +kernel
theorem dX12_mend_24 : decode cX12_mend 24 = .ok (.iconst (-1), 1) := by decide +kernel
theorem dX12_mend_25 : decode cX12_mend 25 = .ok (.ireturn, 1) := by decide +kernel
theorem dX12_mend_26 : decode cX12_mend 26 = .ok (.aload_n 0, 1) := by decide +kernel
theorem dX12_mend_27 : decode cX12_mend 27 = .ok (.invokevirtual 389, 3) := by decide +kernel
theorem dX12_mend_30 : decode cX12_mend 30 = .ok (.iload_n 1, 1) := by decide +kernel
theorem dX12_mend_31 : decode cX12_mend 31 = .ok (.iconst (-1), 1) := by decide +kernel
theorem dX12_mend_32 : decode cX12_mend 32 = .ok (.if_icmp .ne 8, 3) := by decide +kernel
theorem dX12_mend_35 : decode cX12_mend 35 = .ok (.aload_n 0, 1) := by decide +kernel
theorem dX12_mend_36 : decode cX12_mend 36 = .ok (.getfield 377, 3) := by decide +kernel
theorem dX12_mend_39 : decode cX12_mend 39 = .ok (.ireturn, 1) := by decide +kernel
theorem dX12_mend_40 : decode cX12_mend 40 = .ok (.iload_n 1, 1) := by decide +kernel
theorem dX12_mend_41 : decode cX12_mend 41 = .ok (.aload_n 0, 1) := by decide +kernel
theorem dX12_mend_42 : decode cX12_mend 42 = .ok (.getfield 377, 3) := by decide +kernel
theorem dX12_mend_45 : decode cX12_mend 45 = .ok (.if_icmp .lt 5, 3) := by decide +kernel
theorem dX12_mend_48 : decode cX12_mend 48 = .ok (.iconst (-1), 1) := by decide +kernel
theorem dX12_mend_49 : decode cX12_mend 49 = .ok (.ireturn, 1) := by decide +kernel
theorem dX12_mend_50 : decode cX12_mend 50 = .ok (.iload_n 2, 1) := by decide +kernel
theorem dX12_mend_51 : decode cX12_mend 51 = .ok (.tableswitch 70 0 3 #[29, 36, 43, 50], 29) := by decide +kernel
theorem dX12_mend_80 : decode cX12_mend 80 = .ok (.aload_n 0, 1) := by decide +kernel
theorem dX12_mend_81 : decode cX12_mend 81 = .ok (.getfield 84, 3) := by decide +kernel
theorem dX12_mend_84 : decode cX12_mend 84 = .ok (.iload_n 1, 1) := by decide +kernel
theorem dX12_mend_85 : decode cX12_mend 85 = .ok (.iaload, 1) := by decide +kernel
theorem dX12_mend_86 : decode cX12_mend 86 = .ok (.ireturn, 1) := by decide +kernel
theorem dX12_mend_87 : decode cX12_mend 87 = .ok (.aload_n 0, 1) := by decide +kernel
theorem dX12_mend_88 : decode cX12_mend 88 = .ok (.getfield 87, 3) := by decide +kernel
theorem dX12_mend_91 : decode cX12_mend 91 = .ok (.iload_n 1, 1) := by decide +kernel
theorem dX12_mend_92 : decode cX12_mend 92 = .ok (.iaload, 1) := by decide +kernel
theorem dX12_mend_93 : decode cX12_mend 93 = .ok (.ireturn, 1) := by decide +kernel
theorem dX12_mend_94 : decode cX12_mend 94 = .ok (.aload_n 0, 1) := by decide +kernel
theorem dX12_mend_95 : decode cX12_mend 95 = .ok (.getfield 90, 3) := by decide +kernel
theorem dX12_mend_98 : decode cX12_mend 98 = .ok (.iload_n 1, 1) := by decide +kernel
theorem dX12_mend_99 : decode cX12_mend 99 = .ok (.iaload, 1) := by decide +kernel
theorem dX12_mend_100 : decode cX12_mend 100 = .ok (.ireturn, 1) := by decide +kernel
theorem dX12_mend_101 : decode cX12_mend 101 = .ok (.aload_n 0, 1) := by decide +kernel
theorem dX12_mend_102 : decode cX12_mend 102 = .ok (.getfield 90, 3) := by decide +kernel
theorem dX12_mend_105 : decode cX12_mend 105 = .ok (.iload_n 1, 1) := by decide +kernel
theorem dX12_mend_106 : decode cX12_mend 106 = .ok (.iaload, 1) := by decide +kernel
theorem dX12_mend_107 : decode cX12_mend 107 = .ok (.aload_n 0, 1) := by decide +kernel
theorem dX12_mend_108 : decode cX12_mend 108 = .ok (.iconst 1, 1) := by decide +kernel
theorem dX12_mend_109 : decode cX12_mend 109 = .ok (.invokevirtual 392, 3) := by decide +kernel
theorem dX12_mend_112 : decode cX12_mend 112 = .ok (.if_icmp .ge 7, 3) := by decide +kernel
theorem dX12_mend_115 : decode cX12_mend 115 = .ok (.iconst 1, 1) := by decide +kernel
theorem dX12_mend_116 : decode cX12_mend 116 = .ok (.goto 4, 3) := by decide +kernel
theorem dX12_mend_119 : decode cX12_mend 119 = .ok (.iconst 0, 1) := by decide +kernel
theorem dX12_mend_120 : decode cX12_mend 120 = .ok (.ireturn, 1) := by decide +kernel
theorem dX12_mend_121 : decode cX12_mend 121 = .ok (.aload_n 0, 1) := by decide +kernel
theorem dX12_mend_122 : decode cX12_mend 122 = .ok (.getfield 93, 3) := by decide +kernel
theorem dX12_mend_125 : decode cX12_mend 125 = .ok (.iload_n 1, 1) := by decide +kernel
theorem dX12_mend_126 : decode cX12_mend 126 = .ok (.iaload, 1) := by decide +kernel
theorem dX12_mend_127 : decode cX12_mend 127 = .ok (.ireturn, 1) := by decide +kernel
theorem dX12_unlike_0 : decode cX12_unlike 0 = .ok (.aload_n 0, 1) := by decide +kernel
theorem dX12_unlike_1 : decode cX12_unlike 1 = .ok (.iconst 0, 1) := by decide +kernel
theorem dX12_unlike_2 : decode cX12_unlike 2 = .ok (.putfield 121, 3) := by decide +kernel
theorem dX12_unlike_5 : decode cX12_unlike 5 = .ok (.aload_n 0, 1) := by decide +kernel
theorem dX12_unlike_6 : decode cX12_unlike 6 = .ok (.invokevirtual 389, 3) := by decide +kernel
theorem dX12_unlike_9 : decode cX12_unlike 9 = .ok (.iconst 0, 1) := by decide +kernel
theorem dX12_unlike_10 : decode cX12_unlike 10 = .ok (.istore_n 1, 1) := by decide +kernel
theorem dX12_unlike_11 : decode cX12_unlike 11 = .ok (.iconst 0, 1) := by decide +kernel
theorem dX12_unlike_12 : decode cX12_unlike 12 = .ok (.istore_n 2, 1) := by decide +kernel
theorem dX12_unlike_13 : decode cX12_unlike 13 = .ok (.iload_n 2, 1) := by decide +kernel
theorem dX12_unlike_14 : decode cX12_unlike 14 = .ok (.aload_n 0, 1) := by decide +kernel
theorem dX12_unlike_15 : decode cX12_unlike 15 = .ok (.getfield 377, 3) := by decide +kernel
theorem dX12_unlike_18 : decode cX12_unlike 18 = .ok (.if_icmp .ge 27, 3) := by decide +kernel
theorem dX12_unlike_21 : decode cX12_unlike 21 = .ok (.iload_n 1, 1) := by decide +kernel
theorem dX12_unlike_22 : decode cX12_unlike 22 = .ok (.aload_n 0, 1) := by decide +kernel
theorem dX12_unlike_23 : decode cX12_unlike 23 = .ok (.getfield 93, 3) := by decide +kernel
theorem dX12_unlike_26 : decode cX12_unlike 26 = .ok (.iload_n 2, 1) := by decide +kernel
theorem dX12_unlike_27 : decode cX12_unlike 27 = .ok (.iaload, 1) := by decide +kernel
theorem dX12_unlike_28 : decode cX12_unlike 28 = .ok (.iload_n 2, 1) := by decide +kernel
theorem dX12_unlike_29 : decode cX12_unlike 29 = .ok (.if_icmp .ne 7, 3) := by decide +kernel
theorem dX12_unlike_32 : decode cX12_unlike 32 = .ok (.iconst 1, 1) := by decide +kernel
theorem dX12_unlike_33 : decode cX12_unlike 33 = .ok (.goto 4, 3) := by decide +kernel
theorem dX12_unlike_36 : decode cX12_unlike 36 = .ok (.iconst 0, 1) := by decide +kernel
theorem dX12_unlike_37 : decode cX12_unlike 37 = .ok (.iadd, 1) := by decide +kernel
theorem dX12_unlike_38 : decode cX12_unlike 38 = .ok (.istore_n 1, 1) := by decide +kernel
theorem dX12_unlike_39 : decode cX12_unlike 39 = .ok (.iinc 2 1, 3) := by decide +kernel
theorem dX12_unlike_42 : decode cX12_unlike 42 = .ok (.goto (-29), 3) := by decide +kernel
theorem dX12_unlike_45 : decode cX12_unlike 45 = .ok (.iload_n 1, 1) := by decide +kernel
theorem dX12_unlike_46 : decode cX12_unlike 46 = .ok (.ireturn, 1) := by decide +kernel
theorem dX12_best_0 : decode cX12_best 0 = .ok (.aload_n 0, 1) := by decide +kernel
theorem dX12_best_1 : decode cX12_best 1 = .ok (.iconst 0, 1) := by decide +kernel
theorem dX12_best_2 : decode cX12_best 2 = .ok (.putfield 121, 3) := by decide +kernel
theorem dX12_best_5 : decode cX12_best 5 = .ok (.aload_n 0, 1) := by decide +kernel
theorem dX12_best_6 : decode cX12_best 6 = .ok (.invokevirtual 389, 3) := by decide +kernel
theorem dX12_best_9 : decode cX12_best 9 = .ok (.iconst (-1), 1) := by decide +kernel
theorem dX12_best_10 : decode cX12_best 10 = .ok (.istore_n 1, 1) := by decide +kernel
theorem dX12_best_11 : decode cX12_best 11 = .ok (.iconst 0, 1) := by decide +kernel
theorem dX12_best_12 : decode cX12_best 12 = .ok (.istore_n 2, 1) := by decide +kernel
theorem dX12_best_13 : decode cX12_best 13 = .ok (.iload_n 2, 1) := by decide +kernel
theorem dX12_best_14 : decode cX12_best 14 = .ok (.aload_n 0, 1) := by decide +kernel
theorem dX12_best_15 : decode cX12_best 15 = .ok (.getfield 377, 3) := by decide +kernel
theorem dX12_best_18 : decode cX12_best 18 = .ok (.if_icmp .ge 35, 3) := by decide +kernel
theorem dX12_best_21 : decode cX12_best 21 = .ok (.iload_n 1, 1) := by decide +kernel
theorem dX12_best_22 : decode cX12_best 22 = .ok (.iconst (-1), 1) := by decide +kernel
theorem dX12_best_23 : decode cX12_best 23 = .ok (.if_icmp .eq 18, 3) := by decide +kernel
theorem dX12_best_26 : decode cX12_best 26 = .ok (.aload_n 0, 1) := by decide +kernel
theorem dX12_best_27 : decode cX12_best 27 = .ok (.getfield 90, 3) := by decide +kernel
theorem dX12_best_30 : decode cX12_best 30 = .ok (.iload_n 2, 1) := by decide +kernel
theorem dX12_best_31 : decode cX12_best 31 = .ok (.iaload, 1) := by decide +kernel
theorem dX12_best_32 : decode cX12_best 32 = .ok (.aload_n 0, 1) := by decide +kernel
theorem dX12_best_33 : decode cX12_best 33 = .ok (.getfield 90, 3) := by decide +kernel
theorem dX12_best_36 : decode cX12_best 36 = .ok (.iload_n 1, 1) := by decide +kernel
theorem dX12_best_37 : decode cX12_best 37 = .ok (.iaload, 1) := by decide +kernel
theorem dX12_best_38 : decode cX12_best 38 = .ok (.if_icmp .le 7, 3) := by decide +kernel
theorem dX12_best_41 : decode cX12_best 41 = .ok (.iload_n 2, 1) := by decide +kernel
theorem dX12_best_42 : decode cX12_best 42 = .ok (.goto 4, 3) := by decide +kernel
theorem dX12_best_45 : decode cX12_best 45 = .ok (.iload_n 1, 1) := by decide +kernel
theorem dX12_best_46 : decode cX12_best 46 = .ok (.istore_n 1, 1) := by decide +kernel
theorem dX12_best_47 : decode cX12_best 47 = .ok (.iinc 2 1, 3) := by decide +kernel
theorem dX12_best_50 : decode cX12_best 50 = .ok (.goto (-37), 3) := by decide +kernel
theorem dX12_best_53 : decode cX12_best 53 = .ok (.iload_n 1, 1) := by decide +kernel
theorem dX12_best_54 : decode cX12_best 54 = .ok (.ireturn, 1) := by decide +kernel
theorem dX12_findsPair_0 : decode cX12_findsPair 0 = .ok (.aload_n 0, 1) := by decide +kernel
theorem dX12_findsPair_1 : decode cX12_findsPair 1 = .ok (.invokevirtual 389, 3) := by decide +kernel
theorem dX12_findsPair_4 : decode cX12_findsPair 4 = .ok (.aload_n 0, 1) := by decide +kernel
theorem dX12_findsPair_5 : decode cX12_findsPair 5 = .ok (.getfield 377, 3) := by decide +kernel
theorem dX12_findsPair_8 : decode cX12_findsPair 8 = .ok (.ifCond .gt 10, 3) := by decide +kernel
theorem dX12_findsPair_11 : decode cX12_findsPair 11 = .ok (.aload_n 0, 1) := by decide +kernel
theorem dX12_findsPair_12 : decode cX12_findsPair 12 = .ok (.invokevirtual 364, 3) := by decide +kernel
theorem dX12_findsPair_15 : decode cX12_findsPair 15 = .ok (.ifCond .eq 5, 3) := by decide +kernel
theorem dX12_findsPair_18 : decode cX12_findsPair 18 = .ok (.iconst 0, 1) := by decide +kernel
theorem dX12_findsPair_19 : decode cX12_findsPair 19 = .ok (.ireturn, 1) := by decide +kernel
theorem dX12_findsPair_20 : decode cX12_findsPair 20 = .ok (.aload_n 0, 1) := by decide +kernel
theorem dX12_findsPair_21 : decode cX12_findsPair 21 = .ok (.iconst 1, 1) := by decide +kernel
theorem dX12_findsPair_22 : decode cX12_findsPair 22 = .ok (.invokevirtual 342, 3) := by decide +kernel
theorem dX12_findsPair_25 : decode cX12_findsPair 25 = .ok (.istore_n 1, 1) := by decide +kernel
theorem dX12_findsPair_26 : decode cX12_findsPair 26 = .ok (.iconst 0, 1) := by decide +kernel
theorem dX12_findsPair_27 : decode cX12_findsPair 27 = .ok (.istore_n 2, 1) := by decide +kernel
theorem dX12_findsPair_28 : decode cX12_findsPair 28 = .ok (.iload_n 2, 1) := by decide +kernel
theorem dX12_findsPair_29 : decode cX12_findsPair 29 = .ok (.aload_n 0, 1) := by decide +kernel
theorem dX12_findsPair_30 : decode cX12_findsPair 30 = .ok (.getfield 13, 3) := by decide +kernel
theorem dX12_findsPair_33 : decode cX12_findsPair 33 = .ok (.iconst 0, 1) := by decide +kernel
theorem dX12_findsPair_34 : decode cX12_findsPair 34 = .ok (.iaload, 1) := by decide +kernel
theorem dX12_findsPair_35 : decode cX12_findsPair 35 = .ok (.if_icmp .ge 69, 3) := by decide +kernel
theorem dX12_findsPair_38 : decode cX12_findsPair 38 = .ok (.aload_n 0, 1) := by decide +kernel
theorem dX12_findsPair_39 : decode cX12_findsPair 39 = .ok (.getfield 102, 3) := by decide +kernel
theorem dX12_findsPair_42 : decode cX12_findsPair 42 = .ok (.iload_n 2, 1) := by decide +kernel
theorem dX12_findsPair_43 : decode cX12_findsPair 43 = .ok (.iconst 0, 1) := by decide +kernel
theorem dX12_findsPair_44 : decode cX12_findsPair 44 = .ok (.bastore, 1) := by decide +kernel
theorem dX12_findsPair_45 : decode cX12_findsPair 45 = .ok (.iconst 0, 1) := by decide +kernel
theorem dX12_findsPair_46 : decode cX12_findsPair 46 = .ok (.istore_n 3, 1) := by decide +kernel
theorem dX12_findsPair_47 : decode cX12_findsPair 47 = .ok (.iload_n 3, 1) := by decide +kernel
theorem dX12_findsPair_48 : decode cX12_findsPair 48 = .ok (.iload_n 1, 1) := by decide +kernel
theorem dX12_findsPair_49 : decode cX12_findsPair 49 = .ok (.if_icmp .ge 49, 3) := by decide +kernel
theorem dX12_findsPair_52 : decode cX12_findsPair 52 = .ok (.iload_n 3, 1) := by decide +kernel
theorem dX12_findsPair_53 : decode cX12_findsPair 53 = .ok (.bipush 6, 2) := by decide +kernel
theorem dX12_findsPair_55 : decode cX12_findsPair 55 = .ok (.if_icmp .ge 43, 3) := by decide +kernel
theorem dX12_findsPair_58 : decode cX12_findsPair 58 = .ok (.aload_n 0, 1) := by decide +kernel
theorem dX12_findsPair_59 : decode cX12_findsPair 59 = .ok (.getfield 102, 3) := by decide +kernel
theorem dX12_findsPair_62 : decode cX12_findsPair 62 = .ok (.iload_n 2, 1) := by decide +kernel
theorem dX12_findsPair_63 : decode cX12_findsPair 63 = .ok (.aload_n 0, 1) := by decide +kernel
theorem dX12_findsPair_64 : decode cX12_findsPair 64 = .ok (.getfield 102, 3) := by decide +kernel
theorem dX12_findsPair_67 : decode cX12_findsPair 67 = .ok (.iload_n 2, 1) := by decide +kernel
theorem dX12_findsPair_68 : decode cX12_findsPair 68 = .ok (.baload, 1) := by decide +kernel
theorem dX12_findsPair_69 : decode cX12_findsPair 69 = .ok (.ifCond .ne 17, 3) := by decide +kernel
theorem dX12_findsPair_72 : decode cX12_findsPair 72 = .ok (.aload_n 0, 1) := by decide +kernel
theorem dX12_findsPair_73 : decode cX12_findsPair 73 = .ok (.iload_n 2, 1) := by decide +kernel
theorem dX12_findsPair_74 : decode cX12_findsPair 74 = .ok (.invokevirtual 311, 3) := by decide +kernel
theorem dX12_findsPair_77 : decode cX12_findsPair 77 = .ok (.aload_n 0, 1) := by decide +kernel
theorem dX12_findsPair_78 : decode cX12_findsPair 78 = .ok (.getfield 72, 3) := by decide +kernel
theorem dX12_findsPair_81 : decode cX12_findsPair 81 = .ok (.iload_n 3, 1) := by decide +kernel
theorem dX12_findsPair_82 : decode cX12_findsPair 82 = .ok (.iaload, 1) := by decide +kernel
theorem dX12_findsPair_83 : decode cX12_findsPair 83 = .ok (.if_icmp .ne 7, 3) := by decide +kernel
theorem dX12_findsPair_86 : decode cX12_findsPair 86 = .ok (.iconst 1, 1) := by decide +kernel
theorem dX12_findsPair_87 : decode cX12_findsPair 87 = .ok (.goto 4, 3) := by decide +kernel
theorem dX12_findsPair_90 : decode cX12_findsPair 90 = .ok (.iconst 0, 1) := by decide +kernel
theorem dX12_findsPair_91 : decode cX12_findsPair 91 = .ok (.bastore, 1) := by decide +kernel
theorem dX12_findsPair_92 : decode cX12_findsPair 92 = .ok (.iinc 3 1, 3) := by decide +kernel
theorem dX12_findsPair_95 : decode cX12_findsPair 95 = .ok (.goto (-48), 3) := by decide +kernel
theorem dX12_findsPair_98 : decode cX12_findsPair 98 = .ok (.iinc 2 1, 3) := by decide +kernel
theorem dX12_findsPair_101 : decode cX12_findsPair 101 = .ok (.goto (-73), 3) := by decide +kernel
theorem dX12_findsPair_104 : decode cX12_findsPair 104 = .ok (.iconst 0, 1) := by decide +kernel
theorem dX12_findsPair_105 : decode cX12_findsPair 105 = .ok (.istore_n 2, 1) := by decide +kernel
theorem dX12_findsPair_106 : decode cX12_findsPair 106 = .ok (.iload_n 2, 1) := by decide +kernel
theorem dX12_findsPair_107 : decode cX12_findsPair 107 = .ok (.aload_n 0, 1) := by decide +kernel
theorem dX12_findsPair_108 : decode cX12_findsPair 108 = .ok (.getfield 13, 3) := by decide +kernel
theorem dX12_findsPair_111 : decode cX12_findsPair 111 = .ok (.iconst 0, 1) := by decide +kernel
theorem dX12_findsPair_112 : decode cX12_findsPair 112 = .ok (.iaload, 1) := by decide +kernel
theorem dX12_findsPair_113 : decode cX12_findsPair 113 = .ok (.if_icmp .ge 51, 3) := by decide +kernel
theorem dX12_findsPair_116 : decode cX12_findsPair 116 = .ok (.aload_n 0, 1) := by decide +kernel
theorem dX12_findsPair_117 : decode cX12_findsPair 117 = .ok (.getfield 102, 3) := by decide +kernel
theorem dX12_findsPair_120 : decode cX12_findsPair 120 = .ok (.iload_n 2, 1) := by decide +kernel
theorem dX12_findsPair_121 : decode cX12_findsPair 121 = .ok (.baload, 1) := by decide +kernel
theorem dX12_findsPair_122 : decode cX12_findsPair 122 = .ok (.ifCond .eq 36, 3) := by decide +kernel
theorem dX12_findsPair_125 : decode cX12_findsPair 125 = .ok (.aload_n 0, 1) := by decide +kernel
theorem dX12_findsPair_126 : decode cX12_findsPair 126 = .ok (.iload_n 2, 1) := by decide +kernel
theorem dX12_findsPair_127 : decode cX12_findsPair 127 = .ok (.invokevirtual 361, 3) := by decide +kernel
theorem dX12_findsPair_130 : decode cX12_findsPair 130 = .ok (.istore_n 3, 1) := by decide +kernel
theorem dX12_findsPair_131 : decode cX12_findsPair 131 = .ok (.iconst 0, 1) := by decide +kernel
theorem dX12_findsPair_132 : decode cX12_findsPair 132 = .ok (.istore 4, 2) := by decide +kernel
theorem dX12_findsPair_134 : decode cX12_findsPair 134 = .ok (.iload 4, 2) := by decide +kernel
theorem dX12_findsPair_136 : decode cX12_findsPair 136 = .ok (.iload_n 3, 1) := by decide +kernel
theorem dX12_findsPair_137 : decode cX12_findsPair 137 = .ok (.if_icmp .ge 21, 3) := by decide +kernel
theorem dX12_findsPair_140 : decode cX12_findsPair 140 = .ok (.aload_n 0, 1) := by decide +kernel
theorem dX12_findsPair_141 : decode cX12_findsPair 141 = .ok (.iload_n 2, 1) := by decide +kernel
theorem dX12_findsPair_142 : decode cX12_findsPair 142 = .ok (.iload 4, 2) := by decide +kernel
theorem dX12_findsPair_144 : decode cX12_findsPair 144 = .ok (.invokevirtual 395, 3) := by decide +kernel
theorem dX12_findsPair_147 : decode cX12_findsPair 147 = .ok (.ifCond .eq 5, 3) := by decide +kernel
theorem dX12_findsPair_150 : decode cX12_findsPair 150 = .ok (.iconst 1, 1) := by decide +kernel
theorem dX12_findsPair_151 : decode cX12_findsPair 151 = .ok (.ireturn, 1) := by decide +kernel
theorem dX12_findsPair_152 : decode cX12_findsPair 152 = .ok (.iinc 4 1, 3) := by decide +kernel
theorem dX12_findsPair_155 : decode cX12_findsPair 155 = .ok (.goto (-21), 3) := by decide +kernel
theorem dX12_findsPair_158 : decode cX12_findsPair 158 = .ok (.iinc 2 1, 3) := by decide +kernel
theorem dX12_findsPair_161 : decode cX12_findsPair 161 = .ok (.goto (-55), 3) := by decide +kernel
theorem dX12_findsPair_164 : decode cX12_findsPair 164 = .ok (.iconst 0, 1) := by decide +kernel
theorem dX12_findsPair_165 : decode cX12_findsPair 165 = .ok (.ireturn, 1) := by decide +kernel
theorem dX12_findsOther_0 : decode cX12_findsOther 0 = .ok (.iload_n 1, 1) := by decide +kernel
theorem dX12_findsOther_1 : decode cX12_findsOther 1 = .ok (.iconst 1, 1) := by decide +kernel
theorem dX12_findsOther_2 : decode cX12_findsOther 2 = .ok (.iadd, 1) := by decide +kernel
theorem dX12_findsOther_3 : decode cX12_findsOther 3 = .ok (.istore_n 3, 1) := by decide +kernel
theorem dX12_findsOther_4 : decode cX12_findsOther 4 = .ok (.iload_n 3, 1) := by decide +kernel
theorem dX12_findsOther_5 : decode cX12_findsOther 5 = .ok (.aload_n 0, 1) := by decide +kernel
theorem dX12_findsOther_6 : decode cX12_findsOther 6 = .ok (.getfield 13, 3) := by decide +kernel
theorem dX12_findsOther_9 : decode cX12_findsOther 9 = .ok (.iconst 0, 1) := by decide +kernel
theorem dX12_findsOther_10 : decode cX12_findsOther 10 = .ok (.iaload, 1) := by decide +kernel
theorem dX12_findsOther_11 : decode cX12_findsOther 11 = .ok (.if_icmp .ge 33, 3) := by decide +kernel
theorem dX12_findsOther_14 : decode cX12_findsOther 14 = .ok (.aload_n 0, 1) := by decide +kernel
theorem dX12_findsOther_15 : decode cX12_findsOther 15 = .ok (.getfield 109, 3) := by decide +kernel
theorem dX12_findsOther_18 : decode cX12_findsOther 18 = .ok (.iload_n 3, 1) := by decide +kernel
theorem dX12_findsOther_19 : decode cX12_findsOther 19 = .ok (.aload_n 0, 1) := by decide +kernel
theorem dX12_findsOther_20 : decode cX12_findsOther 20 = .ok (.getfield 102, 3) := by decide +kernel
theorem dX12_findsOther_23 : decode cX12_findsOther 23 = .ok (.iload_n 3, 1) := by decide +kernel
theorem dX12_findsOther_24 : decode cX12_findsOther 24 = .ok (.baload, 1) := by decide +kernel
theorem dX12_findsOther_25 : decode cX12_findsOther 25 = .ok (.ifCond .eq 11, 3) := by decide +kernel
theorem dX12_findsOther_28 : decode cX12_findsOther 28 = .ok (.aload_n 0, 1) := by decide +kernel
theorem dX12_findsOther_29 : decode cX12_findsOther 29 = .ok (.iload_n 3, 1) := by decide +kernel
theorem dX12_findsOther_30 : decode cX12_findsOther 30 = .ok (.invokevirtual 361, 3) := by decide +kernel
theorem dX12_findsOther_33 : decode cX12_findsOther 33 = .ok (.goto 4, 3) := by decide +kernel
theorem dX12_findsOther_36 : decode cX12_findsOther 36 = .ok (.iconst 0, 1) := by decide +kernel
theorem dX12_findsOther_37 : decode cX12_findsOther 37 = .ok (.iastore, 1) := by decide +kernel
theorem dX12_findsOther_38 : decode cX12_findsOther 38 = .ok (.iinc 3 1, 3) := by decide +kernel
theorem dX12_findsOther_41 : decode cX12_findsOther 41 = .ok (.goto (-37), 3) := by decide +kernel
theorem dX12_findsOther_44 : decode cX12_findsOther 44 = .ok (.iload_n 1, 1) := by decide +kernel
theorem dX12_findsOther_45 : decode cX12_findsOther 45 = .ok (.iconst 1, 1) := by decide +kernel
theorem dX12_findsOther_46 : decode cX12_findsOther 46 = .ok (.iadd, 1) := by decide +kernel
theorem dX12_findsOther_47 : decode cX12_findsOther 47 = .ok (.istore_n 3, 1) := by decide +kernel
theorem dX12_findsOther_48 : decode cX12_findsOther 48 = .ok (.iload_n 3, 1) := by decide +kernel
theorem dX12_findsOther_49 : decode cX12_findsOther 49 = .ok (.aload_n 0, 1) := by decide +kernel
theorem dX12_findsOther_50 : decode cX12_findsOther 50 = .ok (.getfield 13, 3) := by decide +kernel
theorem dX12_findsOther_53 : decode cX12_findsOther 53 = .ok (.iconst 0, 1) := by decide +kernel
theorem dX12_findsOther_54 : decode cX12_findsOther 54 = .ok (.iaload, 1) := by decide +kernel
theorem dX12_findsOther_55 : decode cX12_findsOther 55 = .ok (.if_icmp .ge 154, 3) := by decide +kernel
theorem dX12_findsOther_58 : decode cX12_findsOther 58 = .ok (.iconst 0, 1) := by decide +kernel
theorem dX12_findsOther_59 : decode cX12_findsOther 59 = .ok (.istore 4, 2) := by decide +kernel
theorem dX12_findsOther_61 : decode cX12_findsOther 61 = .ok (.iload 4, 2) := by decide +kernel
theorem dX12_findsOther_63 : decode cX12_findsOther 63 = .ok (.aload_n 0, 1) := by decide +kernel
theorem dX12_findsOther_64 : decode cX12_findsOther 64 = .ok (.getfield 109, 3) := by decide +kernel
theorem dX12_findsOther_67 : decode cX12_findsOther 67 = .ok (.iload_n 3, 1) := by decide +kernel
theorem dX12_findsOther_68 : decode cX12_findsOther 68 = .ok (.iaload, 1) := by decide +kernel
theorem dX12_findsOther_69 : decode cX12_findsOther 69 = .ok (.if_icmp .ge 134, 3) := by decide +kernel
theorem dX12_findsOther_72 : decode cX12_findsOther 72 = .ok (.aload_n 0, 1) := by decide +kernel
theorem dX12_findsOther_73 : decode cX12_findsOther 73 = .ok (.iload_n 3, 1) := by decide +kernel
theorem dX12_findsOther_74 : decode cX12_findsOther 74 = .ok (.iload 4, 2) := by decide +kernel
theorem dX12_findsOther_76 : decode cX12_findsOther 76 = .ok (.invokevirtual 358, 3) := by decide +kernel
theorem dX12_findsOther_79 : decode cX12_findsOther 79 = .ok (.istore 5, 2) := by decide +kernel
theorem dX12_findsOther_81 : decode cX12_findsOther 81 = .ok (.aload_n 0, 1) := by decide +kernel
theorem dX12_findsOther_82 : decode cX12_findsOther 82 = .ok (.getfield 345, 3) := by decide +kernel
theorem dX12_findsOther_85 : decode cX12_findsOther 85 = .ok (.istore 6, 2) := by decide +kernel
theorem dX12_findsOther_87 : decode cX12_findsOther 87 = .ok (.aload_n 0, 1) := by decide +kernel
theorem dX12_findsOther_88 : decode cX12_findsOther 88 = .ok (.getfield 348, 3) := by decide +kernel
theorem dX12_findsOther_91 : decode cX12_findsOther 91 = .ok (.istore 7, 2) := by decide +kernel
theorem dX12_findsOther_93 : decode cX12_findsOther 93 = .ok (.aload_n 0, 1) := by decide +kernel
theorem dX12_findsOther_94 : decode cX12_findsOther 94 = .ok (.iload_n 1, 1) := by decide +kernel
theorem dX12_findsOther_95 : decode cX12_findsOther 95 = .ok (.iload_n 2, 1) := by decide +kernel
theorem dX12_findsOther_96 : decode cX12_findsOther 96 = .ok (.invokevirtual 358, 3) := by decide +kernel
theorem dX12_findsOther_99 : decode cX12_findsOther 99 = .ok (.istore 5, 2) := by decide +kernel
theorem dX12_findsOther_101 : decode cX12_findsOther 101 = .ok (.aload_n 0, 1) := by decide +kernel
theorem dX12_findsOther_102 : decode cX12_findsOther 102 = .ok (.iconst 0, 1) := by decide +kernel
theorem dX12_findsOther_103 : decode cX12_findsOther 103 = .ok (.iload_n 1, 1) := by decide +kernel
theorem dX12_findsOther_104 : decode cX12_findsOther 104 = .ok (.aload_n 0, 1) := by decide +kernel
theorem dX12_findsOther_105 : decode cX12_findsOther 105 = .ok (.getfield 345, 3) := by decide +kernel
theorem dX12_findsOther_108 : decode cX12_findsOther 108 = .ok (.aload_n 0, 1) := by decide +kernel
theorem dX12_findsOther_109 : decode cX12_findsOther 109 = .ok (.getfield 348, 3) := by decide +kernel
theorem dX12_findsOther_112 : decode cX12_findsOther 112 = .ok (.invokevirtual 367, 3) := by decide +kernel
theorem dX12_findsOther_115 : decode cX12_findsOther 115 = .ok (.aload_n 0, 1) := by decide +kernel
theorem dX12_findsOther_116 : decode cX12_findsOther 116 = .ok (.iconst 1, 1) := by decide +kernel
theorem dX12_findsOther_117 : decode cX12_findsOther 117 = .ok (.iload_n 3, 1) := by decide +kernel
theorem dX12_findsOther_118 : decode cX12_findsOther 118 = .ok (.iload 6, 2) := by decide +kernel
theorem dX12_findsOther_120 : decode cX12_findsOther 120 = .ok (.iload 7, 2) := by decide +kernel
theorem dX12_findsOther_122 : decode cX12_findsOther 122 = .ok (.invokevirtual 367, 3) := by decide +kernel
theorem dX12_findsOther_125 : decode cX12_findsOther 125 = .ok (.aload_n 0, 1) := by decide +kernel
theorem dX12_findsOther_126 : decode cX12_findsOther 126 = .ok (.invokevirtual 364, 3) := by decide +kernel
theorem dX12_findsOther_129 : decode cX12_findsOther 129 = .ok (.istore 8, 2) := by decide +kernel
theorem dX12_findsOther_131 : decode cX12_findsOther 131 = .ok (.aload_n 0, 1) := by decide +kernel
theorem dX12_findsOther_132 : decode cX12_findsOther 132 = .ok (.getfield 106, 3) := by decide +kernel
theorem dX12_findsOther_135 : decode cX12_findsOther 135 = .ok (.iconst 4, 1) := by decide +kernel
theorem dX12_findsOther_136 : decode cX12_findsOther 136 = .ok (.iload 8, 2) := by decide +kernel
theorem dX12_findsOther_138 : decode cX12_findsOther 138 = .ok (.ifCond .eq 11, 3) := by decide +kernel
theorem dX12_findsOther_141 : decode cX12_findsOther 141 = .ok (.aload_n 0, 1) := by decide +kernel
theorem dX12_findsOther_142 : decode cX12_findsOther 142 = .ok (.iconst 1, 1) := by decide +kernel
theorem dX12_findsOther_143 : decode cX12_findsOther 143 = .ok (.invokevirtual 370, 3) := by decide +kernel
theorem dX12_findsOther_146 : decode cX12_findsOther 146 = .ok (.goto 4, 3) := by decide +kernel
theorem dX12_findsOther_149 : decode cX12_findsOther 149 = .ok (.iconst 0, 1) := by decide +kernel
theorem dX12_findsOther_150 : decode cX12_findsOther 150 = .ok (.iastore, 1) := by decide +kernel
theorem dX12_findsOther_151 : decode cX12_findsOther 151 = .ok (.aload_n 0, 1) := by decide +kernel
theorem dX12_findsOther_152 : decode cX12_findsOther 152 = .ok (.iconst 1, 1) := by decide +kernel
theorem dX12_findsOther_153 : decode cX12_findsOther 153 = .ok (.invokevirtual 374, 3) := by decide +kernel
theorem dX12_findsOther_156 : decode cX12_findsOther 156 = .ok (.aload_n 0, 1) := by decide +kernel
theorem dX12_findsOther_157 : decode cX12_findsOther 157 = .ok (.iconst 0, 1) := by decide +kernel
theorem dX12_findsOther_158 : decode cX12_findsOther 158 = .ok (.invokevirtual 374, 3) := by decide +kernel
theorem dX12_findsOther_161 : decode cX12_findsOther 161 = .ok (.iload 8, 2) := by decide +kernel
theorem dX12_findsOther_163 : decode cX12_findsOther 163 = .ok (.ifCond .eq 34, 3) := by decide +kernel
theorem dX12_findsOther_166 : decode cX12_findsOther 166 = .ok (.aload_n 0, 1) := by decide +kernel
theorem dX12_findsOther_167 : decode cX12_findsOther 167 = .ok (.getfield 106, 3) := by decide +kernel
theorem dX12_findsOther_170 : decode cX12_findsOther 170 = .ok (.iconst 0, 1) := by decide +kernel
theorem dX12_findsOther_171 : decode cX12_findsOther 171 = .ok (.iload_n 1, 1) := by decide +kernel
theorem dX12_findsOther_172 : decode cX12_findsOther 172 = .ok (.iastore, 1) := by decide +kernel
theorem dX12_findsOther_173 : decode cX12_findsOther 173 = .ok (.aload_n 0, 1) := by decide +kernel
theorem dX12_findsOther_174 : decode cX12_findsOther 174 = .ok (.getfield 106, 3) := by decide +kernel
theorem dX12_findsOther_177 : decode cX12_findsOther 177 = .ok (.iconst 1, 1) := by decide +kernel
theorem dX12_findsOther_178 : decode cX12_findsOther 178 = .ok (.iload_n 2, 1) := by decide +kernel
theorem dX12_findsOther_179 : decode cX12_findsOther 179 = .ok (.iastore, 1) := by decide +kernel
theorem dX12_findsOther_180 : decode cX12_findsOther 180 = .ok (.aload_n 0, 1) := by decide +kernel
theorem dX12_findsOther_181 : decode cX12_findsOther 181 = .ok (.getfield 106, 3) := by decide +kernel
theorem dX12_findsOther_184 : decode cX12_findsOther 184 = .ok (.iconst 2, 1) := by decide +kernel
theorem dX12_findsOther_185 : decode cX12_findsOther 185 = .ok (.iload_n 3, 1) := by decide +kernel
theorem dX12_findsOther_186 : decode cX12_findsOther 186 = .ok (.iastore, 1) := by decide +kernel
theorem dX12_findsOther_187 : decode cX12_findsOther 187 = .ok (.aload_n 0, 1) := by decide +kernel
theorem dX12_findsOther_188 : decode cX12_findsOther 188 = .ok (.getfield 106, 3) := by decide +kernel
theorem dX12_findsOther_191 : decode cX12_findsOther 191 = .ok (.iconst 3, 1) := by decide +kernel
theorem dX12_findsOther_192 : decode cX12_findsOther 192 = .ok (.iload 4, 2) := by decide +kernel
theorem dX12_findsOther_194 : decode cX12_findsOther 194 = .ok (.iastore, 1) := by decide +kernel
theorem dX12_findsOther_195 : decode cX12_findsOther 195 = .ok (.iconst 1, 1) := by decide +kernel
theorem dX12_findsOther_196 : decode cX12_findsOther 196 = .ok (.ireturn, 1) := by decide +kernel
theorem dX12_findsOther_197 : decode cX12_findsOther 197 = .ok (.iinc 4 1, 3) := by decide +kernel
theorem dX12_findsOther_200 : decode cX12_findsOther 200 = .ok (.goto (-139), 3) := by decide +kernel
theorem dX12_findsOther_203 : decode cX12_findsOther 203 = .ok (.iinc 3 1, 3) := by decide +kernel
theorem dX12_findsOther_206 : decode cX12_findsOther 206 = .ok (.goto (-158), 3) := by decide +kernel
theorem dX12_findsOther_209 : decode cX12_findsOther 209 = .ok (.iconst 0, 1) := by decide +kernel
theorem dX12_findsOther_210 : decode cX12_findsOther 210 = .ok (.ireturn, 1) := by decide +kernel
theorem dX12_pair_0 : decode cX12_pair 0 = .ok (.aload_n 0, 1) := by decide +kernel
theorem dX12_pair_1 : decode cX12_pair 1 = .ok (.iconst 0, 1) := by decide +kernel
theorem dX12_pair_2 : decode cX12_pair 2 = .ok (.putfield 121, 3) := by decide +kernel
theorem dX12_pair_5 : decode cX12_pair 5 = .ok (.iload_n 1, 1) := by decide +kernel
theorem dX12_pair_6 : decode cX12_pair 6 = .ok (.iconst 0, 1) := by decide +kernel
theorem dX12_pair_7 : decode cX12_pair 7 = .ok (.iconst 4, 1) := by decide +kernel
theorem dX12_pair_8 : decode cX12_pair 8 = .ok (.invokestatic 147, 3) := by decide +kernel
theorem dX12_pair_11 : decode cX12_pair 11 = .ok (.ifCond .ne 5, 3) := by decide +kernel
theorem dX12_pair_14 : decode cX12_pair 14 = .ok (.iconst (-1), 1) := by decide +kernel
theorem dX12_pair_15 : decode cX12_pair 15 = .ok (.ireturn, 1) := by decide +kernel
theorem dX12_pair_16 : decode cX12_pair 16 = .ok (.aload_n 0, 1) := by decide +kernel
theorem dX12_pair_17 : decode cX12_pair 17 = .ok (.invokevirtual 398, 3) := by decide +kernel
theorem dX12_pair_20 : decode cX12_pair 20 = .ok (.ifCond .eq 12, 3) := by decide +kernel
theorem dX12_pair_23 : decode cX12_pair 23 = .ok (.aload_n 0, 1) := by decide +kernel
theorem dX12_pair_24 : decode cX12_pair 24 = .ok (.getfield 106, 3) := by decide +kernel
theorem dX12_pair_27 : decode cX12_pair 27 = .ok (.iload_n 1, 1) := by decide +kernel
theorem dX12_pair_28 : decode cX12_pair 28 = .ok (.iaload, 1) := by decide +kernel
theorem dX12_pair_29 : decode cX12_pair 29 = .ok (.goto 5, 3) := by decide +kernel
theorem dX12_pair_32 : decode cX12_pair 32 = .ok (.bipush (-2), 2) := by decide +kernel
theorem dX12_pair_34 : decode cX12_pair 34 = .ok (.ireturn, 1) := by decide +kernel
theorem dX12_values_0 : decode cX12_values 0 = .ok (.aload_n 0, 1) := by decide +kernel
theorem dX12_values_1 : decode cX12_values 1 = .ok (.iconst 0, 1) := by decide +kernel
theorem dX12_values_2 : decode cX12_values 2 = .ok (.putfield 121, 3) := by decide +kernel
theorem dX12_values_5 : decode cX12_values 5 = .ok (.aload_n 0, 1) := by decide +kernel
theorem dX12_values_6 : decode cX12_values 6 = .ok (.iload_n 1, 1) := by decide +kernel
theorem dX12_values_7 : decode cX12_values 7 = .ok (.invokevirtual 305, 3) := by decide +kernel
theorem dX12_values_10 : decode cX12_values 10 = .ok (.ifCond .eq 30, 3) := by decide +kernel
theorem dX12_values_13 : decode cX12_values 13 = .ok (.aload_n 0, 1) := by decide +kernel
theorem dX12_values_14 : decode cX12_values 14 = .ok (.getfield 17, 3) := by decide +kernel
theorem dX12_values_17 : decode cX12_values 17 = .ok (.iload_n 1, 1) := by decide +kernel
theorem dX12_values_18 : decode cX12_values 18 = .ok (.iaload, 1) := by decide +kernel
theorem dX12_values_19 : decode cX12_values 19 = .ok (.iconst 4, 1) := by decide +kernel
theorem dX12_values_20 : decode cX12_values 20 = .ok (.if_icmp .ne 20, 3) := by decide +kernel
theorem dX12_values_23 : decode cX12_values 23 = .ok (.aload_n 0, 1) := by decide +kernel
theorem dX12_values_24 : decode cX12_values 24 = .ok (.iload_n 1, 1) := by decide +kernel
theorem dX12_values_25 : decode cX12_values 25 = .ok (.invokevirtual 314, 3) := by decide +kernel
theorem dX12_values_28 : decode cX12_values 28 = .ok (.ifCond .ne 12, 3) := by decide +kernel
theorem dX12_values_31 : decode cX12_values 31 = .ok (.iload_n 2, 1) := by decide +kernel
theorem dX12_values_32 : decode cX12_values 32 = .ok (.iconst 0, 1) := by decide +kernel
theorem dX12_values_33 : decode cX12_values 33 = .ok (.iconst 3, 1) := by decide +kernel
theorem dX12_values_34 : decode cX12_values 34 = .ok (.invokestatic 147, 3) := by decide +kernel
theorem dX12_values_37 : decode cX12_values 37 = .ok (.ifCond .ne 7, 3) := by decide +kernel
theorem dX12_values_40 : decode cX12_values 40 = .ok (.sipush (-200), 3) := by decide +kernel
theorem dX12_values_43 : decode cX12_values 43 = .ok (.ireturn, 1) := by decide +kernel
theorem dX12_values_44 : decode cX12_values 44 = .ok (.aload_n 0, 1) := by decide +kernel
theorem dX12_values_45 : decode cX12_values 45 = .ok (.getfield 20, 3) := by decide +kernel
theorem dX12_values_48 : decode cX12_values 48 = .ok (.iload_n 1, 1) := by decide +kernel
theorem dX12_values_49 : decode cX12_values 49 = .ok (.iaload, 1) := by decide +kernel
theorem dX12_values_50 : decode cX12_values 50 = .ok (.istore_n 3, 1) := by decide +kernel
theorem dX12_values_51 : decode cX12_values 51 = .ok (.iconst 0, 1) := by decide +kernel
theorem dX12_values_52 : decode cX12_values 52 = .ok (.istore 4, 2) := by decide +kernel
theorem dX12_values_54 : decode cX12_values 54 = .ok (.sipush (-200), 3) := by decide +kernel
theorem dX12_values_57 : decode cX12_values 57 = .ok (.istore 5, 2) := by decide +kernel
theorem dX12_values_59 : decode cX12_values 59 = .ok (.sipush (-200), 3) := by decide +kernel
theorem dX12_values_62 : decode cX12_values 62 = .ok (.istore 6, 2) := by decide +kernel
theorem dX12_values_64 : decode cX12_values 64 = .ok (.sipush (-200), 3) := by decide +kernel
theorem dX12_values_67 : decode cX12_values 67 = .ok (.istore 7, 2) := by decide +kernel
theorem dX12_values_69 : decode cX12_values 69 = .ok (.bipush (-99), 2) := by decide +kernel
theorem dX12_values_71 : decode cX12_values 71 = .ok (.istore 8, 2) := by decide +kernel
theorem dX12_values_73 : decode cX12_values 73 = .ok (.iload 8, 2) := by decide +kernel
theorem dX12_values_75 : decode cX12_values 75 = .ok (.bipush 99, 2) := by decide +kernel
theorem dX12_values_77 : decode cX12_values 77 = .ok (.if_icmp .gt 91, 3) := by decide +kernel
theorem dX12_values_80 : decode cX12_values 80 = .ok (.aload_n 0, 1) := by decide +kernel
theorem dX12_values_81 : decode cX12_values 81 = .ok (.iconst 0, 1) := by decide +kernel
theorem dX12_values_82 : decode cX12_values 82 = .ok (.iload_n 1, 1) := by decide +kernel
theorem dX12_values_83 : decode cX12_values 83 = .ok (.iload 8, 2) := by decide +kernel
theorem dX12_values_85 : decode cX12_values 85 = .ok (.aload_n 0, 1) := by decide +kernel
theorem dX12_values_86 : decode cX12_values 86 = .ok (.getfield 41, 3) := by decide +kernel
theorem dX12_values_89 : decode cX12_values 89 = .ok (.iload_n 1, 1) := by decide +kernel
theorem dX12_values_90 : decode cX12_values 90 = .ok (.iaload, 1) := by decide +kernel
theorem dX12_values_91 : decode cX12_values 91 = .ok (.invokevirtual 367, 3) := by decide +kernel
theorem dX12_values_94 : decode cX12_values 94 = .ok (.aload_n 0, 1) := by decide +kernel
theorem dX12_values_95 : decode cX12_values 95 = .ok (.invokevirtual 364, 3) := by decide +kernel
theorem dX12_values_98 : decode cX12_values 98 = .ok (.istore 9, 2) := by decide +kernel
theorem dX12_values_100 : decode cX12_values 100 = .ok (.aload_n 0, 1) := by decide +kernel
theorem dX12_values_101 : decode cX12_values 101 = .ok (.iconst 0, 1) := by decide +kernel
theorem dX12_values_102 : decode cX12_values 102 = .ok (.invokevirtual 374, 3) := by decide +kernel
theorem dX12_values_105 : decode cX12_values 105 = .ok (.iload 9, 2) := by decide +kernel
theorem dX12_values_107 : decode cX12_values 107 = .ok (.ifCond .eq 55, 3) := by decide +kernel
theorem dX12_values_110 : decode cX12_values 110 = .ok (.iload 4, 2) := by decide +kernel
theorem dX12_values_112 : decode cX12_values 112 = .ok (.ifCond .eq 20, 3) := by decide +kernel
theorem dX12_values_115 : decode cX12_values 115 = .ok (.iload 8, 2) := by decide +kernel
theorem dX12_values_117 : decode cX12_values 117 = .ok (.iload_n 3, 1) := by decide +kernel
theorem dX12_values_118 : decode cX12_values 118 = .ok (.isub, 1) := by decide +kernel
theorem dX12_values_119 : decode cX12_values 119 = .ok (.invokestatic 401, 3) := by decide +kernel
theorem dX12_values_122 : decode cX12_values 122 = .ok (.iload 7, 2) := by decide +kernel
theorem dX12_values_124 : decode cX12_values 124 = .ok (.iload_n 3, 1) := by decide +kernel
theorem dX12_values_125 : decode cX12_values 125 = .ok (.isub, 1) := by decide +kernel
theorem dX12_values_126 : decode cX12_values 126 = .ok (.invokestatic 401, 3) := by decide +kernel
theorem dX12_values_129 : decode cX12_values 129 = .ok (.if_icmp .ge 8, 3) := by decide +kernel
theorem dX12_values_132 : decode cX12_values 132 = .ok (.iload 8, 2) := by decide +kernel
theorem dX12_values_134 : decode cX12_values 134 = .ok (.goto 5, 3) := by decide +kernel
theorem dX12_values_137 : decode cX12_values 137 = .ok (.iload 7, 2) := by decide +kernel
theorem dX12_values_139 : decode cX12_values 139 = .ok (.istore 7, 2) := by decide +kernel
theorem dX12_values_141 : decode cX12_values 141 = .ok (.iload 4, 2) := by decide +kernel
theorem dX12_values_143 : decode cX12_values 143 = .ok (.ifCond .ne 8, 3) := by decide +kernel
theorem dX12_values_146 : decode cX12_values 146 = .ok (.iload 8, 2) := by decide +kernel
theorem dX12_values_148 : decode cX12_values 148 = .ok (.goto 5, 3) := by decide +kernel
theorem dX12_values_151 : decode cX12_values 151 = .ok (.iload 5, 2) := by decide +kernel
theorem dX12_values_153 : decode cX12_values 153 = .ok (.istore 5, 2) := by decide +kernel
theorem dX12_values_155 : decode cX12_values 155 = .ok (.iload 8, 2) := by decide +kernel
theorem dX12_values_157 : decode cX12_values 157 = .ok (.istore 6, 2) := by decide +kernel
theorem dX12_values_159 : decode cX12_values 159 = .ok (.iinc 4 1, 3) := by decide +kernel
theorem dX12_values_162 : decode cX12_values 162 = .ok (.iinc 8 1, 3) := by decide +kernel
theorem dX12_values_165 : decode cX12_values 165 = .ok (.goto (-92), 3) := by decide +kernel
theorem dX12_values_168 : decode cX12_values 168 = .ok (.iload_n 2, 1) := by decide +kernel
theorem dX12_values_169 : decode cX12_values 169 = .ok (.ifCond .ne 8, 3) := by decide +kernel
theorem dX12_values_172 : decode cX12_values 172 = .ok (.iload 4, 2) := by decide +kernel
theorem dX12_values_174 : decode cX12_values 174 = .ok (.goto 25, 3) := by decide +kernel
theorem dX12_values_177 : decode cX12_values 177 = .ok (.iload_n 2, 1) := by decide +kernel
theorem dX12_values_178 : decode cX12_values 178 = .ok (.iconst 1, 1) := by decide +kernel
theorem dX12_values_179 : decode cX12_values 179 = .ok (.if_icmp .ne 8, 3) := by decide +kernel
theorem dX12_values_182 : decode cX12_values 182 = .ok (.iload 5, 2) := by decide +kernel
theorem dX12_values_184 : decode cX12_values 184 = .ok (.goto 15, 3) := by decide +kernel
theorem dX12_values_187 : decode cX12_values 187 = .ok (.iload_n 2, 1) := by decide +kernel
theorem dX12_values_188 : decode cX12_values 188 = .ok (.iconst 2, 1) := by decide +kernel
theorem dX12_values_189 : decode cX12_values 189 = .ok (.if_icmp .ne 8, 3) := by decide +kernel
theorem dX12_values_192 : decode cX12_values 192 = .ok (.iload 6, 2) := by decide +kernel
theorem dX12_values_194 : decode cX12_values 194 = .ok (.goto 5, 3) := by decide +kernel
theorem dX12_values_197 : decode cX12_values 197 = .ok (.iload 7, 2) := by decide +kernel
theorem dX12_values_199 : decode cX12_values 199 = .ok (.ireturn, 1) := by decide +kernel
theorem dX12_forced_0 : decode cX12_forced 0 = .ok (.aload_n 0, 1) := by decide +kernel
theorem dX12_forced_1 : decode cX12_forced 1 = .ok (.iconst 0, 1) := by decide +kernel
theorem dX12_forced_2 : decode cX12_forced 2 = .ok (.putfield 121, 3) := by decide +kernel
theorem dX12_forced_5 : decode cX12_forced 5 = .ok (.aload_n 0, 1) := by decide +kernel
theorem dX12_forced_6 : decode cX12_forced 6 = .ok (.iload_n 1, 1) := by decide +kernel
theorem dX12_forced_7 : decode cX12_forced 7 = .ok (.invokevirtual 305, 3) := by decide +kernel
theorem dX12_forced_10 : decode cX12_forced 10 = .ok (.ifCond .eq 31, 3) := by decide +kernel
theorem dX12_forced_13 : decode cX12_forced 13 = .ok (.aload_n 0, 1) := by decide +kernel
theorem dX12_forced_14 : decode cX12_forced 14 = .ok (.getfield 17, 3) := by decide +kernel
theorem dX12_forced_17 : decode cX12_forced 17 = .ok (.iload_n 1, 1) := by decide +kernel
theorem dX12_forced_18 : decode cX12_forced 18 = .ok (.iaload, 1) := by decide +kernel
theorem dX12_forced_19 : decode cX12_forced 19 = .ok (.iconst 1, 1) := by decide +kernel
theorem dX12_forced_20 : decode cX12_forced 20 = .ok (.if_icmp .eq 13, 3) := by decide +kernel
theorem dX12_forced_23 : decode cX12_forced 23 = .ok (.aload_n 0, 1) := by decide +kernel
theorem dX12_forced_24 : decode cX12_forced 24 = .ok (.getfield 17, 3) := by decide +kernel
theorem dX12_forced_27 : decode cX12_forced 27 = .ok (.iload_n 1, 1) := by decide +kernel
theorem dX12_forced_28 : decode cX12_forced 28 = .ok (.iaload, 1) := by decide +kernel
theorem dX12_forced_29 : decode cX12_forced 29 = .ok (.iconst 2, 1) := by decide +kernel
theorem dX12_forced_30 : decode cX12_forced 30 = .ok (.if_icmp .ne 11, 3) := by decide +kernel
theorem dX12_forced_33 : decode cX12_forced 33 = .ok (.aload_n 0, 1) := by decide +kernel
theorem dX12_forced_34 : decode cX12_forced 34 = .ok (.iload_n 1, 1) := by decide +kernel
theorem dX12_forced_35 : decode cX12_forced 35 = .ok (.invokevirtual 314, 3) := by decide +kernel
theorem dX12_forced_38 : decode cX12_forced 38 = .ok (.ifCond .eq 5, 3) := by decide +kernel
theorem dX12_forced_41 : decode cX12_forced 41 = .ok (.iconst (-1), 1) := by decide +kernel
theorem dX12_forced_42 : decode cX12_forced 42 = .ok (.ireturn, 1) := by decide +kernel
theorem dX12_forced_43 : decode cX12_forced 43 = .ok (.aload_n 0, 1) := by decide +kernel
theorem dX12_forced_44 : decode cX12_forced 44 = .ok (.iload_n 1, 1) := by decide +kernel
theorem dX12_forced_45 : decode cX12_forced 45 = .ok (.putfield 63, 3) := by decide +kernel
theorem dX12_forced_48 : decode cX12_forced 48 = .ok (.aload_n 0, 1) := by decide +kernel
theorem dX12_forced_49 : decode cX12_forced 49 = .ok (.iload_n 2, 1) := by decide +kernel
theorem dX12_forced_50 : decode cX12_forced 50 = .ok (.putfield 271, 3) := by decide +kernel
theorem dX12_forced_53 : decode cX12_forced 53 = .ok (.aload_n 0, 1) := by decide +kernel
theorem dX12_forced_54 : decode cX12_forced 54 = .ok (.iconst 0, 1) := by decide +kernel
theorem dX12_forced_55 : decode cX12_forced 55 = .ok (.invokevirtual 370, 3) := by decide +kernel
theorem dX12_forced_58 : decode cX12_forced 58 = .ok (.istore_n 3, 1) := by decide +kernel
theorem dX12_forced_59 : decode cX12_forced 59 = .ok (.aload_n 0, 1) := by decide +kernel
theorem dX12_forced_60 : decode cX12_forced 60 = .ok (.iconst (-1), 1) := by decide +kernel
theorem dX12_forced_61 : decode cX12_forced 61 = .ok (.putfield 63, 3) := by decide +kernel
theorem dX12_forced_64 : decode cX12_forced 64 = .ok (.iload_n 3, 1) := by decide +kernel
theorem dX12_forced_65 : decode cX12_forced 65 = .ok (.ireturn, 1) := by decide +kernel
theorem dX12_flip_0 : decode cX12_flip 0 = .ok (.aload_n 0, 1) := by decide +kernel
theorem dX12_flip_1 : decode cX12_flip 1 = .ok (.iconst 0, 1) := by decide +kernel
theorem dX12_flip_2 : decode cX12_flip 2 = .ok (.putfield 121, 3) := by decide +kernel
theorem dX12_flip_5 : decode cX12_flip 5 = .ok (.aload_n 0, 1) := by decide +kernel
theorem dX12_flip_6 : decode cX12_flip 6 = .ok (.invokevirtual 299, 3) := by decide +kernel
theorem dX12_flip_9 : decode cX12_flip 9 = .ok (.ifCond .eq 19, 3) := by decide +kernel
theorem dX12_flip_12 : decode cX12_flip 12 = .ok (.aload_n 0, 1) := by decide +kernel
theorem dX12_flip_13 : decode cX12_flip 13 = .ok (.iload_n 1, 1) := by decide +kernel
theorem dX12_flip_14 : decode cX12_flip 14 = .ok (.invokevirtual 249, 3) := by decide +kernel
theorem dX12_flip_17 : decode cX12_flip 17 = .ok (.ifCond .eq 11, 3) := by decide +kernel
theorem dX12_flip_20 : decode cX12_flip 20 = .ok (.aload_n 0, 1) := by decide +kernel
theorem dX12_flip_21 : decode cX12_flip 21 = .ok (.iload_n 1, 1) := by decide +kernel
theorem dX12_flip_22 : decode cX12_flip 22 = .ok (.invokevirtual 302, 3) := by decide +kernel
theorem dX12_flip_25 : decode cX12_flip 25 = .ok (.ifCond .eq 5, 3) := by decide +kernel
theorem dX12_flip_28 : decode cX12_flip 28 = .ok (.iconst (-1), 1) := by decide +kernel
theorem dX12_flip_29 : decode cX12_flip 29 = .ok (.ireturn, 1) := by decide +kernel
theorem dX12_flip_30 : decode cX12_flip 30 = .ok (.aload_n 0, 1) := by decide +kernel
theorem dX12_flip_31 : decode cX12_flip 31 = .ok (.getfield 274, 3) := by decide +kernel
theorem dX12_flip_34 : decode cX12_flip 34 = .ok (.istore_n 2, 1) := by decide +kernel
theorem dX12_flip_35 : decode cX12_flip 35 = .ok (.bipush (-2), 2) := by decide +kernel
theorem dX12_flip_37 : decode cX12_flip 37 = .ok (.istore_n 3, 1) := by decide +kernel
theorem dX12_flip_38 : decode cX12_flip 38 = .ok (.iconst 0, 1) := by decide +kernel
theorem dX12_flip_39 : decode cX12_flip 39 = .ok (.istore 4, 2) := by decide +kernel
theorem dX12_flip_41 : decode cX12_flip 41 = .ok (.iload 4, 2) := by decide +kernel
theorem dX12_flip_43 : decode cX12_flip 43 = .ok (.iload_n 2, 1) := by decide +kernel
theorem dX12_flip_44 : decode cX12_flip 44 = .ok (.if_icmp .ge 37, 3) := by decide +kernel
theorem dX12_flip_47 : decode cX12_flip 47 = .ok (.iload_n 3, 1) := by decide +kernel
theorem dX12_flip_48 : decode cX12_flip 48 = .ok (.bipush (-2), 2) := by decide +kernel
theorem dX12_flip_50 : decode cX12_flip 50 = .ok (.if_icmp .ne 31, 3) := by decide +kernel
theorem dX12_flip_53 : decode cX12_flip 53 = .ok (.aload_n 0, 1) := by decide +kernel
theorem dX12_flip_54 : decode cX12_flip 54 = .ok (.iload 4, 2) := by decide +kernel
theorem dX12_flip_56 : decode cX12_flip 56 = .ok (.putfield 59, 3) := by decide +kernel
theorem dX12_flip_59 : decode cX12_flip 59 = .ok (.aload_n 0, 1) := by decide +kernel
theorem dX12_flip_60 : decode cX12_flip 60 = .ok (.iload_n 1, 1) := by decide +kernel
theorem dX12_flip_61 : decode cX12_flip 61 = .ok (.invokevirtual 302, 3) := by decide +kernel
theorem dX12_flip_64 : decode cX12_flip 64 = .ok (.ifCond .eq 8, 3) := by decide +kernel
theorem dX12_flip_67 : decode cX12_flip 67 = .ok (.iload 4, 2) := by decide +kernel
theorem dX12_flip_69 : decode cX12_flip 69 = .ok (.goto 5, 3) := by decide +kernel
theorem dX12_flip_72 : decode cX12_flip 72 = .ok (.bipush (-2), 2) := by decide +kernel
theorem dX12_flip_74 : decode cX12_flip 74 = .ok (.istore_n 3, 1) := by decide +kernel
theorem dX12_flip_75 : decode cX12_flip 75 = .ok (.iinc 4 1, 3) := by decide +kernel
theorem dX12_flip_78 : decode cX12_flip 78 = .ok (.goto (-37), 3) := by decide +kernel
theorem dX12_flip_81 : decode cX12_flip 81 = .ok (.aload_n 0, 1) := by decide +kernel
theorem dX12_flip_82 : decode cX12_flip 82 = .ok (.iconst (-1), 1) := by decide +kernel
theorem dX12_flip_83 : decode cX12_flip 83 = .ok (.putfield 59, 3) := by decide +kernel
theorem dX12_flip_86 : decode cX12_flip 86 = .ok (.iload_n 3, 1) := by decide +kernel
theorem dX12_flip_87 : decode cX12_flip 87 = .ok (.ireturn, 1) := by decide +kernel
theorem dX12_take_0 : decode cX12_take 0 = .ok (.aload_n 0, 1) := by decide +kernel
theorem dX12_take_1 : decode cX12_take 1 = .ok (.iconst 0, 1) := by decide +kernel
theorem dX12_take_2 : decode cX12_take 2 = .ok (.putfield 121, 3) := by decide +kernel
theorem dX12_take_5 : decode cX12_take 5 = .ok (.aload_n 0, 1) := by decide +kernel
theorem dX12_take_6 : decode cX12_take 6 = .ok (.iload_n 1, 1) := by decide +kernel
theorem dX12_take_7 : decode cX12_take 7 = .ok (.invokevirtual 305, 3) := by decide +kernel
theorem dX12_take_10 : decode cX12_take 10 = .ok (.ifCond .eq 21, 3) := by decide +kernel
theorem dX12_take_13 : decode cX12_take 13 = .ok (.aload_n 0, 1) := by decide +kernel
theorem dX12_take_14 : decode cX12_take 14 = .ok (.getfield 238, 3) := by decide +kernel
theorem dX12_take_17 : decode cX12_take 17 = .ok (.bipush 20, 2) := by decide +kernel
theorem dX12_take_19 : decode cX12_take 19 = .ok (.if_icmp .eq 12, 3) := by decide +kernel
theorem dX12_take_22 : decode cX12_take 22 = .ok (.aload_n 0, 1) := by decide +kernel
theorem dX12_take_23 : decode cX12_take 23 = .ok (.iload_n 1, 1) := by decide +kernel
theorem dX12_take_24 : decode cX12_take 24 = .ok (.iload_n 2, 1) := by decide +kernel
theorem dX12_take_25 : decode cX12_take 25 = .ok (.invokevirtual 358, 3) := by decide +kernel
theorem dX12_take_28 : decode cX12_take 28 = .ok (.ifCond .ne 5, 3) := by decide +kernel
theorem dX12_take_31 : decode cX12_take 31 = .ok (.iconst (-1), 1) := by decide +kernel
theorem dX12_take_32 : decode cX12_take 32 = .ok (.ireturn, 1) := by decide +kernel
theorem dX12_take_33 : decode cX12_take 33 = .ok (.aload_n 0, 1) := by decide +kernel
theorem dX12_take_34 : decode cX12_take 34 = .ok (.getfield 112, 3) := by decide +kernel
theorem dX12_take_37 : decode cX12_take 37 = .ok (.aload_n 0, 1) := by decide +kernel
theorem dX12_take_38 : decode cX12_take 38 = .ok (.getfield 238, 3) := by decide +kernel
theorem dX12_take_41 : decode cX12_take 41 = .ok (.iload_n 1, 1) := by decide +kernel
theorem dX12_take_42 : decode cX12_take 42 = .ok (.iastore, 1) := by decide +kernel
theorem dX12_take_43 : decode cX12_take 43 = .ok (.aload_n 0, 1) := by decide +kernel
theorem dX12_take_44 : decode cX12_take 44 = .ok (.getfield 115, 3) := by decide +kernel
theorem dX12_take_47 : decode cX12_take 47 = .ok (.aload_n 0, 1) := by decide +kernel
theorem dX12_take_48 : decode cX12_take 48 = .ok (.getfield 238, 3) := by decide +kernel
theorem dX12_take_51 : decode cX12_take 51 = .ok (.aload_n 0, 1) := by decide +kernel
theorem dX12_take_52 : decode cX12_take 52 = .ok (.getfield 20, 3) := by decide +kernel
theorem dX12_take_55 : decode cX12_take 55 = .ok (.iload_n 1, 1) := by decide +kernel
theorem dX12_take_56 : decode cX12_take 56 = .ok (.iaload, 1) := by decide +kernel
theorem dX12_take_57 : decode cX12_take 57 = .ok (.iastore, 1) := by decide +kernel
theorem dX12_take_58 : decode cX12_take 58 = .ok (.aload_n 0, 1) := by decide +kernel
theorem dX12_take_59 : decode cX12_take 59 = .ok (.getfield 118, 3) := by decide +kernel
theorem dX12_take_62 : decode cX12_take 62 = .ok (.aload_n 0, 1) := by decide +kernel
theorem dX12_take_63 : decode cX12_take 63 = .ok (.getfield 238, 3) := by decide +kernel
theorem dX12_take_66 : decode cX12_take 66 = .ok (.aload_n 0, 1) := by decide +kernel
theorem dX12_take_67 : decode cX12_take 67 = .ok (.getfield 41, 3) := by decide +kernel
theorem dX12_take_70 : decode cX12_take 70 = .ok (.iload_n 1, 1) := by decide +kernel
theorem dX12_take_71 : decode cX12_take 71 = .ok (.iaload, 1) := by decide +kernel
theorem dX12_take_72 : decode cX12_take 72 = .ok (.iastore, 1) := by decide +kernel
theorem dX12_take_73 : decode cX12_take 73 = .ok (.aload_n 0, 1) := by decide +kernel
theorem dX12_take_74 : decode cX12_take 74 = .ok (.dup, 1) := by decide +kernel
theorem dX12_take_75 : decode cX12_take 75 = .ok (.getfield 238, 3) := by decide +kernel
theorem dX12_take_78 : decode cX12_take 78 = .ok (.iconst 1, 1) := by decide +kernel
theorem dX12_take_79 : decode cX12_take 79 = .ok (.iadd, 1) := by decide +kernel
theorem dX12_take_80 : decode cX12_take 80 = .ok (.putfield 238, 3) := by decide +kernel
theorem dX12_take_83 : decode cX12_take 83 = .ok (.aload_n 0, 1) := by decide +kernel
theorem dX12_take_84 : decode cX12_take 84 = .ok (.getfield 20, 3) := by decide +kernel
theorem dX12_take_87 : decode cX12_take 87 = .ok (.iload_n 1, 1) := by decide +kernel
theorem dX12_take_88 : decode cX12_take 88 = .ok (.aload_n 0, 1) := by decide +kernel
theorem dX12_take_89 : decode cX12_take 89 = .ok (.getfield 345, 3) := by decide +kernel
theorem dX12_take_92 : decode cX12_take 92 = .ok (.iastore, 1) := by decide +kernel
theorem dX12_take_93 : decode cX12_take 93 = .ok (.aload_n 0, 1) := by decide +kernel
theorem dX12_take_94 : decode cX12_take 94 = .ok (.getfield 41, 3) := by decide +kernel
theorem dX12_take_97 : decode cX12_take 97 = .ok (.iload_n 1, 1) := by decide +kernel
theorem dX12_take_98 : decode cX12_take 98 = .ok (.aload_n 0, 1) := by decide +kernel
theorem dX12_take_99 : decode cX12_take 99 = .ok (.getfield 348, 3) := by decide +kernel
theorem dX12_take_102 : decode cX12_take 102 = .ok (.iastore, 1) := by decide +kernel
theorem dX12_take_103 : decode cX12_take 103 = .ok (.aload_n 0, 1) := by decide +kernel
theorem dX12_take_104 : decode cX12_take 104 = .ok (.getfield 238, 3) := by decide +kernel
theorem dX12_take_107 : decode cX12_take 107 = .ok (.ireturn, 1) := by decide +kernel
theorem dX12_undo_0 : decode cX12_undo 0 = .ok (.aload_n 0, 1) := by decide +kernel
theorem dX12_undo_1 : decode cX12_undo 1 = .ok (.iconst 0, 1) := by decide +kernel
theorem dX12_undo_2 : decode cX12_undo 2 = .ok (.putfield 121, 3) := by decide +kernel
theorem dX12_undo_5 : decode cX12_undo 5 = .ok (.aload_n 0, 1) := by decide +kernel
theorem dX12_undo_6 : decode cX12_undo 6 = .ok (.getfield 238, 3) := by decide +kernel
theorem dX12_undo_9 : decode cX12_undo 9 = .ok (.ifCond .ne 5, 3) := by decide +kernel
theorem dX12_undo_12 : decode cX12_undo 12 = .ok (.iconst (-1), 1) := by decide +kernel
theorem dX12_undo_13 : decode cX12_undo 13 = .ok (.ireturn, 1) := by decide +kernel
theorem dX12_undo_14 : decode cX12_undo 14 = .ok (.aload_n 0, 1) := by decide +kernel
theorem dX12_undo_15 : decode cX12_undo 15 = .ok (.dup, 1) := by decide +kernel
theorem dX12_undo_16 : decode cX12_undo 16 = .ok (.getfield 238, 3) := by decide +kernel
theorem dX12_undo_19 : decode cX12_undo 19 = .ok (.iconst 1, 1) := by decide +kernel
theorem dX12_undo_20 : decode cX12_undo 20 = .ok (.isub, 1) := by decide +kernel
theorem dX12_undo_21 : decode cX12_undo 21 = .ok (.putfield 238, 3) := by decide +kernel
theorem dX12_undo_24 : decode cX12_undo 24 = .ok (.aload_n 0, 1) := by decide +kernel
theorem dX12_undo_25 : decode cX12_undo 25 = .ok (.getfield 20, 3) := by decide +kernel
theorem dX12_undo_28 : decode cX12_undo 28 = .ok (.aload_n 0, 1) := by decide +kernel
theorem dX12_undo_29 : decode cX12_undo 29 = .ok (.getfield 112, 3) := by decide +kernel
theorem dX12_undo_32 : decode cX12_undo 32 = .ok (.aload_n 0, 1) := by decide +kernel
theorem dX12_undo_33 : decode cX12_undo 33 = .ok (.getfield 238, 3) := by decide +kernel
theorem dX12_undo_36 : decode cX12_undo 36 = .ok (.iaload, 1) := by decide +kernel
theorem dX12_undo_37 : decode cX12_undo 37 = .ok (.aload_n 0, 1) := by decide +kernel
theorem dX12_undo_38 : decode cX12_undo 38 = .ok (.getfield 115, 3) := by decide +kernel
theorem dX12_undo_41 : decode cX12_undo 41 = .ok (.aload_n 0, 1) := by decide +kernel
theorem dX12_undo_42 : decode cX12_undo 42 = .ok (.getfield 238, 3) := by decide +kernel
theorem dX12_undo_45 : decode cX12_undo 45 = .ok (.iaload, 1) := by decide +kernel
theorem dX12_undo_46 : decode cX12_undo 46 = .ok (.iastore, 1) := by decide +kernel
theorem dX12_undo_47 : decode cX12_undo 47 = .ok (.aload_n 0, 1) := by decide +kernel
theorem dX12_undo_48 : decode cX12_undo 48 = .ok (.getfield 41, 3) := by decide +kernel
theorem dX12_undo_51 : decode cX12_undo 51 = .ok (.aload_n 0, 1) := by decide +kernel
theorem dX12_undo_52 : decode cX12_undo 52 = .ok (.getfield 112, 3) := by decide +kernel
theorem dX12_undo_55 : decode cX12_undo 55 = .ok (.aload_n 0, 1) := by decide +kernel
theorem dX12_undo_56 : decode cX12_undo 56 = .ok (.getfield 238, 3) := by decide +kernel
theorem dX12_undo_59 : decode cX12_undo 59 = .ok (.iaload, 1) := by decide +kernel
theorem dX12_undo_60 : decode cX12_undo 60 = .ok (.aload_n 0, 1) := by decide +kernel
theorem dX12_undo_61 : decode cX12_undo 61 = .ok (.getfield 118, 3) := by decide +kernel
theorem dX12_undo_64 : decode cX12_undo 64 = .ok (.aload_n 0, 1) := by decide +kernel
theorem dX12_undo_65 : decode cX12_undo 65 = .ok (.getfield 238, 3) := by decide +kernel
theorem dX12_undo_68 : decode cX12_undo 68 = .ok (.iaload, 1) := by decide +kernel
theorem dX12_undo_69 : decode cX12_undo 69 = .ok (.iastore, 1) := by decide +kernel
theorem dX12_undo_70 : decode cX12_undo 70 = .ok (.aload_n 0, 1) := by decide +kernel
theorem dX12_undo_71 : decode cX12_undo 71 = .ok (.getfield 238, 3) := by decide +kernel
theorem dX12_undo_74 : decode cX12_undo 74 = .ok (.ireturn, 1) := by decide +kernel
theorem dX12_allChanges_0 : decode cX12_allChanges 0 = .ok (.iconst 0, 1) := by decide +kernel
theorem dX12_allChanges_1 : decode cX12_allChanges 1 = .ok (.istore_n 1, 1) := by decide +kernel
theorem dX12_allChanges_2 : decode cX12_allChanges 2 = .ok (.iconst 0, 1) := by decide +kernel
theorem dX12_allChanges_3 : decode cX12_allChanges 3 = .ok (.istore_n 2, 1) := by decide +kernel
theorem dX12_allChanges_4 : decode cX12_allChanges 4 = .ok (.iload_n 2, 1) := by decide +kernel
theorem dX12_allChanges_5 : decode cX12_allChanges 5 = .ok (.aload_n 0, 1) := by decide +kernel
theorem dX12_allChanges_6 : decode cX12_allChanges 6 = .ok (.getfield 13, 3) := by decide +kernel
theorem dX12_allChanges_9 : decode cX12_allChanges 9 = .ok (.iconst 0, 1) := by decide +kernel
theorem dX12_allChanges_10 : decode cX12_allChanges 10 = .ok (.iaload, 1) := by decide +kernel
theorem dX12_allChanges_11 : decode cX12_allChanges 11 = .ok (.if_icmp .ge 17, 3) := by decide +kernel
theorem dX12_allChanges_14 : decode cX12_allChanges 14 = .ok (.iload_n 1, 1) := by decide +kernel
theorem dX12_allChanges_15 : decode cX12_allChanges 15 = .ok (.aload_n 0, 1) := by decide +kernel
theorem dX12_allChanges_16 : decode cX12_allChanges 16 = .ok (.iload_n 2, 1) := by decide +kernel
theorem dX12_allChanges_17 : decode cX12_allChanges 17 = .ok (.invokevirtual 361, 3) := by decide +kernel
theorem dX12_allChanges_20 : decode cX12_allChanges 20 = .ok (.iadd, 1) := by decide +kernel
theorem dX12_allChanges_21 : decode cX12_allChanges 21 = .ok (.istore_n 1, 1) := by decide +kernel
theorem dX12_allChanges_22 : decode cX12_allChanges 22 = .ok (.iinc 2 1, 3) := by decide +kernel
theorem dX12_allChanges_25 : decode cX12_allChanges 25 = .ok (.goto (-21), 3) := by decide +kernel
theorem dX12_allChanges_28 : decode cX12_allChanges 28 = .ok (.iload_n 1, 1) := by decide +kernel
theorem dX12_allChanges_29 : decode cX12_allChanges 29 = .ok (.ireturn, 1) := by decide +kernel
theorem dX12_bits_0 : decode cX12_bits 0 = .ok (.iconst 0, 1) := by decide +kernel
theorem dX12_bits_1 : decode cX12_bits 1 = .ok (.istore_n 1, 1) := by decide +kernel
theorem dX12_bits_2 : decode cX12_bits 2 = .ok (.iload_n 0, 1) := by decide +kernel
theorem dX12_bits_3 : decode cX12_bits 3 = .ok (.istore_n 2, 1) := by decide +kernel
theorem dX12_bits_4 : decode cX12_bits 4 = .ok (.iload_n 2, 1) := by decide +kernel
theorem dX12_bits_5 : decode cX12_bits 5 = .ok (.ifCond .eq 15, 3) := by decide +kernel
theorem dX12_bits_8 : decode cX12_bits 8 = .ok (.iinc 1 1, 3) := by decide +kernel
theorem dX12_bits_11 : decode cX12_bits 11 = .ok (.iload_n 2, 1) := by decide +kernel
theorem dX12_bits_12 : decode cX12_bits 12 = .ok (.iload_n 2, 1) := by decide +kernel
theorem dX12_bits_13 : decode cX12_bits 13 = .ok (.iconst 1, 1) := by decide +kernel
theorem dX12_bits_14 : decode cX12_bits 14 = .ok (.isub, 1) := by decide +kernel
theorem dX12_bits_15 : decode cX12_bits 15 = .ok (.iand, 1) := by decide +kernel
theorem dX12_bits_16 : decode cX12_bits 16 = .ok (.istore_n 2, 1) := by decide +kernel
theorem dX12_bits_17 : decode cX12_bits 17 = .ok (.goto (-13), 3) := by decide +kernel
theorem dX12_bits_20 : decode cX12_bits 20 = .ok (.iload_n 1, 1) := by decide +kernel
theorem dX12_bits_21 : decode cX12_bits 21 = .ok (.ireturn, 1) := by decide +kernel
theorem dX12_count_0 : decode cX12_count 0 = .ok (.aload_n 0, 1) := by decide +kernel
theorem dX12_count_1 : decode cX12_count 1 = .ok (.iconst 0, 1) := by decide +kernel
theorem dX12_count_2 : decode cX12_count 2 = .ok (.putfield 121, 3) := by decide +kernel
theorem dX12_count_5 : decode cX12_count 5 = .ok (.iload_n 1, 1) := by decide +kernel
theorem dX12_count_6 : decode cX12_count 6 = .ok (.tableswitch 136 0 9 #[54, 61, 68, 73, 79, 96, 113, 121, 126, 131], 54) := by decide +kernel
theorem dX12_count_60 : decode cX12_count 60 = .ok (.aload_n 0, 1) := by decide +kernel
theorem dX12_count_61 : decode cX12_count 61 = .ok (.getfield 13, 3) := by decide +kernel
theorem dX12_count_64 : decode cX12_count 64 = .ok (.iconst 0, 1) := by decide +kernel
theorem dX12_count_65 : decode cX12_count 65 = .ok (.iaload, 1) := by decide +kernel
theorem dX12_count_66 : decode cX12_count 66 = .ok (.ireturn, 1) := by decide +kernel
theorem dX12_count_67 : decode cX12_count 67 = .ok (.aload_n 0, 1) := by decide +kernel
theorem dX12_count_68 : decode cX12_count 68 = .ok (.getfield 13, 3) := by decide +kernel
theorem dX12_count_71 : decode cX12_count 71 = .ok (.iconst 1, 1) := by decide +kernel
theorem dX12_count_72 : decode cX12_count 72 = .ok (.iaload, 1) := by decide +kernel
theorem dX12_count_73 : decode cX12_count 73 = .ok (.ireturn, 1) := by decide +kernel
theorem dX12_count_74 : decode cX12_count 74 = .ok (.aload_n 0, 1) := by decide +kernel
theorem dX12_count_75 : decode cX12_count 75 = .ok (.getfield 246, 3) := by decide +kernel
theorem dX12_count_78 : decode cX12_count 78 = .ok (.ireturn, 1) := by decide +kernel
theorem dX12_count_79 : decode cX12_count 79 = .ok (.aload_n 0, 1) := by decide +kernel
theorem dX12_count_80 : decode cX12_count 80 = .ok (.iconst 1, 1) := by decide +kernel
theorem dX12_count_81 : decode cX12_count 81 = .ok (.invokevirtual 392, 3) := by decide +kernel
theorem dX12_count_84 : decode cX12_count 84 = .ok (.ireturn, 1) := by decide +kernel
theorem dX12_count_85 : decode cX12_count 85 = .ok (.aload_n 0, 1) := by decide +kernel
theorem dX12_count_86 : decode cX12_count 86 = .ok (.invokevirtual 299, 3) := by decide +kernel
theorem dX12_count_89 : decode cX12_count 89 = .ok (.ifCond .eq 11, 3) := by decide +kernel
theorem dX12_count_92 : decode cX12_count 92 = .ok (.aload_n 0, 1) := by decide +kernel
theorem dX12_count_93 : decode cX12_count 93 = .ok (.iconst 0, 1) := by decide +kernel
theorem dX12_count_94 : decode cX12_count 94 = .ok (.invokevirtual 370, 3) := by decide +kernel
theorem dX12_count_97 : decode cX12_count 97 = .ok (.goto 4, 3) := by decide +kernel
theorem dX12_count_100 : decode cX12_count 100 = .ok (.iconst 0, 1) := by decide +kernel
theorem dX12_count_101 : decode cX12_count 101 = .ok (.ireturn, 1) := by decide +kernel
theorem dX12_count_102 : decode cX12_count 102 = .ok (.aload_n 0, 1) := by decide +kernel
theorem dX12_count_103 : decode cX12_count 103 = .ok (.invokevirtual 299, 3) := by decide +kernel
theorem dX12_count_106 : decode cX12_count 106 = .ok (.ifCond .eq 11, 3) := by decide +kernel
theorem dX12_count_109 : decode cX12_count 109 = .ok (.aload_n 0, 1) := by decide +kernel
theorem dX12_count_110 : decode cX12_count 110 = .ok (.iconst 1, 1) := by decide +kernel
theorem dX12_count_111 : decode cX12_count 111 = .ok (.invokevirtual 370, 3) := by decide +kernel
theorem dX12_count_114 : decode cX12_count 114 = .ok (.goto 4, 3) := by decide +kernel
theorem dX12_count_117 : decode cX12_count 117 = .ok (.iconst 0, 1) := by decide +kernel
theorem dX12_count_118 : decode cX12_count 118 = .ok (.ireturn, 1) := by decide +kernel
theorem dX12_count_119 : decode cX12_count 119 = .ok (.aload_n 0, 1) := by decide +kernel
theorem dX12_count_120 : decode cX12_count 120 = .ok (.getfield 235, 3) := by decide +kernel
theorem dX12_count_123 : decode cX12_count 123 = .ok (.invokestatic 406, 3) := by decide +kernel
theorem dX12_count_126 : decode cX12_count 126 = .ok (.ireturn, 1) := by decide +kernel
theorem dX12_count_127 : decode cX12_count 127 = .ok (.aload_n 0, 1) := by decide +kernel
theorem dX12_count_128 : decode cX12_count 128 = .ok (.getfield 238, 3) := by decide +kernel
theorem dX12_count_131 : decode cX12_count 131 = .ok (.ireturn, 1) := by decide +kernel
theorem dX12_count_132 : decode cX12_count 132 = .ok (.aload_n 0, 1) := by decide +kernel
theorem dX12_count_133 : decode cX12_count 133 = .ok (.getfield 124, 3) := by decide +kernel
theorem dX12_count_136 : decode cX12_count 136 = .ok (.ireturn, 1) := by decide +kernel
theorem dX12_count_137 : decode cX12_count 137 = .ok (.aload_n 0, 1) := by decide +kernel
theorem dX12_count_138 : decode cX12_count 138 = .ok (.invokevirtual 409, 3) := by decide +kernel
theorem dX12_count_141 : decode cX12_count 141 = .ok (.ireturn, 1) := by decide +kernel
theorem dX12_count_142 : decode cX12_count 142 = .ok (.iconst (-1), 1) := by decide +kernel
theorem dX12_count_143 : decode cX12_count 143 = .ok (.ireturn, 1) := by decide +kernel
theorem dJ11_isValidCodePoint_9a6ad_0 : decode cJ11_isValidCodePoint_9a6ad 0 = .ok (.iload_n 0, 1) := by decide +kernel
theorem dJ11_isValidCodePoint_9a6ad_1 : decode cJ11_isValidCodePoint_9a6ad 1 = .ok (.bipush 16, 2) := by decide +kernel
theorem dJ11_isValidCodePoint_9a6ad_3 : decode cJ11_isValidCodePoint_9a6ad 3 = .ok (.iushr, 1) := by decide +kernel
theorem dJ11_isValidCodePoint_9a6ad_4 : decode cJ11_isValidCodePoint_9a6ad 4 = .ok (.istore_n 1, 1) := by decide +kernel
theorem dJ11_isValidCodePoint_9a6ad_5 : decode cJ11_isValidCodePoint_9a6ad 5 = .ok (.iload_n 1, 1) := by decide +kernel
theorem dJ11_isValidCodePoint_9a6ad_6 : decode cJ11_isValidCodePoint_9a6ad 6 = .ok (.bipush 17, 2) := by decide +kernel
theorem dJ11_isValidCodePoint_9a6ad_8 : decode cJ11_isValidCodePoint_9a6ad 8 = .ok (.if_icmp .ge 7, 3) := by decide +kernel
theorem dJ11_isValidCodePoint_9a6ad_11 : decode cJ11_isValidCodePoint_9a6ad 11 = .ok (.iconst 1, 1) := by decide +kernel
theorem dJ11_isValidCodePoint_9a6ad_12 : decode cJ11_isValidCodePoint_9a6ad 12 = .ok (.goto 4, 3) := by decide +kernel
theorem dJ11_isValidCodePoint_9a6ad_15 : decode cJ11_isValidCodePoint_9a6ad 15 = .ok (.iconst 0, 1) := by decide +kernel
theorem dJ11_isValidCodePoint_9a6ad_16 : decode cJ11_isValidCodePoint_9a6ad 16 = .ok (.ireturn, 1) := by decide +kernel
theorem dJ11_highSurrogate_5068e_0 : decode cJ11_highSurrogate_5068e 0 = .ok (.iload_n 0, 1) := by decide +kernel
theorem dJ11_highSurrogate_5068e_1 : decode cJ11_highSurrogate_5068e 1 = .ok (.bipush 10, 2) := by decide +kernel
theorem dJ11_highSurrogate_5068e_3 : decode cJ11_highSurrogate_5068e 3 = .ok (.iushr, 1) := by decide +kernel
theorem dJ11_highSurrogate_5068e_4 : decode cJ11_highSurrogate_5068e 4 = .ok (.ldc 110, 2) := by decide +kernel
theorem dJ11_highSurrogate_5068e_6 : decode cJ11_highSurrogate_5068e 6 = .ok (.iadd, 1) := by decide +kernel
theorem dJ11_highSurrogate_5068e_7 : decode cJ11_highSurrogate_5068e 7 = .ok (.i2c, 1) := by decide +kernel
theorem dJ11_highSurrogate_5068e_8 : decode cJ11_highSurrogate_5068e 8 = .ok (.ireturn, 1) := by decide +kernel
theorem dJ11_lowSurrogate_5068e_0 : decode cJ11_lowSurrogate_5068e 0 = .ok (.iload_n 0, 1) := by decide +kernel
theorem dJ11_lowSurrogate_5068e_1 : decode cJ11_lowSurrogate_5068e 1 = .ok (.sipush 1023, 3) := by decide +kernel
theorem dJ11_lowSurrogate_5068e_4 : decode cJ11_lowSurrogate_5068e 4 = .ok (.iand, 1) := by decide +kernel
theorem dJ11_lowSurrogate_5068e_5 : decode cJ11_lowSurrogate_5068e 5 = .ok (.ldc 76, 2) := by decide +kernel
theorem dJ11_lowSurrogate_5068e_7 : decode cJ11_lowSurrogate_5068e 7 = .ok (.iadd, 1) := by decide +kernel
theorem dJ11_lowSurrogate_5068e_8 : decode cJ11_lowSurrogate_5068e 8 = .ok (.i2c, 1) := by decide +kernel
theorem dJ11_lowSurrogate_5068e_9 : decode cJ11_lowSurrogate_5068e 9 = .ok (.ireturn, 1) := by decide +kernel
theorem dJ6_bitCount_0f7a4_0 : decode cJ6_bitCount_0f7a4 0 = .ok (.iload_n 0, 1) := by decide +kernel
theorem dJ6_bitCount_0f7a4_1 : decode cJ6_bitCount_0f7a4 1 = .ok (.iload_n 0, 1) := by decide +kernel
theorem dJ6_bitCount_0f7a4_2 : decode cJ6_bitCount_0f7a4 2 = .ok (.iconst 1, 1) := by decide +kernel
theorem dJ6_bitCount_0f7a4_3 : decode cJ6_bitCount_0f7a4 3 = .ok (.iushr, 1) := by decide +kernel
theorem dJ6_bitCount_0f7a4_4 : decode cJ6_bitCount_0f7a4 4 = .ok (.ldc_w 265, 3) := by decide +kernel
theorem dJ6_bitCount_0f7a4_7 : decode cJ6_bitCount_0f7a4 7 = .ok (.iand, 1) := by decide +kernel
theorem dJ6_bitCount_0f7a4_8 : decode cJ6_bitCount_0f7a4 8 = .ok (.isub, 1) := by decide +kernel
theorem dJ6_bitCount_0f7a4_9 : decode cJ6_bitCount_0f7a4 9 = .ok (.istore_n 0, 1) := by decide +kernel
theorem dJ6_bitCount_0f7a4_10 : decode cJ6_bitCount_0f7a4 10 = .ok (.iload_n 0, 1) := by decide +kernel
theorem dJ6_bitCount_0f7a4_11 : decode cJ6_bitCount_0f7a4 11 = .ok (.ldc_w 266, 3) := by decide +kernel
theorem dJ6_bitCount_0f7a4_14 : decode cJ6_bitCount_0f7a4 14 = .ok (.iand, 1) := by decide +kernel
theorem dJ6_bitCount_0f7a4_15 : decode cJ6_bitCount_0f7a4 15 = .ok (.iload_n 0, 1) := by decide +kernel
theorem dJ6_bitCount_0f7a4_16 : decode cJ6_bitCount_0f7a4 16 = .ok (.iconst 2, 1) := by decide +kernel
theorem dJ6_bitCount_0f7a4_17 : decode cJ6_bitCount_0f7a4 17 = .ok (.iushr, 1) := by decide +kernel
theorem dJ6_bitCount_0f7a4_18 : decode cJ6_bitCount_0f7a4 18 = .ok (.ldc_w 266, 3) := by decide +kernel
theorem dJ6_bitCount_0f7a4_21 : decode cJ6_bitCount_0f7a4 21 = .ok (.iand, 1) := by decide +kernel
theorem dJ6_bitCount_0f7a4_22 : decode cJ6_bitCount_0f7a4 22 = .ok (.iadd, 1) := by decide +kernel
theorem dJ6_bitCount_0f7a4_23 : decode cJ6_bitCount_0f7a4 23 = .ok (.istore_n 0, 1) := by decide +kernel
theorem dJ6_bitCount_0f7a4_24 : decode cJ6_bitCount_0f7a4 24 = .ok (.iload_n 0, 1) := by decide +kernel
theorem dJ6_bitCount_0f7a4_25 : decode cJ6_bitCount_0f7a4 25 = .ok (.iload_n 0, 1) := by decide +kernel
theorem dJ6_bitCount_0f7a4_26 : decode cJ6_bitCount_0f7a4 26 = .ok (.iconst 4, 1) := by decide +kernel
theorem dJ6_bitCount_0f7a4_27 : decode cJ6_bitCount_0f7a4 27 = .ok (.iushr, 1) := by decide +kernel
theorem dJ6_bitCount_0f7a4_28 : decode cJ6_bitCount_0f7a4 28 = .ok (.iadd, 1) := by decide +kernel
theorem dJ6_bitCount_0f7a4_29 : decode cJ6_bitCount_0f7a4 29 = .ok (.ldc_w 267, 3) := by decide +kernel
theorem dJ6_bitCount_0f7a4_32 : decode cJ6_bitCount_0f7a4 32 = .ok (.iand, 1) := by decide +kernel
theorem dJ6_bitCount_0f7a4_33 : decode cJ6_bitCount_0f7a4 33 = .ok (.istore_n 0, 1) := by decide +kernel
theorem dJ6_bitCount_0f7a4_34 : decode cJ6_bitCount_0f7a4 34 = .ok (.iload_n 0, 1) := by decide +kernel
theorem dJ6_bitCount_0f7a4_35 : decode cJ6_bitCount_0f7a4 35 = .ok (.iload_n 0, 1) := by decide +kernel
theorem dJ6_bitCount_0f7a4_36 : decode cJ6_bitCount_0f7a4 36 = .ok (.bipush 8, 2) := by decide +kernel
theorem dJ6_bitCount_0f7a4_38 : decode cJ6_bitCount_0f7a4 38 = .ok (.iushr, 1) := by decide +kernel
theorem dJ6_bitCount_0f7a4_39 : decode cJ6_bitCount_0f7a4 39 = .ok (.iadd, 1) := by decide +kernel
theorem dJ6_bitCount_0f7a4_40 : decode cJ6_bitCount_0f7a4 40 = .ok (.istore_n 0, 1) := by decide +kernel
theorem dJ6_bitCount_0f7a4_41 : decode cJ6_bitCount_0f7a4 41 = .ok (.iload_n 0, 1) := by decide +kernel
theorem dJ6_bitCount_0f7a4_42 : decode cJ6_bitCount_0f7a4 42 = .ok (.iload_n 0, 1) := by decide +kernel
theorem dJ6_bitCount_0f7a4_43 : decode cJ6_bitCount_0f7a4 43 = .ok (.bipush 16, 2) := by decide +kernel
theorem dJ6_bitCount_0f7a4_45 : decode cJ6_bitCount_0f7a4 45 = .ok (.iushr, 1) := by decide +kernel
theorem dJ6_bitCount_0f7a4_46 : decode cJ6_bitCount_0f7a4 46 = .ok (.iadd, 1) := by decide +kernel
theorem dJ6_bitCount_0f7a4_47 : decode cJ6_bitCount_0f7a4 47 = .ok (.istore_n 0, 1) := by decide +kernel
theorem dJ6_bitCount_0f7a4_48 : decode cJ6_bitCount_0f7a4 48 = .ok (.iload_n 0, 1) := by decide +kernel
theorem dJ6_bitCount_0f7a4_49 : decode cJ6_bitCount_0f7a4 49 = .ok (.bipush 63, 2) := by decide +kernel
theorem dJ6_bitCount_0f7a4_51 : decode cJ6_bitCount_0f7a4 51 = .ok (.iand, 1) := by decide +kernel
theorem dJ6_bitCount_0f7a4_52 : decode cJ6_bitCount_0f7a4 52 = .ok (.ireturn, 1) := by decide +kernel
theorem dJ9_abs_0f7a4_0 : decode cJ9_abs_0f7a4 0 = .ok (.iload_n 0, 1) := by decide +kernel
theorem dJ9_abs_0f7a4_1 : decode cJ9_abs_0f7a4 1 = .ok (.ifCond .ge 8, 3) := by decide +kernel
theorem dJ9_abs_0f7a4_4 : decode cJ9_abs_0f7a4 4 = .ok (.iload_n 0, 1) := by decide +kernel
theorem dJ9_abs_0f7a4_5 : decode cJ9_abs_0f7a4 5 = .ok (.ineg, 1) := by decide +kernel
theorem dJ9_abs_0f7a4_6 : decode cJ9_abs_0f7a4 6 = .ok (.goto 4, 3) := by decide +kernel
theorem dJ9_abs_0f7a4_9 : decode cJ9_abs_0f7a4 9 = .ok (.iload_n 0, 1) := by decide +kernel
theorem dJ9_abs_0f7a4_10 : decode cJ9_abs_0f7a4 10 = .ok (.ireturn, 1) := by decide +kernel
theorem dJ9_max_7cf53_0 : decode cJ9_max_7cf53 0 = .ok (.iload_n 0, 1) := by decide +kernel
theorem dJ9_max_7cf53_1 : decode cJ9_max_7cf53 1 = .ok (.iload_n 1, 1) := by decide +kernel
theorem dJ9_max_7cf53_2 : decode cJ9_max_7cf53 2 = .ok (.if_icmp .lt 7, 3) := by decide +kernel
theorem dJ9_max_7cf53_5 : decode cJ9_max_7cf53 5 = .ok (.iload_n 0, 1) := by decide +kernel
theorem dJ9_max_7cf53_6 : decode cJ9_max_7cf53 6 = .ok (.goto 4, 3) := by decide +kernel
theorem dJ9_max_7cf53_9 : decode cJ9_max_7cf53 9 = .ok (.iload_n 1, 1) := by decide +kernel
theorem dJ9_max_7cf53_10 : decode cJ9_max_7cf53 10 = .ok (.ireturn, 1) := by decide +kernel
theorem dJ9_min_7cf53_0 : decode cJ9_min_7cf53 0 = .ok (.iload_n 0, 1) := by decide +kernel
theorem dJ9_min_7cf53_1 : decode cJ9_min_7cf53 1 = .ok (.iload_n 1, 1) := by decide +kernel
theorem dJ9_min_7cf53_2 : decode cJ9_min_7cf53 2 = .ok (.if_icmp .gt 7, 3) := by decide +kernel
theorem dJ9_min_7cf53_5 : decode cJ9_min_7cf53 5 = .ok (.iload_n 0, 1) := by decide +kernel
theorem dJ9_min_7cf53_6 : decode cJ9_min_7cf53 6 = .ok (.goto 4, 3) := by decide +kernel
theorem dJ9_min_7cf53_9 : decode cJ9_min_7cf53 9 = .ok (.iload_n 1, 1) := by decide +kernel
theorem dJ9_min_7cf53_10 : decode cJ9_min_7cf53 10 = .ok (.ireturn, 1) := by decide +kernel
theorem dJ0_length_8abf5_0 : decode cJ0_length_8abf5 0 = .ok (.aload_n 0, 1) := by decide +kernel
theorem dJ0_length_8abf5_1 : decode cJ0_length_8abf5 1 = .ok (.getfield 9, 3) := by decide +kernel
theorem dJ0_length_8abf5_4 : decode cJ0_length_8abf5 4 = .ok (.arraylength, 1) := by decide +kernel
theorem dJ0_length_8abf5_5 : decode cJ0_length_8abf5 5 = .ok (.aload_n 0, 1) := by decide +kernel
theorem dJ0_length_8abf5_6 : decode cJ0_length_8abf5 6 = .ok (.invokevirtual 335, 3) := by decide +kernel
theorem dJ0_length_8abf5_9 : decode cJ0_length_8abf5 9 = .ok (.ishr, 1) := by decide +kernel
theorem dJ0_length_8abf5_10 : decode cJ0_length_8abf5 10 = .ok (.ireturn, 1) := by decide +kernel
theorem dJ0_charAt_5068e_0 : decode cJ0_charAt_5068e 0 = .ok (.aload_n 0, 1) := by decide +kernel
theorem dJ0_charAt_5068e_1 : decode cJ0_charAt_5068e 1 = .ok (.invokevirtual 492, 3) := by decide +kernel
theorem dJ0_charAt_5068e_4 : decode cJ0_charAt_5068e 4 = .ok (.ifCond .eq 12, 3) := by decide +kernel
theorem dJ0_charAt_5068e_7 : decode cJ0_charAt_5068e 7 = .ok (.aload_n 0, 1) := by decide +kernel
theorem dJ0_charAt_5068e_8 : decode cJ0_charAt_5068e 8 = .ok (.getfield 9, 3) := by decide +kernel
theorem dJ0_charAt_5068e_11 : decode cJ0_charAt_5068e 11 = .ok (.iload_n 1, 1) := by decide +kernel
theorem dJ0_charAt_5068e_12 : decode cJ0_charAt_5068e 12 = .ok (.invokestatic 495, 3) := by decide +kernel
theorem dJ0_charAt_5068e_15 : decode cJ0_charAt_5068e 15 = .ok (.ireturn, 1) := by decide +kernel
theorem dJ0_charAt_5068e_16 : decode cJ0_charAt_5068e 16 = .ok (.aload_n 0, 1) := by decide +kernel
theorem dJ0_charAt_5068e_17 : decode cJ0_charAt_5068e 17 = .ok (.getfield 9, 3) := by decide +kernel
theorem dJ0_charAt_5068e_20 : decode cJ0_charAt_5068e 20 = .ok (.iload_n 1, 1) := by decide +kernel
theorem dJ0_charAt_5068e_21 : decode cJ0_charAt_5068e 21 = .ok (.invokestatic 498, 3) := by decide +kernel
theorem dJ0_charAt_5068e_24 : decode cJ0_charAt_5068e 24 = .ok (.ireturn, 1) := by decide +kernel
theorem dJ0_indexOf_0f7a4_0 : decode cJ0_indexOf_0f7a4 0 = .ok (.aload_n 0, 1) := by decide +kernel
theorem dJ0_indexOf_0f7a4_1 : decode cJ0_indexOf_0f7a4 1 = .ok (.iload_n 1, 1) := by decide +kernel
theorem dJ0_indexOf_0f7a4_2 : decode cJ0_indexOf_0f7a4 2 = .ok (.iconst 0, 1) := by decide +kernel
theorem dJ0_indexOf_0f7a4_3 : decode cJ0_indexOf_0f7a4 3 = .ok (.invokevirtual 633, 3) := by decide +kernel
theorem dJ0_indexOf_0f7a4_6 : decode cJ0_indexOf_0f7a4 6 = .ok (.ireturn, 1) := by decide +kernel
theorem dJ0_indexOf_7cf53_0 : decode cJ0_indexOf_7cf53 0 = .ok (.aload_n 0, 1) := by decide +kernel
theorem dJ0_indexOf_7cf53_1 : decode cJ0_indexOf_7cf53 1 = .ok (.invokevirtual 492, 3) := by decide +kernel
theorem dJ0_indexOf_7cf53_4 : decode cJ0_indexOf_7cf53 4 = .ok (.ifCond .eq 19, 3) := by decide +kernel
theorem dJ0_indexOf_7cf53_7 : decode cJ0_indexOf_7cf53 7 = .ok (.aload_n 0, 1) := by decide +kernel
theorem dJ0_indexOf_7cf53_8 : decode cJ0_indexOf_7cf53 8 = .ok (.getfield 9, 3) := by decide +kernel
theorem dJ0_indexOf_7cf53_11 : decode cJ0_indexOf_7cf53 11 = .ok (.iload_n 1, 1) := by decide +kernel
theorem dJ0_indexOf_7cf53_12 : decode cJ0_indexOf_7cf53 12 = .ok (.iload_n 2, 1) := by decide +kernel
theorem dJ0_indexOf_7cf53_13 : decode cJ0_indexOf_7cf53 13 = .ok (.aload_n 0, 1) := by decide +kernel
theorem dJ0_indexOf_7cf53_14 : decode cJ0_indexOf_7cf53 14 = .ok (.invokevirtual 505, 3) := by decide +kernel
theorem dJ0_indexOf_7cf53_17 : decode cJ0_indexOf_7cf53 17 = .ok (.invokestatic 637, 3) := by decide +kernel
theorem dJ0_indexOf_7cf53_20 : decode cJ0_indexOf_7cf53 20 = .ok (.goto 16, 3) := by decide +kernel
theorem dJ0_indexOf_7cf53_23 : decode cJ0_indexOf_7cf53 23 = .ok (.aload_n 0, 1) := by decide +kernel
theorem dJ0_indexOf_7cf53_24 : decode cJ0_indexOf_7cf53 24 = .ok (.getfield 9, 3) := by decide +kernel
theorem dJ0_indexOf_7cf53_27 : decode cJ0_indexOf_7cf53 27 = .ok (.iload_n 1, 1) := by decide +kernel
theorem dJ0_indexOf_7cf53_28 : decode cJ0_indexOf_7cf53 28 = .ok (.iload_n 2, 1) := by decide +kernel
theorem dJ0_indexOf_7cf53_29 : decode cJ0_indexOf_7cf53 29 = .ok (.aload_n 0, 1) := by decide +kernel
theorem dJ0_indexOf_7cf53_30 : decode cJ0_indexOf_7cf53 30 = .ok (.invokevirtual 505, 3) := by decide +kernel
theorem dJ0_indexOf_7cf53_33 : decode cJ0_indexOf_7cf53 33 = .ok (.invokestatic 640, 3) := by decide +kernel
theorem dJ0_indexOf_7cf53_36 : decode cJ0_indexOf_7cf53 36 = .ok (.ireturn, 1) := by decide +kernel
theorem dJ0_coder_7d493_0 : decode cJ0_coder_7d493 0 = .ok (.getstatic 38, 3) := by decide +kernel
theorem dJ0_coder_7d493_3 : decode cJ0_coder_7d493 3 = .ok (.ifCond .eq 10, 3) := by decide +kernel
theorem dJ0_coder_7d493_6 : decode cJ0_coder_7d493 6 = .ok (.aload_n 0, 1) := by decide +kernel
theorem dJ0_coder_7d493_7 : decode cJ0_coder_7d493 7 = .ok (.getfield 15, 3) := by decide +kernel
theorem dJ0_coder_7d493_10 : decode cJ0_coder_7d493 10 = .ok (.goto 4, 3) := by decide +kernel
theorem dJ0_coder_7d493_13 : decode cJ0_coder_7d493 13 = .ok (.iconst 1, 1) := by decide +kernel
theorem dJ0_coder_7d493_14 : decode cJ0_coder_7d493 14 = .ok (.ireturn, 1) := by decide +kernel
theorem dJ0_isLatin1_aae02_0 : decode cJ0_isLatin1_aae02 0 = .ok (.getstatic 38, 3) := by decide +kernel
theorem dJ0_isLatin1_aae02_3 : decode cJ0_isLatin1_aae02 3 = .ok (.ifCond .eq 14, 3) := by decide +kernel
theorem dJ0_isLatin1_aae02_6 : decode cJ0_isLatin1_aae02 6 = .ok (.aload_n 0, 1) := by decide +kernel
theorem dJ0_isLatin1_aae02_7 : decode cJ0_isLatin1_aae02 7 = .ok (.getfield 15, 3) := by decide +kernel
theorem dJ0_isLatin1_aae02_10 : decode cJ0_isLatin1_aae02 10 = .ok (.ifCond .ne 7, 3) := by decide +kernel
theorem dJ0_isLatin1_aae02_13 : decode cJ0_isLatin1_aae02 13 = .ok (.iconst 1, 1) := by decide +kernel
theorem dJ0_isLatin1_aae02_14 : decode cJ0_isLatin1_aae02 14 = .ok (.goto 4, 3) := by decide +kernel
theorem dJ0_isLatin1_aae02_17 : decode cJ0_isLatin1_aae02 17 = .ok (.iconst 0, 1) := by decide +kernel
theorem dJ0_isLatin1_aae02_18 : decode cJ0_isLatin1_aae02 18 = .ok (.ireturn, 1) := by decide +kernel
theorem dJ0_checkIndex_df160_0 : decode cJ0_checkIndex_df160 0 = .ok (.iload_n 0, 1) := by decide +kernel
theorem dJ0_checkIndex_df160_1 : decode cJ0_checkIndex_df160 1 = .ok (.iload_n 1, 1) := by decide +kernel
theorem dJ0_checkIndex_df160_2 : decode cJ0_checkIndex_df160 2 = .ok (.getstatic 1053, 3) := by decide +kernel
theorem dJ0_checkIndex_df160_5 : decode cJ0_checkIndex_df160 5 = .ok (.invokestatic 1059, 3) := by decide +kernel
theorem dJ0_checkIndex_df160_8 : decode cJ0_checkIndex_df160 8 = .ok (.pop, 1) := by decide +kernel
theorem dJ0_checkIndex_df160_9 : decode cJ0_checkIndex_df160 9 = .ok (.return_, 1) := by decide +kernel
theorem dJ0_checkBoundsBeginEnd_23922_0 : decode cJ0_checkBoundsBeginEnd_23922 0 = .ok (.iload_n 0, 1) := by decide +kernel
theorem dJ0_checkBoundsBeginEnd_23922_1 : decode cJ0_checkBoundsBeginEnd_23922 1 = .ok (.iload_n 1, 1) := by decide +kernel
theorem dJ0_checkBoundsBeginEnd_23922_2 : decode cJ0_checkBoundsBeginEnd_23922 2 = .ok (.iload_n 2, 1) := by decide +kernel
theorem dJ0_checkBoundsBeginEnd_23922_3 : decode cJ0_checkBoundsBeginEnd_23922 3 = .ok (.getstatic 1053, 3) := by decide +kernel
theorem dJ0_checkBoundsBeginEnd_23922_6 : decode cJ0_checkBoundsBeginEnd_23922 6 = .ok (.invokestatic 1062, 3) := by decide +kernel
theorem dJ0_checkBoundsBeginEnd_23922_9 : decode cJ0_checkBoundsBeginEnd_23922 9 = .ok (.pop, 1) := by decide +kernel
theorem dJ0_checkBoundsBeginEnd_23922_10 : decode cJ0_checkBoundsBeginEnd_23922 10 = .ok (.return_, 1) := by decide +kernel
theorem dJ1_charAt_3b067_0 : decode cJ1_charAt_3b067 0 = .ok (.iload_n 1, 1) := by decide +kernel
theorem dJ1_charAt_3b067_1 : decode cJ1_charAt_3b067 1 = .ok (.aload_n 0, 1) := by decide +kernel
theorem dJ1_charAt_3b067_2 : decode cJ1_charAt_3b067 2 = .ok (.arraylength, 1) := by decide +kernel
theorem dJ1_charAt_3b067_3 : decode cJ1_charAt_3b067 3 = .ok (.invokestatic 9, 3) := by decide +kernel
theorem dJ1_charAt_3b067_6 : decode cJ1_charAt_3b067 6 = .ok (.aload_n 0, 1) := by decide +kernel
theorem dJ1_charAt_3b067_7 : decode cJ1_charAt_3b067 7 = .ok (.iload_n 1, 1) := by decide +kernel
theorem dJ1_charAt_3b067_8 : decode cJ1_charAt_3b067 8 = .ok (.baload, 1) := by decide +kernel
theorem dJ1_charAt_3b067_9 : decode cJ1_charAt_3b067 9 = .ok (.sipush 255, 3) := by decide +kernel
theorem dJ1_charAt_3b067_12 : decode cJ1_charAt_3b067 12 = .ok (.iand, 1) := by decide +kernel
theorem dJ1_charAt_3b067_13 : decode cJ1_charAt_3b067 13 = .ok (.i2c, 1) := by decide +kernel
theorem dJ1_charAt_3b067_14 : decode cJ1_charAt_3b067 14 = .ok (.ireturn, 1) := by decide +kernel
theorem dJ1_canEncode_9a6ad_0 : decode cJ1_canEncode_9a6ad 0 = .ok (.iload_n 0, 1) := by decide +kernel
theorem dJ1_canEncode_9a6ad_1 : decode cJ1_canEncode_9a6ad 1 = .ok (.ifCond .lt 14, 3) := by decide +kernel
theorem dJ1_canEncode_9a6ad_4 : decode cJ1_canEncode_9a6ad 4 = .ok (.iload_n 0, 1) := by decide +kernel
theorem dJ1_canEncode_9a6ad_5 : decode cJ1_canEncode_9a6ad 5 = .ok (.sipush 255, 3) := by decide +kernel
theorem dJ1_canEncode_9a6ad_8 : decode cJ1_canEncode_9a6ad 8 = .ok (.if_icmp .gt 7, 3) := by decide +kernel
theorem dJ1_canEncode_9a6ad_11 : decode cJ1_canEncode_9a6ad 11 = .ok (.iconst 1, 1) := by decide +kernel
theorem dJ1_canEncode_9a6ad_12 : decode cJ1_canEncode_9a6ad 12 = .ok (.goto 4, 3) := by decide +kernel
theorem dJ1_canEncode_9a6ad_15 : decode cJ1_canEncode_9a6ad 15 = .ok (.iconst 0, 1) := by decide +kernel
theorem dJ1_canEncode_9a6ad_16 : decode cJ1_canEncode_9a6ad 16 = .ok (.ireturn, 1) := by decide +kernel
theorem dJ1_indexOf_4cfef_0 : decode cJ1_indexOf_4cfef 0 = .ok (.iload_n 1, 1) := by decide +kernel
theorem dJ1_indexOf_4cfef_1 : decode cJ1_indexOf_4cfef 1 = .ok (.invokestatic 88, 3) := by decide +kernel
theorem dJ1_indexOf_4cfef_4 : decode cJ1_indexOf_4cfef 4 = .ok (.ifCond .ne 5, 3) := by decide +kernel
theorem dJ1_indexOf_4cfef_7 : decode cJ1_indexOf_4cfef 7 = .ok (.iconst (-1), 1) := by decide +kernel
theorem dJ1_indexOf_4cfef_8 : decode cJ1_indexOf_4cfef 8 = .ok (.ireturn, 1) := by decide +kernel
theorem dJ1_indexOf_4cfef_9 : decode cJ1_indexOf_4cfef 9 = .ok (.iload_n 2, 1) := by decide +kernel
theorem dJ1_indexOf_4cfef_10 : decode cJ1_indexOf_4cfef 10 = .ok (.iconst 0, 1) := by decide +kernel
theorem dJ1_indexOf_4cfef_11 : decode cJ1_indexOf_4cfef 11 = .ok (.invokestatic 92, 3) := by decide +kernel
theorem dJ1_indexOf_4cfef_14 : decode cJ1_indexOf_4cfef 14 = .ok (.istore_n 2, 1) := by decide +kernel
theorem dJ1_indexOf_4cfef_15 : decode cJ1_indexOf_4cfef 15 = .ok (.iload_n 3, 1) := by decide +kernel
theorem dJ1_indexOf_4cfef_16 : decode cJ1_indexOf_4cfef 16 = .ok (.aload_n 0, 1) := by decide +kernel
theorem dJ1_indexOf_4cfef_17 : decode cJ1_indexOf_4cfef 17 = .ok (.arraylength, 1) := by decide +kernel
theorem dJ1_indexOf_4cfef_18 : decode cJ1_indexOf_4cfef 18 = .ok (.invokestatic 38, 3) := by decide +kernel
theorem dJ1_indexOf_4cfef_21 : decode cJ1_indexOf_4cfef 21 = .ok (.istore_n 3, 1) := by decide +kernel
theorem dJ1_indexOf_4cfef_22 : decode cJ1_indexOf_4cfef 22 = .ok (.iload_n 2, 1) := by decide +kernel
theorem dJ1_indexOf_4cfef_23 : decode cJ1_indexOf_4cfef 23 = .ok (.iload_n 3, 1) := by decide +kernel
theorem dJ1_indexOf_4cfef_24 : decode cJ1_indexOf_4cfef 24 = .ok (.if_icmp .lt 5, 3) := by decide +kernel
theorem dJ1_indexOf_4cfef_27 : decode cJ1_indexOf_4cfef 27 = .ok (.iconst (-1), 1) := by decide +kernel
theorem dJ1_indexOf_4cfef_28 : decode cJ1_indexOf_4cfef 28 = .ok (.ireturn, 1) := by decide +kernel
theorem dJ1_indexOf_4cfef_29 : decode cJ1_indexOf_4cfef 29 = .ok (.aload_n 0, 1) := by decide +kernel
theorem dJ1_indexOf_4cfef_30 : decode cJ1_indexOf_4cfef 30 = .ok (.iload_n 1, 1) := by decide +kernel
theorem dJ1_indexOf_4cfef_31 : decode cJ1_indexOf_4cfef 31 = .ok (.iload_n 2, 1) := by decide +kernel
theorem dJ1_indexOf_4cfef_32 : decode cJ1_indexOf_4cfef 32 = .ok (.iload_n 3, 1) := by decide +kernel
theorem dJ1_indexOf_4cfef_33 : decode cJ1_indexOf_4cfef 33 = .ok (.invokestatic 95, 3) := by decide +kernel
theorem dJ1_indexOf_4cfef_36 : decode cJ1_indexOf_4cfef 36 = .ok (.ireturn, 1) := by decide +kernel
theorem dJ1_indexOfChar_4cfef_0 : decode cJ1_indexOfChar_4cfef 0 = .ok (.iload_n 1, 1) := by decide +kernel
theorem dJ1_indexOfChar_4cfef_1 : decode cJ1_indexOfChar_4cfef 1 = .ok (.i2b, 1) := by decide +kernel
theorem dJ1_indexOfChar_4cfef_2 : decode cJ1_indexOfChar_4cfef 2 = .ok (.istore 4, 2) := by decide +kernel
theorem dJ1_indexOfChar_4cfef_4 : decode cJ1_indexOfChar_4cfef 4 = .ok (.iload_n 2, 1) := by decide +kernel
theorem dJ1_indexOfChar_4cfef_5 : decode cJ1_indexOfChar_4cfef 5 = .ok (.istore 5, 2) := by decide +kernel
theorem dJ1_indexOfChar_4cfef_7 : decode cJ1_indexOfChar_4cfef 7 = .ok (.iload 5, 2) := by decide +kernel
theorem dJ1_indexOfChar_4cfef_9 : decode cJ1_indexOfChar_4cfef 9 = .ok (.iload_n 3, 1) := by decide +kernel
theorem dJ1_indexOfChar_4cfef_10 : decode cJ1_indexOfChar_4cfef 10 = .ok (.if_icmp .ge 21, 3) := by decide +kernel
theorem dJ1_indexOfChar_4cfef_13 : decode cJ1_indexOfChar_4cfef 13 = .ok (.aload_n 0, 1) := by decide +kernel
theorem dJ1_indexOfChar_4cfef_14 : decode cJ1_indexOfChar_4cfef 14 = .ok (.iload 5, 2) := by decide +kernel
theorem dJ1_indexOfChar_4cfef_16 : decode cJ1_indexOfChar_4cfef 16 = .ok (.baload, 1) := by decide +kernel
theorem dJ1_indexOfChar_4cfef_17 : decode cJ1_indexOfChar_4cfef 17 = .ok (.iload 4, 2) := by decide +kernel
theorem dJ1_indexOfChar_4cfef_19 : decode cJ1_indexOfChar_4cfef 19 = .ok (.if_icmp .ne 6, 3) := by decide +kernel
theorem dJ1_indexOfChar_4cfef_22 : decode cJ1_indexOfChar_4cfef 22 = .ok (.iload 5, 2) := by decide +kernel
theorem dJ1_indexOfChar_4cfef_24 : decode cJ1_indexOfChar_4cfef 24 = .ok (.ireturn, 1) := by decide +kernel
theorem dJ1_indexOfChar_4cfef_25 : decode cJ1_indexOfChar_4cfef 25 = .ok (.iinc 5 1, 3) := by decide +kernel
theorem dJ1_indexOfChar_4cfef_28 : decode cJ1_indexOfChar_4cfef 28 = .ok (.goto (-21), 3) := by decide +kernel
theorem dJ1_indexOfChar_4cfef_31 : decode cJ1_indexOfChar_4cfef 31 = .ok (.iconst (-1), 1) := by decide +kernel
theorem dJ1_indexOfChar_4cfef_32 : decode cJ1_indexOfChar_4cfef 32 = .ok (.ireturn, 1) := by decide +kernel
theorem dJ2_getChar_3b067_0 : decode cJ2_getChar_3b067 0 = .ok (.getstatic 44, 3) := by decide +kernel
theorem dJ2_getChar_3b067_3 : decode cJ2_getChar_3b067 3 = .ok (.ifCond .ne 25, 3) := by decide +kernel
theorem dJ2_getChar_3b067_6 : decode cJ2_getChar_3b067 6 = .ok (.iload_n 1, 1) := by decide +kernel
theorem dJ2_getChar_3b067_7 : decode cJ2_getChar_3b067 7 = .ok (.ifCond .lt 11, 3) := by decide +kernel
theorem dJ2_getChar_3b067_10 : decode cJ2_getChar_3b067 10 = .ok (.iload_n 1, 1) := by decide +kernel
theorem dJ2_getChar_3b067_11 : decode cJ2_getChar_3b067 11 = .ok (.aload_n 0, 1) := by decide +kernel
theorem dJ2_getChar_3b067_12 : decode cJ2_getChar_3b067 12 = .ok (.invokestatic 48, 3) := by decide +kernel
theorem dJ2_getChar_3b067_15 : decode cJ2_getChar_3b067 15 = .ok (.if_icmp .lt 13, 3) := by decide +kernel
theorem dJ2_getChar_3b067_18 : decode cJ2_getChar_3b067 18 = .ok (.new 52, 3) := by decide +kernel
theorem dJ2_getChar_3b067_21 : decode cJ2_getChar_3b067 21 = .ok (.dup, 1) := by decide +kernel
theorem dJ2_getChar_3b067_22 : decode cJ2_getChar_3b067 22 = .ok (.ldc 54, 2) := by decide +kernel
theorem dJ2_getChar_3b067_24 : decode cJ2_getChar_3b067 24 = .ok (.invokespecial 56, 3) := by decide +kernel
theorem dJ2_getChar_3b067_27 : decode cJ2_getChar_3b067 27 = .ok (.athrow, 1) := by decide +kernel
theorem dJ2_getChar_3b067_28 : decode cJ2_getChar_3b067 28 = .ok (.iload_n 1, 1) := by decide +kernel
theorem dJ2_getChar_3b067_29 : decode cJ2_getChar_3b067 29 = .ok (.iconst 1, 1) := by decide +kernel
theorem dJ2_getChar_3b067_30 : decode cJ2_getChar_3b067 30 = .ok (.ishl, 1) := by decide +kernel
theorem dJ2_getChar_3b067_31 : decode cJ2_getChar_3b067 31 = .ok (.istore_n 1, 1) := by decide +kernel
theorem dJ2_getChar_3b067_32 : decode cJ2_getChar_3b067 32 = .ok (.aload_n 0, 1) := by decide +kernel
theorem dJ2_getChar_3b067_33 : decode cJ2_getChar_3b067 33 = .ok (.iload_n 1, 1) := by decide +kernel
theorem dJ2_getChar_3b067_34 : decode cJ2_getChar_3b067 34 = .ok (.iinc 1 1, 3) := by decide +kernel
theorem dJ2_getChar_3b067_37 : decode cJ2_getChar_3b067 37 = .ok (.baload, 1) := by decide +kernel
theorem dJ2_getChar_3b067_38 : decode cJ2_getChar_3b067 38 = .ok (.sipush 255, 3) := by decide +kernel
theorem dJ2_getChar_3b067_41 : decode cJ2_getChar_3b067 41 = .ok (.iand, 1) := by decide +kernel
theorem dJ2_getChar_3b067_42 : decode cJ2_getChar_3b067 42 = .ok (.getstatic 59, 3) := by decide +kernel
theorem dJ2_getChar_3b067_45 : decode cJ2_getChar_3b067 45 = .ok (.ishl, 1) := by decide +kernel
theorem dJ2_getChar_3b067_46 : decode cJ2_getChar_3b067 46 = .ok (.aload_n 0, 1) := by decide +kernel
theorem dJ2_getChar_3b067_47 : decode cJ2_getChar_3b067 47 = .ok (.iload_n 1, 1) := by decide +kernel
theorem dJ2_getChar_3b067_48 : decode cJ2_getChar_3b067 48 = .ok (.baload, 1) := by decide +kernel
theorem dJ2_getChar_3b067_49 : decode cJ2_getChar_3b067 49 = .ok (.sipush 255, 3) := by decide +kernel
theorem dJ2_getChar_3b067_52 : decode cJ2_getChar_3b067 52 = .ok (.iand, 1) := by decide +kernel
theorem dJ2_getChar_3b067_53 : decode cJ2_getChar_3b067 53 = .ok (.getstatic 63, 3) := by decide +kernel
theorem dJ2_getChar_3b067_56 : decode cJ2_getChar_3b067 56 = .ok (.ishl, 1) := by decide +kernel
theorem dJ2_getChar_3b067_57 : decode cJ2_getChar_3b067 57 = .ok (.ior, 1) := by decide +kernel
theorem dJ2_getChar_3b067_58 : decode cJ2_getChar_3b067 58 = .ok (.i2c, 1) := by decide +kernel
theorem dJ2_getChar_3b067_59 : decode cJ2_getChar_3b067 59 = .ok (.ireturn, 1) := by decide +kernel
theorem dJ2_length_9d52b_0 : decode cJ2_length_9d52b 0 = .ok (.aload_n 0, 1) := by decide +kernel
theorem dJ2_length_9d52b_1 : decode cJ2_length_9d52b 1 = .ok (.arraylength, 1) := by decide +kernel
theorem dJ2_length_9d52b_2 : decode cJ2_length_9d52b 2 = .ok (.iconst 1, 1) := by decide +kernel
theorem dJ2_length_9d52b_3 : decode cJ2_length_9d52b 3 = .ok (.ishr, 1) := by decide +kernel
theorem dJ2_length_9d52b_4 : decode cJ2_length_9d52b 4 = .ok (.ireturn, 1) := by decide +kernel
theorem dJ2_indexOf_4cfef_0 : decode cJ2_indexOf_4cfef 0 = .ok (.iload_n 2, 1) := by decide +kernel
theorem dJ2_indexOf_4cfef_1 : decode cJ2_indexOf_4cfef 1 = .ok (.iconst 0, 1) := by decide +kernel
theorem dJ2_indexOf_4cfef_2 : decode cJ2_indexOf_4cfef 2 = .ok (.invokestatic 224, 3) := by decide +kernel
theorem dJ2_indexOf_4cfef_5 : decode cJ2_indexOf_4cfef 5 = .ok (.istore_n 2, 1) := by decide +kernel
theorem dJ2_indexOf_4cfef_6 : decode cJ2_indexOf_4cfef 6 = .ok (.iload_n 3, 1) := by decide +kernel
theorem dJ2_indexOf_4cfef_7 : decode cJ2_indexOf_4cfef 7 = .ok (.aload_n 0, 1) := by decide +kernel
theorem dJ2_indexOf_4cfef_8 : decode cJ2_indexOf_4cfef 8 = .ok (.arraylength, 1) := by decide +kernel
theorem dJ2_indexOf_4cfef_9 : decode cJ2_indexOf_4cfef 9 = .ok (.iconst 1, 1) := by decide +kernel
theorem dJ2_indexOf_4cfef_10 : decode cJ2_indexOf_4cfef 10 = .ok (.ishr, 1) := by decide +kernel
theorem dJ2_indexOf_4cfef_11 : decode cJ2_indexOf_4cfef 11 = .ok (.invokestatic 183, 3) := by decide +kernel
theorem dJ2_indexOf_4cfef_14 : decode cJ2_indexOf_4cfef 14 = .ok (.istore_n 3, 1) := by decide +kernel
theorem dJ2_indexOf_4cfef_15 : decode cJ2_indexOf_4cfef 15 = .ok (.iload_n 2, 1) := by decide +kernel
theorem dJ2_indexOf_4cfef_16 : decode cJ2_indexOf_4cfef 16 = .ok (.iload_n 3, 1) := by decide +kernel
theorem dJ2_indexOf_4cfef_17 : decode cJ2_indexOf_4cfef 17 = .ok (.if_icmp .lt 5, 3) := by decide +kernel
theorem dJ2_indexOf_4cfef_20 : decode cJ2_indexOf_4cfef 20 = .ok (.iconst (-1), 1) := by decide +kernel
theorem dJ2_indexOf_4cfef_21 : decode cJ2_indexOf_4cfef 21 = .ok (.ireturn, 1) := by decide +kernel
theorem dJ2_indexOf_4cfef_22 : decode cJ2_indexOf_4cfef 22 = .ok (.iload_n 1, 1) := by decide +kernel
theorem dJ2_indexOf_4cfef_23 : decode cJ2_indexOf_4cfef 23 = .ok (.ldc 227, 2) := by decide +kernel
theorem dJ2_indexOf_4cfef_25 : decode cJ2_indexOf_4cfef 25 = .ok (.if_icmp .ge 11, 3) := by decide +kernel
theorem dJ2_indexOf_4cfef_28 : decode cJ2_indexOf_4cfef 28 = .ok (.aload_n 0, 1) := by decide +kernel
theorem dJ2_indexOf_4cfef_29 : decode cJ2_indexOf_4cfef 29 = .ok (.iload_n 1, 1) := by decide +kernel
theorem dJ2_indexOf_4cfef_30 : decode cJ2_indexOf_4cfef 30 = .ok (.iload_n 2, 1) := by decide +kernel
theorem dJ2_indexOf_4cfef_31 : decode cJ2_indexOf_4cfef 31 = .ok (.iload_n 3, 1) := by decide +kernel
theorem dJ2_indexOf_4cfef_32 : decode cJ2_indexOf_4cfef 32 = .ok (.invokestatic 228, 3) := by decide +kernel
theorem dJ2_indexOf_4cfef_35 : decode cJ2_indexOf_4cfef 35 = .ok (.ireturn, 1) := by decide +kernel
theorem dJ2_indexOf_4cfef_36 : decode cJ2_indexOf_4cfef 36 = .ok (.aload_n 0, 1) := by decide +kernel
theorem dJ2_indexOf_4cfef_37 : decode cJ2_indexOf_4cfef 37 = .ok (.iload_n 1, 1) := by decide +kernel
theorem dJ2_indexOf_4cfef_38 : decode cJ2_indexOf_4cfef 38 = .ok (.iload_n 2, 1) := by decide +kernel
theorem dJ2_indexOf_4cfef_39 : decode cJ2_indexOf_4cfef 39 = .ok (.iload_n 3, 1) := by decide +kernel
theorem dJ2_indexOf_4cfef_40 : decode cJ2_indexOf_4cfef 40 = .ok (.invokestatic 232, 3) := by decide +kernel
theorem dJ2_indexOf_4cfef_43 : decode cJ2_indexOf_4cfef 43 = .ok (.ireturn, 1) := by decide +kernel
theorem dJ2_indexOfChar_4cfef_0 : decode cJ2_indexOfChar_4cfef 0 = .ok (.iload_n 2, 1) := by decide +kernel
theorem dJ2_indexOfChar_4cfef_1 : decode cJ2_indexOfChar_4cfef 1 = .ok (.iload_n 3, 1) := by decide +kernel
theorem dJ2_indexOfChar_4cfef_2 : decode cJ2_indexOfChar_4cfef 2 = .ok (.aload_n 0, 1) := by decide +kernel
theorem dJ2_indexOfChar_4cfef_3 : decode cJ2_indexOfChar_4cfef 3 = .ok (.invokestatic 96, 3) := by decide +kernel
theorem dJ2_indexOfChar_4cfef_6 : decode cJ2_indexOfChar_4cfef 6 = .ok (.aload_n 0, 1) := by decide +kernel
theorem dJ2_indexOfChar_4cfef_7 : decode cJ2_indexOfChar_4cfef 7 = .ok (.iload_n 1, 1) := by decide +kernel
theorem dJ2_indexOfChar_4cfef_8 : decode cJ2_indexOfChar_4cfef 8 = .ok (.iload_n 2, 1) := by decide +kernel
theorem dJ2_indexOfChar_4cfef_9 : decode cJ2_indexOfChar_4cfef 9 = .ok (.iload_n 3, 1) := by decide +kernel
theorem dJ2_indexOfChar_4cfef_10 : decode cJ2_indexOfChar_4cfef 10 = .ok (.invokestatic 244, 3) := by decide +kernel
theorem dJ2_indexOfChar_4cfef_13 : decode cJ2_indexOfChar_4cfef 13 = .ok (.ireturn, 1) := by decide +kernel
theorem dJ2_indexOfCharUnsafe_4cfef_0 : decode cJ2_indexOfCharUnsafe_4cfef 0 = .ok (.iload_n 2, 1) := by decide +kernel
theorem dJ2_indexOfCharUnsafe_4cfef_1 : decode cJ2_indexOfCharUnsafe_4cfef 1 = .ok (.istore 4, 2) := by decide +kernel
theorem dJ2_indexOfCharUnsafe_4cfef_3 : decode cJ2_indexOfCharUnsafe_4cfef 3 = .ok (.iload 4, 2) := by decide +kernel
theorem dJ2_indexOfCharUnsafe_4cfef_5 : decode cJ2_indexOfCharUnsafe_4cfef 5 = .ok (.iload_n 3, 1) := by decide +kernel
theorem dJ2_indexOfCharUnsafe_4cfef_6 : decode cJ2_indexOfCharUnsafe_4cfef 6 = .ok (.if_icmp .ge 22, 3) := by decide +kernel
theorem dJ2_indexOfCharUnsafe_4cfef_9 : decode cJ2_indexOfCharUnsafe_4cfef 9 = .ok (.aload_n 0, 1) := by decide +kernel
theorem dJ2_indexOfCharUnsafe_4cfef_10 : decode cJ2_indexOfCharUnsafe_4cfef 10 = .ok (.iload 4, 2) := by decide +kernel
theorem dJ2_indexOfCharUnsafe_4cfef_12 : decode cJ2_indexOfCharUnsafe_4cfef 12 = .ok (.invokestatic 71, 3) := by decide +kernel
theorem dJ2_indexOfCharUnsafe_4cfef_15 : decode cJ2_indexOfCharUnsafe_4cfef 15 = .ok (.iload_n 1, 1) := by decide +kernel
theorem dJ2_indexOfCharUnsafe_4cfef_16 : decode cJ2_indexOfCharUnsafe_4cfef 16 = .ok (.if_icmp .ne 6, 3) := by decide +kernel
theorem dJ2_indexOfCharUnsafe_4cfef_19 : decode cJ2_indexOfCharUnsafe_4cfef 19 = .ok (.iload 4, 2) := by decide +kernel
theorem dJ2_indexOfCharUnsafe_4cfef_21 : decode cJ2_indexOfCharUnsafe_4cfef 21 = .ok (.ireturn, 1) := by decide +kernel
theorem dJ2_indexOfCharUnsafe_4cfef_22 : decode cJ2_indexOfCharUnsafe_4cfef 22 = .ok (.iinc 4 1, 3) := by decide +kernel
theorem dJ2_indexOfCharUnsafe_4cfef_25 : decode cJ2_indexOfCharUnsafe_4cfef 25 = .ok (.goto (-22), 3) := by decide +kernel
theorem dJ2_indexOfCharUnsafe_4cfef_28 : decode cJ2_indexOfCharUnsafe_4cfef 28 = .ok (.iconst (-1), 1) := by decide +kernel
theorem dJ2_indexOfCharUnsafe_4cfef_29 : decode cJ2_indexOfCharUnsafe_4cfef 29 = .ok (.ireturn, 1) := by decide +kernel
theorem dJ2_indexOfSupplementary_4cfef_0 : decode cJ2_indexOfSupplementary_4cfef 0 = .ok (.iload_n 1, 1) := by decide +kernel
theorem dJ2_indexOfSupplementary_4cfef_1 : decode cJ2_indexOfSupplementary_4cfef 1 = .ok (.invokestatic 164, 3) := by decide +kernel
theorem dJ2_indexOfSupplementary_4cfef_4 : decode cJ2_indexOfSupplementary_4cfef 4 = .ok (.ifCond .eq 65, 3) := by decide +kernel
theorem dJ2_indexOfSupplementary_4cfef_7 : decode cJ2_indexOfSupplementary_4cfef 7 = .ok (.iload_n 1, 1) := by decide +kernel
theorem dJ2_indexOfSupplementary_4cfef_8 : decode cJ2_indexOfSupplementary_4cfef 8 = .ok (.invokestatic 157, 3) := by decide +kernel
theorem dJ2_indexOfSupplementary_4cfef_11 : decode cJ2_indexOfSupplementary_4cfef 11 = .ok (.istore 4, 2) := by decide +kernel
theorem dJ2_indexOfSupplementary_4cfef_13 : decode cJ2_indexOfSupplementary_4cfef 13 = .ok (.iload_n 1, 1) := by decide +kernel
theorem dJ2_indexOfSupplementary_4cfef_14 : decode cJ2_indexOfSupplementary_4cfef 14 = .ok (.invokestatic 161, 3) := by decide +kernel
theorem dJ2_indexOfSupplementary_4cfef_17 : decode cJ2_indexOfSupplementary_4cfef 17 = .ok (.istore 5, 2) := by decide +kernel
theorem dJ2_indexOfSupplementary_4cfef_19 : decode cJ2_indexOfSupplementary_4cfef 19 = .ok (.iload_n 2, 1) := by decide +kernel
theorem dJ2_indexOfSupplementary_4cfef_20 : decode cJ2_indexOfSupplementary_4cfef 20 = .ok (.iload_n 3, 1) := by decide +kernel
theorem dJ2_indexOfSupplementary_4cfef_21 : decode cJ2_indexOfSupplementary_4cfef 21 = .ok (.aload_n 0, 1) := by decide +kernel
theorem dJ2_indexOfSupplementary_4cfef_22 : decode cJ2_indexOfSupplementary_4cfef 22 = .ok (.invokestatic 96, 3) := by decide +kernel
theorem dJ2_indexOfSupplementary_4cfef_25 : decode cJ2_indexOfSupplementary_4cfef 25 = .ok (.iload_n 2, 1) := by decide +kernel
theorem dJ2_indexOfSupplementary_4cfef_26 : decode cJ2_indexOfSupplementary_4cfef 26 = .ok (.istore 6, 2) := by decide +kernel
theorem dJ2_indexOfSupplementary_4cfef_28 : decode cJ2_indexOfSupplementary_4cfef 28 = .ok (.iload 6, 2) := by decide +kernel
theorem dJ2_indexOfSupplementary_4cfef_30 : decode cJ2_indexOfSupplementary_4cfef 30 = .ok (.iload_n 3, 1) := by decide +kernel
theorem dJ2_indexOfSupplementary_4cfef_31 : decode cJ2_indexOfSupplementary_4cfef 31 = .ok (.iconst 1, 1) := by decide +kernel
theorem dJ2_indexOfSupplementary_4cfef_32 : decode cJ2_indexOfSupplementary_4cfef 32 = .ok (.isub, 1) := by decide +kernel
theorem dJ2_indexOfSupplementary_4cfef_33 : decode cJ2_indexOfSupplementary_4cfef 33 = .ok (.if_icmp .ge 36, 3) := by decide +kernel
theorem dJ2_indexOfSupplementary_4cfef_36 : decode cJ2_indexOfSupplementary_4cfef 36 = .ok (.aload_n 0, 1) := by decide +kernel
theorem dJ2_indexOfSupplementary_4cfef_37 : decode cJ2_indexOfSupplementary_4cfef 37 = .ok (.iload 6, 2) := by decide +kernel
theorem dJ2_indexOfSupplementary_4cfef_39 : decode cJ2_indexOfSupplementary_4cfef 39 = .ok (.invokestatic 71, 3) := by decide +kernel
theorem dJ2_indexOfSupplementary_4cfef_42 : decode cJ2_indexOfSupplementary_4cfef 42 = .ok (.iload 4, 2) := by decide +kernel
theorem dJ2_indexOfSupplementary_4cfef_44 : decode cJ2_indexOfSupplementary_4cfef 44 = .ok (.if_icmp .ne 19, 3) := by decide +kernel
theorem dJ2_indexOfSupplementary_4cfef_47 : decode cJ2_indexOfSupplementary_4cfef 47 = .ok (.aload_n 0, 1) := by decide +kernel
theorem dJ2_indexOfSupplementary_4cfef_48 : decode cJ2_indexOfSupplementary_4cfef 48 = .ok (.iload 6, 2) := by decide +kernel
theorem dJ2_indexOfSupplementary_4cfef_50 : decode cJ2_indexOfSupplementary_4cfef 50 = .ok (.iconst 1, 1) := by decide +kernel
theorem dJ2_indexOfSupplementary_4cfef_51 : decode cJ2_indexOfSupplementary_4cfef 51 = .ok (.iadd, 1) := by decide +kernel
theorem dJ2_indexOfSupplementary_4cfef_52 : decode cJ2_indexOfSupplementary_4cfef 52 = .ok (.invokestatic 71, 3) := by decide +kernel
theorem dJ2_indexOfSupplementary_4cfef_55 : decode cJ2_indexOfSupplementary_4cfef 55 = .ok (.iload 5, 2) := by decide +kernel
theorem dJ2_indexOfSupplementary_4cfef_57 : decode cJ2_indexOfSupplementary_4cfef 57 = .ok (.if_icmp .ne 6, 3) := by decide +kernel
theorem dJ2_indexOfSupplementary_4cfef_60 : decode cJ2_indexOfSupplementary_4cfef 60 = .ok (.iload 6, 2) := by decide +kernel
theorem dJ2_indexOfSupplementary_4cfef_62 : decode cJ2_indexOfSupplementary_4cfef 62 = .ok (.ireturn, 1) := by decide +kernel
theorem dJ2_indexOfSupplementary_4cfef_63 : decode cJ2_indexOfSupplementary_4cfef 63 = .ok (.iinc 6 1, 3) := by decide +kernel
theorem dJ2_indexOfSupplementary_4cfef_66 : decode cJ2_indexOfSupplementary_4cfef 66 = .ok (.goto (-38), 3) := by decide +kernel
theorem dJ2_indexOfSupplementary_4cfef_69 : decode cJ2_indexOfSupplementary_4cfef 69 = .ok (.iconst (-1), 1) := by decide +kernel
theorem dJ2_indexOfSupplementary_4cfef_70 : decode cJ2_indexOfSupplementary_4cfef 70 = .ok (.ireturn, 1) := by decide +kernel
theorem dJ2_charAt_3b067_0 : decode cJ2_charAt_3b067 0 = .ok (.iload_n 1, 1) := by decide +kernel
theorem dJ2_charAt_3b067_1 : decode cJ2_charAt_3b067 1 = .ok (.aload_n 0, 1) := by decide +kernel
theorem dJ2_charAt_3b067_2 : decode cJ2_charAt_3b067 2 = .ok (.invokestatic 67, 3) := by decide +kernel
theorem dJ2_charAt_3b067_5 : decode cJ2_charAt_3b067 5 = .ok (.aload_n 0, 1) := by decide +kernel
theorem dJ2_charAt_3b067_6 : decode cJ2_charAt_3b067 6 = .ok (.iload_n 1, 1) := by decide +kernel
theorem dJ2_charAt_3b067_7 : decode cJ2_charAt_3b067 7 = .ok (.invokestatic 71, 3) := by decide +kernel
theorem dJ2_charAt_3b067_10 : decode cJ2_charAt_3b067 10 = .ok (.ireturn, 1) := by decide +kernel
theorem dJ2_checkIndex_2214a_0 : decode cJ2_checkIndex_2214a 0 = .ok (.iload_n 0, 1) := by decide +kernel
theorem dJ2_checkIndex_2214a_1 : decode cJ2_checkIndex_2214a 1 = .ok (.aload_n 1, 1) := by decide +kernel
theorem dJ2_checkIndex_2214a_2 : decode cJ2_checkIndex_2214a 2 = .ok (.invokestatic 48, 3) := by decide +kernel
theorem dJ2_checkIndex_2214a_5 : decode cJ2_checkIndex_2214a 5 = .ok (.invokestatic 414, 3) := by decide +kernel
theorem dJ2_checkIndex_2214a_8 : decode cJ2_checkIndex_2214a 8 = .ok (.return_, 1) := by decide +kernel
theorem dJ2_checkBoundsBeginEnd_d044e_0 : decode cJ2_checkBoundsBeginEnd_d044e 0 = .ok (.iload_n 0, 1) := by decide +kernel
theorem dJ2_checkBoundsBeginEnd_d044e_1 : decode cJ2_checkBoundsBeginEnd_d044e 1 = .ok (.iload_n 1, 1) := by decide +kernel
theorem dJ2_checkBoundsBeginEnd_d044e_2 : decode cJ2_checkBoundsBeginEnd_d044e 2 = .ok (.aload_n 2, 1) := by decide +kernel
theorem dJ2_checkBoundsBeginEnd_d044e_3 : decode cJ2_checkBoundsBeginEnd_d044e 3 = .ok (.invokestatic 48, 3) := by decide +kernel
theorem dJ2_checkBoundsBeginEnd_d044e_6 : decode cJ2_checkBoundsBeginEnd_d044e 6 = .ok (.invokestatic 241, 3) := by decide +kernel
theorem dJ2_checkBoundsBeginEnd_d044e_9 : decode cJ2_checkBoundsBeginEnd_d044e 9 = .ok (.return_, 1) := by decide +kernel
theorem dJ7_fill_53178_0 : decode cJ7_fill_53178 0 = .ok (.iconst 0, 1) := by decide +kernel
theorem dJ7_fill_53178_1 : decode cJ7_fill_53178 1 = .ok (.istore_n 2, 1) := by decide +kernel
theorem dJ7_fill_53178_2 : decode cJ7_fill_53178 2 = .ok (.aload_n 0, 1) := by decide +kernel
theorem dJ7_fill_53178_3 : decode cJ7_fill_53178 3 = .ok (.arraylength, 1) := by decide +kernel
theorem dJ7_fill_53178_4 : decode cJ7_fill_53178 4 = .ok (.istore_n 3, 1) := by decide +kernel
theorem dJ7_fill_53178_5 : decode cJ7_fill_53178 5 = .ok (.iload_n 2, 1) := by decide +kernel
theorem dJ7_fill_53178_6 : decode cJ7_fill_53178 6 = .ok (.iload_n 3, 1) := by decide +kernel
theorem dJ7_fill_53178_7 : decode cJ7_fill_53178 7 = .ok (.if_icmp .ge 13, 3) := by decide +kernel
theorem dJ7_fill_53178_10 : decode cJ7_fill_53178 10 = .ok (.aload_n 0, 1) := by decide +kernel
theorem dJ7_fill_53178_11 : decode cJ7_fill_53178 11 = .ok (.iload_n 2, 1) := by decide +kernel
theorem dJ7_fill_53178_12 : decode cJ7_fill_53178 12 = .ok (.iload_n 1, 1) := by decide +kernel
theorem dJ7_fill_53178_13 : decode cJ7_fill_53178 13 = .ok (.iastore, 1) := by decide +kernel
theorem dJ7_fill_53178_14 : decode cJ7_fill_53178 14 = .ok (.iinc 2 1, 3) := by decide +kernel
theorem dJ7_fill_53178_17 : decode cJ7_fill_53178 17 = .ok (.goto (-12), 3) := by decide +kernel
theorem dJ7_fill_53178_20 : decode cJ7_fill_53178 20 = .ok (.return_, 1) := by decide +kernel
theorem dJ3_checkIndex_8e157_0 : decode cJ3_checkIndex_8e157 0 = .ok (.iload_n 0, 1) := by decide +kernel
theorem dJ3_checkIndex_8e157_1 : decode cJ3_checkIndex_8e157 1 = .ok (.ifCond .lt 8, 3) := by decide +kernel
theorem dJ3_checkIndex_8e157_4 : decode cJ3_checkIndex_8e157 4 = .ok (.iload_n 0, 1) := by decide +kernel
theorem dJ3_checkIndex_8e157_5 : decode cJ3_checkIndex_8e157 5 = .ok (.iload_n 1, 1) := by decide +kernel
theorem dJ3_checkIndex_8e157_6 : decode cJ3_checkIndex_8e157 6 = .ok (.if_icmp .lt 10, 3) := by decide +kernel
theorem dJ3_checkIndex_8e157_9 : decode cJ3_checkIndex_8e157 9 = .ok (.aload_n 2, 1) := by decide +kernel
theorem dJ3_checkIndex_8e157_10 : decode cJ3_checkIndex_8e157 10 = .ok (.iload_n 0, 1) := by decide +kernel
theorem dJ3_checkIndex_8e157_11 : decode cJ3_checkIndex_8e157 11 = .ok (.iload_n 1, 1) := by decide +kernel
theorem dJ3_checkIndex_8e157_12 : decode cJ3_checkIndex_8e157 12 = .ok (.invokestatic 95, 3) := by decide +kernel
theorem dJ3_checkIndex_8e157_15 : decode cJ3_checkIndex_8e157 15 = .ok (.athrow, 1) := by decide +kernel
theorem dJ3_checkIndex_8e157_16 : decode cJ3_checkIndex_8e157 16 = .ok (.iload_n 0, 1) := by decide +kernel
theorem dJ3_checkIndex_8e157_17 : decode cJ3_checkIndex_8e157 17 = .ok (.ireturn, 1) := by decide +kernel
theorem dJ3_checkFromToIndex_8c36e_0 : decode cJ3_checkFromToIndex_8c36e 0 = .ok (.iload_n 0, 1) := by decide +kernel
theorem dJ3_checkFromToIndex_8c36e_1 : decode cJ3_checkFromToIndex_8c36e 1 = .ok (.ifCond .lt 13, 3) := by decide +kernel
theorem dJ3_checkFromToIndex_8c36e_4 : decode cJ3_checkFromToIndex_8c36e 4 = .ok (.iload_n 0, 1) := by decide +kernel
theorem dJ3_checkFromToIndex_8c36e_5 : decode cJ3_checkFromToIndex_8c36e 5 = .ok (.iload_n 1, 1) := by decide +kernel
theorem dJ3_checkFromToIndex_8c36e_6 : decode cJ3_checkFromToIndex_8c36e 6 = .ok (.if_icmp .gt 8, 3) := by decide +kernel
theorem dJ3_checkFromToIndex_8c36e_9 : decode cJ3_checkFromToIndex_8c36e 9 = .ok (.iload_n 1, 1) := by decide +kernel
theorem dJ3_checkFromToIndex_8c36e_10 : decode cJ3_checkFromToIndex_8c36e 10 = .ok (.iload_n 2, 1) := by decide +kernel
theorem dJ3_checkFromToIndex_8c36e_11 : decode cJ3_checkFromToIndex_8c36e 11 = .ok (.if_icmp .le 11, 3) := by decide +kernel
theorem dJ3_checkFromToIndex_8c36e_14 : decode cJ3_checkFromToIndex_8c36e 14 = .ok (.aload_n 3, 1) := by decide +kernel
theorem dJ3_checkFromToIndex_8c36e_15 : decode cJ3_checkFromToIndex_8c36e 15 = .ok (.iload_n 0, 1) := by decide +kernel
theorem dJ3_checkFromToIndex_8c36e_16 : decode cJ3_checkFromToIndex_8c36e 16 = .ok (.iload_n 1, 1) := by decide +kernel
theorem dJ3_checkFromToIndex_8c36e_17 : decode cJ3_checkFromToIndex_8c36e 17 = .ok (.iload_n 2, 1) := by decide +kernel
theorem dJ3_checkFromToIndex_8c36e_18 : decode cJ3_checkFromToIndex_8c36e 18 = .ok (.invokestatic 99, 3) := by decide +kernel
theorem dJ3_checkFromToIndex_8c36e_21 : decode cJ3_checkFromToIndex_8c36e 21 = .ok (.athrow, 1) := by decide +kernel
theorem dJ3_checkFromToIndex_8c36e_22 : decode cJ3_checkFromToIndex_8c36e 22 = .ok (.iload_n 0, 1) := by decide +kernel
theorem dJ3_checkFromToIndex_8c36e_23 : decode cJ3_checkFromToIndex_8c36e 23 = .ok (.ireturn, 1) := by decide +kernel
theorem dL_node_0 : decode cL_node 0 = .ok (.aload_n 3, 1) := by decide +kernel
theorem dL_node_1 : decode cL_node 1 = .ok (.iconst 0, 1) := by decide +kernel
theorem dL_node_2 : decode cL_node 2 = .ok (.aload_n 0, 1) := by decide +kernel
theorem dL_node_3 : decode cL_node 3 = .ok (.iload_n 1, 1) := by decide +kernel
theorem dL_node_4 : decode cL_node 4 = .ok (.iload_n 2, 1) := by decide +kernel
theorem dL_node_5 : decode cL_node 5 = .ok (.invokevirtual 7, 3) := by decide +kernel
theorem dL_node_8 : decode cL_node 8 = .ok (.i2l, 1) := by decide +kernel
theorem dL_node_9 : decode cL_node 9 = .ok (.lastore, 1) := by decide +kernel
theorem dL_node_10 : decode cL_node 10 = .ok (.goto 7, 3) := by decide +kernel
theorem dL_node_13 : decode cL_node 13 = .ok (.astore 4, 2) := by decide +kernel
theorem dL_node_15 : decode cL_node 15 = .ok (.iconst 1, 1) := by decide +kernel
theorem dL_node_16 : decode cL_node 16 = .ok (.ireturn, 1) := by decide +kernel
theorem dL_node_17 : decode cL_node 17 = .ok (.iconst 0, 1) := by decide +kernel
theorem dL_node_18 : decode cL_node 18 = .ok (.ireturn, 1) := by decide +kernel
theorem dL_test_0 : decode cL_test 0 = .ok (.aload_n 3, 1) := by decide +kernel
theorem dL_test_1 : decode cL_test 1 = .ok (.iconst 0, 1) := by decide +kernel
theorem dL_test_2 : decode cL_test 2 = .ok (.aload_n 0, 1) := by decide +kernel
theorem dL_test_3 : decode cL_test 3 = .ok (.iload_n 1, 1) := by decide +kernel
theorem dL_test_4 : decode cL_test 4 = .ok (.iload_n 2, 1) := by decide +kernel
theorem dL_test_5 : decode cL_test 5 = .ok (.invokevirtual 15, 3) := by decide +kernel
theorem dL_test_8 : decode cL_test 8 = .ok (.i2l, 1) := by decide +kernel
theorem dL_test_9 : decode cL_test 9 = .ok (.lastore, 1) := by decide +kernel
theorem dL_test_10 : decode cL_test 10 = .ok (.goto 7, 3) := by decide +kernel
theorem dL_test_13 : decode cL_test 13 = .ok (.astore 4, 2) := by decide +kernel
theorem dL_test_15 : decode cL_test 15 = .ok (.iconst 1, 1) := by decide +kernel
theorem dL_test_16 : decode cL_test 16 = .ok (.ireturn, 1) := by decide +kernel
theorem dL_test_17 : decode cL_test 17 = .ok (.iconst 0, 1) := by decide +kernel
theorem dL_test_18 : decode cL_test 18 = .ok (.ireturn, 1) := by decide +kernel
theorem dL_law_0 : decode cL_law 0 = .ok (.new 8, 3) := by decide +kernel
theorem dL_law_3 : decode cL_law 3 = .ok (.dup, 1) := by decide +kernel
theorem dL_law_4 : decode cL_law 4 = .ok (.invokespecial 18, 3) := by decide +kernel
theorem dL_law_7 : decode cL_law 7 = .ok (.astore_n 1, 1) := by decide +kernel
theorem dL_law_8 : decode cL_law 8 = .ok (.new 19, 3) := by decide +kernel
theorem dL_law_11 : decode cL_law 11 = .ok (.dup, 1) := by decide +kernel
theorem dL_law_12 : decode cL_law 12 = .ok (.invokespecial 21, 3) := by decide +kernel
theorem dL_law_15 : decode cL_law 15 = .ok (.astore_n 2, 1) := by decide +kernel
theorem dL_law_16 : decode cL_law 16 = .ok (.iconst 1, 1) := by decide +kernel
theorem dL_law_17 : decode cL_law 17 = .ok (.newarray .long, 2) := by decide +kernel
theorem dL_law_19 : decode cL_law 19 = .ok (.astore_n 3, 1) := by decide +kernel
theorem dL_law_20 : decode cL_law 20 = .ok (.iconst 0, 1) := by decide +kernel
theorem dL_law_21 : decode cL_law 21 = .ok (.istore 4, 2) := by decide +kernel
theorem dL_law_23 : decode cL_law 23 = .ok (.iload 4, 2) := by decide +kernel
theorem dL_law_25 : decode cL_law 25 = .ok (.aload_n 0, 1) := by decide +kernel
theorem dL_law_26 : decode cL_law 26 = .ok (.arraylength, 1) := by decide +kernel
theorem dL_law_27 : decode cL_law 27 = .ok (.bipush 6, 2) := by decide +kernel
theorem dL_law_29 : decode cL_law 29 = .ok (.isub, 1) := by decide +kernel
theorem dL_law_30 : decode cL_law 30 = .ok (.if_icmp .gt 969, 3) := by decide +kernel
theorem dL_law_33 : decode cL_law 33 = .ok (.aload_n 0, 1) := by decide +kernel
theorem dL_law_34 : decode cL_law 34 = .ok (.iload 4, 2) := by decide +kernel
theorem dL_law_36 : decode cL_law 36 = .ok (.iaload, 1) := by decide +kernel
theorem dL_law_37 : decode cL_law 37 = .ok (.bipush 31, 2) := by decide +kernel
theorem dL_law_39 : decode cL_law 39 = .ok (.iand, 1) := by decide +kernel
theorem dL_law_40 : decode cL_law 40 = .ok (.tableswitch 953 0 22 #[108, 181, 206, 231, 299, 367, 404, 441, 478, 515, 564, 601, 626, 675, 712, 725, 738, 763, 800, 853, 878, 915, 928], 108) := by decide +kernel
theorem dL_law_148 : decode cL_law 148 = .ok (.aload_n 1, 1) := by decide +kernel
theorem dL_law_149 : decode cL_law 149 = .ok (.aload_n 0, 1) := by decide +kernel
theorem dL_law_150 : decode cL_law 150 = .ok (.iload 4, 2) := by decide +kernel
theorem dL_law_152 : decode cL_law 152 = .ok (.iconst 1, 1) := by decide +kernel
theorem dL_law_153 : decode cL_law 153 = .ok (.iadd, 1) := by decide +kernel
theorem dL_law_154 : decode cL_law 154 = .ok (.iaload, 1) := by decide +kernel
theorem dL_law_155 : decode cL_law 155 = .ok (.aload_n 0, 1) := by decide +kernel
theorem dL_law_156 : decode cL_law 156 = .ok (.iload 4, 2) := by decide +kernel
theorem dL_law_158 : decode cL_law 158 = .ok (.iconst 2, 1) := by decide +kernel
theorem dL_law_159 : decode cL_law 159 = .ok (.iadd, 1) := by decide +kernel
theorem dL_law_160 : decode cL_law 160 = .ok (.iaload, 1) := by decide +kernel
theorem dL_law_161 : decode cL_law 161 = .ok (.aload_n 0, 1) := by decide +kernel
theorem dL_law_162 : decode cL_law 162 = .ok (.iload 4, 2) := by decide +kernel
theorem dL_law_164 : decode cL_law 164 = .ok (.iconst 3, 1) := by decide +kernel
theorem dL_law_165 : decode cL_law 165 = .ok (.iadd, 1) := by decide +kernel
theorem dL_law_166 : decode cL_law 166 = .ok (.iaload, 1) := by decide +kernel
theorem dL_law_167 : decode cL_law 167 = .ok (.aload_n 0, 1) := by decide +kernel
theorem dL_law_168 : decode cL_law 168 = .ok (.iload 4, 2) := by decide +kernel
theorem dL_law_170 : decode cL_law 170 = .ok (.iconst 4, 1) := by decide +kernel
theorem dL_law_171 : decode cL_law 171 = .ok (.iadd, 1) := by decide +kernel
theorem dL_law_172 : decode cL_law 172 = .ok (.iaload, 1) := by decide +kernel
theorem dL_law_173 : decode cL_law 173 = .ok (.aload_n 0, 1) := by decide +kernel
theorem dL_law_174 : decode cL_law 174 = .ok (.iload 4, 2) := by decide +kernel
theorem dL_law_176 : decode cL_law 176 = .ok (.iconst 5, 1) := by decide +kernel
theorem dL_law_177 : decode cL_law 177 = .ok (.iadd, 1) := by decide +kernel
theorem dL_law_178 : decode cL_law 178 = .ok (.iaload, 1) := by decide +kernel
theorem dL_law_179 : decode cL_law 179 = .ok (.invokevirtual 22, 3) := by decide +kernel
theorem dL_law_182 : decode cL_law 182 = .ok (.aload_n 2, 1) := by decide +kernel
theorem dL_law_183 : decode cL_law 183 = .ok (.aload_n 0, 1) := by decide +kernel
theorem dL_law_184 : decode cL_law 184 = .ok (.iload 4, 2) := by decide +kernel
theorem dL_law_186 : decode cL_law 186 = .ok (.iconst 1, 1) := by decide +kernel
theorem dL_law_187 : decode cL_law 187 = .ok (.iadd, 1) := by decide +kernel
theorem dL_law_188 : decode cL_law 188 = .ok (.iaload, 1) := by decide +kernel
theorem dL_law_189 : decode cL_law 189 = .ok (.aload_n 0, 1) := by decide +kernel
theorem dL_law_190 : decode cL_law 190 = .ok (.iload 4, 2) := by decide +kernel
theorem dL_law_192 : decode cL_law 192 = .ok (.iconst 2, 1) := by decide +kernel
theorem dL_law_193 : decode cL_law 193 = .ok (.iadd, 1) := by decide +kernel
theorem dL_law_194 : decode cL_law 194 = .ok (.iaload, 1) := by decide +kernel
theorem dL_law_195 : decode cL_law 195 = .ok (.aload_n 0, 1) := by decide +kernel
theorem dL_law_196 : decode cL_law 196 = .ok (.iload 4, 2) := by decide +kernel
theorem dL_law_198 : decode cL_law 198 = .ok (.iconst 3, 1) := by decide +kernel
theorem dL_law_199 : decode cL_law 199 = .ok (.iadd, 1) := by decide +kernel
theorem dL_law_200 : decode cL_law 200 = .ok (.iaload, 1) := by decide +kernel
theorem dL_law_201 : decode cL_law 201 = .ok (.aload_n 0, 1) := by decide +kernel
theorem dL_law_202 : decode cL_law 202 = .ok (.iload 4, 2) := by decide +kernel
theorem dL_law_204 : decode cL_law 204 = .ok (.iconst 4, 1) := by decide +kernel
theorem dL_law_205 : decode cL_law 205 = .ok (.iadd, 1) := by decide +kernel
theorem dL_law_206 : decode cL_law 206 = .ok (.iaload, 1) := by decide +kernel
theorem dL_law_207 : decode cL_law 207 = .ok (.aload_n 0, 1) := by decide +kernel
theorem dL_law_208 : decode cL_law 208 = .ok (.iload 4, 2) := by decide +kernel
theorem dL_law_210 : decode cL_law 210 = .ok (.iconst 5, 1) := by decide +kernel
theorem dL_law_211 : decode cL_law 211 = .ok (.iadd, 1) := by decide +kernel
theorem dL_law_212 : decode cL_law 212 = .ok (.iaload, 1) := by decide +kernel
theorem dL_law_213 : decode cL_law 213 = .ok (.invokevirtual 26, 3) := by decide +kernel
theorem dL_law_216 : decode cL_law 216 = .ok (.if_icmp .eq 777, 3) := by decide +kernel
theorem dL_law_219 : decode cL_law 219 = .ok (.iconst 0, 1) := by decide +kernel
theorem dL_law_220 : decode cL_law 220 = .ok (.ireturn, 1) := by decide +kernel
theorem dL_law_221 : decode cL_law 221 = .ok (.aload_n 1, 1) := by decide +kernel
theorem dL_law_222 : decode cL_law 222 = .ok (.aload_n 0, 1) := by decide +kernel
theorem dL_law_223 : decode cL_law 223 = .ok (.iload 4, 2) := by decide +kernel
theorem dL_law_225 : decode cL_law 225 = .ok (.iconst 1, 1) := by decide +kernel
theorem dL_law_226 : decode cL_law 226 = .ok (.iadd, 1) := by decide +kernel
theorem dL_law_227 : decode cL_law 227 = .ok (.iaload, 1) := by decide +kernel
theorem dL_law_228 : decode cL_law 228 = .ok (.invokevirtual 27, 3) := by decide +kernel
theorem dL_law_231 : decode cL_law 231 = .ok (.aload_n 2, 1) := by decide +kernel
theorem dL_law_232 : decode cL_law 232 = .ok (.aload_n 0, 1) := by decide +kernel
theorem dL_law_233 : decode cL_law 233 = .ok (.iload 4, 2) := by decide +kernel
theorem dL_law_235 : decode cL_law 235 = .ok (.iconst 1, 1) := by decide +kernel
theorem dL_law_236 : decode cL_law 236 = .ok (.iadd, 1) := by decide +kernel
theorem dL_law_237 : decode cL_law 237 = .ok (.iaload, 1) := by decide +kernel
theorem dL_law_238 : decode cL_law 238 = .ok (.invokevirtual 31, 3) := by decide +kernel
theorem dL_law_241 : decode cL_law 241 = .ok (.if_icmp .eq 752, 3) := by decide +kernel
theorem dL_law_244 : decode cL_law 244 = .ok (.iconst 0, 1) := by decide +kernel
theorem dL_law_245 : decode cL_law 245 = .ok (.ireturn, 1) := by decide +kernel
theorem dL_law_246 : decode cL_law 246 = .ok (.aload_n 1, 1) := by decide +kernel
theorem dL_law_247 : decode cL_law 247 = .ok (.aload_n 0, 1) := by decide +kernel
theorem dL_law_248 : decode cL_law 248 = .ok (.iload 4, 2) := by decide +kernel
theorem dL_law_250 : decode cL_law 250 = .ok (.iconst 1, 1) := by decide +kernel
theorem dL_law_251 : decode cL_law 251 = .ok (.iadd, 1) := by decide +kernel
theorem dL_law_252 : decode cL_law 252 = .ok (.iaload, 1) := by decide +kernel
theorem dL_law_253 : decode cL_law 253 = .ok (.invokevirtual 32, 3) := by decide +kernel
theorem dL_law_256 : decode cL_law 256 = .ok (.aload_n 2, 1) := by decide +kernel
theorem dL_law_257 : decode cL_law 257 = .ok (.aload_n 0, 1) := by decide +kernel
theorem dL_law_258 : decode cL_law 258 = .ok (.iload 4, 2) := by decide +kernel
theorem dL_law_260 : decode cL_law 260 = .ok (.iconst 1, 1) := by decide +kernel
theorem dL_law_261 : decode cL_law 261 = .ok (.iadd, 1) := by decide +kernel
theorem dL_law_262 : decode cL_law 262 = .ok (.iaload, 1) := by decide +kernel
theorem dL_law_263 : decode cL_law 263 = .ok (.invokevirtual 35, 3) := by decide +kernel
theorem dL_law_266 : decode cL_law 266 = .ok (.if_icmp .eq 727, 3) := by decide +kernel
theorem dL_law_269 : decode cL_law 269 = .ok (.iconst 0, 1) := by decide +kernel
theorem dL_law_270 : decode cL_law 270 = .ok (.ireturn, 1) := by decide +kernel
theorem dL_law_271 : decode cL_law 271 = .ok (.aload_n 1, 1) := by decide +kernel
theorem dL_law_272 : decode cL_law 272 = .ok (.aload_n 0, 1) := by decide +kernel
theorem dL_law_273 : decode cL_law 273 = .ok (.iload 4, 2) := by decide +kernel
theorem dL_law_275 : decode cL_law 275 = .ok (.iconst 1, 1) := by decide +kernel
theorem dL_law_276 : decode cL_law 276 = .ok (.iadd, 1) := by decide +kernel
theorem dL_law_277 : decode cL_law 277 = .ok (.iaload, 1) := by decide +kernel
theorem dL_law_278 : decode cL_law 278 = .ok (.aload_n 0, 1) := by decide +kernel
theorem dL_law_279 : decode cL_law 279 = .ok (.iload 4, 2) := by decide +kernel
theorem dL_law_281 : decode cL_law 281 = .ok (.iconst 2, 1) := by decide +kernel
theorem dL_law_282 : decode cL_law 282 = .ok (.iadd, 1) := by decide +kernel
theorem dL_law_283 : decode cL_law 283 = .ok (.iaload, 1) := by decide +kernel
theorem dL_law_284 : decode cL_law 284 = .ok (.aload_n 3, 1) := by decide +kernel
theorem dL_law_285 : decode cL_law 285 = .ok (.invokestatic 36, 3) := by decide +kernel
theorem dL_law_288 : decode cL_law 288 = .ok (.istore 5, 2) := by decide +kernel
theorem dL_law_290 : decode cL_law 290 = .ok (.aload_n 2, 1) := by decide +kernel
theorem dL_law_291 : decode cL_law 291 = .ok (.aload_n 0, 1) := by decide +kernel
theorem dL_law_292 : decode cL_law 292 = .ok (.iload 4, 2) := by decide +kernel
theorem dL_law_294 : decode cL_law 294 = .ok (.iconst 1, 1) := by decide +kernel
theorem dL_law_295 : decode cL_law 295 = .ok (.iadd, 1) := by decide +kernel
theorem dL_law_296 : decode cL_law 296 = .ok (.iaload, 1) := by decide +kernel
theorem dL_law_297 : decode cL_law 297 = .ok (.aload_n 0, 1) := by decide +kernel
theorem dL_law_298 : decode cL_law 298 = .ok (.iload 4, 2) := by decide +kernel
theorem dL_law_300 : decode cL_law 300 = .ok (.iconst 2, 1) := by decide +kernel
theorem dL_law_301 : decode cL_law 301 = .ok (.iadd, 1) := by decide +kernel
theorem dL_law_302 : decode cL_law 302 = .ok (.iaload, 1) := by decide +kernel
theorem dL_law_303 : decode cL_law 303 = .ok (.invokevirtual 41, 3) := by decide +kernel
theorem dL_law_306 : decode cL_law 306 = .ok (.istore 6, 2) := by decide +kernel
theorem dL_law_308 : decode cL_law 308 = .ok (.aload_n 2, 1) := by decide +kernel
theorem dL_law_309 : decode cL_law 309 = .ok (.invokevirtual 42, 3) := by decide +kernel
theorem dL_law_312 : decode cL_law 312 = .ok (.iload 5, 2) := by decide +kernel
theorem dL_law_314 : decode cL_law 314 = .ok (.if_icmp .eq 5, 3) := by decide +kernel
theorem dL_law_317 : decode cL_law 317 = .ok (.iconst 0, 1) := by decide +kernel
theorem dL_law_318 : decode cL_law 318 = .ok (.ireturn, 1) := by decide +kernel
theorem dL_law_319 : decode cL_law 319 = .ok (.iload 5, 2) := by decide +kernel
theorem dL_law_321 : decode cL_law 321 = .ok (.ifCond .ne 15, 3) := by decide +kernel
theorem dL_law_324 : decode cL_law 324 = .ok (.aload_n 3, 1) := by decide +kernel
theorem dL_law_325 : decode cL_law 325 = .ok (.iconst 0, 1) := by decide +kernel
theorem dL_law_326 : decode cL_law 326 = .ok (.laload, 1) := by decide +kernel
theorem dL_law_327 : decode cL_law 327 = .ok (.iload 6, 2) := by decide +kernel
theorem dL_law_329 : decode cL_law 329 = .ok (.i2l, 1) := by decide +kernel
theorem dL_law_330 : decode cL_law 330 = .ok (.lcmp, 1) := by decide +kernel
theorem dL_law_331 : decode cL_law 331 = .ok (.ifCond .eq 5, 3) := by decide +kernel
theorem dL_law_334 : decode cL_law 334 = .ok (.iconst 0, 1) := by decide +kernel
theorem dL_law_335 : decode cL_law 335 = .ok (.ireturn, 1) := by decide +kernel
theorem dL_law_336 : decode cL_law 336 = .ok (.goto 657, 3) := by decide +kernel
theorem dL_law_339 : decode cL_law 339 = .ok (.aload_n 1, 1) := by decide +kernel
theorem dL_law_340 : decode cL_law 340 = .ok (.aload_n 0, 1) := by decide +kernel
theorem dL_law_341 : decode cL_law 341 = .ok (.iload 4, 2) := by decide +kernel
theorem dL_law_343 : decode cL_law 343 = .ok (.iconst 1, 1) := by decide +kernel
theorem dL_law_344 : decode cL_law 344 = .ok (.iadd, 1) := by decide +kernel
theorem dL_law_345 : decode cL_law 345 = .ok (.iaload, 1) := by decide +kernel
theorem dL_law_346 : decode cL_law 346 = .ok (.aload_n 0, 1) := by decide +kernel
theorem dL_law_347 : decode cL_law 347 = .ok (.iload 4, 2) := by decide +kernel
theorem dL_law_349 : decode cL_law 349 = .ok (.iconst 2, 1) := by decide +kernel
theorem dL_law_350 : decode cL_law 350 = .ok (.iadd, 1) := by decide +kernel
theorem dL_law_351 : decode cL_law 351 = .ok (.iaload, 1) := by decide +kernel
theorem dL_law_352 : decode cL_law 352 = .ok (.aload_n 3, 1) := by decide +kernel
theorem dL_law_353 : decode cL_law 353 = .ok (.invokestatic 46, 3) := by decide +kernel
theorem dL_law_356 : decode cL_law 356 = .ok (.istore 5, 2) := by decide +kernel
theorem dL_law_358 : decode cL_law 358 = .ok (.aload_n 2, 1) := by decide +kernel
theorem dL_law_359 : decode cL_law 359 = .ok (.aload_n 0, 1) := by decide +kernel
theorem dL_law_360 : decode cL_law 360 = .ok (.iload 4, 2) := by decide +kernel
theorem dL_law_362 : decode cL_law 362 = .ok (.iconst 1, 1) := by decide +kernel
theorem dL_law_363 : decode cL_law 363 = .ok (.iadd, 1) := by decide +kernel
theorem dL_law_364 : decode cL_law 364 = .ok (.iaload, 1) := by decide +kernel
theorem dL_law_365 : decode cL_law 365 = .ok (.aload_n 0, 1) := by decide +kernel
theorem dL_law_366 : decode cL_law 366 = .ok (.iload 4, 2) := by decide +kernel
theorem dL_law_368 : decode cL_law 368 = .ok (.iconst 2, 1) := by decide +kernel
theorem dL_law_369 : decode cL_law 369 = .ok (.iadd, 1) := by decide +kernel
theorem dL_law_370 : decode cL_law 370 = .ok (.iaload, 1) := by decide +kernel
theorem dL_law_371 : decode cL_law 371 = .ok (.invokevirtual 48, 3) := by decide +kernel
theorem dL_law_374 : decode cL_law 374 = .ok (.istore 6, 2) := by decide +kernel
theorem dL_law_376 : decode cL_law 376 = .ok (.aload_n 2, 1) := by decide +kernel
theorem dL_law_377 : decode cL_law 377 = .ok (.invokevirtual 42, 3) := by decide +kernel
theorem dL_law_380 : decode cL_law 380 = .ok (.iload 5, 2) := by decide +kernel
theorem dL_law_382 : decode cL_law 382 = .ok (.if_icmp .eq 5, 3) := by decide +kernel
theorem dL_law_385 : decode cL_law 385 = .ok (.iconst 0, 1) := by decide +kernel
theorem dL_law_386 : decode cL_law 386 = .ok (.ireturn, 1) := by decide +kernel
theorem dL_law_387 : decode cL_law 387 = .ok (.iload 5, 2) := by decide +kernel
theorem dL_law_389 : decode cL_law 389 = .ok (.ifCond .ne 15, 3) := by decide +kernel
theorem dL_law_392 : decode cL_law 392 = .ok (.aload_n 3, 1) := by decide +kernel
theorem dL_law_393 : decode cL_law 393 = .ok (.iconst 0, 1) := by decide +kernel
theorem dL_law_394 : decode cL_law 394 = .ok (.laload, 1) := by decide +kernel
theorem dL_law_395 : decode cL_law 395 = .ok (.iload 6, 2) := by decide +kernel
theorem dL_law_397 : decode cL_law 397 = .ok (.i2l, 1) := by decide +kernel
theorem dL_law_398 : decode cL_law 398 = .ok (.lcmp, 1) := by decide +kernel
theorem dL_law_399 : decode cL_law 399 = .ok (.ifCond .eq 5, 3) := by decide +kernel
theorem dL_law_402 : decode cL_law 402 = .ok (.iconst 0, 1) := by decide +kernel
theorem dL_law_403 : decode cL_law 403 = .ok (.ireturn, 1) := by decide +kernel
theorem dL_law_404 : decode cL_law 404 = .ok (.goto 589, 3) := by decide +kernel
theorem dL_law_407 : decode cL_law 407 = .ok (.aload_n 1, 1) := by decide +kernel
theorem dL_law_408 : decode cL_law 408 = .ok (.aload_n 0, 1) := by decide +kernel
theorem dL_law_409 : decode cL_law 409 = .ok (.iload 4, 2) := by decide +kernel
theorem dL_law_411 : decode cL_law 411 = .ok (.iconst 1, 1) := by decide +kernel
theorem dL_law_412 : decode cL_law 412 = .ok (.iadd, 1) := by decide +kernel
theorem dL_law_413 : decode cL_law 413 = .ok (.iaload, 1) := by decide +kernel
theorem dL_law_414 : decode cL_law 414 = .ok (.aload_n 0, 1) := by decide +kernel
theorem dL_law_415 : decode cL_law 415 = .ok (.iload 4, 2) := by decide +kernel
theorem dL_law_417 : decode cL_law 417 = .ok (.iconst 2, 1) := by decide +kernel
theorem dL_law_418 : decode cL_law 418 = .ok (.iadd, 1) := by decide +kernel
theorem dL_law_419 : decode cL_law 419 = .ok (.iaload, 1) := by decide +kernel
theorem dL_law_420 : decode cL_law 420 = .ok (.invokevirtual 49, 3) := by decide +kernel
theorem dL_law_423 : decode cL_law 423 = .ok (.aload_n 2, 1) := by decide +kernel
theorem dL_law_424 : decode cL_law 424 = .ok (.aload_n 0, 1) := by decide +kernel
theorem dL_law_425 : decode cL_law 425 = .ok (.iload 4, 2) := by decide +kernel
theorem dL_law_427 : decode cL_law 427 = .ok (.iconst 1, 1) := by decide +kernel
theorem dL_law_428 : decode cL_law 428 = .ok (.iadd, 1) := by decide +kernel
theorem dL_law_429 : decode cL_law 429 = .ok (.iaload, 1) := by decide +kernel
theorem dL_law_430 : decode cL_law 430 = .ok (.aload_n 0, 1) := by decide +kernel
theorem dL_law_431 : decode cL_law 431 = .ok (.iload 4, 2) := by decide +kernel
theorem dL_law_433 : decode cL_law 433 = .ok (.iconst 2, 1) := by decide +kernel
theorem dL_law_434 : decode cL_law 434 = .ok (.iadd, 1) := by decide +kernel
theorem dL_law_435 : decode cL_law 435 = .ok (.iaload, 1) := by decide +kernel
theorem dL_law_436 : decode cL_law 436 = .ok (.invokevirtual 52, 3) := by decide +kernel
theorem dL_law_439 : decode cL_law 439 = .ok (.if_icmp .eq 554, 3) := by decide +kernel
theorem dL_law_442 : decode cL_law 442 = .ok (.iconst 0, 1) := by decide +kernel
theorem dL_law_443 : decode cL_law 443 = .ok (.ireturn, 1) := by decide +kernel
theorem dL_law_444 : decode cL_law 444 = .ok (.aload_n 1, 1) := by decide +kernel
theorem dL_law_445 : decode cL_law 445 = .ok (.aload_n 0, 1) := by decide +kernel
theorem dL_law_446 : decode cL_law 446 = .ok (.iload 4, 2) := by decide +kernel
theorem dL_law_448 : decode cL_law 448 = .ok (.iconst 1, 1) := by decide +kernel
theorem dL_law_449 : decode cL_law 449 = .ok (.iadd, 1) := by decide +kernel
theorem dL_law_450 : decode cL_law 450 = .ok (.iaload, 1) := by decide +kernel
theorem dL_law_451 : decode cL_law 451 = .ok (.aload_n 0, 1) := by decide +kernel
theorem dL_law_452 : decode cL_law 452 = .ok (.iload 4, 2) := by decide +kernel
theorem dL_law_454 : decode cL_law 454 = .ok (.iconst 2, 1) := by decide +kernel
theorem dL_law_455 : decode cL_law 455 = .ok (.iadd, 1) := by decide +kernel
theorem dL_law_456 : decode cL_law 456 = .ok (.iaload, 1) := by decide +kernel
theorem dL_law_457 : decode cL_law 457 = .ok (.invokevirtual 53, 3) := by decide +kernel
theorem dL_law_460 : decode cL_law 460 = .ok (.aload_n 2, 1) := by decide +kernel
theorem dL_law_461 : decode cL_law 461 = .ok (.aload_n 0, 1) := by decide +kernel
theorem dL_law_462 : decode cL_law 462 = .ok (.iload 4, 2) := by decide +kernel
theorem dL_law_464 : decode cL_law 464 = .ok (.iconst 1, 1) := by decide +kernel
theorem dL_law_465 : decode cL_law 465 = .ok (.iadd, 1) := by decide +kernel
theorem dL_law_466 : decode cL_law 466 = .ok (.iaload, 1) := by decide +kernel
theorem dL_law_467 : decode cL_law 467 = .ok (.aload_n 0, 1) := by decide +kernel
theorem dL_law_468 : decode cL_law 468 = .ok (.iload 4, 2) := by decide +kernel
theorem dL_law_470 : decode cL_law 470 = .ok (.iconst 2, 1) := by decide +kernel
theorem dL_law_471 : decode cL_law 471 = .ok (.iadd, 1) := by decide +kernel
theorem dL_law_472 : decode cL_law 472 = .ok (.iaload, 1) := by decide +kernel
theorem dL_law_473 : decode cL_law 473 = .ok (.invokevirtual 56, 3) := by decide +kernel
theorem dL_law_476 : decode cL_law 476 = .ok (.if_icmp .eq 517, 3) := by decide +kernel
theorem dL_law_479 : decode cL_law 479 = .ok (.iconst 0, 1) := by decide +kernel
theorem dL_law_480 : decode cL_law 480 = .ok (.ireturn, 1) := by decide +kernel
theorem dL_law_481 : decode cL_law 481 = .ok (.aload_n 1, 1) := by decide +kernel
theorem dL_law_482 : decode cL_law 482 = .ok (.aload_n 0, 1) := by decide +kernel
theorem dL_law_483 : decode cL_law 483 = .ok (.iload 4, 2) := by decide +kernel
theorem dL_law_485 : decode cL_law 485 = .ok (.iconst 1, 1) := by decide +kernel
theorem dL_law_486 : decode cL_law 486 = .ok (.iadd, 1) := by decide +kernel
theorem dL_law_487 : decode cL_law 487 = .ok (.iaload, 1) := by decide +kernel
theorem dL_law_488 : decode cL_law 488 = .ok (.aload_n 0, 1) := by decide +kernel
theorem dL_law_489 : decode cL_law 489 = .ok (.iload 4, 2) := by decide +kernel
theorem dL_law_491 : decode cL_law 491 = .ok (.iconst 2, 1) := by decide +kernel
theorem dL_law_492 : decode cL_law 492 = .ok (.iadd, 1) := by decide +kernel
theorem dL_law_493 : decode cL_law 493 = .ok (.iaload, 1) := by decide +kernel
theorem dL_law_494 : decode cL_law 494 = .ok (.invokevirtual 57, 3) := by decide +kernel
theorem dL_law_497 : decode cL_law 497 = .ok (.aload_n 2, 1) := by decide +kernel
theorem dL_law_498 : decode cL_law 498 = .ok (.aload_n 0, 1) := by decide +kernel
theorem dL_law_499 : decode cL_law 499 = .ok (.iload 4, 2) := by decide +kernel
theorem dL_law_501 : decode cL_law 501 = .ok (.iconst 1, 1) := by decide +kernel
theorem dL_law_502 : decode cL_law 502 = .ok (.iadd, 1) := by decide +kernel
theorem dL_law_503 : decode cL_law 503 = .ok (.iaload, 1) := by decide +kernel
theorem dL_law_504 : decode cL_law 504 = .ok (.aload_n 0, 1) := by decide +kernel
theorem dL_law_505 : decode cL_law 505 = .ok (.iload 4, 2) := by decide +kernel
theorem dL_law_507 : decode cL_law 507 = .ok (.iconst 2, 1) := by decide +kernel
theorem dL_law_508 : decode cL_law 508 = .ok (.iadd, 1) := by decide +kernel
theorem dL_law_509 : decode cL_law 509 = .ok (.iaload, 1) := by decide +kernel
theorem dL_law_510 : decode cL_law 510 = .ok (.invokevirtual 60, 3) := by decide +kernel
theorem dL_law_513 : decode cL_law 513 = .ok (.if_icmp .eq 480, 3) := by decide +kernel
theorem dL_law_516 : decode cL_law 516 = .ok (.iconst 0, 1) := by decide +kernel
theorem dL_law_517 : decode cL_law 517 = .ok (.ireturn, 1) := by decide +kernel
theorem dL_law_518 : decode cL_law 518 = .ok (.aload_n 1, 1) := by decide +kernel
theorem dL_law_519 : decode cL_law 519 = .ok (.aload_n 0, 1) := by decide +kernel
theorem dL_law_520 : decode cL_law 520 = .ok (.iload 4, 2) := by decide +kernel
theorem dL_law_522 : decode cL_law 522 = .ok (.iconst 1, 1) := by decide +kernel
theorem dL_law_523 : decode cL_law 523 = .ok (.iadd, 1) := by decide +kernel
theorem dL_law_524 : decode cL_law 524 = .ok (.iaload, 1) := by decide +kernel
theorem dL_law_525 : decode cL_law 525 = .ok (.aload_n 0, 1) := by decide +kernel
theorem dL_law_526 : decode cL_law 526 = .ok (.iload 4, 2) := by decide +kernel
theorem dL_law_528 : decode cL_law 528 = .ok (.iconst 2, 1) := by decide +kernel
theorem dL_law_529 : decode cL_law 529 = .ok (.iadd, 1) := by decide +kernel
theorem dL_law_530 : decode cL_law 530 = .ok (.iaload, 1) := by decide +kernel
theorem dL_law_531 : decode cL_law 531 = .ok (.invokevirtual 61, 3) := by decide +kernel
theorem dL_law_534 : decode cL_law 534 = .ok (.aload_n 2, 1) := by decide +kernel
theorem dL_law_535 : decode cL_law 535 = .ok (.aload_n 0, 1) := by decide +kernel
theorem dL_law_536 : decode cL_law 536 = .ok (.iload 4, 2) := by decide +kernel
theorem dL_law_538 : decode cL_law 538 = .ok (.iconst 1, 1) := by decide +kernel
theorem dL_law_539 : decode cL_law 539 = .ok (.iadd, 1) := by decide +kernel
theorem dL_law_540 : decode cL_law 540 = .ok (.iaload, 1) := by decide +kernel
theorem dL_law_541 : decode cL_law 541 = .ok (.aload_n 0, 1) := by decide +kernel
theorem dL_law_542 : decode cL_law 542 = .ok (.iload 4, 2) := by decide +kernel
theorem dL_law_544 : decode cL_law 544 = .ok (.iconst 2, 1) := by decide +kernel
theorem dL_law_545 : decode cL_law 545 = .ok (.iadd, 1) := by decide +kernel
theorem dL_law_546 : decode cL_law 546 = .ok (.iaload, 1) := by decide +kernel
theorem dL_law_547 : decode cL_law 547 = .ok (.invokevirtual 64, 3) := by decide +kernel
theorem dL_law_550 : decode cL_law 550 = .ok (.if_icmp .eq 443, 3) := by decide +kernel
theorem dL_law_553 : decode cL_law 553 = .ok (.iconst 0, 1) := by decide +kernel
theorem dL_law_554 : decode cL_law 554 = .ok (.ireturn, 1) := by decide +kernel
theorem dL_law_555 : decode cL_law 555 = .ok (.aload_n 1, 1) := by decide +kernel
theorem dL_law_556 : decode cL_law 556 = .ok (.aload_n 0, 1) := by decide +kernel
theorem dL_law_557 : decode cL_law 557 = .ok (.iload 4, 2) := by decide +kernel
theorem dL_law_559 : decode cL_law 559 = .ok (.iconst 1, 1) := by decide +kernel
theorem dL_law_560 : decode cL_law 560 = .ok (.iadd, 1) := by decide +kernel
theorem dL_law_561 : decode cL_law 561 = .ok (.iaload, 1) := by decide +kernel
theorem dL_law_562 : decode cL_law 562 = .ok (.aload_n 0, 1) := by decide +kernel
theorem dL_law_563 : decode cL_law 563 = .ok (.iload 4, 2) := by decide +kernel
theorem dL_law_565 : decode cL_law 565 = .ok (.iconst 2, 1) := by decide +kernel
theorem dL_law_566 : decode cL_law 566 = .ok (.iadd, 1) := by decide +kernel
theorem dL_law_567 : decode cL_law 567 = .ok (.iaload, 1) := by decide +kernel
theorem dL_law_568 : decode cL_law 568 = .ok (.aload_n 0, 1) := by decide +kernel
theorem dL_law_569 : decode cL_law 569 = .ok (.iload 4, 2) := by decide +kernel
theorem dL_law_571 : decode cL_law 571 = .ok (.iconst 3, 1) := by decide +kernel
theorem dL_law_572 : decode cL_law 572 = .ok (.iadd, 1) := by decide +kernel
theorem dL_law_573 : decode cL_law 573 = .ok (.iaload, 1) := by decide +kernel
theorem dL_law_574 : decode cL_law 574 = .ok (.invokevirtual 65, 3) := by decide +kernel
theorem dL_law_577 : decode cL_law 577 = .ok (.aload_n 2, 1) := by decide +kernel
theorem dL_law_578 : decode cL_law 578 = .ok (.aload_n 0, 1) := by decide +kernel
theorem dL_law_579 : decode cL_law 579 = .ok (.iload 4, 2) := by decide +kernel
theorem dL_law_581 : decode cL_law 581 = .ok (.iconst 1, 1) := by decide +kernel
theorem dL_law_582 : decode cL_law 582 = .ok (.iadd, 1) := by decide +kernel
theorem dL_law_583 : decode cL_law 583 = .ok (.iaload, 1) := by decide +kernel
theorem dL_law_584 : decode cL_law 584 = .ok (.aload_n 0, 1) := by decide +kernel
theorem dL_law_585 : decode cL_law 585 = .ok (.iload 4, 2) := by decide +kernel
theorem dL_law_587 : decode cL_law 587 = .ok (.iconst 2, 1) := by decide +kernel
theorem dL_law_588 : decode cL_law 588 = .ok (.iadd, 1) := by decide +kernel
theorem dL_law_589 : decode cL_law 589 = .ok (.iaload, 1) := by decide +kernel
theorem dL_law_590 : decode cL_law 590 = .ok (.aload_n 0, 1) := by decide +kernel
theorem dL_law_591 : decode cL_law 591 = .ok (.iload 4, 2) := by decide +kernel
theorem dL_law_593 : decode cL_law 593 = .ok (.iconst 3, 1) := by decide +kernel
theorem dL_law_594 : decode cL_law 594 = .ok (.iadd, 1) := by decide +kernel
theorem dL_law_595 : decode cL_law 595 = .ok (.iaload, 1) := by decide +kernel
theorem dL_law_596 : decode cL_law 596 = .ok (.invokevirtual 69, 3) := by decide +kernel
theorem dL_law_599 : decode cL_law 599 = .ok (.if_icmp .eq 394, 3) := by decide +kernel
theorem dL_law_602 : decode cL_law 602 = .ok (.iconst 0, 1) := by decide +kernel
theorem dL_law_603 : decode cL_law 603 = .ok (.ireturn, 1) := by decide +kernel
theorem dL_law_604 : decode cL_law 604 = .ok (.aload_n 1, 1) := by decide +kernel
theorem dL_law_605 : decode cL_law 605 = .ok (.aload_n 0, 1) := by decide +kernel
theorem dL_law_606 : decode cL_law 606 = .ok (.iload 4, 2) := by decide +kernel
theorem dL_law_608 : decode cL_law 608 = .ok (.iconst 1, 1) := by decide +kernel
theorem dL_law_609 : decode cL_law 609 = .ok (.iadd, 1) := by decide +kernel
theorem dL_law_610 : decode cL_law 610 = .ok (.iaload, 1) := by decide +kernel
theorem dL_law_611 : decode cL_law 611 = .ok (.aload_n 0, 1) := by decide +kernel
theorem dL_law_612 : decode cL_law 612 = .ok (.iload 4, 2) := by decide +kernel
theorem dL_law_614 : decode cL_law 614 = .ok (.iconst 2, 1) := by decide +kernel
theorem dL_law_615 : decode cL_law 615 = .ok (.iadd, 1) := by decide +kernel
theorem dL_law_616 : decode cL_law 616 = .ok (.iaload, 1) := by decide +kernel
theorem dL_law_617 : decode cL_law 617 = .ok (.invokevirtual 70, 3) := by decide +kernel
theorem dL_law_620 : decode cL_law 620 = .ok (.aload_n 2, 1) := by decide +kernel
theorem dL_law_621 : decode cL_law 621 = .ok (.aload_n 0, 1) := by decide +kernel
theorem dL_law_622 : decode cL_law 622 = .ok (.iload 4, 2) := by decide +kernel
theorem dL_law_624 : decode cL_law 624 = .ok (.iconst 1, 1) := by decide +kernel
theorem dL_law_625 : decode cL_law 625 = .ok (.iadd, 1) := by decide +kernel
theorem dL_law_626 : decode cL_law 626 = .ok (.iaload, 1) := by decide +kernel
theorem dL_law_627 : decode cL_law 627 = .ok (.aload_n 0, 1) := by decide +kernel
theorem dL_law_628 : decode cL_law 628 = .ok (.iload 4, 2) := by decide +kernel
theorem dL_law_630 : decode cL_law 630 = .ok (.iconst 2, 1) := by decide +kernel
theorem dL_law_631 : decode cL_law 631 = .ok (.iadd, 1) := by decide +kernel
theorem dL_law_632 : decode cL_law 632 = .ok (.iaload, 1) := by decide +kernel
theorem dL_law_633 : decode cL_law 633 = .ok (.invokevirtual 73, 3) := by decide +kernel
theorem dL_law_636 : decode cL_law 636 = .ok (.if_icmp .eq 357, 3) := by decide +kernel
theorem dL_law_639 : decode cL_law 639 = .ok (.iconst 0, 1) := by decide +kernel
theorem dL_law_640 : decode cL_law 640 = .ok (.ireturn, 1) := by decide +kernel
theorem dL_law_641 : decode cL_law 641 = .ok (.aload_n 1, 1) := by decide +kernel
theorem dL_law_642 : decode cL_law 642 = .ok (.aload_n 0, 1) := by decide +kernel
theorem dL_law_643 : decode cL_law 643 = .ok (.iload 4, 2) := by decide +kernel
theorem dL_law_645 : decode cL_law 645 = .ok (.iconst 1, 1) := by decide +kernel
theorem dL_law_646 : decode cL_law 646 = .ok (.iadd, 1) := by decide +kernel
theorem dL_law_647 : decode cL_law 647 = .ok (.iaload, 1) := by decide +kernel
theorem dL_law_648 : decode cL_law 648 = .ok (.invokevirtual 74, 3) := by decide +kernel
theorem dL_law_651 : decode cL_law 651 = .ok (.aload_n 2, 1) := by decide +kernel
theorem dL_law_652 : decode cL_law 652 = .ok (.aload_n 0, 1) := by decide +kernel
theorem dL_law_653 : decode cL_law 653 = .ok (.iload 4, 2) := by decide +kernel
theorem dL_law_655 : decode cL_law 655 = .ok (.iconst 1, 1) := by decide +kernel
theorem dL_law_656 : decode cL_law 656 = .ok (.iadd, 1) := by decide +kernel
theorem dL_law_657 : decode cL_law 657 = .ok (.iaload, 1) := by decide +kernel
theorem dL_law_658 : decode cL_law 658 = .ok (.invokevirtual 77, 3) := by decide +kernel
theorem dL_law_661 : decode cL_law 661 = .ok (.if_icmp .eq 332, 3) := by decide +kernel
theorem dL_law_664 : decode cL_law 664 = .ok (.iconst 0, 1) := by decide +kernel
theorem dL_law_665 : decode cL_law 665 = .ok (.ireturn, 1) := by decide +kernel
theorem dL_law_666 : decode cL_law 666 = .ok (.aload_n 1, 1) := by decide +kernel
theorem dL_law_667 : decode cL_law 667 = .ok (.aload_n 0, 1) := by decide +kernel
theorem dL_law_668 : decode cL_law 668 = .ok (.iload 4, 2) := by decide +kernel
theorem dL_law_670 : decode cL_law 670 = .ok (.iconst 1, 1) := by decide +kernel
theorem dL_law_671 : decode cL_law 671 = .ok (.iadd, 1) := by decide +kernel
theorem dL_law_672 : decode cL_law 672 = .ok (.iaload, 1) := by decide +kernel
theorem dL_law_673 : decode cL_law 673 = .ok (.aload_n 0, 1) := by decide +kernel
theorem dL_law_674 : decode cL_law 674 = .ok (.iload 4, 2) := by decide +kernel
theorem dL_law_676 : decode cL_law 676 = .ok (.iconst 2, 1) := by decide +kernel
theorem dL_law_677 : decode cL_law 677 = .ok (.iadd, 1) := by decide +kernel
theorem dL_law_678 : decode cL_law 678 = .ok (.iaload, 1) := by decide +kernel
theorem dL_law_679 : decode cL_law 679 = .ok (.aload_n 0, 1) := by decide +kernel
theorem dL_law_680 : decode cL_law 680 = .ok (.iload 4, 2) := by decide +kernel
theorem dL_law_682 : decode cL_law 682 = .ok (.iconst 3, 1) := by decide +kernel
theorem dL_law_683 : decode cL_law 683 = .ok (.iadd, 1) := by decide +kernel
theorem dL_law_684 : decode cL_law 684 = .ok (.iaload, 1) := by decide +kernel
theorem dL_law_685 : decode cL_law 685 = .ok (.invokevirtual 78, 3) := by decide +kernel
theorem dL_law_688 : decode cL_law 688 = .ok (.aload_n 2, 1) := by decide +kernel
theorem dL_law_689 : decode cL_law 689 = .ok (.aload_n 0, 1) := by decide +kernel
theorem dL_law_690 : decode cL_law 690 = .ok (.iload 4, 2) := by decide +kernel
theorem dL_law_692 : decode cL_law 692 = .ok (.iconst 1, 1) := by decide +kernel
theorem dL_law_693 : decode cL_law 693 = .ok (.iadd, 1) := by decide +kernel
theorem dL_law_694 : decode cL_law 694 = .ok (.iaload, 1) := by decide +kernel
theorem dL_law_695 : decode cL_law 695 = .ok (.aload_n 0, 1) := by decide +kernel
theorem dL_law_696 : decode cL_law 696 = .ok (.iload 4, 2) := by decide +kernel
theorem dL_law_698 : decode cL_law 698 = .ok (.iconst 2, 1) := by decide +kernel
theorem dL_law_699 : decode cL_law 699 = .ok (.iadd, 1) := by decide +kernel
theorem dL_law_700 : decode cL_law 700 = .ok (.iaload, 1) := by decide +kernel
theorem dL_law_701 : decode cL_law 701 = .ok (.aload_n 0, 1) := by decide +kernel
theorem dL_law_702 : decode cL_law 702 = .ok (.iload 4, 2) := by decide +kernel
theorem dL_law_704 : decode cL_law 704 = .ok (.iconst 3, 1) := by decide +kernel
theorem dL_law_705 : decode cL_law 705 = .ok (.iadd, 1) := by decide +kernel
theorem dL_law_706 : decode cL_law 706 = .ok (.iaload, 1) := by decide +kernel
theorem dL_law_707 : decode cL_law 707 = .ok (.invokevirtual 81, 3) := by decide +kernel
theorem dL_law_710 : decode cL_law 710 = .ok (.if_icmp .eq 283, 3) := by decide +kernel
theorem dL_law_713 : decode cL_law 713 = .ok (.iconst 0, 1) := by decide +kernel
theorem dL_law_714 : decode cL_law 714 = .ok (.ireturn, 1) := by decide +kernel
theorem dL_law_715 : decode cL_law 715 = .ok (.aload_n 1, 1) := by decide +kernel
theorem dL_law_716 : decode cL_law 716 = .ok (.aload_n 0, 1) := by decide +kernel
theorem dL_law_717 : decode cL_law 717 = .ok (.iload 4, 2) := by decide +kernel
theorem dL_law_719 : decode cL_law 719 = .ok (.iconst 1, 1) := by decide +kernel
theorem dL_law_720 : decode cL_law 720 = .ok (.iadd, 1) := by decide +kernel
theorem dL_law_721 : decode cL_law 721 = .ok (.iaload, 1) := by decide +kernel
theorem dL_law_722 : decode cL_law 722 = .ok (.aload_n 0, 1) := by decide +kernel
theorem dL_law_723 : decode cL_law 723 = .ok (.iload 4, 2) := by decide +kernel
theorem dL_law_725 : decode cL_law 725 = .ok (.iconst 2, 1) := by decide +kernel
theorem dL_law_726 : decode cL_law 726 = .ok (.iadd, 1) := by decide +kernel
theorem dL_law_727 : decode cL_law 727 = .ok (.iaload, 1) := by decide +kernel
theorem dL_law_728 : decode cL_law 728 = .ok (.invokevirtual 82, 3) := by decide +kernel
theorem dL_law_731 : decode cL_law 731 = .ok (.aload_n 2, 1) := by decide +kernel
theorem dL_law_732 : decode cL_law 732 = .ok (.aload_n 0, 1) := by decide +kernel
theorem dL_law_733 : decode cL_law 733 = .ok (.iload 4, 2) := by decide +kernel
theorem dL_law_735 : decode cL_law 735 = .ok (.iconst 1, 1) := by decide +kernel
theorem dL_law_736 : decode cL_law 736 = .ok (.iadd, 1) := by decide +kernel
theorem dL_law_737 : decode cL_law 737 = .ok (.iaload, 1) := by decide +kernel
theorem dL_law_738 : decode cL_law 738 = .ok (.aload_n 0, 1) := by decide +kernel
theorem dL_law_739 : decode cL_law 739 = .ok (.iload 4, 2) := by decide +kernel
theorem dL_law_741 : decode cL_law 741 = .ok (.iconst 2, 1) := by decide +kernel
theorem dL_law_742 : decode cL_law 742 = .ok (.iadd, 1) := by decide +kernel
theorem dL_law_743 : decode cL_law 743 = .ok (.iaload, 1) := by decide +kernel
theorem dL_law_744 : decode cL_law 744 = .ok (.invokevirtual 85, 3) := by decide +kernel
theorem dL_law_747 : decode cL_law 747 = .ok (.if_icmp .eq 246, 3) := by decide +kernel
theorem dL_law_750 : decode cL_law 750 = .ok (.iconst 0, 1) := by decide +kernel
theorem dL_law_751 : decode cL_law 751 = .ok (.ireturn, 1) := by decide +kernel
theorem dL_law_752 : decode cL_law 752 = .ok (.aload_n 1, 1) := by decide +kernel
theorem dL_law_753 : decode cL_law 753 = .ok (.invokevirtual 86, 3) := by decide +kernel
theorem dL_law_756 : decode cL_law 756 = .ok (.aload_n 2, 1) := by decide +kernel
theorem dL_law_757 : decode cL_law 757 = .ok (.invokevirtual 89, 3) := by decide +kernel
theorem dL_law_760 : decode cL_law 760 = .ok (.if_icmp .eq 233, 3) := by decide +kernel
theorem dL_law_763 : decode cL_law 763 = .ok (.iconst 0, 1) := by decide +kernel
theorem dL_law_764 : decode cL_law 764 = .ok (.ireturn, 1) := by decide +kernel
theorem dL_law_765 : decode cL_law 765 = .ok (.aload_n 1, 1) := by decide +kernel
theorem dL_law_766 : decode cL_law 766 = .ok (.invokevirtual 90, 3) := by decide +kernel
theorem dL_law_769 : decode cL_law 769 = .ok (.aload_n 2, 1) := by decide +kernel
theorem dL_law_770 : decode cL_law 770 = .ok (.invokevirtual 93, 3) := by decide +kernel
theorem dL_law_773 : decode cL_law 773 = .ok (.if_icmp .eq 220, 3) := by decide +kernel
theorem dL_law_776 : decode cL_law 776 = .ok (.iconst 0, 1) := by decide +kernel
theorem dL_law_777 : decode cL_law 777 = .ok (.ireturn, 1) := by decide +kernel
theorem dL_law_778 : decode cL_law 778 = .ok (.aload_n 1, 1) := by decide +kernel
theorem dL_law_779 : decode cL_law 779 = .ok (.aload_n 0, 1) := by decide +kernel
theorem dL_law_780 : decode cL_law 780 = .ok (.iload 4, 2) := by decide +kernel
theorem dL_law_782 : decode cL_law 782 = .ok (.iconst 1, 1) := by decide +kernel
theorem dL_law_783 : decode cL_law 783 = .ok (.iadd, 1) := by decide +kernel
theorem dL_law_784 : decode cL_law 784 = .ok (.iaload, 1) := by decide +kernel
theorem dL_law_785 : decode cL_law 785 = .ok (.invokevirtual 94, 3) := by decide +kernel
theorem dL_law_788 : decode cL_law 788 = .ok (.aload_n 2, 1) := by decide +kernel
theorem dL_law_789 : decode cL_law 789 = .ok (.aload_n 0, 1) := by decide +kernel
theorem dL_law_790 : decode cL_law 790 = .ok (.iload 4, 2) := by decide +kernel
theorem dL_law_792 : decode cL_law 792 = .ok (.iconst 1, 1) := by decide +kernel
theorem dL_law_793 : decode cL_law 793 = .ok (.iadd, 1) := by decide +kernel
theorem dL_law_794 : decode cL_law 794 = .ok (.iaload, 1) := by decide +kernel
theorem dL_law_795 : decode cL_law 795 = .ok (.invokevirtual 97, 3) := by decide +kernel
theorem dL_law_798 : decode cL_law 798 = .ok (.if_icmp .eq 195, 3) := by decide +kernel
theorem dL_law_801 : decode cL_law 801 = .ok (.iconst 0, 1) := by decide +kernel
theorem dL_law_802 : decode cL_law 802 = .ok (.ireturn, 1) := by decide +kernel
theorem dL_law_803 : decode cL_law 803 = .ok (.aload_n 1, 1) := by decide +kernel
theorem dL_law_804 : decode cL_law 804 = .ok (.aload_n 0, 1) := by decide +kernel
theorem dL_law_805 : decode cL_law 805 = .ok (.iload 4, 2) := by decide +kernel
theorem dL_law_807 : decode cL_law 807 = .ok (.iconst 1, 1) := by decide +kernel
theorem dL_law_808 : decode cL_law 808 = .ok (.iadd, 1) := by decide +kernel
theorem dL_law_809 : decode cL_law 809 = .ok (.iaload, 1) := by decide +kernel
theorem dL_law_810 : decode cL_law 810 = .ok (.aload_n 0, 1) := by decide +kernel
theorem dL_law_811 : decode cL_law 811 = .ok (.iload 4, 2) := by decide +kernel
theorem dL_law_813 : decode cL_law 813 = .ok (.iconst 2, 1) := by decide +kernel
theorem dL_law_814 : decode cL_law 814 = .ok (.iadd, 1) := by decide +kernel
theorem dL_law_815 : decode cL_law 815 = .ok (.iaload, 1) := by decide +kernel
theorem dL_law_816 : decode cL_law 816 = .ok (.invokevirtual 98, 3) := by decide +kernel
theorem dL_law_819 : decode cL_law 819 = .ok (.aload_n 2, 1) := by decide +kernel
theorem dL_law_820 : decode cL_law 820 = .ok (.aload_n 0, 1) := by decide +kernel
theorem dL_law_821 : decode cL_law 821 = .ok (.iload 4, 2) := by decide +kernel
theorem dL_law_823 : decode cL_law 823 = .ok (.iconst 1, 1) := by decide +kernel
theorem dL_law_824 : decode cL_law 824 = .ok (.iadd, 1) := by decide +kernel
theorem dL_law_825 : decode cL_law 825 = .ok (.iaload, 1) := by decide +kernel
theorem dL_law_826 : decode cL_law 826 = .ok (.aload_n 0, 1) := by decide +kernel
theorem dL_law_827 : decode cL_law 827 = .ok (.iload 4, 2) := by decide +kernel
theorem dL_law_829 : decode cL_law 829 = .ok (.iconst 2, 1) := by decide +kernel
theorem dL_law_830 : decode cL_law 830 = .ok (.iadd, 1) := by decide +kernel
theorem dL_law_831 : decode cL_law 831 = .ok (.iaload, 1) := by decide +kernel
theorem dL_law_832 : decode cL_law 832 = .ok (.invokevirtual 101, 3) := by decide +kernel
theorem dL_law_835 : decode cL_law 835 = .ok (.if_icmp .eq 158, 3) := by decide +kernel
theorem dL_law_838 : decode cL_law 838 = .ok (.iconst 0, 1) := by decide +kernel
theorem dL_law_839 : decode cL_law 839 = .ok (.ireturn, 1) := by decide +kernel
theorem dL_law_840 : decode cL_law 840 = .ok (.aload_n 1, 1) := by decide +kernel
theorem dL_law_841 : decode cL_law 841 = .ok (.aload_n 0, 1) := by decide +kernel
theorem dL_law_842 : decode cL_law 842 = .ok (.iload 4, 2) := by decide +kernel
theorem dL_law_844 : decode cL_law 844 = .ok (.iconst 1, 1) := by decide +kernel
theorem dL_law_845 : decode cL_law 845 = .ok (.iadd, 1) := by decide +kernel
theorem dL_law_846 : decode cL_law 846 = .ok (.iaload, 1) := by decide +kernel
theorem dL_law_847 : decode cL_law 847 = .ok (.aload_n 0, 1) := by decide +kernel
theorem dL_law_848 : decode cL_law 848 = .ok (.iload 4, 2) := by decide +kernel
theorem dL_law_850 : decode cL_law 850 = .ok (.iconst 2, 1) := by decide +kernel
theorem dL_law_851 : decode cL_law 851 = .ok (.iadd, 1) := by decide +kernel
theorem dL_law_852 : decode cL_law 852 = .ok (.iaload, 1) := by decide +kernel
theorem dL_law_853 : decode cL_law 853 = .ok (.ifCond .eq 7, 3) := by decide +kernel
theorem dL_law_856 : decode cL_law 856 = .ok (.iconst 1, 1) := by decide +kernel
theorem dL_law_857 : decode cL_law 857 = .ok (.goto 4, 3) := by decide +kernel
theorem dL_law_860 : decode cL_law 860 = .ok (.iconst 0, 1) := by decide +kernel
theorem dL_law_861 : decode cL_law 861 = .ok (.invokevirtual 102, 3) := by decide +kernel
theorem dL_law_864 : decode cL_law 864 = .ok (.aload_n 2, 1) := by decide +kernel
theorem dL_law_865 : decode cL_law 865 = .ok (.aload_n 0, 1) := by decide +kernel
theorem dL_law_866 : decode cL_law 866 = .ok (.iload 4, 2) := by decide +kernel
theorem dL_law_868 : decode cL_law 868 = .ok (.iconst 1, 1) := by decide +kernel
theorem dL_law_869 : decode cL_law 869 = .ok (.iadd, 1) := by decide +kernel
theorem dL_law_870 : decode cL_law 870 = .ok (.iaload, 1) := by decide +kernel
theorem dL_law_871 : decode cL_law 871 = .ok (.aload_n 0, 1) := by decide +kernel
theorem dL_law_872 : decode cL_law 872 = .ok (.iload 4, 2) := by decide +kernel
theorem dL_law_874 : decode cL_law 874 = .ok (.iconst 2, 1) := by decide +kernel
theorem dL_law_875 : decode cL_law 875 = .ok (.iadd, 1) := by decide +kernel
theorem dL_law_876 : decode cL_law 876 = .ok (.iaload, 1) := by decide +kernel
theorem dL_law_877 : decode cL_law 877 = .ok (.ifCond .eq 7, 3) := by decide +kernel
theorem dL_law_880 : decode cL_law 880 = .ok (.iconst 1, 1) := by decide +kernel
theorem dL_law_881 : decode cL_law 881 = .ok (.goto 4, 3) := by decide +kernel
theorem dL_law_884 : decode cL_law 884 = .ok (.iconst 0, 1) := by decide +kernel
theorem dL_law_885 : decode cL_law 885 = .ok (.invokevirtual 106, 3) := by decide +kernel
theorem dL_law_888 : decode cL_law 888 = .ok (.if_icmp .eq 105, 3) := by decide +kernel
theorem dL_law_891 : decode cL_law 891 = .ok (.iconst 0, 1) := by decide +kernel
theorem dL_law_892 : decode cL_law 892 = .ok (.ireturn, 1) := by decide +kernel
theorem dL_law_893 : decode cL_law 893 = .ok (.aload_n 1, 1) := by decide +kernel
theorem dL_law_894 : decode cL_law 894 = .ok (.aload_n 0, 1) := by decide +kernel
theorem dL_law_895 : decode cL_law 895 = .ok (.iload 4, 2) := by decide +kernel
theorem dL_law_897 : decode cL_law 897 = .ok (.iconst 1, 1) := by decide +kernel
theorem dL_law_898 : decode cL_law 898 = .ok (.iadd, 1) := by decide +kernel
theorem dL_law_899 : decode cL_law 899 = .ok (.iaload, 1) := by decide +kernel
theorem dL_law_900 : decode cL_law 900 = .ok (.invokevirtual 107, 3) := by decide +kernel
theorem dL_law_903 : decode cL_law 903 = .ok (.aload_n 2, 1) := by decide +kernel
theorem dL_law_904 : decode cL_law 904 = .ok (.aload_n 0, 1) := by decide +kernel
theorem dL_law_905 : decode cL_law 905 = .ok (.iload 4, 2) := by decide +kernel
theorem dL_law_907 : decode cL_law 907 = .ok (.iconst 1, 1) := by decide +kernel
theorem dL_law_908 : decode cL_law 908 = .ok (.iadd, 1) := by decide +kernel
theorem dL_law_909 : decode cL_law 909 = .ok (.iaload, 1) := by decide +kernel
theorem dL_law_910 : decode cL_law 910 = .ok (.invokevirtual 110, 3) := by decide +kernel
theorem dL_law_913 : decode cL_law 913 = .ok (.if_icmp .eq 80, 3) := by decide +kernel
theorem dL_law_916 : decode cL_law 916 = .ok (.iconst 0, 1) := by decide +kernel
theorem dL_law_917 : decode cL_law 917 = .ok (.ireturn, 1) := by decide +kernel
theorem dL_law_918 : decode cL_law 918 = .ok (.aload_n 1, 1) := by decide +kernel
theorem dL_law_919 : decode cL_law 919 = .ok (.aload_n 0, 1) := by decide +kernel
theorem dL_law_920 : decode cL_law 920 = .ok (.iload 4, 2) := by decide +kernel
theorem dL_law_922 : decode cL_law 922 = .ok (.iconst 1, 1) := by decide +kernel
theorem dL_law_923 : decode cL_law 923 = .ok (.iadd, 1) := by decide +kernel
theorem dL_law_924 : decode cL_law 924 = .ok (.iaload, 1) := by decide +kernel
theorem dL_law_925 : decode cL_law 925 = .ok (.aload_n 0, 1) := by decide +kernel
theorem dL_law_926 : decode cL_law 926 = .ok (.iload 4, 2) := by decide +kernel
theorem dL_law_928 : decode cL_law 928 = .ok (.iconst 2, 1) := by decide +kernel
theorem dL_law_929 : decode cL_law 929 = .ok (.iadd, 1) := by decide +kernel
theorem dL_law_930 : decode cL_law 930 = .ok (.iaload, 1) := by decide +kernel
theorem dL_law_931 : decode cL_law 931 = .ok (.invokevirtual 111, 3) := by decide +kernel
theorem dL_law_934 : decode cL_law 934 = .ok (.aload_n 2, 1) := by decide +kernel
theorem dL_law_935 : decode cL_law 935 = .ok (.aload_n 0, 1) := by decide +kernel
theorem dL_law_936 : decode cL_law 936 = .ok (.iload 4, 2) := by decide +kernel
theorem dL_law_938 : decode cL_law 938 = .ok (.iconst 1, 1) := by decide +kernel
theorem dL_law_939 : decode cL_law 939 = .ok (.iadd, 1) := by decide +kernel
theorem dL_law_940 : decode cL_law 940 = .ok (.iaload, 1) := by decide +kernel
theorem dL_law_941 : decode cL_law 941 = .ok (.aload_n 0, 1) := by decide +kernel
theorem dL_law_942 : decode cL_law 942 = .ok (.iload 4, 2) := by decide +kernel
theorem dL_law_944 : decode cL_law 944 = .ok (.iconst 2, 1) := by decide +kernel
theorem dL_law_945 : decode cL_law 945 = .ok (.iadd, 1) := by decide +kernel
theorem dL_law_946 : decode cL_law 946 = .ok (.iaload, 1) := by decide +kernel
theorem dL_law_947 : decode cL_law 947 = .ok (.invokevirtual 114, 3) := by decide +kernel
theorem dL_law_950 : decode cL_law 950 = .ok (.if_icmp .eq 43, 3) := by decide +kernel
theorem dL_law_953 : decode cL_law 953 = .ok (.iconst 0, 1) := by decide +kernel
theorem dL_law_954 : decode cL_law 954 = .ok (.ireturn, 1) := by decide +kernel
theorem dL_law_955 : decode cL_law 955 = .ok (.aload_n 1, 1) := by decide +kernel
theorem dL_law_956 : decode cL_law 956 = .ok (.invokevirtual 115, 3) := by decide +kernel
theorem dL_law_959 : decode cL_law 959 = .ok (.aload_n 2, 1) := by decide +kernel
theorem dL_law_960 : decode cL_law 960 = .ok (.invokevirtual 118, 3) := by decide +kernel
theorem dL_law_963 : decode cL_law 963 = .ok (.if_icmp .eq 30, 3) := by decide +kernel
theorem dL_law_966 : decode cL_law 966 = .ok (.iconst 0, 1) := by decide +kernel
theorem dL_law_967 : decode cL_law 967 = .ok (.ireturn, 1) := by decide +kernel
theorem dL_law_968 : decode cL_law 968 = .ok (.aload_n 1, 1) := by decide +kernel
theorem dL_law_969 : decode cL_law 969 = .ok (.aload_n 0, 1) := by decide +kernel
theorem dL_law_970 : decode cL_law 970 = .ok (.iload 4, 2) := by decide +kernel
theorem dL_law_972 : decode cL_law 972 = .ok (.iconst 1, 1) := by decide +kernel
theorem dL_law_973 : decode cL_law 973 = .ok (.iadd, 1) := by decide +kernel
theorem dL_law_974 : decode cL_law 974 = .ok (.iaload, 1) := by decide +kernel
theorem dL_law_975 : decode cL_law 975 = .ok (.invokevirtual 119, 3) := by decide +kernel
theorem dL_law_978 : decode cL_law 978 = .ok (.aload_n 2, 1) := by decide +kernel
theorem dL_law_979 : decode cL_law 979 = .ok (.aload_n 0, 1) := by decide +kernel
theorem dL_law_980 : decode cL_law 980 = .ok (.iload 4, 2) := by decide +kernel
theorem dL_law_982 : decode cL_law 982 = .ok (.iconst 1, 1) := by decide +kernel
theorem dL_law_983 : decode cL_law 983 = .ok (.iadd, 1) := by decide +kernel
theorem dL_law_984 : decode cL_law 984 = .ok (.iaload, 1) := by decide +kernel
theorem dL_law_985 : decode cL_law 985 = .ok (.invokevirtual 122, 3) := by decide +kernel
theorem dL_law_988 : decode cL_law 988 = .ok (.if_icmp .eq 5, 3) := by decide +kernel
theorem dL_law_991 : decode cL_law 991 = .ok (.iconst 0, 1) := by decide +kernel
theorem dL_law_992 : decode cL_law 992 = .ok (.ireturn, 1) := by decide +kernel
theorem dL_law_993 : decode cL_law 993 = .ok (.iinc 4 6, 3) := by decide +kernel
theorem dL_law_996 : decode cL_law 996 = .ok (.goto (-973), 3) := by decide +kernel
theorem dL_law_999 : decode cL_law 999 = .ok (.iconst 1, 1) := by decide +kernel
theorem dL_law_1000 : decode cL_law 1000 = .ok (.ireturn, 1) := by decide +kernel
