/-! what each instruction is, by a program of mine -/
theorem dM_changes_29 : decode mM_changes.2.1 29 = .ok (.invokevirtual 190, 3) := by decide +kernel
theorem dM_changes_32 : decode mM_changes.2.1 32 = .ok (.ireturn, 1) := by decide +kernel
theorem dU_breaksOf_0 : decode mU_breaksOf.2.1 0 = .ok (.iconst 0, 1) := by decide +kernel
theorem dU_breaksOf_1 : decode mU_breaksOf.2.1 1 = .ok (.istore_n 2, 1) := by decide +kernel
theorem dU_breaksOf_2 : decode mU_breaksOf.2.1 2 = .ok (.iconst 0, 1) := by decide +kernel
theorem dU_breaksOf_3 : decode mU_breaksOf.2.1 3 = .ok (.istore_n 3, 1) := by decide +kernel
theorem dU_breaksOf_4 : decode mU_breaksOf.2.1 4 = .ok (.iload_n 3, 1) := by decide +kernel
theorem dU_breaksOf_5 : decode mU_breaksOf.2.1 5 = .ok (.bipush 8, 2) := by decide +kernel
theorem dU_breaksOf_7 : decode mU_breaksOf.2.1 7 = .ok (.if_icmp .ge 24, 3) := by decide +kernel
theorem dU_breaksOf_10 : decode mU_breaksOf.2.1 10 = .ok (.iload_n 2, 1) := by decide +kernel
theorem dU_breaksOf_11 : decode mU_breaksOf.2.1 11 = .ok (.iconst 0, 1) := by decide +kernel
theorem dU_breaksOf_12 : decode mU_breaksOf.2.1 12 = .ok (.aload_n 0, 1) := by decide +kernel
theorem dU_breaksOf_13 : decode mU_breaksOf.2.1 13 = .ok (.iload_n 1, 1) := by decide +kernel
theorem dU_breaksOf_14 : decode mU_breaksOf.2.1 14 = .ok (.iload_n 3, 1) := by decide +kernel
theorem dU_breaksOf_15 : decode mU_breaksOf.2.1 15 = .ok (.invokevirtual 45, 3) := by decide +kernel
theorem dU_breaksOf_18 : decode mU_breaksOf.2.1 18 = .ok (.iconst 2, 1) := by decide +kernel
theorem dU_breaksOf_19 : decode mU_breaksOf.2.1 19 = .ok (.isub, 1) := by decide +kernel
theorem dU_breaksOf_20 : decode mU_breaksOf.2.1 20 = .ok (.invokestatic 48, 3) := by decide +kernel
theorem dU_breaksOf_23 : decode mU_breaksOf.2.1 23 = .ok (.iadd, 1) := by decide +kernel
theorem dU_breaksOf_24 : decode mU_breaksOf.2.1 24 = .ok (.istore_n 2, 1) := by decide +kernel
theorem dU_breaksOf_25 : decode mU_breaksOf.2.1 25 = .ok (.iinc 3 1, 3) := by decide +kernel
theorem dU_breaksOf_28 : decode mU_breaksOf.2.1 28 = .ok (.goto (-24), 3) := by decide +kernel
theorem dU_breaksOf_31 : decode mU_breaksOf.2.1 31 = .ok (.iload_n 2, 1) := by decide +kernel
theorem dU_breaksOf_32 : decode mU_breaksOf.2.1 32 = .ok (.ireturn, 1) := by decide +kernel
theorem dX_breaks_0 : decode mX_breaks.2.1 0 = .ok (.aload_n 0, 1) := by decide +kernel
theorem dX_breaks_1 : decode mX_breaks.2.1 1 = .ok (.getfield 12, 3) := by decide +kernel
theorem dX_breaks_4 : decode mX_breaks.2.1 4 = .ok (.iload_n 1, 1) := by decide +kernel
theorem dX_breaks_5 : decode mX_breaks.2.1 5 = .ok (.invokevirtual 149, 3) := by decide +kernel
theorem dX_breaks_8 : decode mX_breaks.2.1 8 = .ok (.ifCond .ne 5, 3) := by decide +kernel
theorem dX_breaks_11 : decode mX_breaks.2.1 11 = .ok (.iconst (-1), 1) := by decide +kernel
theorem dX_breaks_12 : decode mX_breaks.2.1 12 = .ok (.ireturn, 1) := by decide +kernel
theorem dX_breaks_13 : decode mX_breaks.2.1 13 = .ok (.aload_n 0, 1) := by decide +kernel
theorem dX_breaks_14 : decode mX_breaks.2.1 14 = .ok (.getfield 24, 3) := by decide +kernel
theorem dX_breaks_17 : decode mX_breaks.2.1 17 = .ok (.invokevirtual 126, 3) := by decide +kernel
theorem dX_breaks_20 : decode mX_breaks.2.1 20 = .ok (.aload_n 0, 1) := by decide +kernel
theorem dX_breaks_21 : decode mX_breaks.2.1 21 = .ok (.getfield 33, 3) := by decide +kernel
theorem dX_breaks_24 : decode mX_breaks.2.1 24 = .ok (.aload_n 0, 1) := by decide +kernel
theorem dX_breaks_25 : decode mX_breaks.2.1 25 = .ok (.getfield 33, 3) := by decide +kernel
theorem dX_breaks_28 : decode mX_breaks.2.1 28 = .ok (.iload_n 1, 1) := by decide +kernel
theorem dX_breaks_29 : decode mX_breaks.2.1 29 = .ok (.invokevirtual 152, 3) := by decide +kernel
theorem dX_breaks_32 : decode mX_breaks.2.1 32 = .ok (.invokevirtual 164, 3) := by decide +kernel
theorem dX_breaks_35 : decode mX_breaks.2.1 35 = .ok (.ireturn, 1) := by decide +kernel
theorem dM_breaks_0 : decode mM_breaks.2.1 0 = .ok (.aload_n 0, 1) := by decide +kernel
theorem dM_breaks_1 : decode mM_breaks.2.1 1 = .ok (.iload_n 1, 1) := by decide +kernel
theorem dM_breaks_2 : decode mM_breaks.2.1 2 = .ok (.invokevirtual 184, 3) := by decide +kernel
theorem dM_breaks_5 : decode mM_breaks.2.1 5 = .ok (.ifCond .ne 5, 3) := by decide +kernel
theorem dM_breaks_8 : decode mM_breaks.2.1 8 = .ok (.iconst (-1), 1) := by decide +kernel
theorem dM_breaks_9 : decode mM_breaks.2.1 9 = .ok (.ireturn, 1) := by decide +kernel
theorem dM_breaks_10 : decode mM_breaks.2.1 10 = .ok (.aload_n 0, 1) := by decide +kernel
theorem dM_breaks_11 : decode mM_breaks.2.1 11 = .ok (.iconst (-1), 1) := by decide +kernel
theorem dM_breaks_12 : decode mM_breaks.2.1 12 = .ok (.invokevirtual 168, 3) := by decide +kernel
theorem dM_breaks_15 : decode mM_breaks.2.1 15 = .ok (.aload_n 0, 1) := by decide +kernel
theorem dM_breaks_16 : decode mM_breaks.2.1 16 = .ok (.iload_n 1, 1) := by decide +kernel
theorem dM_breaks_17 : decode mM_breaks.2.1 17 = .ok (.invokevirtual 187, 3) := by decide +kernel
theorem dM_breaks_20 : decode mM_breaks.2.1 20 = .ok (.iconst 0, 1) := by decide +kernel
theorem dM_breaks_21 : decode mM_breaks.2.1 21 = .ok (.istore_n 2, 1) := by decide +kernel
theorem dM_breaks_22 : decode mM_breaks.2.1 22 = .ok (.iconst 0, 1) := by decide +kernel
theorem dM_breaks_23 : decode mM_breaks.2.1 23 = .ok (.istore_n 3, 1) := by decide +kernel
theorem dM_breaks_24 : decode mM_breaks.2.1 24 = .ok (.iload_n 3, 1) := by decide +kernel
theorem dM_breaks_25 : decode mM_breaks.2.1 25 = .ok (.bipush 8, 2) := by decide +kernel
theorem dM_breaks_27 : decode mM_breaks.2.1 27 = .ok (.if_icmp .ge 33, 3) := by decide +kernel
theorem dM_breaks_30 : decode mM_breaks.2.1 30 = .ok (.aload_n 0, 1) := by decide +kernel
theorem dM_breaks_31 : decode mM_breaks.2.1 31 = .ok (.iload_n 3, 1) := by decide +kernel
theorem dM_breaks_32 : decode mM_breaks.2.1 32 = .ok (.invokevirtual 190, 3) := by decide +kernel
theorem dM_breaks_35 : decode mM_breaks.2.1 35 = .ok (.istore 4, 2) := by decide +kernel
theorem dM_breaks_37 : decode mM_breaks.2.1 37 = .ok (.iload_n 2, 1) := by decide +kernel
theorem dM_breaks_38 : decode mM_breaks.2.1 38 = .ok (.iload 4, 2) := by decide +kernel
theorem dM_breaks_40 : decode mM_breaks.2.1 40 = .ok (.iconst 2, 1) := by decide +kernel
theorem dM_breaks_41 : decode mM_breaks.2.1 41 = .ok (.if_icmp .le 10, 3) := by decide +kernel
theorem dM_breaks_44 : decode mM_breaks.2.1 44 = .ok (.iload 4, 2) := by decide +kernel
theorem dM_breaks_46 : decode mM_breaks.2.1 46 = .ok (.iconst 2, 1) := by decide +kernel
theorem dM_breaks_47 : decode mM_breaks.2.1 47 = .ok (.isub, 1) := by decide +kernel
theorem dM_breaks_48 : decode mM_breaks.2.1 48 = .ok (.goto 4, 3) := by decide +kernel
theorem dM_breaks_51 : decode mM_breaks.2.1 51 = .ok (.iconst 0, 1) := by decide +kernel
theorem dM_breaks_52 : decode mM_breaks.2.1 52 = .ok (.iadd, 1) := by decide +kernel
theorem dM_breaks_53 : decode mM_breaks.2.1 53 = .ok (.istore_n 2, 1) := by decide +kernel
theorem dM_breaks_54 : decode mM_breaks.2.1 54 = .ok (.iinc 3 1, 3) := by decide +kernel
theorem dM_breaks_57 : decode mM_breaks.2.1 57 = .ok (.goto (-33), 3) := by decide +kernel
theorem dM_breaks_60 : decode mM_breaks.2.1 60 = .ok (.iload_n 2, 1) := by decide +kernel
theorem dM_breaks_61 : decode mM_breaks.2.1 61 = .ok (.ireturn, 1) := by decide +kernel
theorem dU_areInverted_0 : decode mU_areInverted.2.1 0 = .ok (.aload_n 0, 1) := by decide +kernel
theorem dU_areInverted_1 : decode mU_areInverted.2.1 1 = .ok (.getfield 15, 3) := by decide +kernel
theorem dU_areInverted_4 : decode mU_areInverted.2.1 4 = .ok (.iload_n 1, 1) := by decide +kernel
theorem dU_areInverted_5 : decode mU_areInverted.2.1 5 = .ok (.bipush 6, 2) := by decide +kernel
theorem dU_areInverted_7 : decode mU_areInverted.2.1 7 = .ok (.invokevirtual 38, 3) := by decide +kernel
theorem dU_areInverted_10 : decode mU_areInverted.2.1 10 = .ok (.istore_n 3, 1) := by decide +kernel
theorem dU_areInverted_11 : decode mU_areInverted.2.1 11 = .ok (.aload_n 0, 1) := by decide +kernel
theorem dU_areInverted_12 : decode mU_areInverted.2.1 12 = .ok (.getfield 15, 3) := by decide +kernel
theorem dU_areInverted_15 : decode mU_areInverted.2.1 15 = .ok (.iload_n 2, 1) := by decide +kernel
theorem dU_areInverted_16 : decode mU_areInverted.2.1 16 = .ok (.bipush 6, 2) := by decide +kernel
theorem dU_areInverted_18 : decode mU_areInverted.2.1 18 = .ok (.invokevirtual 38, 3) := by decide +kernel
theorem dU_areInverted_21 : decode mU_areInverted.2.1 21 = .ok (.istore 4, 2) := by decide +kernel
theorem dU_areInverted_23 : decode mU_areInverted.2.1 23 = .ok (.aload_n 0, 1) := by decide +kernel
theorem dU_areInverted_24 : decode mU_areInverted.2.1 24 = .ok (.getfield 15, 3) := by decide +kernel
theorem dU_areInverted_27 : decode mU_areInverted.2.1 27 = .ok (.iload_n 1, 1) := by decide +kernel
theorem dU_areInverted_28 : decode mU_areInverted.2.1 28 = .ok (.iconst 5, 1) := by decide +kernel
theorem dU_areInverted_29 : decode mU_areInverted.2.1 29 = .ok (.invokevirtual 38, 3) := by decide +kernel
theorem dU_areInverted_32 : decode mU_areInverted.2.1 32 = .ok (.aload_n 0, 1) := by decide +kernel
theorem dU_areInverted_33 : decode mU_areInverted.2.1 33 = .ok (.getfield 15, 3) := by decide +kernel
theorem dU_areInverted_36 : decode mU_areInverted.2.1 36 = .ok (.iload_n 2, 1) := by decide +kernel
theorem dU_areInverted_37 : decode mU_areInverted.2.1 37 = .ok (.iconst 5, 1) := by decide +kernel
theorem dU_areInverted_38 : decode mU_areInverted.2.1 38 = .ok (.invokevirtual 38, 3) := by decide +kernel
theorem dU_areInverted_41 : decode mU_areInverted.2.1 41 = .ok (.if_icmp .eq 19, 3) := by decide +kernel
theorem dU_areInverted_44 : decode mU_areInverted.2.1 44 = .ok (.iload 4, 2) := by decide +kernel
theorem dU_areInverted_46 : decode mU_areInverted.2.1 46 = .ok (.iconst (-1), 1) := by decide +kernel
theorem dU_areInverted_47 : decode mU_areInverted.2.1 47 = .ok (.if_icmp .eq 13, 3) := by decide +kernel
theorem dU_areInverted_50 : decode mU_areInverted.2.1 50 = .ok (.iload_n 3, 1) := by decide +kernel
theorem dU_areInverted_51 : decode mU_areInverted.2.1 51 = .ok (.iload 4, 2) := by decide +kernel
theorem dU_areInverted_53 : decode mU_areInverted.2.1 53 = .ok (.if_icmp .le 7, 3) := by decide +kernel
theorem dU_areInverted_56 : decode mU_areInverted.2.1 56 = .ok (.iconst 1, 1) := by decide +kernel
theorem dU_areInverted_57 : decode mU_areInverted.2.1 57 = .ok (.goto 4, 3) := by decide +kernel
theorem dU_areInverted_60 : decode mU_areInverted.2.1 60 = .ok (.iconst 0, 1) := by decide +kernel
theorem dU_areInverted_61 : decode mU_areInverted.2.1 61 = .ok (.ireturn, 1) := by decide +kernel
theorem dU_invertedInLine_0 : decode mU_invertedInLine.2.1 0 = .ok (.iconst 0, 1) := by decide +kernel
theorem dU_invertedInLine_1 : decode mU_invertedInLine.2.1 1 = .ok (.istore_n 2, 1) := by decide +kernel
theorem dU_invertedInLine_2 : decode mU_invertedInLine.2.1 2 = .ok (.iconst 1, 1) := by decide +kernel
theorem dU_invertedInLine_3 : decode mU_invertedInLine.2.1 3 = .ok (.istore_n 3, 1) := by decide +kernel
theorem dU_invertedInLine_4 : decode mU_invertedInLine.2.1 4 = .ok (.iload_n 3, 1) := by decide +kernel
theorem dU_invertedInLine_5 : decode mU_invertedInLine.2.1 5 = .ok (.iload_n 1, 1) := by decide +kernel
theorem dU_invertedInLine_6 : decode mU_invertedInLine.2.1 6 = .ok (.if_icmp .ge 47, 3) := by decide +kernel
theorem dU_invertedInLine_9 : decode mU_invertedInLine.2.1 9 = .ok (.iconst 0, 1) := by decide +kernel
theorem dU_invertedInLine_10 : decode mU_invertedInLine.2.1 10 = .ok (.istore 4, 2) := by decide +kernel
theorem dU_invertedInLine_12 : decode mU_invertedInLine.2.1 12 = .ok (.iload 4, 2) := by decide +kernel
theorem dU_invertedInLine_14 : decode mU_invertedInLine.2.1 14 = .ok (.iload_n 3, 1) := by decide +kernel
theorem dU_invertedInLine_15 : decode mU_invertedInLine.2.1 15 = .ok (.if_icmp .ge 32, 3) := by decide +kernel
theorem dU_invertedInLine_18 : decode mU_invertedInLine.2.1 18 = .ok (.aload_n 0, 1) := by decide +kernel
theorem dU_invertedInLine_19 : decode mU_invertedInLine.2.1 19 = .ok (.aload_n 0, 1) := by decide +kernel
theorem dU_invertedInLine_20 : decode mU_invertedInLine.2.1 20 = .ok (.getfield 9, 3) := by decide +kernel
theorem dU_invertedInLine_23 : decode mU_invertedInLine.2.1 23 = .ok (.iload 4, 2) := by decide +kernel
theorem dU_invertedInLine_25 : decode mU_invertedInLine.2.1 25 = .ok (.iaload, 1) := by decide +kernel
theorem dU_invertedInLine_26 : decode mU_invertedInLine.2.1 26 = .ok (.aload_n 0, 1) := by decide +kernel
theorem dU_invertedInLine_27 : decode mU_invertedInLine.2.1 27 = .ok (.getfield 9, 3) := by decide +kernel
theorem dU_invertedInLine_30 : decode mU_invertedInLine.2.1 30 = .ok (.iload_n 3, 1) := by decide +kernel
theorem dU_invertedInLine_31 : decode mU_invertedInLine.2.1 31 = .ok (.iaload, 1) := by decide +kernel
theorem dU_invertedInLine_32 : decode mU_invertedInLine.2.1 32 = .ok (.invokevirtual 64, 3) := by decide +kernel
theorem dU_invertedInLine_35 : decode mU_invertedInLine.2.1 35 = .ok (.ifCond .eq 6, 3) := by decide +kernel
theorem dU_invertedInLine_38 : decode mU_invertedInLine.2.1 38 = .ok (.iinc 2 1, 3) := by decide +kernel
theorem dU_invertedInLine_41 : decode mU_invertedInLine.2.1 41 = .ok (.iinc 4 1, 3) := by decide +kernel
theorem dU_invertedInLine_44 : decode mU_invertedInLine.2.1 44 = .ok (.goto (-32), 3) := by decide +kernel
theorem dU_invertedInLine_47 : decode mU_invertedInLine.2.1 47 = .ok (.iinc 3 1, 3) := by decide +kernel
theorem dU_invertedInLine_50 : decode mU_invertedInLine.2.1 50 = .ok (.goto (-46), 3) := by decide +kernel
theorem dU_invertedInLine_53 : decode mU_invertedInLine.2.1 53 = .ok (.iload_n 2, 1) := by decide +kernel
theorem dU_invertedInLine_54 : decode mU_invertedInLine.2.1 54 = .ok (.ireturn, 1) := by decide +kernel
theorem dU_invertedPairs_0 : decode mU_invertedPairs.2.1 0 = .ok (.iconst 0, 1) := by decide +kernel
theorem dU_invertedPairs_1 : decode mU_invertedPairs.2.1 1 = .ok (.istore_n 1, 1) := by decide +kernel
theorem dU_invertedPairs_2 : decode mU_invertedPairs.2.1 2 = .ok (.iconst 0, 1) := by decide +kernel
theorem dU_invertedPairs_3 : decode mU_invertedPairs.2.1 3 = .ok (.istore_n 2, 1) := by decide +kernel
theorem dU_invertedPairs_4 : decode mU_invertedPairs.2.1 4 = .ok (.iload_n 2, 1) := by decide +kernel
theorem dU_invertedPairs_5 : decode mU_invertedPairs.2.1 5 = .ok (.aload_n 0, 1) := by decide +kernel
theorem dU_invertedPairs_6 : decode mU_invertedPairs.2.1 6 = .ok (.getfield 15, 3) := by decide +kernel
theorem dU_invertedPairs_9 : decode mU_invertedPairs.2.1 9 = .ok (.invokevirtual 53, 3) := by decide +kernel
theorem dU_invertedPairs_12 : decode mU_invertedPairs.2.1 12 = .ok (.if_icmp .ge 21, 3) := by decide +kernel
theorem dU_invertedPairs_15 : decode mU_invertedPairs.2.1 15 = .ok (.iload_n 1, 1) := by decide +kernel
theorem dU_invertedPairs_16 : decode mU_invertedPairs.2.1 16 = .ok (.aload_n 0, 1) := by decide +kernel
theorem dU_invertedPairs_17 : decode mU_invertedPairs.2.1 17 = .ok (.aload_n 0, 1) := by decide +kernel
theorem dU_invertedPairs_18 : decode mU_invertedPairs.2.1 18 = .ok (.iload_n 2, 1) := by decide +kernel
theorem dU_invertedPairs_19 : decode mU_invertedPairs.2.1 19 = .ok (.invokevirtual 57, 3) := by decide +kernel
theorem dU_invertedPairs_22 : decode mU_invertedPairs.2.1 22 = .ok (.invokevirtual 61, 3) := by decide +kernel
theorem dU_invertedPairs_25 : decode mU_invertedPairs.2.1 25 = .ok (.iadd, 1) := by decide +kernel
theorem dU_invertedPairs_26 : decode mU_invertedPairs.2.1 26 = .ok (.istore_n 1, 1) := by decide +kernel
theorem dU_invertedPairs_27 : decode mU_invertedPairs.2.1 27 = .ok (.iinc 2 1, 3) := by decide +kernel
theorem dU_invertedPairs_30 : decode mU_invertedPairs.2.1 30 = .ok (.goto (-26), 3) := by decide +kernel
theorem dU_invertedPairs_33 : decode mU_invertedPairs.2.1 33 = .ok (.iload_n 1, 1) := by decide +kernel
theorem dU_invertedPairs_34 : decode mU_invertedPairs.2.1 34 = .ok (.ireturn, 1) := by decide +kernel
theorem dX_inverted_0 : decode mX_inverted.2.1 0 = .ok (.aload_n 0, 1) := by decide +kernel
theorem dX_inverted_1 : decode mX_inverted.2.1 1 = .ok (.getfield 24, 3) := by decide +kernel
theorem dX_inverted_4 : decode mX_inverted.2.1 4 = .ok (.invokevirtual 126, 3) := by decide +kernel
theorem dX_inverted_7 : decode mX_inverted.2.1 7 = .ok (.aload_n 0, 1) := by decide +kernel
theorem dX_inverted_8 : decode mX_inverted.2.1 8 = .ok (.getfield 33, 3) := by decide +kernel
theorem dX_inverted_11 : decode mX_inverted.2.1 11 = .ok (.invokevirtual 167, 3) := by decide +kernel
theorem dX_inverted_14 : decode mX_inverted.2.1 14 = .ok (.ireturn, 1) := by decide +kernel
theorem dM_inverted_0 : decode mM_inverted.2.1 0 = .ok (.aload_n 0, 1) := by decide +kernel
theorem dM_inverted_1 : decode mM_inverted.2.1 1 = .ok (.iconst (-1), 1) := by decide +kernel
theorem dM_inverted_2 : decode mM_inverted.2.1 2 = .ok (.invokevirtual 168, 3) := by decide +kernel
theorem dM_inverted_5 : decode mM_inverted.2.1 5 = .ok (.iconst 0, 1) := by decide +kernel
theorem dM_inverted_6 : decode mM_inverted.2.1 6 = .ok (.istore_n 1, 1) := by decide +kernel
theorem dM_inverted_7 : decode mM_inverted.2.1 7 = .ok (.iconst 0, 1) := by decide +kernel
theorem dM_inverted_8 : decode mM_inverted.2.1 8 = .ok (.istore_n 2, 1) := by decide +kernel
theorem dM_inverted_9 : decode mM_inverted.2.1 9 = .ok (.iload_n 2, 1) := by decide +kernel
theorem dM_inverted_10 : decode mM_inverted.2.1 10 = .ok (.aload_n 0, 1) := by decide +kernel
theorem dM_inverted_11 : decode mM_inverted.2.1 11 = .ok (.invokevirtual 106, 3) := by decide +kernel
theorem dM_inverted_14 : decode mM_inverted.2.1 14 = .ok (.if_icmp .ge 124, 3) := by decide +kernel
theorem dM_inverted_17 : decode mM_inverted.2.1 17 = .ok (.aload_n 0, 1) := by decide +kernel
theorem dM_inverted_18 : decode mM_inverted.2.1 18 = .ok (.iload_n 2, 1) := by decide +kernel
theorem dM_inverted_19 : decode mM_inverted.2.1 19 = .ok (.invokevirtual 187, 3) := by decide +kernel
theorem dM_inverted_22 : decode mM_inverted.2.1 22 = .ok (.iconst 0, 1) := by decide +kernel
theorem dM_inverted_23 : decode mM_inverted.2.1 23 = .ok (.istore_n 3, 1) := by decide +kernel
theorem dM_inverted_24 : decode mM_inverted.2.1 24 = .ok (.iload_n 3, 1) := by decide +kernel
theorem dM_inverted_25 : decode mM_inverted.2.1 25 = .ok (.aload_n 0, 1) := by decide +kernel
theorem dM_inverted_26 : decode mM_inverted.2.1 26 = .ok (.getfield 181, 3) := by decide +kernel
theorem dM_inverted_29 : decode mM_inverted.2.1 29 = .ok (.if_icmp .ge 103, 3) := by decide +kernel
theorem dM_inverted_32 : decode mM_inverted.2.1 32 = .ok (.iconst 0, 1) := by decide +kernel
theorem dM_inverted_33 : decode mM_inverted.2.1 33 = .ok (.istore 4, 2) := by decide +kernel
theorem dM_inverted_35 : decode mM_inverted.2.1 35 = .ok (.iload 4, 2) := by decide +kernel
theorem dM_inverted_37 : decode mM_inverted.2.1 37 = .ok (.iload_n 3, 1) := by decide +kernel
theorem dM_inverted_38 : decode mM_inverted.2.1 38 = .ok (.if_icmp .ge 88, 3) := by decide +kernel
theorem dM_inverted_41 : decode mM_inverted.2.1 41 = .ok (.aload_n 0, 1) := by decide +kernel
theorem dM_inverted_42 : decode mM_inverted.2.1 42 = .ok (.getfield 93, 3) := by decide +kernel
theorem dM_inverted_45 : decode mM_inverted.2.1 45 = .ok (.iload 4, 2) := by decide +kernel
theorem dM_inverted_47 : decode mM_inverted.2.1 47 = .ok (.iaload, 1) := by decide +kernel
theorem dM_inverted_48 : decode mM_inverted.2.1 48 = .ok (.istore 5, 2) := by decide +kernel
theorem dM_inverted_50 : decode mM_inverted.2.1 50 = .ok (.aload_n 0, 1) := by decide +kernel
theorem dM_inverted_51 : decode mM_inverted.2.1 51 = .ok (.getfield 93, 3) := by decide +kernel
theorem dM_inverted_54 : decode mM_inverted.2.1 54 = .ok (.iload_n 3, 1) := by decide +kernel
theorem dM_inverted_55 : decode mM_inverted.2.1 55 = .ok (.iaload, 1) := by decide +kernel
theorem dM_inverted_56 : decode mM_inverted.2.1 56 = .ok (.istore 6, 2) := by decide +kernel
theorem dM_inverted_58 : decode mM_inverted.2.1 58 = .ok (.iload_n 1, 1) := by decide +kernel
theorem dM_inverted_59 : decode mM_inverted.2.1 59 = .ok (.aload_n 0, 1) := by decide +kernel
theorem dM_inverted_60 : decode mM_inverted.2.1 60 = .ok (.getfield 45, 3) := by decide +kernel
theorem dM_inverted_63 : decode mM_inverted.2.1 63 = .ok (.iload 5, 2) := by decide +kernel
theorem dM_inverted_65 : decode mM_inverted.2.1 65 = .ok (.iaload, 1) := by decide +kernel
theorem dM_inverted_66 : decode mM_inverted.2.1 66 = .ok (.aload_n 0, 1) := by decide +kernel
theorem dM_inverted_67 : decode mM_inverted.2.1 67 = .ok (.getfield 45, 3) := by decide +kernel
theorem dM_inverted_70 : decode mM_inverted.2.1 70 = .ok (.iload 6, 2) := by decide +kernel
theorem dM_inverted_72 : decode mM_inverted.2.1 72 = .ok (.iaload, 1) := by decide +kernel
theorem dM_inverted_73 : decode mM_inverted.2.1 73 = .ok (.if_icmp .ge 44, 3) := by decide +kernel
theorem dM_inverted_76 : decode mM_inverted.2.1 76 = .ok (.aload_n 0, 1) := by decide +kernel
theorem dM_inverted_77 : decode mM_inverted.2.1 77 = .ok (.getfield 48, 3) := by decide +kernel
theorem dM_inverted_80 : decode mM_inverted.2.1 80 = .ok (.iload 5, 2) := by decide +kernel
theorem dM_inverted_82 : decode mM_inverted.2.1 82 = .ok (.iaload, 1) := by decide +kernel
theorem dM_inverted_83 : decode mM_inverted.2.1 83 = .ok (.ifCond .lt 34, 3) := by decide +kernel
theorem dM_inverted_86 : decode mM_inverted.2.1 86 = .ok (.aload_n 0, 1) := by decide +kernel
theorem dM_inverted_87 : decode mM_inverted.2.1 87 = .ok (.getfield 48, 3) := by decide +kernel
theorem dM_inverted_90 : decode mM_inverted.2.1 90 = .ok (.iload 6, 2) := by decide +kernel
theorem dM_inverted_92 : decode mM_inverted.2.1 92 = .ok (.iaload, 1) := by decide +kernel
theorem dM_inverted_93 : decode mM_inverted.2.1 93 = .ok (.ifCond .lt 24, 3) := by decide +kernel
theorem dM_inverted_96 : decode mM_inverted.2.1 96 = .ok (.aload_n 0, 1) := by decide +kernel
theorem dM_inverted_97 : decode mM_inverted.2.1 97 = .ok (.getfield 48, 3) := by decide +kernel
theorem dM_inverted_100 : decode mM_inverted.2.1 100 = .ok (.iload 5, 2) := by decide +kernel
theorem dM_inverted_102 : decode mM_inverted.2.1 102 = .ok (.iaload, 1) := by decide +kernel
theorem dM_inverted_103 : decode mM_inverted.2.1 103 = .ok (.aload_n 0, 1) := by decide +kernel
theorem dM_inverted_104 : decode mM_inverted.2.1 104 = .ok (.getfield 48, 3) := by decide +kernel
theorem dM_inverted_107 : decode mM_inverted.2.1 107 = .ok (.iload 6, 2) := by decide +kernel
theorem dM_inverted_109 : decode mM_inverted.2.1 109 = .ok (.iaload, 1) := by decide +kernel
theorem dM_inverted_110 : decode mM_inverted.2.1 110 = .ok (.if_icmp .le 7, 3) := by decide +kernel
theorem dM_inverted_113 : decode mM_inverted.2.1 113 = .ok (.iconst 1, 1) := by decide +kernel
theorem dM_inverted_114 : decode mM_inverted.2.1 114 = .ok (.goto 4, 3) := by decide +kernel
theorem dM_inverted_117 : decode mM_inverted.2.1 117 = .ok (.iconst 0, 1) := by decide +kernel
theorem dM_inverted_118 : decode mM_inverted.2.1 118 = .ok (.iadd, 1) := by decide +kernel
theorem dM_inverted_119 : decode mM_inverted.2.1 119 = .ok (.istore_n 1, 1) := by decide +kernel
theorem dM_inverted_120 : decode mM_inverted.2.1 120 = .ok (.iinc 4 1, 3) := by decide +kernel
theorem dM_inverted_123 : decode mM_inverted.2.1 123 = .ok (.goto (-88), 3) := by decide +kernel
theorem dM_inverted_126 : decode mM_inverted.2.1 126 = .ok (.iinc 3 1, 3) := by decide +kernel
theorem dM_inverted_129 : decode mM_inverted.2.1 129 = .ok (.goto (-105), 3) := by decide +kernel
theorem dM_inverted_132 : decode mM_inverted.2.1 132 = .ok (.iinc 2 1, 3) := by decide +kernel
theorem dM_inverted_135 : decode mM_inverted.2.1 135 = .ok (.goto (-126), 3) := by decide +kernel
theorem dM_inverted_138 : decode mM_inverted.2.1 138 = .ok (.iload_n 1, 1) := by decide +kernel
theorem dM_inverted_139 : decode mM_inverted.2.1 139 = .ok (.ireturn, 1) := by decide +kernel
theorem dT_isInSpan_0 : decode mT_isInSpan.2.1 0 = .ok (.aload_n 0, 1) := by decide +kernel
theorem dT_isInSpan_1 : decode mT_isInSpan.2.1 1 = .ok (.iload_n 1, 1) := by decide +kernel
theorem dT_isInSpan_2 : decode mT_isInSpan.2.1 2 = .ok (.bipush 7, 2) := by decide +kernel
theorem dT_isInSpan_4 : decode mT_isInSpan.2.1 4 = .ok (.invokevirtual 69, 3) := by decide +kernel
theorem dT_isInSpan_7 : decode mT_isInSpan.2.1 7 = .ok (.iload_n 2, 1) := by decide +kernel
theorem dT_isInSpan_8 : decode mT_isInSpan.2.1 8 = .ok (.if_icmp .ne 31, 3) := by decide +kernel
theorem dT_isInSpan_11 : decode mT_isInSpan.2.1 11 = .ok (.aload_n 0, 1) := by decide +kernel
theorem dT_isInSpan_12 : decode mT_isInSpan.2.1 12 = .ok (.iload_n 1, 1) := by decide +kernel
theorem dT_isInSpan_13 : decode mT_isInSpan.2.1 13 = .ok (.bipush 6, 2) := by decide +kernel
theorem dT_isInSpan_15 : decode mT_isInSpan.2.1 15 = .ok (.invokevirtual 69, 3) := by decide +kernel
theorem dT_isInSpan_18 : decode mT_isInSpan.2.1 18 = .ok (.iconst (-1), 1) := by decide +kernel
theorem dT_isInSpan_19 : decode mT_isInSpan.2.1 19 = .ok (.if_icmp .eq 20, 3) := by decide +kernel
theorem dT_isInSpan_22 : decode mT_isInSpan.2.1 22 = .ok (.aload_n 0, 1) := by decide +kernel
theorem dT_isInSpan_23 : decode mT_isInSpan.2.1 23 = .ok (.aload_n 0, 1) := by decide +kernel
theorem dT_isInSpan_24 : decode mT_isInSpan.2.1 24 = .ok (.iload_n 1, 1) := by decide +kernel
theorem dT_isInSpan_25 : decode mT_isInSpan.2.1 25 = .ok (.iconst 0, 1) := by decide +kernel
theorem dT_isInSpan_26 : decode mT_isInSpan.2.1 26 = .ok (.invokevirtual 69, 3) := by decide +kernel
theorem dT_isInSpan_29 : decode mT_isInSpan.2.1 29 = .ok (.invokevirtual 91, 3) := by decide +kernel
theorem dT_isInSpan_32 : decode mT_isInSpan.2.1 32 = .ok (.ifCond .eq 7, 3) := by decide +kernel
theorem dT_isInSpan_35 : decode mT_isInSpan.2.1 35 = .ok (.iconst 1, 1) := by decide +kernel
theorem dT_isInSpan_36 : decode mT_isInSpan.2.1 36 = .ok (.goto 4, 3) := by decide +kernel
theorem dT_isInSpan_39 : decode mT_isInSpan.2.1 39 = .ok (.iconst 0, 1) := by decide +kernel
theorem dT_isInSpan_40 : decode mT_isInSpan.2.1 40 = .ok (.ireturn, 1) := by decide +kernel
theorem dT_datedOf_0 : decode mT_datedOf.2.1 0 = .ok (.iconst 0, 1) := by decide +kernel
theorem dT_datedOf_1 : decode mT_datedOf.2.1 1 = .ok (.istore_n 2, 1) := by decide +kernel
theorem dT_datedOf_2 : decode mT_datedOf.2.1 2 = .ok (.iconst 0, 1) := by decide +kernel
theorem dT_datedOf_3 : decode mT_datedOf.2.1 3 = .ok (.istore_n 3, 1) := by decide +kernel
theorem dT_datedOf_4 : decode mT_datedOf.2.1 4 = .ok (.iload_n 3, 1) := by decide +kernel
theorem dT_datedOf_5 : decode mT_datedOf.2.1 5 = .ok (.aload_n 0, 1) := by decide +kernel
theorem dT_datedOf_6 : decode mT_datedOf.2.1 6 = .ok (.getfield 21, 3) := by decide +kernel
theorem dT_datedOf_9 : decode mT_datedOf.2.1 9 = .ok (.if_icmp .ge 21, 3) := by decide +kernel
theorem dT_datedOf_12 : decode mT_datedOf.2.1 12 = .ok (.aload_n 0, 1) := by decide +kernel
theorem dT_datedOf_13 : decode mT_datedOf.2.1 13 = .ok (.iload_n 3, 1) := by decide +kernel
theorem dT_datedOf_14 : decode mT_datedOf.2.1 14 = .ok (.iload_n 1, 1) := by decide +kernel
theorem dT_datedOf_15 : decode mT_datedOf.2.1 15 = .ok (.invokevirtual 100, 3) := by decide +kernel
theorem dT_datedOf_18 : decode mT_datedOf.2.1 18 = .ok (.ifCond .eq 6, 3) := by decide +kernel
theorem dT_datedOf_21 : decode mT_datedOf.2.1 21 = .ok (.iinc 2 1, 3) := by decide +kernel
theorem dT_datedOf_24 : decode mT_datedOf.2.1 24 = .ok (.iinc 3 1, 3) := by decide +kernel
theorem dT_datedOf_27 : decode mT_datedOf.2.1 27 = .ok (.goto (-23), 3) := by decide +kernel
theorem dT_datedOf_30 : decode mT_datedOf.2.1 30 = .ok (.iload_n 2, 1) := by decide +kernel
theorem dT_datedOf_31 : decode mT_datedOf.2.1 31 = .ok (.ireturn, 1) := by decide +kernel
theorem dT_earliestOf_0 : decode mT_earliestOf.2.1 0 = .ok (.sipush 999, 3) := by decide +kernel
theorem dT_earliestOf_3 : decode mT_earliestOf.2.1 3 = .ok (.istore_n 2, 1) := by decide +kernel
theorem dT_earliestOf_4 : decode mT_earliestOf.2.1 4 = .ok (.iconst 0, 1) := by decide +kernel
theorem dT_earliestOf_5 : decode mT_earliestOf.2.1 5 = .ok (.istore_n 3, 1) := by decide +kernel
theorem dT_earliestOf_6 : decode mT_earliestOf.2.1 6 = .ok (.iload_n 3, 1) := by decide +kernel
theorem dT_earliestOf_7 : decode mT_earliestOf.2.1 7 = .ok (.aload_n 0, 1) := by decide +kernel
theorem dT_earliestOf_8 : decode mT_earliestOf.2.1 8 = .ok (.getfield 21, 3) := by decide +kernel
theorem dT_earliestOf_11 : decode mT_earliestOf.2.1 11 = .ok (.if_icmp .ge 30, 3) := by decide +kernel
theorem dT_earliestOf_14 : decode mT_earliestOf.2.1 14 = .ok (.aload_n 0, 1) := by decide +kernel
theorem dT_earliestOf_15 : decode mT_earliestOf.2.1 15 = .ok (.iload_n 3, 1) := by decide +kernel
theorem dT_earliestOf_16 : decode mT_earliestOf.2.1 16 = .ok (.iload_n 1, 1) := by decide +kernel
theorem dT_earliestOf_17 : decode mT_earliestOf.2.1 17 = .ok (.invokevirtual 100, 3) := by decide +kernel
theorem dT_earliestOf_20 : decode mT_earliestOf.2.1 20 = .ok (.ifCond .eq 15, 3) := by decide +kernel
theorem dT_earliestOf_23 : decode mT_earliestOf.2.1 23 = .ok (.iload_n 2, 1) := by decide +kernel
theorem dT_earliestOf_24 : decode mT_earliestOf.2.1 24 = .ok (.aload_n 0, 1) := by decide +kernel
theorem dT_earliestOf_25 : decode mT_earliestOf.2.1 25 = .ok (.iload_n 3, 1) := by decide +kernel
theorem dT_earliestOf_26 : decode mT_earliestOf.2.1 26 = .ok (.bipush 6, 2) := by decide +kernel
theorem dT_earliestOf_28 : decode mT_earliestOf.2.1 28 = .ok (.invokevirtual 69, 3) := by decide +kernel
theorem dT_earliestOf_31 : decode mT_earliestOf.2.1 31 = .ok (.invokestatic 103, 3) := by decide +kernel
theorem dT_earliestOf_34 : decode mT_earliestOf.2.1 34 = .ok (.istore_n 2, 1) := by decide +kernel
theorem dT_earliestOf_35 : decode mT_earliestOf.2.1 35 = .ok (.iinc 3 1, 3) := by decide +kernel
theorem dT_earliestOf_38 : decode mT_earliestOf.2.1 38 = .ok (.goto (-32), 3) := by decide +kernel
theorem dT_earliestOf_41 : decode mT_earliestOf.2.1 41 = .ok (.iload_n 2, 1) := by decide +kernel
theorem dT_earliestOf_42 : decode mT_earliestOf.2.1 42 = .ok (.ireturn, 1) := by decide +kernel
theorem dT_latestOf_0 : decode mT_latestOf.2.1 0 = .ok (.iconst 0, 1) := by decide +kernel
theorem dT_latestOf_1 : decode mT_latestOf.2.1 1 = .ok (.istore_n 2, 1) := by decide +kernel
theorem dT_latestOf_2 : decode mT_latestOf.2.1 2 = .ok (.iconst 0, 1) := by decide +kernel
theorem dT_latestOf_3 : decode mT_latestOf.2.1 3 = .ok (.istore_n 3, 1) := by decide +kernel
theorem dT_latestOf_4 : decode mT_latestOf.2.1 4 = .ok (.iload_n 3, 1) := by decide +kernel
theorem dT_latestOf_5 : decode mT_latestOf.2.1 5 = .ok (.aload_n 0, 1) := by decide +kernel
theorem dT_latestOf_6 : decode mT_latestOf.2.1 6 = .ok (.getfield 21, 3) := by decide +kernel
theorem dT_latestOf_9 : decode mT_latestOf.2.1 9 = .ok (.if_icmp .ge 30, 3) := by decide +kernel
theorem dT_latestOf_12 : decode mT_latestOf.2.1 12 = .ok (.aload_n 0, 1) := by decide +kernel
theorem dT_latestOf_13 : decode mT_latestOf.2.1 13 = .ok (.iload_n 3, 1) := by decide +kernel
theorem dT_latestOf_14 : decode mT_latestOf.2.1 14 = .ok (.iload_n 1, 1) := by decide +kernel
theorem dT_latestOf_15 : decode mT_latestOf.2.1 15 = .ok (.invokevirtual 100, 3) := by decide +kernel
theorem dT_latestOf_18 : decode mT_latestOf.2.1 18 = .ok (.ifCond .eq 15, 3) := by decide +kernel
theorem dT_latestOf_21 : decode mT_latestOf.2.1 21 = .ok (.iload_n 2, 1) := by decide +kernel
theorem dT_latestOf_22 : decode mT_latestOf.2.1 22 = .ok (.aload_n 0, 1) := by decide +kernel
theorem dT_latestOf_23 : decode mT_latestOf.2.1 23 = .ok (.iload_n 3, 1) := by decide +kernel
theorem dT_latestOf_24 : decode mT_latestOf.2.1 24 = .ok (.bipush 6, 2) := by decide +kernel
theorem dT_latestOf_26 : decode mT_latestOf.2.1 26 = .ok (.invokevirtual 69, 3) := by decide +kernel
theorem dT_latestOf_29 : decode mT_latestOf.2.1 29 = .ok (.invokestatic 108, 3) := by decide +kernel
theorem dT_latestOf_32 : decode mT_latestOf.2.1 32 = .ok (.istore_n 2, 1) := by decide +kernel
theorem dT_latestOf_33 : decode mT_latestOf.2.1 33 = .ok (.iinc 3 1, 3) := by decide +kernel
theorem dT_latestOf_36 : decode mT_latestOf.2.1 36 = .ok (.goto (-32), 3) := by decide +kernel
theorem dT_latestOf_39 : decode mT_latestOf.2.1 39 = .ok (.iload_n 2, 1) := by decide +kernel
theorem dT_latestOf_40 : decode mT_latestOf.2.1 40 = .ok (.ireturn, 1) := by decide +kernel
theorem dX_span_0 : decode mX_span.2.1 0 = .ok (.iload_n 1, 1) := by decide +kernel
theorem dX_span_1 : decode mX_span.2.1 1 = .ok (.invokestatic 91, 3) := by decide +kernel
theorem dX_span_4 : decode mX_span.2.1 4 = .ok (.ifCond .eq 12, 3) := by decide +kernel
theorem dX_span_7 : decode mX_span.2.1 7 = .ok (.iload_n 2, 1) := by decide +kernel
theorem dX_span_8 : decode mX_span.2.1 8 = .ok (.iconst 0, 1) := by decide +kernel
theorem dX_span_9 : decode mX_span.2.1 9 = .ok (.iconst 2, 1) := by decide +kernel
theorem dX_span_10 : decode mX_span.2.1 10 = .ok (.invokestatic 41, 3) := by decide +kernel
theorem dX_span_13 : decode mX_span.2.1 13 = .ok (.ifCond .ne 5, 3) := by decide +kernel
theorem dX_span_16 : decode mX_span.2.1 16 = .ok (.iconst (-1), 1) := by decide +kernel
theorem dX_span_17 : decode mX_span.2.1 17 = .ok (.ireturn, 1) := by decide +kernel
theorem dX_span_18 : decode mX_span.2.1 18 = .ok (.aload_n 0, 1) := by decide +kernel
theorem dX_span_19 : decode mX_span.2.1 19 = .ok (.getfield 12, 3) := by decide +kernel
theorem dX_span_22 : decode mX_span.2.1 22 = .ok (.iload_n 1, 1) := by decide +kernel
theorem dX_span_23 : decode mX_span.2.1 23 = .ok (.invokevirtual 170, 3) := by decide +kernel
theorem dX_span_26 : decode mX_span.2.1 26 = .ok (.istore_n 3, 1) := by decide +kernel
theorem dX_span_27 : decode mX_span.2.1 27 = .ok (.iload_n 2, 1) := by decide +kernel
theorem dX_span_28 : decode mX_span.2.1 28 = .ok (.iconst 2, 1) := by decide +kernel
theorem dX_span_29 : decode mX_span.2.1 29 = .ok (.if_icmp .ne 5, 3) := by decide +kernel
theorem dX_span_32 : decode mX_span.2.1 32 = .ok (.iload_n 3, 1) := by decide +kernel
theorem dX_span_33 : decode mX_span.2.1 33 = .ok (.ireturn, 1) := by decide +kernel
theorem dX_span_34 : decode mX_span.2.1 34 = .ok (.iload_n 3, 1) := by decide +kernel
theorem dX_span_35 : decode mX_span.2.1 35 = .ok (.ifCond .ne 6, 3) := by decide +kernel
theorem dX_span_38 : decode mX_span.2.1 38 = .ok (.bipush (-4), 2) := by decide +kernel
theorem dX_span_40 : decode mX_span.2.1 40 = .ok (.ireturn, 1) := by decide +kernel
theorem dX_span_41 : decode mX_span.2.1 41 = .ok (.iload_n 2, 1) := by decide +kernel
theorem dX_span_42 : decode mX_span.2.1 42 = .ok (.ifCond .ne 14, 3) := by decide +kernel
theorem dX_span_45 : decode mX_span.2.1 45 = .ok (.aload_n 0, 1) := by decide +kernel
theorem dX_span_46 : decode mX_span.2.1 46 = .ok (.getfield 12, 3) := by decide +kernel
theorem dX_span_49 : decode mX_span.2.1 49 = .ok (.iload_n 1, 1) := by decide +kernel
theorem dX_span_50 : decode mX_span.2.1 50 = .ok (.invokevirtual 173, 3) := by decide +kernel
theorem dX_span_53 : decode mX_span.2.1 53 = .ok (.goto 11, 3) := by decide +kernel
theorem dX_span_56 : decode mX_span.2.1 56 = .ok (.aload_n 0, 1) := by decide +kernel
theorem dX_span_57 : decode mX_span.2.1 57 = .ok (.getfield 12, 3) := by decide +kernel
theorem dX_span_60 : decode mX_span.2.1 60 = .ok (.iload_n 1, 1) := by decide +kernel
theorem dX_span_61 : decode mX_span.2.1 61 = .ok (.invokevirtual 176, 3) := by decide +kernel
theorem dX_span_64 : decode mX_span.2.1 64 = .ok (.ireturn, 1) := by decide +kernel
theorem dM_span_0 : decode mM_span.2.1 0 = .ok (.iload_n 1, 1) := by decide +kernel
theorem dM_span_1 : decode mM_span.2.1 1 = .ok (.iconst 0, 1) := by decide +kernel
theorem dM_span_2 : decode mM_span.2.1 2 = .ok (.iconst 5, 1) := by decide +kernel
theorem dM_span_3 : decode mM_span.2.1 3 = .ok (.invokestatic 99, 3) := by decide +kernel
theorem dM_span_6 : decode mM_span.2.1 6 = .ok (.ifCond .eq 12, 3) := by decide +kernel
theorem dM_span_9 : decode mM_span.2.1 9 = .ok (.iload_n 2, 1) := by decide +kernel
theorem dM_span_10 : decode mM_span.2.1 10 = .ok (.iconst 0, 1) := by decide +kernel
theorem dM_span_11 : decode mM_span.2.1 11 = .ok (.iconst 2, 1) := by decide +kernel
theorem dM_span_12 : decode mM_span.2.1 12 = .ok (.invokestatic 99, 3) := by decide +kernel
theorem dM_span_15 : decode mM_span.2.1 15 = .ok (.ifCond .ne 5, 3) := by decide +kernel
theorem dM_span_18 : decode mM_span.2.1 18 = .ok (.iconst (-1), 1) := by decide +kernel
theorem dM_span_19 : decode mM_span.2.1 19 = .ok (.ireturn, 1) := by decide +kernel
theorem dM_span_20 : decode mM_span.2.1 20 = .ok (.iconst 0, 1) := by decide +kernel
theorem dM_span_21 : decode mM_span.2.1 21 = .ok (.istore_n 3, 1) := by decide +kernel
theorem dM_span_22 : decode mM_span.2.1 22 = .ok (.sipush 1000, 3) := by decide +kernel
theorem dM_span_25 : decode mM_span.2.1 25 = .ok (.istore 4, 2) := by decide +kernel
theorem dM_span_27 : decode mM_span.2.1 27 = .ok (.iconst (-1), 1) := by decide +kernel
theorem dM_span_28 : decode mM_span.2.1 28 = .ok (.istore 5, 2) := by decide +kernel
theorem dM_span_30 : decode mM_span.2.1 30 = .ok (.iconst 0, 1) := by decide +kernel
theorem dM_span_31 : decode mM_span.2.1 31 = .ok (.istore 6, 2) := by decide +kernel
theorem dM_span_33 : decode mM_span.2.1 33 = .ok (.iload 6, 2) := by decide +kernel
theorem dM_span_35 : decode mM_span.2.1 35 = .ok (.aload_n 0, 1) := by decide +kernel
theorem dM_span_36 : decode mM_span.2.1 36 = .ok (.getfield 96, 3) := by decide +kernel
theorem dM_span_39 : decode mM_span.2.1 39 = .ok (.if_icmp .ge 99, 3) := by decide +kernel
theorem dM_span_42 : decode mM_span.2.1 42 = .ok (.aload_n 0, 1) := by decide +kernel
theorem dM_span_43 : decode mM_span.2.1 43 = .ok (.getfield 51, 3) := by decide +kernel
theorem dM_span_46 : decode mM_span.2.1 46 = .ok (.iload 6, 2) := by decide +kernel
theorem dM_span_48 : decode mM_span.2.1 48 = .ok (.iaload, 1) := by decide +kernel
theorem dM_span_49 : decode mM_span.2.1 49 = .ok (.iload_n 1, 1) := by decide +kernel
theorem dM_span_50 : decode mM_span.2.1 50 = .ok (.if_icmp .ne 82, 3) := by decide +kernel
theorem dM_span_53 : decode mM_span.2.1 53 = .ok (.aload_n 0, 1) := by decide +kernel
theorem dM_span_54 : decode mM_span.2.1 54 = .ok (.getfield 48, 3) := by decide +kernel
theorem dM_span_57 : decode mM_span.2.1 57 = .ok (.iload 6, 2) := by decide +kernel
theorem dM_span_59 : decode mM_span.2.1 59 = .ok (.iaload, 1) := by decide +kernel
theorem dM_span_60 : decode mM_span.2.1 60 = .ok (.ifCond .lt 72, 3) := by decide +kernel
theorem dM_span_63 : decode mM_span.2.1 63 = .ok (.aload_n 0, 1) := by decide +kernel
theorem dM_span_64 : decode mM_span.2.1 64 = .ok (.aload_n 0, 1) := by decide +kernel
theorem dM_span_65 : decode mM_span.2.1 65 = .ok (.getfield 33, 3) := by decide +kernel
theorem dM_span_68 : decode mM_span.2.1 68 = .ok (.iload 6, 2) := by decide +kernel
theorem dM_span_70 : decode mM_span.2.1 70 = .ok (.iaload, 1) := by decide +kernel
theorem dM_span_71 : decode mM_span.2.1 71 = .ok (.invokevirtual 136, 3) := by decide +kernel
theorem dM_span_74 : decode mM_span.2.1 74 = .ok (.ifCond .eq 58, 3) := by decide +kernel
theorem dM_span_77 : decode mM_span.2.1 77 = .ok (.iinc 3 1, 3) := by decide +kernel
theorem dM_span_80 : decode mM_span.2.1 80 = .ok (.aload_n 0, 1) := by decide +kernel
theorem dM_span_81 : decode mM_span.2.1 81 = .ok (.getfield 48, 3) := by decide +kernel
theorem dM_span_84 : decode mM_span.2.1 84 = .ok (.iload 6, 2) := by decide +kernel
theorem dM_span_86 : decode mM_span.2.1 86 = .ok (.iaload, 1) := by decide +kernel
theorem dM_span_87 : decode mM_span.2.1 87 = .ok (.iload 4, 2) := by decide +kernel
theorem dM_span_89 : decode mM_span.2.1 89 = .ok (.if_icmp .ge 13, 3) := by decide +kernel
theorem dM_span_92 : decode mM_span.2.1 92 = .ok (.aload_n 0, 1) := by decide +kernel
theorem dM_span_93 : decode mM_span.2.1 93 = .ok (.getfield 48, 3) := by decide +kernel
theorem dM_span_96 : decode mM_span.2.1 96 = .ok (.iload 6, 2) := by decide +kernel
theorem dM_span_98 : decode mM_span.2.1 98 = .ok (.iaload, 1) := by decide +kernel
theorem dM_span_99 : decode mM_span.2.1 99 = .ok (.goto 5, 3) := by decide +kernel
theorem dM_span_102 : decode mM_span.2.1 102 = .ok (.iload 4, 2) := by decide +kernel
theorem dM_span_104 : decode mM_span.2.1 104 = .ok (.istore 4, 2) := by decide +kernel
theorem dM_span_106 : decode mM_span.2.1 106 = .ok (.aload_n 0, 1) := by decide +kernel
theorem dM_span_107 : decode mM_span.2.1 107 = .ok (.getfield 48, 3) := by decide +kernel
theorem dM_span_110 : decode mM_span.2.1 110 = .ok (.iload 6, 2) := by decide +kernel
theorem dM_span_112 : decode mM_span.2.1 112 = .ok (.iaload, 1) := by decide +kernel
theorem dM_span_113 : decode mM_span.2.1 113 = .ok (.iload 5, 2) := by decide +kernel
theorem dM_span_115 : decode mM_span.2.1 115 = .ok (.if_icmp .le 13, 3) := by decide +kernel
theorem dM_span_118 : decode mM_span.2.1 118 = .ok (.aload_n 0, 1) := by decide +kernel
theorem dM_span_119 : decode mM_span.2.1 119 = .ok (.getfield 48, 3) := by decide +kernel
theorem dM_span_122 : decode mM_span.2.1 122 = .ok (.iload 6, 2) := by decide +kernel
theorem dM_span_124 : decode mM_span.2.1 124 = .ok (.iaload, 1) := by decide +kernel
theorem dM_span_125 : decode mM_span.2.1 125 = .ok (.goto 5, 3) := by decide +kernel
theorem dM_span_128 : decode mM_span.2.1 128 = .ok (.iload 5, 2) := by decide +kernel
theorem dM_span_130 : decode mM_span.2.1 130 = .ok (.istore 5, 2) := by decide +kernel
theorem dM_span_132 : decode mM_span.2.1 132 = .ok (.iinc 6 1, 3) := by decide +kernel
theorem dM_span_135 : decode mM_span.2.1 135 = .ok (.goto (-102), 3) := by decide +kernel
theorem dM_span_138 : decode mM_span.2.1 138 = .ok (.iload_n 2, 1) := by decide +kernel
theorem dM_span_139 : decode mM_span.2.1 139 = .ok (.iconst 2, 1) := by decide +kernel
theorem dM_span_140 : decode mM_span.2.1 140 = .ok (.if_icmp .ne 5, 3) := by decide +kernel
theorem dM_span_143 : decode mM_span.2.1 143 = .ok (.iload_n 3, 1) := by decide +kernel
theorem dM_span_144 : decode mM_span.2.1 144 = .ok (.ireturn, 1) := by decide +kernel
theorem dM_span_145 : decode mM_span.2.1 145 = .ok (.iload_n 3, 1) := by decide +kernel
theorem dM_span_146 : decode mM_span.2.1 146 = .ok (.ifCond .ne 8, 3) := by decide +kernel
theorem dM_span_149 : decode mM_span.2.1 149 = .ok (.bipush (-4), 2) := by decide +kernel
theorem dM_span_151 : decode mM_span.2.1 151 = .ok (.goto 14, 3) := by decide +kernel
theorem dM_span_154 : decode mM_span.2.1 154 = .ok (.iload_n 2, 1) := by decide +kernel
theorem dM_span_155 : decode mM_span.2.1 155 = .ok (.ifCond .ne 8, 3) := by decide +kernel
theorem dM_span_158 : decode mM_span.2.1 158 = .ok (.iload 4, 2) := by decide +kernel
theorem dM_span_160 : decode mM_span.2.1 160 = .ok (.goto 5, 3) := by decide +kernel
theorem dM_span_163 : decode mM_span.2.1 163 = .ok (.iload 5, 2) := by decide +kernel
theorem dM_span_165 : decode mM_span.2.1 165 = .ok (.ireturn, 1) := by decide +kernel
theorem dU_placesWith_0 : decode mU_placesWith.2.1 0 = .ok (.iconst 0, 1) := by decide +kernel
theorem dU_placesWith_1 : decode mU_placesWith.2.1 1 = .ok (.istore_n 2, 1) := by decide +kernel
theorem dU_placesWith_2 : decode mU_placesWith.2.1 2 = .ok (.iconst 0, 1) := by decide +kernel
theorem dU_placesWith_3 : decode mU_placesWith.2.1 3 = .ok (.istore_n 3, 1) := by decide +kernel
theorem dU_placesWith_4 : decode mU_placesWith.2.1 4 = .ok (.iload_n 3, 1) := by decide +kernel
theorem dU_placesWith_5 : decode mU_placesWith.2.1 5 = .ok (.aload_n 0, 1) := by decide +kernel
theorem dU_placesWith_6 : decode mU_placesWith.2.1 6 = .ok (.getfield 15, 3) := by decide +kernel
theorem dU_placesWith_9 : decode mU_placesWith.2.1 9 = .ok (.invokevirtual 53, 3) := by decide +kernel
theorem dU_placesWith_12 : decode mU_placesWith.2.1 12 = .ok (.if_icmp .ge 21, 3) := by decide +kernel
theorem dU_placesWith_15 : decode mU_placesWith.2.1 15 = .ok (.aload_n 0, 1) := by decide +kernel
theorem dU_placesWith_16 : decode mU_placesWith.2.1 16 = .ok (.iload_n 3, 1) := by decide +kernel
theorem dU_placesWith_17 : decode mU_placesWith.2.1 17 = .ok (.invokevirtual 57, 3) := by decide +kernel
theorem dU_placesWith_20 : decode mU_placesWith.2.1 20 = .ok (.iload_n 1, 1) := by decide +kernel
theorem dU_placesWith_21 : decode mU_placesWith.2.1 21 = .ok (.if_icmp .ne 6, 3) := by decide +kernel
theorem dU_placesWith_24 : decode mU_placesWith.2.1 24 = .ok (.iinc 2 1, 3) := by decide +kernel
theorem dU_placesWith_27 : decode mU_placesWith.2.1 27 = .ok (.iinc 3 1, 3) := by decide +kernel
theorem dU_placesWith_30 : decode mU_placesWith.2.1 30 = .ok (.goto (-26), 3) := by decide +kernel
theorem dU_placesWith_33 : decode mU_placesWith.2.1 33 = .ok (.iload_n 2, 1) := by decide +kernel
theorem dU_placesWith_34 : decode mU_placesWith.2.1 34 = .ok (.ireturn, 1) := by decide +kernel
theorem dX_cleared_0 : decode mX_cleared.2.1 0 = .ok (.iload_n 0, 1) := by decide +kernel
theorem dX_cleared_1 : decode mX_cleared.2.1 1 = .ok (.istore_n 2, 1) := by decide +kernel
theorem dX_cleared_2 : decode mX_cleared.2.1 2 = .ok (.iload_n 2, 1) := by decide +kernel
theorem dX_cleared_3 : decode mX_cleared.2.1 3 = .ok (.iconst 1, 1) := by decide +kernel
theorem dX_cleared_4 : decode mX_cleared.2.1 4 = .ok (.if_icmp .le 25, 3) := by decide +kernel
theorem dX_cleared_7 : decode mX_cleared.2.1 7 = .ok (.iload_n 0, 1) := by decide +kernel
theorem dX_cleared_8 : decode mX_cleared.2.1 8 = .ok (.iload_n 2, 1) := by decide +kernel
theorem dX_cleared_9 : decode mX_cleared.2.1 9 = .ok (.irem, 1) := by decide +kernel
theorem dX_cleared_10 : decode mX_cleared.2.1 10 = .ok (.ifCond .ne 13, 3) := by decide +kernel
theorem dX_cleared_13 : decode mX_cleared.2.1 13 = .ok (.iload_n 1, 1) := by decide +kernel
theorem dX_cleared_14 : decode mX_cleared.2.1 14 = .ok (.iload_n 2, 1) := by decide +kernel
theorem dX_cleared_15 : decode mX_cleared.2.1 15 = .ok (.irem, 1) := by decide +kernel
theorem dX_cleared_16 : decode mX_cleared.2.1 16 = .ok (.ifCond .ne 7, 3) := by decide +kernel
theorem dX_cleared_19 : decode mX_cleared.2.1 19 = .ok (.iload_n 0, 1) := by decide +kernel
theorem dX_cleared_20 : decode mX_cleared.2.1 20 = .ok (.iload_n 2, 1) := by decide +kernel
theorem dX_cleared_21 : decode mX_cleared.2.1 21 = .ok (.idiv, 1) := by decide +kernel
theorem dX_cleared_22 : decode mX_cleared.2.1 22 = .ok (.ireturn, 1) := by decide +kernel
theorem dX_cleared_23 : decode mX_cleared.2.1 23 = .ok (.iinc 2 (-1), 3) := by decide +kernel
theorem dX_cleared_26 : decode mX_cleared.2.1 26 = .ok (.goto (-24), 3) := by decide +kernel
theorem dX_cleared_29 : decode mX_cleared.2.1 29 = .ok (.iload_n 0, 1) := by decide +kernel
theorem dX_cleared_30 : decode mX_cleared.2.1 30 = .ok (.ireturn, 1) := by decide +kernel
theorem dX_unseen_0 : decode mX_unseen.2.1 0 = .ok (.iload_n 1, 1) := by decide +kernel
theorem dX_unseen_1 : decode mX_unseen.2.1 1 = .ok (.iconst 0, 1) := by decide +kernel
theorem dX_unseen_2 : decode mX_unseen.2.1 2 = .ok (.iconst 2, 1) := by decide +kernel
theorem dX_unseen_3 : decode mX_unseen.2.1 3 = .ok (.invokestatic 41, 3) := by decide +kernel
theorem dX_unseen_6 : decode mX_unseen.2.1 6 = .ok (.ifCond .ne 5, 3) := by decide +kernel
theorem dX_unseen_9 : decode mX_unseen.2.1 9 = .ok (.iconst (-1), 1) := by decide +kernel
theorem dX_unseen_10 : decode mX_unseen.2.1 10 = .ok (.ireturn, 1) := by decide +kernel
theorem dX_unseen_11 : decode mX_unseen.2.1 11 = .ok (.aload_n 0, 1) := by decide +kernel
theorem dX_unseen_12 : decode mX_unseen.2.1 12 = .ok (.getfield 24, 3) := by decide +kernel
theorem dX_unseen_15 : decode mX_unseen.2.1 15 = .ok (.invokevirtual 126, 3) := by decide +kernel
theorem dX_unseen_18 : decode mX_unseen.2.1 18 = .ok (.iload_n 1, 1) := by decide +kernel
theorem dX_unseen_19 : decode mX_unseen.2.1 19 = .ok (.ifCond .ne 20, 3) := by decide +kernel
theorem dX_unseen_22 : decode mX_unseen.2.1 22 = .ok (.aload_n 0, 1) := by decide +kernel
theorem dX_unseen_23 : decode mX_unseen.2.1 23 = .ok (.getfield 12, 3) := by decide +kernel
theorem dX_unseen_26 : decode mX_unseen.2.1 26 = .ok (.invokevirtual 52, 3) := by decide +kernel
theorem dX_unseen_29 : decode mX_unseen.2.1 29 = .ok (.aload_n 0, 1) := by decide +kernel
theorem dX_unseen_30 : decode mX_unseen.2.1 30 = .ok (.getfield 33, 3) := by decide +kernel
theorem dX_unseen_33 : decode mX_unseen.2.1 33 = .ok (.iconst 0, 1) := by decide +kernel
theorem dX_unseen_34 : decode mX_unseen.2.1 34 = .ok (.invokevirtual 179, 3) := by decide +kernel
theorem dX_unseen_37 : decode mX_unseen.2.1 37 = .ok (.isub, 1) := by decide +kernel
theorem dX_unseen_38 : decode mX_unseen.2.1 38 = .ok (.ireturn, 1) := by decide +kernel
theorem dX_unseen_39 : decode mX_unseen.2.1 39 = .ok (.aload_n 0, 1) := by decide +kernel
theorem dX_unseen_40 : decode mX_unseen.2.1 40 = .ok (.getfield 33, 3) := by decide +kernel
theorem dX_unseen_43 : decode mX_unseen.2.1 43 = .ok (.iconst 1, 1) := by decide +kernel
theorem dX_unseen_44 : decode mX_unseen.2.1 44 = .ok (.invokevirtual 179, 3) := by decide +kernel
theorem dX_unseen_47 : decode mX_unseen.2.1 47 = .ok (.istore_n 2, 1) := by decide +kernel
theorem dX_unseen_48 : decode mX_unseen.2.1 48 = .ok (.aload_n 0, 1) := by decide +kernel
theorem dX_unseen_49 : decode mX_unseen.2.1 49 = .ok (.getfield 33, 3) := by decide +kernel
theorem dX_unseen_52 : decode mX_unseen.2.1 52 = .ok (.iconst 2, 1) := by decide +kernel
theorem dX_unseen_53 : decode mX_unseen.2.1 53 = .ok (.invokevirtual 179, 3) := by decide +kernel
theorem dX_unseen_56 : decode mX_unseen.2.1 56 = .ok (.istore_n 3, 1) := by decide +kernel
theorem dX_unseen_57 : decode mX_unseen.2.1 57 = .ok (.iload_n 3, 1) := by decide +kernel
theorem dX_unseen_58 : decode mX_unseen.2.1 58 = .ok (.ifCond .le 9, 3) := by decide +kernel
theorem dX_unseen_61 : decode mX_unseen.2.1 61 = .ok (.iload_n 2, 1) := by decide +kernel
theorem dX_unseen_62 : decode mX_unseen.2.1 62 = .ok (.iload_n 2, 1) := by decide +kernel
theorem dX_unseen_63 : decode mX_unseen.2.1 63 = .ok (.imul, 1) := by decide +kernel
theorem dX_unseen_64 : decode mX_unseen.2.1 64 = .ok (.goto 8, 3) := by decide +kernel
theorem dX_unseen_67 : decode mX_unseen.2.1 67 = .ok (.iload_n 2, 1) := by decide +kernel
theorem dX_unseen_68 : decode mX_unseen.2.1 68 = .ok (.iload_n 2, 1) := by decide +kernel
theorem dX_unseen_69 : decode mX_unseen.2.1 69 = .ok (.iconst 1, 1) := by decide +kernel
theorem dX_unseen_70 : decode mX_unseen.2.1 70 = .ok (.isub, 1) := by decide +kernel
theorem dX_unseen_71 : decode mX_unseen.2.1 71 = .ok (.imul, 1) := by decide +kernel
theorem dX_unseen_72 : decode mX_unseen.2.1 72 = .ok (.istore 4, 2) := by decide +kernel
theorem dX_unseen_74 : decode mX_unseen.2.1 74 = .ok (.iload_n 3, 1) := by decide +kernel
theorem dX_unseen_75 : decode mX_unseen.2.1 75 = .ok (.ifCond .le 9, 3) := by decide +kernel
theorem dX_unseen_78 : decode mX_unseen.2.1 78 = .ok (.iconst 2, 1) := by decide +kernel
theorem dX_unseen_79 : decode mX_unseen.2.1 79 = .ok (.iload_n 3, 1) := by decide +kernel
theorem dX_unseen_80 : decode mX_unseen.2.1 80 = .ok (.imul, 1) := by decide +kernel
theorem dX_unseen_81 : decode mX_unseen.2.1 81 = .ok (.goto 4, 3) := by decide +kernel
theorem dX_unseen_84 : decode mX_unseen.2.1 84 = .ok (.iconst 2, 1) := by decide +kernel
theorem dX_unseen_85 : decode mX_unseen.2.1 85 = .ok (.istore 5, 2) := by decide +kernel
theorem dX_unseen_87 : decode mX_unseen.2.1 87 = .ok (.iload 4, 2) := by decide +kernel
theorem dX_unseen_89 : decode mX_unseen.2.1 89 = .ok (.ifCond .ne 14, 3) := by decide +kernel
theorem dX_unseen_92 : decode mX_unseen.2.1 92 = .ok (.iload_n 1, 1) := by decide +kernel
theorem dX_unseen_93 : decode mX_unseen.2.1 93 = .ok (.iconst 1, 1) := by decide +kernel
theorem dX_unseen_94 : decode mX_unseen.2.1 94 = .ok (.if_icmp .ne 7, 3) := by decide +kernel
theorem dX_unseen_97 : decode mX_unseen.2.1 97 = .ok (.iconst 0, 1) := by decide +kernel
theorem dX_unseen_98 : decode mX_unseen.2.1 98 = .ok (.goto 4, 3) := by decide +kernel
theorem dX_unseen_101 : decode mX_unseen.2.1 101 = .ok (.iconst 1, 1) := by decide +kernel
theorem dX_unseen_102 : decode mX_unseen.2.1 102 = .ok (.ireturn, 1) := by decide +kernel
theorem dX_unseen_103 : decode mX_unseen.2.1 103 = .ok (.iload_n 1, 1) := by decide +kernel
theorem dX_unseen_104 : decode mX_unseen.2.1 104 = .ok (.iconst 1, 1) := by decide +kernel
theorem dX_unseen_105 : decode mX_unseen.2.1 105 = .ok (.if_icmp .ne 8, 3) := by decide +kernel
theorem dX_unseen_108 : decode mX_unseen.2.1 108 = .ok (.iload 4, 2) := by decide +kernel
theorem dX_unseen_110 : decode mX_unseen.2.1 110 = .ok (.goto 5, 3) := by decide +kernel
theorem dX_unseen_113 : decode mX_unseen.2.1 113 = .ok (.iload 5, 2) := by decide +kernel
theorem dX_unseen_115 : decode mX_unseen.2.1 115 = .ok (.iload_n 1, 1) := by decide +kernel
theorem dX_unseen_116 : decode mX_unseen.2.1 116 = .ok (.iconst 1, 1) := by decide +kernel
theorem dX_unseen_117 : decode mX_unseen.2.1 117 = .ok (.if_icmp .ne 8, 3) := by decide +kernel
theorem dX_unseen_120 : decode mX_unseen.2.1 120 = .ok (.iload 5, 2) := by decide +kernel
theorem dX_unseen_122 : decode mX_unseen.2.1 122 = .ok (.goto 5, 3) := by decide +kernel
theorem dX_unseen_125 : decode mX_unseen.2.1 125 = .ok (.iload 4, 2) := by decide +kernel
theorem dX_unseen_127 : decode mX_unseen.2.1 127 = .ok (.invokestatic 182, 3) := by decide +kernel
theorem dX_unseen_130 : decode mX_unseen.2.1 130 = .ok (.ireturn, 1) := by decide +kernel
theorem dM_common_0 : decode mM_common.2.1 0 = .ok (.iload_n 0, 1) := by decide +kernel
theorem dM_common_1 : decode mM_common.2.1 1 = .ok (.istore_n 2, 1) := by decide +kernel
theorem dM_common_2 : decode mM_common.2.1 2 = .ok (.iload_n 1, 1) := by decide +kernel
theorem dM_common_3 : decode mM_common.2.1 3 = .ok (.istore_n 3, 1) := by decide +kernel
theorem dM_common_4 : decode mM_common.2.1 4 = .ok (.iload_n 3, 1) := by decide +kernel
theorem dM_common_5 : decode mM_common.2.1 5 = .ok (.ifCond .eq 16, 3) := by decide +kernel
theorem dM_common_8 : decode mM_common.2.1 8 = .ok (.iload_n 2, 1) := by decide +kernel
theorem dM_common_9 : decode mM_common.2.1 9 = .ok (.iload_n 3, 1) := by decide +kernel
theorem dM_common_10 : decode mM_common.2.1 10 = .ok (.irem, 1) := by decide +kernel
theorem dM_common_11 : decode mM_common.2.1 11 = .ok (.istore 4, 2) := by decide +kernel
theorem dM_common_13 : decode mM_common.2.1 13 = .ok (.iload_n 3, 1) := by decide +kernel
theorem dM_common_14 : decode mM_common.2.1 14 = .ok (.istore_n 2, 1) := by decide +kernel
theorem dM_common_15 : decode mM_common.2.1 15 = .ok (.iload 4, 2) := by decide +kernel
theorem dM_common_17 : decode mM_common.2.1 17 = .ok (.istore_n 3, 1) := by decide +kernel
theorem dM_common_18 : decode mM_common.2.1 18 = .ok (.goto (-14), 3) := by decide +kernel
theorem dM_common_21 : decode mM_common.2.1 21 = .ok (.iload_n 2, 1) := by decide +kernel
theorem dM_common_22 : decode mM_common.2.1 22 = .ok (.ireturn, 1) := by decide +kernel
theorem dM_unseen_0 : decode mM_unseen.2.1 0 = .ok (.iload_n 1, 1) := by decide +kernel
theorem dM_unseen_1 : decode mM_unseen.2.1 1 = .ok (.iconst 0, 1) := by decide +kernel
theorem dM_unseen_2 : decode mM_unseen.2.1 2 = .ok (.iconst 2, 1) := by decide +kernel
theorem dM_unseen_3 : decode mM_unseen.2.1 3 = .ok (.invokestatic 99, 3) := by decide +kernel
theorem dM_unseen_6 : decode mM_unseen.2.1 6 = .ok (.ifCond .ne 5, 3) := by decide +kernel
theorem dM_unseen_9 : decode mM_unseen.2.1 9 = .ok (.iconst (-1), 1) := by decide +kernel
theorem dM_unseen_10 : decode mM_unseen.2.1 10 = .ok (.ireturn, 1) := by decide +kernel
theorem dM_unseen_11 : decode mM_unseen.2.1 11 = .ok (.aload_n 0, 1) := by decide +kernel
theorem dM_unseen_12 : decode mM_unseen.2.1 12 = .ok (.iconst (-1), 1) := by decide +kernel
theorem dM_unseen_13 : decode mM_unseen.2.1 13 = .ok (.invokevirtual 168, 3) := by decide +kernel
theorem dM_unseen_16 : decode mM_unseen.2.1 16 = .ok (.iconst 0, 1) := by decide +kernel
theorem dM_unseen_17 : decode mM_unseen.2.1 17 = .ok (.istore_n 2, 1) := by decide +kernel
theorem dM_unseen_18 : decode mM_unseen.2.1 18 = .ok (.iconst 0, 1) := by decide +kernel
theorem dM_unseen_19 : decode mM_unseen.2.1 19 = .ok (.istore_n 3, 1) := by decide +kernel
theorem dM_unseen_20 : decode mM_unseen.2.1 20 = .ok (.iconst 0, 1) := by decide +kernel
theorem dM_unseen_21 : decode mM_unseen.2.1 21 = .ok (.istore 4, 2) := by decide +kernel
theorem dM_unseen_23 : decode mM_unseen.2.1 23 = .ok (.iconst 0, 1) := by decide +kernel
theorem dM_unseen_24 : decode mM_unseen.2.1 24 = .ok (.istore 5, 2) := by decide +kernel
theorem dM_unseen_26 : decode mM_unseen.2.1 26 = .ok (.iload 5, 2) := by decide +kernel
theorem dM_unseen_28 : decode mM_unseen.2.1 28 = .ok (.aload_n 0, 1) := by decide +kernel
theorem dM_unseen_29 : decode mM_unseen.2.1 29 = .ok (.invokevirtual 106, 3) := by decide +kernel
theorem dM_unseen_32 : decode mM_unseen.2.1 32 = .ok (.if_icmp .ge 64, 3) := by decide +kernel
theorem dM_unseen_35 : decode mM_unseen.2.1 35 = .ok (.aload_n 0, 1) := by decide +kernel
theorem dM_unseen_36 : decode mM_unseen.2.1 36 = .ok (.iload 5, 2) := by decide +kernel
theorem dM_unseen_38 : decode mM_unseen.2.1 38 = .ok (.invokevirtual 187, 3) := by decide +kernel
theorem dM_unseen_41 : decode mM_unseen.2.1 41 = .ok (.iload_n 2, 1) := by decide +kernel
theorem dM_unseen_42 : decode mM_unseen.2.1 42 = .ok (.aload_n 0, 1) := by decide +kernel
theorem dM_unseen_43 : decode mM_unseen.2.1 43 = .ok (.getfield 181, 3) := by decide +kernel
theorem dM_unseen_46 : decode mM_unseen.2.1 46 = .ok (.ifCond .le 7, 3) := by decide +kernel
theorem dM_unseen_49 : decode mM_unseen.2.1 49 = .ok (.iconst 1, 1) := by decide +kernel
theorem dM_unseen_50 : decode mM_unseen.2.1 50 = .ok (.goto 4, 3) := by decide +kernel
theorem dM_unseen_53 : decode mM_unseen.2.1 53 = .ok (.iconst 0, 1) := by decide +kernel
theorem dM_unseen_54 : decode mM_unseen.2.1 54 = .ok (.iadd, 1) := by decide +kernel
theorem dM_unseen_55 : decode mM_unseen.2.1 55 = .ok (.istore_n 2, 1) := by decide +kernel
theorem dM_unseen_56 : decode mM_unseen.2.1 56 = .ok (.iload_n 3, 1) := by decide +kernel
theorem dM_unseen_57 : decode mM_unseen.2.1 57 = .ok (.aload_n 0, 1) := by decide +kernel
theorem dM_unseen_58 : decode mM_unseen.2.1 58 = .ok (.getfield 181, 3) := by decide +kernel
theorem dM_unseen_61 : decode mM_unseen.2.1 61 = .ok (.iconst 1, 1) := by decide +kernel
theorem dM_unseen_62 : decode mM_unseen.2.1 62 = .ok (.if_icmp .ne 7, 3) := by decide +kernel
theorem dM_unseen_65 : decode mM_unseen.2.1 65 = .ok (.iconst 1, 1) := by decide +kernel
theorem dM_unseen_66 : decode mM_unseen.2.1 66 = .ok (.goto 4, 3) := by decide +kernel
theorem dM_unseen_69 : decode mM_unseen.2.1 69 = .ok (.iconst 0, 1) := by decide +kernel
theorem dM_unseen_70 : decode mM_unseen.2.1 70 = .ok (.iadd, 1) := by decide +kernel
theorem dM_unseen_71 : decode mM_unseen.2.1 71 = .ok (.istore_n 3, 1) := by decide +kernel
theorem dM_unseen_72 : decode mM_unseen.2.1 72 = .ok (.iload 4, 2) := by decide +kernel
theorem dM_unseen_74 : decode mM_unseen.2.1 74 = .ok (.aload_n 0, 1) := by decide +kernel
theorem dM_unseen_75 : decode mM_unseen.2.1 75 = .ok (.getfield 181, 3) := by decide +kernel
theorem dM_unseen_78 : decode mM_unseen.2.1 78 = .ok (.iconst 2, 1) := by decide +kernel
theorem dM_unseen_79 : decode mM_unseen.2.1 79 = .ok (.if_icmp .ne 7, 3) := by decide +kernel
theorem dM_unseen_82 : decode mM_unseen.2.1 82 = .ok (.iconst 1, 1) := by decide +kernel
theorem dM_unseen_83 : decode mM_unseen.2.1 83 = .ok (.goto 4, 3) := by decide +kernel
theorem dM_unseen_86 : decode mM_unseen.2.1 86 = .ok (.iconst 0, 1) := by decide +kernel
theorem dM_unseen_87 : decode mM_unseen.2.1 87 = .ok (.iadd, 1) := by decide +kernel
theorem dM_unseen_88 : decode mM_unseen.2.1 88 = .ok (.istore 4, 2) := by decide +kernel
theorem dM_unseen_90 : decode mM_unseen.2.1 90 = .ok (.iinc 5 1, 3) := by decide +kernel
theorem dM_unseen_93 : decode mM_unseen.2.1 93 = .ok (.goto (-67), 3) := by decide +kernel
theorem dM_unseen_96 : decode mM_unseen.2.1 96 = .ok (.iload 4, 2) := by decide +kernel
theorem dM_unseen_98 : decode mM_unseen.2.1 98 = .ok (.ifCond .le 9, 3) := by decide +kernel
theorem dM_unseen_101 : decode mM_unseen.2.1 101 = .ok (.iload_n 3, 1) := by decide +kernel
theorem dM_unseen_102 : decode mM_unseen.2.1 102 = .ok (.iload_n 3, 1) := by decide +kernel
theorem dM_unseen_103 : decode mM_unseen.2.1 103 = .ok (.imul, 1) := by decide +kernel
theorem dM_unseen_104 : decode mM_unseen.2.1 104 = .ok (.goto 8, 3) := by decide +kernel
theorem dM_unseen_107 : decode mM_unseen.2.1 107 = .ok (.iload_n 3, 1) := by decide +kernel
theorem dM_unseen_108 : decode mM_unseen.2.1 108 = .ok (.iload_n 3, 1) := by decide +kernel
theorem dM_unseen_109 : decode mM_unseen.2.1 109 = .ok (.iconst 1, 1) := by decide +kernel
theorem dM_unseen_110 : decode mM_unseen.2.1 110 = .ok (.isub, 1) := by decide +kernel
theorem dM_unseen_111 : decode mM_unseen.2.1 111 = .ok (.imul, 1) := by decide +kernel
theorem dM_unseen_112 : decode mM_unseen.2.1 112 = .ok (.istore 5, 2) := by decide +kernel
theorem dM_unseen_114 : decode mM_unseen.2.1 114 = .ok (.iload 4, 2) := by decide +kernel
theorem dM_unseen_116 : decode mM_unseen.2.1 116 = .ok (.ifCond .le 10, 3) := by decide +kernel
theorem dM_unseen_119 : decode mM_unseen.2.1 119 = .ok (.iconst 2, 1) := by decide +kernel
theorem dM_unseen_120 : decode mM_unseen.2.1 120 = .ok (.iload 4, 2) := by decide +kernel
theorem dM_unseen_122 : decode mM_unseen.2.1 122 = .ok (.imul, 1) := by decide +kernel
theorem dM_unseen_123 : decode mM_unseen.2.1 123 = .ok (.goto 4, 3) := by decide +kernel
theorem dM_unseen_126 : decode mM_unseen.2.1 126 = .ok (.iconst 2, 1) := by decide +kernel
theorem dM_unseen_127 : decode mM_unseen.2.1 127 = .ok (.istore 6, 2) := by decide +kernel
theorem dM_unseen_129 : decode mM_unseen.2.1 129 = .ok (.iload 5, 2) := by decide +kernel
theorem dM_unseen_131 : decode mM_unseen.2.1 131 = .ok (.iload 6, 2) := by decide +kernel
theorem dM_unseen_133 : decode mM_unseen.2.1 133 = .ok (.invokestatic 193, 3) := by decide +kernel
theorem dM_unseen_136 : decode mM_unseen.2.1 136 = .ok (.istore 7, 2) := by decide +kernel
theorem dM_unseen_138 : decode mM_unseen.2.1 138 = .ok (.iload_n 1, 1) := by decide +kernel
theorem dM_unseen_139 : decode mM_unseen.2.1 139 = .ok (.ifCond .ne 7, 3) := by decide +kernel
theorem dM_unseen_142 : decode mM_unseen.2.1 142 = .ok (.iload_n 2, 1) := by decide +kernel
theorem dM_unseen_143 : decode mM_unseen.2.1 143 = .ok (.goto 21, 3) := by decide +kernel
theorem dM_unseen_146 : decode mM_unseen.2.1 146 = .ok (.iload_n 1, 1) := by decide +kernel
theorem dM_unseen_147 : decode mM_unseen.2.1 147 = .ok (.iconst 1, 1) := by decide +kernel
theorem dM_unseen_148 : decode mM_unseen.2.1 148 = .ok (.if_icmp .ne 11, 3) := by decide +kernel
theorem dM_unseen_151 : decode mM_unseen.2.1 151 = .ok (.iload 5, 2) := by decide +kernel
theorem dM_unseen_153 : decode mM_unseen.2.1 153 = .ok (.iload 7, 2) := by decide +kernel
theorem dM_unseen_155 : decode mM_unseen.2.1 155 = .ok (.idiv, 1) := by decide +kernel
theorem dM_unseen_156 : decode mM_unseen.2.1 156 = .ok (.goto 8, 3) := by decide +kernel
theorem dM_unseen_159 : decode mM_unseen.2.1 159 = .ok (.iload 6, 2) := by decide +kernel
theorem dM_unseen_161 : decode mM_unseen.2.1 161 = .ok (.iload 7, 2) := by decide +kernel
theorem dM_unseen_163 : decode mM_unseen.2.1 163 = .ok (.idiv, 1) := by decide +kernel
theorem dM_unseen_164 : decode mM_unseen.2.1 164 = .ok (.ireturn, 1) := by decide +kernel
theorem dT_forgedPieces_0 : decode mT_forgedPieces.2.1 0 = .ok (.iconst 0, 1) := by decide +kernel
theorem dT_forgedPieces_1 : decode mT_forgedPieces.2.1 1 = .ok (.istore_n 1, 1) := by decide +kernel
theorem dT_forgedPieces_2 : decode mT_forgedPieces.2.1 2 = .ok (.iconst 0, 1) := by decide +kernel
theorem dT_forgedPieces_3 : decode mT_forgedPieces.2.1 3 = .ok (.istore_n 2, 1) := by decide +kernel
theorem dT_forgedPieces_4 : decode mT_forgedPieces.2.1 4 = .ok (.iload_n 2, 1) := by decide +kernel
theorem dT_forgedPieces_5 : decode mT_forgedPieces.2.1 5 = .ok (.aload_n 0, 1) := by decide +kernel
theorem dT_forgedPieces_6 : decode mT_forgedPieces.2.1 6 = .ok (.getfield 18, 3) := by decide +kernel
theorem dT_forgedPieces_9 : decode mT_forgedPieces.2.1 9 = .ok (.if_icmp .ge 20, 3) := by decide +kernel
theorem dT_forgedPieces_12 : decode mT_forgedPieces.2.1 12 = .ok (.aload_n 0, 1) := by decide +kernel
theorem dT_forgedPieces_13 : decode mT_forgedPieces.2.1 13 = .ok (.iload_n 2, 1) := by decide +kernel
theorem dT_forgedPieces_14 : decode mT_forgedPieces.2.1 14 = .ok (.invokevirtual 88, 3) := by decide +kernel
theorem dT_forgedPieces_17 : decode mT_forgedPieces.2.1 17 = .ok (.ifCond .eq 6, 3) := by decide +kernel
theorem dT_forgedPieces_20 : decode mT_forgedPieces.2.1 20 = .ok (.iinc 1 1, 3) := by decide +kernel
theorem dT_forgedPieces_23 : decode mT_forgedPieces.2.1 23 = .ok (.iinc 2 1, 3) := by decide +kernel
theorem dT_forgedPieces_26 : decode mT_forgedPieces.2.1 26 = .ok (.goto (-22), 3) := by decide +kernel
theorem dT_forgedPieces_29 : decode mT_forgedPieces.2.1 29 = .ok (.iload_n 1, 1) := by decide +kernel
theorem dT_forgedPieces_30 : decode mT_forgedPieces.2.1 30 = .ok (.ireturn, 1) := by decide +kernel
theorem dT_takingPieces_0 : decode mT_takingPieces.2.1 0 = .ok (.iconst 0, 1) := by decide +kernel
theorem dT_takingPieces_1 : decode mT_takingPieces.2.1 1 = .ok (.istore_n 1, 1) := by decide +kernel
theorem dT_takingPieces_2 : decode mT_takingPieces.2.1 2 = .ok (.iconst 0, 1) := by decide +kernel
theorem dT_takingPieces_3 : decode mT_takingPieces.2.1 3 = .ok (.istore_n 2, 1) := by decide +kernel
theorem dT_takingPieces_4 : decode mT_takingPieces.2.1 4 = .ok (.iload_n 2, 1) := by decide +kernel
theorem dT_takingPieces_5 : decode mT_takingPieces.2.1 5 = .ok (.aload_n 0, 1) := by decide +kernel
theorem dT_takingPieces_6 : decode mT_takingPieces.2.1 6 = .ok (.getfield 18, 3) := by decide +kernel
theorem dT_takingPieces_9 : decode mT_takingPieces.2.1 9 = .ok (.if_icmp .ge 20, 3) := by decide +kernel
theorem dT_takingPieces_12 : decode mT_takingPieces.2.1 12 = .ok (.aload_n 0, 1) := by decide +kernel
theorem dT_takingPieces_13 : decode mT_takingPieces.2.1 13 = .ok (.iload_n 2, 1) := by decide +kernel
theorem dT_takingPieces_14 : decode mT_takingPieces.2.1 14 = .ok (.invokevirtual 91, 3) := by decide +kernel
theorem dT_takingPieces_17 : decode mT_takingPieces.2.1 17 = .ok (.ifCond .eq 6, 3) := by decide +kernel
theorem dT_takingPieces_20 : decode mT_takingPieces.2.1 20 = .ok (.iinc 1 1, 3) := by decide +kernel
theorem dT_takingPieces_23 : decode mT_takingPieces.2.1 23 = .ok (.iinc 2 1, 3) := by decide +kernel
theorem dT_takingPieces_26 : decode mT_takingPieces.2.1 26 = .ok (.goto (-22), 3) := by decide +kernel
theorem dT_takingPieces_29 : decode mT_takingPieces.2.1 29 = .ok (.iload_n 1, 1) := by decide +kernel
theorem dT_takingPieces_30 : decode mT_takingPieces.2.1 30 = .ok (.ireturn, 1) := by decide +kernel
theorem dU_copies_0 : decode mU_copies.2.1 0 = .ok (.iconst 0, 1) := by decide +kernel
theorem dU_copies_1 : decode mU_copies.2.1 1 = .ok (.istore_n 1, 1) := by decide +kernel
theorem dU_copies_2 : decode mU_copies.2.1 2 = .ok (.iconst 0, 1) := by decide +kernel
theorem dU_copies_3 : decode mU_copies.2.1 3 = .ok (.istore_n 2, 1) := by decide +kernel
theorem dU_copies_4 : decode mU_copies.2.1 4 = .ok (.iload_n 2, 1) := by decide +kernel
theorem dU_copies_5 : decode mU_copies.2.1 5 = .ok (.aload_n 0, 1) := by decide +kernel
theorem dU_copies_6 : decode mU_copies.2.1 6 = .ok (.getfield 15, 3) := by decide +kernel
theorem dU_copies_9 : decode mU_copies.2.1 9 = .ok (.getfield 23, 3) := by decide +kernel
theorem dU_copies_12 : decode mU_copies.2.1 12 = .ok (.if_icmp .ge 25, 3) := by decide +kernel
theorem dU_copies_15 : decode mU_copies.2.1 15 = .ok (.aload_n 0, 1) := by decide +kernel
theorem dU_copies_16 : decode mU_copies.2.1 16 = .ok (.getfield 19, 3) := by decide +kernel
theorem dU_copies_19 : decode mU_copies.2.1 19 = .ok (.getfield 29, 3) := by decide +kernel
theorem dU_copies_22 : decode mU_copies.2.1 22 = .ok (.iload_n 2, 1) := by decide +kernel
theorem dU_copies_23 : decode mU_copies.2.1 23 = .ok (.iaload, 1) := by decide +kernel
theorem dU_copies_24 : decode mU_copies.2.1 24 = .ok (.iconst (-1), 1) := by decide +kernel
theorem dU_copies_25 : decode mU_copies.2.1 25 = .ok (.if_icmp .eq 6, 3) := by decide +kernel
theorem dU_copies_28 : decode mU_copies.2.1 28 = .ok (.iinc 1 1, 3) := by decide +kernel
theorem dU_copies_31 : decode mU_copies.2.1 31 = .ok (.iinc 2 1, 3) := by decide +kernel
theorem dU_copies_34 : decode mU_copies.2.1 34 = .ok (.goto (-30), 3) := by decide +kernel
theorem dU_copies_37 : decode mU_copies.2.1 37 = .ok (.iload_n 1, 1) := by decide +kernel
theorem dU_copies_38 : decode mU_copies.2.1 38 = .ok (.ireturn, 1) := by decide +kernel
theorem dX_many_0 : decode mX_many.2.1 0 = .ok (.iload_n 1, 1) := by decide +kernel
theorem dX_many_1 : decode mX_many.2.1 1 = .ok (.tableswitch 106 0 6 #[43, 51, 59, 67, 75, 83, 91], 43) := by decide +kernel
theorem dX_many_44 : decode mX_many.2.1 44 = .ok (.aload_n 0, 1) := by decide +kernel
theorem dX_many_45 : decode mX_many.2.1 45 = .ok (.getfield 12, 3) := by decide +kernel
theorem dX_many_48 : decode mX_many.2.1 48 = .ok (.invokevirtual 52, 3) := by decide +kernel
theorem dX_many_51 : decode mX_many.2.1 51 = .ok (.ireturn, 1) := by decide +kernel
theorem dX_many_52 : decode mX_many.2.1 52 = .ok (.aload_n 0, 1) := by decide +kernel
theorem dX_many_53 : decode mX_many.2.1 53 = .ok (.getfield 12, 3) := by decide +kernel
theorem dX_many_56 : decode mX_many.2.1 56 = .ok (.getfield 56, 3) := by decide +kernel
theorem dX_many_59 : decode mX_many.2.1 59 = .ok (.ireturn, 1) := by decide +kernel
theorem dX_many_60 : decode mX_many.2.1 60 = .ok (.aload_n 0, 1) := by decide +kernel
theorem dX_many_61 : decode mX_many.2.1 61 = .ok (.getfield 12, 3) := by decide +kernel
theorem dX_many_64 : decode mX_many.2.1 64 = .ok (.getfield 185, 3) := by decide +kernel
theorem dX_many_67 : decode mX_many.2.1 67 = .ok (.ireturn, 1) := by decide +kernel
theorem dX_many_68 : decode mX_many.2.1 68 = .ok (.aload_n 0, 1) := by decide +kernel
theorem dX_many_69 : decode mX_many.2.1 69 = .ok (.getfield 12, 3) := by decide +kernel
theorem dX_many_72 : decode mX_many.2.1 72 = .ok (.getfield 108, 3) := by decide +kernel
theorem dX_many_75 : decode mX_many.2.1 75 = .ok (.ireturn, 1) := by decide +kernel
theorem dX_many_76 : decode mX_many.2.1 76 = .ok (.aload_n 0, 1) := by decide +kernel
theorem dX_many_77 : decode mX_many.2.1 77 = .ok (.getfield 12, 3) := by decide +kernel
theorem dX_many_80 : decode mX_many.2.1 80 = .ok (.invokevirtual 188, 3) := by decide +kernel
theorem dX_many_83 : decode mX_many.2.1 83 = .ok (.ireturn, 1) := by decide +kernel
theorem dX_many_84 : decode mX_many.2.1 84 = .ok (.aload_n 0, 1) := by decide +kernel
theorem dX_many_85 : decode mX_many.2.1 85 = .ok (.getfield 12, 3) := by decide +kernel
theorem dX_many_88 : decode mX_many.2.1 88 = .ok (.invokevirtual 191, 3) := by decide +kernel
theorem dX_many_91 : decode mX_many.2.1 91 = .ok (.ireturn, 1) := by decide +kernel
theorem dX_many_92 : decode mX_many.2.1 92 = .ok (.aload_n 0, 1) := by decide +kernel
theorem dX_many_93 : decode mX_many.2.1 93 = .ok (.getfield 24, 3) := by decide +kernel
theorem dX_many_96 : decode mX_many.2.1 96 = .ok (.invokevirtual 126, 3) := by decide +kernel
theorem dX_many_99 : decode mX_many.2.1 99 = .ok (.aload_n 0, 1) := by decide +kernel
theorem dX_many_100 : decode mX_many.2.1 100 = .ok (.getfield 33, 3) := by decide +kernel
theorem dX_many_103 : decode mX_many.2.1 103 = .ok (.invokevirtual 194, 3) := by decide +kernel
theorem dX_many_106 : decode mX_many.2.1 106 = .ok (.ireturn, 1) := by decide +kernel
theorem dX_many_107 : decode mX_many.2.1 107 = .ok (.iconst (-1), 1) := by decide +kernel
theorem dX_many_108 : decode mX_many.2.1 108 = .ok (.ireturn, 1) := by decide +kernel
theorem dM_forged_0 : decode mM_forged.2.1 0 = .ok (.iconst 0, 1) := by decide +kernel
theorem dM_forged_1 : decode mM_forged.2.1 1 = .ok (.istore_n 1, 1) := by decide +kernel
theorem dM_forged_2 : decode mM_forged.2.1 2 = .ok (.iconst 0, 1) := by decide +kernel
theorem dM_forged_3 : decode mM_forged.2.1 3 = .ok (.istore_n 2, 1) := by decide +kernel
theorem dM_forged_4 : decode mM_forged.2.1 4 = .ok (.iload_n 2, 1) := by decide +kernel
theorem dM_forged_5 : decode mM_forged.2.1 5 = .ok (.aload_n 0, 1) := by decide +kernel
theorem dM_forged_6 : decode mM_forged.2.1 6 = .ok (.getfield 103, 3) := by decide +kernel
theorem dM_forged_9 : decode mM_forged.2.1 9 = .ok (.if_icmp .ge 25, 3) := by decide +kernel
theorem dM_forged_12 : decode mM_forged.2.1 12 = .ok (.iload_n 1, 1) := by decide +kernel
theorem dM_forged_13 : decode mM_forged.2.1 13 = .ok (.aload_n 0, 1) := by decide +kernel
theorem dM_forged_14 : decode mM_forged.2.1 14 = .ok (.iload_n 2, 1) := by decide +kernel
theorem dM_forged_15 : decode mM_forged.2.1 15 = .ok (.invokevirtual 133, 3) := by decide +kernel
theorem dM_forged_18 : decode mM_forged.2.1 18 = .ok (.ifCond .eq 7, 3) := by decide +kernel
theorem dM_forged_21 : decode mM_forged.2.1 21 = .ok (.iconst 1, 1) := by decide +kernel
theorem dM_forged_22 : decode mM_forged.2.1 22 = .ok (.goto 4, 3) := by decide +kernel
theorem dM_forged_25 : decode mM_forged.2.1 25 = .ok (.iconst 0, 1) := by decide +kernel
theorem dM_forged_26 : decode mM_forged.2.1 26 = .ok (.iadd, 1) := by decide +kernel
theorem dM_forged_27 : decode mM_forged.2.1 27 = .ok (.istore_n 1, 1) := by decide +kernel
theorem dM_forged_28 : decode mM_forged.2.1 28 = .ok (.iinc 2 1, 3) := by decide +kernel
theorem dM_forged_31 : decode mM_forged.2.1 31 = .ok (.goto (-27), 3) := by decide +kernel
theorem dM_forged_34 : decode mM_forged.2.1 34 = .ok (.iload_n 1, 1) := by decide +kernel
theorem dM_forged_35 : decode mM_forged.2.1 35 = .ok (.ireturn, 1) := by decide +kernel
theorem dM_taking_0 : decode mM_taking.2.1 0 = .ok (.iconst 0, 1) := by decide +kernel
theorem dM_taking_1 : decode mM_taking.2.1 1 = .ok (.istore_n 1, 1) := by decide +kernel
theorem dM_taking_2 : decode mM_taking.2.1 2 = .ok (.iconst 0, 1) := by decide +kernel
theorem dM_taking_3 : decode mM_taking.2.1 3 = .ok (.istore_n 2, 1) := by decide +kernel
theorem dM_taking_4 : decode mM_taking.2.1 4 = .ok (.iload_n 2, 1) := by decide +kernel
theorem dM_taking_5 : decode mM_taking.2.1 5 = .ok (.aload_n 0, 1) := by decide +kernel
theorem dM_taking_6 : decode mM_taking.2.1 6 = .ok (.getfield 103, 3) := by decide +kernel
theorem dM_taking_9 : decode mM_taking.2.1 9 = .ok (.if_icmp .ge 25, 3) := by decide +kernel
theorem dM_taking_12 : decode mM_taking.2.1 12 = .ok (.iload_n 1, 1) := by decide +kernel
theorem dM_taking_13 : decode mM_taking.2.1 13 = .ok (.aload_n 0, 1) := by decide +kernel
theorem dM_taking_14 : decode mM_taking.2.1 14 = .ok (.iload_n 2, 1) := by decide +kernel
theorem dM_taking_15 : decode mM_taking.2.1 15 = .ok (.invokevirtual 136, 3) := by decide +kernel
theorem dM_taking_18 : decode mM_taking.2.1 18 = .ok (.ifCond .eq 7, 3) := by decide +kernel
theorem dM_taking_21 : decode mM_taking.2.1 21 = .ok (.iconst 1, 1) := by decide +kernel
theorem dM_taking_22 : decode mM_taking.2.1 22 = .ok (.goto 4, 3) := by decide +kernel
theorem dM_taking_25 : decode mM_taking.2.1 25 = .ok (.iconst 0, 1) := by decide +kernel
theorem dM_taking_26 : decode mM_taking.2.1 26 = .ok (.iadd, 1) := by decide +kernel
theorem dM_taking_27 : decode mM_taking.2.1 27 = .ok (.istore_n 1, 1) := by decide +kernel
theorem dM_taking_28 : decode mM_taking.2.1 28 = .ok (.iinc 2 1, 3) := by decide +kernel
theorem dM_taking_31 : decode mM_taking.2.1 31 = .ok (.goto (-27), 3) := by decide +kernel
theorem dM_taking_34 : decode mM_taking.2.1 34 = .ok (.iload_n 1, 1) := by decide +kernel
theorem dM_taking_35 : decode mM_taking.2.1 35 = .ok (.ireturn, 1) := by decide +kernel
theorem dM_sure_0 : decode mM_sure.2.1 0 = .ok (.aload_n 0, 1) := by decide +kernel
theorem dM_sure_1 : decode mM_sure.2.1 1 = .ok (.iconst (-1), 1) := by decide +kernel
theorem dM_sure_2 : decode mM_sure.2.1 2 = .ok (.invokevirtual 168, 3) := by decide +kernel
theorem dM_sure_5 : decode mM_sure.2.1 5 = .ok (.iconst 0, 1) := by decide +kernel
theorem dM_sure_6 : decode mM_sure.2.1 6 = .ok (.istore_n 1, 1) := by decide +kernel
theorem dM_sure_7 : decode mM_sure.2.1 7 = .ok (.iconst 0, 1) := by decide +kernel
theorem dM_sure_8 : decode mM_sure.2.1 8 = .ok (.istore_n 2, 1) := by decide +kernel
theorem dM_sure_9 : decode mM_sure.2.1 9 = .ok (.iload_n 2, 1) := by decide +kernel
theorem dM_sure_10 : decode mM_sure.2.1 10 = .ok (.aload_n 0, 1) := by decide +kernel
theorem dM_sure_11 : decode mM_sure.2.1 11 = .ok (.getfield 96, 3) := by decide +kernel
theorem dM_sure_14 : decode mM_sure.2.1 14 = .ok (.if_icmp .ge 30, 3) := by decide +kernel
theorem dM_sure_17 : decode mM_sure.2.1 17 = .ok (.iload_n 1, 1) := by decide +kernel
theorem dM_sure_18 : decode mM_sure.2.1 18 = .ok (.aload_n 0, 1) := by decide +kernel
theorem dM_sure_19 : decode mM_sure.2.1 19 = .ok (.getfield 87, 3) := by decide +kernel
theorem dM_sure_22 : decode mM_sure.2.1 22 = .ok (.iload_n 2, 1) := by decide +kernel
theorem dM_sure_23 : decode mM_sure.2.1 23 = .ok (.iaload, 1) := by decide +kernel
theorem dM_sure_24 : decode mM_sure.2.1 24 = .ok (.invokestatic 175, 3) := by decide +kernel
theorem dM_sure_27 : decode mM_sure.2.1 27 = .ok (.iconst 1, 1) := by decide +kernel
theorem dM_sure_28 : decode mM_sure.2.1 28 = .ok (.if_icmp .ne 7, 3) := by decide +kernel
theorem dM_sure_31 : decode mM_sure.2.1 31 = .ok (.iconst 1, 1) := by decide +kernel
theorem dM_sure_32 : decode mM_sure.2.1 32 = .ok (.goto 4, 3) := by decide +kernel
theorem dM_sure_35 : decode mM_sure.2.1 35 = .ok (.iconst 0, 1) := by decide +kernel
theorem dM_sure_36 : decode mM_sure.2.1 36 = .ok (.iadd, 1) := by decide +kernel
theorem dM_sure_37 : decode mM_sure.2.1 37 = .ok (.istore_n 1, 1) := by decide +kernel
theorem dM_sure_38 : decode mM_sure.2.1 38 = .ok (.iinc 2 1, 3) := by decide +kernel
theorem dM_sure_41 : decode mM_sure.2.1 41 = .ok (.goto (-32), 3) := by decide +kernel
theorem dM_sure_44 : decode mM_sure.2.1 44 = .ok (.iload_n 1, 1) := by decide +kernel
theorem dM_sure_45 : decode mM_sure.2.1 45 = .ok (.ireturn, 1) := by decide +kernel
theorem dM_many_0 : decode mM_many.2.1 0 = .ok (.iload_n 1, 1) := by decide +kernel
theorem dM_many_1 : decode mM_many.2.1 1 = .ok (.tableswitch 78 0 6 #[43, 48, 53, 58, 63, 68, 73], 43) := by decide +kernel
theorem dM_many_44 : decode mM_many.2.1 44 = .ok (.aload_n 0, 1) := by decide +kernel
theorem dM_many_45 : decode mM_many.2.1 45 = .ok (.invokevirtual 106, 3) := by decide +kernel
theorem dM_many_48 : decode mM_many.2.1 48 = .ok (.ireturn, 1) := by decide +kernel
theorem dM_many_49 : decode mM_many.2.1 49 = .ok (.aload_n 0, 1) := by decide +kernel
theorem dM_many_50 : decode mM_many.2.1 50 = .ok (.getfield 103, 3) := by decide +kernel
theorem dM_many_53 : decode mM_many.2.1 53 = .ok (.ireturn, 1) := by decide +kernel
theorem dM_many_54 : decode mM_many.2.1 54 = .ok (.aload_n 0, 1) := by decide +kernel
theorem dM_many_55 : decode mM_many.2.1 55 = .ok (.getfield 96, 3) := by decide +kernel
theorem dM_many_58 : decode mM_many.2.1 58 = .ok (.ireturn, 1) := by decide +kernel
theorem dM_many_59 : decode mM_many.2.1 59 = .ok (.aload_n 0, 1) := by decide +kernel
theorem dM_many_60 : decode mM_many.2.1 60 = .ok (.getfield 120, 3) := by decide +kernel
theorem dM_many_63 : decode mM_many.2.1 63 = .ok (.ireturn, 1) := by decide +kernel
theorem dM_many_64 : decode mM_many.2.1 64 = .ok (.aload_n 0, 1) := by decide +kernel
theorem dM_many_65 : decode mM_many.2.1 65 = .ok (.invokevirtual 196, 3) := by decide +kernel
theorem dM_many_68 : decode mM_many.2.1 68 = .ok (.ireturn, 1) := by decide +kernel
theorem dM_many_69 : decode mM_many.2.1 69 = .ok (.aload_n 0, 1) := by decide +kernel
theorem dM_many_70 : decode mM_many.2.1 70 = .ok (.invokevirtual 199, 3) := by decide +kernel
theorem dM_many_73 : decode mM_many.2.1 73 = .ok (.ireturn, 1) := by decide +kernel
theorem dM_many_74 : decode mM_many.2.1 74 = .ok (.aload_n 0, 1) := by decide +kernel
theorem dM_many_75 : decode mM_many.2.1 75 = .ok (.invokevirtual 202, 3) := by decide +kernel
theorem dM_many_78 : decode mM_many.2.1 78 = .ok (.ireturn, 1) := by decide +kernel
theorem dM_many_79 : decode mM_many.2.1 79 = .ok (.iconst (-1), 1) := by decide +kernel
theorem dM_many_80 : decode mM_many.2.1 80 = .ok (.ireturn, 1) := by decide +kernel
theorem dT_copyFrom_0 : decode mT_copyFrom.2.1 0 = .ok (.aload_n 0, 1) := by decide +kernel
theorem dT_copyFrom_1 : decode mT_copyFrom.2.1 1 = .ok (.aload_n 1, 1) := by decide +kernel
theorem dT_copyFrom_2 : decode mT_copyFrom.2.1 2 = .ok (.getfield 9, 3) := by decide +kernel
theorem dT_copyFrom_5 : decode mT_copyFrom.2.1 5 = .ok (.putfield 9, 3) := by decide +kernel
theorem dT_copyFrom_8 : decode mT_copyFrom.2.1 8 = .ok (.aload_n 0, 1) := by decide +kernel
theorem dT_copyFrom_9 : decode mT_copyFrom.2.1 9 = .ok (.aload_n 1, 1) := by decide +kernel
theorem dT_copyFrom_10 : decode mT_copyFrom.2.1 10 = .ok (.getfield 15, 3) := by decide +kernel
theorem dT_copyFrom_13 : decode mT_copyFrom.2.1 13 = .ok (.putfield 15, 3) := by decide +kernel
theorem dT_copyFrom_16 : decode mT_copyFrom.2.1 16 = .ok (.aload_n 0, 1) := by decide +kernel
theorem dT_copyFrom_17 : decode mT_copyFrom.2.1 17 = .ok (.aload_n 1, 1) := by decide +kernel
theorem dT_copyFrom_18 : decode mT_copyFrom.2.1 18 = .ok (.getfield 18, 3) := by decide +kernel
theorem dT_copyFrom_21 : decode mT_copyFrom.2.1 21 = .ok (.putfield 18, 3) := by decide +kernel
theorem dT_copyFrom_24 : decode mT_copyFrom.2.1 24 = .ok (.aload_n 0, 1) := by decide +kernel
theorem dT_copyFrom_25 : decode mT_copyFrom.2.1 25 = .ok (.aload_n 1, 1) := by decide +kernel
theorem dT_copyFrom_26 : decode mT_copyFrom.2.1 26 = .ok (.getfield 21, 3) := by decide +kernel
theorem dT_copyFrom_29 : decode mT_copyFrom.2.1 29 = .ok (.putfield 21, 3) := by decide +kernel
theorem dT_copyFrom_32 : decode mT_copyFrom.2.1 32 = .ok (.aload_n 0, 1) := by decide +kernel
theorem dT_copyFrom_33 : decode mT_copyFrom.2.1 33 = .ok (.aload_n 1, 1) := by decide +kernel
theorem dT_copyFrom_34 : decode mT_copyFrom.2.1 34 = .ok (.getfield 24, 3) := by decide +kernel
theorem dT_copyFrom_37 : decode mT_copyFrom.2.1 37 = .ok (.putfield 24, 3) := by decide +kernel
theorem dT_copyFrom_40 : decode mT_copyFrom.2.1 40 = .ok (.aload_n 1, 1) := by decide +kernel
theorem dT_copyFrom_41 : decode mT_copyFrom.2.1 41 = .ok (.getfield 27, 3) := by decide +kernel
theorem dT_copyFrom_44 : decode mT_copyFrom.2.1 44 = .ok (.iconst 0, 1) := by decide +kernel
theorem dT_copyFrom_45 : decode mT_copyFrom.2.1 45 = .ok (.aload_n 0, 1) := by decide +kernel
theorem dT_copyFrom_46 : decode mT_copyFrom.2.1 46 = .ok (.getfield 27, 3) := by decide +kernel
theorem dT_copyFrom_49 : decode mT_copyFrom.2.1 49 = .ok (.iconst 0, 1) := by decide +kernel
theorem dT_copyFrom_50 : decode mT_copyFrom.2.1 50 = .ok (.aload_n 0, 1) := by decide +kernel
theorem dT_copyFrom_51 : decode mT_copyFrom.2.1 51 = .ok (.getfield 27, 3) := by decide +kernel
theorem dT_copyFrom_54 : decode mT_copyFrom.2.1 54 = .ok (.arraylength, 1) := by decide +kernel
theorem dT_copyFrom_55 : decode mT_copyFrom.2.1 55 = .ok (.invokestatic 37, 3) := by decide +kernel
theorem dT_copyFrom_58 : decode mT_copyFrom.2.1 58 = .ok (.aload_n 1, 1) := by decide +kernel
theorem dT_copyFrom_59 : decode mT_copyFrom.2.1 59 = .ok (.getfield 31, 3) := by decide +kernel
theorem dT_copyFrom_62 : decode mT_copyFrom.2.1 62 = .ok (.iconst 0, 1) := by decide +kernel
theorem dT_copyFrom_63 : decode mT_copyFrom.2.1 63 = .ok (.aload_n 0, 1) := by decide +kernel
theorem dT_copyFrom_64 : decode mT_copyFrom.2.1 64 = .ok (.getfield 31, 3) := by decide +kernel
theorem dT_copyFrom_67 : decode mT_copyFrom.2.1 67 = .ok (.iconst 0, 1) := by decide +kernel
theorem dT_copyFrom_68 : decode mT_copyFrom.2.1 68 = .ok (.aload_n 0, 1) := by decide +kernel
theorem dT_copyFrom_69 : decode mT_copyFrom.2.1 69 = .ok (.getfield 31, 3) := by decide +kernel
theorem dT_copyFrom_72 : decode mT_copyFrom.2.1 72 = .ok (.arraylength, 1) := by decide +kernel
theorem dT_copyFrom_73 : decode mT_copyFrom.2.1 73 = .ok (.invokestatic 37, 3) := by decide +kernel
theorem dT_copyFrom_76 : decode mT_copyFrom.2.1 76 = .ok (.aload_n 1, 1) := by decide +kernel
theorem dT_copyFrom_77 : decode mT_copyFrom.2.1 77 = .ok (.getfield 34, 3) := by decide +kernel
theorem dT_copyFrom_80 : decode mT_copyFrom.2.1 80 = .ok (.iconst 0, 1) := by decide +kernel
theorem dT_copyFrom_81 : decode mT_copyFrom.2.1 81 = .ok (.aload_n 0, 1) := by decide +kernel
theorem dT_copyFrom_82 : decode mT_copyFrom.2.1 82 = .ok (.getfield 34, 3) := by decide +kernel
theorem dT_copyFrom_85 : decode mT_copyFrom.2.1 85 = .ok (.iconst 0, 1) := by decide +kernel
theorem dT_copyFrom_86 : decode mT_copyFrom.2.1 86 = .ok (.aload_n 0, 1) := by decide +kernel
theorem dT_copyFrom_87 : decode mT_copyFrom.2.1 87 = .ok (.getfield 34, 3) := by decide +kernel
theorem dT_copyFrom_90 : decode mT_copyFrom.2.1 90 = .ok (.arraylength, 1) := by decide +kernel
theorem dT_copyFrom_91 : decode mT_copyFrom.2.1 91 = .ok (.invokestatic 37, 3) := by decide +kernel
theorem dT_copyFrom_94 : decode mT_copyFrom.2.1 94 = .ok (.return_, 1) := by decide +kernel
theorem dX_keep_0 : decode mX_keep.2.1 0 = .ok (.aload_n 0, 1) := by decide +kernel
theorem dX_keep_1 : decode mX_keep.2.1 1 = .ok (.getfield 16, 3) := by decide +kernel
theorem dX_keep_4 : decode mX_keep.2.1 4 = .ok (.aload_n 0, 1) := by decide +kernel
theorem dX_keep_5 : decode mX_keep.2.1 5 = .ok (.getfield 12, 3) := by decide +kernel
theorem dX_keep_8 : decode mX_keep.2.1 8 = .ok (.invokevirtual 196, 3) := by decide +kernel
theorem dX_keep_11 : decode mX_keep.2.1 11 = .ok (.aload_n 0, 1) := by decide +kernel
theorem dX_keep_12 : decode mX_keep.2.1 12 = .ok (.iconst 1, 1) := by decide +kernel
theorem dX_keep_13 : decode mX_keep.2.1 13 = .ok (.putfield 37, 3) := by decide +kernel
theorem dX_keep_16 : decode mX_keep.2.1 16 = .ok (.iconst 1, 1) := by decide +kernel
theorem dX_keep_17 : decode mX_keep.2.1 17 = .ok (.ireturn, 1) := by decide +kernel
theorem dM_copy_0 : decode mM_copy.2.1 0 = .ok (.iconst 0, 1) := by decide +kernel
theorem dM_copy_1 : decode mM_copy.2.1 1 = .ok (.istore 5, 2) := by decide +kernel
theorem dM_copy_3 : decode mM_copy.2.1 3 = .ok (.iload 5, 2) := by decide +kernel
theorem dM_copy_5 : decode mM_copy.2.1 5 = .ok (.iload 4, 2) := by decide +kernel
theorem dM_copy_7 : decode mM_copy.2.1 7 = .ok (.if_icmp .ge 21, 3) := by decide +kernel
theorem dM_copy_10 : decode mM_copy.2.1 10 = .ok (.aload_n 2, 1) := by decide +kernel
theorem dM_copy_11 : decode mM_copy.2.1 11 = .ok (.iload_n 3, 1) := by decide +kernel
theorem dM_copy_12 : decode mM_copy.2.1 12 = .ok (.iload 5, 2) := by decide +kernel
theorem dM_copy_14 : decode mM_copy.2.1 14 = .ok (.iadd, 1) := by decide +kernel
theorem dM_copy_15 : decode mM_copy.2.1 15 = .ok (.aload_n 0, 1) := by decide +kernel
theorem dM_copy_16 : decode mM_copy.2.1 16 = .ok (.iload_n 1, 1) := by decide +kernel
theorem dM_copy_17 : decode mM_copy.2.1 17 = .ok (.iload 5, 2) := by decide +kernel
theorem dM_copy_19 : decode mM_copy.2.1 19 = .ok (.iadd, 1) := by decide +kernel
theorem dM_copy_20 : decode mM_copy.2.1 20 = .ok (.iaload, 1) := by decide +kernel
theorem dM_copy_21 : decode mM_copy.2.1 21 = .ok (.iastore, 1) := by decide +kernel
theorem dM_copy_22 : decode mM_copy.2.1 22 = .ok (.iinc 5 1, 3) := by decide +kernel
theorem dM_copy_25 : decode mM_copy.2.1 25 = .ok (.goto (-22), 3) := by decide +kernel
theorem dM_copy_28 : decode mM_copy.2.1 28 = .ok (.return_, 1) := by decide +kernel
theorem dM_keep_0 : decode mM_keep.2.1 0 = .ok (.aload_n 0, 1) := by decide +kernel
theorem dM_keep_1 : decode mM_keep.2.1 1 = .ok (.iconst 1, 1) := by decide +kernel
theorem dM_keep_2 : decode mM_keep.2.1 2 = .ok (.putfield 205, 3) := by decide +kernel
theorem dM_keep_5 : decode mM_keep.2.1 5 = .ok (.aload_n 0, 1) := by decide +kernel
theorem dM_keep_6 : decode mM_keep.2.1 6 = .ok (.getfield 60, 3) := by decide +kernel
theorem dM_keep_9 : decode mM_keep.2.1 9 = .ok (.iconst 0, 1) := by decide +kernel
theorem dM_keep_10 : decode mM_keep.2.1 10 = .ok (.aload_n 0, 1) := by decide +kernel
theorem dM_keep_11 : decode mM_keep.2.1 11 = .ok (.getfield 7, 3) := by decide +kernel
theorem dM_keep_14 : decode mM_keep.2.1 14 = .ok (.iastore, 1) := by decide +kernel
theorem dM_keep_15 : decode mM_keep.2.1 15 = .ok (.aload_n 0, 1) := by decide +kernel
theorem dM_keep_16 : decode mM_keep.2.1 16 = .ok (.getfield 60, 3) := by decide +kernel
theorem dM_keep_19 : decode mM_keep.2.1 19 = .ok (.iconst 1, 1) := by decide +kernel
theorem dM_keep_20 : decode mM_keep.2.1 20 = .ok (.aload_n 0, 1) := by decide +kernel
theorem dM_keep_21 : decode mM_keep.2.1 21 = .ok (.getfield 13, 3) := by decide +kernel
theorem dM_keep_24 : decode mM_keep.2.1 24 = .ok (.iastore, 1) := by decide +kernel
theorem dM_keep_25 : decode mM_keep.2.1 25 = .ok (.aload_n 0, 1) := by decide +kernel
theorem dM_keep_26 : decode mM_keep.2.1 26 = .ok (.getfield 60, 3) := by decide +kernel
theorem dM_keep_29 : decode mM_keep.2.1 29 = .ok (.iconst 2, 1) := by decide +kernel
theorem dM_keep_30 : decode mM_keep.2.1 30 = .ok (.aload_n 0, 1) := by decide +kernel
theorem dM_keep_31 : decode mM_keep.2.1 31 = .ok (.getfield 103, 3) := by decide +kernel
theorem dM_keep_34 : decode mM_keep.2.1 34 = .ok (.iastore, 1) := by decide +kernel
theorem dM_keep_35 : decode mM_keep.2.1 35 = .ok (.aload_n 0, 1) := by decide +kernel
theorem dM_keep_36 : decode mM_keep.2.1 36 = .ok (.getfield 60, 3) := by decide +kernel
theorem dM_keep_39 : decode mM_keep.2.1 39 = .ok (.iconst 3, 1) := by decide +kernel
theorem dM_keep_40 : decode mM_keep.2.1 40 = .ok (.aload_n 0, 1) := by decide +kernel
theorem dM_keep_41 : decode mM_keep.2.1 41 = .ok (.getfield 96, 3) := by decide +kernel
theorem dM_keep_44 : decode mM_keep.2.1 44 = .ok (.iastore, 1) := by decide +kernel
theorem dM_keep_45 : decode mM_keep.2.1 45 = .ok (.aload_n 0, 1) := by decide +kernel
theorem dM_keep_46 : decode mM_keep.2.1 46 = .ok (.getfield 60, 3) := by decide +kernel
theorem dM_keep_49 : decode mM_keep.2.1 49 = .ok (.iconst 4, 1) := by decide +kernel
theorem dM_keep_50 : decode mM_keep.2.1 50 = .ok (.aload_n 0, 1) := by decide +kernel
theorem dM_keep_51 : decode mM_keep.2.1 51 = .ok (.getfield 120, 3) := by decide +kernel
theorem dM_keep_54 : decode mM_keep.2.1 54 = .ok (.iastore, 1) := by decide +kernel
theorem dM_keep_55 : decode mM_keep.2.1 55 = .ok (.aload_n 0, 1) := by decide +kernel
theorem dM_keep_56 : decode mM_keep.2.1 56 = .ok (.getfield 16, 3) := by decide +kernel
theorem dM_keep_59 : decode mM_keep.2.1 59 = .ok (.iconst 0, 1) := by decide +kernel
theorem dM_keep_60 : decode mM_keep.2.1 60 = .ok (.aload_n 0, 1) := by decide +kernel
theorem dM_keep_61 : decode mM_keep.2.1 61 = .ok (.getfield 63, 3) := by decide +kernel
theorem dM_keep_64 : decode mM_keep.2.1 64 = .ok (.iconst 0, 1) := by decide +kernel
theorem dM_keep_65 : decode mM_keep.2.1 65 = .ok (.iconst 5, 1) := by decide +kernel
theorem dM_keep_66 : decode mM_keep.2.1 66 = .ok (.invokestatic 209, 3) := by decide +kernel
theorem dM_keep_69 : decode mM_keep.2.1 69 = .ok (.aload_n 0, 1) := by decide +kernel
theorem dM_keep_70 : decode mM_keep.2.1 70 = .ok (.getfield 20, 3) := by decide +kernel
theorem dM_keep_73 : decode mM_keep.2.1 73 = .ok (.iconst 0, 1) := by decide +kernel
theorem dM_keep_74 : decode mM_keep.2.1 74 = .ok (.aload_n 0, 1) := by decide +kernel
theorem dM_keep_75 : decode mM_keep.2.1 75 = .ok (.getfield 63, 3) := by decide +kernel
theorem dM_keep_78 : decode mM_keep.2.1 78 = .ok (.iconst 5, 1) := by decide +kernel
theorem dM_keep_79 : decode mM_keep.2.1 79 = .ok (.iconst 5, 1) := by decide +kernel
theorem dM_keep_80 : decode mM_keep.2.1 80 = .ok (.invokestatic 209, 3) := by decide +kernel
theorem dM_keep_83 : decode mM_keep.2.1 83 = .ok (.aload_n 0, 1) := by decide +kernel
theorem dM_keep_84 : decode mM_keep.2.1 84 = .ok (.getfield 23, 3) := by decide +kernel
theorem dM_keep_87 : decode mM_keep.2.1 87 = .ok (.iconst 0, 1) := by decide +kernel
theorem dM_keep_88 : decode mM_keep.2.1 88 = .ok (.aload_n 0, 1) := by decide +kernel
theorem dM_keep_89 : decode mM_keep.2.1 89 = .ok (.getfield 63, 3) := by decide +kernel
theorem dM_keep_92 : decode mM_keep.2.1 92 = .ok (.bipush 10, 2) := by decide +kernel
theorem dM_keep_94 : decode mM_keep.2.1 94 = .ok (.iconst 5, 1) := by decide +kernel
theorem dM_keep_95 : decode mM_keep.2.1 95 = .ok (.invokestatic 209, 3) := by decide +kernel
theorem dM_keep_98 : decode mM_keep.2.1 98 = .ok (.aload_n 0, 1) := by decide +kernel
theorem dM_keep_99 : decode mM_keep.2.1 99 = .ok (.getfield 26, 3) := by decide +kernel
theorem dM_keep_102 : decode mM_keep.2.1 102 = .ok (.iconst 0, 1) := by decide +kernel
theorem dM_keep_103 : decode mM_keep.2.1 103 = .ok (.aload_n 0, 1) := by decide +kernel
theorem dM_keep_104 : decode mM_keep.2.1 104 = .ok (.getfield 63, 3) := by decide +kernel
theorem dM_keep_107 : decode mM_keep.2.1 107 = .ok (.bipush 15, 2) := by decide +kernel
theorem dM_keep_109 : decode mM_keep.2.1 109 = .ok (.iconst 5, 1) := by decide +kernel
theorem dM_keep_110 : decode mM_keep.2.1 110 = .ok (.invokestatic 209, 3) := by decide +kernel
theorem dM_keep_113 : decode mM_keep.2.1 113 = .ok (.iconst 0, 1) := by decide +kernel
theorem dM_keep_114 : decode mM_keep.2.1 114 = .ok (.istore_n 1, 1) := by decide +kernel
theorem dM_keep_115 : decode mM_keep.2.1 115 = .ok (.iload_n 1, 1) := by decide +kernel
theorem dM_keep_116 : decode mM_keep.2.1 116 = .ok (.iconst 5, 1) := by decide +kernel
theorem dM_keep_117 : decode mM_keep.2.1 117 = .ok (.if_icmp .ge 32, 3) := by decide +kernel
theorem dM_keep_120 : decode mM_keep.2.1 120 = .ok (.aload_n 0, 1) := by decide +kernel
theorem dM_keep_121 : decode mM_keep.2.1 121 = .ok (.getfield 63, 3) := by decide +kernel
theorem dM_keep_124 : decode mM_keep.2.1 124 = .ok (.bipush 20, 2) := by decide +kernel
theorem dM_keep_126 : decode mM_keep.2.1 126 = .ok (.iload_n 1, 1) := by decide +kernel
theorem dM_keep_127 : decode mM_keep.2.1 127 = .ok (.iadd, 1) := by decide +kernel
theorem dM_keep_128 : decode mM_keep.2.1 128 = .ok (.aload_n 0, 1) := by decide +kernel
theorem dM_keep_129 : decode mM_keep.2.1 129 = .ok (.getfield 29, 3) := by decide +kernel
theorem dM_keep_132 : decode mM_keep.2.1 132 = .ok (.iload_n 1, 1) := by decide +kernel
theorem dM_keep_133 : decode mM_keep.2.1 133 = .ok (.baload, 1) := by decide +kernel
theorem dM_keep_134 : decode mM_keep.2.1 134 = .ok (.ifCond .eq 7, 3) := by decide +kernel
theorem dM_keep_137 : decode mM_keep.2.1 137 = .ok (.iconst 1, 1) := by decide +kernel
theorem dM_keep_138 : decode mM_keep.2.1 138 = .ok (.goto 4, 3) := by decide +kernel
theorem dM_keep_141 : decode mM_keep.2.1 141 = .ok (.iconst 0, 1) := by decide +kernel
theorem dM_keep_142 : decode mM_keep.2.1 142 = .ok (.iastore, 1) := by decide +kernel
theorem dM_keep_143 : decode mM_keep.2.1 143 = .ok (.iinc 1 1, 3) := by decide +kernel
theorem dM_keep_146 : decode mM_keep.2.1 146 = .ok (.goto (-31), 3) := by decide +kernel
theorem dM_keep_149 : decode mM_keep.2.1 149 = .ok (.aload_n 0, 1) := by decide +kernel
theorem dM_keep_150 : decode mM_keep.2.1 150 = .ok (.getfield 33, 3) := by decide +kernel
theorem dM_keep_153 : decode mM_keep.2.1 153 = .ok (.iconst 0, 1) := by decide +kernel
theorem dM_keep_154 : decode mM_keep.2.1 154 = .ok (.aload_n 0, 1) := by decide +kernel
theorem dM_keep_155 : decode mM_keep.2.1 155 = .ok (.getfield 66, 3) := by decide +kernel
theorem dM_keep_158 : decode mM_keep.2.1 158 = .ok (.iconst 0, 1) := by decide +kernel
theorem dM_keep_159 : decode mM_keep.2.1 159 = .ok (.bipush 30, 2) := by decide +kernel
theorem dM_keep_161 : decode mM_keep.2.1 161 = .ok (.invokestatic 209, 3) := by decide +kernel
theorem dM_keep_164 : decode mM_keep.2.1 164 = .ok (.aload_n 0, 1) := by decide +kernel
theorem dM_keep_165 : decode mM_keep.2.1 165 = .ok (.getfield 39, 3) := by decide +kernel
theorem dM_keep_168 : decode mM_keep.2.1 168 = .ok (.iconst 0, 1) := by decide +kernel
theorem dM_keep_169 : decode mM_keep.2.1 169 = .ok (.aload_n 0, 1) := by decide +kernel
theorem dM_keep_170 : decode mM_keep.2.1 170 = .ok (.getfield 66, 3) := by decide +kernel
theorem dM_keep_173 : decode mM_keep.2.1 173 = .ok (.bipush 30, 2) := by decide +kernel
theorem dM_keep_175 : decode mM_keep.2.1 175 = .ok (.bipush 30, 2) := by decide +kernel
theorem dM_keep_177 : decode mM_keep.2.1 177 = .ok (.invokestatic 209, 3) := by decide +kernel
theorem dM_keep_180 : decode mM_keep.2.1 180 = .ok (.aload_n 0, 1) := by decide +kernel
theorem dM_keep_181 : decode mM_keep.2.1 181 = .ok (.getfield 42, 3) := by decide +kernel
theorem dM_keep_184 : decode mM_keep.2.1 184 = .ok (.iconst 0, 1) := by decide +kernel
theorem dM_keep_185 : decode mM_keep.2.1 185 = .ok (.aload_n 0, 1) := by decide +kernel
theorem dM_keep_186 : decode mM_keep.2.1 186 = .ok (.getfield 66, 3) := by decide +kernel
theorem dM_keep_189 : decode mM_keep.2.1 189 = .ok (.bipush 60, 2) := by decide +kernel
theorem dM_keep_191 : decode mM_keep.2.1 191 = .ok (.bipush 30, 2) := by decide +kernel
theorem dM_keep_193 : decode mM_keep.2.1 193 = .ok (.invokestatic 209, 3) := by decide +kernel
theorem dM_keep_196 : decode mM_keep.2.1 196 = .ok (.aload_n 0, 1) := by decide +kernel
theorem dM_keep_197 : decode mM_keep.2.1 197 = .ok (.getfield 45, 3) := by decide +kernel
theorem dM_keep_200 : decode mM_keep.2.1 200 = .ok (.iconst 0, 1) := by decide +kernel
theorem dM_keep_201 : decode mM_keep.2.1 201 = .ok (.aload_n 0, 1) := by decide +kernel
theorem dM_keep_202 : decode mM_keep.2.1 202 = .ok (.getfield 66, 3) := by decide +kernel
theorem dM_keep_205 : decode mM_keep.2.1 205 = .ok (.bipush 90, 2) := by decide +kernel
theorem dM_keep_207 : decode mM_keep.2.1 207 = .ok (.bipush 30, 2) := by decide +kernel
theorem dM_keep_209 : decode mM_keep.2.1 209 = .ok (.invokestatic 209, 3) := by decide +kernel
theorem dM_keep_212 : decode mM_keep.2.1 212 = .ok (.aload_n 0, 1) := by decide +kernel
theorem dM_keep_213 : decode mM_keep.2.1 213 = .ok (.getfield 48, 3) := by decide +kernel
theorem dM_keep_216 : decode mM_keep.2.1 216 = .ok (.iconst 0, 1) := by decide +kernel
theorem dM_keep_217 : decode mM_keep.2.1 217 = .ok (.aload_n 0, 1) := by decide +kernel
theorem dM_keep_218 : decode mM_keep.2.1 218 = .ok (.getfield 66, 3) := by decide +kernel
theorem dM_keep_221 : decode mM_keep.2.1 221 = .ok (.bipush 120, 2) := by decide +kernel
theorem dM_keep_223 : decode mM_keep.2.1 223 = .ok (.bipush 30, 2) := by decide +kernel
theorem dM_keep_225 : decode mM_keep.2.1 225 = .ok (.invokestatic 209, 3) := by decide +kernel
theorem dM_keep_228 : decode mM_keep.2.1 228 = .ok (.aload_n 0, 1) := by decide +kernel
theorem dM_keep_229 : decode mM_keep.2.1 229 = .ok (.getfield 51, 3) := by decide +kernel
theorem dM_keep_232 : decode mM_keep.2.1 232 = .ok (.iconst 0, 1) := by decide +kernel
theorem dM_keep_233 : decode mM_keep.2.1 233 = .ok (.aload_n 0, 1) := by decide +kernel
theorem dM_keep_234 : decode mM_keep.2.1 234 = .ok (.getfield 66, 3) := by decide +kernel
theorem dM_keep_237 : decode mM_keep.2.1 237 = .ok (.sipush 150, 3) := by decide +kernel
theorem dM_keep_240 : decode mM_keep.2.1 240 = .ok (.bipush 30, 2) := by decide +kernel
theorem dM_keep_242 : decode mM_keep.2.1 242 = .ok (.invokestatic 209, 3) := by decide +kernel
theorem dM_keep_245 : decode mM_keep.2.1 245 = .ok (.aload_n 0, 1) := by decide +kernel
theorem dM_keep_246 : decode mM_keep.2.1 246 = .ok (.getfield 36, 3) := by decide +kernel
theorem dM_keep_249 : decode mM_keep.2.1 249 = .ok (.iconst 0, 1) := by decide +kernel
theorem dM_keep_250 : decode mM_keep.2.1 250 = .ok (.aload_n 0, 1) := by decide +kernel
theorem dM_keep_251 : decode mM_keep.2.1 251 = .ok (.getfield 69, 3) := by decide +kernel
theorem dM_keep_254 : decode mM_keep.2.1 254 = .ok (.iconst 0, 1) := by decide +kernel
theorem dM_keep_255 : decode mM_keep.2.1 255 = .ok (.sipush 240, 3) := by decide +kernel
theorem dM_keep_258 : decode mM_keep.2.1 258 = .ok (.invokestatic 209, 3) := by decide +kernel
theorem dM_keep_261 : decode mM_keep.2.1 261 = .ok (.aload_n 0, 1) := by decide +kernel
theorem dM_keep_262 : decode mM_keep.2.1 262 = .ok (.getfield 54, 3) := by decide +kernel
theorem dM_keep_265 : decode mM_keep.2.1 265 = .ok (.iconst 0, 1) := by decide +kernel
theorem dM_keep_266 : decode mM_keep.2.1 266 = .ok (.aload_n 0, 1) := by decide +kernel
theorem dM_keep_267 : decode mM_keep.2.1 267 = .ok (.getfield 72, 3) := by decide +kernel
theorem dM_keep_270 : decode mM_keep.2.1 270 = .ok (.iconst 0, 1) := by decide +kernel
theorem dM_keep_271 : decode mM_keep.2.1 271 = .ok (.bipush 6, 2) := by decide +kernel
theorem dM_keep_273 : decode mM_keep.2.1 273 = .ok (.invokestatic 209, 3) := by decide +kernel
theorem dM_keep_276 : decode mM_keep.2.1 276 = .ok (.aload_n 0, 1) := by decide +kernel
theorem dM_keep_277 : decode mM_keep.2.1 277 = .ok (.getfield 57, 3) := by decide +kernel
theorem dM_keep_280 : decode mM_keep.2.1 280 = .ok (.iconst 0, 1) := by decide +kernel
theorem dM_keep_281 : decode mM_keep.2.1 281 = .ok (.aload_n 0, 1) := by decide +kernel
theorem dM_keep_282 : decode mM_keep.2.1 282 = .ok (.getfield 72, 3) := by decide +kernel
theorem dM_keep_285 : decode mM_keep.2.1 285 = .ok (.bipush 6, 2) := by decide +kernel
theorem dM_keep_287 : decode mM_keep.2.1 287 = .ok (.bipush 6, 2) := by decide +kernel
theorem dM_keep_289 : decode mM_keep.2.1 289 = .ok (.invokestatic 209, 3) := by decide +kernel
theorem dM_keep_292 : decode mM_keep.2.1 292 = .ok (.iconst 1, 1) := by decide +kernel
theorem dM_keep_293 : decode mM_keep.2.1 293 = .ok (.ireturn, 1) := by decide +kernel
theorem dX_back_0 : decode mX_back.2.1 0 = .ok (.aload_n 0, 1) := by decide +kernel
theorem dX_back_1 : decode mX_back.2.1 1 = .ok (.getfield 37, 3) := by decide +kernel
theorem dX_back_4 : decode mX_back.2.1 4 = .ok (.ifCond .ne 6, 3) := by decide +kernel
theorem dX_back_7 : decode mX_back.2.1 7 = .ok (.bipush (-4), 2) := by decide +kernel
theorem dX_back_9 : decode mX_back.2.1 9 = .ok (.ireturn, 1) := by decide +kernel
theorem dX_back_10 : decode mX_back.2.1 10 = .ok (.aload_n 0, 1) := by decide +kernel
theorem dX_back_11 : decode mX_back.2.1 11 = .ok (.getfield 12, 3) := by decide +kernel
theorem dX_back_14 : decode mX_back.2.1 14 = .ok (.aload_n 0, 1) := by decide +kernel
theorem dX_back_15 : decode mX_back.2.1 15 = .ok (.getfield 16, 3) := by decide +kernel
theorem dX_back_18 : decode mX_back.2.1 18 = .ok (.invokevirtual 196, 3) := by decide +kernel
theorem dX_back_21 : decode mX_back.2.1 21 = .ok (.aload_n 0, 1) := by decide +kernel
theorem dX_back_22 : decode mX_back.2.1 22 = .ok (.getfield 24, 3) := by decide +kernel
theorem dX_back_25 : decode mX_back.2.1 25 = .ok (.invokevirtual 49, 3) := by decide +kernel
theorem dX_back_28 : decode mX_back.2.1 28 = .ok (.iconst 1, 1) := by decide +kernel
theorem dX_back_29 : decode mX_back.2.1 29 = .ok (.ireturn, 1) := by decide +kernel
theorem dM_back_0 : decode mM_back.2.1 0 = .ok (.aload_n 0, 1) := by decide +kernel
theorem dM_back_1 : decode mM_back.2.1 1 = .ok (.getfield 205, 3) := by decide +kernel
theorem dM_back_4 : decode mM_back.2.1 4 = .ok (.ifCond .ne 6, 3) := by decide +kernel
theorem dM_back_7 : decode mM_back.2.1 7 = .ok (.bipush (-4), 2) := by decide +kernel
theorem dM_back_9 : decode mM_back.2.1 9 = .ok (.ireturn, 1) := by decide +kernel
theorem dM_back_10 : decode mM_back.2.1 10 = .ok (.aload_n 0, 1) := by decide +kernel
theorem dM_back_11 : decode mM_back.2.1 11 = .ok (.aload_n 0, 1) := by decide +kernel
theorem dM_back_12 : decode mM_back.2.1 12 = .ok (.getfield 60, 3) := by decide +kernel
theorem dM_back_15 : decode mM_back.2.1 15 = .ok (.iconst 0, 1) := by decide +kernel
theorem dM_back_16 : decode mM_back.2.1 16 = .ok (.iaload, 1) := by decide +kernel
theorem dM_back_17 : decode mM_back.2.1 17 = .ok (.putfield 7, 3) := by decide +kernel
theorem dM_back_20 : decode mM_back.2.1 20 = .ok (.aload_n 0, 1) := by decide +kernel
theorem dM_back_21 : decode mM_back.2.1 21 = .ok (.aload_n 0, 1) := by decide +kernel
theorem dM_back_22 : decode mM_back.2.1 22 = .ok (.getfield 60, 3) := by decide +kernel
theorem dM_back_25 : decode mM_back.2.1 25 = .ok (.iconst 1, 1) := by decide +kernel
theorem dM_back_26 : decode mM_back.2.1 26 = .ok (.iaload, 1) := by decide +kernel
theorem dM_back_27 : decode mM_back.2.1 27 = .ok (.putfield 13, 3) := by decide +kernel
theorem dM_back_30 : decode mM_back.2.1 30 = .ok (.aload_n 0, 1) := by decide +kernel
theorem dM_back_31 : decode mM_back.2.1 31 = .ok (.aload_n 0, 1) := by decide +kernel
theorem dM_back_32 : decode mM_back.2.1 32 = .ok (.getfield 60, 3) := by decide +kernel
theorem dM_back_35 : decode mM_back.2.1 35 = .ok (.iconst 2, 1) := by decide +kernel
theorem dM_back_36 : decode mM_back.2.1 36 = .ok (.iaload, 1) := by decide +kernel
theorem dM_back_37 : decode mM_back.2.1 37 = .ok (.putfield 103, 3) := by decide +kernel
theorem dM_back_40 : decode mM_back.2.1 40 = .ok (.aload_n 0, 1) := by decide +kernel
theorem dM_back_41 : decode mM_back.2.1 41 = .ok (.aload_n 0, 1) := by decide +kernel
theorem dM_back_42 : decode mM_back.2.1 42 = .ok (.getfield 60, 3) := by decide +kernel
theorem dM_back_45 : decode mM_back.2.1 45 = .ok (.iconst 3, 1) := by decide +kernel
theorem dM_back_46 : decode mM_back.2.1 46 = .ok (.iaload, 1) := by decide +kernel
theorem dM_back_47 : decode mM_back.2.1 47 = .ok (.putfield 96, 3) := by decide +kernel
theorem dM_back_50 : decode mM_back.2.1 50 = .ok (.aload_n 0, 1) := by decide +kernel
theorem dM_back_51 : decode mM_back.2.1 51 = .ok (.aload_n 0, 1) := by decide +kernel
theorem dM_back_52 : decode mM_back.2.1 52 = .ok (.getfield 60, 3) := by decide +kernel
theorem dM_back_55 : decode mM_back.2.1 55 = .ok (.iconst 4, 1) := by decide +kernel
theorem dM_back_56 : decode mM_back.2.1 56 = .ok (.iaload, 1) := by decide +kernel
theorem dM_back_57 : decode mM_back.2.1 57 = .ok (.putfield 120, 3) := by decide +kernel
theorem dM_back_60 : decode mM_back.2.1 60 = .ok (.aload_n 0, 1) := by decide +kernel
theorem dM_back_61 : decode mM_back.2.1 61 = .ok (.getfield 63, 3) := by decide +kernel
theorem dM_back_64 : decode mM_back.2.1 64 = .ok (.iconst 0, 1) := by decide +kernel
theorem dM_back_65 : decode mM_back.2.1 65 = .ok (.aload_n 0, 1) := by decide +kernel
theorem dM_back_66 : decode mM_back.2.1 66 = .ok (.getfield 16, 3) := by decide +kernel
theorem dM_back_69 : decode mM_back.2.1 69 = .ok (.iconst 0, 1) := by decide +kernel
theorem dM_back_70 : decode mM_back.2.1 70 = .ok (.iconst 5, 1) := by decide +kernel
theorem dM_back_71 : decode mM_back.2.1 71 = .ok (.invokestatic 209, 3) := by decide +kernel
theorem dM_back_74 : decode mM_back.2.1 74 = .ok (.aload_n 0, 1) := by decide +kernel
theorem dM_back_75 : decode mM_back.2.1 75 = .ok (.getfield 63, 3) := by decide +kernel
theorem dM_back_78 : decode mM_back.2.1 78 = .ok (.iconst 5, 1) := by decide +kernel
theorem dM_back_79 : decode mM_back.2.1 79 = .ok (.aload_n 0, 1) := by decide +kernel
theorem dM_back_80 : decode mM_back.2.1 80 = .ok (.getfield 20, 3) := by decide +kernel
theorem dM_back_83 : decode mM_back.2.1 83 = .ok (.iconst 0, 1) := by decide +kernel
theorem dM_back_84 : decode mM_back.2.1 84 = .ok (.iconst 5, 1) := by decide +kernel
theorem dM_back_85 : decode mM_back.2.1 85 = .ok (.invokestatic 209, 3) := by decide +kernel
theorem dM_back_88 : decode mM_back.2.1 88 = .ok (.aload_n 0, 1) := by decide +kernel
theorem dM_back_89 : decode mM_back.2.1 89 = .ok (.getfield 63, 3) := by decide +kernel
theorem dM_back_92 : decode mM_back.2.1 92 = .ok (.bipush 10, 2) := by decide +kernel
theorem dM_back_94 : decode mM_back.2.1 94 = .ok (.aload_n 0, 1) := by decide +kernel
theorem dM_back_95 : decode mM_back.2.1 95 = .ok (.getfield 23, 3) := by decide +kernel
theorem dM_back_98 : decode mM_back.2.1 98 = .ok (.iconst 0, 1) := by decide +kernel
theorem dM_back_99 : decode mM_back.2.1 99 = .ok (.iconst 5, 1) := by decide +kernel
theorem dM_back_100 : decode mM_back.2.1 100 = .ok (.invokestatic 209, 3) := by decide +kernel
theorem dM_back_103 : decode mM_back.2.1 103 = .ok (.aload_n 0, 1) := by decide +kernel
theorem dM_back_104 : decode mM_back.2.1 104 = .ok (.getfield 63, 3) := by decide +kernel
theorem dM_back_107 : decode mM_back.2.1 107 = .ok (.bipush 15, 2) := by decide +kernel
theorem dM_back_109 : decode mM_back.2.1 109 = .ok (.aload_n 0, 1) := by decide +kernel
theorem dM_back_110 : decode mM_back.2.1 110 = .ok (.getfield 26, 3) := by decide +kernel
theorem dM_back_113 : decode mM_back.2.1 113 = .ok (.iconst 0, 1) := by decide +kernel
theorem dM_back_114 : decode mM_back.2.1 114 = .ok (.iconst 5, 1) := by decide +kernel
theorem dM_back_115 : decode mM_back.2.1 115 = .ok (.invokestatic 209, 3) := by decide +kernel
theorem dM_back_118 : decode mM_back.2.1 118 = .ok (.iconst 0, 1) := by decide +kernel
theorem dM_back_119 : decode mM_back.2.1 119 = .ok (.istore_n 1, 1) := by decide +kernel
theorem dM_back_120 : decode mM_back.2.1 120 = .ok (.iload_n 1, 1) := by decide +kernel
theorem dM_back_121 : decode mM_back.2.1 121 = .ok (.iconst 5, 1) := by decide +kernel
theorem dM_back_122 : decode mM_back.2.1 122 = .ok (.if_icmp .ge 33, 3) := by decide +kernel
theorem dM_back_125 : decode mM_back.2.1 125 = .ok (.aload_n 0, 1) := by decide +kernel
theorem dM_back_126 : decode mM_back.2.1 126 = .ok (.getfield 29, 3) := by decide +kernel
theorem dM_back_129 : decode mM_back.2.1 129 = .ok (.iload_n 1, 1) := by decide +kernel
theorem dM_back_130 : decode mM_back.2.1 130 = .ok (.aload_n 0, 1) := by decide +kernel
theorem dM_back_131 : decode mM_back.2.1 131 = .ok (.getfield 63, 3) := by decide +kernel
theorem dM_back_134 : decode mM_back.2.1 134 = .ok (.bipush 20, 2) := by decide +kernel
theorem dM_back_136 : decode mM_back.2.1 136 = .ok (.iload_n 1, 1) := by decide +kernel
theorem dM_back_137 : decode mM_back.2.1 137 = .ok (.iadd, 1) := by decide +kernel
theorem dM_back_138 : decode mM_back.2.1 138 = .ok (.iaload, 1) := by decide +kernel
theorem dM_back_139 : decode mM_back.2.1 139 = .ok (.iconst 1, 1) := by decide +kernel
theorem dM_back_140 : decode mM_back.2.1 140 = .ok (.if_icmp .ne 7, 3) := by decide +kernel
theorem dM_back_143 : decode mM_back.2.1 143 = .ok (.iconst 1, 1) := by decide +kernel
theorem dM_back_144 : decode mM_back.2.1 144 = .ok (.goto 4, 3) := by decide +kernel
theorem dM_back_147 : decode mM_back.2.1 147 = .ok (.iconst 0, 1) := by decide +kernel
theorem dM_back_148 : decode mM_back.2.1 148 = .ok (.bastore, 1) := by decide +kernel
theorem dM_back_149 : decode mM_back.2.1 149 = .ok (.iinc 1 1, 3) := by decide +kernel
theorem dM_back_152 : decode mM_back.2.1 152 = .ok (.goto (-32), 3) := by decide +kernel
theorem dM_back_155 : decode mM_back.2.1 155 = .ok (.aload_n 0, 1) := by decide +kernel
theorem dM_back_156 : decode mM_back.2.1 156 = .ok (.getfield 66, 3) := by decide +kernel
theorem dM_back_159 : decode mM_back.2.1 159 = .ok (.iconst 0, 1) := by decide +kernel
theorem dM_back_160 : decode mM_back.2.1 160 = .ok (.aload_n 0, 1) := by decide +kernel
theorem dM_back_161 : decode mM_back.2.1 161 = .ok (.getfield 33, 3) := by decide +kernel
theorem dM_back_164 : decode mM_back.2.1 164 = .ok (.iconst 0, 1) := by decide +kernel
theorem dM_back_165 : decode mM_back.2.1 165 = .ok (.bipush 30, 2) := by decide +kernel
theorem dM_back_167 : decode mM_back.2.1 167 = .ok (.invokestatic 209, 3) := by decide +kernel
theorem dM_back_170 : decode mM_back.2.1 170 = .ok (.aload_n 0, 1) := by decide +kernel
theorem dM_back_171 : decode mM_back.2.1 171 = .ok (.getfield 66, 3) := by decide +kernel
theorem dM_back_174 : decode mM_back.2.1 174 = .ok (.bipush 30, 2) := by decide +kernel
theorem dM_back_176 : decode mM_back.2.1 176 = .ok (.aload_n 0, 1) := by decide +kernel
theorem dM_back_177 : decode mM_back.2.1 177 = .ok (.getfield 39, 3) := by decide +kernel
theorem dM_back_180 : decode mM_back.2.1 180 = .ok (.iconst 0, 1) := by decide +kernel
theorem dM_back_181 : decode mM_back.2.1 181 = .ok (.bipush 30, 2) := by decide +kernel
theorem dM_back_183 : decode mM_back.2.1 183 = .ok (.invokestatic 209, 3) := by decide +kernel
theorem dM_back_186 : decode mM_back.2.1 186 = .ok (.aload_n 0, 1) := by decide +kernel
theorem dM_back_187 : decode mM_back.2.1 187 = .ok (.getfield 66, 3) := by decide +kernel
theorem dM_back_190 : decode mM_back.2.1 190 = .ok (.bipush 60, 2) := by decide +kernel
theorem dM_back_192 : decode mM_back.2.1 192 = .ok (.aload_n 0, 1) := by decide +kernel
theorem dM_back_193 : decode mM_back.2.1 193 = .ok (.getfield 42, 3) := by decide +kernel
theorem dM_back_196 : decode mM_back.2.1 196 = .ok (.iconst 0, 1) := by decide +kernel
theorem dM_back_197 : decode mM_back.2.1 197 = .ok (.bipush 30, 2) := by decide +kernel
theorem dM_back_199 : decode mM_back.2.1 199 = .ok (.invokestatic 209, 3) := by decide +kernel
theorem dM_back_202 : decode mM_back.2.1 202 = .ok (.aload_n 0, 1) := by decide +kernel
theorem dM_back_203 : decode mM_back.2.1 203 = .ok (.getfield 66, 3) := by decide +kernel
theorem dM_back_206 : decode mM_back.2.1 206 = .ok (.bipush 90, 2) := by decide +kernel
theorem dM_back_208 : decode mM_back.2.1 208 = .ok (.aload_n 0, 1) := by decide +kernel
theorem dM_back_209 : decode mM_back.2.1 209 = .ok (.getfield 45, 3) := by decide +kernel
theorem dM_back_212 : decode mM_back.2.1 212 = .ok (.iconst 0, 1) := by decide +kernel
theorem dM_back_213 : decode mM_back.2.1 213 = .ok (.bipush 30, 2) := by decide +kernel
theorem dM_back_215 : decode mM_back.2.1 215 = .ok (.invokestatic 209, 3) := by decide +kernel
theorem dM_back_218 : decode mM_back.2.1 218 = .ok (.aload_n 0, 1) := by decide +kernel
theorem dM_back_219 : decode mM_back.2.1 219 = .ok (.getfield 66, 3) := by decide +kernel
theorem dM_back_222 : decode mM_back.2.1 222 = .ok (.bipush 120, 2) := by decide +kernel
theorem dM_back_224 : decode mM_back.2.1 224 = .ok (.aload_n 0, 1) := by decide +kernel
theorem dM_back_225 : decode mM_back.2.1 225 = .ok (.getfield 48, 3) := by decide +kernel
theorem dM_back_228 : decode mM_back.2.1 228 = .ok (.iconst 0, 1) := by decide +kernel
theorem dM_back_229 : decode mM_back.2.1 229 = .ok (.bipush 30, 2) := by decide +kernel
theorem dM_back_231 : decode mM_back.2.1 231 = .ok (.invokestatic 209, 3) := by decide +kernel
theorem dM_back_234 : decode mM_back.2.1 234 = .ok (.aload_n 0, 1) := by decide +kernel
theorem dM_back_235 : decode mM_back.2.1 235 = .ok (.getfield 66, 3) := by decide +kernel
theorem dM_back_238 : decode mM_back.2.1 238 = .ok (.sipush 150, 3) := by decide +kernel
theorem dM_back_241 : decode mM_back.2.1 241 = .ok (.aload_n 0, 1) := by decide +kernel
theorem dM_back_242 : decode mM_back.2.1 242 = .ok (.getfield 51, 3) := by decide +kernel
theorem dM_back_245 : decode mM_back.2.1 245 = .ok (.iconst 0, 1) := by decide +kernel
theorem dM_back_246 : decode mM_back.2.1 246 = .ok (.bipush 30, 2) := by decide +kernel
theorem dM_back_248 : decode mM_back.2.1 248 = .ok (.invokestatic 209, 3) := by decide +kernel
theorem dM_back_251 : decode mM_back.2.1 251 = .ok (.aload_n 0, 1) := by decide +kernel
theorem dM_back_252 : decode mM_back.2.1 252 = .ok (.getfield 69, 3) := by decide +kernel
theorem dM_back_255 : decode mM_back.2.1 255 = .ok (.iconst 0, 1) := by decide +kernel
theorem dM_back_256 : decode mM_back.2.1 256 = .ok (.aload_n 0, 1) := by decide +kernel
theorem dM_back_257 : decode mM_back.2.1 257 = .ok (.getfield 36, 3) := by decide +kernel
theorem dM_back_260 : decode mM_back.2.1 260 = .ok (.iconst 0, 1) := by decide +kernel
theorem dM_back_261 : decode mM_back.2.1 261 = .ok (.sipush 240, 3) := by decide +kernel
theorem dM_back_264 : decode mM_back.2.1 264 = .ok (.invokestatic 209, 3) := by decide +kernel
theorem dM_back_267 : decode mM_back.2.1 267 = .ok (.aload_n 0, 1) := by decide +kernel
theorem dM_back_268 : decode mM_back.2.1 268 = .ok (.getfield 72, 3) := by decide +kernel
theorem dM_back_271 : decode mM_back.2.1 271 = .ok (.iconst 0, 1) := by decide +kernel
theorem dM_back_272 : decode mM_back.2.1 272 = .ok (.aload_n 0, 1) := by decide +kernel
theorem dM_back_273 : decode mM_back.2.1 273 = .ok (.getfield 54, 3) := by decide +kernel
theorem dM_back_276 : decode mM_back.2.1 276 = .ok (.iconst 0, 1) := by decide +kernel
theorem dM_back_277 : decode mM_back.2.1 277 = .ok (.bipush 6, 2) := by decide +kernel
theorem dM_back_279 : decode mM_back.2.1 279 = .ok (.invokestatic 209, 3) := by decide +kernel
theorem dM_back_282 : decode mM_back.2.1 282 = .ok (.aload_n 0, 1) := by decide +kernel
theorem dM_back_283 : decode mM_back.2.1 283 = .ok (.getfield 72, 3) := by decide +kernel
theorem dM_back_286 : decode mM_back.2.1 286 = .ok (.bipush 6, 2) := by decide +kernel
theorem dM_back_288 : decode mM_back.2.1 288 = .ok (.aload_n 0, 1) := by decide +kernel
theorem dM_back_289 : decode mM_back.2.1 289 = .ok (.getfield 57, 3) := by decide +kernel
theorem dM_back_292 : decode mM_back.2.1 292 = .ok (.iconst 0, 1) := by decide +kernel
theorem dM_back_293 : decode mM_back.2.1 293 = .ok (.bipush 6, 2) := by decide +kernel
theorem dM_back_295 : decode mM_back.2.1 295 = .ok (.invokestatic 209, 3) := by decide +kernel
theorem dM_back_298 : decode mM_back.2.1 298 = .ok (.iconst 1, 1) := by decide +kernel
theorem dM_back_299 : decode mM_back.2.1 299 = .ok (.ireturn, 1) := by decide +kernel
