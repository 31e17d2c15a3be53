/-! what each instruction is, by a program of mine -/
theorem dM_of_95 : decode mM_of.2.1 95 = .ok (.getfield 42, 3) := by decide +kernel
theorem dM_of_98 : decode mM_of.2.1 98 = .ok (.iload_n 1, 1) := by decide +kernel
theorem dM_of_99 : decode mM_of.2.1 99 = .ok (.iaload, 1) := by decide +kernel
theorem dM_of_100 : decode mM_of.2.1 100 = .ok (.ireturn, 1) := by decide +kernel
theorem dM_of_101 : decode mM_of.2.1 101 = .ok (.aload_n 0, 1) := by decide +kernel
theorem dM_of_102 : decode mM_of.2.1 102 = .ok (.getfield 45, 3) := by decide +kernel
theorem dM_of_105 : decode mM_of.2.1 105 = .ok (.iload_n 1, 1) := by decide +kernel
theorem dM_of_106 : decode mM_of.2.1 106 = .ok (.iaload, 1) := by decide +kernel
theorem dM_of_107 : decode mM_of.2.1 107 = .ok (.ireturn, 1) := by decide +kernel
theorem dM_of_108 : decode mM_of.2.1 108 = .ok (.aload_n 0, 1) := by decide +kernel
theorem dM_of_109 : decode mM_of.2.1 109 = .ok (.getfield 48, 3) := by decide +kernel
theorem dM_of_112 : decode mM_of.2.1 112 = .ok (.iload_n 1, 1) := by decide +kernel
theorem dM_of_113 : decode mM_of.2.1 113 = .ok (.iaload, 1) := by decide +kernel
theorem dM_of_114 : decode mM_of.2.1 114 = .ok (.ireturn, 1) := by decide +kernel
theorem dM_of_115 : decode mM_of.2.1 115 = .ok (.aload_n 0, 1) := by decide +kernel
theorem dM_of_116 : decode mM_of.2.1 116 = .ok (.getfield 51, 3) := by decide +kernel
theorem dM_of_119 : decode mM_of.2.1 119 = .ok (.iload_n 1, 1) := by decide +kernel
theorem dM_of_120 : decode mM_of.2.1 120 = .ok (.iaload, 1) := by decide +kernel
theorem dM_of_121 : decode mM_of.2.1 121 = .ok (.ireturn, 1) := by decide +kernel
theorem dM_of_122 : decode mM_of.2.1 122 = .ok (.aload_n 0, 1) := by decide +kernel
theorem dM_of_123 : decode mM_of.2.1 123 = .ok (.getfield 36, 3) := by decide +kernel
theorem dM_of_126 : decode mM_of.2.1 126 = .ok (.bipush 8, 2) := by decide +kernel
theorem dM_of_128 : decode mM_of.2.1 128 = .ok (.iload_n 1, 1) := by decide +kernel
theorem dM_of_129 : decode mM_of.2.1 129 = .ok (.imul, 1) := by decide +kernel
theorem dM_of_130 : decode mM_of.2.1 130 = .ok (.iload_n 2, 1) := by decide +kernel
theorem dM_of_131 : decode mM_of.2.1 131 = .ok (.iadd, 1) := by decide +kernel
theorem dM_of_132 : decode mM_of.2.1 132 = .ok (.bipush 8, 2) := by decide +kernel
theorem dM_of_134 : decode mM_of.2.1 134 = .ok (.isub, 1) := by decide +kernel
theorem dM_of_135 : decode mM_of.2.1 135 = .ok (.iaload, 1) := by decide +kernel
theorem dM_of_136 : decode mM_of.2.1 136 = .ok (.ireturn, 1) := by decide +kernel
theorem dT_isBarred_0 : decode mT_isBarred.2.1 0 = .ok (.iconst 0, 1) := by decide +kernel
theorem dT_isBarred_1 : decode mT_isBarred.2.1 1 = .ok (.istore_n 2, 1) := by decide +kernel
theorem dT_isBarred_2 : decode mT_isBarred.2.1 2 = .ok (.iload_n 2, 1) := by decide +kernel
theorem dT_isBarred_3 : decode mT_isBarred.2.1 3 = .ok (.bipush 8, 2) := by decide +kernel
theorem dT_isBarred_5 : decode mT_isBarred.2.1 5 = .ok (.if_icmp .ge 31, 3) := by decide +kernel
theorem dT_isBarred_8 : decode mT_isBarred.2.1 8 = .ok (.iload_n 1, 1) := by decide +kernel
theorem dT_isBarred_9 : decode mT_isBarred.2.1 9 = .ok (.iload_n 2, 1) := by decide +kernel
theorem dT_isBarred_10 : decode mT_isBarred.2.1 10 = .ok (.ishr, 1) := by decide +kernel
theorem dT_isBarred_11 : decode mT_isBarred.2.1 11 = .ok (.iconst 1, 1) := by decide +kernel
theorem dT_isBarred_12 : decode mT_isBarred.2.1 12 = .ok (.iand, 1) := by decide +kernel
theorem dT_isBarred_13 : decode mT_isBarred.2.1 13 = .ok (.iconst 1, 1) := by decide +kernel
theorem dT_isBarred_14 : decode mT_isBarred.2.1 14 = .ok (.if_icmp .ne 16, 3) := by decide +kernel
theorem dT_isBarred_17 : decode mT_isBarred.2.1 17 = .ok (.iload_n 1, 1) := by decide +kernel
theorem dT_isBarred_18 : decode mT_isBarred.2.1 18 = .ok (.aload_n 0, 1) := by decide +kernel
theorem dT_isBarred_19 : decode mT_isBarred.2.1 19 = .ok (.getfield 34, 3) := by decide +kernel
theorem dT_isBarred_22 : decode mT_isBarred.2.1 22 = .ok (.iload_n 2, 1) := by decide +kernel
theorem dT_isBarred_23 : decode mT_isBarred.2.1 23 = .ok (.iaload, 1) := by decide +kernel
theorem dT_isBarred_24 : decode mT_isBarred.2.1 24 = .ok (.iand, 1) := by decide +kernel
theorem dT_isBarred_25 : decode mT_isBarred.2.1 25 = .ok (.ifCond .eq 5, 3) := by decide +kernel
theorem dT_isBarred_28 : decode mT_isBarred.2.1 28 = .ok (.iconst 1, 1) := by decide +kernel
theorem dT_isBarred_29 : decode mT_isBarred.2.1 29 = .ok (.ireturn, 1) := by decide +kernel
theorem dT_isBarred_30 : decode mT_isBarred.2.1 30 = .ok (.iinc 2 1, 3) := by decide +kernel
theorem dT_isBarred_33 : decode mT_isBarred.2.1 33 = .ok (.goto (-31), 3) := by decide +kernel
theorem dT_isBarred_36 : decode mT_isBarred.2.1 36 = .ok (.iconst 0, 1) := by decide +kernel
theorem dT_isBarred_37 : decode mT_isBarred.2.1 37 = .ok (.ireturn, 1) := by decide +kernel
theorem dT_isForged_0 : decode mT_isForged.2.1 0 = .ok (.aload_n 0, 1) := by decide +kernel
theorem dT_isForged_1 : decode mT_isForged.2.1 1 = .ok (.iload_n 1, 1) := by decide +kernel
theorem dT_isForged_2 : decode mT_isForged.2.1 2 = .ok (.iconst 4, 1) := by decide +kernel
theorem dT_isForged_3 : decode mT_isForged.2.1 3 = .ok (.invokevirtual 55, 3) := by decide +kernel
theorem dT_isForged_6 : decode mT_isForged.2.1 6 = .ok (.istore_n 2, 1) := by decide +kernel
theorem dT_isForged_7 : decode mT_isForged.2.1 7 = .ok (.aload_n 0, 1) := by decide +kernel
theorem dT_isForged_8 : decode mT_isForged.2.1 8 = .ok (.iload_n 1, 1) := by decide +kernel
theorem dT_isForged_9 : decode mT_isForged.2.1 9 = .ok (.iconst 3, 1) := by decide +kernel
theorem dT_isForged_10 : decode mT_isForged.2.1 10 = .ok (.invokevirtual 55, 3) := by decide +kernel
theorem dT_isForged_13 : decode mT_isForged.2.1 13 = .ok (.istore_n 3, 1) := by decide +kernel
theorem dT_isForged_14 : decode mT_isForged.2.1 14 = .ok (.iload_n 3, 1) := by decide +kernel
theorem dT_isForged_15 : decode mT_isForged.2.1 15 = .ok (.iload_n 2, 1) := by decide +kernel
theorem dT_isForged_16 : decode mT_isForged.2.1 16 = .ok (.if_icmp .ge 25, 3) := by decide +kernel
theorem dT_isForged_19 : decode mT_isForged.2.1 19 = .ok (.aload_n 0, 1) := by decide +kernel
theorem dT_isForged_20 : decode mT_isForged.2.1 20 = .ok (.aload_n 0, 1) := by decide +kernel
theorem dT_isForged_21 : decode mT_isForged.2.1 21 = .ok (.iload_n 3, 1) := by decide +kernel
theorem dT_isForged_22 : decode mT_isForged.2.1 22 = .ok (.bipush 8, 2) := by decide +kernel
theorem dT_isForged_24 : decode mT_isForged.2.1 24 = .ok (.invokevirtual 69, 3) := by decide +kernel
theorem dT_isForged_27 : decode mT_isForged.2.1 27 = .ok (.invokevirtual 81, 3) := by decide +kernel
theorem dT_isForged_30 : decode mT_isForged.2.1 30 = .ok (.ifCond .eq 5, 3) := by decide +kernel
theorem dT_isForged_33 : decode mT_isForged.2.1 33 = .ok (.iconst 1, 1) := by decide +kernel
theorem dT_isForged_34 : decode mT_isForged.2.1 34 = .ok (.ireturn, 1) := by decide +kernel
theorem dT_isForged_35 : decode mT_isForged.2.1 35 = .ok (.iinc 3 1, 3) := by decide +kernel
theorem dT_isForged_38 : decode mT_isForged.2.1 38 = .ok (.goto (-24), 3) := by decide +kernel
theorem dT_isForged_41 : decode mT_isForged.2.1 41 = .ok (.iconst 0, 1) := by decide +kernel
theorem dT_isForged_42 : decode mT_isForged.2.1 42 = .ok (.ireturn, 1) := by decide +kernel
theorem dT_takesPart_0 : decode mT_takesPart.2.1 0 = .ok (.aload_n 0, 1) := by decide +kernel
theorem dT_takesPart_1 : decode mT_takesPart.2.1 1 = .ok (.iload_n 1, 1) := by decide +kernel
theorem dT_takesPart_2 : decode mT_takesPart.2.1 2 = .ok (.invokevirtual 85, 3) := by decide +kernel
theorem dT_takesPart_5 : decode mT_takesPart.2.1 5 = .ok (.ifCond .ne 15, 3) := by decide +kernel
theorem dT_takesPart_8 : decode mT_takesPart.2.1 8 = .ok (.aload_n 0, 1) := by decide +kernel
theorem dT_takesPart_9 : decode mT_takesPart.2.1 9 = .ok (.iload_n 1, 1) := by decide +kernel
theorem dT_takesPart_10 : decode mT_takesPart.2.1 10 = .ok (.invokevirtual 88, 3) := by decide +kernel
theorem dT_takesPart_13 : decode mT_takesPart.2.1 13 = .ok (.ifCond .ne 7, 3) := by decide +kernel
theorem dT_takesPart_16 : decode mT_takesPart.2.1 16 = .ok (.iconst 1, 1) := by decide +kernel
theorem dT_takesPart_17 : decode mT_takesPart.2.1 17 = .ok (.goto 4, 3) := by decide +kernel
theorem dT_takesPart_20 : decode mT_takesPart.2.1 20 = .ok (.iconst 0, 1) := by decide +kernel
theorem dT_takesPart_21 : decode mT_takesPart.2.1 21 = .ok (.ireturn, 1) := by decide +kernel
theorem dX_told_0 : decode mX_told.2.1 0 = .ok (.aload_n 0, 1) := by decide +kernel
theorem dX_told_1 : decode mX_told.2.1 1 = .ok (.getfield 12, 3) := by decide +kernel
theorem dX_told_4 : decode mX_told.2.1 4 = .ok (.iload_n 1, 1) := by decide +kernel
theorem dX_told_5 : decode mX_told.2.1 5 = .ok (.invokevirtual 94, 3) := by decide +kernel
theorem dX_told_8 : decode mX_told.2.1 8 = .ok (.ifCond .eq 12, 3) := by decide +kernel
theorem dX_told_11 : decode mX_told.2.1 11 = .ok (.iload_n 2, 1) := by decide +kernel
theorem dX_told_12 : decode mX_told.2.1 12 = .ok (.iconst 0, 1) := by decide +kernel
theorem dX_told_13 : decode mX_told.2.1 13 = .ok (.iconst 5, 1) := by decide +kernel
theorem dX_told_14 : decode mX_told.2.1 14 = .ok (.invokestatic 41, 3) := by decide +kernel
theorem dX_told_17 : decode mX_told.2.1 17 = .ok (.ifCond .ne 5, 3) := by decide +kernel
theorem dX_told_20 : decode mX_told.2.1 20 = .ok (.iconst (-1), 1) := by decide +kernel
theorem dX_told_21 : decode mX_told.2.1 21 = .ok (.ireturn, 1) := by decide +kernel
theorem dX_told_22 : decode mX_told.2.1 22 = .ok (.iload_n 2, 1) := by decide +kernel
theorem dX_told_23 : decode mX_told.2.1 23 = .ok (.iconst 4, 1) := by decide +kernel
theorem dX_told_24 : decode mX_told.2.1 24 = .ok (.if_icmp .ne 20, 3) := by decide +kernel
theorem dX_told_27 : decode mX_told.2.1 27 = .ok (.aload_n 0, 1) := by decide +kernel
theorem dX_told_28 : decode mX_told.2.1 28 = .ok (.getfield 12, 3) := by decide +kernel
theorem dX_told_31 : decode mX_told.2.1 31 = .ok (.iload_n 1, 1) := by decide +kernel
theorem dX_told_32 : decode mX_told.2.1 32 = .ok (.invokevirtual 117, 3) := by decide +kernel
theorem dX_told_35 : decode mX_told.2.1 35 = .ok (.ifCond .eq 7, 3) := by decide +kernel
theorem dX_told_38 : decode mX_told.2.1 38 = .ok (.iconst 1, 1) := by decide +kernel
theorem dX_told_39 : decode mX_told.2.1 39 = .ok (.goto 4, 3) := by decide +kernel
theorem dX_told_42 : decode mX_told.2.1 42 = .ok (.iconst 0, 1) := by decide +kernel
theorem dX_told_43 : decode mX_told.2.1 43 = .ok (.ireturn, 1) := by decide +kernel
theorem dX_told_44 : decode mX_told.2.1 44 = .ok (.iload_n 2, 1) := by decide +kernel
theorem dX_told_45 : decode mX_told.2.1 45 = .ok (.iconst 5, 1) := by decide +kernel
theorem dX_told_46 : decode mX_told.2.1 46 = .ok (.if_icmp .ne 20, 3) := by decide +kernel
theorem dX_told_49 : decode mX_told.2.1 49 = .ok (.aload_n 0, 1) := by decide +kernel
theorem dX_told_50 : decode mX_told.2.1 50 = .ok (.getfield 12, 3) := by decide +kernel
theorem dX_told_53 : decode mX_told.2.1 53 = .ok (.iload_n 1, 1) := by decide +kernel
theorem dX_told_54 : decode mX_told.2.1 54 = .ok (.invokevirtual 120, 3) := by decide +kernel
theorem dX_told_57 : decode mX_told.2.1 57 = .ok (.ifCond .eq 7, 3) := by decide +kernel
theorem dX_told_60 : decode mX_told.2.1 60 = .ok (.iconst 1, 1) := by decide +kernel
theorem dX_told_61 : decode mX_told.2.1 61 = .ok (.goto 4, 3) := by decide +kernel
theorem dX_told_64 : decode mX_told.2.1 64 = .ok (.iconst 0, 1) := by decide +kernel
theorem dX_told_65 : decode mX_told.2.1 65 = .ok (.ireturn, 1) := by decide +kernel
theorem dX_told_66 : decode mX_told.2.1 66 = .ok (.aload_n 0, 1) := by decide +kernel
theorem dX_told_67 : decode mX_told.2.1 67 = .ok (.getfield 12, 3) := by decide +kernel
theorem dX_told_70 : decode mX_told.2.1 70 = .ok (.iload_n 1, 1) := by decide +kernel
theorem dX_told_71 : decode mX_told.2.1 71 = .ok (.iload_n 2, 1) := by decide +kernel
theorem dX_told_72 : decode mX_told.2.1 72 = .ok (.invokevirtual 123, 3) := by decide +kernel
theorem dX_told_75 : decode mX_told.2.1 75 = .ok (.ireturn, 1) := by decide +kernel
theorem dM_sizeOf_0 : decode mM_sizeOf.2.1 0 = .ok (.aload_n 0, 1) := by decide +kernel
theorem dM_sizeOf_1 : decode mM_sizeOf.2.1 1 = .ok (.getfield 16, 3) := by decide +kernel
theorem dM_sizeOf_4 : decode mM_sizeOf.2.1 4 = .ok (.iload_n 1, 1) := by decide +kernel
theorem dM_sizeOf_5 : decode mM_sizeOf.2.1 5 = .ok (.iaload, 1) := by decide +kernel
theorem dM_sizeOf_6 : decode mM_sizeOf.2.1 6 = .ok (.aload_n 0, 1) := by decide +kernel
theorem dM_sizeOf_7 : decode mM_sizeOf.2.1 7 = .ok (.getfield 20, 3) := by decide +kernel
theorem dM_sizeOf_10 : decode mM_sizeOf.2.1 10 = .ok (.iload_n 1, 1) := by decide +kernel
theorem dM_sizeOf_11 : decode mM_sizeOf.2.1 11 = .ok (.iaload, 1) := by decide +kernel
theorem dM_sizeOf_12 : decode mM_sizeOf.2.1 12 = .ok (.imul, 1) := by decide +kernel
theorem dM_sizeOf_13 : decode mM_sizeOf.2.1 13 = .ok (.ireturn, 1) := by decide +kernel
theorem dM_isForged_0 : decode mM_isForged.2.1 0 = .ok (.iconst 0, 1) := by decide +kernel
theorem dM_isForged_1 : decode mM_isForged.2.1 1 = .ok (.istore_n 2, 1) := by decide +kernel
theorem dM_isForged_2 : decode mM_isForged.2.1 2 = .ok (.aload_n 0, 1) := by decide +kernel
theorem dM_isForged_3 : decode mM_isForged.2.1 3 = .ok (.getfield 26, 3) := by decide +kernel
theorem dM_isForged_6 : decode mM_isForged.2.1 6 = .ok (.iload_n 1, 1) := by decide +kernel
theorem dM_isForged_7 : decode mM_isForged.2.1 7 = .ok (.iaload, 1) := by decide +kernel
theorem dM_isForged_8 : decode mM_isForged.2.1 8 = .ok (.istore_n 3, 1) := by decide +kernel
theorem dM_isForged_9 : decode mM_isForged.2.1 9 = .ok (.iload_n 3, 1) := by decide +kernel
theorem dM_isForged_10 : decode mM_isForged.2.1 10 = .ok (.aload_n 0, 1) := by decide +kernel
theorem dM_isForged_11 : decode mM_isForged.2.1 11 = .ok (.getfield 26, 3) := by decide +kernel
theorem dM_isForged_14 : decode mM_isForged.2.1 14 = .ok (.iload_n 1, 1) := by decide +kernel
theorem dM_isForged_15 : decode mM_isForged.2.1 15 = .ok (.iaload, 1) := by decide +kernel
theorem dM_isForged_16 : decode mM_isForged.2.1 16 = .ok (.aload_n 0, 1) := by decide +kernel
theorem dM_isForged_17 : decode mM_isForged.2.1 17 = .ok (.iload_n 1, 1) := by decide +kernel
theorem dM_isForged_18 : decode mM_isForged.2.1 18 = .ok (.invokevirtual 130, 3) := by decide +kernel
theorem dM_isForged_21 : decode mM_isForged.2.1 21 = .ok (.iadd, 1) := by decide +kernel
theorem dM_isForged_22 : decode mM_isForged.2.1 22 = .ok (.if_icmp .ge 79, 3) := by decide +kernel
theorem dM_isForged_25 : decode mM_isForged.2.1 25 = .ok (.iconst 0, 1) := by decide +kernel
theorem dM_isForged_26 : decode mM_isForged.2.1 26 = .ok (.istore 4, 2) := by decide +kernel
theorem dM_isForged_28 : decode mM_isForged.2.1 28 = .ok (.iload 4, 2) := by decide +kernel
theorem dM_isForged_30 : decode mM_isForged.2.1 30 = .ok (.aload_n 0, 1) := by decide +kernel
theorem dM_isForged_31 : decode mM_isForged.2.1 31 = .ok (.getfield 120, 3) := by decide +kernel
theorem dM_isForged_34 : decode mM_isForged.2.1 34 = .ok (.if_icmp .ge 61, 3) := by decide +kernel
theorem dM_isForged_37 : decode mM_isForged.2.1 37 = .ok (.iload_n 2, 1) := by decide +kernel
theorem dM_isForged_38 : decode mM_isForged.2.1 38 = .ok (.ifCond .ne 45, 3) := by decide +kernel
theorem dM_isForged_41 : decode mM_isForged.2.1 41 = .ok (.aload_n 0, 1) := by decide +kernel
theorem dM_isForged_42 : decode mM_isForged.2.1 42 = .ok (.getfield 36, 3) := by decide +kernel
theorem dM_isForged_45 : decode mM_isForged.2.1 45 = .ok (.bipush 8, 2) := by decide +kernel
theorem dM_isForged_47 : decode mM_isForged.2.1 47 = .ok (.iload_n 3, 1) := by decide +kernel
theorem dM_isForged_48 : decode mM_isForged.2.1 48 = .ok (.imul, 1) := by decide +kernel
theorem dM_isForged_49 : decode mM_isForged.2.1 49 = .ok (.aload_n 0, 1) := by decide +kernel
theorem dM_isForged_50 : decode mM_isForged.2.1 50 = .ok (.getfield 54, 3) := by decide +kernel
theorem dM_isForged_53 : decode mM_isForged.2.1 53 = .ok (.iload 4, 2) := by decide +kernel
theorem dM_isForged_55 : decode mM_isForged.2.1 55 = .ok (.iaload, 1) := by decide +kernel
theorem dM_isForged_56 : decode mM_isForged.2.1 56 = .ok (.iadd, 1) := by decide +kernel
theorem dM_isForged_57 : decode mM_isForged.2.1 57 = .ok (.iaload, 1) := by decide +kernel
theorem dM_isForged_58 : decode mM_isForged.2.1 58 = .ok (.iconst 1, 1) := by decide +kernel
theorem dM_isForged_59 : decode mM_isForged.2.1 59 = .ok (.if_icmp .ne 28, 3) := by decide +kernel
theorem dM_isForged_62 : decode mM_isForged.2.1 62 = .ok (.aload_n 0, 1) := by decide +kernel
theorem dM_isForged_63 : decode mM_isForged.2.1 63 = .ok (.getfield 36, 3) := by decide +kernel
theorem dM_isForged_66 : decode mM_isForged.2.1 66 = .ok (.bipush 8, 2) := by decide +kernel
theorem dM_isForged_68 : decode mM_isForged.2.1 68 = .ok (.iload_n 3, 1) := by decide +kernel
theorem dM_isForged_69 : decode mM_isForged.2.1 69 = .ok (.imul, 1) := by decide +kernel
theorem dM_isForged_70 : decode mM_isForged.2.1 70 = .ok (.aload_n 0, 1) := by decide +kernel
theorem dM_isForged_71 : decode mM_isForged.2.1 71 = .ok (.getfield 57, 3) := by decide +kernel
theorem dM_isForged_74 : decode mM_isForged.2.1 74 = .ok (.iload 4, 2) := by decide +kernel
theorem dM_isForged_76 : decode mM_isForged.2.1 76 = .ok (.iaload, 1) := by decide +kernel
theorem dM_isForged_77 : decode mM_isForged.2.1 77 = .ok (.iadd, 1) := by decide +kernel
theorem dM_isForged_78 : decode mM_isForged.2.1 78 = .ok (.iaload, 1) := by decide +kernel
theorem dM_isForged_79 : decode mM_isForged.2.1 79 = .ok (.iconst 1, 1) := by decide +kernel
theorem dM_isForged_80 : decode mM_isForged.2.1 80 = .ok (.if_icmp .ne 7, 3) := by decide +kernel
theorem dM_isForged_83 : decode mM_isForged.2.1 83 = .ok (.iconst 1, 1) := by decide +kernel
theorem dM_isForged_84 : decode mM_isForged.2.1 84 = .ok (.goto 4, 3) := by decide +kernel
theorem dM_isForged_87 : decode mM_isForged.2.1 87 = .ok (.iconst 0, 1) := by decide +kernel
theorem dM_isForged_88 : decode mM_isForged.2.1 88 = .ok (.istore_n 2, 1) := by decide +kernel
theorem dM_isForged_89 : decode mM_isForged.2.1 89 = .ok (.iinc 4 1, 3) := by decide +kernel
theorem dM_isForged_92 : decode mM_isForged.2.1 92 = .ok (.goto (-64), 3) := by decide +kernel
theorem dM_isForged_95 : decode mM_isForged.2.1 95 = .ok (.iinc 3 1, 3) := by decide +kernel
theorem dM_isForged_98 : decode mM_isForged.2.1 98 = .ok (.goto (-89), 3) := by decide +kernel
theorem dM_isForged_101 : decode mM_isForged.2.1 101 = .ok (.iload_n 2, 1) := by decide +kernel
theorem dM_isForged_102 : decode mM_isForged.2.1 102 = .ok (.ireturn, 1) := by decide +kernel
theorem dM_takesPart_0 : decode mM_takesPart.2.1 0 = .ok (.aload_n 0, 1) := by decide +kernel
theorem dM_takesPart_1 : decode mM_takesPart.2.1 1 = .ok (.getfield 29, 3) := by decide +kernel
theorem dM_takesPart_4 : decode mM_takesPart.2.1 4 = .ok (.iload_n 1, 1) := by decide +kernel
theorem dM_takesPart_5 : decode mM_takesPart.2.1 5 = .ok (.baload, 1) := by decide +kernel
theorem dM_takesPart_6 : decode mM_takesPart.2.1 6 = .ok (.ifCond .ne 15, 3) := by decide +kernel
theorem dM_takesPart_9 : decode mM_takesPart.2.1 9 = .ok (.aload_n 0, 1) := by decide +kernel
theorem dM_takesPart_10 : decode mM_takesPart.2.1 10 = .ok (.iload_n 1, 1) := by decide +kernel
theorem dM_takesPart_11 : decode mM_takesPart.2.1 11 = .ok (.invokevirtual 133, 3) := by decide +kernel
theorem dM_takesPart_14 : decode mM_takesPart.2.1 14 = .ok (.ifCond .ne 7, 3) := by decide +kernel
theorem dM_takesPart_17 : decode mM_takesPart.2.1 17 = .ok (.iconst 1, 1) := by decide +kernel
theorem dM_takesPart_18 : decode mM_takesPart.2.1 18 = .ok (.goto 4, 3) := by decide +kernel
theorem dM_takesPart_21 : decode mM_takesPart.2.1 21 = .ok (.iconst 0, 1) := by decide +kernel
theorem dM_takesPart_22 : decode mM_takesPart.2.1 22 = .ok (.ireturn, 1) := by decide +kernel
theorem dM_told_0 : decode mM_told.2.1 0 = .ok (.aload_n 0, 1) := by decide +kernel
theorem dM_told_1 : decode mM_told.2.1 1 = .ok (.iload_n 1, 1) := by decide +kernel
theorem dM_told_2 : decode mM_told.2.1 2 = .ok (.invokevirtual 117, 3) := by decide +kernel
theorem dM_told_5 : decode mM_told.2.1 5 = .ok (.ifCond .eq 12, 3) := by decide +kernel
theorem dM_told_8 : decode mM_told.2.1 8 = .ok (.iload_n 2, 1) := by decide +kernel
theorem dM_told_9 : decode mM_told.2.1 9 = .ok (.iconst 0, 1) := by decide +kernel
theorem dM_told_10 : decode mM_told.2.1 10 = .ok (.iconst 5, 1) := by decide +kernel
theorem dM_told_11 : decode mM_told.2.1 11 = .ok (.invokestatic 99, 3) := by decide +kernel
theorem dM_told_14 : decode mM_told.2.1 14 = .ok (.ifCond .ne 5, 3) := by decide +kernel
theorem dM_told_17 : decode mM_told.2.1 17 = .ok (.iconst (-1), 1) := by decide +kernel
theorem dM_told_18 : decode mM_told.2.1 18 = .ok (.ireturn, 1) := by decide +kernel
theorem dM_told_19 : decode mM_told.2.1 19 = .ok (.iload_n 2, 1) := by decide +kernel
theorem dM_told_20 : decode mM_told.2.1 20 = .ok (.tableswitch 78 0 4 #[36, 43, 50, 57, 64], 36) := by decide +kernel
theorem dM_told_56 : decode mM_told.2.1 56 = .ok (.aload_n 0, 1) := by decide +kernel
theorem dM_told_57 : decode mM_told.2.1 57 = .ok (.getfield 16, 3) := by decide +kernel
theorem dM_told_60 : decode mM_told.2.1 60 = .ok (.iload_n 1, 1) := by decide +kernel
theorem dM_told_61 : decode mM_told.2.1 61 = .ok (.iaload, 1) := by decide +kernel
theorem dM_told_62 : decode mM_told.2.1 62 = .ok (.ireturn, 1) := by decide +kernel
theorem dM_told_63 : decode mM_told.2.1 63 = .ok (.aload_n 0, 1) := by decide +kernel
theorem dM_told_64 : decode mM_told.2.1 64 = .ok (.getfield 20, 3) := by decide +kernel
theorem dM_told_67 : decode mM_told.2.1 67 = .ok (.iload_n 1, 1) := by decide +kernel
theorem dM_told_68 : decode mM_told.2.1 68 = .ok (.iaload, 1) := by decide +kernel
theorem dM_told_69 : decode mM_told.2.1 69 = .ok (.ireturn, 1) := by decide +kernel
theorem dM_told_70 : decode mM_told.2.1 70 = .ok (.aload_n 0, 1) := by decide +kernel
theorem dM_told_71 : decode mM_told.2.1 71 = .ok (.getfield 23, 3) := by decide +kernel
theorem dM_told_74 : decode mM_told.2.1 74 = .ok (.iload_n 1, 1) := by decide +kernel
theorem dM_told_75 : decode mM_told.2.1 75 = .ok (.iaload, 1) := by decide +kernel
theorem dM_told_76 : decode mM_told.2.1 76 = .ok (.ireturn, 1) := by decide +kernel
theorem dM_told_77 : decode mM_told.2.1 77 = .ok (.aload_n 0, 1) := by decide +kernel
theorem dM_told_78 : decode mM_told.2.1 78 = .ok (.getfield 26, 3) := by decide +kernel
theorem dM_told_81 : decode mM_told.2.1 81 = .ok (.iload_n 1, 1) := by decide +kernel
theorem dM_told_82 : decode mM_told.2.1 82 = .ok (.iaload, 1) := by decide +kernel
theorem dM_told_83 : decode mM_told.2.1 83 = .ok (.ireturn, 1) := by decide +kernel
theorem dM_told_84 : decode mM_told.2.1 84 = .ok (.aload_n 0, 1) := by decide +kernel
theorem dM_told_85 : decode mM_told.2.1 85 = .ok (.iload_n 1, 1) := by decide +kernel
theorem dM_told_86 : decode mM_told.2.1 86 = .ok (.invokevirtual 133, 3) := by decide +kernel
theorem dM_told_89 : decode mM_told.2.1 89 = .ok (.ifCond .eq 7, 3) := by decide +kernel
theorem dM_told_92 : decode mM_told.2.1 92 = .ok (.iconst 1, 1) := by decide +kernel
theorem dM_told_93 : decode mM_told.2.1 93 = .ok (.goto 4, 3) := by decide +kernel
theorem dM_told_96 : decode mM_told.2.1 96 = .ok (.iconst 0, 1) := by decide +kernel
theorem dM_told_97 : decode mM_told.2.1 97 = .ok (.ireturn, 1) := by decide +kernel
theorem dM_told_98 : decode mM_told.2.1 98 = .ok (.aload_n 0, 1) := by decide +kernel
theorem dM_told_99 : decode mM_told.2.1 99 = .ok (.iload_n 1, 1) := by decide +kernel
theorem dM_told_100 : decode mM_told.2.1 100 = .ok (.invokevirtual 136, 3) := by decide +kernel
theorem dM_told_103 : decode mM_told.2.1 103 = .ok (.ifCond .eq 7, 3) := by decide +kernel
theorem dM_told_106 : decode mM_told.2.1 106 = .ok (.iconst 1, 1) := by decide +kernel
theorem dM_told_107 : decode mM_told.2.1 107 = .ok (.goto 4, 3) := by decide +kernel
theorem dM_told_110 : decode mM_told.2.1 110 = .ok (.iconst 0, 1) := by decide +kernel
theorem dM_told_111 : decode mM_told.2.1 111 = .ok (.ireturn, 1) := by decide +kernel
theorem dT_keepsMargins_0 : decode mT_keepsMargins.2.1 0 = .ok (.aload_n 0, 1) := by decide +kernel
theorem dT_keepsMargins_1 : decode mT_keepsMargins.2.1 1 = .ok (.iload_n 1, 1) := by decide +kernel
theorem dT_keepsMargins_2 : decode mT_keepsMargins.2.1 2 = .ok (.iconst 2, 1) := by decide +kernel
theorem dT_keepsMargins_3 : decode mT_keepsMargins.2.1 3 = .ok (.invokevirtual 55, 3) := by decide +kernel
theorem dT_keepsMargins_6 : decode mT_keepsMargins.2.1 6 = .ok (.istore 4, 2) := by decide +kernel
theorem dT_keepsMargins_8 : decode mT_keepsMargins.2.1 8 = .ok (.iconst 0, 1) := by decide +kernel
theorem dT_keepsMargins_9 : decode mT_keepsMargins.2.1 9 = .ok (.istore 5, 2) := by decide +kernel
theorem dT_keepsMargins_11 : decode mT_keepsMargins.2.1 11 = .ok (.iload 5, 2) := by decide +kernel
theorem dT_keepsMargins_13 : decode mT_keepsMargins.2.1 13 = .ok (.iload_n 2, 1) := by decide +kernel
theorem dT_keepsMargins_14 : decode mT_keepsMargins.2.1 14 = .ok (.ifCond .ne 7, 3) := by decide +kernel
theorem dT_keepsMargins_17 : decode mT_keepsMargins.2.1 17 = .ok (.iconst 1, 1) := by decide +kernel
theorem dT_keepsMargins_18 : decode mT_keepsMargins.2.1 18 = .ok (.goto 4, 3) := by decide +kernel
theorem dT_keepsMargins_21 : decode mT_keepsMargins.2.1 21 = .ok (.iconst 0, 1) := by decide +kernel
theorem dT_keepsMargins_22 : decode mT_keepsMargins.2.1 22 = .ok (.ior, 1) := by decide +kernel
theorem dT_keepsMargins_23 : decode mT_keepsMargins.2.1 23 = .ok (.istore 5, 2) := by decide +kernel
theorem dT_keepsMargins_25 : decode mT_keepsMargins.2.1 25 = .ok (.iload 5, 2) := by decide +kernel
theorem dT_keepsMargins_27 : decode mT_keepsMargins.2.1 27 = .ok (.iload_n 3, 1) := by decide +kernel
theorem dT_keepsMargins_28 : decode mT_keepsMargins.2.1 28 = .ok (.ifCond .ne 7, 3) := by decide +kernel
theorem dT_keepsMargins_31 : decode mT_keepsMargins.2.1 31 = .ok (.iconst 2, 1) := by decide +kernel
theorem dT_keepsMargins_32 : decode mT_keepsMargins.2.1 32 = .ok (.goto 4, 3) := by decide +kernel
theorem dT_keepsMargins_35 : decode mT_keepsMargins.2.1 35 = .ok (.iconst 0, 1) := by decide +kernel
theorem dT_keepsMargins_36 : decode mT_keepsMargins.2.1 36 = .ok (.ior, 1) := by decide +kernel
theorem dT_keepsMargins_37 : decode mT_keepsMargins.2.1 37 = .ok (.istore 5, 2) := by decide +kernel
theorem dT_keepsMargins_39 : decode mT_keepsMargins.2.1 39 = .ok (.iload 5, 2) := by decide +kernel
theorem dT_keepsMargins_41 : decode mT_keepsMargins.2.1 41 = .ok (.iload_n 2, 1) := by decide +kernel
theorem dT_keepsMargins_42 : decode mT_keepsMargins.2.1 42 = .ok (.aload_n 0, 1) := by decide +kernel
theorem dT_keepsMargins_43 : decode mT_keepsMargins.2.1 43 = .ok (.iload_n 1, 1) := by decide +kernel
theorem dT_keepsMargins_44 : decode mT_keepsMargins.2.1 44 = .ok (.iconst 0, 1) := by decide +kernel
theorem dT_keepsMargins_45 : decode mT_keepsMargins.2.1 45 = .ok (.invokevirtual 55, 3) := by decide +kernel
theorem dT_keepsMargins_48 : decode mT_keepsMargins.2.1 48 = .ok (.iadd, 1) := by decide +kernel
theorem dT_keepsMargins_49 : decode mT_keepsMargins.2.1 49 = .ok (.aload_n 0, 1) := by decide +kernel
theorem dT_keepsMargins_50 : decode mT_keepsMargins.2.1 50 = .ok (.getfield 9, 3) := by decide +kernel
theorem dT_keepsMargins_53 : decode mT_keepsMargins.2.1 53 = .ok (.if_icmp .ne 7, 3) := by decide +kernel
theorem dT_keepsMargins_56 : decode mT_keepsMargins.2.1 56 = .ok (.iconst 4, 1) := by decide +kernel
theorem dT_keepsMargins_57 : decode mT_keepsMargins.2.1 57 = .ok (.goto 4, 3) := by decide +kernel
theorem dT_keepsMargins_60 : decode mT_keepsMargins.2.1 60 = .ok (.iconst 0, 1) := by decide +kernel
theorem dT_keepsMargins_61 : decode mT_keepsMargins.2.1 61 = .ok (.ior, 1) := by decide +kernel
theorem dT_keepsMargins_62 : decode mT_keepsMargins.2.1 62 = .ok (.istore 5, 2) := by decide +kernel
theorem dT_keepsMargins_64 : decode mT_keepsMargins.2.1 64 = .ok (.iload 5, 2) := by decide +kernel
theorem dT_keepsMargins_66 : decode mT_keepsMargins.2.1 66 = .ok (.iload_n 3, 1) := by decide +kernel
theorem dT_keepsMargins_67 : decode mT_keepsMargins.2.1 67 = .ok (.aload_n 0, 1) := by decide +kernel
theorem dT_keepsMargins_68 : decode mT_keepsMargins.2.1 68 = .ok (.iload_n 1, 1) := by decide +kernel
theorem dT_keepsMargins_69 : decode mT_keepsMargins.2.1 69 = .ok (.iconst 1, 1) := by decide +kernel
theorem dT_keepsMargins_70 : decode mT_keepsMargins.2.1 70 = .ok (.invokevirtual 55, 3) := by decide +kernel
theorem dT_keepsMargins_73 : decode mT_keepsMargins.2.1 73 = .ok (.iadd, 1) := by decide +kernel
theorem dT_keepsMargins_74 : decode mT_keepsMargins.2.1 74 = .ok (.aload_n 0, 1) := by decide +kernel
theorem dT_keepsMargins_75 : decode mT_keepsMargins.2.1 75 = .ok (.getfield 15, 3) := by decide +kernel
theorem dT_keepsMargins_78 : decode mT_keepsMargins.2.1 78 = .ok (.if_icmp .ne 8, 3) := by decide +kernel
theorem dT_keepsMargins_81 : decode mT_keepsMargins.2.1 81 = .ok (.bipush 8, 2) := by decide +kernel
theorem dT_keepsMargins_83 : decode mT_keepsMargins.2.1 83 = .ok (.goto 4, 3) := by decide +kernel
theorem dT_keepsMargins_86 : decode mT_keepsMargins.2.1 86 = .ok (.iconst 0, 1) := by decide +kernel
theorem dT_keepsMargins_87 : decode mT_keepsMargins.2.1 87 = .ok (.ior, 1) := by decide +kernel
theorem dT_keepsMargins_88 : decode mT_keepsMargins.2.1 88 = .ok (.istore 5, 2) := by decide +kernel
theorem dT_keepsMargins_90 : decode mT_keepsMargins.2.1 90 = .ok (.iload 4, 2) := by decide +kernel
theorem dT_keepsMargins_92 : decode mT_keepsMargins.2.1 92 = .ok (.iload 5, 2) := by decide +kernel
theorem dT_keepsMargins_94 : decode mT_keepsMargins.2.1 94 = .ok (.iand, 1) := by decide +kernel
theorem dT_keepsMargins_95 : decode mT_keepsMargins.2.1 95 = .ok (.iload 4, 2) := by decide +kernel
theorem dT_keepsMargins_97 : decode mT_keepsMargins.2.1 97 = .ok (.if_icmp .ne 7, 3) := by decide +kernel
theorem dT_keepsMargins_100 : decode mT_keepsMargins.2.1 100 = .ok (.iconst 1, 1) := by decide +kernel
theorem dT_keepsMargins_101 : decode mT_keepsMargins.2.1 101 = .ok (.goto 4, 3) := by decide +kernel
theorem dT_keepsMargins_104 : decode mT_keepsMargins.2.1 104 = .ok (.iconst 0, 1) := by decide +kernel
theorem dT_keepsMargins_105 : decode mT_keepsMargins.2.1 105 = .ok (.ireturn, 1) := by decide +kernel
theorem dT_keepsLetters_0 : decode mT_keepsLetters.2.1 0 = .ok (.aload_n 0, 1) := by decide +kernel
theorem dT_keepsLetters_1 : decode mT_keepsLetters.2.1 1 = .ok (.iload_n 1, 1) := by decide +kernel
theorem dT_keepsLetters_2 : decode mT_keepsLetters.2.1 2 = .ok (.iconst 4, 1) := by decide +kernel
theorem dT_keepsLetters_3 : decode mT_keepsLetters.2.1 3 = .ok (.invokevirtual 55, 3) := by decide +kernel
theorem dT_keepsLetters_6 : decode mT_keepsLetters.2.1 6 = .ok (.istore 4, 2) := by decide +kernel
theorem dT_keepsLetters_8 : decode mT_keepsLetters.2.1 8 = .ok (.aload_n 0, 1) := by decide +kernel
theorem dT_keepsLetters_9 : decode mT_keepsLetters.2.1 9 = .ok (.iload_n 1, 1) := by decide +kernel
theorem dT_keepsLetters_10 : decode mT_keepsLetters.2.1 10 = .ok (.iconst 3, 1) := by decide +kernel
theorem dT_keepsLetters_11 : decode mT_keepsLetters.2.1 11 = .ok (.invokevirtual 55, 3) := by decide +kernel
theorem dT_keepsLetters_14 : decode mT_keepsLetters.2.1 14 = .ok (.istore 5, 2) := by decide +kernel
theorem dT_keepsLetters_16 : decode mT_keepsLetters.2.1 16 = .ok (.iload 5, 2) := by decide +kernel
theorem dT_keepsLetters_18 : decode mT_keepsLetters.2.1 18 = .ok (.iload 4, 2) := by decide +kernel
theorem dT_keepsLetters_20 : decode mT_keepsLetters.2.1 20 = .ok (.if_icmp .ge 71, 3) := by decide +kernel
theorem dT_keepsLetters_23 : decode mT_keepsLetters.2.1 23 = .ok (.aload_n 0, 1) := by decide +kernel
theorem dT_keepsLetters_24 : decode mT_keepsLetters.2.1 24 = .ok (.iload 5, 2) := by decide +kernel
theorem dT_keepsLetters_26 : decode mT_keepsLetters.2.1 26 = .ok (.iconst 3, 1) := by decide +kernel
theorem dT_keepsLetters_27 : decode mT_keepsLetters.2.1 27 = .ok (.invokevirtual 69, 3) := by decide +kernel
theorem dT_keepsLetters_30 : decode mT_keepsLetters.2.1 30 = .ok (.istore 6, 2) := by decide +kernel
theorem dT_keepsLetters_32 : decode mT_keepsLetters.2.1 32 = .ok (.aload_n 0, 1) := by decide +kernel
theorem dT_keepsLetters_33 : decode mT_keepsLetters.2.1 33 = .ok (.iload 5, 2) := by decide +kernel
theorem dT_keepsLetters_35 : decode mT_keepsLetters.2.1 35 = .ok (.iconst 4, 1) := by decide +kernel
theorem dT_keepsLetters_36 : decode mT_keepsLetters.2.1 36 = .ok (.invokevirtual 69, 3) := by decide +kernel
theorem dT_keepsLetters_39 : decode mT_keepsLetters.2.1 39 = .ok (.istore 7, 2) := by decide +kernel
theorem dT_keepsLetters_41 : decode mT_keepsLetters.2.1 41 = .ok (.iload 6, 2) := by decide +kernel
theorem dT_keepsLetters_43 : decode mT_keepsLetters.2.1 43 = .ok (.iconst (-1), 1) := by decide +kernel
theorem dT_keepsLetters_44 : decode mT_keepsLetters.2.1 44 = .ok (.if_icmp .eq 19, 3) := by decide +kernel
theorem dT_keepsLetters_47 : decode mT_keepsLetters.2.1 47 = .ok (.iload 6, 2) := by decide +kernel
theorem dT_keepsLetters_49 : decode mT_keepsLetters.2.1 49 = .ok (.iload_n 2, 1) := by decide +kernel
theorem dT_keepsLetters_50 : decode mT_keepsLetters.2.1 50 = .ok (.aload_n 0, 1) := by decide +kernel
theorem dT_keepsLetters_51 : decode mT_keepsLetters.2.1 51 = .ok (.iload 5, 2) := by decide +kernel
theorem dT_keepsLetters_53 : decode mT_keepsLetters.2.1 53 = .ok (.iconst 1, 1) := by decide +kernel
theorem dT_keepsLetters_54 : decode mT_keepsLetters.2.1 54 = .ok (.invokevirtual 69, 3) := by decide +kernel
theorem dT_keepsLetters_57 : decode mT_keepsLetters.2.1 57 = .ok (.iadd, 1) := by decide +kernel
theorem dT_keepsLetters_58 : decode mT_keepsLetters.2.1 58 = .ok (.if_icmp .eq 5, 3) := by decide +kernel
theorem dT_keepsLetters_61 : decode mT_keepsLetters.2.1 61 = .ok (.iconst 0, 1) := by decide +kernel
theorem dT_keepsLetters_62 : decode mT_keepsLetters.2.1 62 = .ok (.ireturn, 1) := by decide +kernel
theorem dT_keepsLetters_63 : decode mT_keepsLetters.2.1 63 = .ok (.iload 7, 2) := by decide +kernel
theorem dT_keepsLetters_65 : decode mT_keepsLetters.2.1 65 = .ok (.iconst (-1), 1) := by decide +kernel
theorem dT_keepsLetters_66 : decode mT_keepsLetters.2.1 66 = .ok (.if_icmp .eq 19, 3) := by decide +kernel
theorem dT_keepsLetters_69 : decode mT_keepsLetters.2.1 69 = .ok (.iload 7, 2) := by decide +kernel
theorem dT_keepsLetters_71 : decode mT_keepsLetters.2.1 71 = .ok (.iload_n 3, 1) := by decide +kernel
theorem dT_keepsLetters_72 : decode mT_keepsLetters.2.1 72 = .ok (.aload_n 0, 1) := by decide +kernel
theorem dT_keepsLetters_73 : decode mT_keepsLetters.2.1 73 = .ok (.iload 5, 2) := by decide +kernel
theorem dT_keepsLetters_75 : decode mT_keepsLetters.2.1 75 = .ok (.iconst 2, 1) := by decide +kernel
theorem dT_keepsLetters_76 : decode mT_keepsLetters.2.1 76 = .ok (.invokevirtual 69, 3) := by decide +kernel
theorem dT_keepsLetters_79 : decode mT_keepsLetters.2.1 79 = .ok (.iadd, 1) := by decide +kernel
theorem dT_keepsLetters_80 : decode mT_keepsLetters.2.1 80 = .ok (.if_icmp .eq 5, 3) := by decide +kernel
theorem dT_keepsLetters_83 : decode mT_keepsLetters.2.1 83 = .ok (.iconst 0, 1) := by decide +kernel
theorem dT_keepsLetters_84 : decode mT_keepsLetters.2.1 84 = .ok (.ireturn, 1) := by decide +kernel
theorem dT_keepsLetters_85 : decode mT_keepsLetters.2.1 85 = .ok (.iinc 5 1, 3) := by decide +kernel
theorem dT_keepsLetters_88 : decode mT_keepsLetters.2.1 88 = .ok (.goto (-72), 3) := by decide +kernel
theorem dT_keepsLetters_91 : decode mT_keepsLetters.2.1 91 = .ok (.iconst 1, 1) := by decide +kernel
theorem dT_keepsLetters_92 : decode mT_keepsLetters.2.1 92 = .ok (.ireturn, 1) := by decide +kernel
theorem dT_spotsOf_0 : decode mT_spotsOf.2.1 0 = .ok (.aload_n 0, 1) := by decide +kernel
theorem dT_spotsOf_1 : decode mT_spotsOf.2.1 1 = .ok (.getfield 9, 3) := by decide +kernel
theorem dT_spotsOf_4 : decode mT_spotsOf.2.1 4 = .ok (.aload_n 0, 1) := by decide +kernel
theorem dT_spotsOf_5 : decode mT_spotsOf.2.1 5 = .ok (.iload_n 1, 1) := by decide +kernel
theorem dT_spotsOf_6 : decode mT_spotsOf.2.1 6 = .ok (.iconst 0, 1) := by decide +kernel
theorem dT_spotsOf_7 : decode mT_spotsOf.2.1 7 = .ok (.invokevirtual 55, 3) := by decide +kernel
theorem dT_spotsOf_10 : decode mT_spotsOf.2.1 10 = .ok (.isub, 1) := by decide +kernel
theorem dT_spotsOf_11 : decode mT_spotsOf.2.1 11 = .ok (.istore_n 2, 1) := by decide +kernel
theorem dT_spotsOf_12 : decode mT_spotsOf.2.1 12 = .ok (.aload_n 0, 1) := by decide +kernel
theorem dT_spotsOf_13 : decode mT_spotsOf.2.1 13 = .ok (.getfield 15, 3) := by decide +kernel
theorem dT_spotsOf_16 : decode mT_spotsOf.2.1 16 = .ok (.aload_n 0, 1) := by decide +kernel
theorem dT_spotsOf_17 : decode mT_spotsOf.2.1 17 = .ok (.iload_n 1, 1) := by decide +kernel
theorem dT_spotsOf_18 : decode mT_spotsOf.2.1 18 = .ok (.iconst 1, 1) := by decide +kernel
theorem dT_spotsOf_19 : decode mT_spotsOf.2.1 19 = .ok (.invokevirtual 55, 3) := by decide +kernel
theorem dT_spotsOf_22 : decode mT_spotsOf.2.1 22 = .ok (.isub, 1) := by decide +kernel
theorem dT_spotsOf_23 : decode mT_spotsOf.2.1 23 = .ok (.istore_n 3, 1) := by decide +kernel
theorem dT_spotsOf_24 : decode mT_spotsOf.2.1 24 = .ok (.iconst 0, 1) := by decide +kernel
theorem dT_spotsOf_25 : decode mT_spotsOf.2.1 25 = .ok (.istore 4, 2) := by decide +kernel
theorem dT_spotsOf_27 : decode mT_spotsOf.2.1 27 = .ok (.iconst 0, 1) := by decide +kernel
theorem dT_spotsOf_28 : decode mT_spotsOf.2.1 28 = .ok (.istore 5, 2) := by decide +kernel
theorem dT_spotsOf_30 : decode mT_spotsOf.2.1 30 = .ok (.iload 5, 2) := by decide +kernel
theorem dT_spotsOf_32 : decode mT_spotsOf.2.1 32 = .ok (.iload_n 2, 1) := by decide +kernel
theorem dT_spotsOf_33 : decode mT_spotsOf.2.1 33 = .ok (.if_icmp .gt 65, 3) := by decide +kernel
theorem dT_spotsOf_36 : decode mT_spotsOf.2.1 36 = .ok (.iconst 0, 1) := by decide +kernel
theorem dT_spotsOf_37 : decode mT_spotsOf.2.1 37 = .ok (.istore 6, 2) := by decide +kernel
theorem dT_spotsOf_39 : decode mT_spotsOf.2.1 39 = .ok (.iload 6, 2) := by decide +kernel
theorem dT_spotsOf_41 : decode mT_spotsOf.2.1 41 = .ok (.iload_n 3, 1) := by decide +kernel
theorem dT_spotsOf_42 : decode mT_spotsOf.2.1 42 = .ok (.if_icmp .gt 50, 3) := by decide +kernel
theorem dT_spotsOf_45 : decode mT_spotsOf.2.1 45 = .ok (.aload_n 0, 1) := by decide +kernel
theorem dT_spotsOf_46 : decode mT_spotsOf.2.1 46 = .ok (.iload_n 1, 1) := by decide +kernel
theorem dT_spotsOf_47 : decode mT_spotsOf.2.1 47 = .ok (.iload 5, 2) := by decide +kernel
theorem dT_spotsOf_49 : decode mT_spotsOf.2.1 49 = .ok (.iload 6, 2) := by decide +kernel
theorem dT_spotsOf_51 : decode mT_spotsOf.2.1 51 = .ok (.invokevirtual 94, 3) := by decide +kernel
theorem dT_spotsOf_54 : decode mT_spotsOf.2.1 54 = .ok (.ifCond .eq 32, 3) := by decide +kernel
theorem dT_spotsOf_57 : decode mT_spotsOf.2.1 57 = .ok (.aload_n 0, 1) := by decide +kernel
theorem dT_spotsOf_58 : decode mT_spotsOf.2.1 58 = .ok (.iload_n 1, 1) := by decide +kernel
theorem dT_spotsOf_59 : decode mT_spotsOf.2.1 59 = .ok (.iload 5, 2) := by decide +kernel
theorem dT_spotsOf_61 : decode mT_spotsOf.2.1 61 = .ok (.iload 6, 2) := by decide +kernel
theorem dT_spotsOf_63 : decode mT_spotsOf.2.1 63 = .ok (.invokevirtual 97, 3) := by decide +kernel
theorem dT_spotsOf_66 : decode mT_spotsOf.2.1 66 = .ok (.ifCond .eq 20, 3) := by decide +kernel
theorem dT_spotsOf_69 : decode mT_spotsOf.2.1 69 = .ok (.iload 4, 2) := by decide +kernel
theorem dT_spotsOf_71 : decode mT_spotsOf.2.1 71 = .ok (.iconst 1, 1) := by decide +kernel
theorem dT_spotsOf_72 : decode mT_spotsOf.2.1 72 = .ok (.iload 5, 2) := by decide +kernel
theorem dT_spotsOf_74 : decode mT_spotsOf.2.1 74 = .ok (.aload_n 0, 1) := by decide +kernel
theorem dT_spotsOf_75 : decode mT_spotsOf.2.1 75 = .ok (.getfield 15, 3) := by decide +kernel
theorem dT_spotsOf_78 : decode mT_spotsOf.2.1 78 = .ok (.imul, 1) := by decide +kernel
theorem dT_spotsOf_79 : decode mT_spotsOf.2.1 79 = .ok (.iload 6, 2) := by decide +kernel
theorem dT_spotsOf_81 : decode mT_spotsOf.2.1 81 = .ok (.iadd, 1) := by decide +kernel
theorem dT_spotsOf_82 : decode mT_spotsOf.2.1 82 = .ok (.ishl, 1) := by decide +kernel
theorem dT_spotsOf_83 : decode mT_spotsOf.2.1 83 = .ok (.ior, 1) := by decide +kernel
theorem dT_spotsOf_84 : decode mT_spotsOf.2.1 84 = .ok (.istore 4, 2) := by decide +kernel
theorem dT_spotsOf_86 : decode mT_spotsOf.2.1 86 = .ok (.iinc 6 1, 3) := by decide +kernel
theorem dT_spotsOf_89 : decode mT_spotsOf.2.1 89 = .ok (.goto (-50), 3) := by decide +kernel
theorem dT_spotsOf_92 : decode mT_spotsOf.2.1 92 = .ok (.iinc 5 1, 3) := by decide +kernel
theorem dT_spotsOf_95 : decode mT_spotsOf.2.1 95 = .ok (.goto (-65), 3) := by decide +kernel
theorem dT_spotsOf_98 : decode mT_spotsOf.2.1 98 = .ok (.iload 4, 2) := by decide +kernel
theorem dT_spotsOf_100 : decode mT_spotsOf.2.1 100 = .ok (.ireturn, 1) := by decide +kernel
theorem dS_openSpots_0 : decode mS_openSpots.2.1 0 = .ok (.iconst 1, 1) := by decide +kernel
theorem dS_openSpots_1 : decode mS_openSpots.2.1 1 = .ok (.istore_n 1, 1) := by decide +kernel
theorem dS_openSpots_2 : decode mS_openSpots.2.1 2 = .ok (.iconst 0, 1) := by decide +kernel
theorem dS_openSpots_3 : decode mS_openSpots.2.1 3 = .ok (.istore_n 2, 1) := by decide +kernel
theorem dS_openSpots_4 : decode mS_openSpots.2.1 4 = .ok (.iload_n 2, 1) := by decide +kernel
theorem dS_openSpots_5 : decode mS_openSpots.2.1 5 = .ok (.iconst 5, 1) := by decide +kernel
theorem dS_openSpots_6 : decode mS_openSpots.2.1 6 = .ok (.if_icmp .ge 102, 3) := by decide +kernel
theorem dS_openSpots_9 : decode mS_openSpots.2.1 9 = .ok (.aload_n 0, 1) := by decide +kernel
theorem dS_openSpots_10 : decode mS_openSpots.2.1 10 = .ok (.getfield 35, 3) := by decide +kernel
theorem dS_openSpots_13 : decode mS_openSpots.2.1 13 = .ok (.iload_n 2, 1) := by decide +kernel
theorem dS_openSpots_14 : decode mS_openSpots.2.1 14 = .ok (.aload_n 0, 1) := by decide +kernel
theorem dS_openSpots_15 : decode mS_openSpots.2.1 15 = .ok (.getfield 66, 3) := by decide +kernel
theorem dS_openSpots_18 : decode mS_openSpots.2.1 18 = .ok (.iload_n 2, 1) := by decide +kernel
theorem dS_openSpots_19 : decode mS_openSpots.2.1 19 = .ok (.invokevirtual 109, 3) := by decide +kernel
theorem dS_openSpots_22 : decode mS_openSpots.2.1 22 = .ok (.ifCond .eq 18, 3) := by decide +kernel
theorem dS_openSpots_25 : decode mS_openSpots.2.1 25 = .ok (.aload_n 0, 1) := by decide +kernel
theorem dS_openSpots_26 : decode mS_openSpots.2.1 26 = .ok (.getfield 66, 3) := by decide +kernel
theorem dS_openSpots_29 : decode mS_openSpots.2.1 29 = .ok (.iload_n 2, 1) := by decide +kernel
theorem dS_openSpots_30 : decode mS_openSpots.2.1 30 = .ok (.invokevirtual 113, 3) := by decide +kernel
theorem dS_openSpots_33 : decode mS_openSpots.2.1 33 = .ok (.ifCond .eq 7, 3) := by decide +kernel
theorem dS_openSpots_36 : decode mS_openSpots.2.1 36 = .ok (.iconst 1, 1) := by decide +kernel
theorem dS_openSpots_37 : decode mS_openSpots.2.1 37 = .ok (.goto 4, 3) := by decide +kernel
theorem dS_openSpots_40 : decode mS_openSpots.2.1 40 = .ok (.iconst 0, 1) := by decide +kernel
theorem dS_openSpots_41 : decode mS_openSpots.2.1 41 = .ok (.bastore, 1) := by decide +kernel
theorem dS_openSpots_42 : decode mS_openSpots.2.1 42 = .ok (.aload_n 0, 1) := by decide +kernel
theorem dS_openSpots_43 : decode mS_openSpots.2.1 43 = .ok (.getfield 45, 3) := by decide +kernel
theorem dS_openSpots_46 : decode mS_openSpots.2.1 46 = .ok (.iload_n 2, 1) := by decide +kernel
theorem dS_openSpots_47 : decode mS_openSpots.2.1 47 = .ok (.aload_n 0, 1) := by decide +kernel
theorem dS_openSpots_48 : decode mS_openSpots.2.1 48 = .ok (.getfield 35, 3) := by decide +kernel
theorem dS_openSpots_51 : decode mS_openSpots.2.1 51 = .ok (.iload_n 2, 1) := by decide +kernel
theorem dS_openSpots_52 : decode mS_openSpots.2.1 52 = .ok (.baload, 1) := by decide +kernel
theorem dS_openSpots_53 : decode mS_openSpots.2.1 53 = .ok (.ifCond .eq 14, 3) := by decide +kernel
theorem dS_openSpots_56 : decode mS_openSpots.2.1 56 = .ok (.aload_n 0, 1) := by decide +kernel
theorem dS_openSpots_57 : decode mS_openSpots.2.1 57 = .ok (.getfield 66, 3) := by decide +kernel
theorem dS_openSpots_60 : decode mS_openSpots.2.1 60 = .ok (.iload_n 2, 1) := by decide +kernel
theorem dS_openSpots_61 : decode mS_openSpots.2.1 61 = .ok (.invokevirtual 116, 3) := by decide +kernel
theorem dS_openSpots_64 : decode mS_openSpots.2.1 64 = .ok (.goto 4, 3) := by decide +kernel
theorem dS_openSpots_67 : decode mS_openSpots.2.1 67 = .ok (.iconst 0, 1) := by decide +kernel
theorem dS_openSpots_68 : decode mS_openSpots.2.1 68 = .ok (.iastore, 1) := by decide +kernel
theorem dS_openSpots_69 : decode mS_openSpots.2.1 69 = .ok (.aload_n 0, 1) := by decide +kernel
theorem dS_openSpots_70 : decode mS_openSpots.2.1 70 = .ok (.getfield 48, 3) := by decide +kernel
theorem dS_openSpots_73 : decode mS_openSpots.2.1 73 = .ok (.iload_n 2, 1) := by decide +kernel
theorem dS_openSpots_74 : decode mS_openSpots.2.1 74 = .ok (.iconst 0, 1) := by decide +kernel
theorem dS_openSpots_75 : decode mS_openSpots.2.1 75 = .ok (.iastore, 1) := by decide +kernel
theorem dS_openSpots_76 : decode mS_openSpots.2.1 76 = .ok (.iload_n 1, 1) := by decide +kernel
theorem dS_openSpots_77 : decode mS_openSpots.2.1 77 = .ok (.aload_n 0, 1) := by decide +kernel
theorem dS_openSpots_78 : decode mS_openSpots.2.1 78 = .ok (.getfield 35, 3) := by decide +kernel
theorem dS_openSpots_81 : decode mS_openSpots.2.1 81 = .ok (.iload_n 2, 1) := by decide +kernel
theorem dS_openSpots_82 : decode mS_openSpots.2.1 82 = .ok (.baload, 1) := by decide +kernel
theorem dS_openSpots_83 : decode mS_openSpots.2.1 83 = .ok (.ifCond .eq 12, 3) := by decide +kernel
theorem dS_openSpots_86 : decode mS_openSpots.2.1 86 = .ok (.aload_n 0, 1) := by decide +kernel
theorem dS_openSpots_87 : decode mS_openSpots.2.1 87 = .ok (.getfield 45, 3) := by decide +kernel
theorem dS_openSpots_90 : decode mS_openSpots.2.1 90 = .ok (.iload_n 2, 1) := by decide +kernel
theorem dS_openSpots_91 : decode mS_openSpots.2.1 91 = .ok (.iaload, 1) := by decide +kernel
theorem dS_openSpots_92 : decode mS_openSpots.2.1 92 = .ok (.ifCond .eq 7, 3) := by decide +kernel
theorem dS_openSpots_95 : decode mS_openSpots.2.1 95 = .ok (.iconst 1, 1) := by decide +kernel
theorem dS_openSpots_96 : decode mS_openSpots.2.1 96 = .ok (.goto 4, 3) := by decide +kernel
theorem dS_openSpots_99 : decode mS_openSpots.2.1 99 = .ok (.iconst 0, 1) := by decide +kernel
theorem dS_openSpots_100 : decode mS_openSpots.2.1 100 = .ok (.iand, 1) := by decide +kernel
theorem dS_openSpots_101 : decode mS_openSpots.2.1 101 = .ok (.istore_n 1, 1) := by decide +kernel
theorem dS_openSpots_102 : decode mS_openSpots.2.1 102 = .ok (.iinc 2 1, 3) := by decide +kernel
theorem dS_openSpots_105 : decode mS_openSpots.2.1 105 = .ok (.goto (-101), 3) := by decide +kernel
theorem dS_openSpots_108 : decode mS_openSpots.2.1 108 = .ok (.iload_n 1, 1) := by decide +kernel
theorem dS_openSpots_109 : decode mS_openSpots.2.1 109 = .ok (.ireturn, 1) := by decide +kernel
theorem dT_offsetOf_0 : decode mT_offsetOf.2.1 0 = .ok (.aload_n 0, 1) := by decide +kernel
theorem dT_offsetOf_1 : decode mT_offsetOf.2.1 1 = .ok (.iload_n 1, 1) := by decide +kernel
theorem dT_offsetOf_2 : decode mT_offsetOf.2.1 2 = .ok (.iconst 1, 1) := by decide +kernel
theorem dT_offsetOf_3 : decode mT_offsetOf.2.1 3 = .ok (.invokevirtual 69, 3) := by decide +kernel
theorem dT_offsetOf_6 : decode mT_offsetOf.2.1 6 = .ok (.aload_n 0, 1) := by decide +kernel
theorem dT_offsetOf_7 : decode mT_offsetOf.2.1 7 = .ok (.getfield 15, 3) := by decide +kernel
theorem dT_offsetOf_10 : decode mT_offsetOf.2.1 10 = .ok (.imul, 1) := by decide +kernel
theorem dT_offsetOf_11 : decode mT_offsetOf.2.1 11 = .ok (.aload_n 0, 1) := by decide +kernel
theorem dT_offsetOf_12 : decode mT_offsetOf.2.1 12 = .ok (.iload_n 1, 1) := by decide +kernel
theorem dT_offsetOf_13 : decode mT_offsetOf.2.1 13 = .ok (.iconst 2, 1) := by decide +kernel
theorem dT_offsetOf_14 : decode mT_offsetOf.2.1 14 = .ok (.invokevirtual 69, 3) := by decide +kernel
theorem dT_offsetOf_17 : decode mT_offsetOf.2.1 17 = .ok (.iadd, 1) := by decide +kernel
theorem dT_offsetOf_18 : decode mT_offsetOf.2.1 18 = .ok (.ireturn, 1) := by decide +kernel
theorem dC_readCopies_0 : decode mC_readCopies.2.1 0 = .ok (.iconst 0, 1) := by decide +kernel
theorem dC_readCopies_1 : decode mC_readCopies.2.1 1 = .ok (.istore_n 1, 1) := by decide +kernel
theorem dC_readCopies_2 : decode mC_readCopies.2.1 2 = .ok (.iload_n 1, 1) := by decide +kernel
theorem dC_readCopies_3 : decode mC_readCopies.2.1 3 = .ok (.aload_n 0, 1) := by decide +kernel
theorem dC_readCopies_4 : decode mC_readCopies.2.1 4 = .ok (.getfield 24, 3) := by decide +kernel
theorem dC_readCopies_7 : decode mC_readCopies.2.1 7 = .ok (.getfield 28, 3) := by decide +kernel
theorem dC_readCopies_10 : decode mC_readCopies.2.1 10 = .ok (.if_icmp .ge 55, 3) := by decide +kernel
theorem dC_readCopies_13 : decode mC_readCopies.2.1 13 = .ok (.aload_n 0, 1) := by decide +kernel
theorem dC_readCopies_14 : decode mC_readCopies.2.1 14 = .ok (.getfield 9, 3) := by decide +kernel
theorem dC_readCopies_17 : decode mC_readCopies.2.1 17 = .ok (.iload_n 1, 1) := by decide +kernel
theorem dC_readCopies_18 : decode mC_readCopies.2.1 18 = .ok (.aload_n 0, 1) := by decide +kernel
theorem dC_readCopies_19 : decode mC_readCopies.2.1 19 = .ok (.getfield 24, 3) := by decide +kernel
theorem dC_readCopies_22 : decode mC_readCopies.2.1 22 = .ok (.iload_n 1, 1) := by decide +kernel
theorem dC_readCopies_23 : decode mC_readCopies.2.1 23 = .ok (.bipush 8, 2) := by decide +kernel
theorem dC_readCopies_25 : decode mC_readCopies.2.1 25 = .ok (.invokevirtual 34, 3) := by decide +kernel
theorem dC_readCopies_28 : decode mC_readCopies.2.1 28 = .ok (.iastore, 1) := by decide +kernel
theorem dC_readCopies_29 : decode mC_readCopies.2.1 29 = .ok (.aload_n 0, 1) := by decide +kernel
theorem dC_readCopies_30 : decode mC_readCopies.2.1 30 = .ok (.getfield 15, 3) := by decide +kernel
theorem dC_readCopies_33 : decode mC_readCopies.2.1 33 = .ok (.iload_n 1, 1) := by decide +kernel
theorem dC_readCopies_34 : decode mC_readCopies.2.1 34 = .ok (.aload_n 0, 1) := by decide +kernel
theorem dC_readCopies_35 : decode mC_readCopies.2.1 35 = .ok (.getfield 24, 3) := by decide +kernel
theorem dC_readCopies_38 : decode mC_readCopies.2.1 38 = .ok (.iload_n 1, 1) := by decide +kernel
theorem dC_readCopies_39 : decode mC_readCopies.2.1 39 = .ok (.bipush 9, 2) := by decide +kernel
theorem dC_readCopies_41 : decode mC_readCopies.2.1 41 = .ok (.invokevirtual 34, 3) := by decide +kernel
theorem dC_readCopies_44 : decode mC_readCopies.2.1 44 = .ok (.iastore, 1) := by decide +kernel
theorem dC_readCopies_45 : decode mC_readCopies.2.1 45 = .ok (.aload_n 0, 1) := by decide +kernel
theorem dC_readCopies_46 : decode mC_readCopies.2.1 46 = .ok (.getfield 18, 3) := by decide +kernel
theorem dC_readCopies_49 : decode mC_readCopies.2.1 49 = .ok (.iload_n 1, 1) := by decide +kernel
theorem dC_readCopies_50 : decode mC_readCopies.2.1 50 = .ok (.aload_n 0, 1) := by decide +kernel
theorem dC_readCopies_51 : decode mC_readCopies.2.1 51 = .ok (.getfield 24, 3) := by decide +kernel
theorem dC_readCopies_54 : decode mC_readCopies.2.1 54 = .ok (.iload_n 1, 1) := by decide +kernel
theorem dC_readCopies_55 : decode mC_readCopies.2.1 55 = .ok (.invokevirtual 38, 3) := by decide +kernel
theorem dC_readCopies_58 : decode mC_readCopies.2.1 58 = .ok (.iastore, 1) := by decide +kernel
theorem dC_readCopies_59 : decode mC_readCopies.2.1 59 = .ok (.iinc 1 1, 3) := by decide +kernel
theorem dC_readCopies_62 : decode mC_readCopies.2.1 62 = .ok (.goto (-60), 3) := by decide +kernel
theorem dC_readCopies_65 : decode mC_readCopies.2.1 65 = .ok (.return_, 1) := by decide +kernel
theorem dC_rowOf_0 : decode mC_rowOf.2.1 0 = .ok (.iload_n 0, 1) := by decide +kernel
theorem dC_rowOf_1 : decode mC_rowOf.2.1 1 = .ok (.iconst 5, 1) := by decide +kernel
theorem dC_rowOf_2 : decode mC_rowOf.2.1 2 = .ok (.imul, 1) := by decide +kernel
theorem dC_rowOf_3 : decode mC_rowOf.2.1 3 = .ok (.iload_n 1, 1) := by decide +kernel
theorem dC_rowOf_4 : decode mC_rowOf.2.1 4 = .ok (.iadd, 1) := by decide +kernel
theorem dC_rowOf_5 : decode mC_rowOf.2.1 5 = .ok (.bipush 9, 2) := by decide +kernel
theorem dC_rowOf_7 : decode mC_rowOf.2.1 7 = .ok (.imul, 1) := by decide +kernel
theorem dC_rowOf_8 : decode mC_rowOf.2.1 8 = .ok (.iload_n 2, 1) := by decide +kernel
theorem dC_rowOf_9 : decode mC_rowOf.2.1 9 = .ok (.iadd, 1) := by decide +kernel
theorem dC_rowOf_10 : decode mC_rowOf.2.1 10 = .ok (.bipush 9, 2) := by decide +kernel
theorem dC_rowOf_12 : decode mC_rowOf.2.1 12 = .ok (.imul, 1) := by decide +kernel
theorem dC_rowOf_13 : decode mC_rowOf.2.1 13 = .ok (.ireturn, 1) := by decide +kernel
theorem dC_clashOf_0 : decode mC_clashOf.2.1 0 = .ok (.aload_n 0, 1) := by decide +kernel
theorem dC_clashOf_1 : decode mC_clashOf.2.1 1 = .ok (.getfield 24, 3) := by decide +kernel
theorem dC_clashOf_4 : decode mC_clashOf.2.1 4 = .ok (.iload_n 1, 1) := by decide +kernel
theorem dC_clashOf_5 : decode mC_clashOf.2.1 5 = .ok (.iconst 4, 1) := by decide +kernel
theorem dC_clashOf_6 : decode mC_clashOf.2.1 6 = .ok (.invokevirtual 57, 3) := by decide +kernel
theorem dC_clashOf_9 : decode mC_clashOf.2.1 9 = .ok (.istore 4, 2) := by decide +kernel
theorem dC_clashOf_11 : decode mC_clashOf.2.1 11 = .ok (.aload_n 0, 1) := by decide +kernel
theorem dC_clashOf_12 : decode mC_clashOf.2.1 12 = .ok (.getfield 24, 3) := by decide +kernel
theorem dC_clashOf_15 : decode mC_clashOf.2.1 15 = .ok (.iload_n 2, 1) := by decide +kernel
theorem dC_clashOf_16 : decode mC_clashOf.2.1 16 = .ok (.iconst 3, 1) := by decide +kernel
theorem dC_clashOf_17 : decode mC_clashOf.2.1 17 = .ok (.invokevirtual 57, 3) := by decide +kernel
theorem dC_clashOf_20 : decode mC_clashOf.2.1 20 = .ok (.istore 5, 2) := by decide +kernel
theorem dC_clashOf_22 : decode mC_clashOf.2.1 22 = .ok (.aload_n 0, 1) := by decide +kernel
theorem dC_clashOf_23 : decode mC_clashOf.2.1 23 = .ok (.getfield 24, 3) := by decide +kernel
theorem dC_clashOf_26 : decode mC_clashOf.2.1 26 = .ok (.iload_n 2, 1) := by decide +kernel
theorem dC_clashOf_27 : decode mC_clashOf.2.1 27 = .ok (.iconst 4, 1) := by decide +kernel
theorem dC_clashOf_28 : decode mC_clashOf.2.1 28 = .ok (.invokevirtual 57, 3) := by decide +kernel
theorem dC_clashOf_31 : decode mC_clashOf.2.1 31 = .ok (.istore 6, 2) := by decide +kernel
theorem dC_clashOf_33 : decode mC_clashOf.2.1 33 = .ok (.iconst 0, 1) := by decide +kernel
theorem dC_clashOf_34 : decode mC_clashOf.2.1 34 = .ok (.istore 7, 2) := by decide +kernel
theorem dC_clashOf_36 : decode mC_clashOf.2.1 36 = .ok (.aload_n 0, 1) := by decide +kernel
theorem dC_clashOf_37 : decode mC_clashOf.2.1 37 = .ok (.getfield 24, 3) := by decide +kernel
theorem dC_clashOf_40 : decode mC_clashOf.2.1 40 = .ok (.iload_n 1, 1) := by decide +kernel
theorem dC_clashOf_41 : decode mC_clashOf.2.1 41 = .ok (.iconst 3, 1) := by decide +kernel
theorem dC_clashOf_42 : decode mC_clashOf.2.1 42 = .ok (.invokevirtual 57, 3) := by decide +kernel
theorem dC_clashOf_45 : decode mC_clashOf.2.1 45 = .ok (.istore 8, 2) := by decide +kernel
theorem dC_clashOf_47 : decode mC_clashOf.2.1 47 = .ok (.iload 8, 2) := by decide +kernel
theorem dC_clashOf_49 : decode mC_clashOf.2.1 49 = .ok (.iload 4, 2) := by decide +kernel
theorem dC_clashOf_51 : decode mC_clashOf.2.1 51 = .ok (.if_icmp .ge 87, 3) := by decide +kernel
theorem dC_clashOf_54 : decode mC_clashOf.2.1 54 = .ok (.iload 5, 2) := by decide +kernel
theorem dC_clashOf_56 : decode mC_clashOf.2.1 56 = .ok (.istore 9, 2) := by decide +kernel
theorem dC_clashOf_58 : decode mC_clashOf.2.1 58 = .ok (.iload 9, 2) := by decide +kernel
theorem dC_clashOf_60 : decode mC_clashOf.2.1 60 = .ok (.iload 6, 2) := by decide +kernel
theorem dC_clashOf_62 : decode mC_clashOf.2.1 62 = .ok (.if_icmp .ge 70, 3) := by decide +kernel
theorem dC_clashOf_65 : decode mC_clashOf.2.1 65 = .ok (.aload_n 0, 1) := by decide +kernel
theorem dC_clashOf_66 : decode mC_clashOf.2.1 66 = .ok (.getfield 18, 3) := by decide +kernel
theorem dC_clashOf_69 : decode mC_clashOf.2.1 69 = .ok (.iload 8, 2) := by decide +kernel
theorem dC_clashOf_71 : decode mC_clashOf.2.1 71 = .ok (.iaload, 1) := by decide +kernel
theorem dC_clashOf_72 : decode mC_clashOf.2.1 72 = .ok (.iload_n 3, 1) := by decide +kernel
theorem dC_clashOf_73 : decode mC_clashOf.2.1 73 = .ok (.iadd, 1) := by decide +kernel
theorem dC_clashOf_74 : decode mC_clashOf.2.1 74 = .ok (.aload_n 0, 1) := by decide +kernel
theorem dC_clashOf_75 : decode mC_clashOf.2.1 75 = .ok (.getfield 18, 3) := by decide +kernel
theorem dC_clashOf_78 : decode mC_clashOf.2.1 78 = .ok (.iload 9, 2) := by decide +kernel
theorem dC_clashOf_80 : decode mC_clashOf.2.1 80 = .ok (.iaload, 1) := by decide +kernel
theorem dC_clashOf_81 : decode mC_clashOf.2.1 81 = .ok (.if_icmp .ne 45, 3) := by decide +kernel
theorem dC_clashOf_84 : decode mC_clashOf.2.1 84 = .ok (.iload 7, 2) := by decide +kernel
theorem dC_clashOf_86 : decode mC_clashOf.2.1 86 = .ok (.aload_n 0, 1) := by decide +kernel
theorem dC_clashOf_87 : decode mC_clashOf.2.1 87 = .ok (.getfield 9, 3) := by decide +kernel
theorem dC_clashOf_90 : decode mC_clashOf.2.1 90 = .ok (.iload 8, 2) := by decide +kernel
theorem dC_clashOf_92 : decode mC_clashOf.2.1 92 = .ok (.iaload, 1) := by decide +kernel
theorem dC_clashOf_93 : decode mC_clashOf.2.1 93 = .ok (.aload_n 0, 1) := by decide +kernel
theorem dC_clashOf_94 : decode mC_clashOf.2.1 94 = .ok (.getfield 15, 3) := by decide +kernel
theorem dC_clashOf_97 : decode mC_clashOf.2.1 97 = .ok (.iload 9, 2) := by decide +kernel
theorem dC_clashOf_99 : decode mC_clashOf.2.1 99 = .ok (.iaload, 1) := by decide +kernel
theorem dC_clashOf_100 : decode mC_clashOf.2.1 100 = .ok (.iand, 1) := by decide +kernel
theorem dC_clashOf_101 : decode mC_clashOf.2.1 101 = .ok (.invokestatic 60, 3) := by decide +kernel
theorem dC_clashOf_104 : decode mC_clashOf.2.1 104 = .ok (.aload_n 0, 1) := by decide +kernel
theorem dC_clashOf_105 : decode mC_clashOf.2.1 105 = .ok (.getfield 15, 3) := by decide +kernel
theorem dC_clashOf_108 : decode mC_clashOf.2.1 108 = .ok (.iload 8, 2) := by decide +kernel
theorem dC_clashOf_110 : decode mC_clashOf.2.1 110 = .ok (.iaload, 1) := by decide +kernel
theorem dC_clashOf_111 : decode mC_clashOf.2.1 111 = .ok (.aload_n 0, 1) := by decide +kernel
theorem dC_clashOf_112 : decode mC_clashOf.2.1 112 = .ok (.getfield 9, 3) := by decide +kernel
theorem dC_clashOf_115 : decode mC_clashOf.2.1 115 = .ok (.iload 9, 2) := by decide +kernel
theorem dC_clashOf_117 : decode mC_clashOf.2.1 117 = .ok (.iaload, 1) := by decide +kernel
theorem dC_clashOf_118 : decode mC_clashOf.2.1 118 = .ok (.iand, 1) := by decide +kernel
theorem dC_clashOf_119 : decode mC_clashOf.2.1 119 = .ok (.invokestatic 60, 3) := by decide +kernel
theorem dC_clashOf_122 : decode mC_clashOf.2.1 122 = .ok (.iadd, 1) := by decide +kernel
theorem dC_clashOf_123 : decode mC_clashOf.2.1 123 = .ok (.iadd, 1) := by decide +kernel
theorem dC_clashOf_124 : decode mC_clashOf.2.1 124 = .ok (.istore 7, 2) := by decide +kernel
theorem dC_clashOf_126 : decode mC_clashOf.2.1 126 = .ok (.iinc 9 1, 3) := by decide +kernel
theorem dC_clashOf_129 : decode mC_clashOf.2.1 129 = .ok (.goto (-71), 3) := by decide +kernel
theorem dC_clashOf_132 : decode mC_clashOf.2.1 132 = .ok (.iinc 8 1, 3) := by decide +kernel
theorem dC_clashOf_135 : decode mC_clashOf.2.1 135 = .ok (.goto (-88), 3) := by decide +kernel
theorem dC_clashOf_138 : decode mC_clashOf.2.1 138 = .ok (.iload 7, 2) := by decide +kernel
theorem dC_clashOf_140 : decode mC_clashOf.2.1 140 = .ok (.ireturn, 1) := by decide +kernel
theorem dC_reckon_0 : decode mC_reckon.2.1 0 = .ok (.iconst 0, 1) := by decide +kernel
theorem dC_reckon_1 : decode mC_reckon.2.1 1 = .ok (.istore 5, 2) := by decide +kernel
theorem dC_reckon_3 : decode mC_reckon.2.1 3 = .ok (.aload_n 0, 1) := by decide +kernel
theorem dC_reckon_4 : decode mC_reckon.2.1 4 = .ok (.getfield 24, 3) := by decide +kernel
theorem dC_reckon_7 : decode mC_reckon.2.1 7 = .ok (.invokevirtual 42, 3) := by decide +kernel
theorem dC_reckon_10 : decode mC_reckon.2.1 10 = .ok (.istore 6, 2) := by decide +kernel
theorem dC_reckon_12 : decode mC_reckon.2.1 12 = .ok (.iconst 0, 1) := by decide +kernel
theorem dC_reckon_13 : decode mC_reckon.2.1 13 = .ok (.istore 7, 2) := by decide +kernel
theorem dC_reckon_15 : decode mC_reckon.2.1 15 = .ok (.iload 7, 2) := by decide +kernel
theorem dC_reckon_17 : decode mC_reckon.2.1 17 = .ok (.iload 6, 2) := by decide +kernel
theorem dC_reckon_19 : decode mC_reckon.2.1 19 = .ok (.if_icmp .ge 97, 3) := by decide +kernel
theorem dC_reckon_22 : decode mC_reckon.2.1 22 = .ok (.iload_n 1, 1) := by decide +kernel
theorem dC_reckon_23 : decode mC_reckon.2.1 23 = .ok (.iload_n 2, 1) := by decide +kernel
theorem dC_reckon_24 : decode mC_reckon.2.1 24 = .ok (.iload 7, 2) := by decide +kernel
theorem dC_reckon_26 : decode mC_reckon.2.1 26 = .ok (.invokestatic 46, 3) := by decide +kernel
theorem dC_reckon_29 : decode mC_reckon.2.1 29 = .ok (.istore 8, 2) := by decide +kernel
theorem dC_reckon_31 : decode mC_reckon.2.1 31 = .ok (.iconst 0, 1) := by decide +kernel
theorem dC_reckon_32 : decode mC_reckon.2.1 32 = .ok (.istore 9, 2) := by decide +kernel
theorem dC_reckon_34 : decode mC_reckon.2.1 34 = .ok (.iload 9, 2) := by decide +kernel
theorem dC_reckon_36 : decode mC_reckon.2.1 36 = .ok (.iload 6, 2) := by decide +kernel
theorem dC_reckon_38 : decode mC_reckon.2.1 38 = .ok (.if_icmp .ge 72, 3) := by decide +kernel
theorem dC_reckon_41 : decode mC_reckon.2.1 41 = .ok (.iload_n 3, 1) := by decide +kernel
theorem dC_reckon_42 : decode mC_reckon.2.1 42 = .ok (.iload 7, 2) := by decide +kernel
theorem dC_reckon_44 : decode mC_reckon.2.1 44 = .ok (.invokestatic 50, 3) := by decide +kernel
theorem dC_reckon_47 : decode mC_reckon.2.1 47 = .ok (.ifCond .eq 57, 3) := by decide +kernel
theorem dC_reckon_50 : decode mC_reckon.2.1 50 = .ok (.iload 4, 2) := by decide +kernel
theorem dC_reckon_52 : decode mC_reckon.2.1 52 = .ok (.iload 9, 2) := by decide +kernel
theorem dC_reckon_54 : decode mC_reckon.2.1 54 = .ok (.invokestatic 50, 3) := by decide +kernel
theorem dC_reckon_57 : decode mC_reckon.2.1 57 = .ok (.ifCond .eq 47, 3) := by decide +kernel
theorem dC_reckon_60 : decode mC_reckon.2.1 60 = .ok (.aload_n 0, 1) := by decide +kernel
theorem dC_reckon_61 : decode mC_reckon.2.1 61 = .ok (.getfield 21, 3) := by decide +kernel
theorem dC_reckon_64 : decode mC_reckon.2.1 64 = .ok (.iload 8, 2) := by decide +kernel
theorem dC_reckon_66 : decode mC_reckon.2.1 66 = .ok (.iload 9, 2) := by decide +kernel
theorem dC_reckon_68 : decode mC_reckon.2.1 68 = .ok (.iadd, 1) := by decide +kernel
theorem dC_reckon_69 : decode mC_reckon.2.1 69 = .ok (.aload_n 0, 1) := by decide +kernel
theorem dC_reckon_70 : decode mC_reckon.2.1 70 = .ok (.iload_n 1, 1) := by decide +kernel
theorem dC_reckon_71 : decode mC_reckon.2.1 71 = .ok (.iload_n 2, 1) := by decide +kernel
theorem dC_reckon_72 : decode mC_reckon.2.1 72 = .ok (.iload 7, 2) := by decide +kernel
theorem dC_reckon_74 : decode mC_reckon.2.1 74 = .ok (.iload 9, 2) := by decide +kernel
theorem dC_reckon_76 : decode mC_reckon.2.1 76 = .ok (.isub, 1) := by decide +kernel
theorem dC_reckon_77 : decode mC_reckon.2.1 77 = .ok (.invokevirtual 54, 3) := by decide +kernel
theorem dC_reckon_80 : decode mC_reckon.2.1 80 = .ok (.iastore, 1) := by decide +kernel
theorem dC_reckon_81 : decode mC_reckon.2.1 81 = .ok (.iload 5, 2) := by decide +kernel
theorem dC_reckon_83 : decode mC_reckon.2.1 83 = .ok (.aload_n 0, 1) := by decide +kernel
theorem dC_reckon_84 : decode mC_reckon.2.1 84 = .ok (.getfield 21, 3) := by decide +kernel
theorem dC_reckon_87 : decode mC_reckon.2.1 87 = .ok (.iload 8, 2) := by decide +kernel
theorem dC_reckon_89 : decode mC_reckon.2.1 89 = .ok (.iload 9, 2) := by decide +kernel
theorem dC_reckon_91 : decode mC_reckon.2.1 91 = .ok (.iadd, 1) := by decide +kernel
theorem dC_reckon_92 : decode mC_reckon.2.1 92 = .ok (.iaload, 1) := by decide +kernel
theorem dC_reckon_93 : decode mC_reckon.2.1 93 = .ok (.ifCond .le 7, 3) := by decide +kernel
theorem dC_reckon_96 : decode mC_reckon.2.1 96 = .ok (.iconst 1, 1) := by decide +kernel
theorem dC_reckon_97 : decode mC_reckon.2.1 97 = .ok (.goto 4, 3) := by decide +kernel
theorem dC_reckon_100 : decode mC_reckon.2.1 100 = .ok (.iconst 0, 1) := by decide +kernel
theorem dC_reckon_101 : decode mC_reckon.2.1 101 = .ok (.ior, 1) := by decide +kernel
theorem dC_reckon_102 : decode mC_reckon.2.1 102 = .ok (.istore 5, 2) := by decide +kernel
theorem dC_reckon_104 : decode mC_reckon.2.1 104 = .ok (.iinc 9 1, 3) := by decide +kernel
theorem dC_reckon_107 : decode mC_reckon.2.1 107 = .ok (.goto (-73), 3) := by decide +kernel
theorem dC_reckon_110 : decode mC_reckon.2.1 110 = .ok (.iinc 7 1, 3) := by decide +kernel
theorem dC_reckon_113 : decode mC_reckon.2.1 113 = .ok (.goto (-98), 3) := by decide +kernel
theorem dC_reckon_116 : decode mC_reckon.2.1 116 = .ok (.iload 5, 2) := by decide +kernel
theorem dC_reckon_118 : decode mC_reckon.2.1 118 = .ok (.ireturn, 1) := by decide +kernel
theorem dS_join_0 : decode mS_join.2.1 0 = .ok (.iload_n 1, 1) := by decide +kernel
theorem dS_join_1 : decode mS_join.2.1 1 = .ok (.iload_n 2, 1) := by decide +kernel
theorem dS_join_2 : decode mS_join.2.1 2 = .ok (.invokestatic 133, 3) := by decide +kernel
theorem dS_join_5 : decode mS_join.2.1 5 = .ok (.istore_n 3, 1) := by decide +kernel
theorem dS_join_6 : decode mS_join.2.1 6 = .ok (.iload_n 1, 1) := by decide +kernel
theorem dS_join_7 : decode mS_join.2.1 7 = .ok (.iload_n 2, 1) := by decide +kernel
theorem dS_join_8 : decode mS_join.2.1 8 = .ok (.invokestatic 138, 3) := by decide +kernel
theorem dS_join_11 : decode mS_join.2.1 11 = .ok (.istore 4, 2) := by decide +kernel
theorem dS_join_13 : decode mS_join.2.1 13 = .ok (.iconst 0, 1) := by decide +kernel
theorem dS_join_14 : decode mS_join.2.1 14 = .ok (.istore 5, 2) := by decide +kernel
theorem dS_join_16 : decode mS_join.2.1 16 = .ok (.iload 5, 2) := by decide +kernel
theorem dS_join_18 : decode mS_join.2.1 18 = .ok (.iconst 5, 1) := by decide +kernel
theorem dS_join_19 : decode mS_join.2.1 19 = .ok (.if_icmp .ge 29, 3) := by decide +kernel
theorem dS_join_22 : decode mS_join.2.1 22 = .ok (.aload_n 0, 1) := by decide +kernel
theorem dS_join_23 : decode mS_join.2.1 23 = .ok (.getfield 39, 3) := by decide +kernel
theorem dS_join_26 : decode mS_join.2.1 26 = .ok (.iload 5, 2) := by decide +kernel
theorem dS_join_28 : decode mS_join.2.1 28 = .ok (.iaload, 1) := by decide +kernel
theorem dS_join_29 : decode mS_join.2.1 29 = .ok (.iload 4, 2) := by decide +kernel
theorem dS_join_31 : decode mS_join.2.1 31 = .ok (.if_icmp .ne 11, 3) := by decide +kernel
theorem dS_join_34 : decode mS_join.2.1 34 = .ok (.aload_n 0, 1) := by decide +kernel
theorem dS_join_35 : decode mS_join.2.1 35 = .ok (.getfield 39, 3) := by decide +kernel
theorem dS_join_38 : decode mS_join.2.1 38 = .ok (.iload 5, 2) := by decide +kernel
theorem dS_join_40 : decode mS_join.2.1 40 = .ok (.iload_n 3, 1) := by decide +kernel
theorem dS_join_41 : decode mS_join.2.1 41 = .ok (.iastore, 1) := by decide +kernel
theorem dS_join_42 : decode mS_join.2.1 42 = .ok (.iinc 5 1, 3) := by decide +kernel
theorem dS_join_45 : decode mS_join.2.1 45 = .ok (.goto (-29), 3) := by decide +kernel
theorem dS_join_48 : decode mS_join.2.1 48 = .ok (.return_, 1) := by decide +kernel
theorem dS_nextOfGroup_0 : decode mS_nextOfGroup.2.1 0 = .ok (.iload_n 1, 1) := by decide +kernel
theorem dS_nextOfGroup_1 : decode mS_nextOfGroup.2.1 1 = .ok (.iconst 1, 1) := by decide +kernel
theorem dS_nextOfGroup_2 : decode mS_nextOfGroup.2.1 2 = .ok (.iadd, 1) := by decide +kernel
theorem dS_nextOfGroup_3 : decode mS_nextOfGroup.2.1 3 = .ok (.istore_n 2, 1) := by decide +kernel
theorem dS_nextOfGroup_4 : decode mS_nextOfGroup.2.1 4 = .ok (.iload_n 2, 1) := by decide +kernel
theorem dS_nextOfGroup_5 : decode mS_nextOfGroup.2.1 5 = .ok (.iconst 5, 1) := by decide +kernel
theorem dS_nextOfGroup_6 : decode mS_nextOfGroup.2.1 6 = .ok (.if_icmp .ge 24, 3) := by decide +kernel
theorem dS_nextOfGroup_9 : decode mS_nextOfGroup.2.1 9 = .ok (.aload_n 0, 1) := by decide +kernel
theorem dS_nextOfGroup_10 : decode mS_nextOfGroup.2.1 10 = .ok (.getfield 39, 3) := by decide +kernel
theorem dS_nextOfGroup_13 : decode mS_nextOfGroup.2.1 13 = .ok (.iload_n 2, 1) := by decide +kernel
theorem dS_nextOfGroup_14 : decode mS_nextOfGroup.2.1 14 = .ok (.iaload, 1) := by decide +kernel
theorem dS_nextOfGroup_15 : decode mS_nextOfGroup.2.1 15 = .ok (.aload_n 0, 1) := by decide +kernel
theorem dS_nextOfGroup_16 : decode mS_nextOfGroup.2.1 16 = .ok (.getfield 39, 3) := by decide +kernel
theorem dS_nextOfGroup_19 : decode mS_nextOfGroup.2.1 19 = .ok (.iload_n 1, 1) := by decide +kernel
theorem dS_nextOfGroup_20 : decode mS_nextOfGroup.2.1 20 = .ok (.iaload, 1) := by decide +kernel
theorem dS_nextOfGroup_21 : decode mS_nextOfGroup.2.1 21 = .ok (.if_icmp .eq 9, 3) := by decide +kernel
theorem dS_nextOfGroup_24 : decode mS_nextOfGroup.2.1 24 = .ok (.iinc 2 1, 3) := by decide +kernel
theorem dS_nextOfGroup_27 : decode mS_nextOfGroup.2.1 27 = .ok (.goto (-23), 3) := by decide +kernel
theorem dS_nextOfGroup_30 : decode mS_nextOfGroup.2.1 30 = .ok (.iload_n 2, 1) := by decide +kernel
theorem dS_nextOfGroup_31 : decode mS_nextOfGroup.2.1 31 = .ok (.ireturn, 1) := by decide +kernel
theorem dS_formGroups_0 : decode mS_formGroups.2.1 0 = .ok (.aload_n 0, 1) := by decide +kernel
theorem dS_formGroups_1 : decode mS_formGroups.2.1 1 = .ok (.getfield 75, 3) := by decide +kernel
theorem dS_formGroups_4 : decode mS_formGroups.2.1 4 = .ok (.invokevirtual 119, 3) := by decide +kernel
theorem dS_formGroups_7 : decode mS_formGroups.2.1 7 = .ok (.iconst 0, 1) := by decide +kernel
theorem dS_formGroups_8 : decode mS_formGroups.2.1 8 = .ok (.istore_n 1, 1) := by decide +kernel
theorem dS_formGroups_9 : decode mS_formGroups.2.1 9 = .ok (.iload_n 1, 1) := by decide +kernel
theorem dS_formGroups_10 : decode mS_formGroups.2.1 10 = .ok (.iconst 5, 1) := by decide +kernel
theorem dS_formGroups_11 : decode mS_formGroups.2.1 11 = .ok (.if_icmp .ge 87, 3) := by decide +kernel
theorem dS_formGroups_14 : decode mS_formGroups.2.1 14 = .ok (.aload_n 0, 1) := by decide +kernel
theorem dS_formGroups_15 : decode mS_formGroups.2.1 15 = .ok (.getfield 39, 3) := by decide +kernel
theorem dS_formGroups_18 : decode mS_formGroups.2.1 18 = .ok (.iload_n 1, 1) := by decide +kernel
theorem dS_formGroups_19 : decode mS_formGroups.2.1 19 = .ok (.iload_n 1, 1) := by decide +kernel
theorem dS_formGroups_20 : decode mS_formGroups.2.1 20 = .ok (.iastore, 1) := by decide +kernel
theorem dS_formGroups_21 : decode mS_formGroups.2.1 21 = .ok (.iconst 0, 1) := by decide +kernel
theorem dS_formGroups_22 : decode mS_formGroups.2.1 22 = .ok (.istore_n 2, 1) := by decide +kernel
theorem dS_formGroups_23 : decode mS_formGroups.2.1 23 = .ok (.iload_n 2, 1) := by decide +kernel
theorem dS_formGroups_24 : decode mS_formGroups.2.1 24 = .ok (.iload_n 1, 1) := by decide +kernel
theorem dS_formGroups_25 : decode mS_formGroups.2.1 25 = .ok (.if_icmp .ge 67, 3) := by decide +kernel
theorem dS_formGroups_28 : decode mS_formGroups.2.1 28 = .ok (.aload_n 0, 1) := by decide +kernel
theorem dS_formGroups_29 : decode mS_formGroups.2.1 29 = .ok (.getfield 35, 3) := by decide +kernel
theorem dS_formGroups_32 : decode mS_formGroups.2.1 32 = .ok (.iload_n 2, 1) := by decide +kernel
theorem dS_formGroups_33 : decode mS_formGroups.2.1 33 = .ok (.baload, 1) := by decide +kernel
theorem dS_formGroups_34 : decode mS_formGroups.2.1 34 = .ok (.ifCond .eq 52, 3) := by decide +kernel
theorem dS_formGroups_37 : decode mS_formGroups.2.1 37 = .ok (.aload_n 0, 1) := by decide +kernel
theorem dS_formGroups_38 : decode mS_formGroups.2.1 38 = .ok (.getfield 35, 3) := by decide +kernel
theorem dS_formGroups_41 : decode mS_formGroups.2.1 41 = .ok (.iload_n 1, 1) := by decide +kernel
theorem dS_formGroups_42 : decode mS_formGroups.2.1 42 = .ok (.baload, 1) := by decide +kernel
theorem dS_formGroups_43 : decode mS_formGroups.2.1 43 = .ok (.ifCond .eq 43, 3) := by decide +kernel
theorem dS_formGroups_46 : decode mS_formGroups.2.1 46 = .ok (.aload_n 0, 1) := by decide +kernel
theorem dS_formGroups_47 : decode mS_formGroups.2.1 47 = .ok (.getfield 75, 3) := by decide +kernel
theorem dS_formGroups_50 : decode mS_formGroups.2.1 50 = .ok (.iload_n 2, 1) := by decide +kernel
theorem dS_formGroups_51 : decode mS_formGroups.2.1 51 = .ok (.iload_n 1, 1) := by decide +kernel
theorem dS_formGroups_52 : decode mS_formGroups.2.1 52 = .ok (.aload_n 0, 1) := by decide +kernel
theorem dS_formGroups_53 : decode mS_formGroups.2.1 53 = .ok (.getfield 45, 3) := by decide +kernel
theorem dS_formGroups_56 : decode mS_formGroups.2.1 56 = .ok (.iload_n 2, 1) := by decide +kernel
theorem dS_formGroups_57 : decode mS_formGroups.2.1 57 = .ok (.iaload, 1) := by decide +kernel
theorem dS_formGroups_58 : decode mS_formGroups.2.1 58 = .ok (.aload_n 0, 1) := by decide +kernel
theorem dS_formGroups_59 : decode mS_formGroups.2.1 59 = .ok (.getfield 45, 3) := by decide +kernel
theorem dS_formGroups_62 : decode mS_formGroups.2.1 62 = .ok (.iload_n 1, 1) := by decide +kernel
theorem dS_formGroups_63 : decode mS_formGroups.2.1 63 = .ok (.iaload, 1) := by decide +kernel
theorem dS_formGroups_64 : decode mS_formGroups.2.1 64 = .ok (.invokevirtual 122, 3) := by decide +kernel
theorem dS_formGroups_67 : decode mS_formGroups.2.1 67 = .ok (.ifCond .eq 19, 3) := by decide +kernel
theorem dS_formGroups_70 : decode mS_formGroups.2.1 70 = .ok (.aload_n 0, 1) := by decide +kernel
theorem dS_formGroups_71 : decode mS_formGroups.2.1 71 = .ok (.aload_n 0, 1) := by decide +kernel
theorem dS_formGroups_72 : decode mS_formGroups.2.1 72 = .ok (.getfield 39, 3) := by decide +kernel
theorem dS_formGroups_75 : decode mS_formGroups.2.1 75 = .ok (.iload_n 2, 1) := by decide +kernel
theorem dS_formGroups_76 : decode mS_formGroups.2.1 76 = .ok (.iaload, 1) := by decide +kernel
theorem dS_formGroups_77 : decode mS_formGroups.2.1 77 = .ok (.aload_n 0, 1) := by decide +kernel
theorem dS_formGroups_78 : decode mS_formGroups.2.1 78 = .ok (.getfield 39, 3) := by decide +kernel
theorem dS_formGroups_81 : decode mS_formGroups.2.1 81 = .ok (.iload_n 1, 1) := by decide +kernel
theorem dS_formGroups_82 : decode mS_formGroups.2.1 82 = .ok (.iaload, 1) := by decide +kernel
theorem dS_formGroups_83 : decode mS_formGroups.2.1 83 = .ok (.invokevirtual 126, 3) := by decide +kernel
theorem dS_formGroups_86 : decode mS_formGroups.2.1 86 = .ok (.iinc 2 1, 3) := by decide +kernel
theorem dS_formGroups_89 : decode mS_formGroups.2.1 89 = .ok (.goto (-66), 3) := by decide +kernel
theorem dS_formGroups_92 : decode mS_formGroups.2.1 92 = .ok (.iinc 1 1, 3) := by decide +kernel
theorem dS_formGroups_95 : decode mS_formGroups.2.1 95 = .ok (.goto (-86), 3) := by decide +kernel
theorem dS_formGroups_98 : decode mS_formGroups.2.1 98 = .ok (.iconst 0, 1) := by decide +kernel
theorem dS_formGroups_99 : decode mS_formGroups.2.1 99 = .ok (.istore_n 1, 1) := by decide +kernel
theorem dS_formGroups_100 : decode mS_formGroups.2.1 100 = .ok (.iload_n 1, 1) := by decide +kernel
theorem dS_formGroups_101 : decode mS_formGroups.2.1 101 = .ok (.iconst 5, 1) := by decide +kernel
theorem dS_formGroups_102 : decode mS_formGroups.2.1 102 = .ok (.if_icmp .ge 20, 3) := by decide +kernel
theorem dS_formGroups_105 : decode mS_formGroups.2.1 105 = .ok (.aload_n 0, 1) := by decide +kernel
theorem dS_formGroups_106 : decode mS_formGroups.2.1 106 = .ok (.getfield 42, 3) := by decide +kernel
theorem dS_formGroups_109 : decode mS_formGroups.2.1 109 = .ok (.iload_n 1, 1) := by decide +kernel
theorem dS_formGroups_110 : decode mS_formGroups.2.1 110 = .ok (.aload_n 0, 1) := by decide +kernel
theorem dS_formGroups_111 : decode mS_formGroups.2.1 111 = .ok (.iload_n 1, 1) := by decide +kernel
theorem dS_formGroups_112 : decode mS_formGroups.2.1 112 = .ok (.invokevirtual 130, 3) := by decide +kernel
theorem dS_formGroups_115 : decode mS_formGroups.2.1 115 = .ok (.iastore, 1) := by decide +kernel
theorem dS_formGroups_116 : decode mS_formGroups.2.1 116 = .ok (.iinc 1 1, 3) := by decide +kernel
theorem dS_formGroups_119 : decode mS_formGroups.2.1 119 = .ok (.goto (-19), 3) := by decide +kernel
theorem dS_formGroups_122 : decode mS_formGroups.2.1 122 = .ok (.return_, 1) := by decide +kernel
theorem dS_leadsGroup_0 : decode mS_leadsGroup.2.1 0 = .ok (.aload_n 0, 1) := by decide +kernel
theorem dS_leadsGroup_1 : decode mS_leadsGroup.2.1 1 = .ok (.getfield 35, 3) := by decide +kernel
theorem dS_leadsGroup_4 : decode mS_leadsGroup.2.1 4 = .ok (.iload_n 1, 1) := by decide +kernel
theorem dS_leadsGroup_5 : decode mS_leadsGroup.2.1 5 = .ok (.baload, 1) := by decide +kernel
theorem dS_leadsGroup_6 : decode mS_leadsGroup.2.1 6 = .ok (.ifCond .eq 17, 3) := by decide +kernel
theorem dS_leadsGroup_9 : decode mS_leadsGroup.2.1 9 = .ok (.aload_n 0, 1) := by decide +kernel
theorem dS_leadsGroup_10 : decode mS_leadsGroup.2.1 10 = .ok (.getfield 39, 3) := by decide +kernel
theorem dS_leadsGroup_13 : decode mS_leadsGroup.2.1 13 = .ok (.iload_n 1, 1) := by decide +kernel
theorem dS_leadsGroup_14 : decode mS_leadsGroup.2.1 14 = .ok (.iaload, 1) := by decide +kernel
theorem dS_leadsGroup_15 : decode mS_leadsGroup.2.1 15 = .ok (.iload_n 1, 1) := by decide +kernel
theorem dS_leadsGroup_16 : decode mS_leadsGroup.2.1 16 = .ok (.if_icmp .ne 7, 3) := by decide +kernel
theorem dS_leadsGroup_19 : decode mS_leadsGroup.2.1 19 = .ok (.iconst 1, 1) := by decide +kernel
theorem dS_leadsGroup_20 : decode mS_leadsGroup.2.1 20 = .ok (.goto 4, 3) := by decide +kernel
theorem dS_leadsGroup_23 : decode mS_leadsGroup.2.1 23 = .ok (.iconst 0, 1) := by decide +kernel
theorem dS_leadsGroup_24 : decode mS_leadsGroup.2.1 24 = .ok (.ireturn, 1) := by decide +kernel
theorem dJ_rangeCheck_0 : decode mJ_rangeCheck.2.1 0 = .ok (.iload_n 1, 1) := by decide +kernel
theorem dJ_rangeCheck_1 : decode mJ_rangeCheck.2.1 1 = .ok (.iload_n 2, 1) := by decide +kernel
theorem dJ_rangeCheck_2 : decode mJ_rangeCheck.2.1 2 = .ok (.if_icmp .le 44, 3) := by decide +kernel
theorem dJ_rangeCheck_5 : decode mJ_rangeCheck.2.1 5 = .ok (.new 43, 3) := by decide +kernel
theorem dJ_rangeCheck_46 : decode mJ_rangeCheck.2.1 46 = .ok (.iload_n 1, 1) := by decide +kernel
theorem dJ_rangeCheck_47 : decode mJ_rangeCheck.2.1 47 = .ok (.ifCond .ge 12, 3) := by decide +kernel
theorem dJ_rangeCheck_50 : decode mJ_rangeCheck.2.1 50 = .ok (.new 68, 3) := by decide +kernel
theorem dJ_rangeCheck_59 : decode mJ_rangeCheck.2.1 59 = .ok (.iload_n 2, 1) := by decide +kernel
theorem dJ_rangeCheck_60 : decode mJ_rangeCheck.2.1 60 = .ok (.iload_n 0, 1) := by decide +kernel
theorem dJ_rangeCheck_61 : decode mJ_rangeCheck.2.1 61 = .ok (.if_icmp .le 12, 3) := by decide +kernel
theorem dJ_rangeCheck_64 : decode mJ_rangeCheck.2.1 64 = .ok (.new 68, 3) := by decide +kernel
theorem dJ_rangeCheck_73 : decode mJ_rangeCheck.2.1 73 = .ok (.return_, 1) := by decide +kernel
theorem dJ_fill4_0 : decode mJ_fill4.2.1 0 = .ok (.aload_n 0, 1) := by decide +kernel
theorem dJ_fill4_1 : decode mJ_fill4.2.1 1 = .ok (.arraylength, 1) := by decide +kernel
theorem dJ_fill4_2 : decode mJ_fill4.2.1 2 = .ok (.iload_n 1, 1) := by decide +kernel
theorem dJ_fill4_3 : decode mJ_fill4.2.1 3 = .ok (.iload_n 2, 1) := by decide +kernel
theorem dJ_fill4_4 : decode mJ_fill4.2.1 4 = .ok (.invokestatic 13, 3) := by decide +kernel
theorem dJ_fill4_7 : decode mJ_fill4.2.1 7 = .ok (.iload_n 1, 1) := by decide +kernel
theorem dJ_fill4_8 : decode mJ_fill4.2.1 8 = .ok (.istore 4, 2) := by decide +kernel
theorem dJ_fill4_10 : decode mJ_fill4.2.1 10 = .ok (.iload 4, 2) := by decide +kernel
theorem dJ_fill4_12 : decode mJ_fill4.2.1 12 = .ok (.iload_n 2, 1) := by decide +kernel
theorem dJ_fill4_13 : decode mJ_fill4.2.1 13 = .ok (.if_icmp .ge 14, 3) := by decide +kernel
theorem dJ_fill4_16 : decode mJ_fill4.2.1 16 = .ok (.aload_n 0, 1) := by decide +kernel
theorem dJ_fill4_17 : decode mJ_fill4.2.1 17 = .ok (.iload 4, 2) := by decide +kernel
theorem dJ_fill4_19 : decode mJ_fill4.2.1 19 = .ok (.iload_n 3, 1) := by decide +kernel
theorem dJ_fill4_20 : decode mJ_fill4.2.1 20 = .ok (.iastore, 1) := by decide +kernel
theorem dJ_fill4_21 : decode mJ_fill4.2.1 21 = .ok (.iinc 4 1, 3) := by decide +kernel
theorem dJ_fill4_24 : decode mJ_fill4.2.1 24 = .ok (.goto (-14), 3) := by decide +kernel
theorem dJ_fill4_27 : decode mJ_fill4.2.1 27 = .ok (.return_, 1) := by decide +kernel
theorem dS_loadOf_0 : decode mS_loadOf.2.1 0 = .ok (.aload_n 0, 1) := by decide +kernel
theorem dS_loadOf_1 : decode mS_loadOf.2.1 1 = .ok (.getfield 63, 3) := by decide +kernel
theorem dS_loadOf_4 : decode mS_loadOf.2.1 4 = .ok (.iload_n 1, 1) := by decide +kernel
theorem dS_loadOf_5 : decode mS_loadOf.2.1 5 = .ok (.bipush 45, 2) := by decide +kernel
theorem dS_loadOf_7 : decode mS_loadOf.2.1 7 = .ok (.imul, 1) := by decide +kernel
theorem dS_loadOf_8 : decode mS_loadOf.2.1 8 = .ok (.iload_n 1, 1) := by decide +kernel
theorem dS_loadOf_9 : decode mS_loadOf.2.1 9 = .ok (.bipush 9, 2) := by decide +kernel
theorem dS_loadOf_11 : decode mS_loadOf.2.1 11 = .ok (.imul, 1) := by decide +kernel
theorem dS_loadOf_12 : decode mS_loadOf.2.1 12 = .ok (.iadd, 1) := by decide +kernel
theorem dS_loadOf_13 : decode mS_loadOf.2.1 13 = .ok (.iload_n 2, 1) := by decide +kernel
theorem dS_loadOf_14 : decode mS_loadOf.2.1 14 = .ok (.iadd, 1) := by decide +kernel
theorem dS_loadOf_15 : decode mS_loadOf.2.1 15 = .ok (.iaload, 1) := by decide +kernel
theorem dS_loadOf_16 : decode mS_loadOf.2.1 16 = .ok (.ireturn, 1) := by decide +kernel
theorem dS_lay_0 : decode mS_lay.2.1 0 = .ok (.aload_n 0, 1) := by decide +kernel
theorem dS_lay_1 : decode mS_lay.2.1 1 = .ok (.getfield 42, 3) := by decide +kernel
theorem dS_lay_4 : decode mS_lay.2.1 4 = .ok (.iload_n 1, 1) := by decide +kernel
theorem dS_lay_5 : decode mS_lay.2.1 5 = .ok (.iaload, 1) := by decide +kernel
theorem dS_lay_6 : decode mS_lay.2.1 6 = .ok (.istore_n 3, 1) := by decide +kernel
theorem dS_lay_7 : decode mS_lay.2.1 7 = .ok (.iload_n 3, 1) := by decide +kernel
theorem dS_lay_8 : decode mS_lay.2.1 8 = .ok (.istore 4, 2) := by decide +kernel
theorem dS_lay_10 : decode mS_lay.2.1 10 = .ok (.iload 4, 2) := by decide +kernel
theorem dS_lay_12 : decode mS_lay.2.1 12 = .ok (.iconst 5, 1) := by decide +kernel
theorem dS_lay_13 : decode mS_lay.2.1 13 = .ok (.if_icmp .ge 110, 3) := by decide +kernel
theorem dS_lay_16 : decode mS_lay.2.1 16 = .ok (.aload_n 0, 1) := by decide +kernel
theorem dS_lay_17 : decode mS_lay.2.1 17 = .ok (.getfield 39, 3) := by decide +kernel
theorem dS_lay_20 : decode mS_lay.2.1 20 = .ok (.iload 4, 2) := by decide +kernel
theorem dS_lay_22 : decode mS_lay.2.1 22 = .ok (.iaload, 1) := by decide +kernel
theorem dS_lay_23 : decode mS_lay.2.1 23 = .ok (.aload_n 0, 1) := by decide +kernel
theorem dS_lay_24 : decode mS_lay.2.1 24 = .ok (.getfield 39, 3) := by decide +kernel
theorem dS_lay_27 : decode mS_lay.2.1 27 = .ok (.iload_n 1, 1) := by decide +kernel
theorem dS_lay_28 : decode mS_lay.2.1 28 = .ok (.iaload, 1) := by decide +kernel
theorem dS_lay_29 : decode mS_lay.2.1 29 = .ok (.if_icmp .ne 88, 3) := by decide +kernel
theorem dS_lay_32 : decode mS_lay.2.1 32 = .ok (.iload_n 1, 1) := by decide +kernel
theorem dS_lay_33 : decode mS_lay.2.1 33 = .ok (.bipush 45, 2) := by decide +kernel
theorem dS_lay_35 : decode mS_lay.2.1 35 = .ok (.imul, 1) := by decide +kernel
theorem dS_lay_36 : decode mS_lay.2.1 36 = .ok (.iload 4, 2) := by decide +kernel
theorem dS_lay_38 : decode mS_lay.2.1 38 = .ok (.bipush 9, 2) := by decide +kernel
theorem dS_lay_40 : decode mS_lay.2.1 40 = .ok (.imul, 1) := by decide +kernel
theorem dS_lay_41 : decode mS_lay.2.1 41 = .ok (.iadd, 1) := by decide +kernel
theorem dS_lay_42 : decode mS_lay.2.1 42 = .ok (.istore 5, 2) := by decide +kernel
theorem dS_lay_44 : decode mS_lay.2.1 44 = .ok (.iload_n 3, 1) := by decide +kernel
theorem dS_lay_45 : decode mS_lay.2.1 45 = .ok (.bipush 45, 2) := by decide +kernel
theorem dS_lay_47 : decode mS_lay.2.1 47 = .ok (.imul, 1) := by decide +kernel
theorem dS_lay_48 : decode mS_lay.2.1 48 = .ok (.iload 4, 2) := by decide +kernel
theorem dS_lay_50 : decode mS_lay.2.1 50 = .ok (.bipush 9, 2) := by decide +kernel
theorem dS_lay_52 : decode mS_lay.2.1 52 = .ok (.imul, 1) := by decide +kernel
theorem dS_lay_53 : decode mS_lay.2.1 53 = .ok (.iadd, 1) := by decide +kernel
theorem dS_lay_54 : decode mS_lay.2.1 54 = .ok (.istore 6, 2) := by decide +kernel
theorem dS_lay_56 : decode mS_lay.2.1 56 = .ok (.iload_n 1, 1) := by decide +kernel
theorem dS_lay_57 : decode mS_lay.2.1 57 = .ok (.iload 4, 2) := by decide +kernel
theorem dS_lay_59 : decode mS_lay.2.1 59 = .ok (.iload_n 2, 1) := by decide +kernel
theorem dS_lay_60 : decode mS_lay.2.1 60 = .ok (.invokestatic 171, 3) := by decide +kernel
theorem dS_lay_63 : decode mS_lay.2.1 63 = .ok (.istore 7, 2) := by decide +kernel
theorem dS_lay_65 : decode mS_lay.2.1 65 = .ok (.iconst 0, 1) := by decide +kernel
theorem dS_lay_66 : decode mS_lay.2.1 66 = .ok (.istore 8, 2) := by decide +kernel
theorem dS_lay_68 : decode mS_lay.2.1 68 = .ok (.iload 8, 2) := by decide +kernel
theorem dS_lay_70 : decode mS_lay.2.1 70 = .ok (.aload_n 0, 1) := by decide +kernel
theorem dS_lay_71 : decode mS_lay.2.1 71 = .ok (.getfield 15, 3) := by decide +kernel
theorem dS_lay_74 : decode mS_lay.2.1 74 = .ok (.if_icmp .ge 43, 3) := by decide +kernel
theorem dS_lay_77 : decode mS_lay.2.1 77 = .ok (.aload_n 0, 1) := by decide +kernel
theorem dS_lay_78 : decode mS_lay.2.1 78 = .ok (.getfield 63, 3) := by decide +kernel
theorem dS_lay_81 : decode mS_lay.2.1 81 = .ok (.iload 6, 2) := by decide +kernel
theorem dS_lay_83 : decode mS_lay.2.1 83 = .ok (.iload 8, 2) := by decide +kernel
theorem dS_lay_85 : decode mS_lay.2.1 85 = .ok (.iadd, 1) := by decide +kernel
theorem dS_lay_86 : decode mS_lay.2.1 86 = .ok (.aload_n 0, 1) := by decide +kernel
theorem dS_lay_87 : decode mS_lay.2.1 87 = .ok (.getfield 63, 3) := by decide +kernel
theorem dS_lay_90 : decode mS_lay.2.1 90 = .ok (.iload 5, 2) := by decide +kernel
theorem dS_lay_92 : decode mS_lay.2.1 92 = .ok (.iload 8, 2) := by decide +kernel
theorem dS_lay_94 : decode mS_lay.2.1 94 = .ok (.iadd, 1) := by decide +kernel
theorem dS_lay_95 : decode mS_lay.2.1 95 = .ok (.iaload, 1) := by decide +kernel
theorem dS_lay_96 : decode mS_lay.2.1 96 = .ok (.aload_n 0, 1) := by decide +kernel
theorem dS_lay_97 : decode mS_lay.2.1 97 = .ok (.getfield 75, 3) := by decide +kernel
theorem dS_lay_100 : decode mS_lay.2.1 100 = .ok (.getfield 175, 3) := by decide +kernel
theorem dS_lay_103 : decode mS_lay.2.1 103 = .ok (.iload 7, 2) := by decide +kernel
theorem dS_lay_105 : decode mS_lay.2.1 105 = .ok (.iload 8, 2) := by decide +kernel
theorem dS_lay_107 : decode mS_lay.2.1 107 = .ok (.iadd, 1) := by decide +kernel
theorem dS_lay_108 : decode mS_lay.2.1 108 = .ok (.iaload, 1) := by decide +kernel
theorem dS_lay_109 : decode mS_lay.2.1 109 = .ok (.iadd, 1) := by decide +kernel
theorem dS_lay_110 : decode mS_lay.2.1 110 = .ok (.iastore, 1) := by decide +kernel
theorem dS_lay_111 : decode mS_lay.2.1 111 = .ok (.iinc 8 1, 3) := by decide +kernel
theorem dS_lay_114 : decode mS_lay.2.1 114 = .ok (.goto (-46), 3) := by decide +kernel
theorem dS_lay_117 : decode mS_lay.2.1 117 = .ok (.iinc 4 1, 3) := by decide +kernel
theorem dS_lay_120 : decode mS_lay.2.1 120 = .ok (.goto (-110), 3) := by decide +kernel
theorem dS_lay_123 : decode mS_lay.2.1 123 = .ok (.return_, 1) := by decide +kernel
theorem dS_lower_0 : decode mS_lower.2.1 0 = .ok (.iload_n 1, 1) := by decide +kernel
theorem dS_lower_1 : decode mS_lower.2.1 1 = .ok (.iconst 5, 1) := by decide +kernel
theorem dS_lower_2 : decode mS_lower.2.1 2 = .ok (.if_icmp .lt 9, 3) := by decide +kernel
theorem dS_lower_5 : decode mS_lower.2.1 5 = .ok (.aload_n 0, 1) := by decide +kernel
theorem dS_lower_6 : decode mS_lower.2.1 6 = .ok (.iload_n 2, 1) := by decide +kernel
theorem dS_lower_7 : decode mS_lower.2.1 7 = .ok (.putfield 29, 3) := by decide +kernel
theorem dS_lower_10 : decode mS_lower.2.1 10 = .ok (.return_, 1) := by decide +kernel
theorem dS_lower_11 : decode mS_lower.2.1 11 = .ok (.iconst 0, 1) := by decide +kernel
theorem dS_lower_12 : decode mS_lower.2.1 12 = .ok (.istore_n 3, 1) := by decide +kernel
theorem dS_lower_13 : decode mS_lower.2.1 13 = .ok (.iload_n 3, 1) := by decide +kernel
theorem dS_lower_14 : decode mS_lower.2.1 14 = .ok (.aload_n 0, 1) := by decide +kernel
theorem dS_lower_15 : decode mS_lower.2.1 15 = .ok (.getfield 15, 3) := by decide +kernel
theorem dS_lower_18 : decode mS_lower.2.1 18 = .ok (.if_icmp .ge 61, 3) := by decide +kernel
theorem dS_lower_21 : decode mS_lower.2.1 21 = .ok (.aload_n 0, 1) := by decide +kernel
theorem dS_lower_22 : decode mS_lower.2.1 22 = .ok (.getfield 45, 3) := by decide +kernel
theorem dS_lower_25 : decode mS_lower.2.1 25 = .ok (.iload_n 1, 1) := by decide +kernel
theorem dS_lower_26 : decode mS_lower.2.1 26 = .ok (.iaload, 1) := by decide +kernel
theorem dS_lower_27 : decode mS_lower.2.1 27 = .ok (.iload_n 3, 1) := by decide +kernel
theorem dS_lower_28 : decode mS_lower.2.1 28 = .ok (.invokestatic 178, 3) := by decide +kernel
theorem dS_lower_31 : decode mS_lower.2.1 31 = .ok (.ifCond .eq 42, 3) := by decide +kernel
theorem dS_lower_34 : decode mS_lower.2.1 34 = .ok (.iload_n 2, 1) := by decide +kernel
theorem dS_lower_35 : decode mS_lower.2.1 35 = .ok (.aload_n 0, 1) := by decide +kernel
theorem dS_lower_36 : decode mS_lower.2.1 36 = .ok (.iload_n 1, 1) := by decide +kernel
theorem dS_lower_37 : decode mS_lower.2.1 37 = .ok (.iload_n 3, 1) := by decide +kernel
theorem dS_lower_38 : decode mS_lower.2.1 38 = .ok (.invokevirtual 182, 3) := by decide +kernel
theorem dS_lower_41 : decode mS_lower.2.1 41 = .ok (.iadd, 1) := by decide +kernel
theorem dS_lower_42 : decode mS_lower.2.1 42 = .ok (.aload_n 0, 1) := by decide +kernel
theorem dS_lower_43 : decode mS_lower.2.1 43 = .ok (.getfield 29, 3) := by decide +kernel
theorem dS_lower_46 : decode mS_lower.2.1 46 = .ok (.if_icmp .ge 27, 3) := by decide +kernel
theorem dS_lower_49 : decode mS_lower.2.1 49 = .ok (.aload_n 0, 1) := by decide +kernel
theorem dS_lower_50 : decode mS_lower.2.1 50 = .ok (.iload_n 1, 1) := by decide +kernel
theorem dS_lower_51 : decode mS_lower.2.1 51 = .ok (.iload_n 3, 1) := by decide +kernel
theorem dS_lower_52 : decode mS_lower.2.1 52 = .ok (.invokevirtual 185, 3) := by decide +kernel
theorem dS_lower_55 : decode mS_lower.2.1 55 = .ok (.aload_n 0, 1) := by decide +kernel
theorem dS_lower_56 : decode mS_lower.2.1 56 = .ok (.aload_n 0, 1) := by decide +kernel
theorem dS_lower_57 : decode mS_lower.2.1 57 = .ok (.getfield 42, 3) := by decide +kernel
theorem dS_lower_60 : decode mS_lower.2.1 60 = .ok (.iload_n 1, 1) := by decide +kernel
theorem dS_lower_61 : decode mS_lower.2.1 61 = .ok (.iaload, 1) := by decide +kernel
theorem dS_lower_62 : decode mS_lower.2.1 62 = .ok (.iload_n 2, 1) := by decide +kernel
theorem dS_lower_63 : decode mS_lower.2.1 63 = .ok (.aload_n 0, 1) := by decide +kernel
theorem dS_lower_64 : decode mS_lower.2.1 64 = .ok (.iload_n 1, 1) := by decide +kernel
theorem dS_lower_65 : decode mS_lower.2.1 65 = .ok (.iload_n 3, 1) := by decide +kernel
theorem dS_lower_66 : decode mS_lower.2.1 66 = .ok (.invokevirtual 182, 3) := by decide +kernel
theorem dS_lower_69 : decode mS_lower.2.1 69 = .ok (.iadd, 1) := by decide +kernel
theorem dS_lower_70 : decode mS_lower.2.1 70 = .ok (.invokevirtual 151, 3) := by decide +kernel
theorem dS_lower_73 : decode mS_lower.2.1 73 = .ok (.iinc 3 1, 3) := by decide +kernel
theorem dS_lower_76 : decode mS_lower.2.1 76 = .ok (.goto (-63), 3) := by decide +kernel
theorem dS_lower_79 : decode mS_lower.2.1 79 = .ok (.return_, 1) := by decide +kernel
theorem dS_spotsWithin_0 : decode mS_spotsWithin.2.1 0 = .ok (.iload_n 1, 1) := by decide +kernel
theorem dS_spotsWithin_1 : decode mS_spotsWithin.2.1 1 = .ok (.bipush 45, 2) := by decide +kernel
theorem dS_spotsWithin_3 : decode mS_spotsWithin.2.1 3 = .ok (.imul, 1) := by decide +kernel
theorem dS_spotsWithin_4 : decode mS_spotsWithin.2.1 4 = .ok (.iload_n 1, 1) := by decide +kernel
theorem dS_spotsWithin_5 : decode mS_spotsWithin.2.1 5 = .ok (.bipush 9, 2) := by decide +kernel
theorem dS_spotsWithin_7 : decode mS_spotsWithin.2.1 7 = .ok (.imul, 1) := by decide +kernel
theorem dS_spotsWithin_8 : decode mS_spotsWithin.2.1 8 = .ok (.iadd, 1) := by decide +kernel
theorem dS_spotsWithin_9 : decode mS_spotsWithin.2.1 9 = .ok (.istore_n 3, 1) := by decide +kernel
theorem dS_spotsWithin_10 : decode mS_spotsWithin.2.1 10 = .ok (.iconst 0, 1) := by decide +kernel
theorem dS_spotsWithin_11 : decode mS_spotsWithin.2.1 11 = .ok (.istore 4, 2) := by decide +kernel
theorem dS_spotsWithin_13 : decode mS_spotsWithin.2.1 13 = .ok (.iconst 0, 1) := by decide +kernel
theorem dS_spotsWithin_14 : decode mS_spotsWithin.2.1 14 = .ok (.istore 5, 2) := by decide +kernel
theorem dS_spotsWithin_16 : decode mS_spotsWithin.2.1 16 = .ok (.iload 5, 2) := by decide +kernel
theorem dS_spotsWithin_18 : decode mS_spotsWithin.2.1 18 = .ok (.aload_n 0, 1) := by decide +kernel
theorem dS_spotsWithin_19 : decode mS_spotsWithin.2.1 19 = .ok (.getfield 15, 3) := by decide +kernel
theorem dS_spotsWithin_22 : decode mS_spotsWithin.2.1 22 = .ok (.if_icmp .ge 31, 3) := by decide +kernel
theorem dS_spotsWithin_25 : decode mS_spotsWithin.2.1 25 = .ok (.aload_n 0, 1) := by decide +kernel
theorem dS_spotsWithin_26 : decode mS_spotsWithin.2.1 26 = .ok (.getfield 63, 3) := by decide +kernel
theorem dS_spotsWithin_29 : decode mS_spotsWithin.2.1 29 = .ok (.iload_n 3, 1) := by decide +kernel
theorem dS_spotsWithin_30 : decode mS_spotsWithin.2.1 30 = .ok (.iload 5, 2) := by decide +kernel
theorem dS_spotsWithin_32 : decode mS_spotsWithin.2.1 32 = .ok (.iadd, 1) := by decide +kernel
theorem dS_spotsWithin_33 : decode mS_spotsWithin.2.1 33 = .ok (.iaload, 1) := by decide +kernel
theorem dS_spotsWithin_34 : decode mS_spotsWithin.2.1 34 = .ok (.iload_n 2, 1) := by decide +kernel
theorem dS_spotsWithin_35 : decode mS_spotsWithin.2.1 35 = .ok (.if_icmp .gt 12, 3) := by decide +kernel
theorem dS_spotsWithin_38 : decode mS_spotsWithin.2.1 38 = .ok (.iload 4, 2) := by decide +kernel
theorem dS_spotsWithin_40 : decode mS_spotsWithin.2.1 40 = .ok (.iconst 1, 1) := by decide +kernel
theorem dS_spotsWithin_41 : decode mS_spotsWithin.2.1 41 = .ok (.iload 5, 2) := by decide +kernel
theorem dS_spotsWithin_43 : decode mS_spotsWithin.2.1 43 = .ok (.ishl, 1) := by decide +kernel
theorem dS_spotsWithin_44 : decode mS_spotsWithin.2.1 44 = .ok (.ior, 1) := by decide +kernel
theorem dS_spotsWithin_45 : decode mS_spotsWithin.2.1 45 = .ok (.istore 4, 2) := by decide +kernel
theorem dS_spotsWithin_47 : decode mS_spotsWithin.2.1 47 = .ok (.iinc 5 1, 3) := by decide +kernel
theorem dS_spotsWithin_50 : decode mS_spotsWithin.2.1 50 = .ok (.goto (-34), 3) := by decide +kernel
theorem dS_spotsWithin_53 : decode mS_spotsWithin.2.1 53 = .ok (.iload 4, 2) := by decide +kernel
theorem dS_spotsWithin_55 : decode mS_spotsWithin.2.1 55 = .ok (.aload_n 0, 1) := by decide +kernel
theorem dS_spotsWithin_56 : decode mS_spotsWithin.2.1 56 = .ok (.getfield 45, 3) := by decide +kernel
theorem dS_spotsWithin_59 : decode mS_spotsWithin.2.1 59 = .ok (.iload_n 1, 1) := by decide +kernel
theorem dS_spotsWithin_60 : decode mS_spotsWithin.2.1 60 = .ok (.iaload, 1) := by decide +kernel
theorem dS_spotsWithin_61 : decode mS_spotsWithin.2.1 61 = .ok (.iand, 1) := by decide +kernel
theorem dS_spotsWithin_62 : decode mS_spotsWithin.2.1 62 = .ok (.ireturn, 1) := by decide +kernel
theorem dS_ways_0 : decode mS_ways.2.1 0 = .ok (.aload_n 0, 1) := by decide +kernel
theorem dS_ways_1 : decode mS_ways.2.1 1 = .ok (.iload_n 1, 1) := by decide +kernel
theorem dS_ways_2 : decode mS_ways.2.1 2 = .ok (.iload_n 2, 1) := by decide +kernel
theorem dS_ways_3 : decode mS_ways.2.1 3 = .ok (.invokevirtual 188, 3) := by decide +kernel
theorem dS_ways_6 : decode mS_ways.2.1 6 = .ok (.istore_n 3, 1) := by decide +kernel
theorem dS_ways_7 : decode mS_ways.2.1 7 = .ok (.aload_n 0, 1) := by decide +kernel
theorem dS_ways_8 : decode mS_ways.2.1 8 = .ok (.getfield 42, 3) := by decide +kernel
theorem dS_ways_11 : decode mS_ways.2.1 11 = .ok (.iload_n 1, 1) := by decide +kernel
theorem dS_ways_12 : decode mS_ways.2.1 12 = .ok (.iaload, 1) := by decide +kernel
theorem dS_ways_13 : decode mS_ways.2.1 13 = .ok (.istore 4, 2) := by decide +kernel
theorem dS_ways_15 : decode mS_ways.2.1 15 = .ok (.iload 4, 2) := by decide +kernel
theorem dS_ways_17 : decode mS_ways.2.1 17 = .ok (.iconst 5, 1) := by decide +kernel
theorem dS_ways_18 : decode mS_ways.2.1 18 = .ok (.if_icmp .lt 18, 3) := by decide +kernel
theorem dS_ways_21 : decode mS_ways.2.1 21 = .ok (.aload_n 0, 1) := by decide +kernel
theorem dS_ways_22 : decode mS_ways.2.1 22 = .ok (.getfield 48, 3) := by decide +kernel
theorem dS_ways_25 : decode mS_ways.2.1 25 = .ok (.iload_n 1, 1) := by decide +kernel
theorem dS_ways_26 : decode mS_ways.2.1 26 = .ok (.dup2, 1) := by decide +kernel
theorem dS_ways_27 : decode mS_ways.2.1 27 = .ok (.iaload, 1) := by decide +kernel
theorem dS_ways_28 : decode mS_ways.2.1 28 = .ok (.iload_n 3, 1) := by decide +kernel
theorem dS_ways_29 : decode mS_ways.2.1 29 = .ok (.ior, 1) := by decide +kernel
theorem dS_ways_30 : decode mS_ways.2.1 30 = .ok (.iastore, 1) := by decide +kernel
theorem dS_ways_31 : decode mS_ways.2.1 31 = .ok (.iload_n 3, 1) := by decide +kernel
theorem dS_ways_32 : decode mS_ways.2.1 32 = .ok (.invokestatic 163, 3) := by decide +kernel
theorem dS_ways_35 : decode mS_ways.2.1 35 = .ok (.ireturn, 1) := by decide +kernel
theorem dS_ways_36 : decode mS_ways.2.1 36 = .ok (.iconst 0, 1) := by decide +kernel
theorem dS_ways_37 : decode mS_ways.2.1 37 = .ok (.istore 5, 2) := by decide +kernel
theorem dS_ways_39 : decode mS_ways.2.1 39 = .ok (.iconst 0, 1) := by decide +kernel
theorem dS_ways_40 : decode mS_ways.2.1 40 = .ok (.istore 6, 2) := by decide +kernel
theorem dS_ways_42 : decode mS_ways.2.1 42 = .ok (.iload 6, 2) := by decide +kernel
theorem dS_ways_44 : decode mS_ways.2.1 44 = .ok (.aload_n 0, 1) := by decide +kernel
theorem dS_ways_45 : decode mS_ways.2.1 45 = .ok (.getfield 15, 3) := by decide +kernel
theorem dS_ways_48 : decode mS_ways.2.1 48 = .ok (.if_icmp .ge 71, 3) := by decide +kernel
theorem dS_ways_51 : decode mS_ways.2.1 51 = .ok (.iload_n 3, 1) := by decide +kernel
theorem dS_ways_52 : decode mS_ways.2.1 52 = .ok (.iload 6, 2) := by decide +kernel
theorem dS_ways_54 : decode mS_ways.2.1 54 = .ok (.invokestatic 178, 3) := by decide +kernel
theorem dS_ways_57 : decode mS_ways.2.1 57 = .ok (.ifCond .eq 56, 3) := by decide +kernel
theorem dS_ways_60 : decode mS_ways.2.1 60 = .ok (.aload_n 0, 1) := by decide +kernel
theorem dS_ways_61 : decode mS_ways.2.1 61 = .ok (.iload_n 1, 1) := by decide +kernel
theorem dS_ways_62 : decode mS_ways.2.1 62 = .ok (.iload 6, 2) := by decide +kernel
theorem dS_ways_64 : decode mS_ways.2.1 64 = .ok (.invokevirtual 185, 3) := by decide +kernel
theorem dS_ways_67 : decode mS_ways.2.1 67 = .ok (.aload_n 0, 1) := by decide +kernel
theorem dS_ways_68 : decode mS_ways.2.1 68 = .ok (.iload 4, 2) := by decide +kernel
theorem dS_ways_70 : decode mS_ways.2.1 70 = .ok (.iload_n 2, 1) := by decide +kernel
theorem dS_ways_71 : decode mS_ways.2.1 71 = .ok (.aload_n 0, 1) := by decide +kernel
theorem dS_ways_72 : decode mS_ways.2.1 72 = .ok (.iload_n 1, 1) := by decide +kernel
theorem dS_ways_73 : decode mS_ways.2.1 73 = .ok (.iload 6, 2) := by decide +kernel
theorem dS_ways_75 : decode mS_ways.2.1 75 = .ok (.invokevirtual 182, 3) := by decide +kernel
theorem dS_ways_78 : decode mS_ways.2.1 78 = .ok (.isub, 1) := by decide +kernel
theorem dS_ways_79 : decode mS_ways.2.1 79 = .ok (.invokevirtual 154, 3) := by decide +kernel
theorem dS_ways_82 : decode mS_ways.2.1 82 = .ok (.istore 7, 2) := by decide +kernel
theorem dS_ways_84 : decode mS_ways.2.1 84 = .ok (.aload_n 0, 1) := by decide +kernel
theorem dS_ways_85 : decode mS_ways.2.1 85 = .ok (.getfield 48, 3) := by decide +kernel
theorem dS_ways_88 : decode mS_ways.2.1 88 = .ok (.iload_n 1, 1) := by decide +kernel
theorem dS_ways_89 : decode mS_ways.2.1 89 = .ok (.dup2, 1) := by decide +kernel
theorem dS_ways_90 : decode mS_ways.2.1 90 = .ok (.iaload, 1) := by decide +kernel
theorem dS_ways_91 : decode mS_ways.2.1 91 = .ok (.iload 7, 2) := by decide +kernel
theorem dS_ways_93 : decode mS_ways.2.1 93 = .ok (.ifCond .le 10, 3) := by decide +kernel
theorem dS_ways_96 : decode mS_ways.2.1 96 = .ok (.iconst 1, 1) := by decide +kernel
theorem dS_ways_97 : decode mS_ways.2.1 97 = .ok (.iload 6, 2) := by decide +kernel
theorem dS_ways_99 : decode mS_ways.2.1 99 = .ok (.ishl, 1) := by decide +kernel
theorem dS_ways_100 : decode mS_ways.2.1 100 = .ok (.goto 4, 3) := by decide +kernel
theorem dS_ways_103 : decode mS_ways.2.1 103 = .ok (.iconst 0, 1) := by decide +kernel
theorem dS_ways_104 : decode mS_ways.2.1 104 = .ok (.ior, 1) := by decide +kernel
theorem dS_ways_105 : decode mS_ways.2.1 105 = .ok (.iastore, 1) := by decide +kernel
theorem dS_ways_106 : decode mS_ways.2.1 106 = .ok (.iload 5, 2) := by decide +kernel
theorem dS_ways_108 : decode mS_ways.2.1 108 = .ok (.iload 7, 2) := by decide +kernel
theorem dS_ways_110 : decode mS_ways.2.1 110 = .ok (.iadd, 1) := by decide +kernel
theorem dS_ways_111 : decode mS_ways.2.1 111 = .ok (.istore 5, 2) := by decide +kernel
theorem dS_ways_113 : decode mS_ways.2.1 113 = .ok (.iinc 6 1, 3) := by decide +kernel
theorem dS_ways_116 : decode mS_ways.2.1 116 = .ok (.goto (-74), 3) := by decide +kernel
theorem dS_ways_119 : decode mS_ways.2.1 119 = .ok (.iload 5, 2) := by decide +kernel
theorem dS_ways_121 : decode mS_ways.2.1 121 = .ok (.ireturn, 1) := by decide +kernel
theorem dS_searchGroups_0 : decode mS_searchGroups.2.1 0 = .ok (.aload_n 0, 1) := by decide +kernel
theorem dS_searchGroups_1 : decode mS_searchGroups.2.1 1 = .ok (.iconst 1, 1) := by decide +kernel
theorem dS_searchGroups_2 : decode mS_searchGroups.2.1 2 = .ok (.putfield 19, 3) := by decide +kernel
theorem dS_searchGroups_5 : decode mS_searchGroups.2.1 5 = .ok (.iconst 0, 1) := by decide +kernel
theorem dS_searchGroups_6 : decode mS_searchGroups.2.1 6 = .ok (.istore_n 1, 1) := by decide +kernel
theorem dS_searchGroups_7 : decode mS_searchGroups.2.1 7 = .ok (.iload_n 1, 1) := by decide +kernel
theorem dS_searchGroups_8 : decode mS_searchGroups.2.1 8 = .ok (.iconst 5, 1) := by decide +kernel
theorem dS_searchGroups_9 : decode mS_searchGroups.2.1 9 = .ok (.if_icmp .ge 100, 3) := by decide +kernel
theorem dS_searchGroups_12 : decode mS_searchGroups.2.1 12 = .ok (.aload_n 0, 1) := by decide +kernel
theorem dS_searchGroups_13 : decode mS_searchGroups.2.1 13 = .ok (.iload_n 1, 1) := by decide +kernel
theorem dS_searchGroups_14 : decode mS_searchGroups.2.1 14 = .ok (.invokevirtual 141, 3) := by decide +kernel
theorem dS_searchGroups_17 : decode mS_searchGroups.2.1 17 = .ok (.ifCond .eq 86, 3) := by decide +kernel
theorem dS_searchGroups_20 : decode mS_searchGroups.2.1 20 = .ok (.aload_n 0, 1) := by decide +kernel
theorem dS_searchGroups_21 : decode mS_searchGroups.2.1 21 = .ok (.getfield 63, 3) := by decide +kernel
theorem dS_searchGroups_24 : decode mS_searchGroups.2.1 24 = .ok (.iload_n 1, 1) := by decide +kernel
theorem dS_searchGroups_25 : decode mS_searchGroups.2.1 25 = .ok (.bipush 45, 2) := by decide +kernel
theorem dS_searchGroups_27 : decode mS_searchGroups.2.1 27 = .ok (.imul, 1) := by decide +kernel
theorem dS_searchGroups_28 : decode mS_searchGroups.2.1 28 = .ok (.iload_n 1, 1) := by decide +kernel
theorem dS_searchGroups_29 : decode mS_searchGroups.2.1 29 = .ok (.iconst 1, 1) := by decide +kernel
theorem dS_searchGroups_30 : decode mS_searchGroups.2.1 30 = .ok (.iadd, 1) := by decide +kernel
theorem dS_searchGroups_31 : decode mS_searchGroups.2.1 31 = .ok (.bipush 45, 2) := by decide +kernel
theorem dS_searchGroups_33 : decode mS_searchGroups.2.1 33 = .ok (.imul, 1) := by decide +kernel
theorem dS_searchGroups_34 : decode mS_searchGroups.2.1 34 = .ok (.iconst 0, 1) := by decide +kernel
theorem dS_searchGroups_35 : decode mS_searchGroups.2.1 35 = .ok (.invokestatic 144, 3) := by decide +kernel
theorem dS_searchGroups_38 : decode mS_searchGroups.2.1 38 = .ok (.aload_n 0, 1) := by decide +kernel
theorem dS_searchGroups_39 : decode mS_searchGroups.2.1 39 = .ok (.ldc 150, 2) := by decide +kernel
theorem dS_searchGroups_41 : decode mS_searchGroups.2.1 41 = .ok (.putfield 29, 3) := by decide +kernel
theorem dS_searchGroups_44 : decode mS_searchGroups.2.1 44 = .ok (.aload_n 0, 1) := by decide +kernel
theorem dS_searchGroups_45 : decode mS_searchGroups.2.1 45 = .ok (.iload_n 1, 1) := by decide +kernel
theorem dS_searchGroups_46 : decode mS_searchGroups.2.1 46 = .ok (.iconst 0, 1) := by decide +kernel
theorem dS_searchGroups_47 : decode mS_searchGroups.2.1 47 = .ok (.invokevirtual 151, 3) := by decide +kernel
theorem dS_searchGroups_50 : decode mS_searchGroups.2.1 50 = .ok (.aload_n 0, 1) := by decide +kernel
theorem dS_searchGroups_51 : decode mS_searchGroups.2.1 51 = .ok (.getfield 51, 3) := by decide +kernel
theorem dS_searchGroups_54 : decode mS_searchGroups.2.1 54 = .ok (.iload_n 1, 1) := by decide +kernel
theorem dS_searchGroups_55 : decode mS_searchGroups.2.1 55 = .ok (.aload_n 0, 1) := by decide +kernel
theorem dS_searchGroups_56 : decode mS_searchGroups.2.1 56 = .ok (.getfield 29, 3) := by decide +kernel
theorem dS_searchGroups_59 : decode mS_searchGroups.2.1 59 = .ok (.iastore, 1) := by decide +kernel
theorem dS_searchGroups_60 : decode mS_searchGroups.2.1 60 = .ok (.aload_n 0, 1) := by decide +kernel
theorem dS_searchGroups_61 : decode mS_searchGroups.2.1 61 = .ok (.getfield 54, 3) := by decide +kernel
theorem dS_searchGroups_64 : decode mS_searchGroups.2.1 64 = .ok (.iload_n 1, 1) := by decide +kernel
theorem dS_searchGroups_65 : decode mS_searchGroups.2.1 65 = .ok (.aload_n 0, 1) := by decide +kernel
theorem dS_searchGroups_66 : decode mS_searchGroups.2.1 66 = .ok (.iload_n 1, 1) := by decide +kernel
theorem dS_searchGroups_67 : decode mS_searchGroups.2.1 67 = .ok (.aload_n 0, 1) := by decide +kernel
theorem dS_searchGroups_68 : decode mS_searchGroups.2.1 68 = .ok (.getfield 29, 3) := by decide +kernel
theorem dS_searchGroups_71 : decode mS_searchGroups.2.1 71 = .ok (.invokevirtual 154, 3) := by decide +kernel
theorem dS_searchGroups_74 : decode mS_searchGroups.2.1 74 = .ok (.iastore, 1) := by decide +kernel
theorem dS_searchGroups_75 : decode mS_searchGroups.2.1 75 = .ok (.aload_n 0, 1) := by decide +kernel
theorem dS_searchGroups_76 : decode mS_searchGroups.2.1 76 = .ok (.dup, 1) := by decide +kernel
theorem dS_searchGroups_77 : decode mS_searchGroups.2.1 77 = .ok (.getfield 22, 3) := by decide +kernel
theorem dS_searchGroups_80 : decode mS_searchGroups.2.1 80 = .ok (.aload_n 0, 1) := by decide +kernel
theorem dS_searchGroups_81 : decode mS_searchGroups.2.1 81 = .ok (.getfield 29, 3) := by decide +kernel
theorem dS_searchGroups_84 : decode mS_searchGroups.2.1 84 = .ok (.iadd, 1) := by decide +kernel
theorem dS_searchGroups_85 : decode mS_searchGroups.2.1 85 = .ok (.putfield 22, 3) := by decide +kernel
theorem dS_searchGroups_88 : decode mS_searchGroups.2.1 88 = .ok (.aload_n 0, 1) := by decide +kernel
theorem dS_searchGroups_89 : decode mS_searchGroups.2.1 89 = .ok (.dup, 1) := by decide +kernel
theorem dS_searchGroups_90 : decode mS_searchGroups.2.1 90 = .ok (.getfield 19, 3) := by decide +kernel
theorem dS_searchGroups_93 : decode mS_searchGroups.2.1 93 = .ok (.aload_n 0, 1) := by decide +kernel
theorem dS_searchGroups_94 : decode mS_searchGroups.2.1 94 = .ok (.getfield 54, 3) := by decide +kernel
theorem dS_searchGroups_97 : decode mS_searchGroups.2.1 97 = .ok (.iload_n 1, 1) := by decide +kernel
theorem dS_searchGroups_98 : decode mS_searchGroups.2.1 98 = .ok (.iaload, 1) := by decide +kernel
theorem dS_searchGroups_99 : decode mS_searchGroups.2.1 99 = .ok (.imul, 1) := by decide +kernel
theorem dS_searchGroups_100 : decode mS_searchGroups.2.1 100 = .ok (.putfield 19, 3) := by decide +kernel
theorem dS_searchGroups_103 : decode mS_searchGroups.2.1 103 = .ok (.iinc 1 1, 3) := by decide +kernel
theorem dS_searchGroups_106 : decode mS_searchGroups.2.1 106 = .ok (.goto (-99), 3) := by decide +kernel
theorem dS_searchGroups_109 : decode mS_searchGroups.2.1 109 = .ok (.return_, 1) := by decide +kernel
theorem dS_placesOf_0 : decode mS_placesOf.2.1 0 = .ok (.aload_n 0, 1) := by decide +kernel
theorem dS_placesOf_1 : decode mS_placesOf.2.1 1 = .ok (.getfield 48, 3) := by decide +kernel
theorem dS_placesOf_4 : decode mS_placesOf.2.1 4 = .ok (.aload_n 0, 1) := by decide +kernel
theorem dS_placesOf_5 : decode mS_placesOf.2.1 5 = .ok (.getfield 66, 3) := by decide +kernel
theorem dS_placesOf_8 : decode mS_placesOf.2.1 8 = .ok (.iload_n 1, 1) := by decide +kernel
theorem dS_placesOf_9 : decode mS_placesOf.2.1 9 = .ok (.iconst 0, 1) := by decide +kernel
theorem dS_placesOf_10 : decode mS_placesOf.2.1 10 = .ok (.invokevirtual 97, 3) := by decide +kernel
theorem dS_placesOf_13 : decode mS_placesOf.2.1 13 = .ok (.iaload, 1) := by decide +kernel
theorem dS_placesOf_14 : decode mS_placesOf.2.1 14 = .ok (.aload_n 0, 1) := by decide +kernel
theorem dS_placesOf_15 : decode mS_placesOf.2.1 15 = .ok (.getfield 66, 3) := by decide +kernel
theorem dS_placesOf_18 : decode mS_placesOf.2.1 18 = .ok (.iload_n 1, 1) := by decide +kernel
theorem dS_placesOf_19 : decode mS_placesOf.2.1 19 = .ok (.invokevirtual 101, 3) := by decide +kernel
theorem dS_placesOf_22 : decode mS_placesOf.2.1 22 = .ok (.ishl, 1) := by decide +kernel
theorem dS_placesOf_23 : decode mS_placesOf.2.1 23 = .ok (.ireturn, 1) := by decide +kernel
theorem dJ_numberOfTrailingZeros_0 : decode mJ_numberOfTrailingZeros.2.1 0 = .ok (.iload_n 0, 1) := by decide +kernel
theorem dJ_numberOfTrailingZeros_1 : decode mJ_numberOfTrailingZeros.2.1 1 = .ok (.iconst (-1), 1) := by decide +kernel
theorem dJ_numberOfTrailingZeros_2 : decode mJ_numberOfTrailingZeros.2.1 2 = .ok (.ixor, 1) := by decide +kernel
theorem dJ_numberOfTrailingZeros_3 : decode mJ_numberOfTrailingZeros.2.1 3 = .ok (.iload_n 0, 1) := by decide +kernel
theorem dJ_numberOfTrailingZeros_4 : decode mJ_numberOfTrailingZeros.2.1 4 = .ok (.iconst 1, 1) := by decide +kernel
theorem dJ_numberOfTrailingZeros_5 : decode mJ_numberOfTrailingZeros.2.1 5 = .ok (.isub, 1) := by decide +kernel
theorem dJ_numberOfTrailingZeros_6 : decode mJ_numberOfTrailingZeros.2.1 6 = .ok (.iand, 1) := by decide +kernel
theorem dJ_numberOfTrailingZeros_7 : decode mJ_numberOfTrailingZeros.2.1 7 = .ok (.istore_n 0, 1) := by decide +kernel
theorem dJ_numberOfTrailingZeros_8 : decode mJ_numberOfTrailingZeros.2.1 8 = .ok (.iload_n 0, 1) := by decide +kernel
theorem dJ_numberOfTrailingZeros_9 : decode mJ_numberOfTrailingZeros.2.1 9 = .ok (.ifCond .gt 8, 3) := by decide +kernel
theorem dJ_numberOfTrailingZeros_12 : decode mJ_numberOfTrailingZeros.2.1 12 = .ok (.iload_n 0, 1) := by decide +kernel
theorem dJ_numberOfTrailingZeros_13 : decode mJ_numberOfTrailingZeros.2.1 13 = .ok (.bipush 32, 2) := by decide +kernel
theorem dJ_numberOfTrailingZeros_15 : decode mJ_numberOfTrailingZeros.2.1 15 = .ok (.iand, 1) := by decide +kernel
theorem dJ_numberOfTrailingZeros_16 : decode mJ_numberOfTrailingZeros.2.1 16 = .ok (.ireturn, 1) := by decide +kernel
theorem dJ_numberOfTrailingZeros_17 : decode mJ_numberOfTrailingZeros.2.1 17 = .ok (.iconst 1, 1) := by decide +kernel
theorem dJ_numberOfTrailingZeros_18 : decode mJ_numberOfTrailingZeros.2.1 18 = .ok (.istore_n 1, 1) := by decide +kernel
theorem dJ_numberOfTrailingZeros_19 : decode mJ_numberOfTrailingZeros.2.1 19 = .ok (.iload_n 0, 1) := by decide +kernel
theorem dJ_numberOfTrailingZeros_20 : decode mJ_numberOfTrailingZeros.2.1 20 = .ok (.ldc_w 264, 3) := by decide +kernel
theorem dJ_numberOfTrailingZeros_23 : decode mJ_numberOfTrailingZeros.2.1 23 = .ok (.if_icmp .le 11, 3) := by decide +kernel
theorem dJ_numberOfTrailingZeros_26 : decode mJ_numberOfTrailingZeros.2.1 26 = .ok (.iinc 1 16, 3) := by decide +kernel
theorem dJ_numberOfTrailingZeros_29 : decode mJ_numberOfTrailingZeros.2.1 29 = .ok (.iload_n 0, 1) := by decide +kernel
theorem dJ_numberOfTrailingZeros_30 : decode mJ_numberOfTrailingZeros.2.1 30 = .ok (.bipush 16, 2) := by decide +kernel
theorem dJ_numberOfTrailingZeros_32 : decode mJ_numberOfTrailingZeros.2.1 32 = .ok (.iushr, 1) := by decide +kernel
theorem dJ_numberOfTrailingZeros_33 : decode mJ_numberOfTrailingZeros.2.1 33 = .ok (.istore_n 0, 1) := by decide +kernel
theorem dJ_numberOfTrailingZeros_34 : decode mJ_numberOfTrailingZeros.2.1 34 = .ok (.iload_n 0, 1) := by decide +kernel
theorem dJ_numberOfTrailingZeros_35 : decode mJ_numberOfTrailingZeros.2.1 35 = .ok (.sipush 256, 3) := by decide +kernel
theorem dJ_numberOfTrailingZeros_38 : decode mJ_numberOfTrailingZeros.2.1 38 = .ok (.if_icmp .le 11, 3) := by decide +kernel
theorem dJ_numberOfTrailingZeros_41 : decode mJ_numberOfTrailingZeros.2.1 41 = .ok (.iinc 1 8, 3) := by decide +kernel
theorem dJ_numberOfTrailingZeros_44 : decode mJ_numberOfTrailingZeros.2.1 44 = .ok (.iload_n 0, 1) := by decide +kernel
theorem dJ_numberOfTrailingZeros_45 : decode mJ_numberOfTrailingZeros.2.1 45 = .ok (.bipush 8, 2) := by decide +kernel
theorem dJ_numberOfTrailingZeros_47 : decode mJ_numberOfTrailingZeros.2.1 47 = .ok (.iushr, 1) := by decide +kernel
theorem dJ_numberOfTrailingZeros_48 : decode mJ_numberOfTrailingZeros.2.1 48 = .ok (.istore_n 0, 1) := by decide +kernel
theorem dJ_numberOfTrailingZeros_49 : decode mJ_numberOfTrailingZeros.2.1 49 = .ok (.iload_n 0, 1) := by decide +kernel
theorem dJ_numberOfTrailingZeros_50 : decode mJ_numberOfTrailingZeros.2.1 50 = .ok (.bipush 16, 2) := by decide +kernel
theorem dJ_numberOfTrailingZeros_52 : decode mJ_numberOfTrailingZeros.2.1 52 = .ok (.if_icmp .le 10, 3) := by decide +kernel
theorem dJ_numberOfTrailingZeros_55 : decode mJ_numberOfTrailingZeros.2.1 55 = .ok (.iinc 1 4, 3) := by decide +kernel
theorem dJ_numberOfTrailingZeros_58 : decode mJ_numberOfTrailingZeros.2.1 58 = .ok (.iload_n 0, 1) := by decide +kernel
theorem dJ_numberOfTrailingZeros_59 : decode mJ_numberOfTrailingZeros.2.1 59 = .ok (.iconst 4, 1) := by decide +kernel
theorem dJ_numberOfTrailingZeros_60 : decode mJ_numberOfTrailingZeros.2.1 60 = .ok (.iushr, 1) := by decide +kernel
theorem dJ_numberOfTrailingZeros_61 : decode mJ_numberOfTrailingZeros.2.1 61 = .ok (.istore_n 0, 1) := by decide +kernel
theorem dJ_numberOfTrailingZeros_62 : decode mJ_numberOfTrailingZeros.2.1 62 = .ok (.iload_n 0, 1) := by decide +kernel
theorem dJ_numberOfTrailingZeros_63 : decode mJ_numberOfTrailingZeros.2.1 63 = .ok (.iconst 4, 1) := by decide +kernel
theorem dJ_numberOfTrailingZeros_64 : decode mJ_numberOfTrailingZeros.2.1 64 = .ok (.if_icmp .le 10, 3) := by decide +kernel
theorem dJ_numberOfTrailingZeros_67 : decode mJ_numberOfTrailingZeros.2.1 67 = .ok (.iinc 1 2, 3) := by decide +kernel
theorem dJ_numberOfTrailingZeros_70 : decode mJ_numberOfTrailingZeros.2.1 70 = .ok (.iload_n 0, 1) := by decide +kernel
theorem dJ_numberOfTrailingZeros_71 : decode mJ_numberOfTrailingZeros.2.1 71 = .ok (.iconst 2, 1) := by decide +kernel
theorem dJ_numberOfTrailingZeros_72 : decode mJ_numberOfTrailingZeros.2.1 72 = .ok (.iushr, 1) := by decide +kernel
theorem dJ_numberOfTrailingZeros_73 : decode mJ_numberOfTrailingZeros.2.1 73 = .ok (.istore_n 0, 1) := by decide +kernel
theorem dJ_numberOfTrailingZeros_74 : decode mJ_numberOfTrailingZeros.2.1 74 = .ok (.iload_n 1, 1) := by decide +kernel
theorem dJ_numberOfTrailingZeros_75 : decode mJ_numberOfTrailingZeros.2.1 75 = .ok (.iload_n 0, 1) := by decide +kernel
theorem dJ_numberOfTrailingZeros_76 : decode mJ_numberOfTrailingZeros.2.1 76 = .ok (.iconst 1, 1) := by decide +kernel
theorem dJ_numberOfTrailingZeros_77 : decode mJ_numberOfTrailingZeros.2.1 77 = .ok (.iushr, 1) := by decide +kernel
theorem dJ_numberOfTrailingZeros_78 : decode mJ_numberOfTrailingZeros.2.1 78 = .ok (.iadd, 1) := by decide +kernel
theorem dJ_numberOfTrailingZeros_79 : decode mJ_numberOfTrailingZeros.2.1 79 = .ok (.ireturn, 1) := by decide +kernel
theorem dS_findSurePlaces_0 : decode mS_findSurePlaces.2.1 0 = .ok (.iconst 0, 1) := by decide +kernel
theorem dS_findSurePlaces_1 : decode mS_findSurePlaces.2.1 1 = .ok (.istore_n 1, 1) := by decide +kernel
theorem dS_findSurePlaces_2 : decode mS_findSurePlaces.2.1 2 = .ok (.iload_n 1, 1) := by decide +kernel
theorem dS_findSurePlaces_3 : decode mS_findSurePlaces.2.1 3 = .ok (.aload_n 0, 1) := by decide +kernel
theorem dS_findSurePlaces_4 : decode mS_findSurePlaces.2.1 4 = .ok (.getfield 66, 3) := by decide +kernel
theorem dS_findSurePlaces_7 : decode mS_findSurePlaces.2.1 7 = .ok (.getfield 157, 3) := by decide +kernel
theorem dS_findSurePlaces_10 : decode mS_findSurePlaces.2.1 10 = .ok (.if_icmp .ge 37, 3) := by decide +kernel
theorem dS_findSurePlaces_13 : decode mS_findSurePlaces.2.1 13 = .ok (.aload_n 0, 1) := by decide +kernel
theorem dS_findSurePlaces_14 : decode mS_findSurePlaces.2.1 14 = .ok (.iload_n 1, 1) := by decide +kernel
theorem dS_findSurePlaces_15 : decode mS_findSurePlaces.2.1 15 = .ok (.invokevirtual 160, 3) := by decide +kernel
theorem dS_findSurePlaces_18 : decode mS_findSurePlaces.2.1 18 = .ok (.istore_n 2, 1) := by decide +kernel
theorem dS_findSurePlaces_19 : decode mS_findSurePlaces.2.1 19 = .ok (.aload_n 0, 1) := by decide +kernel
theorem dS_findSurePlaces_20 : decode mS_findSurePlaces.2.1 20 = .ok (.getfield 25, 3) := by decide +kernel
theorem dS_findSurePlaces_23 : decode mS_findSurePlaces.2.1 23 = .ok (.iload_n 1, 1) := by decide +kernel
theorem dS_findSurePlaces_24 : decode mS_findSurePlaces.2.1 24 = .ok (.iload_n 2, 1) := by decide +kernel
theorem dS_findSurePlaces_25 : decode mS_findSurePlaces.2.1 25 = .ok (.invokestatic 163, 3) := by decide +kernel
theorem dS_findSurePlaces_28 : decode mS_findSurePlaces.2.1 28 = .ok (.iconst 1, 1) := by decide +kernel
theorem dS_findSurePlaces_29 : decode mS_findSurePlaces.2.1 29 = .ok (.if_icmp .ne 10, 3) := by decide +kernel
theorem dS_findSurePlaces_32 : decode mS_findSurePlaces.2.1 32 = .ok (.iload_n 2, 1) := by decide +kernel
theorem dS_findSurePlaces_33 : decode mS_findSurePlaces.2.1 33 = .ok (.invokestatic 168, 3) := by decide +kernel
theorem dS_findSurePlaces_36 : decode mS_findSurePlaces.2.1 36 = .ok (.goto 4, 3) := by decide +kernel
theorem dS_findSurePlaces_39 : decode mS_findSurePlaces.2.1 39 = .ok (.iconst (-1), 1) := by decide +kernel
theorem dS_findSurePlaces_40 : decode mS_findSurePlaces.2.1 40 = .ok (.iastore, 1) := by decide +kernel
theorem dS_findSurePlaces_41 : decode mS_findSurePlaces.2.1 41 = .ok (.iinc 1 1, 3) := by decide +kernel
theorem dS_findSurePlaces_44 : decode mS_findSurePlaces.2.1 44 = .ok (.goto (-42), 3) := by decide +kernel
theorem dS_findSurePlaces_47 : decode mS_findSurePlaces.2.1 47 = .ok (.return_, 1) := by decide +kernel
theorem dS_settle_0 : decode mS_settle.2.1 0 = .ok (.aload_n 0, 1) := by decide +kernel
theorem dS_settle_1 : decode mS_settle.2.1 1 = .ok (.getfield 9, 3) := by decide +kernel
theorem dS_settle_4 : decode mS_settle.2.1 4 = .ok (.ifCond .ne 4, 3) := by decide +kernel
theorem dS_settle_7 : decode mS_settle.2.1 7 = .ok (.return_, 1) := by decide +kernel
theorem dS_settle_8 : decode mS_settle.2.1 8 = .ok (.aload_n 0, 1) := by decide +kernel
theorem dS_settle_9 : decode mS_settle.2.1 9 = .ok (.iconst 0, 1) := by decide +kernel
theorem dS_settle_10 : decode mS_settle.2.1 10 = .ok (.putfield 9, 3) := by decide +kernel
theorem dS_settle_13 : decode mS_settle.2.1 13 = .ok (.aload_n 0, 1) := by decide +kernel
theorem dS_settle_14 : decode mS_settle.2.1 14 = .ok (.iconst (-1), 1) := by decide +kernel
theorem dS_settle_15 : decode mS_settle.2.1 15 = .ok (.putfield 32, 3) := by decide +kernel
theorem dS_settle_18 : decode mS_settle.2.1 18 = .ok (.aload_n 0, 1) := by decide +kernel
theorem dS_settle_19 : decode mS_settle.2.1 19 = .ok (.aload_n 0, 1) := by decide +kernel
theorem dS_settle_20 : decode mS_settle.2.1 20 = .ok (.getfield 66, 3) := by decide +kernel
theorem dS_settle_23 : decode mS_settle.2.1 23 = .ok (.invokevirtual 79, 3) := by decide +kernel
theorem dS_settle_26 : decode mS_settle.2.1 26 = .ok (.putfield 15, 3) := by decide +kernel
theorem dS_settle_29 : decode mS_settle.2.1 29 = .ok (.aload_n 0, 1) := by decide +kernel
theorem dS_settle_30 : decode mS_settle.2.1 30 = .ok (.iconst 0, 1) := by decide +kernel
theorem dS_settle_31 : decode mS_settle.2.1 31 = .ok (.putfield 22, 3) := by decide +kernel
theorem dS_settle_34 : decode mS_settle.2.1 34 = .ok (.aload_n 0, 1) := by decide +kernel
theorem dS_settle_35 : decode mS_settle.2.1 35 = .ok (.iconst 0, 1) := by decide +kernel
theorem dS_settle_36 : decode mS_settle.2.1 36 = .ok (.putfield 19, 3) := by decide +kernel
theorem dS_settle_39 : decode mS_settle.2.1 39 = .ok (.aload_n 0, 1) := by decide +kernel
theorem dS_settle_40 : decode mS_settle.2.1 40 = .ok (.invokevirtual 84, 3) := by decide +kernel
theorem dS_settle_43 : decode mS_settle.2.1 43 = .ok (.ifCond .eq 11, 3) := by decide +kernel
theorem dS_settle_46 : decode mS_settle.2.1 46 = .ok (.aload_n 0, 1) := by decide +kernel
theorem dS_settle_47 : decode mS_settle.2.1 47 = .ok (.invokevirtual 88, 3) := by decide +kernel
theorem dS_settle_50 : decode mS_settle.2.1 50 = .ok (.aload_n 0, 1) := by decide +kernel
theorem dS_settle_51 : decode mS_settle.2.1 51 = .ok (.invokevirtual 91, 3) := by decide +kernel
theorem dS_settle_54 : decode mS_settle.2.1 54 = .ok (.aload_n 0, 1) := by decide +kernel
theorem dS_settle_55 : decode mS_settle.2.1 55 = .ok (.invokevirtual 94, 3) := by decide +kernel
theorem dS_settle_58 : decode mS_settle.2.1 58 = .ok (.return_, 1) := by decide +kernel
theorem dX_quarrel_0 : decode mX_quarrel.2.1 0 = .ok (.aload_n 0, 1) := by decide +kernel
theorem dX_quarrel_1 : decode mX_quarrel.2.1 1 = .ok (.getfield 24, 3) := by decide +kernel
theorem dX_quarrel_4 : decode mX_quarrel.2.1 4 = .ok (.invokevirtual 126, 3) := by decide +kernel
theorem dX_quarrel_7 : decode mX_quarrel.2.1 7 = .ok (.aload_n 0, 1) := by decide +kernel
theorem dX_quarrel_8 : decode mX_quarrel.2.1 8 = .ok (.getfield 24, 3) := by decide +kernel
theorem dX_quarrel_11 : decode mX_quarrel.2.1 11 = .ok (.getfield 129, 3) := by decide +kernel
theorem dX_quarrel_14 : decode mX_quarrel.2.1 14 = .ok (.ifCond .ne 8, 3) := by decide +kernel
theorem dX_quarrel_17 : decode mX_quarrel.2.1 17 = .ok (.bipush (-4), 2) := by decide +kernel
theorem dX_quarrel_19 : decode mX_quarrel.2.1 19 = .ok (.goto 10, 3) := by decide +kernel
theorem dX_quarrel_22 : decode mX_quarrel.2.1 22 = .ok (.aload_n 0, 1) := by decide +kernel
theorem dX_quarrel_23 : decode mX_quarrel.2.1 23 = .ok (.getfield 24, 3) := by decide +kernel
theorem dX_quarrel_26 : decode mX_quarrel.2.1 26 = .ok (.getfield 132, 3) := by decide +kernel
theorem dX_quarrel_29 : decode mX_quarrel.2.1 29 = .ok (.ireturn, 1) := by decide +kernel
theorem dM_places_0 : decode mM_places.2.1 0 = .ok (.aload_n 0, 1) := by decide +kernel
theorem dM_places_1 : decode mM_places.2.1 1 = .ok (.getfield 7, 3) := by decide +kernel
theorem dM_places_4 : decode mM_places.2.1 4 = .ok (.aload_n 0, 1) := by decide +kernel
theorem dM_places_5 : decode mM_places.2.1 5 = .ok (.getfield 13, 3) := by decide +kernel
theorem dM_places_8 : decode mM_places.2.1 8 = .ok (.imul, 1) := by decide +kernel
theorem dM_places_9 : decode mM_places.2.1 9 = .ok (.ireturn, 1) := by decide +kernel
theorem dM_fits_0 : decode mM_fits.2.1 0 = .ok (.iload_n 2, 1) := by decide +kernel
theorem dM_fits_1 : decode mM_fits.2.1 1 = .ok (.aload_n 0, 1) := by decide +kernel
theorem dM_fits_2 : decode mM_fits.2.1 2 = .ok (.getfield 13, 3) := by decide +kernel
theorem dM_fits_5 : decode mM_fits.2.1 5 = .ok (.idiv, 1) := by decide +kernel
theorem dM_fits_6 : decode mM_fits.2.1 6 = .ok (.istore_n 3, 1) := by decide +kernel
theorem dM_fits_7 : decode mM_fits.2.1 7 = .ok (.iload_n 2, 1) := by decide +kernel
theorem dM_fits_8 : decode mM_fits.2.1 8 = .ok (.aload_n 0, 1) := by decide +kernel
theorem dM_fits_9 : decode mM_fits.2.1 9 = .ok (.getfield 13, 3) := by decide +kernel
theorem dM_fits_12 : decode mM_fits.2.1 12 = .ok (.irem, 1) := by decide +kernel
theorem dM_fits_13 : decode mM_fits.2.1 13 = .ok (.istore 4, 2) := by decide +kernel
theorem dM_fits_15 : decode mM_fits.2.1 15 = .ok (.iload_n 3, 1) := by decide +kernel
theorem dM_fits_16 : decode mM_fits.2.1 16 = .ok (.aload_n 0, 1) := by decide +kernel
theorem dM_fits_17 : decode mM_fits.2.1 17 = .ok (.getfield 16, 3) := by decide +kernel
theorem dM_fits_20 : decode mM_fits.2.1 20 = .ok (.iload_n 1, 1) := by decide +kernel
theorem dM_fits_21 : decode mM_fits.2.1 21 = .ok (.iaload, 1) := by decide +kernel
theorem dM_fits_22 : decode mM_fits.2.1 22 = .ok (.iadd, 1) := by decide +kernel
theorem dM_fits_23 : decode mM_fits.2.1 23 = .ok (.aload_n 0, 1) := by decide +kernel
theorem dM_fits_24 : decode mM_fits.2.1 24 = .ok (.getfield 7, 3) := by decide +kernel
theorem dM_fits_27 : decode mM_fits.2.1 27 = .ok (.if_icmp .gt 23, 3) := by decide +kernel
theorem dM_fits_30 : decode mM_fits.2.1 30 = .ok (.iload 4, 2) := by decide +kernel
theorem dM_fits_32 : decode mM_fits.2.1 32 = .ok (.aload_n 0, 1) := by decide +kernel
theorem dM_fits_33 : decode mM_fits.2.1 33 = .ok (.getfield 20, 3) := by decide +kernel
theorem dM_fits_36 : decode mM_fits.2.1 36 = .ok (.iload_n 1, 1) := by decide +kernel
theorem dM_fits_37 : decode mM_fits.2.1 37 = .ok (.iaload, 1) := by decide +kernel
theorem dM_fits_38 : decode mM_fits.2.1 38 = .ok (.iadd, 1) := by decide +kernel
theorem dM_fits_39 : decode mM_fits.2.1 39 = .ok (.aload_n 0, 1) := by decide +kernel
theorem dM_fits_40 : decode mM_fits.2.1 40 = .ok (.getfield 13, 3) := by decide +kernel
theorem dM_fits_43 : decode mM_fits.2.1 43 = .ok (.if_icmp .gt 7, 3) := by decide +kernel
theorem dM_fits_46 : decode mM_fits.2.1 46 = .ok (.iconst 1, 1) := by decide +kernel
theorem dM_fits_47 : decode mM_fits.2.1 47 = .ok (.goto 4, 3) := by decide +kernel
theorem dM_fits_50 : decode mM_fits.2.1 50 = .ok (.iconst 0, 1) := by decide +kernel
theorem dM_fits_51 : decode mM_fits.2.1 51 = .ok (.istore 5, 2) := by decide +kernel
theorem dM_fits_53 : decode mM_fits.2.1 53 = .ok (.iload 5, 2) := by decide +kernel
theorem dM_fits_55 : decode mM_fits.2.1 55 = .ok (.ifCond .eq 38, 3) := by decide +kernel
theorem dM_fits_58 : decode mM_fits.2.1 58 = .ok (.aload_n 0, 1) := by decide +kernel
theorem dM_fits_59 : decode mM_fits.2.1 59 = .ok (.getfield 23, 3) := by decide +kernel
theorem dM_fits_62 : decode mM_fits.2.1 62 = .ok (.iload_n 1, 1) := by decide +kernel
theorem dM_fits_63 : decode mM_fits.2.1 63 = .ok (.iaload, 1) := by decide +kernel
theorem dM_fits_64 : decode mM_fits.2.1 64 = .ok (.iconst 1, 1) := by decide +kernel
theorem dM_fits_65 : decode mM_fits.2.1 65 = .ok (.iand, 1) := by decide +kernel
theorem dM_fits_66 : decode mM_fits.2.1 66 = .ok (.ifCond .eq 7, 3) := by decide +kernel
theorem dM_fits_69 : decode mM_fits.2.1 69 = .ok (.iload_n 3, 1) := by decide +kernel
theorem dM_fits_70 : decode mM_fits.2.1 70 = .ok (.ifCond .ne 23, 3) := by decide +kernel
theorem dM_fits_73 : decode mM_fits.2.1 73 = .ok (.aload_n 0, 1) := by decide +kernel
theorem dM_fits_74 : decode mM_fits.2.1 74 = .ok (.getfield 23, 3) := by decide +kernel
theorem dM_fits_77 : decode mM_fits.2.1 77 = .ok (.iload_n 1, 1) := by decide +kernel
theorem dM_fits_78 : decode mM_fits.2.1 78 = .ok (.iaload, 1) := by decide +kernel
theorem dM_fits_79 : decode mM_fits.2.1 79 = .ok (.iconst 2, 1) := by decide +kernel
theorem dM_fits_80 : decode mM_fits.2.1 80 = .ok (.iand, 1) := by decide +kernel
theorem dM_fits_81 : decode mM_fits.2.1 81 = .ok (.ifCond .eq 8, 3) := by decide +kernel
theorem dM_fits_84 : decode mM_fits.2.1 84 = .ok (.iload 4, 2) := by decide +kernel
theorem dM_fits_86 : decode mM_fits.2.1 86 = .ok (.ifCond .ne 7, 3) := by decide +kernel
theorem dM_fits_89 : decode mM_fits.2.1 89 = .ok (.iconst 1, 1) := by decide +kernel
theorem dM_fits_90 : decode mM_fits.2.1 90 = .ok (.goto 4, 3) := by decide +kernel
theorem dM_fits_93 : decode mM_fits.2.1 93 = .ok (.iconst 0, 1) := by decide +kernel
theorem dM_fits_94 : decode mM_fits.2.1 94 = .ok (.istore 5, 2) := by decide +kernel
theorem dM_fits_96 : decode mM_fits.2.1 96 = .ok (.iload 5, 2) := by decide +kernel
theorem dM_fits_98 : decode mM_fits.2.1 98 = .ok (.ifCond .eq 61, 3) := by decide +kernel
theorem dM_fits_101 : decode mM_fits.2.1 101 = .ok (.aload_n 0, 1) := by decide +kernel
theorem dM_fits_102 : decode mM_fits.2.1 102 = .ok (.getfield 23, 3) := by decide +kernel
theorem dM_fits_105 : decode mM_fits.2.1 105 = .ok (.iload_n 1, 1) := by decide +kernel
theorem dM_fits_106 : decode mM_fits.2.1 106 = .ok (.iaload, 1) := by decide +kernel
theorem dM_fits_107 : decode mM_fits.2.1 107 = .ok (.iconst 4, 1) := by decide +kernel
theorem dM_fits_108 : decode mM_fits.2.1 108 = .ok (.iand, 1) := by decide +kernel
theorem dM_fits_109 : decode mM_fits.2.1 109 = .ok (.ifCond .eq 18, 3) := by decide +kernel
theorem dM_fits_112 : decode mM_fits.2.1 112 = .ok (.iload_n 3, 1) := by decide +kernel
theorem dM_fits_113 : decode mM_fits.2.1 113 = .ok (.aload_n 0, 1) := by decide +kernel
theorem dM_fits_114 : decode mM_fits.2.1 114 = .ok (.getfield 16, 3) := by decide +kernel
theorem dM_fits_117 : decode mM_fits.2.1 117 = .ok (.iload_n 1, 1) := by decide +kernel
theorem dM_fits_118 : decode mM_fits.2.1 118 = .ok (.iaload, 1) := by decide +kernel
theorem dM_fits_119 : decode mM_fits.2.1 119 = .ok (.iadd, 1) := by decide +kernel
theorem dM_fits_120 : decode mM_fits.2.1 120 = .ok (.aload_n 0, 1) := by decide +kernel
theorem dM_fits_121 : decode mM_fits.2.1 121 = .ok (.getfield 7, 3) := by decide +kernel
theorem dM_fits_124 : decode mM_fits.2.1 124 = .ok (.if_icmp .ne 35, 3) := by decide +kernel
theorem dM_fits_127 : decode mM_fits.2.1 127 = .ok (.aload_n 0, 1) := by decide +kernel
theorem dM_fits_128 : decode mM_fits.2.1 128 = .ok (.getfield 23, 3) := by decide +kernel
theorem dM_fits_131 : decode mM_fits.2.1 131 = .ok (.iload_n 1, 1) := by decide +kernel
theorem dM_fits_132 : decode mM_fits.2.1 132 = .ok (.iaload, 1) := by decide +kernel
theorem dM_fits_133 : decode mM_fits.2.1 133 = .ok (.bipush 8, 2) := by decide +kernel
theorem dM_fits_135 : decode mM_fits.2.1 135 = .ok (.iand, 1) := by decide +kernel
theorem dM_fits_136 : decode mM_fits.2.1 136 = .ok (.ifCond .eq 19, 3) := by decide +kernel
theorem dM_fits_139 : decode mM_fits.2.1 139 = .ok (.iload 4, 2) := by decide +kernel
theorem dM_fits_141 : decode mM_fits.2.1 141 = .ok (.aload_n 0, 1) := by decide +kernel
theorem dM_fits_142 : decode mM_fits.2.1 142 = .ok (.getfield 20, 3) := by decide +kernel
theorem dM_fits_145 : decode mM_fits.2.1 145 = .ok (.iload_n 1, 1) := by decide +kernel
