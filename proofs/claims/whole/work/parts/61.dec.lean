/-! what each instruction is, by a program of mine -/
theorem dX_isWithin_0 : decode mX_isWithin.2.1 0 = .ok (.iload_n 0, 1) := by decide +kernel
theorem dX_isWithin_1 : decode mX_isWithin.2.1 1 = .ok (.iload_n 1, 1) := by decide +kernel
theorem dX_isWithin_2 : decode mX_isWithin.2.1 2 = .ok (.if_icmp .lt 12, 3) := by decide +kernel
theorem dX_isWithin_5 : decode mX_isWithin.2.1 5 = .ok (.iload_n 0, 1) := by decide +kernel
theorem dX_isWithin_6 : decode mX_isWithin.2.1 6 = .ok (.iload_n 2, 1) := by decide +kernel
theorem dX_isWithin_7 : decode mX_isWithin.2.1 7 = .ok (.if_icmp .gt 7, 3) := by decide +kernel
theorem dX_isWithin_10 : decode mX_isWithin.2.1 10 = .ok (.iconst 1, 1) := by decide +kernel
theorem dX_isWithin_11 : decode mX_isWithin.2.1 11 = .ok (.goto 4, 3) := by decide +kernel
theorem dX_isWithin_14 : decode mX_isWithin.2.1 14 = .ok (.iconst 0, 1) := by decide +kernel
theorem dX_isWithin_15 : decode mX_isWithin.2.1 15 = .ok (.ireturn, 1) := by decide +kernel
theorem dT_startSheet_0 : decode mT_startSheet.2.1 0 = .ok (.aload_n 0, 1) := by decide +kernel
theorem dT_startSheet_1 : decode mT_startSheet.2.1 1 = .ok (.iload_n 1, 1) := by decide +kernel
theorem dT_startSheet_2 : decode mT_startSheet.2.1 2 = .ok (.putfield 9, 3) := by decide +kernel
theorem dT_startSheet_5 : decode mT_startSheet.2.1 5 = .ok (.aload_n 0, 1) := by decide +kernel
theorem dT_startSheet_6 : decode mT_startSheet.2.1 6 = .ok (.iload_n 2, 1) := by decide +kernel
theorem dT_startSheet_7 : decode mT_startSheet.2.1 7 = .ok (.putfield 15, 3) := by decide +kernel
theorem dT_startSheet_10 : decode mT_startSheet.2.1 10 = .ok (.aload_n 0, 1) := by decide +kernel
theorem dT_startSheet_11 : decode mT_startSheet.2.1 11 = .ok (.iconst 0, 1) := by decide +kernel
theorem dT_startSheet_12 : decode mT_startSheet.2.1 12 = .ok (.putfield 18, 3) := by decide +kernel
theorem dT_startSheet_15 : decode mT_startSheet.2.1 15 = .ok (.aload_n 0, 1) := by decide +kernel
theorem dT_startSheet_16 : decode mT_startSheet.2.1 16 = .ok (.iconst 0, 1) := by decide +kernel
theorem dT_startSheet_17 : decode mT_startSheet.2.1 17 = .ok (.putfield 21, 3) := by decide +kernel
theorem dT_startSheet_20 : decode mT_startSheet.2.1 20 = .ok (.return_, 1) := by decide +kernel
theorem dS_forget_0 : decode mS_forget.2.1 0 = .ok (.aload_n 0, 1) := by decide +kernel
theorem dS_forget_1 : decode mS_forget.2.1 1 = .ok (.iconst 1, 1) := by decide +kernel
theorem dS_forget_2 : decode mS_forget.2.1 2 = .ok (.putfield 9, 3) := by decide +kernel
theorem dS_forget_5 : decode mS_forget.2.1 5 = .ok (.return_, 1) := by decide +kernel
theorem dT_places_0 : decode mT_places.2.1 0 = .ok (.aload_n 0, 1) := by decide +kernel
theorem dT_places_1 : decode mT_places.2.1 1 = .ok (.getfield 9, 3) := by decide +kernel
theorem dT_places_4 : decode mT_places.2.1 4 = .ok (.aload_n 0, 1) := by decide +kernel
theorem dT_places_5 : decode mT_places.2.1 5 = .ok (.getfield 15, 3) := by decide +kernel
theorem dT_places_8 : decode mT_places.2.1 8 = .ok (.imul, 1) := by decide +kernel
theorem dT_places_9 : decode mT_places.2.1 9 = .ok (.ireturn, 1) := by decide +kernel
theorem dX_sheet_0 : decode mX_sheet.2.1 0 = .ok (.iload_n 1, 1) := by decide +kernel
theorem dX_sheet_1 : decode mX_sheet.2.1 1 = .ok (.iconst 1, 1) := by decide +kernel
theorem dX_sheet_2 : decode mX_sheet.2.1 2 = .ok (.iconst 3, 1) := by decide +kernel
theorem dX_sheet_3 : decode mX_sheet.2.1 3 = .ok (.invokestatic 41, 3) := by decide +kernel
theorem dX_sheet_6 : decode mX_sheet.2.1 6 = .ok (.ifCond .eq 20, 3) := by decide +kernel
theorem dX_sheet_9 : decode mX_sheet.2.1 9 = .ok (.iload_n 2, 1) := by decide +kernel
theorem dX_sheet_10 : decode mX_sheet.2.1 10 = .ok (.iconst 1, 1) := by decide +kernel
theorem dX_sheet_11 : decode mX_sheet.2.1 11 = .ok (.iconst 4, 1) := by decide +kernel
theorem dX_sheet_12 : decode mX_sheet.2.1 12 = .ok (.invokestatic 41, 3) := by decide +kernel
theorem dX_sheet_15 : decode mX_sheet.2.1 15 = .ok (.ifCond .eq 11, 3) := by decide +kernel
theorem dX_sheet_18 : decode mX_sheet.2.1 18 = .ok (.iload_n 1, 1) := by decide +kernel
theorem dX_sheet_19 : decode mX_sheet.2.1 19 = .ok (.iload_n 2, 1) := by decide +kernel
theorem dX_sheet_20 : decode mX_sheet.2.1 20 = .ok (.imul, 1) := by decide +kernel
theorem dX_sheet_21 : decode mX_sheet.2.1 21 = .ok (.bipush 9, 2) := by decide +kernel
theorem dX_sheet_23 : decode mX_sheet.2.1 23 = .ok (.if_icmp .le 5, 3) := by decide +kernel
theorem dX_sheet_26 : decode mX_sheet.2.1 26 = .ok (.iconst (-1), 1) := by decide +kernel
theorem dX_sheet_27 : decode mX_sheet.2.1 27 = .ok (.ireturn, 1) := by decide +kernel
theorem dX_sheet_28 : decode mX_sheet.2.1 28 = .ok (.aload_n 0, 1) := by decide +kernel
theorem dX_sheet_29 : decode mX_sheet.2.1 29 = .ok (.getfield 12, 3) := by decide +kernel
theorem dX_sheet_32 : decode mX_sheet.2.1 32 = .ok (.iload_n 1, 1) := by decide +kernel
theorem dX_sheet_33 : decode mX_sheet.2.1 33 = .ok (.iload_n 2, 1) := by decide +kernel
theorem dX_sheet_34 : decode mX_sheet.2.1 34 = .ok (.invokevirtual 45, 3) := by decide +kernel
theorem dX_sheet_37 : decode mX_sheet.2.1 37 = .ok (.aload_n 0, 1) := by decide +kernel
theorem dX_sheet_38 : decode mX_sheet.2.1 38 = .ok (.getfield 24, 3) := by decide +kernel
theorem dX_sheet_41 : decode mX_sheet.2.1 41 = .ok (.invokevirtual 49, 3) := by decide +kernel
theorem dX_sheet_44 : decode mX_sheet.2.1 44 = .ok (.aload_n 0, 1) := by decide +kernel
theorem dX_sheet_45 : decode mX_sheet.2.1 45 = .ok (.getfield 12, 3) := by decide +kernel
theorem dX_sheet_48 : decode mX_sheet.2.1 48 = .ok (.invokevirtual 52, 3) := by decide +kernel
theorem dX_sheet_51 : decode mX_sheet.2.1 51 = .ok (.ireturn, 1) := by decide +kernel
theorem dM_in_0 : decode mM_in.2.1 0 = .ok (.iload_n 0, 1) := by decide +kernel
theorem dM_in_1 : decode mM_in.2.1 1 = .ok (.iload_n 1, 1) := by decide +kernel
theorem dM_in_2 : decode mM_in.2.1 2 = .ok (.if_icmp .lt 12, 3) := by decide +kernel
theorem dM_in_5 : decode mM_in.2.1 5 = .ok (.iload_n 0, 1) := by decide +kernel
theorem dM_in_6 : decode mM_in.2.1 6 = .ok (.iload_n 2, 1) := by decide +kernel
theorem dM_in_7 : decode mM_in.2.1 7 = .ok (.if_icmp .gt 7, 3) := by decide +kernel
theorem dM_in_10 : decode mM_in.2.1 10 = .ok (.iconst 1, 1) := by decide +kernel
theorem dM_in_11 : decode mM_in.2.1 11 = .ok (.goto 4, 3) := by decide +kernel
theorem dM_in_14 : decode mM_in.2.1 14 = .ok (.iconst 0, 1) := by decide +kernel
theorem dM_in_15 : decode mM_in.2.1 15 = .ok (.ireturn, 1) := by decide +kernel
theorem dM_sheet_0 : decode mM_sheet.2.1 0 = .ok (.iload_n 1, 1) := by decide +kernel
theorem dM_sheet_1 : decode mM_sheet.2.1 1 = .ok (.iconst 1, 1) := by decide +kernel
theorem dM_sheet_2 : decode mM_sheet.2.1 2 = .ok (.iconst 3, 1) := by decide +kernel
theorem dM_sheet_3 : decode mM_sheet.2.1 3 = .ok (.invokestatic 99, 3) := by decide +kernel
theorem dM_sheet_6 : decode mM_sheet.2.1 6 = .ok (.ifCond .eq 20, 3) := by decide +kernel
theorem dM_sheet_9 : decode mM_sheet.2.1 9 = .ok (.iload_n 2, 1) := by decide +kernel
theorem dM_sheet_10 : decode mM_sheet.2.1 10 = .ok (.iconst 1, 1) := by decide +kernel
theorem dM_sheet_11 : decode mM_sheet.2.1 11 = .ok (.iconst 4, 1) := by decide +kernel
theorem dM_sheet_12 : decode mM_sheet.2.1 12 = .ok (.invokestatic 99, 3) := by decide +kernel
theorem dM_sheet_15 : decode mM_sheet.2.1 15 = .ok (.ifCond .eq 11, 3) := by decide +kernel
theorem dM_sheet_18 : decode mM_sheet.2.1 18 = .ok (.iload_n 1, 1) := by decide +kernel
theorem dM_sheet_19 : decode mM_sheet.2.1 19 = .ok (.iload_n 2, 1) := by decide +kernel
theorem dM_sheet_20 : decode mM_sheet.2.1 20 = .ok (.imul, 1) := by decide +kernel
theorem dM_sheet_21 : decode mM_sheet.2.1 21 = .ok (.bipush 9, 2) := by decide +kernel
theorem dM_sheet_23 : decode mM_sheet.2.1 23 = .ok (.if_icmp .le 5, 3) := by decide +kernel
theorem dM_sheet_26 : decode mM_sheet.2.1 26 = .ok (.iconst (-1), 1) := by decide +kernel
theorem dM_sheet_27 : decode mM_sheet.2.1 27 = .ok (.ireturn, 1) := by decide +kernel
theorem dM_sheet_28 : decode mM_sheet.2.1 28 = .ok (.aload_n 0, 1) := by decide +kernel
theorem dM_sheet_29 : decode mM_sheet.2.1 29 = .ok (.iload_n 1, 1) := by decide +kernel
theorem dM_sheet_30 : decode mM_sheet.2.1 30 = .ok (.putfield 7, 3) := by decide +kernel
theorem dM_sheet_33 : decode mM_sheet.2.1 33 = .ok (.aload_n 0, 1) := by decide +kernel
theorem dM_sheet_34 : decode mM_sheet.2.1 34 = .ok (.iload_n 2, 1) := by decide +kernel
theorem dM_sheet_35 : decode mM_sheet.2.1 35 = .ok (.putfield 13, 3) := by decide +kernel
theorem dM_sheet_38 : decode mM_sheet.2.1 38 = .ok (.aload_n 0, 1) := by decide +kernel
theorem dM_sheet_39 : decode mM_sheet.2.1 39 = .ok (.iconst 0, 1) := by decide +kernel
theorem dM_sheet_40 : decode mM_sheet.2.1 40 = .ok (.putfield 103, 3) := by decide +kernel
theorem dM_sheet_43 : decode mM_sheet.2.1 43 = .ok (.aload_n 0, 1) := by decide +kernel
theorem dM_sheet_44 : decode mM_sheet.2.1 44 = .ok (.iconst 0, 1) := by decide +kernel
theorem dM_sheet_45 : decode mM_sheet.2.1 45 = .ok (.putfield 96, 3) := by decide +kernel
theorem dM_sheet_48 : decode mM_sheet.2.1 48 = .ok (.iload_n 1, 1) := by decide +kernel
theorem dM_sheet_49 : decode mM_sheet.2.1 49 = .ok (.iload_n 2, 1) := by decide +kernel
theorem dM_sheet_50 : decode mM_sheet.2.1 50 = .ok (.imul, 1) := by decide +kernel
theorem dM_sheet_51 : decode mM_sheet.2.1 51 = .ok (.ireturn, 1) := by decide +kernel
theorem dT_addCopy_0 : decode mT_addCopy.2.1 0 = .ok (.aload_n 0, 1) := by decide +kernel
theorem dT_addCopy_1 : decode mT_addCopy.2.1 1 = .ok (.getfield 21, 3) := by decide +kernel
theorem dT_addCopy_4 : decode mT_addCopy.2.1 4 = .ok (.bipush 10, 2) := by decide +kernel
theorem dT_addCopy_6 : decode mT_addCopy.2.1 6 = .ok (.imul, 1) := by decide +kernel
theorem dT_addCopy_7 : decode mT_addCopy.2.1 7 = .ok (.istore 4, 2) := by decide +kernel
theorem dT_addCopy_9 : decode mT_addCopy.2.1 9 = .ok (.aload_n 0, 1) := by decide +kernel
theorem dT_addCopy_10 : decode mT_addCopy.2.1 10 = .ok (.getfield 31, 3) := by decide +kernel
theorem dT_addCopy_13 : decode mT_addCopy.2.1 13 = .ok (.iload 4, 2) := by decide +kernel
theorem dT_addCopy_15 : decode mT_addCopy.2.1 15 = .ok (.iconst 0, 1) := by decide +kernel
theorem dT_addCopy_16 : decode mT_addCopy.2.1 16 = .ok (.iadd, 1) := by decide +kernel
theorem dT_addCopy_17 : decode mT_addCopy.2.1 17 = .ok (.iload_n 1, 1) := by decide +kernel
theorem dT_addCopy_18 : decode mT_addCopy.2.1 18 = .ok (.iastore, 1) := by decide +kernel
theorem dT_addCopy_19 : decode mT_addCopy.2.1 19 = .ok (.aload_n 0, 1) := by decide +kernel
theorem dT_addCopy_20 : decode mT_addCopy.2.1 20 = .ok (.getfield 31, 3) := by decide +kernel
theorem dT_addCopy_23 : decode mT_addCopy.2.1 23 = .ok (.iload 4, 2) := by decide +kernel
theorem dT_addCopy_25 : decode mT_addCopy.2.1 25 = .ok (.iconst 1, 1) := by decide +kernel
theorem dT_addCopy_26 : decode mT_addCopy.2.1 26 = .ok (.iadd, 1) := by decide +kernel
theorem dT_addCopy_27 : decode mT_addCopy.2.1 27 = .ok (.iload_n 2, 1) := by decide +kernel
theorem dT_addCopy_28 : decode mT_addCopy.2.1 28 = .ok (.iastore, 1) := by decide +kernel
theorem dT_addCopy_29 : decode mT_addCopy.2.1 29 = .ok (.aload_n 0, 1) := by decide +kernel
theorem dT_addCopy_30 : decode mT_addCopy.2.1 30 = .ok (.getfield 31, 3) := by decide +kernel
theorem dT_addCopy_33 : decode mT_addCopy.2.1 33 = .ok (.iload 4, 2) := by decide +kernel
theorem dT_addCopy_35 : decode mT_addCopy.2.1 35 = .ok (.iconst 2, 1) := by decide +kernel
theorem dT_addCopy_36 : decode mT_addCopy.2.1 36 = .ok (.iadd, 1) := by decide +kernel
theorem dT_addCopy_37 : decode mT_addCopy.2.1 37 = .ok (.iload_n 3, 1) := by decide +kernel
theorem dT_addCopy_38 : decode mT_addCopy.2.1 38 = .ok (.iastore, 1) := by decide +kernel
theorem dT_addCopy_39 : decode mT_addCopy.2.1 39 = .ok (.aload_n 0, 1) := by decide +kernel
theorem dT_addCopy_40 : decode mT_addCopy.2.1 40 = .ok (.getfield 31, 3) := by decide +kernel
theorem dT_addCopy_43 : decode mT_addCopy.2.1 43 = .ok (.iload 4, 2) := by decide +kernel
theorem dT_addCopy_45 : decode mT_addCopy.2.1 45 = .ok (.iconst 3, 1) := by decide +kernel
theorem dT_addCopy_46 : decode mT_addCopy.2.1 46 = .ok (.iadd, 1) := by decide +kernel
theorem dT_addCopy_47 : decode mT_addCopy.2.1 47 = .ok (.iconst (-1), 1) := by decide +kernel
theorem dT_addCopy_48 : decode mT_addCopy.2.1 48 = .ok (.iastore, 1) := by decide +kernel
theorem dT_addCopy_49 : decode mT_addCopy.2.1 49 = .ok (.aload_n 0, 1) := by decide +kernel
theorem dT_addCopy_50 : decode mT_addCopy.2.1 50 = .ok (.getfield 31, 3) := by decide +kernel
theorem dT_addCopy_53 : decode mT_addCopy.2.1 53 = .ok (.iload 4, 2) := by decide +kernel
theorem dT_addCopy_55 : decode mT_addCopy.2.1 55 = .ok (.iconst 4, 1) := by decide +kernel
theorem dT_addCopy_56 : decode mT_addCopy.2.1 56 = .ok (.iadd, 1) := by decide +kernel
theorem dT_addCopy_57 : decode mT_addCopy.2.1 57 = .ok (.iconst (-1), 1) := by decide +kernel
theorem dT_addCopy_58 : decode mT_addCopy.2.1 58 = .ok (.iastore, 1) := by decide +kernel
theorem dT_addCopy_59 : decode mT_addCopy.2.1 59 = .ok (.aload_n 0, 1) := by decide +kernel
theorem dT_addCopy_60 : decode mT_addCopy.2.1 60 = .ok (.getfield 31, 3) := by decide +kernel
theorem dT_addCopy_63 : decode mT_addCopy.2.1 63 = .ok (.iload 4, 2) := by decide +kernel
theorem dT_addCopy_65 : decode mT_addCopy.2.1 65 = .ok (.iconst 5, 1) := by decide +kernel
theorem dT_addCopy_66 : decode mT_addCopy.2.1 66 = .ok (.iadd, 1) := by decide +kernel
theorem dT_addCopy_67 : decode mT_addCopy.2.1 67 = .ok (.iconst 0, 1) := by decide +kernel
theorem dT_addCopy_68 : decode mT_addCopy.2.1 68 = .ok (.iastore, 1) := by decide +kernel
theorem dT_addCopy_69 : decode mT_addCopy.2.1 69 = .ok (.aload_n 0, 1) := by decide +kernel
theorem dT_addCopy_70 : decode mT_addCopy.2.1 70 = .ok (.getfield 31, 3) := by decide +kernel
theorem dT_addCopy_73 : decode mT_addCopy.2.1 73 = .ok (.iload 4, 2) := by decide +kernel
theorem dT_addCopy_75 : decode mT_addCopy.2.1 75 = .ok (.bipush 6, 2) := by decide +kernel
theorem dT_addCopy_77 : decode mT_addCopy.2.1 77 = .ok (.iadd, 1) := by decide +kernel
theorem dT_addCopy_78 : decode mT_addCopy.2.1 78 = .ok (.iconst (-1), 1) := by decide +kernel
theorem dT_addCopy_79 : decode mT_addCopy.2.1 79 = .ok (.iastore, 1) := by decide +kernel
theorem dT_addCopy_80 : decode mT_addCopy.2.1 80 = .ok (.aload_n 0, 1) := by decide +kernel
theorem dT_addCopy_81 : decode mT_addCopy.2.1 81 = .ok (.getfield 31, 3) := by decide +kernel
theorem dT_addCopy_84 : decode mT_addCopy.2.1 84 = .ok (.iload 4, 2) := by decide +kernel
theorem dT_addCopy_86 : decode mT_addCopy.2.1 86 = .ok (.bipush 7, 2) := by decide +kernel
theorem dT_addCopy_88 : decode mT_addCopy.2.1 88 = .ok (.iadd, 1) := by decide +kernel
theorem dT_addCopy_89 : decode mT_addCopy.2.1 89 = .ok (.iconst 0, 1) := by decide +kernel
theorem dT_addCopy_90 : decode mT_addCopy.2.1 90 = .ok (.iastore, 1) := by decide +kernel
theorem dT_addCopy_91 : decode mT_addCopy.2.1 91 = .ok (.aload_n 0, 1) := by decide +kernel
theorem dT_addCopy_92 : decode mT_addCopy.2.1 92 = .ok (.getfield 31, 3) := by decide +kernel
theorem dT_addCopy_95 : decode mT_addCopy.2.1 95 = .ok (.iload 4, 2) := by decide +kernel
theorem dT_addCopy_97 : decode mT_addCopy.2.1 97 = .ok (.bipush 8, 2) := by decide +kernel
theorem dT_addCopy_99 : decode mT_addCopy.2.1 99 = .ok (.iadd, 1) := by decide +kernel
theorem dT_addCopy_100 : decode mT_addCopy.2.1 100 = .ok (.iconst 0, 1) := by decide +kernel
theorem dT_addCopy_101 : decode mT_addCopy.2.1 101 = .ok (.iastore, 1) := by decide +kernel
theorem dT_addCopy_102 : decode mT_addCopy.2.1 102 = .ok (.aload_n 0, 1) := by decide +kernel
theorem dT_addCopy_103 : decode mT_addCopy.2.1 103 = .ok (.getfield 31, 3) := by decide +kernel
theorem dT_addCopy_106 : decode mT_addCopy.2.1 106 = .ok (.iload 4, 2) := by decide +kernel
theorem dT_addCopy_108 : decode mT_addCopy.2.1 108 = .ok (.bipush 9, 2) := by decide +kernel
theorem dT_addCopy_110 : decode mT_addCopy.2.1 110 = .ok (.iadd, 1) := by decide +kernel
theorem dT_addCopy_111 : decode mT_addCopy.2.1 111 = .ok (.iconst 0, 1) := by decide +kernel
theorem dT_addCopy_112 : decode mT_addCopy.2.1 112 = .ok (.iastore, 1) := by decide +kernel
theorem dT_addCopy_113 : decode mT_addCopy.2.1 113 = .ok (.aload_n 0, 1) := by decide +kernel
theorem dT_addCopy_114 : decode mT_addCopy.2.1 114 = .ok (.dup, 1) := by decide +kernel
theorem dT_addCopy_115 : decode mT_addCopy.2.1 115 = .ok (.getfield 21, 3) := by decide +kernel
theorem dT_addCopy_118 : decode mT_addCopy.2.1 118 = .ok (.iconst 1, 1) := by decide +kernel
theorem dT_addCopy_119 : decode mT_addCopy.2.1 119 = .ok (.iadd, 1) := by decide +kernel
theorem dT_addCopy_120 : decode mT_addCopy.2.1 120 = .ok (.putfield 21, 3) := by decide +kernel
theorem dT_addCopy_123 : decode mT_addCopy.2.1 123 = .ok (.return_, 1) := by decide +kernel
theorem dT_addPiece_0 : decode mT_addPiece.2.1 0 = .ok (.aload_n 0, 1) := by decide +kernel
theorem dT_addPiece_1 : decode mT_addPiece.2.1 1 = .ok (.getfield 18, 3) := by decide +kernel
theorem dT_addPiece_4 : decode mT_addPiece.2.1 4 = .ok (.istore 4, 2) := by decide +kernel
theorem dT_addPiece_6 : decode mT_addPiece.2.1 6 = .ok (.iload 4, 2) := by decide +kernel
theorem dT_addPiece_8 : decode mT_addPiece.2.1 8 = .ok (.bipush 6, 2) := by decide +kernel
theorem dT_addPiece_10 : decode mT_addPiece.2.1 10 = .ok (.imul, 1) := by decide +kernel
theorem dT_addPiece_11 : decode mT_addPiece.2.1 11 = .ok (.istore 5, 2) := by decide +kernel
theorem dT_addPiece_13 : decode mT_addPiece.2.1 13 = .ok (.aload_n 0, 1) := by decide +kernel
theorem dT_addPiece_14 : decode mT_addPiece.2.1 14 = .ok (.getfield 27, 3) := by decide +kernel
theorem dT_addPiece_17 : decode mT_addPiece.2.1 17 = .ok (.iload 5, 2) := by decide +kernel
theorem dT_addPiece_19 : decode mT_addPiece.2.1 19 = .ok (.iconst 0, 1) := by decide +kernel
theorem dT_addPiece_20 : decode mT_addPiece.2.1 20 = .ok (.iadd, 1) := by decide +kernel
theorem dT_addPiece_21 : decode mT_addPiece.2.1 21 = .ok (.iload_n 1, 1) := by decide +kernel
theorem dT_addPiece_22 : decode mT_addPiece.2.1 22 = .ok (.iastore, 1) := by decide +kernel
theorem dT_addPiece_23 : decode mT_addPiece.2.1 23 = .ok (.aload_n 0, 1) := by decide +kernel
theorem dT_addPiece_24 : decode mT_addPiece.2.1 24 = .ok (.getfield 27, 3) := by decide +kernel
theorem dT_addPiece_27 : decode mT_addPiece.2.1 27 = .ok (.iload 5, 2) := by decide +kernel
theorem dT_addPiece_29 : decode mT_addPiece.2.1 29 = .ok (.iconst 1, 1) := by decide +kernel
theorem dT_addPiece_30 : decode mT_addPiece.2.1 30 = .ok (.iadd, 1) := by decide +kernel
theorem dT_addPiece_31 : decode mT_addPiece.2.1 31 = .ok (.iload_n 2, 1) := by decide +kernel
theorem dT_addPiece_32 : decode mT_addPiece.2.1 32 = .ok (.iastore, 1) := by decide +kernel
theorem dT_addPiece_33 : decode mT_addPiece.2.1 33 = .ok (.aload_n 0, 1) := by decide +kernel
theorem dT_addPiece_34 : decode mT_addPiece.2.1 34 = .ok (.getfield 27, 3) := by decide +kernel
theorem dT_addPiece_37 : decode mT_addPiece.2.1 37 = .ok (.iload 5, 2) := by decide +kernel
theorem dT_addPiece_39 : decode mT_addPiece.2.1 39 = .ok (.iconst 2, 1) := by decide +kernel
theorem dT_addPiece_40 : decode mT_addPiece.2.1 40 = .ok (.iadd, 1) := by decide +kernel
theorem dT_addPiece_41 : decode mT_addPiece.2.1 41 = .ok (.iload_n 3, 1) := by decide +kernel
theorem dT_addPiece_42 : decode mT_addPiece.2.1 42 = .ok (.iastore, 1) := by decide +kernel
theorem dT_addPiece_43 : decode mT_addPiece.2.1 43 = .ok (.aload_n 0, 1) := by decide +kernel
theorem dT_addPiece_44 : decode mT_addPiece.2.1 44 = .ok (.getfield 27, 3) := by decide +kernel
theorem dT_addPiece_47 : decode mT_addPiece.2.1 47 = .ok (.iload 5, 2) := by decide +kernel
theorem dT_addPiece_49 : decode mT_addPiece.2.1 49 = .ok (.iconst 3, 1) := by decide +kernel
theorem dT_addPiece_50 : decode mT_addPiece.2.1 50 = .ok (.iadd, 1) := by decide +kernel
theorem dT_addPiece_51 : decode mT_addPiece.2.1 51 = .ok (.aload_n 0, 1) := by decide +kernel
theorem dT_addPiece_52 : decode mT_addPiece.2.1 52 = .ok (.getfield 21, 3) := by decide +kernel
theorem dT_addPiece_55 : decode mT_addPiece.2.1 55 = .ok (.iastore, 1) := by decide +kernel
theorem dT_addPiece_56 : decode mT_addPiece.2.1 56 = .ok (.aload_n 0, 1) := by decide +kernel
theorem dT_addPiece_57 : decode mT_addPiece.2.1 57 = .ok (.getfield 27, 3) := by decide +kernel
theorem dT_addPiece_60 : decode mT_addPiece.2.1 60 = .ok (.iload 5, 2) := by decide +kernel
theorem dT_addPiece_62 : decode mT_addPiece.2.1 62 = .ok (.iconst 4, 1) := by decide +kernel
theorem dT_addPiece_63 : decode mT_addPiece.2.1 63 = .ok (.iadd, 1) := by decide +kernel
theorem dT_addPiece_64 : decode mT_addPiece.2.1 64 = .ok (.aload_n 0, 1) := by decide +kernel
theorem dT_addPiece_65 : decode mT_addPiece.2.1 65 = .ok (.getfield 21, 3) := by decide +kernel
theorem dT_addPiece_68 : decode mT_addPiece.2.1 68 = .ok (.iload_n 1, 1) := by decide +kernel
theorem dT_addPiece_69 : decode mT_addPiece.2.1 69 = .ok (.iload_n 2, 1) := by decide +kernel
theorem dT_addPiece_70 : decode mT_addPiece.2.1 70 = .ok (.imul, 1) := by decide +kernel
theorem dT_addPiece_71 : decode mT_addPiece.2.1 71 = .ok (.iadd, 1) := by decide +kernel
theorem dT_addPiece_72 : decode mT_addPiece.2.1 72 = .ok (.iastore, 1) := by decide +kernel
theorem dT_addPiece_73 : decode mT_addPiece.2.1 73 = .ok (.aload_n 0, 1) := by decide +kernel
theorem dT_addPiece_74 : decode mT_addPiece.2.1 74 = .ok (.getfield 27, 3) := by decide +kernel
theorem dT_addPiece_77 : decode mT_addPiece.2.1 77 = .ok (.iload 5, 2) := by decide +kernel
theorem dT_addPiece_79 : decode mT_addPiece.2.1 79 = .ok (.iconst 5, 1) := by decide +kernel
theorem dT_addPiece_80 : decode mT_addPiece.2.1 80 = .ok (.iadd, 1) := by decide +kernel
theorem dT_addPiece_81 : decode mT_addPiece.2.1 81 = .ok (.iconst 0, 1) := by decide +kernel
theorem dT_addPiece_82 : decode mT_addPiece.2.1 82 = .ok (.iastore, 1) := by decide +kernel
theorem dT_addPiece_83 : decode mT_addPiece.2.1 83 = .ok (.iconst 0, 1) := by decide +kernel
theorem dT_addPiece_84 : decode mT_addPiece.2.1 84 = .ok (.istore 6, 2) := by decide +kernel
theorem dT_addPiece_86 : decode mT_addPiece.2.1 86 = .ok (.iload 6, 2) := by decide +kernel
theorem dT_addPiece_88 : decode mT_addPiece.2.1 88 = .ok (.iload_n 1, 1) := by decide +kernel
theorem dT_addPiece_89 : decode mT_addPiece.2.1 89 = .ok (.if_icmp .ge 34, 3) := by decide +kernel
theorem dT_addPiece_92 : decode mT_addPiece.2.1 92 = .ok (.iconst 0, 1) := by decide +kernel
theorem dT_addPiece_93 : decode mT_addPiece.2.1 93 = .ok (.istore 7, 2) := by decide +kernel
theorem dT_addPiece_95 : decode mT_addPiece.2.1 95 = .ok (.iload 7, 2) := by decide +kernel
theorem dT_addPiece_97 : decode mT_addPiece.2.1 97 = .ok (.iload_n 2, 1) := by decide +kernel
theorem dT_addPiece_98 : decode mT_addPiece.2.1 98 = .ok (.if_icmp .ge 19, 3) := by decide +kernel
theorem dT_addPiece_101 : decode mT_addPiece.2.1 101 = .ok (.aload_n 0, 1) := by decide +kernel
theorem dT_addPiece_102 : decode mT_addPiece.2.1 102 = .ok (.iload 4, 2) := by decide +kernel
theorem dT_addPiece_104 : decode mT_addPiece.2.1 104 = .ok (.iload 6, 2) := by decide +kernel
theorem dT_addPiece_106 : decode mT_addPiece.2.1 106 = .ok (.iload 7, 2) := by decide +kernel
theorem dT_addPiece_108 : decode mT_addPiece.2.1 108 = .ok (.invokevirtual 51, 3) := by decide +kernel
theorem dT_addPiece_111 : decode mT_addPiece.2.1 111 = .ok (.iinc 7 1, 3) := by decide +kernel
theorem dT_addPiece_114 : decode mT_addPiece.2.1 114 = .ok (.goto (-19), 3) := by decide +kernel
theorem dT_addPiece_117 : decode mT_addPiece.2.1 117 = .ok (.iinc 6 1, 3) := by decide +kernel
theorem dT_addPiece_120 : decode mT_addPiece.2.1 120 = .ok (.goto (-34), 3) := by decide +kernel
theorem dT_addPiece_123 : decode mT_addPiece.2.1 123 = .ok (.aload_n 0, 1) := by decide +kernel
theorem dT_addPiece_124 : decode mT_addPiece.2.1 124 = .ok (.dup, 1) := by decide +kernel
theorem dT_addPiece_125 : decode mT_addPiece.2.1 125 = .ok (.getfield 18, 3) := by decide +kernel
theorem dT_addPiece_128 : decode mT_addPiece.2.1 128 = .ok (.iconst 1, 1) := by decide +kernel
theorem dT_addPiece_129 : decode mT_addPiece.2.1 129 = .ok (.iadd, 1) := by decide +kernel
theorem dT_addPiece_130 : decode mT_addPiece.2.1 130 = .ok (.putfield 18, 3) := by decide +kernel
theorem dT_addPiece_133 : decode mT_addPiece.2.1 133 = .ok (.iload 4, 2) := by decide +kernel
theorem dT_addPiece_135 : decode mT_addPiece.2.1 135 = .ok (.ireturn, 1) := by decide +kernel
theorem dX_piece_0 : decode mX_piece.2.1 0 = .ok (.iload_n 1, 1) := by decide +kernel
theorem dX_piece_1 : decode mX_piece.2.1 1 = .ok (.iconst 1, 1) := by decide +kernel
theorem dX_piece_2 : decode mX_piece.2.1 2 = .ok (.iconst 2, 1) := by decide +kernel
theorem dX_piece_3 : decode mX_piece.2.1 3 = .ok (.invokestatic 41, 3) := by decide +kernel
theorem dX_piece_6 : decode mX_piece.2.1 6 = .ok (.ifCond .eq 22, 3) := by decide +kernel
theorem dX_piece_9 : decode mX_piece.2.1 9 = .ok (.iload_n 2, 1) := by decide +kernel
theorem dX_piece_10 : decode mX_piece.2.1 10 = .ok (.iconst 1, 1) := by decide +kernel
theorem dX_piece_11 : decode mX_piece.2.1 11 = .ok (.iconst 3, 1) := by decide +kernel
theorem dX_piece_12 : decode mX_piece.2.1 12 = .ok (.invokestatic 41, 3) := by decide +kernel
theorem dX_piece_15 : decode mX_piece.2.1 15 = .ok (.ifCond .eq 13, 3) := by decide +kernel
theorem dX_piece_18 : decode mX_piece.2.1 18 = .ok (.iload_n 3, 1) := by decide +kernel
theorem dX_piece_19 : decode mX_piece.2.1 19 = .ok (.iconst 0, 1) := by decide +kernel
theorem dX_piece_20 : decode mX_piece.2.1 20 = .ok (.bipush 15, 2) := by decide +kernel
theorem dX_piece_22 : decode mX_piece.2.1 22 = .ok (.invokestatic 41, 3) := by decide +kernel
theorem dX_piece_25 : decode mX_piece.2.1 25 = .ok (.ifCond .ne 5, 3) := by decide +kernel
theorem dX_piece_28 : decode mX_piece.2.1 28 = .ok (.iconst (-1), 1) := by decide +kernel
theorem dX_piece_29 : decode mX_piece.2.1 29 = .ok (.ireturn, 1) := by decide +kernel
theorem dX_piece_30 : decode mX_piece.2.1 30 = .ok (.aload_n 0, 1) := by decide +kernel
theorem dX_piece_31 : decode mX_piece.2.1 31 = .ok (.getfield 12, 3) := by decide +kernel
theorem dX_piece_34 : decode mX_piece.2.1 34 = .ok (.getfield 56, 3) := by decide +kernel
theorem dX_piece_37 : decode mX_piece.2.1 37 = .ok (.iconst 5, 1) := by decide +kernel
theorem dX_piece_38 : decode mX_piece.2.1 38 = .ok (.if_icmp .lt 6, 3) := by decide +kernel
theorem dX_piece_41 : decode mX_piece.2.1 41 = .ok (.bipush (-2), 2) := by decide +kernel
theorem dX_piece_43 : decode mX_piece.2.1 43 = .ok (.ireturn, 1) := by decide +kernel
theorem dX_piece_44 : decode mX_piece.2.1 44 = .ok (.aload_n 0, 1) := by decide +kernel
theorem dX_piece_45 : decode mX_piece.2.1 45 = .ok (.getfield 24, 3) := by decide +kernel
theorem dX_piece_48 : decode mX_piece.2.1 48 = .ok (.invokevirtual 49, 3) := by decide +kernel
theorem dX_piece_51 : decode mX_piece.2.1 51 = .ok (.aload_n 0, 1) := by decide +kernel
theorem dX_piece_52 : decode mX_piece.2.1 52 = .ok (.getfield 12, 3) := by decide +kernel
theorem dX_piece_55 : decode mX_piece.2.1 55 = .ok (.iload_n 1, 1) := by decide +kernel
theorem dX_piece_56 : decode mX_piece.2.1 56 = .ok (.iload_n 2, 1) := by decide +kernel
theorem dX_piece_57 : decode mX_piece.2.1 57 = .ok (.iload_n 3, 1) := by decide +kernel
theorem dX_piece_58 : decode mX_piece.2.1 58 = .ok (.invokevirtual 60, 3) := by decide +kernel
theorem dX_piece_61 : decode mX_piece.2.1 61 = .ok (.ireturn, 1) := by decide +kernel
theorem dM_piece_0 : decode mM_piece.2.1 0 = .ok (.iload_n 1, 1) := by decide +kernel
theorem dM_piece_1 : decode mM_piece.2.1 1 = .ok (.iconst 1, 1) := by decide +kernel
theorem dM_piece_2 : decode mM_piece.2.1 2 = .ok (.iconst 2, 1) := by decide +kernel
theorem dM_piece_3 : decode mM_piece.2.1 3 = .ok (.invokestatic 99, 3) := by decide +kernel
theorem dM_piece_6 : decode mM_piece.2.1 6 = .ok (.ifCond .eq 22, 3) := by decide +kernel
theorem dM_piece_9 : decode mM_piece.2.1 9 = .ok (.iload_n 2, 1) := by decide +kernel
theorem dM_piece_10 : decode mM_piece.2.1 10 = .ok (.iconst 1, 1) := by decide +kernel
theorem dM_piece_11 : decode mM_piece.2.1 11 = .ok (.iconst 3, 1) := by decide +kernel
theorem dM_piece_12 : decode mM_piece.2.1 12 = .ok (.invokestatic 99, 3) := by decide +kernel
theorem dM_piece_15 : decode mM_piece.2.1 15 = .ok (.ifCond .eq 13, 3) := by decide +kernel
theorem dM_piece_18 : decode mM_piece.2.1 18 = .ok (.iload_n 3, 1) := by decide +kernel
theorem dM_piece_19 : decode mM_piece.2.1 19 = .ok (.iconst 0, 1) := by decide +kernel
theorem dM_piece_20 : decode mM_piece.2.1 20 = .ok (.bipush 15, 2) := by decide +kernel
theorem dM_piece_22 : decode mM_piece.2.1 22 = .ok (.invokestatic 99, 3) := by decide +kernel
theorem dM_piece_25 : decode mM_piece.2.1 25 = .ok (.ifCond .ne 5, 3) := by decide +kernel
theorem dM_piece_28 : decode mM_piece.2.1 28 = .ok (.iconst (-1), 1) := by decide +kernel
theorem dM_piece_29 : decode mM_piece.2.1 29 = .ok (.ireturn, 1) := by decide +kernel
theorem dM_piece_30 : decode mM_piece.2.1 30 = .ok (.aload_n 0, 1) := by decide +kernel
theorem dM_piece_31 : decode mM_piece.2.1 31 = .ok (.getfield 103, 3) := by decide +kernel
theorem dM_piece_34 : decode mM_piece.2.1 34 = .ok (.iconst 5, 1) := by decide +kernel
theorem dM_piece_35 : decode mM_piece.2.1 35 = .ok (.if_icmp .ne 6, 3) := by decide +kernel
theorem dM_piece_38 : decode mM_piece.2.1 38 = .ok (.bipush (-2), 2) := by decide +kernel
theorem dM_piece_40 : decode mM_piece.2.1 40 = .ok (.ireturn, 1) := by decide +kernel
theorem dM_piece_41 : decode mM_piece.2.1 41 = .ok (.aload_n 0, 1) := by decide +kernel
theorem dM_piece_42 : decode mM_piece.2.1 42 = .ok (.getfield 16, 3) := by decide +kernel
theorem dM_piece_45 : decode mM_piece.2.1 45 = .ok (.aload_n 0, 1) := by decide +kernel
theorem dM_piece_46 : decode mM_piece.2.1 46 = .ok (.getfield 103, 3) := by decide +kernel
theorem dM_piece_49 : decode mM_piece.2.1 49 = .ok (.iload_n 1, 1) := by decide +kernel
theorem dM_piece_50 : decode mM_piece.2.1 50 = .ok (.iastore, 1) := by decide +kernel
theorem dM_piece_51 : decode mM_piece.2.1 51 = .ok (.aload_n 0, 1) := by decide +kernel
theorem dM_piece_52 : decode mM_piece.2.1 52 = .ok (.getfield 20, 3) := by decide +kernel
theorem dM_piece_55 : decode mM_piece.2.1 55 = .ok (.aload_n 0, 1) := by decide +kernel
theorem dM_piece_56 : decode mM_piece.2.1 56 = .ok (.getfield 103, 3) := by decide +kernel
theorem dM_piece_59 : decode mM_piece.2.1 59 = .ok (.iload_n 2, 1) := by decide +kernel
theorem dM_piece_60 : decode mM_piece.2.1 60 = .ok (.iastore, 1) := by decide +kernel
theorem dM_piece_61 : decode mM_piece.2.1 61 = .ok (.aload_n 0, 1) := by decide +kernel
theorem dM_piece_62 : decode mM_piece.2.1 62 = .ok (.getfield 23, 3) := by decide +kernel
theorem dM_piece_65 : decode mM_piece.2.1 65 = .ok (.aload_n 0, 1) := by decide +kernel
theorem dM_piece_66 : decode mM_piece.2.1 66 = .ok (.getfield 103, 3) := by decide +kernel
theorem dM_piece_69 : decode mM_piece.2.1 69 = .ok (.iload_n 3, 1) := by decide +kernel
theorem dM_piece_70 : decode mM_piece.2.1 70 = .ok (.iastore, 1) := by decide +kernel
theorem dM_piece_71 : decode mM_piece.2.1 71 = .ok (.aload_n 0, 1) := by decide +kernel
theorem dM_piece_72 : decode mM_piece.2.1 72 = .ok (.getfield 26, 3) := by decide +kernel
theorem dM_piece_75 : decode mM_piece.2.1 75 = .ok (.aload_n 0, 1) := by decide +kernel
theorem dM_piece_76 : decode mM_piece.2.1 76 = .ok (.getfield 103, 3) := by decide +kernel
theorem dM_piece_79 : decode mM_piece.2.1 79 = .ok (.aload_n 0, 1) := by decide +kernel
theorem dM_piece_80 : decode mM_piece.2.1 80 = .ok (.getfield 96, 3) := by decide +kernel
theorem dM_piece_83 : decode mM_piece.2.1 83 = .ok (.iastore, 1) := by decide +kernel
theorem dM_piece_84 : decode mM_piece.2.1 84 = .ok (.aload_n 0, 1) := by decide +kernel
theorem dM_piece_85 : decode mM_piece.2.1 85 = .ok (.getfield 29, 3) := by decide +kernel
theorem dM_piece_88 : decode mM_piece.2.1 88 = .ok (.aload_n 0, 1) := by decide +kernel
theorem dM_piece_89 : decode mM_piece.2.1 89 = .ok (.getfield 103, 3) := by decide +kernel
theorem dM_piece_92 : decode mM_piece.2.1 92 = .ok (.iconst 0, 1) := by decide +kernel
theorem dM_piece_93 : decode mM_piece.2.1 93 = .ok (.bastore, 1) := by decide +kernel
theorem dM_piece_94 : decode mM_piece.2.1 94 = .ok (.iconst 0, 1) := by decide +kernel
theorem dM_piece_95 : decode mM_piece.2.1 95 = .ok (.istore 4, 2) := by decide +kernel
theorem dM_piece_97 : decode mM_piece.2.1 97 = .ok (.iload 4, 2) := by decide +kernel
theorem dM_piece_99 : decode mM_piece.2.1 99 = .ok (.iload_n 1, 1) := by decide +kernel
theorem dM_piece_100 : decode mM_piece.2.1 100 = .ok (.iload_n 2, 1) := by decide +kernel
theorem dM_piece_101 : decode mM_piece.2.1 101 = .ok (.imul, 1) := by decide +kernel
theorem dM_piece_102 : decode mM_piece.2.1 102 = .ok (.if_icmp .ge 114, 3) := by decide +kernel
theorem dM_piece_105 : decode mM_piece.2.1 105 = .ok (.aload_n 0, 1) := by decide +kernel
theorem dM_piece_106 : decode mM_piece.2.1 106 = .ok (.getfield 33, 3) := by decide +kernel
theorem dM_piece_109 : decode mM_piece.2.1 109 = .ok (.aload_n 0, 1) := by decide +kernel
theorem dM_piece_110 : decode mM_piece.2.1 110 = .ok (.getfield 96, 3) := by decide +kernel
theorem dM_piece_113 : decode mM_piece.2.1 113 = .ok (.aload_n 0, 1) := by decide +kernel
theorem dM_piece_114 : decode mM_piece.2.1 114 = .ok (.getfield 103, 3) := by decide +kernel
theorem dM_piece_117 : decode mM_piece.2.1 117 = .ok (.iastore, 1) := by decide +kernel
theorem dM_piece_118 : decode mM_piece.2.1 118 = .ok (.iconst 0, 1) := by decide +kernel
theorem dM_piece_119 : decode mM_piece.2.1 119 = .ok (.istore 5, 2) := by decide +kernel
theorem dM_piece_121 : decode mM_piece.2.1 121 = .ok (.iload 5, 2) := by decide +kernel
theorem dM_piece_123 : decode mM_piece.2.1 123 = .ok (.bipush 8, 2) := by decide +kernel
theorem dM_piece_125 : decode mM_piece.2.1 125 = .ok (.if_icmp .ge 25, 3) := by decide +kernel
theorem dM_piece_128 : decode mM_piece.2.1 128 = .ok (.aload_n 0, 1) := by decide +kernel
theorem dM_piece_129 : decode mM_piece.2.1 129 = .ok (.getfield 36, 3) := by decide +kernel
theorem dM_piece_132 : decode mM_piece.2.1 132 = .ok (.bipush 8, 2) := by decide +kernel
theorem dM_piece_134 : decode mM_piece.2.1 134 = .ok (.aload_n 0, 1) := by decide +kernel
theorem dM_piece_135 : decode mM_piece.2.1 135 = .ok (.getfield 96, 3) := by decide +kernel
theorem dM_piece_138 : decode mM_piece.2.1 138 = .ok (.imul, 1) := by decide +kernel
theorem dM_piece_139 : decode mM_piece.2.1 139 = .ok (.iload 5, 2) := by decide +kernel
theorem dM_piece_141 : decode mM_piece.2.1 141 = .ok (.iadd, 1) := by decide +kernel
theorem dM_piece_142 : decode mM_piece.2.1 142 = .ok (.iconst 2, 1) := by decide +kernel
theorem dM_piece_143 : decode mM_piece.2.1 143 = .ok (.iastore, 1) := by decide +kernel
theorem dM_piece_144 : decode mM_piece.2.1 144 = .ok (.iinc 5 1, 3) := by decide +kernel
theorem dM_piece_147 : decode mM_piece.2.1 147 = .ok (.goto (-26), 3) := by decide +kernel
theorem dM_piece_150 : decode mM_piece.2.1 150 = .ok (.aload_n 0, 1) := by decide +kernel
theorem dM_piece_151 : decode mM_piece.2.1 151 = .ok (.getfield 39, 3) := by decide +kernel
theorem dM_piece_154 : decode mM_piece.2.1 154 = .ok (.aload_n 0, 1) := by decide +kernel
theorem dM_piece_155 : decode mM_piece.2.1 155 = .ok (.getfield 96, 3) := by decide +kernel
theorem dM_piece_158 : decode mM_piece.2.1 158 = .ok (.iconst (-1), 1) := by decide +kernel
theorem dM_piece_159 : decode mM_piece.2.1 159 = .ok (.iastore, 1) := by decide +kernel
theorem dM_piece_160 : decode mM_piece.2.1 160 = .ok (.aload_n 0, 1) := by decide +kernel
theorem dM_piece_161 : decode mM_piece.2.1 161 = .ok (.getfield 42, 3) := by decide +kernel
theorem dM_piece_164 : decode mM_piece.2.1 164 = .ok (.aload_n 0, 1) := by decide +kernel
theorem dM_piece_165 : decode mM_piece.2.1 165 = .ok (.getfield 96, 3) := by decide +kernel
theorem dM_piece_168 : decode mM_piece.2.1 168 = .ok (.iconst (-1), 1) := by decide +kernel
theorem dM_piece_169 : decode mM_piece.2.1 169 = .ok (.iastore, 1) := by decide +kernel
theorem dM_piece_170 : decode mM_piece.2.1 170 = .ok (.aload_n 0, 1) := by decide +kernel
theorem dM_piece_171 : decode mM_piece.2.1 171 = .ok (.getfield 45, 3) := by decide +kernel
theorem dM_piece_174 : decode mM_piece.2.1 174 = .ok (.aload_n 0, 1) := by decide +kernel
theorem dM_piece_175 : decode mM_piece.2.1 175 = .ok (.getfield 96, 3) := by decide +kernel
theorem dM_piece_178 : decode mM_piece.2.1 178 = .ok (.iconst 0, 1) := by decide +kernel
theorem dM_piece_179 : decode mM_piece.2.1 179 = .ok (.iastore, 1) := by decide +kernel
theorem dM_piece_180 : decode mM_piece.2.1 180 = .ok (.aload_n 0, 1) := by decide +kernel
theorem dM_piece_181 : decode mM_piece.2.1 181 = .ok (.getfield 48, 3) := by decide +kernel
theorem dM_piece_184 : decode mM_piece.2.1 184 = .ok (.aload_n 0, 1) := by decide +kernel
theorem dM_piece_185 : decode mM_piece.2.1 185 = .ok (.getfield 96, 3) := by decide +kernel
theorem dM_piece_188 : decode mM_piece.2.1 188 = .ok (.iconst (-1), 1) := by decide +kernel
theorem dM_piece_189 : decode mM_piece.2.1 189 = .ok (.iastore, 1) := by decide +kernel
theorem dM_piece_190 : decode mM_piece.2.1 190 = .ok (.aload_n 0, 1) := by decide +kernel
theorem dM_piece_191 : decode mM_piece.2.1 191 = .ok (.getfield 51, 3) := by decide +kernel
theorem dM_piece_194 : decode mM_piece.2.1 194 = .ok (.aload_n 0, 1) := by decide +kernel
theorem dM_piece_195 : decode mM_piece.2.1 195 = .ok (.getfield 96, 3) := by decide +kernel
theorem dM_piece_198 : decode mM_piece.2.1 198 = .ok (.iconst 0, 1) := by decide +kernel
theorem dM_piece_199 : decode mM_piece.2.1 199 = .ok (.iastore, 1) := by decide +kernel
theorem dM_piece_200 : decode mM_piece.2.1 200 = .ok (.aload_n 0, 1) := by decide +kernel
theorem dM_piece_201 : decode mM_piece.2.1 201 = .ok (.dup, 1) := by decide +kernel
theorem dM_piece_202 : decode mM_piece.2.1 202 = .ok (.getfield 96, 3) := by decide +kernel
theorem dM_piece_205 : decode mM_piece.2.1 205 = .ok (.iconst 1, 1) := by decide +kernel
theorem dM_piece_206 : decode mM_piece.2.1 206 = .ok (.iadd, 1) := by decide +kernel
theorem dM_piece_207 : decode mM_piece.2.1 207 = .ok (.putfield 96, 3) := by decide +kernel
theorem dM_piece_210 : decode mM_piece.2.1 210 = .ok (.iinc 4 1, 3) := by decide +kernel
theorem dM_piece_213 : decode mM_piece.2.1 213 = .ok (.goto (-116), 3) := by decide +kernel
theorem dM_piece_216 : decode mM_piece.2.1 216 = .ok (.aload_n 0, 1) := by decide +kernel
theorem dM_piece_217 : decode mM_piece.2.1 217 = .ok (.dup, 1) := by decide +kernel
theorem dM_piece_218 : decode mM_piece.2.1 218 = .ok (.getfield 103, 3) := by decide +kernel
theorem dM_piece_221 : decode mM_piece.2.1 221 = .ok (.iconst 1, 1) := by decide +kernel
theorem dM_piece_222 : decode mM_piece.2.1 222 = .ok (.iadd, 1) := by decide +kernel
theorem dM_piece_223 : decode mM_piece.2.1 223 = .ok (.putfield 103, 3) := by decide +kernel
theorem dM_piece_226 : decode mM_piece.2.1 226 = .ok (.aload_n 0, 1) := by decide +kernel
theorem dM_piece_227 : decode mM_piece.2.1 227 = .ok (.getfield 103, 3) := by decide +kernel
theorem dM_piece_230 : decode mM_piece.2.1 230 = .ok (.iconst 1, 1) := by decide +kernel
theorem dM_piece_231 : decode mM_piece.2.1 231 = .ok (.isub, 1) := by decide +kernel
theorem dM_piece_232 : decode mM_piece.2.1 232 = .ok (.ireturn, 1) := by decide +kernel
theorem dT_pieceFact_0 : decode mT_pieceFact.2.1 0 = .ok (.aload_n 0, 1) := by decide +kernel
theorem dT_pieceFact_1 : decode mT_pieceFact.2.1 1 = .ok (.getfield 27, 3) := by decide +kernel
theorem dT_pieceFact_4 : decode mT_pieceFact.2.1 4 = .ok (.iload_n 1, 1) := by decide +kernel
theorem dT_pieceFact_5 : decode mT_pieceFact.2.1 5 = .ok (.bipush 6, 2) := by decide +kernel
theorem dT_pieceFact_7 : decode mT_pieceFact.2.1 7 = .ok (.imul, 1) := by decide +kernel
theorem dT_pieceFact_8 : decode mT_pieceFact.2.1 8 = .ok (.iload_n 2, 1) := by decide +kernel
theorem dT_pieceFact_9 : decode mT_pieceFact.2.1 9 = .ok (.iadd, 1) := by decide +kernel
theorem dT_pieceFact_10 : decode mT_pieceFact.2.1 10 = .ok (.iaload, 1) := by decide +kernel
theorem dT_pieceFact_11 : decode mT_pieceFact.2.1 11 = .ok (.ireturn, 1) := by decide +kernel
theorem dT_dropPiece_0 : decode mT_dropPiece.2.1 0 = .ok (.aload_n 0, 1) := by decide +kernel
theorem dT_dropPiece_1 : decode mT_dropPiece.2.1 1 = .ok (.dup, 1) := by decide +kernel
theorem dT_dropPiece_2 : decode mT_dropPiece.2.1 2 = .ok (.getfield 18, 3) := by decide +kernel
theorem dT_dropPiece_5 : decode mT_dropPiece.2.1 5 = .ok (.iconst 1, 1) := by decide +kernel
theorem dT_dropPiece_6 : decode mT_dropPiece.2.1 6 = .ok (.isub, 1) := by decide +kernel
theorem dT_dropPiece_7 : decode mT_dropPiece.2.1 7 = .ok (.putfield 18, 3) := by decide +kernel
theorem dT_dropPiece_10 : decode mT_dropPiece.2.1 10 = .ok (.aload_n 0, 1) := by decide +kernel
theorem dT_dropPiece_11 : decode mT_dropPiece.2.1 11 = .ok (.aload_n 0, 1) := by decide +kernel
theorem dT_dropPiece_12 : decode mT_dropPiece.2.1 12 = .ok (.aload_n 0, 1) := by decide +kernel
theorem dT_dropPiece_13 : decode mT_dropPiece.2.1 13 = .ok (.getfield 18, 3) := by decide +kernel
theorem dT_dropPiece_16 : decode mT_dropPiece.2.1 16 = .ok (.iconst 3, 1) := by decide +kernel
theorem dT_dropPiece_17 : decode mT_dropPiece.2.1 17 = .ok (.invokevirtual 55, 3) := by decide +kernel
theorem dT_dropPiece_20 : decode mT_dropPiece.2.1 20 = .ok (.putfield 21, 3) := by decide +kernel
theorem dT_dropPiece_23 : decode mT_dropPiece.2.1 23 = .ok (.aload_n 0, 1) := by decide +kernel
theorem dT_dropPiece_24 : decode mT_dropPiece.2.1 24 = .ok (.getfield 18, 3) := by decide +kernel
theorem dT_dropPiece_27 : decode mT_dropPiece.2.1 27 = .ok (.ireturn, 1) := by decide +kernel
theorem dX_drop_0 : decode mX_drop.2.1 0 = .ok (.aload_n 0, 1) := by decide +kernel
theorem dX_drop_1 : decode mX_drop.2.1 1 = .ok (.getfield 12, 3) := by decide +kernel
theorem dX_drop_4 : decode mX_drop.2.1 4 = .ok (.getfield 56, 3) := by decide +kernel
theorem dX_drop_7 : decode mX_drop.2.1 7 = .ok (.ifCond .ne 6, 3) := by decide +kernel
theorem dX_drop_10 : decode mX_drop.2.1 10 = .ok (.bipush (-4), 2) := by decide +kernel
theorem dX_drop_12 : decode mX_drop.2.1 12 = .ok (.ireturn, 1) := by decide +kernel
theorem dX_drop_13 : decode mX_drop.2.1 13 = .ok (.aload_n 0, 1) := by decide +kernel
theorem dX_drop_14 : decode mX_drop.2.1 14 = .ok (.getfield 24, 3) := by decide +kernel
theorem dX_drop_17 : decode mX_drop.2.1 17 = .ok (.invokevirtual 49, 3) := by decide +kernel
theorem dX_drop_20 : decode mX_drop.2.1 20 = .ok (.aload_n 0, 1) := by decide +kernel
theorem dX_drop_21 : decode mX_drop.2.1 21 = .ok (.getfield 12, 3) := by decide +kernel
theorem dX_drop_24 : decode mX_drop.2.1 24 = .ok (.invokevirtual 64, 3) := by decide +kernel
theorem dX_drop_27 : decode mX_drop.2.1 27 = .ok (.ireturn, 1) := by decide +kernel
theorem dM_drop_0 : decode mM_drop.2.1 0 = .ok (.aload_n 0, 1) := by decide +kernel
theorem dM_drop_1 : decode mM_drop.2.1 1 = .ok (.getfield 103, 3) := by decide +kernel
theorem dM_drop_4 : decode mM_drop.2.1 4 = .ok (.ifCond .ne 6, 3) := by decide +kernel
theorem dM_drop_7 : decode mM_drop.2.1 7 = .ok (.bipush (-4), 2) := by decide +kernel
theorem dM_drop_9 : decode mM_drop.2.1 9 = .ok (.ireturn, 1) := by decide +kernel
theorem dM_drop_10 : decode mM_drop.2.1 10 = .ok (.aload_n 0, 1) := by decide +kernel
theorem dM_drop_11 : decode mM_drop.2.1 11 = .ok (.dup, 1) := by decide +kernel
theorem dM_drop_12 : decode mM_drop.2.1 12 = .ok (.getfield 103, 3) := by decide +kernel
theorem dM_drop_15 : decode mM_drop.2.1 15 = .ok (.iconst 1, 1) := by decide +kernel
theorem dM_drop_16 : decode mM_drop.2.1 16 = .ok (.isub, 1) := by decide +kernel
theorem dM_drop_17 : decode mM_drop.2.1 17 = .ok (.putfield 103, 3) := by decide +kernel
theorem dM_drop_20 : decode mM_drop.2.1 20 = .ok (.aload_n 0, 1) := by decide +kernel
theorem dM_drop_21 : decode mM_drop.2.1 21 = .ok (.aload_n 0, 1) := by decide +kernel
theorem dM_drop_22 : decode mM_drop.2.1 22 = .ok (.getfield 26, 3) := by decide +kernel
theorem dM_drop_25 : decode mM_drop.2.1 25 = .ok (.aload_n 0, 1) := by decide +kernel
theorem dM_drop_26 : decode mM_drop.2.1 26 = .ok (.getfield 103, 3) := by decide +kernel
theorem dM_drop_29 : decode mM_drop.2.1 29 = .ok (.iaload, 1) := by decide +kernel
theorem dM_drop_30 : decode mM_drop.2.1 30 = .ok (.putfield 96, 3) := by decide +kernel
theorem dM_drop_33 : decode mM_drop.2.1 33 = .ok (.aload_n 0, 1) := by decide +kernel
theorem dM_drop_34 : decode mM_drop.2.1 34 = .ok (.getfield 103, 3) := by decide +kernel
theorem dM_drop_37 : decode mM_drop.2.1 37 = .ok (.ireturn, 1) := by decide +kernel
theorem dT_hasCopy_0 : decode mT_hasCopy.2.1 0 = .ok (.iload_n 1, 1) := by decide +kernel
theorem dT_hasCopy_1 : decode mT_hasCopy.2.1 1 = .ok (.iconst 0, 1) := by decide +kernel
theorem dT_hasCopy_2 : decode mT_hasCopy.2.1 2 = .ok (.aload_n 0, 1) := by decide +kernel
theorem dT_hasCopy_3 : decode mT_hasCopy.2.1 3 = .ok (.getfield 21, 3) := by decide +kernel
theorem dT_hasCopy_6 : decode mT_hasCopy.2.1 6 = .ok (.iconst 1, 1) := by decide +kernel
theorem dT_hasCopy_7 : decode mT_hasCopy.2.1 7 = .ok (.isub, 1) := by decide +kernel
theorem dT_hasCopy_8 : decode mT_hasCopy.2.1 8 = .ok (.invokestatic 47, 3) := by decide +kernel
theorem dT_hasCopy_11 : decode mT_hasCopy.2.1 11 = .ok (.ireturn, 1) := by decide +kernel
theorem dX_isMark_0 : decode mX_isMark.2.1 0 = .ok (.iload_n 0, 1) := by decide +kernel
theorem dX_isMark_1 : decode mX_isMark.2.1 1 = .ok (.iconst 0, 1) := by decide +kernel
theorem dX_isMark_2 : decode mX_isMark.2.1 2 = .ok (.bipush 7, 2) := by decide +kernel
theorem dX_isMark_4 : decode mX_isMark.2.1 4 = .ok (.invokestatic 41, 3) := by decide +kernel
theorem dX_isMark_7 : decode mX_isMark.2.1 7 = .ok (.ireturn, 1) := by decide +kernel
theorem dT_copyFact_0 : decode mT_copyFact.2.1 0 = .ok (.aload_n 0, 1) := by decide +kernel
theorem dT_copyFact_1 : decode mT_copyFact.2.1 1 = .ok (.getfield 31, 3) := by decide +kernel
theorem dT_copyFact_4 : decode mT_copyFact.2.1 4 = .ok (.iload_n 1, 1) := by decide +kernel
theorem dT_copyFact_5 : decode mT_copyFact.2.1 5 = .ok (.bipush 10, 2) := by decide +kernel
theorem dT_copyFact_7 : decode mT_copyFact.2.1 7 = .ok (.imul, 1) := by decide +kernel
theorem dT_copyFact_8 : decode mT_copyFact.2.1 8 = .ok (.iload_n 2, 1) := by decide +kernel
theorem dT_copyFact_9 : decode mT_copyFact.2.1 9 = .ok (.iadd, 1) := by decide +kernel
theorem dT_copyFact_10 : decode mT_copyFact.2.1 10 = .ok (.iaload, 1) := by decide +kernel
theorem dT_copyFact_11 : decode mT_copyFact.2.1 11 = .ok (.ireturn, 1) := by decide +kernel
theorem dX_isIn_0 : decode mX_isIn.2.1 0 = .ok (.iload_n 0, 1) := by decide +kernel
theorem dX_isIn_1 : decode mX_isIn.2.1 1 = .ok (.iload_n 1, 1) := by decide +kernel
theorem dX_isIn_2 : decode mX_isIn.2.1 2 = .ok (.ishr, 1) := by decide +kernel
theorem dX_isIn_3 : decode mX_isIn.2.1 3 = .ok (.iconst 1, 1) := by decide +kernel
theorem dX_isIn_4 : decode mX_isIn.2.1 4 = .ok (.iand, 1) := by decide +kernel
theorem dX_isIn_5 : decode mX_isIn.2.1 5 = .ok (.iconst 1, 1) := by decide +kernel
theorem dX_isIn_6 : decode mX_isIn.2.1 6 = .ok (.if_icmp .ne 7, 3) := by decide +kernel
theorem dX_isIn_9 : decode mX_isIn.2.1 9 = .ok (.iconst 1, 1) := by decide +kernel
theorem dX_isIn_10 : decode mX_isIn.2.1 10 = .ok (.goto 4, 3) := by decide +kernel
theorem dX_isIn_13 : decode mX_isIn.2.1 13 = .ok (.iconst 0, 1) := by decide +kernel
theorem dX_isIn_14 : decode mX_isIn.2.1 14 = .ok (.ireturn, 1) := by decide +kernel
theorem dT_markOf_0 : decode mT_markOf.2.1 0 = .ok (.aload_n 0, 1) := by decide +kernel
theorem dT_markOf_1 : decode mT_markOf.2.1 1 = .ok (.iload_n 1, 1) := by decide +kernel
theorem dT_markOf_2 : decode mT_markOf.2.1 2 = .ok (.bipush 8, 2) := by decide +kernel
theorem dT_markOf_4 : decode mT_markOf.2.1 4 = .ok (.invokevirtual 69, 3) := by decide +kernel
theorem dT_markOf_7 : decode mT_markOf.2.1 7 = .ok (.iload_n 2, 1) := by decide +kernel
theorem dT_markOf_8 : decode mT_markOf.2.1 8 = .ok (.invokestatic 59, 3) := by decide +kernel
theorem dT_markOf_11 : decode mT_markOf.2.1 11 = .ok (.ifCond .eq 5, 3) := by decide +kernel
theorem dT_markOf_14 : decode mT_markOf.2.1 14 = .ok (.iconst 1, 1) := by decide +kernel
theorem dT_markOf_15 : decode mT_markOf.2.1 15 = .ok (.ireturn, 1) := by decide +kernel
theorem dT_markOf_16 : decode mT_markOf.2.1 16 = .ok (.aload_n 0, 1) := by decide +kernel
theorem dT_markOf_17 : decode mT_markOf.2.1 17 = .ok (.iload_n 1, 1) := by decide +kernel
theorem dT_markOf_18 : decode mT_markOf.2.1 18 = .ok (.bipush 9, 2) := by decide +kernel
theorem dT_markOf_20 : decode mT_markOf.2.1 20 = .ok (.invokevirtual 69, 3) := by decide +kernel
theorem dT_markOf_23 : decode mT_markOf.2.1 23 = .ok (.iload_n 2, 1) := by decide +kernel
theorem dT_markOf_24 : decode mT_markOf.2.1 24 = .ok (.invokestatic 59, 3) := by decide +kernel
theorem dT_markOf_27 : decode mT_markOf.2.1 27 = .ok (.ifCond .eq 7, 3) := by decide +kernel
theorem dT_markOf_30 : decode mT_markOf.2.1 30 = .ok (.iconst 0, 1) := by decide +kernel
theorem dT_markOf_31 : decode mT_markOf.2.1 31 = .ok (.goto 4, 3) := by decide +kernel
theorem dT_markOf_34 : decode mT_markOf.2.1 34 = .ok (.iconst 2, 1) := by decide +kernel
theorem dT_markOf_35 : decode mT_markOf.2.1 35 = .ok (.ireturn, 1) := by decide +kernel
theorem dT_putCopyFact_0 : decode mT_putCopyFact.2.1 0 = .ok (.aload_n 0, 1) := by decide +kernel
theorem dT_putCopyFact_1 : decode mT_putCopyFact.2.1 1 = .ok (.getfield 31, 3) := by decide +kernel
theorem dT_putCopyFact_4 : decode mT_putCopyFact.2.1 4 = .ok (.iload_n 1, 1) := by decide +kernel
theorem dT_putCopyFact_5 : decode mT_putCopyFact.2.1 5 = .ok (.bipush 10, 2) := by decide +kernel
theorem dT_putCopyFact_7 : decode mT_putCopyFact.2.1 7 = .ok (.imul, 1) := by decide +kernel
theorem dT_putCopyFact_8 : decode mT_putCopyFact.2.1 8 = .ok (.iload_n 2, 1) := by decide +kernel
theorem dT_putCopyFact_9 : decode mT_putCopyFact.2.1 9 = .ok (.iadd, 1) := by decide +kernel
theorem dT_putCopyFact_10 : decode mT_putCopyFact.2.1 10 = .ok (.iload_n 3, 1) := by decide +kernel
theorem dT_putCopyFact_11 : decode mT_putCopyFact.2.1 11 = .ok (.iastore, 1) := by decide +kernel
theorem dT_putCopyFact_12 : decode mT_putCopyFact.2.1 12 = .ok (.return_, 1) := by decide +kernel
theorem dT_putMark_0 : decode mT_putMark.2.1 0 = .ok (.iconst 1, 1) := by decide +kernel
theorem dT_putMark_1 : decode mT_putMark.2.1 1 = .ok (.iload_n 2, 1) := by decide +kernel
theorem dT_putMark_2 : decode mT_putMark.2.1 2 = .ok (.ishl, 1) := by decide +kernel
theorem dT_putMark_3 : decode mT_putMark.2.1 3 = .ok (.istore 4, 2) := by decide +kernel
theorem dT_putMark_5 : decode mT_putMark.2.1 5 = .ok (.aload_n 0, 1) := by decide +kernel
theorem dT_putMark_6 : decode mT_putMark.2.1 6 = .ok (.iload_n 1, 1) := by decide +kernel
theorem dT_putMark_7 : decode mT_putMark.2.1 7 = .ok (.bipush 8, 2) := by decide +kernel
theorem dT_putMark_9 : decode mT_putMark.2.1 9 = .ok (.invokevirtual 69, 3) := by decide +kernel
theorem dT_putMark_12 : decode mT_putMark.2.1 12 = .ok (.iload 4, 2) := by decide +kernel
theorem dT_putMark_14 : decode mT_putMark.2.1 14 = .ok (.iconst (-1), 1) := by decide +kernel
theorem dT_putMark_15 : decode mT_putMark.2.1 15 = .ok (.ixor, 1) := by decide +kernel
theorem dT_putMark_16 : decode mT_putMark.2.1 16 = .ok (.iand, 1) := by decide +kernel
theorem dT_putMark_17 : decode mT_putMark.2.1 17 = .ok (.istore 5, 2) := by decide +kernel
theorem dT_putMark_19 : decode mT_putMark.2.1 19 = .ok (.aload_n 0, 1) := by decide +kernel
theorem dT_putMark_20 : decode mT_putMark.2.1 20 = .ok (.iload_n 1, 1) := by decide +kernel
theorem dT_putMark_21 : decode mT_putMark.2.1 21 = .ok (.bipush 9, 2) := by decide +kernel
theorem dT_putMark_23 : decode mT_putMark.2.1 23 = .ok (.invokevirtual 69, 3) := by decide +kernel
theorem dT_putMark_26 : decode mT_putMark.2.1 26 = .ok (.iload 4, 2) := by decide +kernel
theorem dT_putMark_28 : decode mT_putMark.2.1 28 = .ok (.iconst (-1), 1) := by decide +kernel
theorem dT_putMark_29 : decode mT_putMark.2.1 29 = .ok (.ixor, 1) := by decide +kernel
theorem dT_putMark_30 : decode mT_putMark.2.1 30 = .ok (.iand, 1) := by decide +kernel
theorem dT_putMark_31 : decode mT_putMark.2.1 31 = .ok (.istore 6, 2) := by decide +kernel
theorem dT_putMark_33 : decode mT_putMark.2.1 33 = .ok (.aload_n 0, 1) := by decide +kernel
theorem dT_putMark_34 : decode mT_putMark.2.1 34 = .ok (.iload_n 1, 1) := by decide +kernel
theorem dT_putMark_35 : decode mT_putMark.2.1 35 = .ok (.bipush 8, 2) := by decide +kernel
theorem dT_putMark_37 : decode mT_putMark.2.1 37 = .ok (.iload_n 3, 1) := by decide +kernel
theorem dT_putMark_38 : decode mT_putMark.2.1 38 = .ok (.iconst 1, 1) := by decide +kernel
theorem dT_putMark_39 : decode mT_putMark.2.1 39 = .ok (.if_icmp .ne 11, 3) := by decide +kernel
theorem dT_putMark_42 : decode mT_putMark.2.1 42 = .ok (.iload 5, 2) := by decide +kernel
theorem dT_putMark_44 : decode mT_putMark.2.1 44 = .ok (.iload 4, 2) := by decide +kernel
theorem dT_putMark_46 : decode mT_putMark.2.1 46 = .ok (.ior, 1) := by decide +kernel
theorem dT_putMark_47 : decode mT_putMark.2.1 47 = .ok (.goto 5, 3) := by decide +kernel
theorem dT_putMark_50 : decode mT_putMark.2.1 50 = .ok (.iload 5, 2) := by decide +kernel
theorem dT_putMark_52 : decode mT_putMark.2.1 52 = .ok (.invokevirtual 72, 3) := by decide +kernel
theorem dT_putMark_55 : decode mT_putMark.2.1 55 = .ok (.aload_n 0, 1) := by decide +kernel
theorem dT_putMark_56 : decode mT_putMark.2.1 56 = .ok (.iload_n 1, 1) := by decide +kernel
theorem dT_putMark_57 : decode mT_putMark.2.1 57 = .ok (.bipush 9, 2) := by decide +kernel
theorem dT_putMark_59 : decode mT_putMark.2.1 59 = .ok (.iload_n 3, 1) := by decide +kernel
theorem dT_putMark_60 : decode mT_putMark.2.1 60 = .ok (.ifCond .ne 11, 3) := by decide +kernel
theorem dT_putMark_63 : decode mT_putMark.2.1 63 = .ok (.iload 6, 2) := by decide +kernel
theorem dT_putMark_65 : decode mT_putMark.2.1 65 = .ok (.iload 4, 2) := by decide +kernel
theorem dT_putMark_67 : decode mT_putMark.2.1 67 = .ok (.ior, 1) := by decide +kernel
theorem dT_putMark_68 : decode mT_putMark.2.1 68 = .ok (.goto 5, 3) := by decide +kernel
theorem dT_putMark_71 : decode mT_putMark.2.1 71 = .ok (.iload 6, 2) := by decide +kernel
theorem dT_putMark_73 : decode mT_putMark.2.1 73 = .ok (.invokevirtual 72, 3) := by decide +kernel
theorem dT_putMark_76 : decode mT_putMark.2.1 76 = .ok (.return_, 1) := by decide +kernel
theorem dX_mark_0 : decode mX_mark.2.1 0 = .ok (.aload_n 0, 1) := by decide +kernel
theorem dX_mark_1 : decode mX_mark.2.1 1 = .ok (.getfield 12, 3) := by decide +kernel
theorem dX_mark_4 : decode mX_mark.2.1 4 = .ok (.iload_n 1, 1) := by decide +kernel
theorem dX_mark_5 : decode mX_mark.2.1 5 = .ok (.invokevirtual 67, 3) := by decide +kernel
theorem dX_mark_8 : decode mX_mark.2.1 8 = .ok (.ifCond .eq 19, 3) := by decide +kernel
theorem dX_mark_11 : decode mX_mark.2.1 11 = .ok (.iload_n 2, 1) := by decide +kernel
theorem dX_mark_12 : decode mX_mark.2.1 12 = .ok (.invokestatic 71, 3) := by decide +kernel
theorem dX_mark_15 : decode mX_mark.2.1 15 = .ok (.ifCond .eq 12, 3) := by decide +kernel
theorem dX_mark_18 : decode mX_mark.2.1 18 = .ok (.iload_n 3, 1) := by decide +kernel
theorem dX_mark_19 : decode mX_mark.2.1 19 = .ok (.iconst 0, 1) := by decide +kernel
theorem dX_mark_20 : decode mX_mark.2.1 20 = .ok (.iconst 2, 1) := by decide +kernel
theorem dX_mark_21 : decode mX_mark.2.1 21 = .ok (.invokestatic 41, 3) := by decide +kernel
theorem dX_mark_24 : decode mX_mark.2.1 24 = .ok (.ifCond .ne 5, 3) := by decide +kernel
theorem dX_mark_27 : decode mX_mark.2.1 27 = .ok (.iconst (-1), 1) := by decide +kernel
theorem dX_mark_28 : decode mX_mark.2.1 28 = .ok (.ireturn, 1) := by decide +kernel
theorem dX_mark_29 : decode mX_mark.2.1 29 = .ok (.aload_n 0, 1) := by decide +kernel
theorem dX_mark_30 : decode mX_mark.2.1 30 = .ok (.getfield 12, 3) := by decide +kernel
theorem dX_mark_33 : decode mX_mark.2.1 33 = .ok (.iload_n 1, 1) := by decide +kernel
theorem dX_mark_34 : decode mX_mark.2.1 34 = .ok (.iload_n 2, 1) := by decide +kernel
theorem dX_mark_35 : decode mX_mark.2.1 35 = .ok (.invokevirtual 74, 3) := by decide +kernel
theorem dX_mark_38 : decode mX_mark.2.1 38 = .ok (.istore 4, 2) := by decide +kernel
theorem dX_mark_40 : decode mX_mark.2.1 40 = .ok (.aload_n 0, 1) := by decide +kernel
theorem dX_mark_41 : decode mX_mark.2.1 41 = .ok (.getfield 12, 3) := by decide +kernel
theorem dX_mark_44 : decode mX_mark.2.1 44 = .ok (.iload_n 1, 1) := by decide +kernel
theorem dX_mark_45 : decode mX_mark.2.1 45 = .ok (.iload_n 2, 1) := by decide +kernel
theorem dX_mark_46 : decode mX_mark.2.1 46 = .ok (.iload_n 3, 1) := by decide +kernel
theorem dX_mark_47 : decode mX_mark.2.1 47 = .ok (.invokevirtual 78, 3) := by decide +kernel
theorem dX_mark_50 : decode mX_mark.2.1 50 = .ok (.aload_n 0, 1) := by decide +kernel
theorem dX_mark_51 : decode mX_mark.2.1 51 = .ok (.getfield 24, 3) := by decide +kernel
theorem dX_mark_54 : decode mX_mark.2.1 54 = .ok (.invokevirtual 49, 3) := by decide +kernel
theorem dX_mark_57 : decode mX_mark.2.1 57 = .ok (.iload 4, 2) := by decide +kernel
theorem dX_mark_59 : decode mX_mark.2.1 59 = .ok (.ireturn, 1) := by decide +kernel
theorem dM_isCopy_0 : decode mM_isCopy.2.1 0 = .ok (.iload_n 1, 1) := by decide +kernel
theorem dM_isCopy_1 : decode mM_isCopy.2.1 1 = .ok (.iconst 0, 1) := by decide +kernel
theorem dM_isCopy_2 : decode mM_isCopy.2.1 2 = .ok (.aload_n 0, 1) := by decide +kernel
theorem dM_isCopy_3 : decode mM_isCopy.2.1 3 = .ok (.getfield 96, 3) := by decide +kernel
theorem dM_isCopy_6 : decode mM_isCopy.2.1 6 = .ok (.iconst 1, 1) := by decide +kernel
theorem dM_isCopy_7 : decode mM_isCopy.2.1 7 = .ok (.isub, 1) := by decide +kernel
theorem dM_isCopy_8 : decode mM_isCopy.2.1 8 = .ok (.invokestatic 99, 3) := by decide +kernel
theorem dM_isCopy_11 : decode mM_isCopy.2.1 11 = .ok (.ireturn, 1) := by decide +kernel
theorem dM_isMark_0 : decode mM_isMark.2.1 0 = .ok (.iload_n 0, 1) := by decide +kernel
theorem dM_isMark_1 : decode mM_isMark.2.1 1 = .ok (.iconst 0, 1) := by decide +kernel
theorem dM_isMark_2 : decode mM_isMark.2.1 2 = .ok (.bipush 7, 2) := by decide +kernel
theorem dM_isMark_4 : decode mM_isMark.2.1 4 = .ok (.invokestatic 99, 3) := by decide +kernel
theorem dM_isMark_7 : decode mM_isMark.2.1 7 = .ok (.ireturn, 1) := by decide +kernel
theorem dM_mark_0 : decode mM_mark.2.1 0 = .ok (.aload_n 0, 1) := by decide +kernel
theorem dM_mark_1 : decode mM_mark.2.1 1 = .ok (.iload_n 1, 1) := by decide +kernel
theorem dM_mark_2 : decode mM_mark.2.1 2 = .ok (.invokevirtual 110, 3) := by decide +kernel
theorem dM_mark_5 : decode mM_mark.2.1 5 = .ok (.ifCond .eq 19, 3) := by decide +kernel
theorem dM_mark_8 : decode mM_mark.2.1 8 = .ok (.iload_n 2, 1) := by decide +kernel
theorem dM_mark_9 : decode mM_mark.2.1 9 = .ok (.invokestatic 114, 3) := by decide +kernel
theorem dM_mark_12 : decode mM_mark.2.1 12 = .ok (.ifCond .eq 12, 3) := by decide +kernel
theorem dM_mark_15 : decode mM_mark.2.1 15 = .ok (.iload_n 3, 1) := by decide +kernel
theorem dM_mark_16 : decode mM_mark.2.1 16 = .ok (.iconst 0, 1) := by decide +kernel
theorem dM_mark_17 : decode mM_mark.2.1 17 = .ok (.iconst 2, 1) := by decide +kernel
theorem dM_mark_18 : decode mM_mark.2.1 18 = .ok (.invokestatic 99, 3) := by decide +kernel
theorem dM_mark_21 : decode mM_mark.2.1 21 = .ok (.ifCond .ne 5, 3) := by decide +kernel
theorem dM_mark_24 : decode mM_mark.2.1 24 = .ok (.iconst (-1), 1) := by decide +kernel
theorem dM_mark_25 : decode mM_mark.2.1 25 = .ok (.ireturn, 1) := by decide +kernel
theorem dM_mark_26 : decode mM_mark.2.1 26 = .ok (.aload_n 0, 1) := by decide +kernel
theorem dM_mark_27 : decode mM_mark.2.1 27 = .ok (.getfield 36, 3) := by decide +kernel
theorem dM_mark_30 : decode mM_mark.2.1 30 = .ok (.bipush 8, 2) := by decide +kernel
theorem dM_mark_32 : decode mM_mark.2.1 32 = .ok (.iload_n 1, 1) := by decide +kernel
theorem dM_mark_33 : decode mM_mark.2.1 33 = .ok (.imul, 1) := by decide +kernel
theorem dM_mark_34 : decode mM_mark.2.1 34 = .ok (.iload_n 2, 1) := by decide +kernel
theorem dM_mark_35 : decode mM_mark.2.1 35 = .ok (.iadd, 1) := by decide +kernel
theorem dM_mark_36 : decode mM_mark.2.1 36 = .ok (.iaload, 1) := by decide +kernel
theorem dM_mark_37 : decode mM_mark.2.1 37 = .ok (.istore 4, 2) := by decide +kernel
theorem dM_mark_39 : decode mM_mark.2.1 39 = .ok (.aload_n 0, 1) := by decide +kernel
theorem dM_mark_40 : decode mM_mark.2.1 40 = .ok (.getfield 36, 3) := by decide +kernel
theorem dM_mark_43 : decode mM_mark.2.1 43 = .ok (.bipush 8, 2) := by decide +kernel
theorem dM_mark_45 : decode mM_mark.2.1 45 = .ok (.iload_n 1, 1) := by decide +kernel
theorem dM_mark_46 : decode mM_mark.2.1 46 = .ok (.imul, 1) := by decide +kernel
theorem dM_mark_47 : decode mM_mark.2.1 47 = .ok (.iload_n 2, 1) := by decide +kernel
theorem dM_mark_48 : decode mM_mark.2.1 48 = .ok (.iadd, 1) := by decide +kernel
theorem dM_mark_49 : decode mM_mark.2.1 49 = .ok (.iload_n 3, 1) := by decide +kernel
theorem dM_mark_50 : decode mM_mark.2.1 50 = .ok (.iastore, 1) := by decide +kernel
theorem dM_mark_51 : decode mM_mark.2.1 51 = .ok (.iload 4, 2) := by decide +kernel
theorem dM_mark_53 : decode mM_mark.2.1 53 = .ok (.ireturn, 1) := by decide +kernel
theorem dJ_bitCount_0 : decode mJ_bitCount.2.1 0 = .ok (.iload_n 0, 1) := by decide +kernel
theorem dJ_bitCount_1 : decode mJ_bitCount.2.1 1 = .ok (.iload_n 0, 1) := by decide +kernel
theorem dJ_bitCount_2 : decode mJ_bitCount.2.1 2 = .ok (.iconst 1, 1) := by decide +kernel
theorem dJ_bitCount_3 : decode mJ_bitCount.2.1 3 = .ok (.iushr, 1) := by decide +kernel
theorem dJ_bitCount_4 : decode mJ_bitCount.2.1 4 = .ok (.ldc_w 265, 3) := by decide +kernel
theorem dJ_bitCount_7 : decode mJ_bitCount.2.1 7 = .ok (.iand, 1) := by decide +kernel
theorem dJ_bitCount_8 : decode mJ_bitCount.2.1 8 = .ok (.isub, 1) := by decide +kernel
theorem dJ_bitCount_9 : decode mJ_bitCount.2.1 9 = .ok (.istore_n 0, 1) := by decide +kernel
theorem dJ_bitCount_10 : decode mJ_bitCount.2.1 10 = .ok (.iload_n 0, 1) := by decide +kernel
theorem dJ_bitCount_11 : decode mJ_bitCount.2.1 11 = .ok (.ldc_w 266, 3) := by decide +kernel
theorem dJ_bitCount_14 : decode mJ_bitCount.2.1 14 = .ok (.iand, 1) := by decide +kernel
theorem dJ_bitCount_15 : decode mJ_bitCount.2.1 15 = .ok (.iload_n 0, 1) := by decide +kernel
theorem dJ_bitCount_16 : decode mJ_bitCount.2.1 16 = .ok (.iconst 2, 1) := by decide +kernel
theorem dJ_bitCount_17 : decode mJ_bitCount.2.1 17 = .ok (.iushr, 1) := by decide +kernel
theorem dJ_bitCount_18 : decode mJ_bitCount.2.1 18 = .ok (.ldc_w 266, 3) := by decide +kernel
theorem dJ_bitCount_21 : decode mJ_bitCount.2.1 21 = .ok (.iand, 1) := by decide +kernel
theorem dJ_bitCount_22 : decode mJ_bitCount.2.1 22 = .ok (.iadd, 1) := by decide +kernel
theorem dJ_bitCount_23 : decode mJ_bitCount.2.1 23 = .ok (.istore_n 0, 1) := by decide +kernel
theorem dJ_bitCount_24 : decode mJ_bitCount.2.1 24 = .ok (.iload_n 0, 1) := by decide +kernel
theorem dJ_bitCount_25 : decode mJ_bitCount.2.1 25 = .ok (.iload_n 0, 1) := by decide +kernel
theorem dJ_bitCount_26 : decode mJ_bitCount.2.1 26 = .ok (.iconst 4, 1) := by decide +kernel
theorem dJ_bitCount_27 : decode mJ_bitCount.2.1 27 = .ok (.iushr, 1) := by decide +kernel
theorem dJ_bitCount_28 : decode mJ_bitCount.2.1 28 = .ok (.iadd, 1) := by decide +kernel
theorem dJ_bitCount_29 : decode mJ_bitCount.2.1 29 = .ok (.ldc_w 267, 3) := by decide +kernel
theorem dJ_bitCount_32 : decode mJ_bitCount.2.1 32 = .ok (.iand, 1) := by decide +kernel
theorem dJ_bitCount_33 : decode mJ_bitCount.2.1 33 = .ok (.istore_n 0, 1) := by decide +kernel
theorem dJ_bitCount_34 : decode mJ_bitCount.2.1 34 = .ok (.iload_n 0, 1) := by decide +kernel
theorem dJ_bitCount_35 : decode mJ_bitCount.2.1 35 = .ok (.iload_n 0, 1) := by decide +kernel
theorem dJ_bitCount_36 : decode mJ_bitCount.2.1 36 = .ok (.bipush 8, 2) := by decide +kernel
theorem dJ_bitCount_38 : decode mJ_bitCount.2.1 38 = .ok (.iushr, 1) := by decide +kernel
theorem dJ_bitCount_39 : decode mJ_bitCount.2.1 39 = .ok (.iadd, 1) := by decide +kernel
theorem dJ_bitCount_40 : decode mJ_bitCount.2.1 40 = .ok (.istore_n 0, 1) := by decide +kernel
theorem dJ_bitCount_41 : decode mJ_bitCount.2.1 41 = .ok (.iload_n 0, 1) := by decide +kernel
theorem dJ_bitCount_42 : decode mJ_bitCount.2.1 42 = .ok (.iload_n 0, 1) := by decide +kernel
theorem dJ_bitCount_43 : decode mJ_bitCount.2.1 43 = .ok (.bipush 16, 2) := by decide +kernel
theorem dJ_bitCount_45 : decode mJ_bitCount.2.1 45 = .ok (.iushr, 1) := by decide +kernel
theorem dJ_bitCount_46 : decode mJ_bitCount.2.1 46 = .ok (.iadd, 1) := by decide +kernel
theorem dJ_bitCount_47 : decode mJ_bitCount.2.1 47 = .ok (.istore_n 0, 1) := by decide +kernel
theorem dJ_bitCount_48 : decode mJ_bitCount.2.1 48 = .ok (.iload_n 0, 1) := by decide +kernel
theorem dJ_bitCount_49 : decode mJ_bitCount.2.1 49 = .ok (.bipush 63, 2) := by decide +kernel
theorem dJ_bitCount_51 : decode mJ_bitCount.2.1 51 = .ok (.iand, 1) := by decide +kernel
theorem dJ_bitCount_52 : decode mJ_bitCount.2.1 52 = .ok (.ireturn, 1) := by decide +kernel
theorem dT_copyMarks_0 : decode mT_copyMarks.2.1 0 = .ok (.aload_n 0, 1) := by decide +kernel
theorem dT_copyMarks_1 : decode mT_copyMarks.2.1 1 = .ok (.iload_n 2, 1) := by decide +kernel
theorem dT_copyMarks_2 : decode mT_copyMarks.2.1 2 = .ok (.bipush 8, 2) := by decide +kernel
theorem dT_copyMarks_4 : decode mT_copyMarks.2.1 4 = .ok (.invokevirtual 69, 3) := by decide +kernel
theorem dT_copyMarks_7 : decode mT_copyMarks.2.1 7 = .ok (.istore_n 3, 1) := by decide +kernel
theorem dT_copyMarks_8 : decode mT_copyMarks.2.1 8 = .ok (.aload_n 0, 1) := by decide +kernel
theorem dT_copyMarks_9 : decode mT_copyMarks.2.1 9 = .ok (.iload_n 2, 1) := by decide +kernel
theorem dT_copyMarks_10 : decode mT_copyMarks.2.1 10 = .ok (.bipush 9, 2) := by decide +kernel
theorem dT_copyMarks_12 : decode mT_copyMarks.2.1 12 = .ok (.invokevirtual 69, 3) := by decide +kernel
theorem dT_copyMarks_15 : decode mT_copyMarks.2.1 15 = .ok (.istore 4, 2) := by decide +kernel
theorem dT_copyMarks_17 : decode mT_copyMarks.2.1 17 = .ok (.iload_n 3, 1) := by decide +kernel
theorem dT_copyMarks_18 : decode mT_copyMarks.2.1 18 = .ok (.aload_n 0, 1) := by decide +kernel
theorem dT_copyMarks_19 : decode mT_copyMarks.2.1 19 = .ok (.iload_n 1, 1) := by decide +kernel
theorem dT_copyMarks_20 : decode mT_copyMarks.2.1 20 = .ok (.bipush 8, 2) := by decide +kernel
theorem dT_copyMarks_22 : decode mT_copyMarks.2.1 22 = .ok (.invokevirtual 69, 3) := by decide +kernel
theorem dT_copyMarks_25 : decode mT_copyMarks.2.1 25 = .ok (.ixor, 1) := by decide +kernel
theorem dT_copyMarks_26 : decode mT_copyMarks.2.1 26 = .ok (.istore 5, 2) := by decide +kernel
theorem dT_copyMarks_28 : decode mT_copyMarks.2.1 28 = .ok (.iload 5, 2) := by decide +kernel
theorem dT_copyMarks_30 : decode mT_copyMarks.2.1 30 = .ok (.iload 4, 2) := by decide +kernel
theorem dT_copyMarks_32 : decode mT_copyMarks.2.1 32 = .ok (.aload_n 0, 1) := by decide +kernel
theorem dT_copyMarks_33 : decode mT_copyMarks.2.1 33 = .ok (.iload_n 1, 1) := by decide +kernel
theorem dT_copyMarks_34 : decode mT_copyMarks.2.1 34 = .ok (.bipush 9, 2) := by decide +kernel
theorem dT_copyMarks_36 : decode mT_copyMarks.2.1 36 = .ok (.invokevirtual 69, 3) := by decide +kernel
theorem dT_copyMarks_39 : decode mT_copyMarks.2.1 39 = .ok (.ixor, 1) := by decide +kernel
theorem dT_copyMarks_40 : decode mT_copyMarks.2.1 40 = .ok (.ior, 1) := by decide +kernel
theorem dT_copyMarks_41 : decode mT_copyMarks.2.1 41 = .ok (.istore 5, 2) := by decide +kernel
theorem dT_copyMarks_43 : decode mT_copyMarks.2.1 43 = .ok (.aload_n 0, 1) := by decide +kernel
theorem dT_copyMarks_44 : decode mT_copyMarks.2.1 44 = .ok (.iload_n 1, 1) := by decide +kernel
theorem dT_copyMarks_45 : decode mT_copyMarks.2.1 45 = .ok (.bipush 8, 2) := by decide +kernel
theorem dT_copyMarks_47 : decode mT_copyMarks.2.1 47 = .ok (.iload_n 3, 1) := by decide +kernel
theorem dT_copyMarks_48 : decode mT_copyMarks.2.1 48 = .ok (.invokevirtual 72, 3) := by decide +kernel
theorem dT_copyMarks_51 : decode mT_copyMarks.2.1 51 = .ok (.aload_n 0, 1) := by decide +kernel
theorem dT_copyMarks_52 : decode mT_copyMarks.2.1 52 = .ok (.iload_n 1, 1) := by decide +kernel
theorem dT_copyMarks_53 : decode mT_copyMarks.2.1 53 = .ok (.bipush 9, 2) := by decide +kernel
theorem dT_copyMarks_55 : decode mT_copyMarks.2.1 55 = .ok (.iload 4, 2) := by decide +kernel
theorem dT_copyMarks_57 : decode mT_copyMarks.2.1 57 = .ok (.invokevirtual 72, 3) := by decide +kernel
theorem dT_copyMarks_60 : decode mT_copyMarks.2.1 60 = .ok (.iload 5, 2) := by decide +kernel
theorem dT_copyMarks_62 : decode mT_copyMarks.2.1 62 = .ok (.invokestatic 75, 3) := by decide +kernel
theorem dT_copyMarks_65 : decode mT_copyMarks.2.1 65 = .ok (.ireturn, 1) := by decide +kernel
theorem dX_like_0 : decode mX_like.2.1 0 = .ok (.aload_n 0, 1) := by decide +kernel
theorem dX_like_1 : decode mX_like.2.1 1 = .ok (.getfield 12, 3) := by decide +kernel
theorem dX_like_4 : decode mX_like.2.1 4 = .ok (.iload_n 1, 1) := by decide +kernel
theorem dX_like_5 : decode mX_like.2.1 5 = .ok (.invokevirtual 67, 3) := by decide +kernel
theorem dX_like_8 : decode mX_like.2.1 8 = .ok (.ifCond .eq 14, 3) := by decide +kernel
theorem dX_like_11 : decode mX_like.2.1 11 = .ok (.aload_n 0, 1) := by decide +kernel
theorem dX_like_12 : decode mX_like.2.1 12 = .ok (.getfield 12, 3) := by decide +kernel
theorem dX_like_15 : decode mX_like.2.1 15 = .ok (.iload_n 2, 1) := by decide +kernel
theorem dX_like_16 : decode mX_like.2.1 16 = .ok (.invokevirtual 67, 3) := by decide +kernel
theorem dX_like_19 : decode mX_like.2.1 19 = .ok (.ifCond .ne 5, 3) := by decide +kernel
theorem dX_like_22 : decode mX_like.2.1 22 = .ok (.iconst (-1), 1) := by decide +kernel
theorem dX_like_23 : decode mX_like.2.1 23 = .ok (.ireturn, 1) := by decide +kernel
theorem dX_like_24 : decode mX_like.2.1 24 = .ok (.aload_n 0, 1) := by decide +kernel
theorem dX_like_25 : decode mX_like.2.1 25 = .ok (.getfield 24, 3) := by decide +kernel
theorem dX_like_28 : decode mX_like.2.1 28 = .ok (.invokevirtual 49, 3) := by decide +kernel
theorem dX_like_31 : decode mX_like.2.1 31 = .ok (.aload_n 0, 1) := by decide +kernel
theorem dX_like_32 : decode mX_like.2.1 32 = .ok (.getfield 12, 3) := by decide +kernel
theorem dX_like_35 : decode mX_like.2.1 35 = .ok (.iload_n 1, 1) := by decide +kernel
theorem dX_like_36 : decode mX_like.2.1 36 = .ok (.iload_n 2, 1) := by decide +kernel
theorem dX_like_37 : decode mX_like.2.1 37 = .ok (.invokevirtual 82, 3) := by decide +kernel
theorem dX_like_40 : decode mX_like.2.1 40 = .ok (.ireturn, 1) := by decide +kernel
theorem dM_like_0 : decode mM_like.2.1 0 = .ok (.aload_n 0, 1) := by decide +kernel
theorem dM_like_1 : decode mM_like.2.1 1 = .ok (.iload_n 1, 1) := by decide +kernel
theorem dM_like_2 : decode mM_like.2.1 2 = .ok (.invokevirtual 110, 3) := by decide +kernel
theorem dM_like_5 : decode mM_like.2.1 5 = .ok (.ifCond .eq 11, 3) := by decide +kernel
theorem dM_like_8 : decode mM_like.2.1 8 = .ok (.aload_n 0, 1) := by decide +kernel
theorem dM_like_9 : decode mM_like.2.1 9 = .ok (.iload_n 2, 1) := by decide +kernel
theorem dM_like_10 : decode mM_like.2.1 10 = .ok (.invokevirtual 110, 3) := by decide +kernel
theorem dM_like_13 : decode mM_like.2.1 13 = .ok (.ifCond .ne 5, 3) := by decide +kernel
theorem dM_like_16 : decode mM_like.2.1 16 = .ok (.iconst (-1), 1) := by decide +kernel
theorem dM_like_17 : decode mM_like.2.1 17 = .ok (.ireturn, 1) := by decide +kernel
theorem dM_like_18 : decode mM_like.2.1 18 = .ok (.iconst 0, 1) := by decide +kernel
theorem dM_like_19 : decode mM_like.2.1 19 = .ok (.istore_n 3, 1) := by decide +kernel
theorem dM_like_20 : decode mM_like.2.1 20 = .ok (.iconst 0, 1) := by decide +kernel
theorem dM_like_21 : decode mM_like.2.1 21 = .ok (.istore 4, 2) := by decide +kernel
theorem dM_like_23 : decode mM_like.2.1 23 = .ok (.iload 4, 2) := by decide +kernel
theorem dM_like_25 : decode mM_like.2.1 25 = .ok (.bipush 8, 2) := by decide +kernel
theorem dM_like_27 : decode mM_like.2.1 27 = .ok (.if_icmp .ge 68, 3) := by decide +kernel
theorem dM_like_30 : decode mM_like.2.1 30 = .ok (.iload_n 3, 1) := by decide +kernel
theorem dM_like_31 : decode mM_like.2.1 31 = .ok (.aload_n 0, 1) := by decide +kernel
theorem dM_like_32 : decode mM_like.2.1 32 = .ok (.getfield 36, 3) := by decide +kernel
theorem dM_like_35 : decode mM_like.2.1 35 = .ok (.bipush 8, 2) := by decide +kernel
theorem dM_like_37 : decode mM_like.2.1 37 = .ok (.iload_n 1, 1) := by decide +kernel
theorem dM_like_38 : decode mM_like.2.1 38 = .ok (.imul, 1) := by decide +kernel
theorem dM_like_39 : decode mM_like.2.1 39 = .ok (.iload 4, 2) := by decide +kernel
theorem dM_like_41 : decode mM_like.2.1 41 = .ok (.iadd, 1) := by decide +kernel
theorem dM_like_42 : decode mM_like.2.1 42 = .ok (.iaload, 1) := by decide +kernel
theorem dM_like_43 : decode mM_like.2.1 43 = .ok (.aload_n 0, 1) := by decide +kernel
theorem dM_like_44 : decode mM_like.2.1 44 = .ok (.getfield 36, 3) := by decide +kernel
theorem dM_like_47 : decode mM_like.2.1 47 = .ok (.bipush 8, 2) := by decide +kernel
theorem dM_like_49 : decode mM_like.2.1 49 = .ok (.iload_n 2, 1) := by decide +kernel
theorem dM_like_50 : decode mM_like.2.1 50 = .ok (.imul, 1) := by decide +kernel
theorem dM_like_51 : decode mM_like.2.1 51 = .ok (.iload 4, 2) := by decide +kernel
theorem dM_like_53 : decode mM_like.2.1 53 = .ok (.iadd, 1) := by decide +kernel
theorem dM_like_54 : decode mM_like.2.1 54 = .ok (.iaload, 1) := by decide +kernel
theorem dM_like_55 : decode mM_like.2.1 55 = .ok (.if_icmp .eq 7, 3) := by decide +kernel
theorem dM_like_58 : decode mM_like.2.1 58 = .ok (.iconst 1, 1) := by decide +kernel
theorem dM_like_59 : decode mM_like.2.1 59 = .ok (.goto 4, 3) := by decide +kernel
theorem dM_like_62 : decode mM_like.2.1 62 = .ok (.iconst 0, 1) := by decide +kernel
theorem dM_like_63 : decode mM_like.2.1 63 = .ok (.iadd, 1) := by decide +kernel
theorem dM_like_64 : decode mM_like.2.1 64 = .ok (.istore_n 3, 1) := by decide +kernel
theorem dM_like_65 : decode mM_like.2.1 65 = .ok (.aload_n 0, 1) := by decide +kernel
theorem dM_like_66 : decode mM_like.2.1 66 = .ok (.getfield 36, 3) := by decide +kernel
theorem dM_like_69 : decode mM_like.2.1 69 = .ok (.bipush 8, 2) := by decide +kernel
theorem dM_like_71 : decode mM_like.2.1 71 = .ok (.iload_n 1, 1) := by decide +kernel
theorem dM_like_72 : decode mM_like.2.1 72 = .ok (.imul, 1) := by decide +kernel
theorem dM_like_73 : decode mM_like.2.1 73 = .ok (.iload 4, 2) := by decide +kernel
theorem dM_like_75 : decode mM_like.2.1 75 = .ok (.iadd, 1) := by decide +kernel
theorem dM_like_76 : decode mM_like.2.1 76 = .ok (.aload_n 0, 1) := by decide +kernel
theorem dM_like_77 : decode mM_like.2.1 77 = .ok (.getfield 36, 3) := by decide +kernel
theorem dM_like_80 : decode mM_like.2.1 80 = .ok (.bipush 8, 2) := by decide +kernel
theorem dM_like_82 : decode mM_like.2.1 82 = .ok (.iload_n 2, 1) := by decide +kernel
theorem dM_like_83 : decode mM_like.2.1 83 = .ok (.imul, 1) := by decide +kernel
theorem dM_like_84 : decode mM_like.2.1 84 = .ok (.iload 4, 2) := by decide +kernel
theorem dM_like_86 : decode mM_like.2.1 86 = .ok (.iadd, 1) := by decide +kernel
theorem dM_like_87 : decode mM_like.2.1 87 = .ok (.iaload, 1) := by decide +kernel
theorem dM_like_88 : decode mM_like.2.1 88 = .ok (.iastore, 1) := by decide +kernel
theorem dM_like_89 : decode mM_like.2.1 89 = .ok (.iinc 4 1, 3) := by decide +kernel
theorem dM_like_92 : decode mM_like.2.1 92 = .ok (.goto (-69), 3) := by decide +kernel
theorem dM_like_95 : decode mM_like.2.1 95 = .ok (.iload_n 3, 1) := by decide +kernel
theorem dM_like_96 : decode mM_like.2.1 96 = .ok (.ireturn, 1) := by decide +kernel
theorem dX_letter_0 : decode mX_letter.2.1 0 = .ok (.aload_n 0, 1) := by decide +kernel
theorem dX_letter_1 : decode mX_letter.2.1 1 = .ok (.getfield 12, 3) := by decide +kernel
theorem dX_letter_4 : decode mX_letter.2.1 4 = .ok (.iload_n 1, 1) := by decide +kernel
theorem dX_letter_5 : decode mX_letter.2.1 5 = .ok (.invokevirtual 67, 3) := by decide +kernel
theorem dX_letter_8 : decode mX_letter.2.1 8 = .ok (.ifCond .eq 12, 3) := by decide +kernel
theorem dX_letter_11 : decode mX_letter.2.1 11 = .ok (.iload_n 2, 1) := by decide +kernel
theorem dX_letter_12 : decode mX_letter.2.1 12 = .ok (.iconst 0, 1) := by decide +kernel
theorem dX_letter_13 : decode mX_letter.2.1 13 = .ok (.iconst 1, 1) := by decide +kernel
theorem dX_letter_14 : decode mX_letter.2.1 14 = .ok (.invokestatic 41, 3) := by decide +kernel
theorem dX_letter_17 : decode mX_letter.2.1 17 = .ok (.ifCond .ne 5, 3) := by decide +kernel
theorem dX_letter_20 : decode mX_letter.2.1 20 = .ok (.iconst (-1), 1) := by decide +kernel
theorem dX_letter_21 : decode mX_letter.2.1 21 = .ok (.ireturn, 1) := by decide +kernel
theorem dX_letter_22 : decode mX_letter.2.1 22 = .ok (.iload_n 2, 1) := by decide +kernel
theorem dX_letter_23 : decode mX_letter.2.1 23 = .ok (.ifCond .ne 7, 3) := by decide +kernel
theorem dX_letter_26 : decode mX_letter.2.1 26 = .ok (.iconst 3, 1) := by decide +kernel
theorem dX_letter_27 : decode mX_letter.2.1 27 = .ok (.goto 4, 3) := by decide +kernel
theorem dX_letter_30 : decode mX_letter.2.1 30 = .ok (.iconst 4, 1) := by decide +kernel
theorem dX_letter_31 : decode mX_letter.2.1 31 = .ok (.istore 4, 2) := by decide +kernel
theorem dX_letter_33 : decode mX_letter.2.1 33 = .ok (.iload_n 3, 1) := by decide +kernel
theorem dX_letter_34 : decode mX_letter.2.1 34 = .ok (.iconst (-1), 1) := by decide +kernel
theorem dX_letter_35 : decode mX_letter.2.1 35 = .ok (.iload 4, 2) := by decide +kernel
theorem dX_letter_37 : decode mX_letter.2.1 37 = .ok (.iconst 1, 1) := by decide +kernel
theorem dX_letter_38 : decode mX_letter.2.1 38 = .ok (.isub, 1) := by decide +kernel
theorem dX_letter_39 : decode mX_letter.2.1 39 = .ok (.invokestatic 41, 3) := by decide +kernel
theorem dX_letter_42 : decode mX_letter.2.1 42 = .ok (.ifCond .ne 5, 3) := by decide +kernel
theorem dX_letter_45 : decode mX_letter.2.1 45 = .ok (.iconst (-1), 1) := by decide +kernel
theorem dX_letter_46 : decode mX_letter.2.1 46 = .ok (.ireturn, 1) := by decide +kernel
theorem dX_letter_47 : decode mX_letter.2.1 47 = .ok (.aload_n 0, 1) := by decide +kernel
theorem dX_letter_48 : decode mX_letter.2.1 48 = .ok (.getfield 12, 3) := by decide +kernel
theorem dX_letter_51 : decode mX_letter.2.1 51 = .ok (.iload_n 1, 1) := by decide +kernel
theorem dX_letter_52 : decode mX_letter.2.1 52 = .ok (.iconst 3, 1) := by decide +kernel
theorem dX_letter_53 : decode mX_letter.2.1 53 = .ok (.iload_n 2, 1) := by decide +kernel
theorem dX_letter_54 : decode mX_letter.2.1 54 = .ok (.iadd, 1) := by decide +kernel
theorem dX_letter_55 : decode mX_letter.2.1 55 = .ok (.iload_n 3, 1) := by decide +kernel
theorem dX_letter_56 : decode mX_letter.2.1 56 = .ok (.invokevirtual 85, 3) := by decide +kernel
theorem dX_letter_59 : decode mX_letter.2.1 59 = .ok (.aload_n 0, 1) := by decide +kernel
theorem dX_letter_60 : decode mX_letter.2.1 60 = .ok (.getfield 24, 3) := by decide +kernel
theorem dX_letter_63 : decode mX_letter.2.1 63 = .ok (.invokevirtual 49, 3) := by decide +kernel
theorem dX_letter_66 : decode mX_letter.2.1 66 = .ok (.iconst 1, 1) := by decide +kernel
theorem dX_letter_67 : decode mX_letter.2.1 67 = .ok (.ireturn, 1) := by decide +kernel
theorem dM_letter_0 : decode mM_letter.2.1 0 = .ok (.aload_n 0, 1) := by decide +kernel
theorem dM_letter_1 : decode mM_letter.2.1 1 = .ok (.iload_n 1, 1) := by decide +kernel
theorem dM_letter_2 : decode mM_letter.2.1 2 = .ok (.invokevirtual 110, 3) := by decide +kernel
theorem dM_letter_5 : decode mM_letter.2.1 5 = .ok (.ifCond .eq 23, 3) := by decide +kernel
theorem dM_letter_8 : decode mM_letter.2.1 8 = .ok (.iload_n 2, 1) := by decide +kernel
theorem dM_letter_9 : decode mM_letter.2.1 9 = .ok (.iconst 0, 1) := by decide +kernel
theorem dM_letter_10 : decode mM_letter.2.1 10 = .ok (.iconst 1, 1) := by decide +kernel
theorem dM_letter_11 : decode mM_letter.2.1 11 = .ok (.invokestatic 99, 3) := by decide +kernel
theorem dM_letter_14 : decode mM_letter.2.1 14 = .ok (.ifCond .eq 14, 3) := by decide +kernel
theorem dM_letter_17 : decode mM_letter.2.1 17 = .ok (.iload_n 3, 1) := by decide +kernel
theorem dM_letter_18 : decode mM_letter.2.1 18 = .ok (.iconst (-1), 1) := by decide +kernel
theorem dM_letter_19 : decode mM_letter.2.1 19 = .ok (.iconst 2, 1) := by decide +kernel
theorem dM_letter_20 : decode mM_letter.2.1 20 = .ok (.iload_n 2, 1) := by decide +kernel
theorem dM_letter_21 : decode mM_letter.2.1 21 = .ok (.iadd, 1) := by decide +kernel
theorem dM_letter_22 : decode mM_letter.2.1 22 = .ok (.invokestatic 99, 3) := by decide +kernel
theorem dM_letter_25 : decode mM_letter.2.1 25 = .ok (.ifCond .ne 5, 3) := by decide +kernel
theorem dM_letter_28 : decode mM_letter.2.1 28 = .ok (.iconst (-1), 1) := by decide +kernel
theorem dM_letter_29 : decode mM_letter.2.1 29 = .ok (.ireturn, 1) := by decide +kernel
theorem dM_letter_30 : decode mM_letter.2.1 30 = .ok (.iload_n 2, 1) := by decide +kernel
theorem dM_letter_31 : decode mM_letter.2.1 31 = .ok (.ifCond .ne 13, 3) := by decide +kernel
theorem dM_letter_34 : decode mM_letter.2.1 34 = .ok (.aload_n 0, 1) := by decide +kernel
theorem dM_letter_35 : decode mM_letter.2.1 35 = .ok (.getfield 39, 3) := by decide +kernel
theorem dM_letter_38 : decode mM_letter.2.1 38 = .ok (.iload_n 1, 1) := by decide +kernel
theorem dM_letter_39 : decode mM_letter.2.1 39 = .ok (.iload_n 3, 1) := by decide +kernel
theorem dM_letter_40 : decode mM_letter.2.1 40 = .ok (.iastore, 1) := by decide +kernel
theorem dM_letter_41 : decode mM_letter.2.1 41 = .ok (.goto 10, 3) := by decide +kernel
theorem dM_letter_44 : decode mM_letter.2.1 44 = .ok (.aload_n 0, 1) := by decide +kernel
theorem dM_letter_45 : decode mM_letter.2.1 45 = .ok (.getfield 42, 3) := by decide +kernel
theorem dM_letter_48 : decode mM_letter.2.1 48 = .ok (.iload_n 1, 1) := by decide +kernel
theorem dM_letter_49 : decode mM_letter.2.1 49 = .ok (.iload_n 3, 1) := by decide +kernel
theorem dM_letter_50 : decode mM_letter.2.1 50 = .ok (.iastore, 1) := by decide +kernel
theorem dM_letter_51 : decode mM_letter.2.1 51 = .ok (.iconst 1, 1) := by decide +kernel
theorem dM_letter_52 : decode mM_letter.2.1 52 = .ok (.ireturn, 1) := by decide +kernel
theorem dX_wear_0 : decode mX_wear.2.1 0 = .ok (.aload_n 0, 1) := by decide +kernel
theorem dX_wear_1 : decode mX_wear.2.1 1 = .ok (.getfield 12, 3) := by decide +kernel
theorem dX_wear_4 : decode mX_wear.2.1 4 = .ok (.iload_n 1, 1) := by decide +kernel
theorem dX_wear_5 : decode mX_wear.2.1 5 = .ok (.invokevirtual 67, 3) := by decide +kernel
theorem dX_wear_8 : decode mX_wear.2.1 8 = .ok (.ifCond .eq 13, 3) := by decide +kernel
theorem dX_wear_11 : decode mX_wear.2.1 11 = .ok (.iload_n 2, 1) := by decide +kernel
theorem dX_wear_12 : decode mX_wear.2.1 12 = .ok (.iconst 0, 1) := by decide +kernel
theorem dX_wear_13 : decode mX_wear.2.1 13 = .ok (.bipush 99, 2) := by decide +kernel
theorem dX_wear_15 : decode mX_wear.2.1 15 = .ok (.invokestatic 41, 3) := by decide +kernel
theorem dX_wear_18 : decode mX_wear.2.1 18 = .ok (.ifCond .ne 5, 3) := by decide +kernel
theorem dX_wear_21 : decode mX_wear.2.1 21 = .ok (.iconst (-1), 1) := by decide +kernel
theorem dX_wear_22 : decode mX_wear.2.1 22 = .ok (.ireturn, 1) := by decide +kernel
theorem dX_wear_23 : decode mX_wear.2.1 23 = .ok (.aload_n 0, 1) := by decide +kernel
theorem dX_wear_24 : decode mX_wear.2.1 24 = .ok (.getfield 12, 3) := by decide +kernel
theorem dX_wear_27 : decode mX_wear.2.1 27 = .ok (.iload_n 1, 1) := by decide +kernel
theorem dX_wear_28 : decode mX_wear.2.1 28 = .ok (.iconst 5, 1) := by decide +kernel
theorem dX_wear_29 : decode mX_wear.2.1 29 = .ok (.invokevirtual 88, 3) := by decide +kernel
theorem dX_wear_32 : decode mX_wear.2.1 32 = .ok (.istore_n 3, 1) := by decide +kernel
theorem dX_wear_33 : decode mX_wear.2.1 33 = .ok (.aload_n 0, 1) := by decide +kernel
theorem dX_wear_34 : decode mX_wear.2.1 34 = .ok (.getfield 12, 3) := by decide +kernel
theorem dX_wear_37 : decode mX_wear.2.1 37 = .ok (.iload_n 1, 1) := by decide +kernel
theorem dX_wear_38 : decode mX_wear.2.1 38 = .ok (.iconst 5, 1) := by decide +kernel
theorem dX_wear_39 : decode mX_wear.2.1 39 = .ok (.iload_n 2, 1) := by decide +kernel
theorem dX_wear_40 : decode mX_wear.2.1 40 = .ok (.invokevirtual 85, 3) := by decide +kernel
theorem dX_wear_43 : decode mX_wear.2.1 43 = .ok (.iload_n 3, 1) := by decide +kernel
theorem dX_wear_44 : decode mX_wear.2.1 44 = .ok (.ireturn, 1) := by decide +kernel
theorem dM_wear_0 : decode mM_wear.2.1 0 = .ok (.aload_n 0, 1) := by decide +kernel
theorem dM_wear_1 : decode mM_wear.2.1 1 = .ok (.iload_n 1, 1) := by decide +kernel
theorem dM_wear_2 : decode mM_wear.2.1 2 = .ok (.invokevirtual 110, 3) := by decide +kernel
theorem dM_wear_5 : decode mM_wear.2.1 5 = .ok (.ifCond .eq 13, 3) := by decide +kernel
theorem dM_wear_8 : decode mM_wear.2.1 8 = .ok (.iload_n 2, 1) := by decide +kernel
theorem dM_wear_9 : decode mM_wear.2.1 9 = .ok (.iconst 0, 1) := by decide +kernel
theorem dM_wear_10 : decode mM_wear.2.1 10 = .ok (.bipush 99, 2) := by decide +kernel
theorem dM_wear_12 : decode mM_wear.2.1 12 = .ok (.invokestatic 99, 3) := by decide +kernel
theorem dM_wear_15 : decode mM_wear.2.1 15 = .ok (.ifCond .ne 5, 3) := by decide +kernel
theorem dM_wear_18 : decode mM_wear.2.1 18 = .ok (.iconst (-1), 1) := by decide +kernel
theorem dM_wear_19 : decode mM_wear.2.1 19 = .ok (.ireturn, 1) := by decide +kernel
theorem dM_wear_20 : decode mM_wear.2.1 20 = .ok (.aload_n 0, 1) := by decide +kernel
theorem dM_wear_21 : decode mM_wear.2.1 21 = .ok (.getfield 45, 3) := by decide +kernel
theorem dM_wear_24 : decode mM_wear.2.1 24 = .ok (.iload_n 1, 1) := by decide +kernel
theorem dM_wear_25 : decode mM_wear.2.1 25 = .ok (.iaload, 1) := by decide +kernel
theorem dM_wear_26 : decode mM_wear.2.1 26 = .ok (.istore_n 3, 1) := by decide +kernel
theorem dM_wear_27 : decode mM_wear.2.1 27 = .ok (.aload_n 0, 1) := by decide +kernel
theorem dM_wear_28 : decode mM_wear.2.1 28 = .ok (.getfield 45, 3) := by decide +kernel
theorem dM_wear_31 : decode mM_wear.2.1 31 = .ok (.iload_n 1, 1) := by decide +kernel
theorem dM_wear_32 : decode mM_wear.2.1 32 = .ok (.iload_n 2, 1) := by decide +kernel
theorem dM_wear_33 : decode mM_wear.2.1 33 = .ok (.iastore, 1) := by decide +kernel
theorem dM_wear_34 : decode mM_wear.2.1 34 = .ok (.iload_n 3, 1) := by decide +kernel
theorem dM_wear_35 : decode mM_wear.2.1 35 = .ok (.ireturn, 1) := by decide +kernel
theorem dX_isShade_0 : decode mX_isShade.2.1 0 = .ok (.iload_n 0, 1) := by decide +kernel
theorem dX_isShade_1 : decode mX_isShade.2.1 1 = .ok (.iconst 0, 1) := by decide +kernel
theorem dX_isShade_2 : decode mX_isShade.2.1 2 = .ok (.iconst 5, 1) := by decide +kernel
theorem dX_isShade_3 : decode mX_isShade.2.1 3 = .ok (.invokestatic 41, 3) := by decide +kernel
theorem dX_isShade_6 : decode mX_isShade.2.1 6 = .ok (.ireturn, 1) := by decide +kernel
theorem dX_dated_0 : decode mX_dated.2.1 0 = .ok (.aload_n 0, 1) := by decide +kernel
theorem dX_dated_1 : decode mX_dated.2.1 1 = .ok (.getfield 12, 3) := by decide +kernel
theorem dX_dated_4 : decode mX_dated.2.1 4 = .ok (.iload_n 1, 1) := by decide +kernel
theorem dX_dated_5 : decode mX_dated.2.1 5 = .ok (.invokevirtual 67, 3) := by decide +kernel
theorem dX_dated_8 : decode mX_dated.2.1 8 = .ok (.ifCond .eq 21, 3) := by decide +kernel
theorem dX_dated_11 : decode mX_dated.2.1 11 = .ok (.iload_n 2, 1) := by decide +kernel
theorem dX_dated_12 : decode mX_dated.2.1 12 = .ok (.iconst (-1), 1) := by decide +kernel
theorem dX_dated_13 : decode mX_dated.2.1 13 = .ok (.sipush 999, 3) := by decide +kernel
theorem dX_dated_16 : decode mX_dated.2.1 16 = .ok (.invokestatic 41, 3) := by decide +kernel
theorem dX_dated_19 : decode mX_dated.2.1 19 = .ok (.ifCond .eq 10, 3) := by decide +kernel
theorem dX_dated_22 : decode mX_dated.2.1 22 = .ok (.iload_n 3, 1) := by decide +kernel
theorem dX_dated_23 : decode mX_dated.2.1 23 = .ok (.invokestatic 91, 3) := by decide +kernel
theorem dX_dated_26 : decode mX_dated.2.1 26 = .ok (.ifCond .ne 5, 3) := by decide +kernel
theorem dX_dated_29 : decode mX_dated.2.1 29 = .ok (.iconst (-1), 1) := by decide +kernel
theorem dX_dated_30 : decode mX_dated.2.1 30 = .ok (.ireturn, 1) := by decide +kernel
theorem dX_dated_31 : decode mX_dated.2.1 31 = .ok (.aload_n 0, 1) := by decide +kernel
theorem dX_dated_32 : decode mX_dated.2.1 32 = .ok (.getfield 12, 3) := by decide +kernel
theorem dX_dated_35 : decode mX_dated.2.1 35 = .ok (.iload_n 1, 1) := by decide +kernel
theorem dX_dated_36 : decode mX_dated.2.1 36 = .ok (.bipush 6, 2) := by decide +kernel
theorem dX_dated_38 : decode mX_dated.2.1 38 = .ok (.iload_n 2, 1) := by decide +kernel
theorem dX_dated_39 : decode mX_dated.2.1 39 = .ok (.invokevirtual 85, 3) := by decide +kernel
theorem dX_dated_42 : decode mX_dated.2.1 42 = .ok (.aload_n 0, 1) := by decide +kernel
theorem dX_dated_43 : decode mX_dated.2.1 43 = .ok (.getfield 12, 3) := by decide +kernel
theorem dX_dated_46 : decode mX_dated.2.1 46 = .ok (.iload_n 1, 1) := by decide +kernel
theorem dX_dated_47 : decode mX_dated.2.1 47 = .ok (.bipush 7, 2) := by decide +kernel
theorem dX_dated_49 : decode mX_dated.2.1 49 = .ok (.iload_n 3, 1) := by decide +kernel
theorem dX_dated_50 : decode mX_dated.2.1 50 = .ok (.invokevirtual 85, 3) := by decide +kernel
theorem dX_dated_53 : decode mX_dated.2.1 53 = .ok (.iconst 1, 1) := by decide +kernel
theorem dX_dated_54 : decode mX_dated.2.1 54 = .ok (.ireturn, 1) := by decide +kernel
theorem dM_dated_0 : decode mM_dated.2.1 0 = .ok (.aload_n 0, 1) := by decide +kernel
theorem dM_dated_1 : decode mM_dated.2.1 1 = .ok (.iload_n 1, 1) := by decide +kernel
theorem dM_dated_2 : decode mM_dated.2.1 2 = .ok (.invokevirtual 110, 3) := by decide +kernel
theorem dM_dated_5 : decode mM_dated.2.1 5 = .ok (.ifCond .eq 23, 3) := by decide +kernel
theorem dM_dated_8 : decode mM_dated.2.1 8 = .ok (.iload_n 2, 1) := by decide +kernel
theorem dM_dated_9 : decode mM_dated.2.1 9 = .ok (.iconst (-1), 1) := by decide +kernel
theorem dM_dated_10 : decode mM_dated.2.1 10 = .ok (.sipush 999, 3) := by decide +kernel
theorem dM_dated_13 : decode mM_dated.2.1 13 = .ok (.invokestatic 99, 3) := by decide +kernel
theorem dM_dated_16 : decode mM_dated.2.1 16 = .ok (.ifCond .eq 12, 3) := by decide +kernel
theorem dM_dated_19 : decode mM_dated.2.1 19 = .ok (.iload_n 3, 1) := by decide +kernel
theorem dM_dated_20 : decode mM_dated.2.1 20 = .ok (.iconst 0, 1) := by decide +kernel
theorem dM_dated_21 : decode mM_dated.2.1 21 = .ok (.iconst 5, 1) := by decide +kernel
theorem dM_dated_22 : decode mM_dated.2.1 22 = .ok (.invokestatic 99, 3) := by decide +kernel
theorem dM_dated_25 : decode mM_dated.2.1 25 = .ok (.ifCond .ne 5, 3) := by decide +kernel
theorem dM_dated_28 : decode mM_dated.2.1 28 = .ok (.iconst (-1), 1) := by decide +kernel
theorem dM_dated_29 : decode mM_dated.2.1 29 = .ok (.ireturn, 1) := by decide +kernel
theorem dM_dated_30 : decode mM_dated.2.1 30 = .ok (.aload_n 0, 1) := by decide +kernel
theorem dM_dated_31 : decode mM_dated.2.1 31 = .ok (.getfield 48, 3) := by decide +kernel
theorem dM_dated_34 : decode mM_dated.2.1 34 = .ok (.iload_n 1, 1) := by decide +kernel
theorem dM_dated_35 : decode mM_dated.2.1 35 = .ok (.iload_n 2, 1) := by decide +kernel
theorem dM_dated_36 : decode mM_dated.2.1 36 = .ok (.iastore, 1) := by decide +kernel
theorem dM_dated_37 : decode mM_dated.2.1 37 = .ok (.aload_n 0, 1) := by decide +kernel
theorem dM_dated_38 : decode mM_dated.2.1 38 = .ok (.getfield 51, 3) := by decide +kernel
theorem dM_dated_41 : decode mM_dated.2.1 41 = .ok (.iload_n 1, 1) := by decide +kernel
theorem dM_dated_42 : decode mM_dated.2.1 42 = .ok (.iload_n 3, 1) := by decide +kernel
theorem dM_dated_43 : decode mM_dated.2.1 43 = .ok (.iastore, 1) := by decide +kernel
theorem dM_dated_44 : decode mM_dated.2.1 44 = .ok (.iconst 1, 1) := by decide +kernel
theorem dM_dated_45 : decode mM_dated.2.1 45 = .ok (.ireturn, 1) := by decide +kernel
theorem dT_hasPiece_0 : decode mT_hasPiece.2.1 0 = .ok (.iload_n 1, 1) := by decide +kernel
theorem dT_hasPiece_1 : decode mT_hasPiece.2.1 1 = .ok (.iconst 0, 1) := by decide +kernel
theorem dT_hasPiece_2 : decode mT_hasPiece.2.1 2 = .ok (.aload_n 0, 1) := by decide +kernel
theorem dT_hasPiece_3 : decode mT_hasPiece.2.1 3 = .ok (.getfield 18, 3) := by decide +kernel
theorem dT_hasPiece_6 : decode mT_hasPiece.2.1 6 = .ok (.iconst 1, 1) := by decide +kernel
theorem dT_hasPiece_7 : decode mT_hasPiece.2.1 7 = .ok (.isub, 1) := by decide +kernel
theorem dT_hasPiece_8 : decode mT_hasPiece.2.1 8 = .ok (.invokestatic 47, 3) := by decide +kernel
theorem dT_hasPiece_11 : decode mT_hasPiece.2.1 11 = .ok (.ireturn, 1) := by decide +kernel
theorem dT_isOut_0 : decode mT_isOut.2.1 0 = .ok (.aload_n 0, 1) := by decide +kernel
theorem dT_isOut_1 : decode mT_isOut.2.1 1 = .ok (.iload_n 1, 1) := by decide +kernel
theorem dT_isOut_2 : decode mT_isOut.2.1 2 = .ok (.iconst 5, 1) := by decide +kernel
theorem dT_isOut_3 : decode mT_isOut.2.1 3 = .ok (.invokevirtual 55, 3) := by decide +kernel
theorem dT_isOut_6 : decode mT_isOut.2.1 6 = .ok (.iconst 1, 1) := by decide +kernel
theorem dT_isOut_7 : decode mT_isOut.2.1 7 = .ok (.if_icmp .ne 7, 3) := by decide +kernel
theorem dT_isOut_10 : decode mT_isOut.2.1 10 = .ok (.iconst 1, 1) := by decide +kernel
theorem dT_isOut_11 : decode mT_isOut.2.1 11 = .ok (.goto 4, 3) := by decide +kernel
theorem dT_isOut_14 : decode mT_isOut.2.1 14 = .ok (.iconst 0, 1) := by decide +kernel
theorem dT_isOut_15 : decode mT_isOut.2.1 15 = .ok (.ireturn, 1) := by decide +kernel
theorem dT_putOut_0 : decode mT_putOut.2.1 0 = .ok (.aload_n 0, 1) := by decide +kernel
theorem dT_putOut_1 : decode mT_putOut.2.1 1 = .ok (.getfield 27, 3) := by decide +kernel
theorem dT_putOut_4 : decode mT_putOut.2.1 4 = .ok (.iload_n 1, 1) := by decide +kernel
theorem dT_putOut_5 : decode mT_putOut.2.1 5 = .ok (.bipush 6, 2) := by decide +kernel
theorem dT_putOut_7 : decode mT_putOut.2.1 7 = .ok (.imul, 1) := by decide +kernel
theorem dT_putOut_8 : decode mT_putOut.2.1 8 = .ok (.iconst 5, 1) := by decide +kernel
theorem dT_putOut_9 : decode mT_putOut.2.1 9 = .ok (.iadd, 1) := by decide +kernel
theorem dT_putOut_10 : decode mT_putOut.2.1 10 = .ok (.iload_n 2, 1) := by decide +kernel
theorem dT_putOut_11 : decode mT_putOut.2.1 11 = .ok (.ifCond .eq 7, 3) := by decide +kernel
theorem dT_putOut_14 : decode mT_putOut.2.1 14 = .ok (.iconst 1, 1) := by decide +kernel
theorem dT_putOut_15 : decode mT_putOut.2.1 15 = .ok (.goto 4, 3) := by decide +kernel
theorem dT_putOut_18 : decode mT_putOut.2.1 18 = .ok (.iconst 0, 1) := by decide +kernel
theorem dT_putOut_19 : decode mT_putOut.2.1 19 = .ok (.iastore, 1) := by decide +kernel
theorem dT_putOut_20 : decode mT_putOut.2.1 20 = .ok (.return_, 1) := by decide +kernel
theorem dX_out_0 : decode mX_out.2.1 0 = .ok (.aload_n 0, 1) := by decide +kernel
theorem dX_out_1 : decode mX_out.2.1 1 = .ok (.getfield 12, 3) := by decide +kernel
theorem dX_out_4 : decode mX_out.2.1 4 = .ok (.iload_n 1, 1) := by decide +kernel
theorem dX_out_5 : decode mX_out.2.1 5 = .ok (.invokevirtual 94, 3) := by decide +kernel
theorem dX_out_8 : decode mX_out.2.1 8 = .ok (.ifCond .ne 5, 3) := by decide +kernel
theorem dX_out_11 : decode mX_out.2.1 11 = .ok (.iconst (-1), 1) := by decide +kernel
theorem dX_out_12 : decode mX_out.2.1 12 = .ok (.ireturn, 1) := by decide +kernel
theorem dX_out_13 : decode mX_out.2.1 13 = .ok (.aload_n 0, 1) := by decide +kernel
theorem dX_out_14 : decode mX_out.2.1 14 = .ok (.getfield 12, 3) := by decide +kernel
theorem dX_out_17 : decode mX_out.2.1 17 = .ok (.iload_n 1, 1) := by decide +kernel
theorem dX_out_18 : decode mX_out.2.1 18 = .ok (.invokevirtual 97, 3) := by decide +kernel
theorem dX_out_21 : decode mX_out.2.1 21 = .ok (.iload_n 2, 1) := by decide +kernel
theorem dX_out_22 : decode mX_out.2.1 22 = .ok (.if_icmp .ne 5, 3) := by decide +kernel
theorem dX_out_25 : decode mX_out.2.1 25 = .ok (.iconst 0, 1) := by decide +kernel
theorem dX_out_26 : decode mX_out.2.1 26 = .ok (.ireturn, 1) := by decide +kernel
theorem dX_out_27 : decode mX_out.2.1 27 = .ok (.aload_n 0, 1) := by decide +kernel
theorem dX_out_28 : decode mX_out.2.1 28 = .ok (.getfield 12, 3) := by decide +kernel
theorem dX_out_31 : decode mX_out.2.1 31 = .ok (.iload_n 1, 1) := by decide +kernel
theorem dX_out_32 : decode mX_out.2.1 32 = .ok (.iload_n 2, 1) := by decide +kernel
theorem dX_out_33 : decode mX_out.2.1 33 = .ok (.invokevirtual 100, 3) := by decide +kernel
theorem dX_out_36 : decode mX_out.2.1 36 = .ok (.aload_n 0, 1) := by decide +kernel
theorem dX_out_37 : decode mX_out.2.1 37 = .ok (.getfield 24, 3) := by decide +kernel
theorem dX_out_40 : decode mX_out.2.1 40 = .ok (.invokevirtual 49, 3) := by decide +kernel
theorem dX_out_43 : decode mX_out.2.1 43 = .ok (.iconst 1, 1) := by decide +kernel
theorem dX_out_44 : decode mX_out.2.1 44 = .ok (.ireturn, 1) := by decide +kernel
theorem dM_isPiece_0 : decode mM_isPiece.2.1 0 = .ok (.iload_n 1, 1) := by decide +kernel
theorem dM_isPiece_1 : decode mM_isPiece.2.1 1 = .ok (.iconst 0, 1) := by decide +kernel
theorem dM_isPiece_2 : decode mM_isPiece.2.1 2 = .ok (.aload_n 0, 1) := by decide +kernel
theorem dM_isPiece_3 : decode mM_isPiece.2.1 3 = .ok (.getfield 103, 3) := by decide +kernel
theorem dM_isPiece_6 : decode mM_isPiece.2.1 6 = .ok (.iconst 1, 1) := by decide +kernel
theorem dM_isPiece_7 : decode mM_isPiece.2.1 7 = .ok (.isub, 1) := by decide +kernel
theorem dM_isPiece_8 : decode mM_isPiece.2.1 8 = .ok (.invokestatic 99, 3) := by decide +kernel
theorem dM_isPiece_11 : decode mM_isPiece.2.1 11 = .ok (.ireturn, 1) := by decide +kernel
theorem dM_out_0 : decode mM_out.2.1 0 = .ok (.aload_n 0, 1) := by decide +kernel
theorem dM_out_1 : decode mM_out.2.1 1 = .ok (.iload_n 1, 1) := by decide +kernel
theorem dM_out_2 : decode mM_out.2.1 2 = .ok (.invokevirtual 117, 3) := by decide +kernel
theorem dM_out_5 : decode mM_out.2.1 5 = .ok (.ifCond .ne 5, 3) := by decide +kernel
theorem dM_out_8 : decode mM_out.2.1 8 = .ok (.iconst (-1), 1) := by decide +kernel
theorem dM_out_9 : decode mM_out.2.1 9 = .ok (.ireturn, 1) := by decide +kernel
theorem dM_out_10 : decode mM_out.2.1 10 = .ok (.aload_n 0, 1) := by decide +kernel
theorem dM_out_11 : decode mM_out.2.1 11 = .ok (.getfield 29, 3) := by decide +kernel
theorem dM_out_14 : decode mM_out.2.1 14 = .ok (.iload_n 1, 1) := by decide +kernel
theorem dM_out_15 : decode mM_out.2.1 15 = .ok (.baload, 1) := by decide +kernel
theorem dM_out_16 : decode mM_out.2.1 16 = .ok (.iload_n 2, 1) := by decide +kernel
theorem dM_out_17 : decode mM_out.2.1 17 = .ok (.if_icmp .ne 7, 3) := by decide +kernel
theorem dM_out_20 : decode mM_out.2.1 20 = .ok (.iconst 0, 1) := by decide +kernel
theorem dM_out_21 : decode mM_out.2.1 21 = .ok (.goto 4, 3) := by decide +kernel
theorem dM_out_24 : decode mM_out.2.1 24 = .ok (.iconst 1, 1) := by decide +kernel
theorem dM_out_25 : decode mM_out.2.1 25 = .ok (.istore_n 3, 1) := by decide +kernel
theorem dM_out_26 : decode mM_out.2.1 26 = .ok (.aload_n 0, 1) := by decide +kernel
theorem dM_out_27 : decode mM_out.2.1 27 = .ok (.getfield 29, 3) := by decide +kernel
theorem dM_out_30 : decode mM_out.2.1 30 = .ok (.iload_n 1, 1) := by decide +kernel
theorem dM_out_31 : decode mM_out.2.1 31 = .ok (.iload_n 2, 1) := by decide +kernel
theorem dM_out_32 : decode mM_out.2.1 32 = .ok (.bastore, 1) := by decide +kernel
theorem dM_out_33 : decode mM_out.2.1 33 = .ok (.iload_n 3, 1) := by decide +kernel
theorem dM_out_34 : decode mM_out.2.1 34 = .ok (.ireturn, 1) := by decide +kernel
theorem dT_hasBar_0 : decode mT_hasBar.2.1 0 = .ok (.aload_n 0, 1) := by decide +kernel
theorem dT_hasBar_1 : decode mT_hasBar.2.1 1 = .ok (.getfield 34, 3) := by decide +kernel
theorem dT_hasBar_4 : decode mT_hasBar.2.1 4 = .ok (.iload_n 1, 1) := by decide +kernel
theorem dT_hasBar_5 : decode mT_hasBar.2.1 5 = .ok (.iaload, 1) := by decide +kernel
theorem dT_hasBar_6 : decode mT_hasBar.2.1 6 = .ok (.iload_n 2, 1) := by decide +kernel
theorem dT_hasBar_7 : decode mT_hasBar.2.1 7 = .ok (.invokestatic 59, 3) := by decide +kernel
theorem dT_hasBar_10 : decode mT_hasBar.2.1 10 = .ok (.ireturn, 1) := by decide +kernel
theorem dT_addBar_0 : decode mT_addBar.2.1 0 = .ok (.aload_n 0, 1) := by decide +kernel
theorem dT_addBar_1 : decode mT_addBar.2.1 1 = .ok (.getfield 34, 3) := by decide +kernel
theorem dT_addBar_4 : decode mT_addBar.2.1 4 = .ok (.iload_n 1, 1) := by decide +kernel
theorem dT_addBar_5 : decode mT_addBar.2.1 5 = .ok (.dup2, 1) := by decide +kernel
theorem dT_addBar_6 : decode mT_addBar.2.1 6 = .ok (.iaload, 1) := by decide +kernel
theorem dT_addBar_7 : decode mT_addBar.2.1 7 = .ok (.iconst 1, 1) := by decide +kernel
theorem dT_addBar_8 : decode mT_addBar.2.1 8 = .ok (.iload_n 2, 1) := by decide +kernel
theorem dT_addBar_9 : decode mT_addBar.2.1 9 = .ok (.ishl, 1) := by decide +kernel
theorem dT_addBar_10 : decode mT_addBar.2.1 10 = .ok (.ior, 1) := by decide +kernel
theorem dT_addBar_11 : decode mT_addBar.2.1 11 = .ok (.iastore, 1) := by decide +kernel
theorem dT_addBar_12 : decode mT_addBar.2.1 12 = .ok (.aload_n 0, 1) := by decide +kernel
theorem dT_addBar_13 : decode mT_addBar.2.1 13 = .ok (.getfield 34, 3) := by decide +kernel
theorem dT_addBar_16 : decode mT_addBar.2.1 16 = .ok (.iload_n 2, 1) := by decide +kernel
theorem dT_addBar_17 : decode mT_addBar.2.1 17 = .ok (.dup2, 1) := by decide +kernel
theorem dT_addBar_18 : decode mT_addBar.2.1 18 = .ok (.iaload, 1) := by decide +kernel
theorem dT_addBar_19 : decode mT_addBar.2.1 19 = .ok (.iconst 1, 1) := by decide +kernel
theorem dT_addBar_20 : decode mT_addBar.2.1 20 = .ok (.iload_n 1, 1) := by decide +kernel
theorem dT_addBar_21 : decode mT_addBar.2.1 21 = .ok (.ishl, 1) := by decide +kernel
theorem dT_addBar_22 : decode mT_addBar.2.1 22 = .ok (.ior, 1) := by decide +kernel
theorem dT_addBar_23 : decode mT_addBar.2.1 23 = .ok (.iastore, 1) := by decide +kernel
theorem dT_addBar_24 : decode mT_addBar.2.1 24 = .ok (.aload_n 0, 1) := by decide +kernel
theorem dT_addBar_25 : decode mT_addBar.2.1 25 = .ok (.dup, 1) := by decide +kernel
theorem dT_addBar_26 : decode mT_addBar.2.1 26 = .ok (.getfield 24, 3) := by decide +kernel
theorem dT_addBar_29 : decode mT_addBar.2.1 29 = .ok (.iconst 1, 1) := by decide +kernel
theorem dT_addBar_30 : decode mT_addBar.2.1 30 = .ok (.iadd, 1) := by decide +kernel
theorem dT_addBar_31 : decode mT_addBar.2.1 31 = .ok (.putfield 24, 3) := by decide +kernel
theorem dT_addBar_34 : decode mT_addBar.2.1 34 = .ok (.aload_n 0, 1) := by decide +kernel
theorem dT_addBar_35 : decode mT_addBar.2.1 35 = .ok (.getfield 24, 3) := by decide +kernel
theorem dT_addBar_38 : decode mT_addBar.2.1 38 = .ok (.ireturn, 1) := by decide +kernel
theorem dX_bar_0 : decode mX_bar.2.1 0 = .ok (.iload_n 1, 1) := by decide +kernel
theorem dX_bar_1 : decode mX_bar.2.1 1 = .ok (.invokestatic 71, 3) := by decide +kernel
theorem dX_bar_4 : decode mX_bar.2.1 4 = .ok (.ifCond .eq 15, 3) := by decide +kernel
theorem dX_bar_7 : decode mX_bar.2.1 7 = .ok (.iload_n 2, 1) := by decide +kernel
theorem dX_bar_8 : decode mX_bar.2.1 8 = .ok (.invokestatic 71, 3) := by decide +kernel
theorem dX_bar_11 : decode mX_bar.2.1 11 = .ok (.ifCond .eq 8, 3) := by decide +kernel
theorem dX_bar_14 : decode mX_bar.2.1 14 = .ok (.iload_n 1, 1) := by decide +kernel
theorem dX_bar_15 : decode mX_bar.2.1 15 = .ok (.iload_n 2, 1) := by decide +kernel
theorem dX_bar_16 : decode mX_bar.2.1 16 = .ok (.if_icmp .ne 5, 3) := by decide +kernel
theorem dX_bar_19 : decode mX_bar.2.1 19 = .ok (.iconst (-1), 1) := by decide +kernel
theorem dX_bar_20 : decode mX_bar.2.1 20 = .ok (.ireturn, 1) := by decide +kernel
theorem dX_bar_21 : decode mX_bar.2.1 21 = .ok (.aload_n 0, 1) := by decide +kernel
theorem dX_bar_22 : decode mX_bar.2.1 22 = .ok (.getfield 12, 3) := by decide +kernel
theorem dX_bar_25 : decode mX_bar.2.1 25 = .ok (.iload_n 1, 1) := by decide +kernel
theorem dX_bar_26 : decode mX_bar.2.1 26 = .ok (.iload_n 2, 1) := by decide +kernel
theorem dX_bar_27 : decode mX_bar.2.1 27 = .ok (.invokevirtual 104, 3) := by decide +kernel
theorem dX_bar_30 : decode mX_bar.2.1 30 = .ok (.ifCond .eq 6, 3) := by decide +kernel
theorem dX_bar_33 : decode mX_bar.2.1 33 = .ok (.bipush (-3), 2) := by decide +kernel
theorem dX_bar_35 : decode mX_bar.2.1 35 = .ok (.ireturn, 1) := by decide +kernel
theorem dX_bar_36 : decode mX_bar.2.1 36 = .ok (.aload_n 0, 1) := by decide +kernel
theorem dX_bar_37 : decode mX_bar.2.1 37 = .ok (.getfield 12, 3) := by decide +kernel
theorem dX_bar_40 : decode mX_bar.2.1 40 = .ok (.getfield 108, 3) := by decide +kernel
theorem dX_bar_43 : decode mX_bar.2.1 43 = .ok (.bipush 6, 2) := by decide +kernel
theorem dX_bar_45 : decode mX_bar.2.1 45 = .ok (.if_icmp .lt 6, 3) := by decide +kernel
theorem dX_bar_48 : decode mX_bar.2.1 48 = .ok (.bipush (-2), 2) := by decide +kernel
theorem dX_bar_50 : decode mX_bar.2.1 50 = .ok (.ireturn, 1) := by decide +kernel
theorem dX_bar_51 : decode mX_bar.2.1 51 = .ok (.aload_n 0, 1) := by decide +kernel
theorem dX_bar_52 : decode mX_bar.2.1 52 = .ok (.getfield 24, 3) := by decide +kernel
theorem dX_bar_55 : decode mX_bar.2.1 55 = .ok (.invokevirtual 49, 3) := by decide +kernel
theorem dX_bar_58 : decode mX_bar.2.1 58 = .ok (.aload_n 0, 1) := by decide +kernel
theorem dX_bar_59 : decode mX_bar.2.1 59 = .ok (.getfield 12, 3) := by decide +kernel
theorem dX_bar_62 : decode mX_bar.2.1 62 = .ok (.iload_n 1, 1) := by decide +kernel
theorem dX_bar_63 : decode mX_bar.2.1 63 = .ok (.iload_n 2, 1) := by decide +kernel
theorem dX_bar_64 : decode mX_bar.2.1 64 = .ok (.invokevirtual 111, 3) := by decide +kernel
theorem dX_bar_67 : decode mX_bar.2.1 67 = .ok (.ireturn, 1) := by decide +kernel
theorem dM_bar_0 : decode mM_bar.2.1 0 = .ok (.iload_n 1, 1) := by decide +kernel
theorem dM_bar_1 : decode mM_bar.2.1 1 = .ok (.invokestatic 114, 3) := by decide +kernel
theorem dM_bar_4 : decode mM_bar.2.1 4 = .ok (.ifCond .eq 15, 3) := by decide +kernel
theorem dM_bar_7 : decode mM_bar.2.1 7 = .ok (.iload_n 2, 1) := by decide +kernel
theorem dM_bar_8 : decode mM_bar.2.1 8 = .ok (.invokestatic 114, 3) := by decide +kernel
theorem dM_bar_11 : decode mM_bar.2.1 11 = .ok (.ifCond .eq 8, 3) := by decide +kernel
theorem dM_bar_14 : decode mM_bar.2.1 14 = .ok (.iload_n 1, 1) := by decide +kernel
theorem dM_bar_15 : decode mM_bar.2.1 15 = .ok (.iload_n 2, 1) := by decide +kernel
theorem dM_bar_16 : decode mM_bar.2.1 16 = .ok (.if_icmp .ne 5, 3) := by decide +kernel
theorem dM_bar_19 : decode mM_bar.2.1 19 = .ok (.iconst (-1), 1) := by decide +kernel
theorem dM_bar_20 : decode mM_bar.2.1 20 = .ok (.ireturn, 1) := by decide +kernel
theorem dM_bar_21 : decode mM_bar.2.1 21 = .ok (.iconst 0, 1) := by decide +kernel
theorem dM_bar_22 : decode mM_bar.2.1 22 = .ok (.istore_n 3, 1) := by decide +kernel
theorem dM_bar_23 : decode mM_bar.2.1 23 = .ok (.iload_n 3, 1) := by decide +kernel
theorem dM_bar_24 : decode mM_bar.2.1 24 = .ok (.aload_n 0, 1) := by decide +kernel
theorem dM_bar_25 : decode mM_bar.2.1 25 = .ok (.getfield 120, 3) := by decide +kernel
theorem dM_bar_28 : decode mM_bar.2.1 28 = .ok (.if_icmp .ge 52, 3) := by decide +kernel
theorem dM_bar_31 : decode mM_bar.2.1 31 = .ok (.aload_n 0, 1) := by decide +kernel
theorem dM_bar_32 : decode mM_bar.2.1 32 = .ok (.getfield 54, 3) := by decide +kernel
theorem dM_bar_35 : decode mM_bar.2.1 35 = .ok (.iload_n 3, 1) := by decide +kernel
theorem dM_bar_36 : decode mM_bar.2.1 36 = .ok (.iaload, 1) := by decide +kernel
theorem dM_bar_37 : decode mM_bar.2.1 37 = .ok (.iload_n 1, 1) := by decide +kernel
theorem dM_bar_38 : decode mM_bar.2.1 38 = .ok (.if_icmp .ne 13, 3) := by decide +kernel
theorem dM_bar_41 : decode mM_bar.2.1 41 = .ok (.aload_n 0, 1) := by decide +kernel
theorem dM_bar_42 : decode mM_bar.2.1 42 = .ok (.getfield 57, 3) := by decide +kernel
theorem dM_bar_45 : decode mM_bar.2.1 45 = .ok (.iload_n 3, 1) := by decide +kernel
theorem dM_bar_46 : decode mM_bar.2.1 46 = .ok (.iaload, 1) := by decide +kernel
theorem dM_bar_47 : decode mM_bar.2.1 47 = .ok (.iload_n 2, 1) := by decide +kernel
theorem dM_bar_48 : decode mM_bar.2.1 48 = .ok (.if_icmp .eq 23, 3) := by decide +kernel
theorem dM_bar_51 : decode mM_bar.2.1 51 = .ok (.aload_n 0, 1) := by decide +kernel
theorem dM_bar_52 : decode mM_bar.2.1 52 = .ok (.getfield 54, 3) := by decide +kernel
theorem dM_bar_55 : decode mM_bar.2.1 55 = .ok (.iload_n 3, 1) := by decide +kernel
theorem dM_bar_56 : decode mM_bar.2.1 56 = .ok (.iaload, 1) := by decide +kernel
theorem dM_bar_57 : decode mM_bar.2.1 57 = .ok (.iload_n 2, 1) := by decide +kernel
theorem dM_bar_58 : decode mM_bar.2.1 58 = .ok (.if_icmp .ne 16, 3) := by decide +kernel
theorem dM_bar_61 : decode mM_bar.2.1 61 = .ok (.aload_n 0, 1) := by decide +kernel
theorem dM_bar_62 : decode mM_bar.2.1 62 = .ok (.getfield 57, 3) := by decide +kernel
theorem dM_bar_65 : decode mM_bar.2.1 65 = .ok (.iload_n 3, 1) := by decide +kernel
theorem dM_bar_66 : decode mM_bar.2.1 66 = .ok (.iaload, 1) := by decide +kernel
theorem dM_bar_67 : decode mM_bar.2.1 67 = .ok (.iload_n 1, 1) := by decide +kernel
theorem dM_bar_68 : decode mM_bar.2.1 68 = .ok (.if_icmp .ne 6, 3) := by decide +kernel
theorem dM_bar_71 : decode mM_bar.2.1 71 = .ok (.bipush (-3), 2) := by decide +kernel
theorem dM_bar_73 : decode mM_bar.2.1 73 = .ok (.ireturn, 1) := by decide +kernel
theorem dM_bar_74 : decode mM_bar.2.1 74 = .ok (.iinc 3 1, 3) := by decide +kernel
theorem dM_bar_77 : decode mM_bar.2.1 77 = .ok (.goto (-54), 3) := by decide +kernel
theorem dM_bar_80 : decode mM_bar.2.1 80 = .ok (.aload_n 0, 1) := by decide +kernel
theorem dM_bar_81 : decode mM_bar.2.1 81 = .ok (.getfield 120, 3) := by decide +kernel
theorem dM_bar_84 : decode mM_bar.2.1 84 = .ok (.bipush 6, 2) := by decide +kernel
theorem dM_bar_86 : decode mM_bar.2.1 86 = .ok (.if_icmp .ne 6, 3) := by decide +kernel
theorem dM_bar_89 : decode mM_bar.2.1 89 = .ok (.bipush (-2), 2) := by decide +kernel
theorem dM_bar_91 : decode mM_bar.2.1 91 = .ok (.ireturn, 1) := by decide +kernel
theorem dM_bar_92 : decode mM_bar.2.1 92 = .ok (.aload_n 0, 1) := by decide +kernel
theorem dM_bar_93 : decode mM_bar.2.1 93 = .ok (.getfield 54, 3) := by decide +kernel
theorem dM_bar_96 : decode mM_bar.2.1 96 = .ok (.aload_n 0, 1) := by decide +kernel
theorem dM_bar_97 : decode mM_bar.2.1 97 = .ok (.getfield 120, 3) := by decide +kernel
theorem dM_bar_100 : decode mM_bar.2.1 100 = .ok (.iload_n 1, 1) := by decide +kernel
theorem dM_bar_101 : decode mM_bar.2.1 101 = .ok (.iastore, 1) := by decide +kernel
theorem dM_bar_102 : decode mM_bar.2.1 102 = .ok (.aload_n 0, 1) := by decide +kernel
theorem dM_bar_103 : decode mM_bar.2.1 103 = .ok (.getfield 57, 3) := by decide +kernel
theorem dM_bar_106 : decode mM_bar.2.1 106 = .ok (.aload_n 0, 1) := by decide +kernel
theorem dM_bar_107 : decode mM_bar.2.1 107 = .ok (.getfield 120, 3) := by decide +kernel
theorem dM_bar_110 : decode mM_bar.2.1 110 = .ok (.iload_n 2, 1) := by decide +kernel
theorem dM_bar_111 : decode mM_bar.2.1 111 = .ok (.iastore, 1) := by decide +kernel
theorem dM_bar_112 : decode mM_bar.2.1 112 = .ok (.aload_n 0, 1) := by decide +kernel
theorem dM_bar_113 : decode mM_bar.2.1 113 = .ok (.dup, 1) := by decide +kernel
theorem dM_bar_114 : decode mM_bar.2.1 114 = .ok (.getfield 120, 3) := by decide +kernel
theorem dM_bar_117 : decode mM_bar.2.1 117 = .ok (.iconst 1, 1) := by decide +kernel
theorem dM_bar_118 : decode mM_bar.2.1 118 = .ok (.iadd, 1) := by decide +kernel
theorem dM_bar_119 : decode mM_bar.2.1 119 = .ok (.putfield 120, 3) := by decide +kernel
theorem dM_bar_122 : decode mM_bar.2.1 122 = .ok (.aload_n 0, 1) := by decide +kernel
theorem dM_bar_123 : decode mM_bar.2.1 123 = .ok (.getfield 120, 3) := by decide +kernel
theorem dM_bar_126 : decode mM_bar.2.1 126 = .ok (.ireturn, 1) := by decide +kernel
theorem dJ_fill_0 : decode mJ_fill.2.1 0 = .ok (.iconst 0, 1) := by decide +kernel
theorem dJ_fill_1 : decode mJ_fill.2.1 1 = .ok (.istore_n 2, 1) := by decide +kernel
theorem dJ_fill_2 : decode mJ_fill.2.1 2 = .ok (.aload_n 0, 1) := by decide +kernel
theorem dJ_fill_3 : decode mJ_fill.2.1 3 = .ok (.arraylength, 1) := by decide +kernel
theorem dJ_fill_4 : decode mJ_fill.2.1 4 = .ok (.istore_n 3, 1) := by decide +kernel
theorem dJ_fill_5 : decode mJ_fill.2.1 5 = .ok (.iload_n 2, 1) := by decide +kernel
theorem dJ_fill_6 : decode mJ_fill.2.1 6 = .ok (.iload_n 3, 1) := by decide +kernel
theorem dJ_fill_7 : decode mJ_fill.2.1 7 = .ok (.if_icmp .ge 13, 3) := by decide +kernel
theorem dJ_fill_10 : decode mJ_fill.2.1 10 = .ok (.aload_n 0, 1) := by decide +kernel
theorem dJ_fill_11 : decode mJ_fill.2.1 11 = .ok (.iload_n 2, 1) := by decide +kernel
theorem dJ_fill_12 : decode mJ_fill.2.1 12 = .ok (.iload_n 1, 1) := by decide +kernel
theorem dJ_fill_13 : decode mJ_fill.2.1 13 = .ok (.iastore, 1) := by decide +kernel
theorem dJ_fill_14 : decode mJ_fill.2.1 14 = .ok (.iinc 2 1, 3) := by decide +kernel
theorem dJ_fill_17 : decode mJ_fill.2.1 17 = .ok (.goto (-12), 3) := by decide +kernel
theorem dJ_fill_20 : decode mJ_fill.2.1 20 = .ok (.return_, 1) := by decide +kernel
theorem dT_freeBars_0 : decode mT_freeBars.2.1 0 = .ok (.aload_n 0, 1) := by decide +kernel
theorem dT_freeBars_1 : decode mT_freeBars.2.1 1 = .ok (.getfield 24, 3) := by decide +kernel
theorem dT_freeBars_4 : decode mT_freeBars.2.1 4 = .ok (.istore_n 1, 1) := by decide +kernel
theorem dT_freeBars_5 : decode mT_freeBars.2.1 5 = .ok (.aload_n 0, 1) := by decide +kernel
theorem dT_freeBars_6 : decode mT_freeBars.2.1 6 = .ok (.getfield 34, 3) := by decide +kernel
theorem dT_freeBars_9 : decode mT_freeBars.2.1 9 = .ok (.iconst 0, 1) := by decide +kernel
theorem dT_freeBars_10 : decode mT_freeBars.2.1 10 = .ok (.invokestatic 63, 3) := by decide +kernel
theorem dT_freeBars_13 : decode mT_freeBars.2.1 13 = .ok (.aload_n 0, 1) := by decide +kernel
theorem dT_freeBars_14 : decode mT_freeBars.2.1 14 = .ok (.iconst 0, 1) := by decide +kernel
theorem dT_freeBars_15 : decode mT_freeBars.2.1 15 = .ok (.putfield 24, 3) := by decide +kernel
theorem dT_freeBars_18 : decode mT_freeBars.2.1 18 = .ok (.iload_n 1, 1) := by decide +kernel
theorem dT_freeBars_19 : decode mT_freeBars.2.1 19 = .ok (.ireturn, 1) := by decide +kernel
theorem dX_free_0 : decode mX_free.2.1 0 = .ok (.aload_n 0, 1) := by decide +kernel
theorem dX_free_1 : decode mX_free.2.1 1 = .ok (.getfield 24, 3) := by decide +kernel
theorem dX_free_4 : decode mX_free.2.1 4 = .ok (.invokevirtual 49, 3) := by decide +kernel
theorem dX_free_7 : decode mX_free.2.1 7 = .ok (.aload_n 0, 1) := by decide +kernel
theorem dX_free_8 : decode mX_free.2.1 8 = .ok (.getfield 12, 3) := by decide +kernel
theorem dX_free_11 : decode mX_free.2.1 11 = .ok (.invokevirtual 114, 3) := by decide +kernel
theorem dX_free_14 : decode mX_free.2.1 14 = .ok (.ireturn, 1) := by decide +kernel
theorem dM_free_0 : decode mM_free.2.1 0 = .ok (.aload_n 0, 1) := by decide +kernel
theorem dM_free_1 : decode mM_free.2.1 1 = .ok (.getfield 120, 3) := by decide +kernel
theorem dM_free_4 : decode mM_free.2.1 4 = .ok (.istore_n 1, 1) := by decide +kernel
theorem dM_free_5 : decode mM_free.2.1 5 = .ok (.aload_n 0, 1) := by decide +kernel
theorem dM_free_6 : decode mM_free.2.1 6 = .ok (.iconst 0, 1) := by decide +kernel
theorem dM_free_7 : decode mM_free.2.1 7 = .ok (.putfield 120, 3) := by decide +kernel
theorem dM_free_10 : decode mM_free.2.1 10 = .ok (.iload_n 1, 1) := by decide +kernel
theorem dM_free_11 : decode mM_free.2.1 11 = .ok (.ireturn, 1) := by decide +kernel
theorem dX_of_0 : decode mX_of.2.1 0 = .ok (.aload_n 0, 1) := by decide +kernel
theorem dX_of_1 : decode mX_of.2.1 1 = .ok (.getfield 12, 3) := by decide +kernel
theorem dX_of_4 : decode mX_of.2.1 4 = .ok (.iload_n 1, 1) := by decide +kernel
theorem dX_of_5 : decode mX_of.2.1 5 = .ok (.invokevirtual 67, 3) := by decide +kernel
theorem dX_of_8 : decode mX_of.2.1 8 = .ok (.ifCond .eq 13, 3) := by decide +kernel
theorem dX_of_11 : decode mX_of.2.1 11 = .ok (.iload_n 2, 1) := by decide +kernel
theorem dX_of_12 : decode mX_of.2.1 12 = .ok (.iconst 0, 1) := by decide +kernel
theorem dX_of_13 : decode mX_of.2.1 13 = .ok (.bipush 15, 2) := by decide +kernel
theorem dX_of_15 : decode mX_of.2.1 15 = .ok (.invokestatic 41, 3) := by decide +kernel
theorem dX_of_18 : decode mX_of.2.1 18 = .ok (.ifCond .ne 7, 3) := by decide +kernel
theorem dX_of_21 : decode mX_of.2.1 21 = .ok (.sipush (-1000), 3) := by decide +kernel
theorem dX_of_24 : decode mX_of.2.1 24 = .ok (.ireturn, 1) := by decide +kernel
theorem dX_of_25 : decode mX_of.2.1 25 = .ok (.iload_n 2, 1) := by decide +kernel
theorem dX_of_26 : decode mX_of.2.1 26 = .ok (.bipush 8, 2) := by decide +kernel
theorem dX_of_28 : decode mX_of.2.1 28 = .ok (.if_icmp .lt 16, 3) := by decide +kernel
theorem dX_of_31 : decode mX_of.2.1 31 = .ok (.aload_n 0, 1) := by decide +kernel
theorem dX_of_32 : decode mX_of.2.1 32 = .ok (.getfield 12, 3) := by decide +kernel
theorem dX_of_35 : decode mX_of.2.1 35 = .ok (.iload_n 1, 1) := by decide +kernel
theorem dX_of_36 : decode mX_of.2.1 36 = .ok (.iload_n 2, 1) := by decide +kernel
theorem dX_of_37 : decode mX_of.2.1 37 = .ok (.bipush 8, 2) := by decide +kernel
theorem dX_of_39 : decode mX_of.2.1 39 = .ok (.isub, 1) := by decide +kernel
theorem dX_of_40 : decode mX_of.2.1 40 = .ok (.invokevirtual 74, 3) := by decide +kernel
theorem dX_of_43 : decode mX_of.2.1 43 = .ok (.ireturn, 1) := by decide +kernel
theorem dX_of_44 : decode mX_of.2.1 44 = .ok (.aload_n 0, 1) := by decide +kernel
theorem dX_of_45 : decode mX_of.2.1 45 = .ok (.getfield 12, 3) := by decide +kernel
theorem dX_of_48 : decode mX_of.2.1 48 = .ok (.iload_n 1, 1) := by decide +kernel
theorem dX_of_49 : decode mX_of.2.1 49 = .ok (.iload_n 2, 1) := by decide +kernel
theorem dX_of_50 : decode mX_of.2.1 50 = .ok (.invokevirtual 88, 3) := by decide +kernel
theorem dX_of_53 : decode mX_of.2.1 53 = .ok (.ireturn, 1) := by decide +kernel
theorem dM_rowOf_0 : decode mM_rowOf.2.1 0 = .ok (.iload_n 1, 1) := by decide +kernel
theorem dM_rowOf_1 : decode mM_rowOf.2.1 1 = .ok (.aload_n 0, 1) := by decide +kernel
theorem dM_rowOf_2 : decode mM_rowOf.2.1 2 = .ok (.getfield 26, 3) := by decide +kernel
theorem dM_rowOf_5 : decode mM_rowOf.2.1 5 = .ok (.aload_n 0, 1) := by decide +kernel
theorem dM_rowOf_6 : decode mM_rowOf.2.1 6 = .ok (.getfield 33, 3) := by decide +kernel
theorem dM_rowOf_9 : decode mM_rowOf.2.1 9 = .ok (.iload_n 1, 1) := by decide +kernel
theorem dM_rowOf_10 : decode mM_rowOf.2.1 10 = .ok (.iaload, 1) := by decide +kernel
theorem dM_rowOf_11 : decode mM_rowOf.2.1 11 = .ok (.iaload, 1) := by decide +kernel
theorem dM_rowOf_12 : decode mM_rowOf.2.1 12 = .ok (.isub, 1) := by decide +kernel
theorem dM_rowOf_13 : decode mM_rowOf.2.1 13 = .ok (.aload_n 0, 1) := by decide +kernel
theorem dM_rowOf_14 : decode mM_rowOf.2.1 14 = .ok (.getfield 20, 3) := by decide +kernel
theorem dM_rowOf_17 : decode mM_rowOf.2.1 17 = .ok (.aload_n 0, 1) := by decide +kernel
theorem dM_rowOf_18 : decode mM_rowOf.2.1 18 = .ok (.getfield 33, 3) := by decide +kernel
theorem dM_rowOf_21 : decode mM_rowOf.2.1 21 = .ok (.iload_n 1, 1) := by decide +kernel
theorem dM_rowOf_22 : decode mM_rowOf.2.1 22 = .ok (.iaload, 1) := by decide +kernel
theorem dM_rowOf_23 : decode mM_rowOf.2.1 23 = .ok (.iaload, 1) := by decide +kernel
theorem dM_rowOf_24 : decode mM_rowOf.2.1 24 = .ok (.idiv, 1) := by decide +kernel
theorem dM_rowOf_25 : decode mM_rowOf.2.1 25 = .ok (.ireturn, 1) := by decide +kernel
theorem dM_columnOf_0 : decode mM_columnOf.2.1 0 = .ok (.iload_n 1, 1) := by decide +kernel
theorem dM_columnOf_1 : decode mM_columnOf.2.1 1 = .ok (.aload_n 0, 1) := by decide +kernel
theorem dM_columnOf_2 : decode mM_columnOf.2.1 2 = .ok (.getfield 26, 3) := by decide +kernel
theorem dM_columnOf_5 : decode mM_columnOf.2.1 5 = .ok (.aload_n 0, 1) := by decide +kernel
theorem dM_columnOf_6 : decode mM_columnOf.2.1 6 = .ok (.getfield 33, 3) := by decide +kernel
theorem dM_columnOf_9 : decode mM_columnOf.2.1 9 = .ok (.iload_n 1, 1) := by decide +kernel
theorem dM_columnOf_10 : decode mM_columnOf.2.1 10 = .ok (.iaload, 1) := by decide +kernel
theorem dM_columnOf_11 : decode mM_columnOf.2.1 11 = .ok (.iaload, 1) := by decide +kernel
theorem dM_columnOf_12 : decode mM_columnOf.2.1 12 = .ok (.isub, 1) := by decide +kernel
theorem dM_columnOf_13 : decode mM_columnOf.2.1 13 = .ok (.aload_n 0, 1) := by decide +kernel
theorem dM_columnOf_14 : decode mM_columnOf.2.1 14 = .ok (.getfield 20, 3) := by decide +kernel
theorem dM_columnOf_17 : decode mM_columnOf.2.1 17 = .ok (.aload_n 0, 1) := by decide +kernel
theorem dM_columnOf_18 : decode mM_columnOf.2.1 18 = .ok (.getfield 33, 3) := by decide +kernel
theorem dM_columnOf_21 : decode mM_columnOf.2.1 21 = .ok (.iload_n 1, 1) := by decide +kernel
theorem dM_columnOf_22 : decode mM_columnOf.2.1 22 = .ok (.iaload, 1) := by decide +kernel
theorem dM_columnOf_23 : decode mM_columnOf.2.1 23 = .ok (.iaload, 1) := by decide +kernel
theorem dM_columnOf_24 : decode mM_columnOf.2.1 24 = .ok (.irem, 1) := by decide +kernel
theorem dM_columnOf_25 : decode mM_columnOf.2.1 25 = .ok (.ireturn, 1) := by decide +kernel
theorem dM_of_0 : decode mM_of.2.1 0 = .ok (.aload_n 0, 1) := by decide +kernel
theorem dM_of_1 : decode mM_of.2.1 1 = .ok (.iload_n 1, 1) := by decide +kernel
theorem dM_of_2 : decode mM_of.2.1 2 = .ok (.invokevirtual 110, 3) := by decide +kernel
theorem dM_of_5 : decode mM_of.2.1 5 = .ok (.ifCond .eq 13, 3) := by decide +kernel
theorem dM_of_8 : decode mM_of.2.1 8 = .ok (.iload_n 2, 1) := by decide +kernel
theorem dM_of_9 : decode mM_of.2.1 9 = .ok (.iconst 0, 1) := by decide +kernel
theorem dM_of_10 : decode mM_of.2.1 10 = .ok (.bipush 15, 2) := by decide +kernel
theorem dM_of_12 : decode mM_of.2.1 12 = .ok (.invokestatic 99, 3) := by decide +kernel
theorem dM_of_15 : decode mM_of.2.1 15 = .ok (.ifCond .ne 7, 3) := by decide +kernel
theorem dM_of_18 : decode mM_of.2.1 18 = .ok (.sipush (-1000), 3) := by decide +kernel
theorem dM_of_21 : decode mM_of.2.1 21 = .ok (.ireturn, 1) := by decide +kernel
theorem dM_of_22 : decode mM_of.2.1 22 = .ok (.iload_n 2, 1) := by decide +kernel
theorem dM_of_23 : decode mM_of.2.1 23 = .ok (.tableswitch 99 0 7 #[45, 52, 58, 64, 71, 78, 85, 92], 45) := by decide +kernel
theorem dM_of_68 : decode mM_of.2.1 68 = .ok (.aload_n 0, 1) := by decide +kernel
theorem dM_of_69 : decode mM_of.2.1 69 = .ok (.getfield 33, 3) := by decide +kernel
theorem dM_of_72 : decode mM_of.2.1 72 = .ok (.iload_n 1, 1) := by decide +kernel
theorem dM_of_73 : decode mM_of.2.1 73 = .ok (.iaload, 1) := by decide +kernel
theorem dM_of_74 : decode mM_of.2.1 74 = .ok (.ireturn, 1) := by decide +kernel
theorem dM_of_75 : decode mM_of.2.1 75 = .ok (.aload_n 0, 1) := by decide +kernel
theorem dM_of_76 : decode mM_of.2.1 76 = .ok (.iload_n 1, 1) := by decide +kernel
theorem dM_of_77 : decode mM_of.2.1 77 = .ok (.invokevirtual 123, 3) := by decide +kernel
theorem dM_of_80 : decode mM_of.2.1 80 = .ok (.ireturn, 1) := by decide +kernel
theorem dM_of_81 : decode mM_of.2.1 81 = .ok (.aload_n 0, 1) := by decide +kernel
theorem dM_of_82 : decode mM_of.2.1 82 = .ok (.iload_n 1, 1) := by decide +kernel
theorem dM_of_83 : decode mM_of.2.1 83 = .ok (.invokevirtual 127, 3) := by decide +kernel
theorem dM_of_86 : decode mM_of.2.1 86 = .ok (.ireturn, 1) := by decide +kernel
theorem dM_of_87 : decode mM_of.2.1 87 = .ok (.aload_n 0, 1) := by decide +kernel
theorem dM_of_88 : decode mM_of.2.1 88 = .ok (.getfield 39, 3) := by decide +kernel
theorem dM_of_91 : decode mM_of.2.1 91 = .ok (.iload_n 1, 1) := by decide +kernel
theorem dM_of_92 : decode mM_of.2.1 92 = .ok (.iaload, 1) := by decide +kernel
theorem dM_of_93 : decode mM_of.2.1 93 = .ok (.ireturn, 1) := by decide +kernel
theorem dM_of_94 : decode mM_of.2.1 94 = .ok (.aload_n 0, 1) := by decide +kernel
