/-! what each instruction is, by a program of mine -/
theorem dM_fits_146 : decode mM_fits.2.1 146 = .ok (.iaload, 1) := by decide +kernel
theorem dM_fits_147 : decode mM_fits.2.1 147 = .ok (.iadd, 1) := by decide +kernel
theorem dM_fits_148 : decode mM_fits.2.1 148 = .ok (.aload_n 0, 1) := by decide +kernel
theorem dM_fits_149 : decode mM_fits.2.1 149 = .ok (.getfield 13, 3) := by decide +kernel
theorem dM_fits_152 : decode mM_fits.2.1 152 = .ok (.if_icmp .ne 7, 3) := by decide +kernel
theorem dM_fits_155 : decode mM_fits.2.1 155 = .ok (.iconst 1, 1) := by decide +kernel
theorem dM_fits_156 : decode mM_fits.2.1 156 = .ok (.goto 4, 3) := by decide +kernel
theorem dM_fits_159 : decode mM_fits.2.1 159 = .ok (.iconst 0, 1) := by decide +kernel
theorem dM_fits_160 : decode mM_fits.2.1 160 = .ok (.istore 5, 2) := by decide +kernel
theorem dM_fits_162 : decode mM_fits.2.1 162 = .ok (.aload_n 0, 1) := by decide +kernel
theorem dM_fits_163 : decode mM_fits.2.1 163 = .ok (.getfield 26, 3) := by decide +kernel
theorem dM_fits_166 : decode mM_fits.2.1 166 = .ok (.iload_n 1, 1) := by decide +kernel
theorem dM_fits_167 : decode mM_fits.2.1 167 = .ok (.iaload, 1) := by decide +kernel
theorem dM_fits_168 : decode mM_fits.2.1 168 = .ok (.istore 6, 2) := by decide +kernel
theorem dM_fits_170 : decode mM_fits.2.1 170 = .ok (.iload 6, 2) := by decide +kernel
theorem dM_fits_172 : decode mM_fits.2.1 172 = .ok (.aload_n 0, 1) := by decide +kernel
theorem dM_fits_173 : decode mM_fits.2.1 173 = .ok (.getfield 26, 3) := by decide +kernel
theorem dM_fits_176 : decode mM_fits.2.1 176 = .ok (.iload_n 1, 1) := by decide +kernel
theorem dM_fits_177 : decode mM_fits.2.1 177 = .ok (.iaload, 1) := by decide +kernel
theorem dM_fits_178 : decode mM_fits.2.1 178 = .ok (.aload_n 0, 1) := by decide +kernel
theorem dM_fits_179 : decode mM_fits.2.1 179 = .ok (.iload_n 1, 1) := by decide +kernel
theorem dM_fits_180 : decode mM_fits.2.1 180 = .ok (.invokevirtual 130, 3) := by decide +kernel
theorem dM_fits_183 : decode mM_fits.2.1 183 = .ok (.iadd, 1) := by decide +kernel
theorem dM_fits_184 : decode mM_fits.2.1 184 = .ok (.if_icmp .ge 78, 3) := by decide +kernel
theorem dM_fits_187 : decode mM_fits.2.1 187 = .ok (.iload 5, 2) := by decide +kernel
theorem dM_fits_189 : decode mM_fits.2.1 189 = .ok (.ifCond .eq 64, 3) := by decide +kernel
theorem dM_fits_192 : decode mM_fits.2.1 192 = .ok (.aload_n 0, 1) := by decide +kernel
theorem dM_fits_193 : decode mM_fits.2.1 193 = .ok (.getfield 39, 3) := by decide +kernel
theorem dM_fits_196 : decode mM_fits.2.1 196 = .ok (.iload 6, 2) := by decide +kernel
theorem dM_fits_198 : decode mM_fits.2.1 198 = .ok (.iaload, 1) := by decide +kernel
theorem dM_fits_199 : decode mM_fits.2.1 199 = .ok (.ifCond .lt 21, 3) := by decide +kernel
theorem dM_fits_202 : decode mM_fits.2.1 202 = .ok (.aload_n 0, 1) := by decide +kernel
theorem dM_fits_203 : decode mM_fits.2.1 203 = .ok (.getfield 39, 3) := by decide +kernel
theorem dM_fits_206 : decode mM_fits.2.1 206 = .ok (.iload 6, 2) := by decide +kernel
theorem dM_fits_208 : decode mM_fits.2.1 208 = .ok (.iaload, 1) := by decide +kernel
theorem dM_fits_209 : decode mM_fits.2.1 209 = .ok (.iload_n 3, 1) := by decide +kernel
theorem dM_fits_210 : decode mM_fits.2.1 210 = .ok (.aload_n 0, 1) := by decide +kernel
theorem dM_fits_211 : decode mM_fits.2.1 211 = .ok (.iload 6, 2) := by decide +kernel
theorem dM_fits_213 : decode mM_fits.2.1 213 = .ok (.invokevirtual 123, 3) := by decide +kernel
theorem dM_fits_216 : decode mM_fits.2.1 216 = .ok (.iadd, 1) := by decide +kernel
theorem dM_fits_217 : decode mM_fits.2.1 217 = .ok (.if_icmp .ne 36, 3) := by decide +kernel
theorem dM_fits_220 : decode mM_fits.2.1 220 = .ok (.aload_n 0, 1) := by decide +kernel
theorem dM_fits_221 : decode mM_fits.2.1 221 = .ok (.getfield 42, 3) := by decide +kernel
theorem dM_fits_224 : decode mM_fits.2.1 224 = .ok (.iload 6, 2) := by decide +kernel
theorem dM_fits_226 : decode mM_fits.2.1 226 = .ok (.iaload, 1) := by decide +kernel
theorem dM_fits_227 : decode mM_fits.2.1 227 = .ok (.ifCond .lt 22, 3) := by decide +kernel
theorem dM_fits_230 : decode mM_fits.2.1 230 = .ok (.aload_n 0, 1) := by decide +kernel
theorem dM_fits_231 : decode mM_fits.2.1 231 = .ok (.getfield 42, 3) := by decide +kernel
theorem dM_fits_234 : decode mM_fits.2.1 234 = .ok (.iload 6, 2) := by decide +kernel
theorem dM_fits_236 : decode mM_fits.2.1 236 = .ok (.iaload, 1) := by decide +kernel
theorem dM_fits_237 : decode mM_fits.2.1 237 = .ok (.iload 4, 2) := by decide +kernel
theorem dM_fits_239 : decode mM_fits.2.1 239 = .ok (.aload_n 0, 1) := by decide +kernel
theorem dM_fits_240 : decode mM_fits.2.1 240 = .ok (.iload 6, 2) := by decide +kernel
theorem dM_fits_242 : decode mM_fits.2.1 242 = .ok (.invokevirtual 127, 3) := by decide +kernel
theorem dM_fits_245 : decode mM_fits.2.1 245 = .ok (.iadd, 1) := by decide +kernel
theorem dM_fits_246 : decode mM_fits.2.1 246 = .ok (.if_icmp .ne 7, 3) := by decide +kernel
theorem dM_fits_249 : decode mM_fits.2.1 249 = .ok (.iconst 1, 1) := by decide +kernel
theorem dM_fits_250 : decode mM_fits.2.1 250 = .ok (.goto 4, 3) := by decide +kernel
theorem dM_fits_253 : decode mM_fits.2.1 253 = .ok (.iconst 0, 1) := by decide +kernel
theorem dM_fits_254 : decode mM_fits.2.1 254 = .ok (.istore 5, 2) := by decide +kernel
theorem dM_fits_256 : decode mM_fits.2.1 256 = .ok (.iinc 6 1, 3) := by decide +kernel
theorem dM_fits_259 : decode mM_fits.2.1 259 = .ok (.goto (-89), 3) := by decide +kernel
theorem dM_fits_262 : decode mM_fits.2.1 262 = .ok (.iload 5, 2) := by decide +kernel
theorem dM_fits_264 : decode mM_fits.2.1 264 = .ok (.ireturn, 1) := by decide +kernel
theorem dM_spot_0 : decode mM_spot.2.1 0 = .ok (.iload_n 2, 1) := by decide +kernel
theorem dM_spot_1 : decode mM_spot.2.1 1 = .ok (.aload_n 0, 1) := by decide +kernel
theorem dM_spot_2 : decode mM_spot.2.1 2 = .ok (.iload_n 1, 1) := by decide +kernel
theorem dM_spot_3 : decode mM_spot.2.1 3 = .ok (.invokevirtual 123, 3) := by decide +kernel
theorem dM_spot_6 : decode mM_spot.2.1 6 = .ok (.aload_n 0, 1) := by decide +kernel
theorem dM_spot_7 : decode mM_spot.2.1 7 = .ok (.getfield 13, 3) := by decide +kernel
theorem dM_spot_10 : decode mM_spot.2.1 10 = .ok (.imul, 1) := by decide +kernel
theorem dM_spot_11 : decode mM_spot.2.1 11 = .ok (.iadd, 1) := by decide +kernel
theorem dM_spot_12 : decode mM_spot.2.1 12 = .ok (.aload_n 0, 1) := by decide +kernel
theorem dM_spot_13 : decode mM_spot.2.1 13 = .ok (.iload_n 1, 1) := by decide +kernel
theorem dM_spot_14 : decode mM_spot.2.1 14 = .ok (.invokevirtual 127, 3) := by decide +kernel
theorem dM_spot_17 : decode mM_spot.2.1 17 = .ok (.iadd, 1) := by decide +kernel
theorem dM_spot_18 : decode mM_spot.2.1 18 = .ok (.ireturn, 1) := by decide +kernel
theorem dM_quarrelOf_0 : decode mM_quarrelOf.2.1 0 = .ok (.iconst 0, 1) := by decide +kernel
theorem dM_quarrelOf_1 : decode mM_quarrelOf.2.1 1 = .ok (.istore 5, 2) := by decide +kernel
theorem dM_quarrelOf_3 : decode mM_quarrelOf.2.1 3 = .ok (.aload_n 0, 1) := by decide +kernel
theorem dM_quarrelOf_4 : decode mM_quarrelOf.2.1 4 = .ok (.getfield 26, 3) := by decide +kernel
theorem dM_quarrelOf_7 : decode mM_quarrelOf.2.1 7 = .ok (.iload_n 1, 1) := by decide +kernel
theorem dM_quarrelOf_8 : decode mM_quarrelOf.2.1 8 = .ok (.iaload, 1) := by decide +kernel
theorem dM_quarrelOf_9 : decode mM_quarrelOf.2.1 9 = .ok (.istore 6, 2) := by decide +kernel
theorem dM_quarrelOf_11 : decode mM_quarrelOf.2.1 11 = .ok (.iload 6, 2) := by decide +kernel
theorem dM_quarrelOf_13 : decode mM_quarrelOf.2.1 13 = .ok (.aload_n 0, 1) := by decide +kernel
theorem dM_quarrelOf_14 : decode mM_quarrelOf.2.1 14 = .ok (.getfield 26, 3) := by decide +kernel
theorem dM_quarrelOf_17 : decode mM_quarrelOf.2.1 17 = .ok (.iload_n 1, 1) := by decide +kernel
theorem dM_quarrelOf_18 : decode mM_quarrelOf.2.1 18 = .ok (.iaload, 1) := by decide +kernel
theorem dM_quarrelOf_19 : decode mM_quarrelOf.2.1 19 = .ok (.aload_n 0, 1) := by decide +kernel
theorem dM_quarrelOf_20 : decode mM_quarrelOf.2.1 20 = .ok (.iload_n 1, 1) := by decide +kernel
theorem dM_quarrelOf_21 : decode mM_quarrelOf.2.1 21 = .ok (.invokevirtual 130, 3) := by decide +kernel
theorem dM_quarrelOf_24 : decode mM_quarrelOf.2.1 24 = .ok (.iadd, 1) := by decide +kernel
theorem dM_quarrelOf_25 : decode mM_quarrelOf.2.1 25 = .ok (.if_icmp .ge 115, 3) := by decide +kernel
theorem dM_quarrelOf_28 : decode mM_quarrelOf.2.1 28 = .ok (.aload_n 0, 1) := by decide +kernel
theorem dM_quarrelOf_29 : decode mM_quarrelOf.2.1 29 = .ok (.getfield 26, 3) := by decide +kernel
theorem dM_quarrelOf_32 : decode mM_quarrelOf.2.1 32 = .ok (.iload_n 3, 1) := by decide +kernel
theorem dM_quarrelOf_33 : decode mM_quarrelOf.2.1 33 = .ok (.iaload, 1) := by decide +kernel
theorem dM_quarrelOf_34 : decode mM_quarrelOf.2.1 34 = .ok (.istore 7, 2) := by decide +kernel
theorem dM_quarrelOf_36 : decode mM_quarrelOf.2.1 36 = .ok (.iload 7, 2) := by decide +kernel
theorem dM_quarrelOf_38 : decode mM_quarrelOf.2.1 38 = .ok (.aload_n 0, 1) := by decide +kernel
theorem dM_quarrelOf_39 : decode mM_quarrelOf.2.1 39 = .ok (.getfield 26, 3) := by decide +kernel
theorem dM_quarrelOf_42 : decode mM_quarrelOf.2.1 42 = .ok (.iload_n 3, 1) := by decide +kernel
theorem dM_quarrelOf_43 : decode mM_quarrelOf.2.1 43 = .ok (.iaload, 1) := by decide +kernel
theorem dM_quarrelOf_44 : decode mM_quarrelOf.2.1 44 = .ok (.aload_n 0, 1) := by decide +kernel
theorem dM_quarrelOf_45 : decode mM_quarrelOf.2.1 45 = .ok (.iload_n 3, 1) := by decide +kernel
theorem dM_quarrelOf_46 : decode mM_quarrelOf.2.1 46 = .ok (.invokevirtual 130, 3) := by decide +kernel
theorem dM_quarrelOf_49 : decode mM_quarrelOf.2.1 49 = .ok (.iadd, 1) := by decide +kernel
theorem dM_quarrelOf_50 : decode mM_quarrelOf.2.1 50 = .ok (.if_icmp .ge 84, 3) := by decide +kernel
theorem dM_quarrelOf_53 : decode mM_quarrelOf.2.1 53 = .ok (.iconst 0, 1) := by decide +kernel
theorem dM_quarrelOf_54 : decode mM_quarrelOf.2.1 54 = .ok (.istore 8, 2) := by decide +kernel
theorem dM_quarrelOf_56 : decode mM_quarrelOf.2.1 56 = .ok (.iload 8, 2) := by decide +kernel
theorem dM_quarrelOf_58 : decode mM_quarrelOf.2.1 58 = .ok (.bipush 8, 2) := by decide +kernel
theorem dM_quarrelOf_60 : decode mM_quarrelOf.2.1 60 = .ok (.if_icmp .ge 68, 3) := by decide +kernel
theorem dM_quarrelOf_63 : decode mM_quarrelOf.2.1 63 = .ok (.aload_n 0, 1) := by decide +kernel
theorem dM_quarrelOf_64 : decode mM_quarrelOf.2.1 64 = .ok (.iload 6, 2) := by decide +kernel
theorem dM_quarrelOf_66 : decode mM_quarrelOf.2.1 66 = .ok (.iload_n 2, 1) := by decide +kernel
theorem dM_quarrelOf_67 : decode mM_quarrelOf.2.1 67 = .ok (.invokevirtual 139, 3) := by decide +kernel
theorem dM_quarrelOf_70 : decode mM_quarrelOf.2.1 70 = .ok (.aload_n 0, 1) := by decide +kernel
theorem dM_quarrelOf_71 : decode mM_quarrelOf.2.1 71 = .ok (.iload 7, 2) := by decide +kernel
theorem dM_quarrelOf_73 : decode mM_quarrelOf.2.1 73 = .ok (.iload 4, 2) := by decide +kernel
theorem dM_quarrelOf_75 : decode mM_quarrelOf.2.1 75 = .ok (.invokevirtual 139, 3) := by decide +kernel
theorem dM_quarrelOf_78 : decode mM_quarrelOf.2.1 78 = .ok (.if_icmp .ne 50, 3) := by decide +kernel
theorem dM_quarrelOf_81 : decode mM_quarrelOf.2.1 81 = .ok (.iload 5, 2) := by decide +kernel
theorem dM_quarrelOf_83 : decode mM_quarrelOf.2.1 83 = .ok (.aload_n 0, 1) := by decide +kernel
theorem dM_quarrelOf_84 : decode mM_quarrelOf.2.1 84 = .ok (.getfield 36, 3) := by decide +kernel
theorem dM_quarrelOf_87 : decode mM_quarrelOf.2.1 87 = .ok (.bipush 8, 2) := by decide +kernel
theorem dM_quarrelOf_89 : decode mM_quarrelOf.2.1 89 = .ok (.iload 6, 2) := by decide +kernel
theorem dM_quarrelOf_91 : decode mM_quarrelOf.2.1 91 = .ok (.imul, 1) := by decide +kernel
theorem dM_quarrelOf_92 : decode mM_quarrelOf.2.1 92 = .ok (.iload 8, 2) := by decide +kernel
theorem dM_quarrelOf_94 : decode mM_quarrelOf.2.1 94 = .ok (.iadd, 1) := by decide +kernel
theorem dM_quarrelOf_95 : decode mM_quarrelOf.2.1 95 = .ok (.iaload, 1) := by decide +kernel
theorem dM_quarrelOf_96 : decode mM_quarrelOf.2.1 96 = .ok (.aload_n 0, 1) := by decide +kernel
theorem dM_quarrelOf_97 : decode mM_quarrelOf.2.1 97 = .ok (.getfield 36, 3) := by decide +kernel
theorem dM_quarrelOf_100 : decode mM_quarrelOf.2.1 100 = .ok (.bipush 8, 2) := by decide +kernel
theorem dM_quarrelOf_102 : decode mM_quarrelOf.2.1 102 = .ok (.iload 7, 2) := by decide +kernel
theorem dM_quarrelOf_104 : decode mM_quarrelOf.2.1 104 = .ok (.imul, 1) := by decide +kernel
theorem dM_quarrelOf_105 : decode mM_quarrelOf.2.1 105 = .ok (.iload 8, 2) := by decide +kernel
theorem dM_quarrelOf_107 : decode mM_quarrelOf.2.1 107 = .ok (.iadd, 1) := by decide +kernel
theorem dM_quarrelOf_108 : decode mM_quarrelOf.2.1 108 = .ok (.iaload, 1) := by decide +kernel
theorem dM_quarrelOf_109 : decode mM_quarrelOf.2.1 109 = .ok (.iadd, 1) := by decide +kernel
theorem dM_quarrelOf_110 : decode mM_quarrelOf.2.1 110 = .ok (.iconst 1, 1) := by decide +kernel
theorem dM_quarrelOf_111 : decode mM_quarrelOf.2.1 111 = .ok (.if_icmp .ne 7, 3) := by decide +kernel
theorem dM_quarrelOf_114 : decode mM_quarrelOf.2.1 114 = .ok (.iconst 1, 1) := by decide +kernel
theorem dM_quarrelOf_115 : decode mM_quarrelOf.2.1 115 = .ok (.goto 4, 3) := by decide +kernel
theorem dM_quarrelOf_118 : decode mM_quarrelOf.2.1 118 = .ok (.iconst 0, 1) := by decide +kernel
theorem dM_quarrelOf_119 : decode mM_quarrelOf.2.1 119 = .ok (.iadd, 1) := by decide +kernel
theorem dM_quarrelOf_120 : decode mM_quarrelOf.2.1 120 = .ok (.istore 5, 2) := by decide +kernel
theorem dM_quarrelOf_122 : decode mM_quarrelOf.2.1 122 = .ok (.iinc 8 1, 3) := by decide +kernel
theorem dM_quarrelOf_125 : decode mM_quarrelOf.2.1 125 = .ok (.goto (-69), 3) := by decide +kernel
theorem dM_quarrelOf_128 : decode mM_quarrelOf.2.1 128 = .ok (.iinc 7 1, 3) := by decide +kernel
theorem dM_quarrelOf_131 : decode mM_quarrelOf.2.1 131 = .ok (.goto (-95), 3) := by decide +kernel
theorem dM_quarrelOf_134 : decode mM_quarrelOf.2.1 134 = .ok (.iinc 6 1, 3) := by decide +kernel
theorem dM_quarrelOf_137 : decode mM_quarrelOf.2.1 137 = .ok (.goto (-126), 3) := by decide +kernel
theorem dM_quarrelOf_140 : decode mM_quarrelOf.2.1 140 = .ok (.iload 5, 2) := by decide +kernel
theorem dM_quarrelOf_142 : decode mM_quarrelOf.2.1 142 = .ok (.ireturn, 1) := by decide +kernel
theorem dM_prepare_0 : decode mM_prepare.2.1 0 = .ok (.aload_n 0, 1) := by decide +kernel
theorem dM_prepare_1 : decode mM_prepare.2.1 1 = .ok (.iconst 0, 1) := by decide +kernel
theorem dM_prepare_2 : decode mM_prepare.2.1 2 = .ok (.putfield 143, 3) := by decide +kernel
theorem dM_prepare_5 : decode mM_prepare.2.1 5 = .ok (.iconst 0, 1) := by decide +kernel
theorem dM_prepare_6 : decode mM_prepare.2.1 6 = .ok (.istore_n 1, 1) := by decide +kernel
theorem dM_prepare_7 : decode mM_prepare.2.1 7 = .ok (.iload_n 1, 1) := by decide +kernel
theorem dM_prepare_8 : decode mM_prepare.2.1 8 = .ok (.aload_n 0, 1) := by decide +kernel
theorem dM_prepare_9 : decode mM_prepare.2.1 9 = .ok (.getfield 103, 3) := by decide +kernel
theorem dM_prepare_12 : decode mM_prepare.2.1 12 = .ok (.if_icmp .ge 37, 3) := by decide +kernel
theorem dM_prepare_15 : decode mM_prepare.2.1 15 = .ok (.aload_n 0, 1) := by decide +kernel
theorem dM_prepare_16 : decode mM_prepare.2.1 16 = .ok (.iload_n 1, 1) := by decide +kernel
theorem dM_prepare_17 : decode mM_prepare.2.1 17 = .ok (.invokevirtual 136, 3) := by decide +kernel
theorem dM_prepare_20 : decode mM_prepare.2.1 20 = .ok (.ifCond .eq 23, 3) := by decide +kernel
theorem dM_prepare_23 : decode mM_prepare.2.1 23 = .ok (.aload_n 0, 1) := by decide +kernel
theorem dM_prepare_24 : decode mM_prepare.2.1 24 = .ok (.getfield 75, 3) := by decide +kernel
theorem dM_prepare_27 : decode mM_prepare.2.1 27 = .ok (.aload_n 0, 1) := by decide +kernel
theorem dM_prepare_28 : decode mM_prepare.2.1 28 = .ok (.getfield 143, 3) := by decide +kernel
theorem dM_prepare_31 : decode mM_prepare.2.1 31 = .ok (.iload_n 1, 1) := by decide +kernel
theorem dM_prepare_32 : decode mM_prepare.2.1 32 = .ok (.iastore, 1) := by decide +kernel
theorem dM_prepare_33 : decode mM_prepare.2.1 33 = .ok (.aload_n 0, 1) := by decide +kernel
theorem dM_prepare_34 : decode mM_prepare.2.1 34 = .ok (.dup, 1) := by decide +kernel
theorem dM_prepare_35 : decode mM_prepare.2.1 35 = .ok (.getfield 143, 3) := by decide +kernel
theorem dM_prepare_38 : decode mM_prepare.2.1 38 = .ok (.iconst 1, 1) := by decide +kernel
theorem dM_prepare_39 : decode mM_prepare.2.1 39 = .ok (.iadd, 1) := by decide +kernel
theorem dM_prepare_40 : decode mM_prepare.2.1 40 = .ok (.putfield 143, 3) := by decide +kernel
theorem dM_prepare_43 : decode mM_prepare.2.1 43 = .ok (.iinc 1 1, 3) := by decide +kernel
theorem dM_prepare_46 : decode mM_prepare.2.1 46 = .ok (.goto (-39), 3) := by decide +kernel
theorem dM_prepare_49 : decode mM_prepare.2.1 49 = .ok (.iconst 0, 1) := by decide +kernel
theorem dM_prepare_50 : decode mM_prepare.2.1 50 = .ok (.istore_n 1, 1) := by decide +kernel
theorem dM_prepare_51 : decode mM_prepare.2.1 51 = .ok (.iload_n 1, 1) := by decide +kernel
theorem dM_prepare_52 : decode mM_prepare.2.1 52 = .ok (.aload_n 0, 1) := by decide +kernel
theorem dM_prepare_53 : decode mM_prepare.2.1 53 = .ok (.getfield 143, 3) := by decide +kernel
theorem dM_prepare_56 : decode mM_prepare.2.1 56 = .ok (.if_icmp .ge 47, 3) := by decide +kernel
theorem dM_prepare_59 : decode mM_prepare.2.1 59 = .ok (.iconst 0, 1) := by decide +kernel
theorem dM_prepare_60 : decode mM_prepare.2.1 60 = .ok (.istore_n 2, 1) := by decide +kernel
theorem dM_prepare_61 : decode mM_prepare.2.1 61 = .ok (.iload_n 2, 1) := by decide +kernel
theorem dM_prepare_62 : decode mM_prepare.2.1 62 = .ok (.aload_n 0, 1) := by decide +kernel
theorem dM_prepare_63 : decode mM_prepare.2.1 63 = .ok (.invokevirtual 106, 3) := by decide +kernel
theorem dM_prepare_66 : decode mM_prepare.2.1 66 = .ok (.if_icmp .ge 31, 3) := by decide +kernel
theorem dM_prepare_69 : decode mM_prepare.2.1 69 = .ok (.aload_n 0, 1) := by decide +kernel
theorem dM_prepare_70 : decode mM_prepare.2.1 70 = .ok (.getfield 78, 3) := by decide +kernel
theorem dM_prepare_73 : decode mM_prepare.2.1 73 = .ok (.bipush 9, 2) := by decide +kernel
theorem dM_prepare_75 : decode mM_prepare.2.1 75 = .ok (.iload_n 1, 1) := by decide +kernel
theorem dM_prepare_76 : decode mM_prepare.2.1 76 = .ok (.imul, 1) := by decide +kernel
theorem dM_prepare_77 : decode mM_prepare.2.1 77 = .ok (.iload_n 2, 1) := by decide +kernel
theorem dM_prepare_78 : decode mM_prepare.2.1 78 = .ok (.iadd, 1) := by decide +kernel
theorem dM_prepare_79 : decode mM_prepare.2.1 79 = .ok (.aload_n 0, 1) := by decide +kernel
theorem dM_prepare_80 : decode mM_prepare.2.1 80 = .ok (.aload_n 0, 1) := by decide +kernel
theorem dM_prepare_81 : decode mM_prepare.2.1 81 = .ok (.getfield 75, 3) := by decide +kernel
theorem dM_prepare_84 : decode mM_prepare.2.1 84 = .ok (.iload_n 1, 1) := by decide +kernel
theorem dM_prepare_85 : decode mM_prepare.2.1 85 = .ok (.iaload, 1) := by decide +kernel
theorem dM_prepare_86 : decode mM_prepare.2.1 86 = .ok (.iload_n 2, 1) := by decide +kernel
theorem dM_prepare_87 : decode mM_prepare.2.1 87 = .ok (.invokevirtual 146, 3) := by decide +kernel
theorem dM_prepare_90 : decode mM_prepare.2.1 90 = .ok (.bastore, 1) := by decide +kernel
theorem dM_prepare_91 : decode mM_prepare.2.1 91 = .ok (.iinc 2 1, 3) := by decide +kernel
theorem dM_prepare_94 : decode mM_prepare.2.1 94 = .ok (.goto (-33), 3) := by decide +kernel
theorem dM_prepare_97 : decode mM_prepare.2.1 97 = .ok (.iinc 1 1, 3) := by decide +kernel
theorem dM_prepare_100 : decode mM_prepare.2.1 100 = .ok (.goto (-49), 3) := by decide +kernel
theorem dM_prepare_103 : decode mM_prepare.2.1 103 = .ok (.iconst 0, 1) := by decide +kernel
theorem dM_prepare_104 : decode mM_prepare.2.1 104 = .ok (.istore_n 1, 1) := by decide +kernel
theorem dM_prepare_105 : decode mM_prepare.2.1 105 = .ok (.iload_n 1, 1) := by decide +kernel
theorem dM_prepare_106 : decode mM_prepare.2.1 106 = .ok (.aload_n 0, 1) := by decide +kernel
theorem dM_prepare_107 : decode mM_prepare.2.1 107 = .ok (.getfield 143, 3) := by decide +kernel
theorem dM_prepare_110 : decode mM_prepare.2.1 110 = .ok (.if_icmp .ge 142, 3) := by decide +kernel
theorem dM_prepare_113 : decode mM_prepare.2.1 113 = .ok (.iconst 0, 1) := by decide +kernel
theorem dM_prepare_114 : decode mM_prepare.2.1 114 = .ok (.istore_n 2, 1) := by decide +kernel
theorem dM_prepare_115 : decode mM_prepare.2.1 115 = .ok (.iload_n 2, 1) := by decide +kernel
theorem dM_prepare_116 : decode mM_prepare.2.1 116 = .ok (.iload_n 1, 1) := by decide +kernel
theorem dM_prepare_117 : decode mM_prepare.2.1 117 = .ok (.if_icmp .ge 129, 3) := by decide +kernel
theorem dM_prepare_120 : decode mM_prepare.2.1 120 = .ok (.iconst 0, 1) := by decide +kernel
theorem dM_prepare_121 : decode mM_prepare.2.1 121 = .ok (.istore_n 3, 1) := by decide +kernel
theorem dM_prepare_122 : decode mM_prepare.2.1 122 = .ok (.iload_n 3, 1) := by decide +kernel
theorem dM_prepare_123 : decode mM_prepare.2.1 123 = .ok (.aload_n 0, 1) := by decide +kernel
theorem dM_prepare_124 : decode mM_prepare.2.1 124 = .ok (.invokevirtual 106, 3) := by decide +kernel
theorem dM_prepare_127 : decode mM_prepare.2.1 127 = .ok (.if_icmp .ge 113, 3) := by decide +kernel
theorem dM_prepare_130 : decode mM_prepare.2.1 130 = .ok (.iconst 0, 1) := by decide +kernel
theorem dM_prepare_131 : decode mM_prepare.2.1 131 = .ok (.istore 4, 2) := by decide +kernel
theorem dM_prepare_133 : decode mM_prepare.2.1 133 = .ok (.iload 4, 2) := by decide +kernel
theorem dM_prepare_135 : decode mM_prepare.2.1 135 = .ok (.aload_n 0, 1) := by decide +kernel
theorem dM_prepare_136 : decode mM_prepare.2.1 136 = .ok (.invokevirtual 106, 3) := by decide +kernel
theorem dM_prepare_139 : decode mM_prepare.2.1 139 = .ok (.if_icmp .ge 95, 3) := by decide +kernel
theorem dM_prepare_142 : decode mM_prepare.2.1 142 = .ok (.aload_n 0, 1) := by decide +kernel
theorem dM_prepare_143 : decode mM_prepare.2.1 143 = .ok (.getfield 78, 3) := by decide +kernel
theorem dM_prepare_146 : decode mM_prepare.2.1 146 = .ok (.bipush 9, 2) := by decide +kernel
theorem dM_prepare_148 : decode mM_prepare.2.1 148 = .ok (.iload_n 1, 1) := by decide +kernel
theorem dM_prepare_149 : decode mM_prepare.2.1 149 = .ok (.imul, 1) := by decide +kernel
theorem dM_prepare_150 : decode mM_prepare.2.1 150 = .ok (.iload_n 3, 1) := by decide +kernel
theorem dM_prepare_151 : decode mM_prepare.2.1 151 = .ok (.iadd, 1) := by decide +kernel
theorem dM_prepare_152 : decode mM_prepare.2.1 152 = .ok (.baload, 1) := by decide +kernel
theorem dM_prepare_153 : decode mM_prepare.2.1 153 = .ok (.ifCond .eq 22, 3) := by decide +kernel
theorem dM_prepare_156 : decode mM_prepare.2.1 156 = .ok (.aload_n 0, 1) := by decide +kernel
theorem dM_prepare_157 : decode mM_prepare.2.1 157 = .ok (.getfield 78, 3) := by decide +kernel
theorem dM_prepare_160 : decode mM_prepare.2.1 160 = .ok (.bipush 9, 2) := by decide +kernel
theorem dM_prepare_162 : decode mM_prepare.2.1 162 = .ok (.iload_n 2, 1) := by decide +kernel
theorem dM_prepare_163 : decode mM_prepare.2.1 163 = .ok (.imul, 1) := by decide +kernel
theorem dM_prepare_164 : decode mM_prepare.2.1 164 = .ok (.iload 4, 2) := by decide +kernel
theorem dM_prepare_166 : decode mM_prepare.2.1 166 = .ok (.iadd, 1) := by decide +kernel
theorem dM_prepare_167 : decode mM_prepare.2.1 167 = .ok (.baload, 1) := by decide +kernel
theorem dM_prepare_168 : decode mM_prepare.2.1 168 = .ok (.ifCond .eq 7, 3) := by decide +kernel
theorem dM_prepare_171 : decode mM_prepare.2.1 171 = .ok (.iconst 1, 1) := by decide +kernel
theorem dM_prepare_172 : decode mM_prepare.2.1 172 = .ok (.goto 4, 3) := by decide +kernel
theorem dM_prepare_175 : decode mM_prepare.2.1 175 = .ok (.iconst 0, 1) := by decide +kernel
theorem dM_prepare_176 : decode mM_prepare.2.1 176 = .ok (.istore 5, 2) := by decide +kernel
theorem dM_prepare_178 : decode mM_prepare.2.1 178 = .ok (.aload_n 0, 1) := by decide +kernel
theorem dM_prepare_179 : decode mM_prepare.2.1 179 = .ok (.getfield 81, 3) := by decide +kernel
theorem dM_prepare_182 : decode mM_prepare.2.1 182 = .ok (.bipush 45, 2) := by decide +kernel
theorem dM_prepare_184 : decode mM_prepare.2.1 184 = .ok (.bipush 9, 2) := by decide +kernel
theorem dM_prepare_186 : decode mM_prepare.2.1 186 = .ok (.iload_n 1, 1) := by decide +kernel
theorem dM_prepare_187 : decode mM_prepare.2.1 187 = .ok (.imul, 1) := by decide +kernel
theorem dM_prepare_188 : decode mM_prepare.2.1 188 = .ok (.iload_n 3, 1) := by decide +kernel
theorem dM_prepare_189 : decode mM_prepare.2.1 189 = .ok (.iadd, 1) := by decide +kernel
theorem dM_prepare_190 : decode mM_prepare.2.1 190 = .ok (.imul, 1) := by decide +kernel
theorem dM_prepare_191 : decode mM_prepare.2.1 191 = .ok (.bipush 9, 2) := by decide +kernel
theorem dM_prepare_193 : decode mM_prepare.2.1 193 = .ok (.iload_n 2, 1) := by decide +kernel
theorem dM_prepare_194 : decode mM_prepare.2.1 194 = .ok (.imul, 1) := by decide +kernel
theorem dM_prepare_195 : decode mM_prepare.2.1 195 = .ok (.iadd, 1) := by decide +kernel
theorem dM_prepare_196 : decode mM_prepare.2.1 196 = .ok (.iload 4, 2) := by decide +kernel
theorem dM_prepare_198 : decode mM_prepare.2.1 198 = .ok (.iadd, 1) := by decide +kernel
theorem dM_prepare_199 : decode mM_prepare.2.1 199 = .ok (.iload 5, 2) := by decide +kernel
theorem dM_prepare_201 : decode mM_prepare.2.1 201 = .ok (.ifCond .eq 25, 3) := by decide +kernel
theorem dM_prepare_204 : decode mM_prepare.2.1 204 = .ok (.aload_n 0, 1) := by decide +kernel
theorem dM_prepare_205 : decode mM_prepare.2.1 205 = .ok (.aload_n 0, 1) := by decide +kernel
theorem dM_prepare_206 : decode mM_prepare.2.1 206 = .ok (.getfield 75, 3) := by decide +kernel
theorem dM_prepare_209 : decode mM_prepare.2.1 209 = .ok (.iload_n 1, 1) := by decide +kernel
theorem dM_prepare_210 : decode mM_prepare.2.1 210 = .ok (.iaload, 1) := by decide +kernel
theorem dM_prepare_211 : decode mM_prepare.2.1 211 = .ok (.iload_n 3, 1) := by decide +kernel
theorem dM_prepare_212 : decode mM_prepare.2.1 212 = .ok (.aload_n 0, 1) := by decide +kernel
theorem dM_prepare_213 : decode mM_prepare.2.1 213 = .ok (.getfield 75, 3) := by decide +kernel
theorem dM_prepare_216 : decode mM_prepare.2.1 216 = .ok (.iload_n 2, 1) := by decide +kernel
theorem dM_prepare_217 : decode mM_prepare.2.1 217 = .ok (.iaload, 1) := by decide +kernel
theorem dM_prepare_218 : decode mM_prepare.2.1 218 = .ok (.iload 4, 2) := by decide +kernel
theorem dM_prepare_220 : decode mM_prepare.2.1 220 = .ok (.invokevirtual 150, 3) := by decide +kernel
theorem dM_prepare_223 : decode mM_prepare.2.1 223 = .ok (.goto 4, 3) := by decide +kernel
theorem dM_prepare_226 : decode mM_prepare.2.1 226 = .ok (.iconst 0, 1) := by decide +kernel
theorem dM_prepare_227 : decode mM_prepare.2.1 227 = .ok (.iastore, 1) := by decide +kernel
theorem dM_prepare_228 : decode mM_prepare.2.1 228 = .ok (.iinc 4 1, 3) := by decide +kernel
theorem dM_prepare_231 : decode mM_prepare.2.1 231 = .ok (.goto (-98), 3) := by decide +kernel
theorem dM_prepare_234 : decode mM_prepare.2.1 234 = .ok (.iinc 3 1, 3) := by decide +kernel
theorem dM_prepare_237 : decode mM_prepare.2.1 237 = .ok (.goto (-115), 3) := by decide +kernel
theorem dM_prepare_240 : decode mM_prepare.2.1 240 = .ok (.iinc 2 1, 3) := by decide +kernel
theorem dM_prepare_243 : decode mM_prepare.2.1 243 = .ok (.goto (-128), 3) := by decide +kernel
theorem dM_prepare_246 : decode mM_prepare.2.1 246 = .ok (.iinc 1 1, 3) := by decide +kernel
theorem dM_prepare_249 : decode mM_prepare.2.1 249 = .ok (.goto (-144), 3) := by decide +kernel
theorem dM_prepare_252 : decode mM_prepare.2.1 252 = .ok (.return_, 1) := by decide +kernel
theorem dM_keepLaying_0 : decode mM_keepLaying.2.1 0 = .ok (.iload_n 1, 1) := by decide +kernel
theorem dM_keepLaying_1 : decode mM_keepLaying.2.1 1 = .ok (.aload_n 0, 1) := by decide +kernel
theorem dM_keepLaying_2 : decode mM_keepLaying.2.1 2 = .ok (.getfield 154, 3) := by decide +kernel
theorem dM_keepLaying_5 : decode mM_keepLaying.2.1 5 = .ok (.if_icmp .ge 34, 3) := by decide +kernel
theorem dM_keepLaying_8 : decode mM_keepLaying.2.1 8 = .ok (.aload_n 0, 1) := by decide +kernel
theorem dM_keepLaying_9 : decode mM_keepLaying.2.1 9 = .ok (.iload_n 1, 1) := by decide +kernel
theorem dM_keepLaying_10 : decode mM_keepLaying.2.1 10 = .ok (.putfield 154, 3) := by decide +kernel
theorem dM_keepLaying_13 : decode mM_keepLaying.2.1 13 = .ok (.aload_n 0, 1) := by decide +kernel
theorem dM_keepLaying_14 : decode mM_keepLaying.2.1 14 = .ok (.iconst 0, 1) := by decide +kernel
theorem dM_keepLaying_15 : decode mM_keepLaying.2.1 15 = .ok (.putfield 157, 3) := by decide +kernel
theorem dM_keepLaying_18 : decode mM_keepLaying.2.1 18 = .ok (.iconst 0, 1) := by decide +kernel
theorem dM_keepLaying_19 : decode mM_keepLaying.2.1 19 = .ok (.istore_n 3, 1) := by decide +kernel
theorem dM_keepLaying_20 : decode mM_keepLaying.2.1 20 = .ok (.iload_n 3, 1) := by decide +kernel
theorem dM_keepLaying_21 : decode mM_keepLaying.2.1 21 = .ok (.bipush 30, 2) := by decide +kernel
theorem dM_keepLaying_23 : decode mM_keepLaying.2.1 23 = .ok (.if_icmp .ge 16, 3) := by decide +kernel
theorem dM_keepLaying_26 : decode mM_keepLaying.2.1 26 = .ok (.aload_n 0, 1) := by decide +kernel
theorem dM_keepLaying_27 : decode mM_keepLaying.2.1 27 = .ok (.getfield 87, 3) := by decide +kernel
theorem dM_keepLaying_30 : decode mM_keepLaying.2.1 30 = .ok (.iload_n 3, 1) := by decide +kernel
theorem dM_keepLaying_31 : decode mM_keepLaying.2.1 31 = .ok (.iconst 0, 1) := by decide +kernel
theorem dM_keepLaying_32 : decode mM_keepLaying.2.1 32 = .ok (.iastore, 1) := by decide +kernel
theorem dM_keepLaying_33 : decode mM_keepLaying.2.1 33 = .ok (.iinc 3 1, 3) := by decide +kernel
theorem dM_keepLaying_36 : decode mM_keepLaying.2.1 36 = .ok (.goto (-16), 3) := by decide +kernel
theorem dM_keepLaying_39 : decode mM_keepLaying.2.1 39 = .ok (.iconst 0, 1) := by decide +kernel
theorem dM_keepLaying_40 : decode mM_keepLaying.2.1 40 = .ok (.istore_n 3, 1) := by decide +kernel
theorem dM_keepLaying_41 : decode mM_keepLaying.2.1 41 = .ok (.iload_n 3, 1) := by decide +kernel
theorem dM_keepLaying_42 : decode mM_keepLaying.2.1 42 = .ok (.aload_n 0, 1) := by decide +kernel
theorem dM_keepLaying_43 : decode mM_keepLaying.2.1 43 = .ok (.getfield 143, 3) := by decide +kernel
theorem dM_keepLaying_46 : decode mM_keepLaying.2.1 46 = .ok (.if_icmp .ge 108, 3) := by decide +kernel
theorem dM_keepLaying_49 : decode mM_keepLaying.2.1 49 = .ok (.aload_n 0, 1) := by decide +kernel
theorem dM_keepLaying_50 : decode mM_keepLaying.2.1 50 = .ok (.getfield 26, 3) := by decide +kernel
theorem dM_keepLaying_53 : decode mM_keepLaying.2.1 53 = .ok (.aload_n 0, 1) := by decide +kernel
theorem dM_keepLaying_54 : decode mM_keepLaying.2.1 54 = .ok (.getfield 75, 3) := by decide +kernel
theorem dM_keepLaying_57 : decode mM_keepLaying.2.1 57 = .ok (.iload_n 3, 1) := by decide +kernel
theorem dM_keepLaying_58 : decode mM_keepLaying.2.1 58 = .ok (.iaload, 1) := by decide +kernel
theorem dM_keepLaying_59 : decode mM_keepLaying.2.1 59 = .ok (.iaload, 1) := by decide +kernel
theorem dM_keepLaying_60 : decode mM_keepLaying.2.1 60 = .ok (.istore 4, 2) := by decide +kernel
theorem dM_keepLaying_62 : decode mM_keepLaying.2.1 62 = .ok (.iload 4, 2) := by decide +kernel
theorem dM_keepLaying_64 : decode mM_keepLaying.2.1 64 = .ok (.aload_n 0, 1) := by decide +kernel
theorem dM_keepLaying_65 : decode mM_keepLaying.2.1 65 = .ok (.getfield 26, 3) := by decide +kernel
theorem dM_keepLaying_68 : decode mM_keepLaying.2.1 68 = .ok (.aload_n 0, 1) := by decide +kernel
theorem dM_keepLaying_69 : decode mM_keepLaying.2.1 69 = .ok (.getfield 75, 3) := by decide +kernel
theorem dM_keepLaying_72 : decode mM_keepLaying.2.1 72 = .ok (.iload_n 3, 1) := by decide +kernel
theorem dM_keepLaying_73 : decode mM_keepLaying.2.1 73 = .ok (.iaload, 1) := by decide +kernel
theorem dM_keepLaying_74 : decode mM_keepLaying.2.1 74 = .ok (.iaload, 1) := by decide +kernel
theorem dM_keepLaying_75 : decode mM_keepLaying.2.1 75 = .ok (.aload_n 0, 1) := by decide +kernel
theorem dM_keepLaying_76 : decode mM_keepLaying.2.1 76 = .ok (.aload_n 0, 1) := by decide +kernel
theorem dM_keepLaying_77 : decode mM_keepLaying.2.1 77 = .ok (.getfield 75, 3) := by decide +kernel
theorem dM_keepLaying_80 : decode mM_keepLaying.2.1 80 = .ok (.iload_n 3, 1) := by decide +kernel
theorem dM_keepLaying_81 : decode mM_keepLaying.2.1 81 = .ok (.iaload, 1) := by decide +kernel
theorem dM_keepLaying_82 : decode mM_keepLaying.2.1 82 = .ok (.invokevirtual 130, 3) := by decide +kernel
theorem dM_keepLaying_85 : decode mM_keepLaying.2.1 85 = .ok (.iadd, 1) := by decide +kernel
theorem dM_keepLaying_86 : decode mM_keepLaying.2.1 86 = .ok (.if_icmp .ge 33, 3) := by decide +kernel
theorem dM_keepLaying_89 : decode mM_keepLaying.2.1 89 = .ok (.aload_n 0, 1) := by decide +kernel
theorem dM_keepLaying_90 : decode mM_keepLaying.2.1 90 = .ok (.getfield 87, 3) := by decide +kernel
theorem dM_keepLaying_93 : decode mM_keepLaying.2.1 93 = .ok (.iload 4, 2) := by decide +kernel
theorem dM_keepLaying_95 : decode mM_keepLaying.2.1 95 = .ok (.dup2, 1) := by decide +kernel
theorem dM_keepLaying_96 : decode mM_keepLaying.2.1 96 = .ok (.iaload, 1) := by decide +kernel
theorem dM_keepLaying_97 : decode mM_keepLaying.2.1 97 = .ok (.iconst 1, 1) := by decide +kernel
theorem dM_keepLaying_98 : decode mM_keepLaying.2.1 98 = .ok (.aload_n 0, 1) := by decide +kernel
theorem dM_keepLaying_99 : decode mM_keepLaying.2.1 99 = .ok (.iload 4, 2) := by decide +kernel
theorem dM_keepLaying_101 : decode mM_keepLaying.2.1 101 = .ok (.aload_n 0, 1) := by decide +kernel
theorem dM_keepLaying_102 : decode mM_keepLaying.2.1 102 = .ok (.getfield 84, 3) := by decide +kernel
theorem dM_keepLaying_105 : decode mM_keepLaying.2.1 105 = .ok (.iload_n 3, 1) := by decide +kernel
theorem dM_keepLaying_106 : decode mM_keepLaying.2.1 106 = .ok (.iaload, 1) := by decide +kernel
theorem dM_keepLaying_107 : decode mM_keepLaying.2.1 107 = .ok (.invokevirtual 139, 3) := by decide +kernel
theorem dM_keepLaying_110 : decode mM_keepLaying.2.1 110 = .ok (.ishl, 1) := by decide +kernel
theorem dM_keepLaying_111 : decode mM_keepLaying.2.1 111 = .ok (.ior, 1) := by decide +kernel
theorem dM_keepLaying_112 : decode mM_keepLaying.2.1 112 = .ok (.iastore, 1) := by decide +kernel
theorem dM_keepLaying_113 : decode mM_keepLaying.2.1 113 = .ok (.iinc 4 1, 3) := by decide +kernel
theorem dM_keepLaying_116 : decode mM_keepLaying.2.1 116 = .ok (.goto (-54), 3) := by decide +kernel
theorem dM_keepLaying_119 : decode mM_keepLaying.2.1 119 = .ok (.aload_n 0, 1) := by decide +kernel
theorem dM_keepLaying_120 : decode mM_keepLaying.2.1 120 = .ok (.getfield 90, 3) := by decide +kernel
theorem dM_keepLaying_123 : decode mM_keepLaying.2.1 123 = .ok (.iload_n 3, 1) := by decide +kernel
theorem dM_keepLaying_124 : decode mM_keepLaying.2.1 124 = .ok (.aload_n 0, 1) := by decide +kernel
theorem dM_keepLaying_125 : decode mM_keepLaying.2.1 125 = .ok (.getfield 157, 3) := by decide +kernel
theorem dM_keepLaying_128 : decode mM_keepLaying.2.1 128 = .ok (.iload_n 2, 1) := by decide +kernel
theorem dM_keepLaying_129 : decode mM_keepLaying.2.1 129 = .ok (.if_icmp .ne 12, 3) := by decide +kernel
theorem dM_keepLaying_132 : decode mM_keepLaying.2.1 132 = .ok (.aload_n 0, 1) := by decide +kernel
theorem dM_keepLaying_133 : decode mM_keepLaying.2.1 133 = .ok (.getfield 84, 3) := by decide +kernel
theorem dM_keepLaying_136 : decode mM_keepLaying.2.1 136 = .ok (.iload_n 3, 1) := by decide +kernel
theorem dM_keepLaying_137 : decode mM_keepLaying.2.1 137 = .ok (.iaload, 1) := by decide +kernel
theorem dM_keepLaying_138 : decode mM_keepLaying.2.1 138 = .ok (.goto 9, 3) := by decide +kernel
theorem dM_keepLaying_141 : decode mM_keepLaying.2.1 141 = .ok (.aload_n 0, 1) := by decide +kernel
theorem dM_keepLaying_142 : decode mM_keepLaying.2.1 142 = .ok (.getfield 90, 3) := by decide +kernel
theorem dM_keepLaying_145 : decode mM_keepLaying.2.1 145 = .ok (.iload_n 3, 1) := by decide +kernel
theorem dM_keepLaying_146 : decode mM_keepLaying.2.1 146 = .ok (.iaload, 1) := by decide +kernel
theorem dM_keepLaying_147 : decode mM_keepLaying.2.1 147 = .ok (.iastore, 1) := by decide +kernel
theorem dM_keepLaying_148 : decode mM_keepLaying.2.1 148 = .ok (.iinc 3 1, 3) := by decide +kernel
theorem dM_keepLaying_151 : decode mM_keepLaying.2.1 151 = .ok (.goto (-110), 3) := by decide +kernel
theorem dM_keepLaying_154 : decode mM_keepLaying.2.1 154 = .ok (.aload_n 0, 1) := by decide +kernel
theorem dM_keepLaying_155 : decode mM_keepLaying.2.1 155 = .ok (.dup, 1) := by decide +kernel
theorem dM_keepLaying_156 : decode mM_keepLaying.2.1 156 = .ok (.getfield 157, 3) := by decide +kernel
theorem dM_keepLaying_159 : decode mM_keepLaying.2.1 159 = .ok (.iconst 1, 1) := by decide +kernel
theorem dM_keepLaying_160 : decode mM_keepLaying.2.1 160 = .ok (.iadd, 1) := by decide +kernel
theorem dM_keepLaying_161 : decode mM_keepLaying.2.1 161 = .ok (.putfield 157, 3) := by decide +kernel
theorem dM_keepLaying_164 : decode mM_keepLaying.2.1 164 = .ok (.return_, 1) := by decide +kernel
theorem dM_find_0 : decode mM_find.2.1 0 = .ok (.aload_n 0, 1) := by decide +kernel
theorem dM_find_1 : decode mM_find.2.1 1 = .ok (.invokevirtual 160, 3) := by decide +kernel
theorem dM_find_4 : decode mM_find.2.1 4 = .ok (.aload_n 0, 1) := by decide +kernel
theorem dM_find_5 : decode mM_find.2.1 5 = .ok (.ldc 163, 2) := by decide +kernel
theorem dM_find_7 : decode mM_find.2.1 7 = .ok (.putfield 154, 3) := by decide +kernel
theorem dM_find_10 : decode mM_find.2.1 10 = .ok (.aload_n 0, 1) := by decide +kernel
theorem dM_find_11 : decode mM_find.2.1 11 = .ok (.iconst 0, 1) := by decide +kernel
theorem dM_find_12 : decode mM_find.2.1 12 = .ok (.putfield 157, 3) := by decide +kernel
theorem dM_find_15 : decode mM_find.2.1 15 = .ok (.iconst 0, 1) := by decide +kernel
theorem dM_find_16 : decode mM_find.2.1 16 = .ok (.istore_n 2, 1) := by decide +kernel
theorem dM_find_17 : decode mM_find.2.1 17 = .ok (.iload_n 2, 1) := by decide +kernel
theorem dM_find_18 : decode mM_find.2.1 18 = .ok (.bipush 30, 2) := by decide +kernel
theorem dM_find_20 : decode mM_find.2.1 20 = .ok (.if_icmp .ge 16, 3) := by decide +kernel
theorem dM_find_23 : decode mM_find.2.1 23 = .ok (.aload_n 0, 1) := by decide +kernel
theorem dM_find_24 : decode mM_find.2.1 24 = .ok (.getfield 87, 3) := by decide +kernel
theorem dM_find_27 : decode mM_find.2.1 27 = .ok (.iload_n 2, 1) := by decide +kernel
theorem dM_find_28 : decode mM_find.2.1 28 = .ok (.iconst 0, 1) := by decide +kernel
theorem dM_find_29 : decode mM_find.2.1 29 = .ok (.iastore, 1) := by decide +kernel
theorem dM_find_30 : decode mM_find.2.1 30 = .ok (.iinc 2 1, 3) := by decide +kernel
theorem dM_find_33 : decode mM_find.2.1 33 = .ok (.goto (-16), 3) := by decide +kernel
theorem dM_find_36 : decode mM_find.2.1 36 = .ok (.iconst 0, 1) := by decide +kernel
theorem dM_find_37 : decode mM_find.2.1 37 = .ok (.istore_n 2, 1) := by decide +kernel
theorem dM_find_38 : decode mM_find.2.1 38 = .ok (.iload_n 2, 1) := by decide +kernel
theorem dM_find_39 : decode mM_find.2.1 39 = .ok (.iconst 5, 1) := by decide +kernel
theorem dM_find_40 : decode mM_find.2.1 40 = .ok (.if_icmp .ge 16, 3) := by decide +kernel
theorem dM_find_43 : decode mM_find.2.1 43 = .ok (.aload_n 0, 1) := by decide +kernel
theorem dM_find_44 : decode mM_find.2.1 44 = .ok (.getfield 84, 3) := by decide +kernel
theorem dM_find_47 : decode mM_find.2.1 47 = .ok (.iload_n 2, 1) := by decide +kernel
theorem dM_find_48 : decode mM_find.2.1 48 = .ok (.iconst 0, 1) := by decide +kernel
theorem dM_find_49 : decode mM_find.2.1 49 = .ok (.iastore, 1) := by decide +kernel
theorem dM_find_50 : decode mM_find.2.1 50 = .ok (.iinc 2 1, 3) := by decide +kernel
theorem dM_find_53 : decode mM_find.2.1 53 = .ok (.goto (-15), 3) := by decide +kernel
theorem dM_find_56 : decode mM_find.2.1 56 = .ok (.iconst 1, 1) := by decide +kernel
theorem dM_find_57 : decode mM_find.2.1 57 = .ok (.istore_n 2, 1) := by decide +kernel
theorem dM_find_58 : decode mM_find.2.1 58 = .ok (.iload_n 2, 1) := by decide +kernel
theorem dM_find_59 : decode mM_find.2.1 59 = .ok (.ifCond .eq 211, 3) := by decide +kernel
theorem dM_find_62 : decode mM_find.2.1 62 = .ok (.iconst 1, 1) := by decide +kernel
theorem dM_find_63 : decode mM_find.2.1 63 = .ok (.istore_n 3, 1) := by decide +kernel
theorem dM_find_64 : decode mM_find.2.1 64 = .ok (.iconst 0, 1) := by decide +kernel
theorem dM_find_65 : decode mM_find.2.1 65 = .ok (.istore 4, 2) := by decide +kernel
theorem dM_find_67 : decode mM_find.2.1 67 = .ok (.iconst 0, 1) := by decide +kernel
theorem dM_find_68 : decode mM_find.2.1 68 = .ok (.istore 5, 2) := by decide +kernel
theorem dM_find_70 : decode mM_find.2.1 70 = .ok (.iload 5, 2) := by decide +kernel
theorem dM_find_72 : decode mM_find.2.1 72 = .ok (.aload_n 0, 1) := by decide +kernel
theorem dM_find_73 : decode mM_find.2.1 73 = .ok (.getfield 143, 3) := by decide +kernel
theorem dM_find_76 : decode mM_find.2.1 76 = .ok (.if_icmp .ge 111, 3) := by decide +kernel
theorem dM_find_79 : decode mM_find.2.1 79 = .ok (.iload_n 3, 1) := by decide +kernel
theorem dM_find_80 : decode mM_find.2.1 80 = .ok (.ifCond .eq 107, 3) := by decide +kernel
theorem dM_find_83 : decode mM_find.2.1 83 = .ok (.aload_n 0, 1) := by decide +kernel
theorem dM_find_84 : decode mM_find.2.1 84 = .ok (.getfield 78, 3) := by decide +kernel
theorem dM_find_87 : decode mM_find.2.1 87 = .ok (.bipush 9, 2) := by decide +kernel
theorem dM_find_89 : decode mM_find.2.1 89 = .ok (.iload 5, 2) := by decide +kernel
theorem dM_find_91 : decode mM_find.2.1 91 = .ok (.imul, 1) := by decide +kernel
theorem dM_find_92 : decode mM_find.2.1 92 = .ok (.aload_n 0, 1) := by decide +kernel
theorem dM_find_93 : decode mM_find.2.1 93 = .ok (.getfield 84, 3) := by decide +kernel
theorem dM_find_96 : decode mM_find.2.1 96 = .ok (.iload 5, 2) := by decide +kernel
theorem dM_find_98 : decode mM_find.2.1 98 = .ok (.iaload, 1) := by decide +kernel
theorem dM_find_99 : decode mM_find.2.1 99 = .ok (.iadd, 1) := by decide +kernel
theorem dM_find_100 : decode mM_find.2.1 100 = .ok (.baload, 1) := by decide +kernel
theorem dM_find_101 : decode mM_find.2.1 101 = .ok (.istore_n 3, 1) := by decide +kernel
theorem dM_find_102 : decode mM_find.2.1 102 = .ok (.iconst 0, 1) := by decide +kernel
theorem dM_find_103 : decode mM_find.2.1 103 = .ok (.istore 6, 2) := by decide +kernel
theorem dM_find_105 : decode mM_find.2.1 105 = .ok (.iload 6, 2) := by decide +kernel
theorem dM_find_107 : decode mM_find.2.1 107 = .ok (.iload 5, 2) := by decide +kernel
theorem dM_find_109 : decode mM_find.2.1 109 = .ok (.if_icmp .ge 53, 3) := by decide +kernel
theorem dM_find_112 : decode mM_find.2.1 112 = .ok (.iload_n 3, 1) := by decide +kernel
theorem dM_find_113 : decode mM_find.2.1 113 = .ok (.ifCond .eq 49, 3) := by decide +kernel
theorem dM_find_116 : decode mM_find.2.1 116 = .ok (.iload 4, 2) := by decide +kernel
theorem dM_find_118 : decode mM_find.2.1 118 = .ok (.aload_n 0, 1) := by decide +kernel
theorem dM_find_119 : decode mM_find.2.1 119 = .ok (.getfield 81, 3) := by decide +kernel
theorem dM_find_122 : decode mM_find.2.1 122 = .ok (.bipush 45, 2) := by decide +kernel
theorem dM_find_124 : decode mM_find.2.1 124 = .ok (.bipush 9, 2) := by decide +kernel
theorem dM_find_126 : decode mM_find.2.1 126 = .ok (.iload 5, 2) := by decide +kernel
theorem dM_find_128 : decode mM_find.2.1 128 = .ok (.imul, 1) := by decide +kernel
theorem dM_find_129 : decode mM_find.2.1 129 = .ok (.aload_n 0, 1) := by decide +kernel
theorem dM_find_130 : decode mM_find.2.1 130 = .ok (.getfield 84, 3) := by decide +kernel
theorem dM_find_133 : decode mM_find.2.1 133 = .ok (.iload 5, 2) := by decide +kernel
theorem dM_find_135 : decode mM_find.2.1 135 = .ok (.iaload, 1) := by decide +kernel
theorem dM_find_136 : decode mM_find.2.1 136 = .ok (.iadd, 1) := by decide +kernel
theorem dM_find_137 : decode mM_find.2.1 137 = .ok (.imul, 1) := by decide +kernel
theorem dM_find_138 : decode mM_find.2.1 138 = .ok (.bipush 9, 2) := by decide +kernel
theorem dM_find_140 : decode mM_find.2.1 140 = .ok (.iload 6, 2) := by decide +kernel
theorem dM_find_142 : decode mM_find.2.1 142 = .ok (.imul, 1) := by decide +kernel
theorem dM_find_143 : decode mM_find.2.1 143 = .ok (.iadd, 1) := by decide +kernel
theorem dM_find_144 : decode mM_find.2.1 144 = .ok (.aload_n 0, 1) := by decide +kernel
theorem dM_find_145 : decode mM_find.2.1 145 = .ok (.getfield 84, 3) := by decide +kernel
theorem dM_find_148 : decode mM_find.2.1 148 = .ok (.iload 6, 2) := by decide +kernel
theorem dM_find_150 : decode mM_find.2.1 150 = .ok (.iaload, 1) := by decide +kernel
theorem dM_find_151 : decode mM_find.2.1 151 = .ok (.iadd, 1) := by decide +kernel
theorem dM_find_152 : decode mM_find.2.1 152 = .ok (.iaload, 1) := by decide +kernel
theorem dM_find_153 : decode mM_find.2.1 153 = .ok (.iadd, 1) := by decide +kernel
theorem dM_find_154 : decode mM_find.2.1 154 = .ok (.istore 4, 2) := by decide +kernel
theorem dM_find_156 : decode mM_find.2.1 156 = .ok (.iinc 6 1, 3) := by decide +kernel
theorem dM_find_159 : decode mM_find.2.1 159 = .ok (.goto (-54), 3) := by decide +kernel
theorem dM_find_162 : decode mM_find.2.1 162 = .ok (.iload_n 3, 1) := by decide +kernel
theorem dM_find_163 : decode mM_find.2.1 163 = .ok (.ifCond .eq 16, 3) := by decide +kernel
theorem dM_find_166 : decode mM_find.2.1 166 = .ok (.iload 4, 2) := by decide +kernel
theorem dM_find_168 : decode mM_find.2.1 168 = .ok (.aload_n 0, 1) := by decide +kernel
theorem dM_find_169 : decode mM_find.2.1 169 = .ok (.getfield 154, 3) := by decide +kernel
theorem dM_find_172 : decode mM_find.2.1 172 = .ok (.if_icmp .gt 7, 3) := by decide +kernel
theorem dM_find_175 : decode mM_find.2.1 175 = .ok (.iconst 1, 1) := by decide +kernel
theorem dM_find_176 : decode mM_find.2.1 176 = .ok (.goto 4, 3) := by decide +kernel
theorem dM_find_179 : decode mM_find.2.1 179 = .ok (.iconst 0, 1) := by decide +kernel
theorem dM_find_180 : decode mM_find.2.1 180 = .ok (.istore_n 3, 1) := by decide +kernel
theorem dM_find_181 : decode mM_find.2.1 181 = .ok (.iinc 5 1, 3) := by decide +kernel
theorem dM_find_184 : decode mM_find.2.1 184 = .ok (.goto (-114), 3) := by decide +kernel
theorem dM_find_187 : decode mM_find.2.1 187 = .ok (.iload_n 3, 1) := by decide +kernel
theorem dM_find_188 : decode mM_find.2.1 188 = .ok (.ifCond .eq 10, 3) := by decide +kernel
theorem dM_find_191 : decode mM_find.2.1 191 = .ok (.aload_n 0, 1) := by decide +kernel
theorem dM_find_192 : decode mM_find.2.1 192 = .ok (.iload 4, 2) := by decide +kernel
theorem dM_find_194 : decode mM_find.2.1 194 = .ok (.iload_n 1, 1) := by decide +kernel
theorem dM_find_195 : decode mM_find.2.1 195 = .ok (.invokevirtual 164, 3) := by decide +kernel
theorem dM_find_198 : decode mM_find.2.1 198 = .ok (.aload_n 0, 1) := by decide +kernel
theorem dM_find_199 : decode mM_find.2.1 199 = .ok (.getfield 143, 3) := by decide +kernel
theorem dM_find_202 : decode mM_find.2.1 202 = .ok (.iconst 1, 1) := by decide +kernel
theorem dM_find_203 : decode mM_find.2.1 203 = .ok (.isub, 1) := by decide +kernel
theorem dM_find_204 : decode mM_find.2.1 204 = .ok (.istore 5, 2) := by decide +kernel
theorem dM_find_206 : decode mM_find.2.1 206 = .ok (.iload 5, 2) := by decide +kernel
theorem dM_find_208 : decode mM_find.2.1 208 = .ok (.ifCond .lt 33, 3) := by decide +kernel
theorem dM_find_211 : decode mM_find.2.1 211 = .ok (.aload_n 0, 1) := by decide +kernel
theorem dM_find_212 : decode mM_find.2.1 212 = .ok (.getfield 84, 3) := by decide +kernel
theorem dM_find_215 : decode mM_find.2.1 215 = .ok (.iload 5, 2) := by decide +kernel
theorem dM_find_217 : decode mM_find.2.1 217 = .ok (.iaload, 1) := by decide +kernel
theorem dM_find_218 : decode mM_find.2.1 218 = .ok (.aload_n 0, 1) := by decide +kernel
theorem dM_find_219 : decode mM_find.2.1 219 = .ok (.invokevirtual 106, 3) := by decide +kernel
theorem dM_find_222 : decode mM_find.2.1 222 = .ok (.iconst 1, 1) := by decide +kernel
theorem dM_find_223 : decode mM_find.2.1 223 = .ok (.isub, 1) := by decide +kernel
theorem dM_find_224 : decode mM_find.2.1 224 = .ok (.if_icmp .ne 17, 3) := by decide +kernel
theorem dM_find_227 : decode mM_find.2.1 227 = .ok (.aload_n 0, 1) := by decide +kernel
theorem dM_find_228 : decode mM_find.2.1 228 = .ok (.getfield 84, 3) := by decide +kernel
theorem dM_find_231 : decode mM_find.2.1 231 = .ok (.iload 5, 2) := by decide +kernel
theorem dM_find_233 : decode mM_find.2.1 233 = .ok (.iconst 0, 1) := by decide +kernel
theorem dM_find_234 : decode mM_find.2.1 234 = .ok (.iastore, 1) := by decide +kernel
theorem dM_find_235 : decode mM_find.2.1 235 = .ok (.iinc 5 (-1), 3) := by decide +kernel
theorem dM_find_238 : decode mM_find.2.1 238 = .ok (.goto (-32), 3) := by decide +kernel
theorem dM_find_241 : decode mM_find.2.1 241 = .ok (.iload 5, 2) := by decide +kernel
theorem dM_find_243 : decode mM_find.2.1 243 = .ok (.ifCond .lt 7, 3) := by decide +kernel
theorem dM_find_246 : decode mM_find.2.1 246 = .ok (.iconst 1, 1) := by decide +kernel
theorem dM_find_247 : decode mM_find.2.1 247 = .ok (.goto 4, 3) := by decide +kernel
theorem dM_find_250 : decode mM_find.2.1 250 = .ok (.iconst 0, 1) := by decide +kernel
theorem dM_find_251 : decode mM_find.2.1 251 = .ok (.istore_n 2, 1) := by decide +kernel
theorem dM_find_252 : decode mM_find.2.1 252 = .ok (.iload_n 2, 1) := by decide +kernel
theorem dM_find_253 : decode mM_find.2.1 253 = .ok (.ifCond .eq 14, 3) := by decide +kernel
theorem dM_find_256 : decode mM_find.2.1 256 = .ok (.aload_n 0, 1) := by decide +kernel
theorem dM_find_257 : decode mM_find.2.1 257 = .ok (.getfield 84, 3) := by decide +kernel
theorem dM_find_260 : decode mM_find.2.1 260 = .ok (.iload 5, 2) := by decide +kernel
theorem dM_find_262 : decode mM_find.2.1 262 = .ok (.dup2, 1) := by decide +kernel
theorem dM_find_263 : decode mM_find.2.1 263 = .ok (.iaload, 1) := by decide +kernel
theorem dM_find_264 : decode mM_find.2.1 264 = .ok (.iconst 1, 1) := by decide +kernel
theorem dM_find_265 : decode mM_find.2.1 265 = .ok (.iadd, 1) := by decide +kernel
theorem dM_find_266 : decode mM_find.2.1 266 = .ok (.iastore, 1) := by decide +kernel
theorem dM_find_267 : decode mM_find.2.1 267 = .ok (.goto (-209), 3) := by decide +kernel
theorem dM_find_270 : decode mM_find.2.1 270 = .ok (.return_, 1) := by decide +kernel
theorem dM_quarrel_0 : decode mM_quarrel.2.1 0 = .ok (.aload_n 0, 1) := by decide +kernel
theorem dM_quarrel_1 : decode mM_quarrel.2.1 1 = .ok (.iconst (-1), 1) := by decide +kernel
theorem dM_quarrel_2 : decode mM_quarrel.2.1 2 = .ok (.invokevirtual 168, 3) := by decide +kernel
theorem dM_quarrel_5 : decode mM_quarrel.2.1 5 = .ok (.aload_n 0, 1) := by decide +kernel
theorem dM_quarrel_6 : decode mM_quarrel.2.1 6 = .ok (.getfield 157, 3) := by decide +kernel
theorem dM_quarrel_9 : decode mM_quarrel.2.1 9 = .ok (.ifCond .ne 8, 3) := by decide +kernel
theorem dM_quarrel_12 : decode mM_quarrel.2.1 12 = .ok (.bipush (-4), 2) := by decide +kernel
theorem dM_quarrel_14 : decode mM_quarrel.2.1 14 = .ok (.goto 7, 3) := by decide +kernel
theorem dM_quarrel_17 : decode mM_quarrel.2.1 17 = .ok (.aload_n 0, 1) := by decide +kernel
theorem dM_quarrel_18 : decode mM_quarrel.2.1 18 = .ok (.getfield 154, 3) := by decide +kernel
theorem dM_quarrel_21 : decode mM_quarrel.2.1 21 = .ok (.ireturn, 1) := by decide +kernel
theorem dX_layings_0 : decode mX_layings.2.1 0 = .ok (.aload_n 0, 1) := by decide +kernel
theorem dX_layings_1 : decode mX_layings.2.1 1 = .ok (.getfield 24, 3) := by decide +kernel
theorem dX_layings_4 : decode mX_layings.2.1 4 = .ok (.invokevirtual 126, 3) := by decide +kernel
theorem dX_layings_7 : decode mX_layings.2.1 7 = .ok (.aload_n 0, 1) := by decide +kernel
theorem dX_layings_8 : decode mX_layings.2.1 8 = .ok (.getfield 24, 3) := by decide +kernel
theorem dX_layings_11 : decode mX_layings.2.1 11 = .ok (.getfield 129, 3) := by decide +kernel
theorem dX_layings_14 : decode mX_layings.2.1 14 = .ok (.ireturn, 1) := by decide +kernel
theorem dM_layings_0 : decode mM_layings.2.1 0 = .ok (.aload_n 0, 1) := by decide +kernel
theorem dM_layings_1 : decode mM_layings.2.1 1 = .ok (.iconst (-1), 1) := by decide +kernel
theorem dM_layings_2 : decode mM_layings.2.1 2 = .ok (.invokevirtual 168, 3) := by decide +kernel
theorem dM_layings_5 : decode mM_layings.2.1 5 = .ok (.aload_n 0, 1) := by decide +kernel
theorem dM_layings_6 : decode mM_layings.2.1 6 = .ok (.getfield 157, 3) := by decide +kernel
theorem dM_layings_9 : decode mM_layings.2.1 9 = .ok (.ireturn, 1) := by decide +kernel
theorem dS_waysOfOthers_0 : decode mS_waysOfOthers.2.1 0 = .ok (.iconst 1, 1) := by decide +kernel
theorem dS_waysOfOthers_1 : decode mS_waysOfOthers.2.1 1 = .ok (.istore_n 2, 1) := by decide +kernel
theorem dS_waysOfOthers_2 : decode mS_waysOfOthers.2.1 2 = .ok (.iconst 0, 1) := by decide +kernel
theorem dS_waysOfOthers_3 : decode mS_waysOfOthers.2.1 3 = .ok (.istore_n 3, 1) := by decide +kernel
theorem dS_waysOfOthers_4 : decode mS_waysOfOthers.2.1 4 = .ok (.iload_n 3, 1) := by decide +kernel
theorem dS_waysOfOthers_5 : decode mS_waysOfOthers.2.1 5 = .ok (.iconst 5, 1) := by decide +kernel
theorem dS_waysOfOthers_6 : decode mS_waysOfOthers.2.1 6 = .ok (.if_icmp .ge 31, 3) := by decide +kernel
theorem dS_waysOfOthers_9 : decode mS_waysOfOthers.2.1 9 = .ok (.aload_n 0, 1) := by decide +kernel
theorem dS_waysOfOthers_10 : decode mS_waysOfOthers.2.1 10 = .ok (.iload_n 3, 1) := by decide +kernel
theorem dS_waysOfOthers_11 : decode mS_waysOfOthers.2.1 11 = .ok (.invokevirtual 141, 3) := by decide +kernel
theorem dS_waysOfOthers_14 : decode mS_waysOfOthers.2.1 14 = .ok (.ifCond .eq 17, 3) := by decide +kernel
theorem dS_waysOfOthers_17 : decode mS_waysOfOthers.2.1 17 = .ok (.iload_n 3, 1) := by decide +kernel
theorem dS_waysOfOthers_18 : decode mS_waysOfOthers.2.1 18 = .ok (.iload_n 1, 1) := by decide +kernel
theorem dS_waysOfOthers_19 : decode mS_waysOfOthers.2.1 19 = .ok (.if_icmp .eq 12, 3) := by decide +kernel
theorem dS_waysOfOthers_22 : decode mS_waysOfOthers.2.1 22 = .ok (.iload_n 2, 1) := by decide +kernel
theorem dS_waysOfOthers_23 : decode mS_waysOfOthers.2.1 23 = .ok (.aload_n 0, 1) := by decide +kernel
theorem dS_waysOfOthers_24 : decode mS_waysOfOthers.2.1 24 = .ok (.getfield 57, 3) := by decide +kernel
theorem dS_waysOfOthers_27 : decode mS_waysOfOthers.2.1 27 = .ok (.iload_n 3, 1) := by decide +kernel
theorem dS_waysOfOthers_28 : decode mS_waysOfOthers.2.1 28 = .ok (.iaload, 1) := by decide +kernel
theorem dS_waysOfOthers_29 : decode mS_waysOfOthers.2.1 29 = .ok (.imul, 1) := by decide +kernel
theorem dS_waysOfOthers_30 : decode mS_waysOfOthers.2.1 30 = .ok (.istore_n 2, 1) := by decide +kernel
theorem dS_waysOfOthers_31 : decode mS_waysOfOthers.2.1 31 = .ok (.iinc 3 1, 3) := by decide +kernel
theorem dS_waysOfOthers_34 : decode mS_waysOfOthers.2.1 34 = .ok (.goto (-30), 3) := by decide +kernel
theorem dS_waysOfOthers_37 : decode mS_waysOfOthers.2.1 37 = .ok (.iload_n 2, 1) := by decide +kernel
theorem dS_waysOfOthers_38 : decode mS_waysOfOthers.2.1 38 = .ok (.ireturn, 1) := by decide +kernel
theorem dS_pickSpot_0 : decode mS_pickSpot.2.1 0 = .ok (.aload_n 0, 1) := by decide +kernel
theorem dS_pickSpot_1 : decode mS_pickSpot.2.1 1 = .ok (.getfield 39, 3) := by decide +kernel
theorem dS_pickSpot_4 : decode mS_pickSpot.2.1 4 = .ok (.iload_n 1, 1) := by decide +kernel
theorem dS_pickSpot_5 : decode mS_pickSpot.2.1 5 = .ok (.iaload, 1) := by decide +kernel
theorem dS_pickSpot_6 : decode mS_pickSpot.2.1 6 = .ok (.istore_n 3, 1) := by decide +kernel
theorem dS_pickSpot_7 : decode mS_pickSpot.2.1 7 = .ok (.aload_n 0, 1) := by decide +kernel
theorem dS_pickSpot_8 : decode mS_pickSpot.2.1 8 = .ok (.iload_n 3, 1) := by decide +kernel
theorem dS_pickSpot_9 : decode mS_pickSpot.2.1 9 = .ok (.invokevirtual 194, 3) := by decide +kernel
theorem dS_pickSpot_12 : decode mS_pickSpot.2.1 12 = .ok (.istore 4, 2) := by decide +kernel
theorem dS_pickSpot_14 : decode mS_pickSpot.2.1 14 = .ok (.iload_n 2, 1) := by decide +kernel
theorem dS_pickSpot_15 : decode mS_pickSpot.2.1 15 = .ok (.istore 5, 2) := by decide +kernel
theorem dS_pickSpot_17 : decode mS_pickSpot.2.1 17 = .ok (.iconst 0, 1) := by decide +kernel
theorem dS_pickSpot_18 : decode mS_pickSpot.2.1 18 = .ok (.istore 6, 2) := by decide +kernel
theorem dS_pickSpot_20 : decode mS_pickSpot.2.1 20 = .ok (.iload 6, 2) := by decide +kernel
theorem dS_pickSpot_22 : decode mS_pickSpot.2.1 22 = .ok (.aload_n 0, 1) := by decide +kernel
theorem dS_pickSpot_23 : decode mS_pickSpot.2.1 23 = .ok (.getfield 15, 3) := by decide +kernel
theorem dS_pickSpot_26 : decode mS_pickSpot.2.1 26 = .ok (.if_icmp .ge 85, 3) := by decide +kernel
theorem dS_pickSpot_29 : decode mS_pickSpot.2.1 29 = .ok (.aload_n 0, 1) := by decide +kernel
theorem dS_pickSpot_30 : decode mS_pickSpot.2.1 30 = .ok (.getfield 48, 3) := by decide +kernel
theorem dS_pickSpot_33 : decode mS_pickSpot.2.1 33 = .ok (.iload_n 1, 1) := by decide +kernel
theorem dS_pickSpot_34 : decode mS_pickSpot.2.1 34 = .ok (.iaload, 1) := by decide +kernel
theorem dS_pickSpot_35 : decode mS_pickSpot.2.1 35 = .ok (.iload 6, 2) := by decide +kernel
theorem dS_pickSpot_37 : decode mS_pickSpot.2.1 37 = .ok (.invokestatic 178, 3) := by decide +kernel
theorem dS_pickSpot_40 : decode mS_pickSpot.2.1 40 = .ok (.ifCond .eq 65, 3) := by decide +kernel
theorem dS_pickSpot_43 : decode mS_pickSpot.2.1 43 = .ok (.aload_n 0, 1) := by decide +kernel
theorem dS_pickSpot_44 : decode mS_pickSpot.2.1 44 = .ok (.getfield 45, 3) := by decide +kernel
theorem dS_pickSpot_47 : decode mS_pickSpot.2.1 47 = .ok (.iload_n 1, 1) := by decide +kernel
theorem dS_pickSpot_48 : decode mS_pickSpot.2.1 48 = .ok (.iconst 1, 1) := by decide +kernel
theorem dS_pickSpot_49 : decode mS_pickSpot.2.1 49 = .ok (.iload 6, 2) := by decide +kernel
theorem dS_pickSpot_51 : decode mS_pickSpot.2.1 51 = .ok (.ishl, 1) := by decide +kernel
theorem dS_pickSpot_52 : decode mS_pickSpot.2.1 52 = .ok (.iastore, 1) := by decide +kernel
theorem dS_pickSpot_53 : decode mS_pickSpot.2.1 53 = .ok (.aload_n 0, 1) := by decide +kernel
theorem dS_pickSpot_54 : decode mS_pickSpot.2.1 54 = .ok (.iload_n 3, 1) := by decide +kernel
theorem dS_pickSpot_55 : decode mS_pickSpot.2.1 55 = .ok (.aload_n 0, 1) := by decide +kernel
theorem dS_pickSpot_56 : decode mS_pickSpot.2.1 56 = .ok (.getfield 51, 3) := by decide +kernel
theorem dS_pickSpot_59 : decode mS_pickSpot.2.1 59 = .ok (.iload_n 3, 1) := by decide +kernel
theorem dS_pickSpot_60 : decode mS_pickSpot.2.1 60 = .ok (.iaload, 1) := by decide +kernel
theorem dS_pickSpot_61 : decode mS_pickSpot.2.1 61 = .ok (.invokevirtual 154, 3) := by decide +kernel
theorem dS_pickSpot_64 : decode mS_pickSpot.2.1 64 = .ok (.istore 7, 2) := by decide +kernel
theorem dS_pickSpot_66 : decode mS_pickSpot.2.1 66 = .ok (.iload 5, 2) := by decide +kernel
theorem dS_pickSpot_68 : decode mS_pickSpot.2.1 68 = .ok (.iload 7, 2) := by decide +kernel
theorem dS_pickSpot_70 : decode mS_pickSpot.2.1 70 = .ok (.iload 4, 2) := by decide +kernel
theorem dS_pickSpot_72 : decode mS_pickSpot.2.1 72 = .ok (.imul, 1) := by decide +kernel
theorem dS_pickSpot_73 : decode mS_pickSpot.2.1 73 = .ok (.if_icmp .ge 22, 3) := by decide +kernel
theorem dS_pickSpot_76 : decode mS_pickSpot.2.1 76 = .ok (.aload_n 0, 1) := by decide +kernel
theorem dS_pickSpot_77 : decode mS_pickSpot.2.1 77 = .ok (.getfield 57, 3) := by decide +kernel
theorem dS_pickSpot_80 : decode mS_pickSpot.2.1 80 = .ok (.iload_n 3, 1) := by decide +kernel
theorem dS_pickSpot_81 : decode mS_pickSpot.2.1 81 = .ok (.iload 7, 2) := by decide +kernel
theorem dS_pickSpot_83 : decode mS_pickSpot.2.1 83 = .ok (.iastore, 1) := by decide +kernel
theorem dS_pickSpot_84 : decode mS_pickSpot.2.1 84 = .ok (.aload_n 0, 1) := by decide +kernel
theorem dS_pickSpot_85 : decode mS_pickSpot.2.1 85 = .ok (.getfield 60, 3) := by decide +kernel
theorem dS_pickSpot_88 : decode mS_pickSpot.2.1 88 = .ok (.iload_n 1, 1) := by decide +kernel
theorem dS_pickSpot_89 : decode mS_pickSpot.2.1 89 = .ok (.iload 6, 2) := by decide +kernel
theorem dS_pickSpot_91 : decode mS_pickSpot.2.1 91 = .ok (.iastore, 1) := by decide +kernel
theorem dS_pickSpot_92 : decode mS_pickSpot.2.1 92 = .ok (.iload 5, 2) := by decide +kernel
theorem dS_pickSpot_94 : decode mS_pickSpot.2.1 94 = .ok (.ireturn, 1) := by decide +kernel
theorem dS_pickSpot_95 : decode mS_pickSpot.2.1 95 = .ok (.iload 5, 2) := by decide +kernel
theorem dS_pickSpot_97 : decode mS_pickSpot.2.1 97 = .ok (.iload 7, 2) := by decide +kernel
theorem dS_pickSpot_99 : decode mS_pickSpot.2.1 99 = .ok (.iload 4, 2) := by decide +kernel
theorem dS_pickSpot_101 : decode mS_pickSpot.2.1 101 = .ok (.imul, 1) := by decide +kernel
theorem dS_pickSpot_102 : decode mS_pickSpot.2.1 102 = .ok (.isub, 1) := by decide +kernel
theorem dS_pickSpot_103 : decode mS_pickSpot.2.1 103 = .ok (.istore 5, 2) := by decide +kernel
theorem dS_pickSpot_105 : decode mS_pickSpot.2.1 105 = .ok (.iinc 6 1, 3) := by decide +kernel
theorem dS_pickSpot_108 : decode mS_pickSpot.2.1 108 = .ok (.goto (-88), 3) := by decide +kernel
theorem dS_pickSpot_111 : decode mS_pickSpot.2.1 111 = .ok (.iload 5, 2) := by decide +kernel
theorem dS_pickSpot_113 : decode mS_pickSpot.2.1 113 = .ok (.ireturn, 1) := by decide +kernel
theorem dS_pick_0 : decode mS_pick.2.1 0 = .ok (.iload_n 1, 1) := by decide +kernel
theorem dS_pick_1 : decode mS_pick.2.1 1 = .ok (.istore_n 2, 1) := by decide +kernel
theorem dS_pick_2 : decode mS_pick.2.1 2 = .ok (.iconst 0, 1) := by decide +kernel
theorem dS_pick_3 : decode mS_pick.2.1 3 = .ok (.istore_n 3, 1) := by decide +kernel
theorem dS_pick_4 : decode mS_pick.2.1 4 = .ok (.iload_n 3, 1) := by decide +kernel
theorem dS_pick_5 : decode mS_pick.2.1 5 = .ok (.iconst 5, 1) := by decide +kernel
theorem dS_pick_6 : decode mS_pick.2.1 6 = .ok (.if_icmp .ge 33, 3) := by decide +kernel
theorem dS_pick_9 : decode mS_pick.2.1 9 = .ok (.aload_n 0, 1) := by decide +kernel
theorem dS_pick_10 : decode mS_pick.2.1 10 = .ok (.getfield 45, 3) := by decide +kernel
theorem dS_pick_13 : decode mS_pick.2.1 13 = .ok (.iload_n 3, 1) := by decide +kernel
theorem dS_pick_14 : decode mS_pick.2.1 14 = .ok (.aload_n 0, 1) := by decide +kernel
theorem dS_pick_15 : decode mS_pick.2.1 15 = .ok (.getfield 48, 3) := by decide +kernel
theorem dS_pick_18 : decode mS_pick.2.1 18 = .ok (.iload_n 3, 1) := by decide +kernel
theorem dS_pick_19 : decode mS_pick.2.1 19 = .ok (.iaload, 1) := by decide +kernel
theorem dS_pick_20 : decode mS_pick.2.1 20 = .ok (.iastore, 1) := by decide +kernel
theorem dS_pick_21 : decode mS_pick.2.1 21 = .ok (.aload_n 0, 1) := by decide +kernel
theorem dS_pick_22 : decode mS_pick.2.1 22 = .ok (.getfield 57, 3) := by decide +kernel
theorem dS_pick_25 : decode mS_pick.2.1 25 = .ok (.iload_n 3, 1) := by decide +kernel
theorem dS_pick_26 : decode mS_pick.2.1 26 = .ok (.aload_n 0, 1) := by decide +kernel
theorem dS_pick_27 : decode mS_pick.2.1 27 = .ok (.getfield 54, 3) := by decide +kernel
theorem dS_pick_30 : decode mS_pick.2.1 30 = .ok (.iload_n 3, 1) := by decide +kernel
theorem dS_pick_31 : decode mS_pick.2.1 31 = .ok (.iaload, 1) := by decide +kernel
theorem dS_pick_32 : decode mS_pick.2.1 32 = .ok (.iastore, 1) := by decide +kernel
theorem dS_pick_33 : decode mS_pick.2.1 33 = .ok (.iinc 3 1, 3) := by decide +kernel
theorem dS_pick_36 : decode mS_pick.2.1 36 = .ok (.goto (-32), 3) := by decide +kernel
theorem dS_pick_39 : decode mS_pick.2.1 39 = .ok (.iconst 0, 1) := by decide +kernel
theorem dS_pick_40 : decode mS_pick.2.1 40 = .ok (.istore_n 3, 1) := by decide +kernel
theorem dS_pick_41 : decode mS_pick.2.1 41 = .ok (.iload_n 3, 1) := by decide +kernel
theorem dS_pick_42 : decode mS_pick.2.1 42 = .ok (.iconst 5, 1) := by decide +kernel
theorem dS_pick_43 : decode mS_pick.2.1 43 = .ok (.if_icmp .ge 25, 3) := by decide +kernel
theorem dS_pick_46 : decode mS_pick.2.1 46 = .ok (.aload_n 0, 1) := by decide +kernel
theorem dS_pick_47 : decode mS_pick.2.1 47 = .ok (.getfield 35, 3) := by decide +kernel
theorem dS_pick_50 : decode mS_pick.2.1 50 = .ok (.iload_n 3, 1) := by decide +kernel
theorem dS_pick_51 : decode mS_pick.2.1 51 = .ok (.baload, 1) := by decide +kernel
theorem dS_pick_52 : decode mS_pick.2.1 52 = .ok (.ifCond .eq 10, 3) := by decide +kernel
theorem dS_pick_55 : decode mS_pick.2.1 55 = .ok (.aload_n 0, 1) := by decide +kernel
theorem dS_pick_56 : decode mS_pick.2.1 56 = .ok (.iload_n 3, 1) := by decide +kernel
theorem dS_pick_57 : decode mS_pick.2.1 57 = .ok (.iload_n 2, 1) := by decide +kernel
theorem dS_pick_58 : decode mS_pick.2.1 58 = .ok (.invokevirtual 191, 3) := by decide +kernel
theorem dS_pick_61 : decode mS_pick.2.1 61 = .ok (.istore_n 2, 1) := by decide +kernel
theorem dS_pick_62 : decode mS_pick.2.1 62 = .ok (.iinc 3 1, 3) := by decide +kernel
theorem dS_pick_65 : decode mS_pick.2.1 65 = .ok (.goto (-24), 3) := by decide +kernel
theorem dS_pick_68 : decode mS_pick.2.1 68 = .ok (.return_, 1) := by decide +kernel
theorem dS_spotIn_0 : decode mS_spotIn.2.1 0 = .ok (.aload_n 0, 1) := by decide +kernel
theorem dS_spotIn_1 : decode mS_spotIn.2.1 1 = .ok (.getfield 32, 3) := by decide +kernel
theorem dS_spotIn_4 : decode mS_spotIn.2.1 4 = .ok (.iload_n 1, 1) := by decide +kernel
theorem dS_spotIn_5 : decode mS_spotIn.2.1 5 = .ok (.if_icmp .eq 13, 3) := by decide +kernel
theorem dS_spotIn_8 : decode mS_spotIn.2.1 8 = .ok (.aload_n 0, 1) := by decide +kernel
theorem dS_spotIn_9 : decode mS_spotIn.2.1 9 = .ok (.iload_n 1, 1) := by decide +kernel
theorem dS_spotIn_10 : decode mS_spotIn.2.1 10 = .ok (.invokevirtual 105, 3) := by decide +kernel
theorem dS_spotIn_13 : decode mS_spotIn.2.1 13 = .ok (.aload_n 0, 1) := by decide +kernel
theorem dS_spotIn_14 : decode mS_spotIn.2.1 14 = .ok (.iload_n 1, 1) := by decide +kernel
theorem dS_spotIn_15 : decode mS_spotIn.2.1 15 = .ok (.putfield 32, 3) := by decide +kernel
theorem dS_spotIn_18 : decode mS_spotIn.2.1 18 = .ok (.aload_n 0, 1) := by decide +kernel
theorem dS_spotIn_19 : decode mS_spotIn.2.1 19 = .ok (.getfield 60, 3) := by decide +kernel
theorem dS_spotIn_22 : decode mS_spotIn.2.1 22 = .ok (.iload_n 2, 1) := by decide +kernel
theorem dS_spotIn_23 : decode mS_spotIn.2.1 23 = .ok (.iaload, 1) := by decide +kernel
theorem dS_spotIn_24 : decode mS_spotIn.2.1 24 = .ok (.ireturn, 1) := by decide +kernel
theorem dX_laying_0 : decode mX_laying.2.1 0 = .ok (.aload_n 0, 1) := by decide +kernel
theorem dX_laying_1 : decode mX_laying.2.1 1 = .ok (.getfield 12, 3) := by decide +kernel
theorem dX_laying_4 : decode mX_laying.2.1 4 = .ok (.iload_n 2, 1) := by decide +kernel
theorem dX_laying_5 : decode mX_laying.2.1 5 = .ok (.invokevirtual 94, 3) := by decide +kernel
theorem dX_laying_8 : decode mX_laying.2.1 8 = .ok (.ifCond .ne 5, 3) := by decide +kernel
theorem dX_laying_11 : decode mX_laying.2.1 11 = .ok (.iconst (-1), 1) := by decide +kernel
theorem dX_laying_12 : decode mX_laying.2.1 12 = .ok (.ireturn, 1) := by decide +kernel
theorem dX_laying_13 : decode mX_laying.2.1 13 = .ok (.aload_n 0, 1) := by decide +kernel
theorem dX_laying_14 : decode mX_laying.2.1 14 = .ok (.getfield 12, 3) := by decide +kernel
theorem dX_laying_17 : decode mX_laying.2.1 17 = .ok (.iload_n 2, 1) := by decide +kernel
theorem dX_laying_18 : decode mX_laying.2.1 18 = .ok (.invokevirtual 120, 3) := by decide +kernel
theorem dX_laying_21 : decode mX_laying.2.1 21 = .ok (.ifCond .ne 6, 3) := by decide +kernel
theorem dX_laying_24 : decode mX_laying.2.1 24 = .ok (.bipush (-5), 2) := by decide +kernel
theorem dX_laying_26 : decode mX_laying.2.1 26 = .ok (.ireturn, 1) := by decide +kernel
theorem dX_laying_27 : decode mX_laying.2.1 27 = .ok (.aload_n 0, 1) := by decide +kernel
theorem dX_laying_28 : decode mX_laying.2.1 28 = .ok (.getfield 24, 3) := by decide +kernel
theorem dX_laying_31 : decode mX_laying.2.1 31 = .ok (.invokevirtual 126, 3) := by decide +kernel
theorem dX_laying_34 : decode mX_laying.2.1 34 = .ok (.iload_n 1, 1) := by decide +kernel
theorem dX_laying_35 : decode mX_laying.2.1 35 = .ok (.iconst 0, 1) := by decide +kernel
theorem dX_laying_36 : decode mX_laying.2.1 36 = .ok (.aload_n 0, 1) := by decide +kernel
theorem dX_laying_37 : decode mX_laying.2.1 37 = .ok (.getfield 24, 3) := by decide +kernel
theorem dX_laying_40 : decode mX_laying.2.1 40 = .ok (.getfield 129, 3) := by decide +kernel
theorem dX_laying_43 : decode mX_laying.2.1 43 = .ok (.iconst 1, 1) := by decide +kernel
theorem dX_laying_44 : decode mX_laying.2.1 44 = .ok (.isub, 1) := by decide +kernel
theorem dX_laying_45 : decode mX_laying.2.1 45 = .ok (.invokestatic 41, 3) := by decide +kernel
theorem dX_laying_48 : decode mX_laying.2.1 48 = .ok (.ifCond .eq 15, 3) := by decide +kernel
theorem dX_laying_51 : decode mX_laying.2.1 51 = .ok (.aload_n 0, 1) := by decide +kernel
theorem dX_laying_52 : decode mX_laying.2.1 52 = .ok (.getfield 24, 3) := by decide +kernel
theorem dX_laying_55 : decode mX_laying.2.1 55 = .ok (.iload_n 1, 1) := by decide +kernel
theorem dX_laying_56 : decode mX_laying.2.1 56 = .ok (.iload_n 2, 1) := by decide +kernel
theorem dX_laying_57 : decode mX_laying.2.1 57 = .ok (.invokevirtual 135, 3) := by decide +kernel
theorem dX_laying_60 : decode mX_laying.2.1 60 = .ok (.goto 5, 3) := by decide +kernel
theorem dX_laying_63 : decode mX_laying.2.1 63 = .ok (.bipush (-4), 2) := by decide +kernel
theorem dX_laying_65 : decode mX_laying.2.1 65 = .ok (.ireturn, 1) := by decide +kernel
theorem dM_laying_0 : decode mM_laying.2.1 0 = .ok (.aload_n 0, 1) := by decide +kernel
theorem dM_laying_1 : decode mM_laying.2.1 1 = .ok (.iload_n 2, 1) := by decide +kernel
theorem dM_laying_2 : decode mM_laying.2.1 2 = .ok (.invokevirtual 117, 3) := by decide +kernel
theorem dM_laying_5 : decode mM_laying.2.1 5 = .ok (.ifCond .ne 5, 3) := by decide +kernel
theorem dM_laying_8 : decode mM_laying.2.1 8 = .ok (.iconst (-1), 1) := by decide +kernel
theorem dM_laying_9 : decode mM_laying.2.1 9 = .ok (.ireturn, 1) := by decide +kernel
theorem dM_laying_10 : decode mM_laying.2.1 10 = .ok (.aload_n 0, 1) := by decide +kernel
theorem dM_laying_11 : decode mM_laying.2.1 11 = .ok (.iload_n 2, 1) := by decide +kernel
theorem dM_laying_12 : decode mM_laying.2.1 12 = .ok (.invokevirtual 136, 3) := by decide +kernel
theorem dM_laying_15 : decode mM_laying.2.1 15 = .ok (.ifCond .ne 6, 3) := by decide +kernel
theorem dM_laying_18 : decode mM_laying.2.1 18 = .ok (.bipush (-5), 2) := by decide +kernel
theorem dM_laying_20 : decode mM_laying.2.1 20 = .ok (.ireturn, 1) := by decide +kernel
theorem dM_laying_21 : decode mM_laying.2.1 21 = .ok (.aload_n 0, 1) := by decide +kernel
theorem dM_laying_22 : decode mM_laying.2.1 22 = .ok (.iload_n 1, 1) := by decide +kernel
theorem dM_laying_23 : decode mM_laying.2.1 23 = .ok (.invokevirtual 168, 3) := by decide +kernel
theorem dM_laying_26 : decode mM_laying.2.1 26 = .ok (.iload_n 1, 1) := by decide +kernel
theorem dM_laying_27 : decode mM_laying.2.1 27 = .ok (.iconst 0, 1) := by decide +kernel
theorem dM_laying_28 : decode mM_laying.2.1 28 = .ok (.aload_n 0, 1) := by decide +kernel
theorem dM_laying_29 : decode mM_laying.2.1 29 = .ok (.getfield 157, 3) := by decide +kernel
theorem dM_laying_32 : decode mM_laying.2.1 32 = .ok (.iconst 1, 1) := by decide +kernel
theorem dM_laying_33 : decode mM_laying.2.1 33 = .ok (.isub, 1) := by decide +kernel
theorem dM_laying_34 : decode mM_laying.2.1 34 = .ok (.invokestatic 99, 3) := by decide +kernel
theorem dM_laying_37 : decode mM_laying.2.1 37 = .ok (.ifCond .ne 6, 3) := by decide +kernel
theorem dM_laying_40 : decode mM_laying.2.1 40 = .ok (.bipush (-4), 2) := by decide +kernel
theorem dM_laying_42 : decode mM_laying.2.1 42 = .ok (.ireturn, 1) := by decide +kernel
theorem dM_laying_43 : decode mM_laying.2.1 43 = .ok (.iconst 0, 1) := by decide +kernel
theorem dM_laying_44 : decode mM_laying.2.1 44 = .ok (.istore_n 3, 1) := by decide +kernel
theorem dM_laying_45 : decode mM_laying.2.1 45 = .ok (.aload_n 0, 1) := by decide +kernel
theorem dM_laying_46 : decode mM_laying.2.1 46 = .ok (.getfield 75, 3) := by decide +kernel
theorem dM_laying_49 : decode mM_laying.2.1 49 = .ok (.iload_n 3, 1) := by decide +kernel
theorem dM_laying_50 : decode mM_laying.2.1 50 = .ok (.iaload, 1) := by decide +kernel
theorem dM_laying_51 : decode mM_laying.2.1 51 = .ok (.iload_n 2, 1) := by decide +kernel
theorem dM_laying_52 : decode mM_laying.2.1 52 = .ok (.if_icmp .eq 9, 3) := by decide +kernel
theorem dM_laying_55 : decode mM_laying.2.1 55 = .ok (.iinc 3 1, 3) := by decide +kernel
theorem dM_laying_58 : decode mM_laying.2.1 58 = .ok (.goto (-13), 3) := by decide +kernel
theorem dM_laying_61 : decode mM_laying.2.1 61 = .ok (.aload_n 0, 1) := by decide +kernel
theorem dM_laying_62 : decode mM_laying.2.1 62 = .ok (.getfield 90, 3) := by decide +kernel
theorem dM_laying_65 : decode mM_laying.2.1 65 = .ok (.iload_n 3, 1) := by decide +kernel
theorem dM_laying_66 : decode mM_laying.2.1 66 = .ok (.iaload, 1) := by decide +kernel
theorem dM_laying_67 : decode mM_laying.2.1 67 = .ok (.ireturn, 1) := by decide +kernel
theorem dX_refusalOf_0 : decode mX_refusalOf.2.1 0 = .ok (.aload_n 0, 1) := by decide +kernel
theorem dX_refusalOf_1 : decode mX_refusalOf.2.1 1 = .ok (.getfield 12, 3) := by decide +kernel
theorem dX_refusalOf_4 : decode mX_refusalOf.2.1 4 = .ok (.iload_n 1, 1) := by decide +kernel
theorem dX_refusalOf_5 : decode mX_refusalOf.2.1 5 = .ok (.invokevirtual 67, 3) := by decide +kernel
theorem dX_refusalOf_8 : decode mX_refusalOf.2.1 8 = .ok (.ifCond .ne 5, 3) := by decide +kernel
theorem dX_refusalOf_11 : decode mX_refusalOf.2.1 11 = .ok (.iconst (-1), 1) := by decide +kernel
theorem dX_refusalOf_12 : decode mX_refusalOf.2.1 12 = .ok (.ireturn, 1) := by decide +kernel
theorem dX_refusalOf_13 : decode mX_refusalOf.2.1 13 = .ok (.aload_n 0, 1) := by decide +kernel
theorem dX_refusalOf_14 : decode mX_refusalOf.2.1 14 = .ok (.getfield 12, 3) := by decide +kernel
theorem dX_refusalOf_17 : decode mX_refusalOf.2.1 17 = .ok (.aload_n 0, 1) := by decide +kernel
theorem dX_refusalOf_18 : decode mX_refusalOf.2.1 18 = .ok (.getfield 12, 3) := by decide +kernel
theorem dX_refusalOf_21 : decode mX_refusalOf.2.1 21 = .ok (.iload_n 1, 1) := by decide +kernel
theorem dX_refusalOf_22 : decode mX_refusalOf.2.1 22 = .ok (.iconst 0, 1) := by decide +kernel
theorem dX_refusalOf_23 : decode mX_refusalOf.2.1 23 = .ok (.invokevirtual 88, 3) := by decide +kernel
theorem dX_refusalOf_26 : decode mX_refusalOf.2.1 26 = .ok (.invokevirtual 120, 3) := by decide +kernel
theorem dX_refusalOf_29 : decode mX_refusalOf.2.1 29 = .ok (.ifCond .ne 6, 3) := by decide +kernel
theorem dX_refusalOf_32 : decode mX_refusalOf.2.1 32 = .ok (.bipush (-5), 2) := by decide +kernel
theorem dX_refusalOf_34 : decode mX_refusalOf.2.1 34 = .ok (.ireturn, 1) := by decide +kernel
theorem dX_refusalOf_35 : decode mX_refusalOf.2.1 35 = .ok (.aload_n 0, 1) := by decide +kernel
theorem dX_refusalOf_36 : decode mX_refusalOf.2.1 36 = .ok (.getfield 24, 3) := by decide +kernel
theorem dX_refusalOf_39 : decode mX_refusalOf.2.1 39 = .ok (.invokevirtual 126, 3) := by decide +kernel
theorem dX_refusalOf_42 : decode mX_refusalOf.2.1 42 = .ok (.aload_n 0, 1) := by decide +kernel
theorem dX_refusalOf_43 : decode mX_refusalOf.2.1 43 = .ok (.getfield 24, 3) := by decide +kernel
theorem dX_refusalOf_46 : decode mX_refusalOf.2.1 46 = .ok (.getfield 129, 3) := by decide +kernel
theorem dX_refusalOf_49 : decode mX_refusalOf.2.1 49 = .ok (.ifCond .ne 8, 3) := by decide +kernel
theorem dX_refusalOf_52 : decode mX_refusalOf.2.1 52 = .ok (.bipush (-4), 2) := by decide +kernel
theorem dX_refusalOf_54 : decode mX_refusalOf.2.1 54 = .ok (.goto 4, 3) := by decide +kernel
theorem dX_refusalOf_57 : decode mX_refusalOf.2.1 57 = .ok (.iconst 0, 1) := by decide +kernel
theorem dX_refusalOf_58 : decode mX_refusalOf.2.1 58 = .ok (.ireturn, 1) := by decide +kernel
theorem dX_place_0 : decode mX_place.2.1 0 = .ok (.aload_n 0, 1) := by decide +kernel
theorem dX_place_1 : decode mX_place.2.1 1 = .ok (.iload_n 1, 1) := by decide +kernel
theorem dX_place_2 : decode mX_place.2.1 2 = .ok (.invokevirtual 138, 3) := by decide +kernel
theorem dX_place_5 : decode mX_place.2.1 5 = .ok (.istore_n 2, 1) := by decide +kernel
theorem dX_place_6 : decode mX_place.2.1 6 = .ok (.iload_n 2, 1) := by decide +kernel
theorem dX_place_7 : decode mX_place.2.1 7 = .ok (.ifCond .eq 5, 3) := by decide +kernel
theorem dX_place_10 : decode mX_place.2.1 10 = .ok (.iload_n 2, 1) := by decide +kernel
theorem dX_place_11 : decode mX_place.2.1 11 = .ok (.ireturn, 1) := by decide +kernel
theorem dX_place_12 : decode mX_place.2.1 12 = .ok (.aload_n 0, 1) := by decide +kernel
theorem dX_place_13 : decode mX_place.2.1 13 = .ok (.getfield 24, 3) := by decide +kernel
theorem dX_place_16 : decode mX_place.2.1 16 = .ok (.getfield 142, 3) := by decide +kernel
theorem dX_place_19 : decode mX_place.2.1 19 = .ok (.iload_n 1, 1) := by decide +kernel
theorem dX_place_20 : decode mX_place.2.1 20 = .ok (.iaload, 1) := by decide +kernel
theorem dX_place_21 : decode mX_place.2.1 21 = .ok (.istore_n 3, 1) := by decide +kernel
theorem dX_place_22 : decode mX_place.2.1 22 = .ok (.iload_n 3, 1) := by decide +kernel
theorem dX_place_23 : decode mX_place.2.1 23 = .ok (.iconst (-1), 1) := by decide +kernel
theorem dX_place_24 : decode mX_place.2.1 24 = .ok (.if_icmp .ne 8, 3) := by decide +kernel
theorem dX_place_27 : decode mX_place.2.1 27 = .ok (.bipush (-6), 2) := by decide +kernel
theorem dX_place_29 : decode mX_place.2.1 29 = .ok (.goto 4, 3) := by decide +kernel
theorem dX_place_32 : decode mX_place.2.1 32 = .ok (.iload_n 3, 1) := by decide +kernel
theorem dX_place_33 : decode mX_place.2.1 33 = .ok (.ireturn, 1) := by decide +kernel
theorem dM_rivals_0 : decode mM_rivals.2.1 0 = .ok (.aload_n 0, 1) := by decide +kernel
theorem dM_rivals_1 : decode mM_rivals.2.1 1 = .ok (.iload_n 1, 1) := by decide +kernel
theorem dM_rivals_2 : decode mM_rivals.2.1 2 = .ok (.invokevirtual 110, 3) := by decide +kernel
theorem dM_rivals_5 : decode mM_rivals.2.1 5 = .ok (.ifCond .ne 5, 3) := by decide +kernel
theorem dM_rivals_8 : decode mM_rivals.2.1 8 = .ok (.iconst (-1), 1) := by decide +kernel
theorem dM_rivals_9 : decode mM_rivals.2.1 9 = .ok (.ireturn, 1) := by decide +kernel
theorem dM_rivals_10 : decode mM_rivals.2.1 10 = .ok (.aload_n 0, 1) := by decide +kernel
theorem dM_rivals_11 : decode mM_rivals.2.1 11 = .ok (.aload_n 0, 1) := by decide +kernel
theorem dM_rivals_12 : decode mM_rivals.2.1 12 = .ok (.getfield 33, 3) := by decide +kernel
theorem dM_rivals_15 : decode mM_rivals.2.1 15 = .ok (.iload_n 1, 1) := by decide +kernel
theorem dM_rivals_16 : decode mM_rivals.2.1 16 = .ok (.iaload, 1) := by decide +kernel
theorem dM_rivals_17 : decode mM_rivals.2.1 17 = .ok (.invokevirtual 136, 3) := by decide +kernel
theorem dM_rivals_20 : decode mM_rivals.2.1 20 = .ok (.ifCond .ne 6, 3) := by decide +kernel
theorem dM_rivals_23 : decode mM_rivals.2.1 23 = .ok (.bipush (-5), 2) := by decide +kernel
theorem dM_rivals_25 : decode mM_rivals.2.1 25 = .ok (.ireturn, 1) := by decide +kernel
theorem dM_rivals_26 : decode mM_rivals.2.1 26 = .ok (.aload_n 0, 1) := by decide +kernel
theorem dM_rivals_27 : decode mM_rivals.2.1 27 = .ok (.iconst (-1), 1) := by decide +kernel
theorem dM_rivals_28 : decode mM_rivals.2.1 28 = .ok (.invokevirtual 168, 3) := by decide +kernel
theorem dM_rivals_31 : decode mM_rivals.2.1 31 = .ok (.aload_n 0, 1) := by decide +kernel
theorem dM_rivals_32 : decode mM_rivals.2.1 32 = .ok (.getfield 157, 3) := by decide +kernel
theorem dM_rivals_35 : decode mM_rivals.2.1 35 = .ok (.ifCond .ne 8, 3) := by decide +kernel
theorem dM_rivals_38 : decode mM_rivals.2.1 38 = .ok (.bipush (-4), 2) := by decide +kernel
theorem dM_rivals_40 : decode mM_rivals.2.1 40 = .ok (.goto 9, 3) := by decide +kernel
theorem dM_rivals_43 : decode mM_rivals.2.1 43 = .ok (.aload_n 0, 1) := by decide +kernel
theorem dM_rivals_44 : decode mM_rivals.2.1 44 = .ok (.getfield 87, 3) := by decide +kernel
theorem dM_rivals_47 : decode mM_rivals.2.1 47 = .ok (.iload_n 1, 1) := by decide +kernel
theorem dM_rivals_48 : decode mM_rivals.2.1 48 = .ok (.iaload, 1) := by decide +kernel
theorem dM_rivals_49 : decode mM_rivals.2.1 49 = .ok (.ireturn, 1) := by decide +kernel
theorem dM_manyOf_0 : decode mM_manyOf.2.1 0 = .ok (.iconst 0, 1) := by decide +kernel
theorem dM_manyOf_1 : decode mM_manyOf.2.1 1 = .ok (.istore_n 1, 1) := by decide +kernel
theorem dM_manyOf_2 : decode mM_manyOf.2.1 2 = .ok (.iconst 0, 1) := by decide +kernel
theorem dM_manyOf_3 : decode mM_manyOf.2.1 3 = .ok (.istore_n 2, 1) := by decide +kernel
theorem dM_manyOf_4 : decode mM_manyOf.2.1 4 = .ok (.iload_n 2, 1) := by decide +kernel
theorem dM_manyOf_5 : decode mM_manyOf.2.1 5 = .ok (.bipush 9, 2) := by decide +kernel
theorem dM_manyOf_7 : decode mM_manyOf.2.1 7 = .ok (.if_icmp .ge 17, 3) := by decide +kernel
theorem dM_manyOf_10 : decode mM_manyOf.2.1 10 = .ok (.iload_n 1, 1) := by decide +kernel
theorem dM_manyOf_11 : decode mM_manyOf.2.1 11 = .ok (.iload_n 0, 1) := by decide +kernel
theorem dM_manyOf_12 : decode mM_manyOf.2.1 12 = .ok (.iload_n 2, 1) := by decide +kernel
theorem dM_manyOf_13 : decode mM_manyOf.2.1 13 = .ok (.ishr, 1) := by decide +kernel
theorem dM_manyOf_14 : decode mM_manyOf.2.1 14 = .ok (.iconst 1, 1) := by decide +kernel
theorem dM_manyOf_15 : decode mM_manyOf.2.1 15 = .ok (.iand, 1) := by decide +kernel
theorem dM_manyOf_16 : decode mM_manyOf.2.1 16 = .ok (.iadd, 1) := by decide +kernel
theorem dM_manyOf_17 : decode mM_manyOf.2.1 17 = .ok (.istore_n 1, 1) := by decide +kernel
theorem dM_manyOf_18 : decode mM_manyOf.2.1 18 = .ok (.iinc 2 1, 3) := by decide +kernel
theorem dM_manyOf_21 : decode mM_manyOf.2.1 21 = .ok (.goto (-17), 3) := by decide +kernel
theorem dM_manyOf_24 : decode mM_manyOf.2.1 24 = .ok (.iload_n 1, 1) := by decide +kernel
theorem dM_manyOf_25 : decode mM_manyOf.2.1 25 = .ok (.ireturn, 1) := by decide +kernel
theorem dM_placeIn_0 : decode mM_placeIn.2.1 0 = .ok (.iconst 0, 1) := by decide +kernel
theorem dM_placeIn_1 : decode mM_placeIn.2.1 1 = .ok (.istore_n 1, 1) := by decide +kernel
theorem dM_placeIn_2 : decode mM_placeIn.2.1 2 = .ok (.iload_n 0, 1) := by decide +kernel
theorem dM_placeIn_3 : decode mM_placeIn.2.1 3 = .ok (.iload_n 1, 1) := by decide +kernel
theorem dM_placeIn_4 : decode mM_placeIn.2.1 4 = .ok (.ishr, 1) := by decide +kernel
theorem dM_placeIn_5 : decode mM_placeIn.2.1 5 = .ok (.iconst 1, 1) := by decide +kernel
theorem dM_placeIn_6 : decode mM_placeIn.2.1 6 = .ok (.iand, 1) := by decide +kernel
theorem dM_placeIn_7 : decode mM_placeIn.2.1 7 = .ok (.ifCond .ne 9, 3) := by decide +kernel
theorem dM_placeIn_10 : decode mM_placeIn.2.1 10 = .ok (.iinc 1 1, 3) := by decide +kernel
theorem dM_placeIn_13 : decode mM_placeIn.2.1 13 = .ok (.goto (-11), 3) := by decide +kernel
theorem dM_placeIn_16 : decode mM_placeIn.2.1 16 = .ok (.iload_n 1, 1) := by decide +kernel
theorem dM_placeIn_17 : decode mM_placeIn.2.1 17 = .ok (.ireturn, 1) := by decide +kernel
theorem dM_place_0 : decode mM_place.2.1 0 = .ok (.aload_n 0, 1) := by decide +kernel
theorem dM_place_1 : decode mM_place.2.1 1 = .ok (.iload_n 1, 1) := by decide +kernel
theorem dM_place_2 : decode mM_place.2.1 2 = .ok (.invokevirtual 172, 3) := by decide +kernel
theorem dM_place_5 : decode mM_place.2.1 5 = .ok (.istore_n 2, 1) := by decide +kernel
theorem dM_place_6 : decode mM_place.2.1 6 = .ok (.iload_n 2, 1) := by decide +kernel
theorem dM_place_7 : decode mM_place.2.1 7 = .ok (.ifCond .ge 5, 3) := by decide +kernel
theorem dM_place_10 : decode mM_place.2.1 10 = .ok (.iload_n 2, 1) := by decide +kernel
theorem dM_place_11 : decode mM_place.2.1 11 = .ok (.ireturn, 1) := by decide +kernel
theorem dM_place_12 : decode mM_place.2.1 12 = .ok (.iload_n 2, 1) := by decide +kernel
theorem dM_place_13 : decode mM_place.2.1 13 = .ok (.invokestatic 175, 3) := by decide +kernel
theorem dM_place_16 : decode mM_place.2.1 16 = .ok (.iconst 1, 1) := by decide +kernel
theorem dM_place_17 : decode mM_place.2.1 17 = .ok (.if_icmp .ne 10, 3) := by decide +kernel
theorem dM_place_20 : decode mM_place.2.1 20 = .ok (.iload_n 2, 1) := by decide +kernel
theorem dM_place_21 : decode mM_place.2.1 21 = .ok (.invokestatic 178, 3) := by decide +kernel
theorem dM_place_24 : decode mM_place.2.1 24 = .ok (.goto 5, 3) := by decide +kernel
theorem dM_place_27 : decode mM_place.2.1 27 = .ok (.bipush (-6), 2) := by decide +kernel
theorem dM_place_29 : decode mM_place.2.1 29 = .ok (.ireturn, 1) := by decide +kernel
theorem dX_rivals_0 : decode mX_rivals.2.1 0 = .ok (.aload_n 0, 1) := by decide +kernel
theorem dX_rivals_1 : decode mX_rivals.2.1 1 = .ok (.iload_n 1, 1) := by decide +kernel
theorem dX_rivals_2 : decode mX_rivals.2.1 2 = .ok (.invokevirtual 138, 3) := by decide +kernel
theorem dX_rivals_5 : decode mX_rivals.2.1 5 = .ok (.istore_n 2, 1) := by decide +kernel
theorem dX_rivals_6 : decode mX_rivals.2.1 6 = .ok (.iload_n 2, 1) := by decide +kernel
theorem dX_rivals_7 : decode mX_rivals.2.1 7 = .ok (.ifCond .eq 7, 3) := by decide +kernel
theorem dX_rivals_10 : decode mX_rivals.2.1 10 = .ok (.iload_n 2, 1) := by decide +kernel
theorem dX_rivals_11 : decode mX_rivals.2.1 11 = .ok (.goto 11, 3) := by decide +kernel
theorem dX_rivals_14 : decode mX_rivals.2.1 14 = .ok (.aload_n 0, 1) := by decide +kernel
theorem dX_rivals_15 : decode mX_rivals.2.1 15 = .ok (.getfield 24, 3) := by decide +kernel
theorem dX_rivals_18 : decode mX_rivals.2.1 18 = .ok (.iload_n 1, 1) := by decide +kernel
theorem dX_rivals_19 : decode mX_rivals.2.1 19 = .ok (.invokevirtual 146, 3) := by decide +kernel
theorem dX_rivals_22 : decode mX_rivals.2.1 22 = .ok (.ireturn, 1) := by decide +kernel
theorem dT_hasPlace_0 : decode mT_hasPlace.2.1 0 = .ok (.iload_n 1, 1) := by decide +kernel
theorem dT_hasPlace_1 : decode mT_hasPlace.2.1 1 = .ok (.iconst 0, 1) := by decide +kernel
theorem dT_hasPlace_2 : decode mT_hasPlace.2.1 2 = .ok (.aload_n 0, 1) := by decide +kernel
theorem dT_hasPlace_3 : decode mT_hasPlace.2.1 3 = .ok (.invokevirtual 43, 3) := by decide +kernel
theorem dT_hasPlace_6 : decode mT_hasPlace.2.1 6 = .ok (.iconst 1, 1) := by decide +kernel
theorem dT_hasPlace_7 : decode mT_hasPlace.2.1 7 = .ok (.isub, 1) := by decide +kernel
theorem dT_hasPlace_8 : decode mT_hasPlace.2.1 8 = .ok (.invokestatic 47, 3) := by decide +kernel
theorem dT_hasPlace_11 : decode mT_hasPlace.2.1 11 = .ok (.ireturn, 1) := by decide +kernel
theorem dU_insert_0 : decode mU_insert.2.1 0 = .ok (.aload_n 0, 1) := by decide +kernel
theorem dU_insert_1 : decode mU_insert.2.1 1 = .ok (.getfield 15, 3) := by decide +kernel
theorem dU_insert_4 : decode mU_insert.2.1 4 = .ok (.iload_n 1, 1) := by decide +kernel
theorem dU_insert_5 : decode mU_insert.2.1 5 = .ok (.iconst 5, 1) := by decide +kernel
theorem dU_insert_6 : decode mU_insert.2.1 6 = .ok (.invokevirtual 38, 3) := by decide +kernel
theorem dU_insert_9 : decode mU_insert.2.1 9 = .ok (.istore_n 3, 1) := by decide +kernel
theorem dU_insert_10 : decode mU_insert.2.1 10 = .ok (.iload_n 2, 1) := by decide +kernel
theorem dU_insert_11 : decode mU_insert.2.1 11 = .ok (.istore 4, 2) := by decide +kernel
theorem dU_insert_13 : decode mU_insert.2.1 13 = .ok (.iload 4, 2) := by decide +kernel
theorem dU_insert_15 : decode mU_insert.2.1 15 = .ok (.ifCond .le 46, 3) := by decide +kernel
theorem dU_insert_18 : decode mU_insert.2.1 18 = .ok (.aload_n 0, 1) := by decide +kernel
theorem dU_insert_19 : decode mU_insert.2.1 19 = .ok (.getfield 15, 3) := by decide +kernel
theorem dU_insert_22 : decode mU_insert.2.1 22 = .ok (.aload_n 0, 1) := by decide +kernel
theorem dU_insert_23 : decode mU_insert.2.1 23 = .ok (.getfield 9, 3) := by decide +kernel
theorem dU_insert_26 : decode mU_insert.2.1 26 = .ok (.iload 4, 2) := by decide +kernel
theorem dU_insert_28 : decode mU_insert.2.1 28 = .ok (.iconst 1, 1) := by decide +kernel
theorem dU_insert_29 : decode mU_insert.2.1 29 = .ok (.isub, 1) := by decide +kernel
theorem dU_insert_30 : decode mU_insert.2.1 30 = .ok (.iaload, 1) := by decide +kernel
theorem dU_insert_31 : decode mU_insert.2.1 31 = .ok (.iconst 5, 1) := by decide +kernel
theorem dU_insert_32 : decode mU_insert.2.1 32 = .ok (.invokevirtual 38, 3) := by decide +kernel
theorem dU_insert_35 : decode mU_insert.2.1 35 = .ok (.iload_n 3, 1) := by decide +kernel
theorem dU_insert_36 : decode mU_insert.2.1 36 = .ok (.if_icmp .le 25, 3) := by decide +kernel
theorem dU_insert_39 : decode mU_insert.2.1 39 = .ok (.aload_n 0, 1) := by decide +kernel
theorem dU_insert_40 : decode mU_insert.2.1 40 = .ok (.getfield 9, 3) := by decide +kernel
theorem dU_insert_43 : decode mU_insert.2.1 43 = .ok (.iload 4, 2) := by decide +kernel
theorem dU_insert_45 : decode mU_insert.2.1 45 = .ok (.aload_n 0, 1) := by decide +kernel
theorem dU_insert_46 : decode mU_insert.2.1 46 = .ok (.getfield 9, 3) := by decide +kernel
theorem dU_insert_49 : decode mU_insert.2.1 49 = .ok (.iload 4, 2) := by decide +kernel
theorem dU_insert_51 : decode mU_insert.2.1 51 = .ok (.iconst 1, 1) := by decide +kernel
theorem dU_insert_52 : decode mU_insert.2.1 52 = .ok (.isub, 1) := by decide +kernel
theorem dU_insert_53 : decode mU_insert.2.1 53 = .ok (.iaload, 1) := by decide +kernel
theorem dU_insert_54 : decode mU_insert.2.1 54 = .ok (.iastore, 1) := by decide +kernel
theorem dU_insert_55 : decode mU_insert.2.1 55 = .ok (.iinc 4 (-1), 3) := by decide +kernel
theorem dU_insert_58 : decode mU_insert.2.1 58 = .ok (.goto (-45), 3) := by decide +kernel
theorem dU_insert_61 : decode mU_insert.2.1 61 = .ok (.aload_n 0, 1) := by decide +kernel
theorem dU_insert_62 : decode mU_insert.2.1 62 = .ok (.getfield 9, 3) := by decide +kernel
theorem dU_insert_65 : decode mU_insert.2.1 65 = .ok (.iload 4, 2) := by decide +kernel
theorem dU_insert_67 : decode mU_insert.2.1 67 = .ok (.iload_n 1, 1) := by decide +kernel
theorem dU_insert_68 : decode mU_insert.2.1 68 = .ok (.iastore, 1) := by decide +kernel
theorem dU_insert_69 : decode mU_insert.2.1 69 = .ok (.return_, 1) := by decide +kernel
theorem dU_lineUp_0 : decode mU_lineUp.2.1 0 = .ok (.iconst 0, 1) := by decide +kernel
theorem dU_lineUp_1 : decode mU_lineUp.2.1 1 = .ok (.istore_n 2, 1) := by decide +kernel
theorem dU_lineUp_2 : decode mU_lineUp.2.1 2 = .ok (.iconst 0, 1) := by decide +kernel
theorem dU_lineUp_3 : decode mU_lineUp.2.1 3 = .ok (.istore_n 3, 1) := by decide +kernel
theorem dU_lineUp_4 : decode mU_lineUp.2.1 4 = .ok (.iload_n 3, 1) := by decide +kernel
theorem dU_lineUp_5 : decode mU_lineUp.2.1 5 = .ok (.aload_n 0, 1) := by decide +kernel
theorem dU_lineUp_6 : decode mU_lineUp.2.1 6 = .ok (.getfield 15, 3) := by decide +kernel
theorem dU_lineUp_9 : decode mU_lineUp.2.1 9 = .ok (.getfield 23, 3) := by decide +kernel
theorem dU_lineUp_12 : decode mU_lineUp.2.1 12 = .ok (.if_icmp .ge 40, 3) := by decide +kernel
theorem dU_lineUp_15 : decode mU_lineUp.2.1 15 = .ok (.iload_n 2, 1) := by decide +kernel
theorem dU_lineUp_16 : decode mU_lineUp.2.1 16 = .ok (.aload_n 0, 1) := by decide +kernel
theorem dU_lineUp_17 : decode mU_lineUp.2.1 17 = .ok (.getfield 9, 3) := by decide +kernel
theorem dU_lineUp_20 : decode mU_lineUp.2.1 20 = .ok (.arraylength, 1) := by decide +kernel
theorem dU_lineUp_21 : decode mU_lineUp.2.1 21 = .ok (.if_icmp .ge 31, 3) := by decide +kernel
theorem dU_lineUp_24 : decode mU_lineUp.2.1 24 = .ok (.aload_n 0, 1) := by decide +kernel
theorem dU_lineUp_25 : decode mU_lineUp.2.1 25 = .ok (.getfield 19, 3) := by decide +kernel
theorem dU_lineUp_28 : decode mU_lineUp.2.1 28 = .ok (.getfield 29, 3) := by decide +kernel
theorem dU_lineUp_31 : decode mU_lineUp.2.1 31 = .ok (.iload_n 3, 1) := by decide +kernel
theorem dU_lineUp_32 : decode mU_lineUp.2.1 32 = .ok (.iaload, 1) := by decide +kernel
theorem dU_lineUp_33 : decode mU_lineUp.2.1 33 = .ok (.iload_n 1, 1) := by decide +kernel
theorem dU_lineUp_34 : decode mU_lineUp.2.1 34 = .ok (.if_icmp .ne 12, 3) := by decide +kernel
theorem dU_lineUp_37 : decode mU_lineUp.2.1 37 = .ok (.aload_n 0, 1) := by decide +kernel
theorem dU_lineUp_38 : decode mU_lineUp.2.1 38 = .ok (.iload_n 3, 1) := by decide +kernel
theorem dU_lineUp_39 : decode mU_lineUp.2.1 39 = .ok (.iload_n 2, 1) := by decide +kernel
theorem dU_lineUp_40 : decode mU_lineUp.2.1 40 = .ok (.invokevirtual 34, 3) := by decide +kernel
theorem dU_lineUp_43 : decode mU_lineUp.2.1 43 = .ok (.iinc 2 1, 3) := by decide +kernel
theorem dU_lineUp_46 : decode mU_lineUp.2.1 46 = .ok (.iinc 3 1, 3) := by decide +kernel
theorem dU_lineUp_49 : decode mU_lineUp.2.1 49 = .ok (.goto (-45), 3) := by decide +kernel
theorem dU_lineUp_52 : decode mU_lineUp.2.1 52 = .ok (.iload_n 2, 1) := by decide +kernel
theorem dU_lineUp_53 : decode mU_lineUp.2.1 53 = .ok (.ireturn, 1) := by decide +kernel
theorem dX_order_0 : decode mX_order.2.1 0 = .ok (.aload_n 0, 1) := by decide +kernel
theorem dX_order_1 : decode mX_order.2.1 1 = .ok (.getfield 12, 3) := by decide +kernel
theorem dX_order_4 : decode mX_order.2.1 4 = .ok (.iload_n 1, 1) := by decide +kernel
theorem dX_order_5 : decode mX_order.2.1 5 = .ok (.invokevirtual 149, 3) := by decide +kernel
theorem dX_order_8 : decode mX_order.2.1 8 = .ok (.ifCond .ne 5, 3) := by decide +kernel
theorem dX_order_11 : decode mX_order.2.1 11 = .ok (.iconst (-1), 1) := by decide +kernel
theorem dX_order_12 : decode mX_order.2.1 12 = .ok (.ireturn, 1) := by decide +kernel
theorem dX_order_13 : decode mX_order.2.1 13 = .ok (.aload_n 0, 1) := by decide +kernel
theorem dX_order_14 : decode mX_order.2.1 14 = .ok (.getfield 24, 3) := by decide +kernel
theorem dX_order_17 : decode mX_order.2.1 17 = .ok (.invokevirtual 126, 3) := by decide +kernel
theorem dX_order_20 : decode mX_order.2.1 20 = .ok (.aload_n 0, 1) := by decide +kernel
theorem dX_order_21 : decode mX_order.2.1 21 = .ok (.getfield 33, 3) := by decide +kernel
theorem dX_order_24 : decode mX_order.2.1 24 = .ok (.iload_n 1, 1) := by decide +kernel
theorem dX_order_25 : decode mX_order.2.1 25 = .ok (.invokevirtual 152, 3) := by decide +kernel
theorem dX_order_28 : decode mX_order.2.1 28 = .ok (.istore_n 3, 1) := by decide +kernel
theorem dX_order_29 : decode mX_order.2.1 29 = .ok (.iload_n 2, 1) := by decide +kernel
theorem dX_order_30 : decode mX_order.2.1 30 = .ok (.iconst 0, 1) := by decide +kernel
theorem dX_order_31 : decode mX_order.2.1 31 = .ok (.iload_n 3, 1) := by decide +kernel
theorem dX_order_32 : decode mX_order.2.1 32 = .ok (.iconst 1, 1) := by decide +kernel
theorem dX_order_33 : decode mX_order.2.1 33 = .ok (.isub, 1) := by decide +kernel
theorem dX_order_34 : decode mX_order.2.1 34 = .ok (.invokestatic 41, 3) := by decide +kernel
theorem dX_order_37 : decode mX_order.2.1 37 = .ok (.ifCond .eq 15, 3) := by decide +kernel
theorem dX_order_40 : decode mX_order.2.1 40 = .ok (.aload_n 0, 1) := by decide +kernel
theorem dX_order_41 : decode mX_order.2.1 41 = .ok (.getfield 33, 3) := by decide +kernel
theorem dX_order_44 : decode mX_order.2.1 44 = .ok (.getfield 155, 3) := by decide +kernel
theorem dX_order_47 : decode mX_order.2.1 47 = .ok (.iload_n 2, 1) := by decide +kernel
theorem dX_order_48 : decode mX_order.2.1 48 = .ok (.iaload, 1) := by decide +kernel
theorem dX_order_49 : decode mX_order.2.1 49 = .ok (.goto 5, 3) := by decide +kernel
theorem dX_order_52 : decode mX_order.2.1 52 = .ok (.bipush (-4), 2) := by decide +kernel
theorem dX_order_54 : decode mX_order.2.1 54 = .ok (.ireturn, 1) := by decide +kernel
theorem dM_isPlace_0 : decode mM_isPlace.2.1 0 = .ok (.iload_n 1, 1) := by decide +kernel
theorem dM_isPlace_1 : decode mM_isPlace.2.1 1 = .ok (.iconst 0, 1) := by decide +kernel
theorem dM_isPlace_2 : decode mM_isPlace.2.1 2 = .ok (.aload_n 0, 1) := by decide +kernel
theorem dM_isPlace_3 : decode mM_isPlace.2.1 3 = .ok (.invokevirtual 106, 3) := by decide +kernel
theorem dM_isPlace_6 : decode mM_isPlace.2.1 6 = .ok (.iconst 1, 1) := by decide +kernel
theorem dM_isPlace_7 : decode mM_isPlace.2.1 7 = .ok (.isub, 1) := by decide +kernel
theorem dM_isPlace_8 : decode mM_isPlace.2.1 8 = .ok (.invokestatic 99, 3) := by decide +kernel
theorem dM_isPlace_11 : decode mM_isPlace.2.1 11 = .ok (.ireturn, 1) := by decide +kernel
theorem dM_findOrder_0 : decode mM_findOrder.2.1 0 = .ok (.aload_n 0, 1) := by decide +kernel
theorem dM_findOrder_1 : decode mM_findOrder.2.1 1 = .ok (.iconst 0, 1) := by decide +kernel
theorem dM_findOrder_2 : decode mM_findOrder.2.1 2 = .ok (.putfield 181, 3) := by decide +kernel
theorem dM_findOrder_5 : decode mM_findOrder.2.1 5 = .ok (.iconst 0, 1) := by decide +kernel
theorem dM_findOrder_6 : decode mM_findOrder.2.1 6 = .ok (.istore_n 2, 1) := by decide +kernel
theorem dM_findOrder_7 : decode mM_findOrder.2.1 7 = .ok (.iload_n 2, 1) := by decide +kernel
theorem dM_findOrder_8 : decode mM_findOrder.2.1 8 = .ok (.aload_n 0, 1) := by decide +kernel
theorem dM_findOrder_9 : decode mM_findOrder.2.1 9 = .ok (.getfield 96, 3) := by decide +kernel
theorem dM_findOrder_12 : decode mM_findOrder.2.1 12 = .ok (.if_icmp .ge 89, 3) := by decide +kernel
theorem dM_findOrder_15 : decode mM_findOrder.2.1 15 = .ok (.aload_n 0, 1) := by decide +kernel
theorem dM_findOrder_16 : decode mM_findOrder.2.1 16 = .ok (.getfield 87, 3) := by decide +kernel
theorem dM_findOrder_19 : decode mM_findOrder.2.1 19 = .ok (.iload_n 2, 1) := by decide +kernel
theorem dM_findOrder_20 : decode mM_findOrder.2.1 20 = .ok (.iaload, 1) := by decide +kernel
theorem dM_findOrder_21 : decode mM_findOrder.2.1 21 = .ok (.iconst 1, 1) := by decide +kernel
theorem dM_findOrder_22 : decode mM_findOrder.2.1 22 = .ok (.iload_n 1, 1) := by decide +kernel
theorem dM_findOrder_23 : decode mM_findOrder.2.1 23 = .ok (.ishl, 1) := by decide +kernel
theorem dM_findOrder_24 : decode mM_findOrder.2.1 24 = .ok (.if_icmp .ne 71, 3) := by decide +kernel
theorem dM_findOrder_27 : decode mM_findOrder.2.1 27 = .ok (.aload_n 0, 1) := by decide +kernel
theorem dM_findOrder_28 : decode mM_findOrder.2.1 28 = .ok (.getfield 181, 3) := by decide +kernel
theorem dM_findOrder_31 : decode mM_findOrder.2.1 31 = .ok (.istore_n 3, 1) := by decide +kernel
theorem dM_findOrder_32 : decode mM_findOrder.2.1 32 = .ok (.iload_n 3, 1) := by decide +kernel
theorem dM_findOrder_33 : decode mM_findOrder.2.1 33 = .ok (.ifCond .le 45, 3) := by decide +kernel
theorem dM_findOrder_36 : decode mM_findOrder.2.1 36 = .ok (.aload_n 0, 1) := by decide +kernel
theorem dM_findOrder_37 : decode mM_findOrder.2.1 37 = .ok (.getfield 45, 3) := by decide +kernel
theorem dM_findOrder_40 : decode mM_findOrder.2.1 40 = .ok (.aload_n 0, 1) := by decide +kernel
theorem dM_findOrder_41 : decode mM_findOrder.2.1 41 = .ok (.getfield 93, 3) := by decide +kernel
theorem dM_findOrder_44 : decode mM_findOrder.2.1 44 = .ok (.iload_n 3, 1) := by decide +kernel
theorem dM_findOrder_45 : decode mM_findOrder.2.1 45 = .ok (.iconst 1, 1) := by decide +kernel
theorem dM_findOrder_46 : decode mM_findOrder.2.1 46 = .ok (.isub, 1) := by decide +kernel
theorem dM_findOrder_47 : decode mM_findOrder.2.1 47 = .ok (.iaload, 1) := by decide +kernel
theorem dM_findOrder_48 : decode mM_findOrder.2.1 48 = .ok (.iaload, 1) := by decide +kernel
theorem dM_findOrder_49 : decode mM_findOrder.2.1 49 = .ok (.aload_n 0, 1) := by decide +kernel
theorem dM_findOrder_50 : decode mM_findOrder.2.1 50 = .ok (.getfield 45, 3) := by decide +kernel
theorem dM_findOrder_53 : decode mM_findOrder.2.1 53 = .ok (.iload_n 2, 1) := by decide +kernel
theorem dM_findOrder_54 : decode mM_findOrder.2.1 54 = .ok (.iaload, 1) := by decide +kernel
theorem dM_findOrder_55 : decode mM_findOrder.2.1 55 = .ok (.if_icmp .le 23, 3) := by decide +kernel
theorem dM_findOrder_58 : decode mM_findOrder.2.1 58 = .ok (.aload_n 0, 1) := by decide +kernel
theorem dM_findOrder_59 : decode mM_findOrder.2.1 59 = .ok (.getfield 93, 3) := by decide +kernel
theorem dM_findOrder_62 : decode mM_findOrder.2.1 62 = .ok (.iload_n 3, 1) := by decide +kernel
theorem dM_findOrder_63 : decode mM_findOrder.2.1 63 = .ok (.aload_n 0, 1) := by decide +kernel
theorem dM_findOrder_64 : decode mM_findOrder.2.1 64 = .ok (.getfield 93, 3) := by decide +kernel
theorem dM_findOrder_67 : decode mM_findOrder.2.1 67 = .ok (.iload_n 3, 1) := by decide +kernel
theorem dM_findOrder_68 : decode mM_findOrder.2.1 68 = .ok (.iconst 1, 1) := by decide +kernel
theorem dM_findOrder_69 : decode mM_findOrder.2.1 69 = .ok (.isub, 1) := by decide +kernel
theorem dM_findOrder_70 : decode mM_findOrder.2.1 70 = .ok (.iaload, 1) := by decide +kernel
theorem dM_findOrder_71 : decode mM_findOrder.2.1 71 = .ok (.iastore, 1) := by decide +kernel
theorem dM_findOrder_72 : decode mM_findOrder.2.1 72 = .ok (.iinc 3 (-1), 3) := by decide +kernel
theorem dM_findOrder_75 : decode mM_findOrder.2.1 75 = .ok (.goto (-43), 3) := by decide +kernel
theorem dM_findOrder_78 : decode mM_findOrder.2.1 78 = .ok (.aload_n 0, 1) := by decide +kernel
theorem dM_findOrder_79 : decode mM_findOrder.2.1 79 = .ok (.getfield 93, 3) := by decide +kernel
theorem dM_findOrder_82 : decode mM_findOrder.2.1 82 = .ok (.iload_n 3, 1) := by decide +kernel
theorem dM_findOrder_83 : decode mM_findOrder.2.1 83 = .ok (.iload_n 2, 1) := by decide +kernel
theorem dM_findOrder_84 : decode mM_findOrder.2.1 84 = .ok (.iastore, 1) := by decide +kernel
theorem dM_findOrder_85 : decode mM_findOrder.2.1 85 = .ok (.aload_n 0, 1) := by decide +kernel
theorem dM_findOrder_86 : decode mM_findOrder.2.1 86 = .ok (.dup, 1) := by decide +kernel
theorem dM_findOrder_87 : decode mM_findOrder.2.1 87 = .ok (.getfield 181, 3) := by decide +kernel
theorem dM_findOrder_90 : decode mM_findOrder.2.1 90 = .ok (.iconst 1, 1) := by decide +kernel
theorem dM_findOrder_91 : decode mM_findOrder.2.1 91 = .ok (.iadd, 1) := by decide +kernel
theorem dM_findOrder_92 : decode mM_findOrder.2.1 92 = .ok (.putfield 181, 3) := by decide +kernel
theorem dM_findOrder_95 : decode mM_findOrder.2.1 95 = .ok (.iinc 2 1, 3) := by decide +kernel
theorem dM_findOrder_98 : decode mM_findOrder.2.1 98 = .ok (.goto (-91), 3) := by decide +kernel
theorem dM_findOrder_101 : decode mM_findOrder.2.1 101 = .ok (.return_, 1) := by decide +kernel
theorem dM_order_0 : decode mM_order.2.1 0 = .ok (.aload_n 0, 1) := by decide +kernel
theorem dM_order_1 : decode mM_order.2.1 1 = .ok (.iload_n 1, 1) := by decide +kernel
theorem dM_order_2 : decode mM_order.2.1 2 = .ok (.invokevirtual 184, 3) := by decide +kernel
theorem dM_order_5 : decode mM_order.2.1 5 = .ok (.ifCond .ne 5, 3) := by decide +kernel
theorem dM_order_8 : decode mM_order.2.1 8 = .ok (.iconst (-1), 1) := by decide +kernel
theorem dM_order_9 : decode mM_order.2.1 9 = .ok (.ireturn, 1) := by decide +kernel
theorem dM_order_10 : decode mM_order.2.1 10 = .ok (.aload_n 0, 1) := by decide +kernel
theorem dM_order_11 : decode mM_order.2.1 11 = .ok (.iconst (-1), 1) := by decide +kernel
theorem dM_order_12 : decode mM_order.2.1 12 = .ok (.invokevirtual 168, 3) := by decide +kernel
theorem dM_order_15 : decode mM_order.2.1 15 = .ok (.aload_n 0, 1) := by decide +kernel
theorem dM_order_16 : decode mM_order.2.1 16 = .ok (.iload_n 1, 1) := by decide +kernel
theorem dM_order_17 : decode mM_order.2.1 17 = .ok (.invokevirtual 187, 3) := by decide +kernel
theorem dM_order_20 : decode mM_order.2.1 20 = .ok (.iload_n 2, 1) := by decide +kernel
theorem dM_order_21 : decode mM_order.2.1 21 = .ok (.iconst 0, 1) := by decide +kernel
theorem dM_order_22 : decode mM_order.2.1 22 = .ok (.aload_n 0, 1) := by decide +kernel
theorem dM_order_23 : decode mM_order.2.1 23 = .ok (.getfield 181, 3) := by decide +kernel
theorem dM_order_26 : decode mM_order.2.1 26 = .ok (.iconst 1, 1) := by decide +kernel
theorem dM_order_27 : decode mM_order.2.1 27 = .ok (.isub, 1) := by decide +kernel
theorem dM_order_28 : decode mM_order.2.1 28 = .ok (.invokestatic 99, 3) := by decide +kernel
theorem dM_order_31 : decode mM_order.2.1 31 = .ok (.ifCond .eq 12, 3) := by decide +kernel
theorem dM_order_34 : decode mM_order.2.1 34 = .ok (.aload_n 0, 1) := by decide +kernel
theorem dM_order_35 : decode mM_order.2.1 35 = .ok (.getfield 93, 3) := by decide +kernel
theorem dM_order_38 : decode mM_order.2.1 38 = .ok (.iload_n 2, 1) := by decide +kernel
theorem dM_order_39 : decode mM_order.2.1 39 = .ok (.iaload, 1) := by decide +kernel
theorem dM_order_40 : decode mM_order.2.1 40 = .ok (.goto 5, 3) := by decide +kernel
theorem dM_order_43 : decode mM_order.2.1 43 = .ok (.bipush (-4), 2) := by decide +kernel
theorem dM_order_45 : decode mM_order.2.1 45 = .ok (.ireturn, 1) := by decide +kernel
theorem dU_knownOf_0 : decode mU_knownOf.2.1 0 = .ok (.iconst 2, 1) := by decide +kernel
theorem dU_knownOf_1 : decode mU_knownOf.2.1 1 = .ok (.istore_n 3, 1) := by decide +kernel
theorem dU_knownOf_2 : decode mU_knownOf.2.1 2 = .ok (.iconst 0, 1) := by decide +kernel
theorem dU_knownOf_3 : decode mU_knownOf.2.1 3 = .ok (.istore 4, 2) := by decide +kernel
theorem dU_knownOf_5 : decode mU_knownOf.2.1 5 = .ok (.iload 4, 2) := by decide +kernel
theorem dU_knownOf_7 : decode mU_knownOf.2.1 7 = .ok (.iload_n 1, 1) := by decide +kernel
theorem dU_knownOf_8 : decode mU_knownOf.2.1 8 = .ok (.if_icmp .ge 51, 3) := by decide +kernel
theorem dU_knownOf_11 : decode mU_knownOf.2.1 11 = .ok (.aload_n 0, 1) := by decide +kernel
theorem dU_knownOf_12 : decode mU_knownOf.2.1 12 = .ok (.getfield 15, 3) := by decide +kernel
theorem dU_knownOf_15 : decode mU_knownOf.2.1 15 = .ok (.aload_n 0, 1) := by decide +kernel
theorem dU_knownOf_16 : decode mU_knownOf.2.1 16 = .ok (.getfield 9, 3) := by decide +kernel
theorem dU_knownOf_19 : decode mU_knownOf.2.1 19 = .ok (.iload 4, 2) := by decide +kernel
theorem dU_knownOf_21 : decode mU_knownOf.2.1 21 = .ok (.iaload, 1) := by decide +kernel
theorem dU_knownOf_22 : decode mU_knownOf.2.1 22 = .ok (.iload_n 2, 1) := by decide +kernel
theorem dU_knownOf_23 : decode mU_knownOf.2.1 23 = .ok (.invokevirtual 42, 3) := by decide +kernel
theorem dU_knownOf_26 : decode mU_knownOf.2.1 26 = .ok (.istore 5, 2) := by decide +kernel
theorem dU_knownOf_28 : decode mU_knownOf.2.1 28 = .ok (.iload_n 3, 1) := by decide +kernel
theorem dU_knownOf_29 : decode mU_knownOf.2.1 29 = .ok (.iconst 2, 1) := by decide +kernel
theorem dU_knownOf_30 : decode mU_knownOf.2.1 30 = .ok (.if_icmp .ne 9, 3) := by decide +kernel
theorem dU_knownOf_33 : decode mU_knownOf.2.1 33 = .ok (.iload 5, 2) := by decide +kernel
theorem dU_knownOf_35 : decode mU_knownOf.2.1 35 = .ok (.istore_n 3, 1) := by decide +kernel
theorem dU_knownOf_36 : decode mU_knownOf.2.1 36 = .ok (.goto 17, 3) := by decide +kernel
theorem dU_knownOf_39 : decode mU_knownOf.2.1 39 = .ok (.iload 5, 2) := by decide +kernel
theorem dU_knownOf_41 : decode mU_knownOf.2.1 41 = .ok (.iconst 2, 1) := by decide +kernel
theorem dU_knownOf_42 : decode mU_knownOf.2.1 42 = .ok (.if_icmp .eq 11, 3) := by decide +kernel
theorem dU_knownOf_45 : decode mU_knownOf.2.1 45 = .ok (.iload 5, 2) := by decide +kernel
theorem dU_knownOf_47 : decode mU_knownOf.2.1 47 = .ok (.iload_n 3, 1) := by decide +kernel
theorem dU_knownOf_48 : decode mU_knownOf.2.1 48 = .ok (.if_icmp .eq 5, 3) := by decide +kernel
theorem dU_knownOf_51 : decode mU_knownOf.2.1 51 = .ok (.iconst 3, 1) := by decide +kernel
theorem dU_knownOf_52 : decode mU_knownOf.2.1 52 = .ok (.ireturn, 1) := by decide +kernel
theorem dU_knownOf_53 : decode mU_knownOf.2.1 53 = .ok (.iinc 4 1, 3) := by decide +kernel
theorem dU_knownOf_56 : decode mU_knownOf.2.1 56 = .ok (.goto (-51), 3) := by decide +kernel
theorem dU_knownOf_59 : decode mU_knownOf.2.1 59 = .ok (.iload_n 3, 1) := by decide +kernel
theorem dU_knownOf_60 : decode mU_knownOf.2.1 60 = .ok (.ireturn, 1) := by decide +kernel
theorem dX_known_0 : decode mX_known.2.1 0 = .ok (.aload_n 0, 1) := by decide +kernel
theorem dX_known_1 : decode mX_known.2.1 1 = .ok (.getfield 12, 3) := by decide +kernel
theorem dX_known_4 : decode mX_known.2.1 4 = .ok (.iload_n 1, 1) := by decide +kernel
theorem dX_known_5 : decode mX_known.2.1 5 = .ok (.invokevirtual 149, 3) := by decide +kernel
theorem dX_known_8 : decode mX_known.2.1 8 = .ok (.ifCond .eq 10, 3) := by decide +kernel
theorem dX_known_11 : decode mX_known.2.1 11 = .ok (.iload_n 2, 1) := by decide +kernel
theorem dX_known_12 : decode mX_known.2.1 12 = .ok (.invokestatic 71, 3) := by decide +kernel
theorem dX_known_15 : decode mX_known.2.1 15 = .ok (.ifCond .ne 5, 3) := by decide +kernel
theorem dX_known_18 : decode mX_known.2.1 18 = .ok (.iconst (-1), 1) := by decide +kernel
theorem dX_known_19 : decode mX_known.2.1 19 = .ok (.ireturn, 1) := by decide +kernel
theorem dX_known_20 : decode mX_known.2.1 20 = .ok (.aload_n 0, 1) := by decide +kernel
theorem dX_known_21 : decode mX_known.2.1 21 = .ok (.getfield 24, 3) := by decide +kernel
theorem dX_known_24 : decode mX_known.2.1 24 = .ok (.invokevirtual 126, 3) := by decide +kernel
theorem dX_known_27 : decode mX_known.2.1 27 = .ok (.aload_n 0, 1) := by decide +kernel
theorem dX_known_28 : decode mX_known.2.1 28 = .ok (.getfield 33, 3) := by decide +kernel
theorem dX_known_31 : decode mX_known.2.1 31 = .ok (.aload_n 0, 1) := by decide +kernel
theorem dX_known_32 : decode mX_known.2.1 32 = .ok (.getfield 33, 3) := by decide +kernel
theorem dX_known_35 : decode mX_known.2.1 35 = .ok (.iload_n 1, 1) := by decide +kernel
theorem dX_known_36 : decode mX_known.2.1 36 = .ok (.invokevirtual 152, 3) := by decide +kernel
theorem dX_known_39 : decode mX_known.2.1 39 = .ok (.iload_n 2, 1) := by decide +kernel
theorem dX_known_40 : decode mX_known.2.1 40 = .ok (.invokevirtual 158, 3) := by decide +kernel
theorem dX_known_43 : decode mX_known.2.1 43 = .ok (.ireturn, 1) := by decide +kernel
theorem dM_known_0 : decode mM_known.2.1 0 = .ok (.aload_n 0, 1) := by decide +kernel
theorem dM_known_1 : decode mM_known.2.1 1 = .ok (.iload_n 1, 1) := by decide +kernel
theorem dM_known_2 : decode mM_known.2.1 2 = .ok (.invokevirtual 184, 3) := by decide +kernel
theorem dM_known_5 : decode mM_known.2.1 5 = .ok (.ifCond .eq 10, 3) := by decide +kernel
theorem dM_known_8 : decode mM_known.2.1 8 = .ok (.iload_n 2, 1) := by decide +kernel
theorem dM_known_9 : decode mM_known.2.1 9 = .ok (.invokestatic 114, 3) := by decide +kernel
theorem dM_known_12 : decode mM_known.2.1 12 = .ok (.ifCond .ne 5, 3) := by decide +kernel
theorem dM_known_15 : decode mM_known.2.1 15 = .ok (.iconst (-1), 1) := by decide +kernel
theorem dM_known_16 : decode mM_known.2.1 16 = .ok (.ireturn, 1) := by decide +kernel
theorem dM_known_17 : decode mM_known.2.1 17 = .ok (.aload_n 0, 1) := by decide +kernel
theorem dM_known_18 : decode mM_known.2.1 18 = .ok (.iconst (-1), 1) := by decide +kernel
theorem dM_known_19 : decode mM_known.2.1 19 = .ok (.invokevirtual 168, 3) := by decide +kernel
theorem dM_known_22 : decode mM_known.2.1 22 = .ok (.aload_n 0, 1) := by decide +kernel
theorem dM_known_23 : decode mM_known.2.1 23 = .ok (.iload_n 1, 1) := by decide +kernel
theorem dM_known_24 : decode mM_known.2.1 24 = .ok (.invokevirtual 187, 3) := by decide +kernel
theorem dM_known_27 : decode mM_known.2.1 27 = .ok (.iconst 0, 1) := by decide +kernel
theorem dM_known_28 : decode mM_known.2.1 28 = .ok (.istore_n 3, 1) := by decide +kernel
theorem dM_known_29 : decode mM_known.2.1 29 = .ok (.iconst 0, 1) := by decide +kernel
theorem dM_known_30 : decode mM_known.2.1 30 = .ok (.istore 4, 2) := by decide +kernel
theorem dM_known_32 : decode mM_known.2.1 32 = .ok (.iconst 0, 1) := by decide +kernel
theorem dM_known_33 : decode mM_known.2.1 33 = .ok (.istore 5, 2) := by decide +kernel
theorem dM_known_35 : decode mM_known.2.1 35 = .ok (.iload 5, 2) := by decide +kernel
theorem dM_known_37 : decode mM_known.2.1 37 = .ok (.aload_n 0, 1) := by decide +kernel
theorem dM_known_38 : decode mM_known.2.1 38 = .ok (.getfield 181, 3) := by decide +kernel
theorem dM_known_41 : decode mM_known.2.1 41 = .ok (.if_icmp .ge 72, 3) := by decide +kernel
theorem dM_known_44 : decode mM_known.2.1 44 = .ok (.iload_n 3, 1) := by decide +kernel
theorem dM_known_45 : decode mM_known.2.1 45 = .ok (.ifCond .ne 23, 3) := by decide +kernel
theorem dM_known_48 : decode mM_known.2.1 48 = .ok (.aload_n 0, 1) := by decide +kernel
theorem dM_known_49 : decode mM_known.2.1 49 = .ok (.getfield 36, 3) := by decide +kernel
theorem dM_known_52 : decode mM_known.2.1 52 = .ok (.bipush 8, 2) := by decide +kernel
theorem dM_known_54 : decode mM_known.2.1 54 = .ok (.aload_n 0, 1) := by decide +kernel
theorem dM_known_55 : decode mM_known.2.1 55 = .ok (.getfield 93, 3) := by decide +kernel
theorem dM_known_58 : decode mM_known.2.1 58 = .ok (.iload 5, 2) := by decide +kernel
theorem dM_known_60 : decode mM_known.2.1 60 = .ok (.iaload, 1) := by decide +kernel
theorem dM_known_61 : decode mM_known.2.1 61 = .ok (.imul, 1) := by decide +kernel
theorem dM_known_62 : decode mM_known.2.1 62 = .ok (.iload_n 2, 1) := by decide +kernel
theorem dM_known_63 : decode mM_known.2.1 63 = .ok (.iadd, 1) := by decide +kernel
theorem dM_known_64 : decode mM_known.2.1 64 = .ok (.iaload, 1) := by decide +kernel
theorem dM_known_65 : decode mM_known.2.1 65 = .ok (.ifCond .ne 7, 3) := by decide +kernel
theorem dM_known_68 : decode mM_known.2.1 68 = .ok (.iconst 1, 1) := by decide +kernel
theorem dM_known_69 : decode mM_known.2.1 69 = .ok (.goto 4, 3) := by decide +kernel
theorem dM_known_72 : decode mM_known.2.1 72 = .ok (.iconst 0, 1) := by decide +kernel
theorem dM_known_73 : decode mM_known.2.1 73 = .ok (.istore_n 3, 1) := by decide +kernel
theorem dM_known_74 : decode mM_known.2.1 74 = .ok (.iload 4, 2) := by decide +kernel
theorem dM_known_76 : decode mM_known.2.1 76 = .ok (.ifCond .ne 24, 3) := by decide +kernel
theorem dM_known_79 : decode mM_known.2.1 79 = .ok (.aload_n 0, 1) := by decide +kernel
theorem dM_known_80 : decode mM_known.2.1 80 = .ok (.getfield 36, 3) := by decide +kernel
theorem dM_known_83 : decode mM_known.2.1 83 = .ok (.bipush 8, 2) := by decide +kernel
theorem dM_known_85 : decode mM_known.2.1 85 = .ok (.aload_n 0, 1) := by decide +kernel
theorem dM_known_86 : decode mM_known.2.1 86 = .ok (.getfield 93, 3) := by decide +kernel
theorem dM_known_89 : decode mM_known.2.1 89 = .ok (.iload 5, 2) := by decide +kernel
theorem dM_known_91 : decode mM_known.2.1 91 = .ok (.iaload, 1) := by decide +kernel
theorem dM_known_92 : decode mM_known.2.1 92 = .ok (.imul, 1) := by decide +kernel
theorem dM_known_93 : decode mM_known.2.1 93 = .ok (.iload_n 2, 1) := by decide +kernel
theorem dM_known_94 : decode mM_known.2.1 94 = .ok (.iadd, 1) := by decide +kernel
theorem dM_known_95 : decode mM_known.2.1 95 = .ok (.iaload, 1) := by decide +kernel
theorem dM_known_96 : decode mM_known.2.1 96 = .ok (.iconst 1, 1) := by decide +kernel
theorem dM_known_97 : decode mM_known.2.1 97 = .ok (.if_icmp .ne 7, 3) := by decide +kernel
theorem dM_known_100 : decode mM_known.2.1 100 = .ok (.iconst 1, 1) := by decide +kernel
theorem dM_known_101 : decode mM_known.2.1 101 = .ok (.goto 4, 3) := by decide +kernel
theorem dM_known_104 : decode mM_known.2.1 104 = .ok (.iconst 0, 1) := by decide +kernel
theorem dM_known_105 : decode mM_known.2.1 105 = .ok (.istore 4, 2) := by decide +kernel
theorem dM_known_107 : decode mM_known.2.1 107 = .ok (.iinc 5 1, 3) := by decide +kernel
theorem dM_known_110 : decode mM_known.2.1 110 = .ok (.goto (-75), 3) := by decide +kernel
theorem dM_known_113 : decode mM_known.2.1 113 = .ok (.iload_n 3, 1) := by decide +kernel
theorem dM_known_114 : decode mM_known.2.1 114 = .ok (.ifCond .eq 16, 3) := by decide +kernel
theorem dM_known_117 : decode mM_known.2.1 117 = .ok (.iload 4, 2) := by decide +kernel
theorem dM_known_119 : decode mM_known.2.1 119 = .ok (.ifCond .eq 7, 3) := by decide +kernel
theorem dM_known_122 : decode mM_known.2.1 122 = .ok (.iconst 3, 1) := by decide +kernel
theorem dM_known_123 : decode mM_known.2.1 123 = .ok (.goto 17, 3) := by decide +kernel
theorem dM_known_126 : decode mM_known.2.1 126 = .ok (.iconst 0, 1) := by decide +kernel
theorem dM_known_127 : decode mM_known.2.1 127 = .ok (.goto 13, 3) := by decide +kernel
theorem dM_known_130 : decode mM_known.2.1 130 = .ok (.iload 4, 2) := by decide +kernel
theorem dM_known_132 : decode mM_known.2.1 132 = .ok (.ifCond .eq 7, 3) := by decide +kernel
theorem dM_known_135 : decode mM_known.2.1 135 = .ok (.iconst 1, 1) := by decide +kernel
theorem dM_known_136 : decode mM_known.2.1 136 = .ok (.goto 4, 3) := by decide +kernel
theorem dM_known_139 : decode mM_known.2.1 139 = .ok (.iconst 2, 1) := by decide +kernel
theorem dM_known_140 : decode mM_known.2.1 140 = .ok (.ireturn, 1) := by decide +kernel
theorem dU_changesOf_0 : decode mU_changesOf.2.1 0 = .ok (.iconst 0, 1) := by decide +kernel
theorem dU_changesOf_1 : decode mU_changesOf.2.1 1 = .ok (.istore_n 3, 1) := by decide +kernel
theorem dU_changesOf_2 : decode mU_changesOf.2.1 2 = .ok (.iconst 2, 1) := by decide +kernel
theorem dU_changesOf_3 : decode mU_changesOf.2.1 3 = .ok (.istore 4, 2) := by decide +kernel
theorem dU_changesOf_5 : decode mU_changesOf.2.1 5 = .ok (.iconst 0, 1) := by decide +kernel
theorem dU_changesOf_6 : decode mU_changesOf.2.1 6 = .ok (.istore 5, 2) := by decide +kernel
theorem dU_changesOf_8 : decode mU_changesOf.2.1 8 = .ok (.iload 5, 2) := by decide +kernel
theorem dU_changesOf_10 : decode mU_changesOf.2.1 10 = .ok (.iload_n 1, 1) := by decide +kernel
theorem dU_changesOf_11 : decode mU_changesOf.2.1 11 = .ok (.if_icmp .ge 57, 3) := by decide +kernel
theorem dU_changesOf_14 : decode mU_changesOf.2.1 14 = .ok (.aload_n 0, 1) := by decide +kernel
theorem dU_changesOf_15 : decode mU_changesOf.2.1 15 = .ok (.getfield 15, 3) := by decide +kernel
theorem dU_changesOf_18 : decode mU_changesOf.2.1 18 = .ok (.aload_n 0, 1) := by decide +kernel
theorem dU_changesOf_19 : decode mU_changesOf.2.1 19 = .ok (.getfield 9, 3) := by decide +kernel
theorem dU_changesOf_22 : decode mU_changesOf.2.1 22 = .ok (.iload 5, 2) := by decide +kernel
theorem dU_changesOf_24 : decode mU_changesOf.2.1 24 = .ok (.iaload, 1) := by decide +kernel
theorem dU_changesOf_25 : decode mU_changesOf.2.1 25 = .ok (.iload_n 2, 1) := by decide +kernel
theorem dU_changesOf_26 : decode mU_changesOf.2.1 26 = .ok (.invokevirtual 42, 3) := by decide +kernel
theorem dU_changesOf_29 : decode mU_changesOf.2.1 29 = .ok (.istore 6, 2) := by decide +kernel
theorem dU_changesOf_31 : decode mU_changesOf.2.1 31 = .ok (.iload 6, 2) := by decide +kernel
theorem dU_changesOf_33 : decode mU_changesOf.2.1 33 = .ok (.iconst 2, 1) := by decide +kernel
theorem dU_changesOf_34 : decode mU_changesOf.2.1 34 = .ok (.if_icmp .eq 28, 3) := by decide +kernel
theorem dU_changesOf_37 : decode mU_changesOf.2.1 37 = .ok (.iload_n 3, 1) := by decide +kernel
theorem dU_changesOf_38 : decode mU_changesOf.2.1 38 = .ok (.iload 4, 2) := by decide +kernel
theorem dU_changesOf_40 : decode mU_changesOf.2.1 40 = .ok (.iconst 2, 1) := by decide +kernel
theorem dU_changesOf_41 : decode mU_changesOf.2.1 41 = .ok (.if_icmp .eq 14, 3) := by decide +kernel
theorem dU_changesOf_44 : decode mU_changesOf.2.1 44 = .ok (.iload 4, 2) := by decide +kernel
theorem dU_changesOf_46 : decode mU_changesOf.2.1 46 = .ok (.iload 6, 2) := by decide +kernel
theorem dU_changesOf_48 : decode mU_changesOf.2.1 48 = .ok (.if_icmp .eq 7, 3) := by decide +kernel
theorem dU_changesOf_51 : decode mU_changesOf.2.1 51 = .ok (.iconst 1, 1) := by decide +kernel
theorem dU_changesOf_52 : decode mU_changesOf.2.1 52 = .ok (.goto 4, 3) := by decide +kernel
theorem dU_changesOf_55 : decode mU_changesOf.2.1 55 = .ok (.iconst 0, 1) := by decide +kernel
theorem dU_changesOf_56 : decode mU_changesOf.2.1 56 = .ok (.iadd, 1) := by decide +kernel
theorem dU_changesOf_57 : decode mU_changesOf.2.1 57 = .ok (.istore_n 3, 1) := by decide +kernel
theorem dU_changesOf_58 : decode mU_changesOf.2.1 58 = .ok (.iload 6, 2) := by decide +kernel
theorem dU_changesOf_60 : decode mU_changesOf.2.1 60 = .ok (.istore 4, 2) := by decide +kernel
theorem dU_changesOf_62 : decode mU_changesOf.2.1 62 = .ok (.iinc 5 1, 3) := by decide +kernel
theorem dU_changesOf_65 : decode mU_changesOf.2.1 65 = .ok (.goto (-57), 3) := by decide +kernel
theorem dU_changesOf_68 : decode mU_changesOf.2.1 68 = .ok (.iload_n 3, 1) := by decide +kernel
theorem dU_changesOf_69 : decode mU_changesOf.2.1 69 = .ok (.ireturn, 1) := by decide +kernel
theorem dX_changes_0 : decode mX_changes.2.1 0 = .ok (.aload_n 0, 1) := by decide +kernel
theorem dX_changes_1 : decode mX_changes.2.1 1 = .ok (.getfield 12, 3) := by decide +kernel
theorem dX_changes_4 : decode mX_changes.2.1 4 = .ok (.iload_n 1, 1) := by decide +kernel
theorem dX_changes_5 : decode mX_changes.2.1 5 = .ok (.invokevirtual 149, 3) := by decide +kernel
theorem dX_changes_8 : decode mX_changes.2.1 8 = .ok (.ifCond .eq 10, 3) := by decide +kernel
theorem dX_changes_11 : decode mX_changes.2.1 11 = .ok (.iload_n 2, 1) := by decide +kernel
theorem dX_changes_12 : decode mX_changes.2.1 12 = .ok (.invokestatic 71, 3) := by decide +kernel
theorem dX_changes_15 : decode mX_changes.2.1 15 = .ok (.ifCond .ne 5, 3) := by decide +kernel
theorem dX_changes_18 : decode mX_changes.2.1 18 = .ok (.iconst (-1), 1) := by decide +kernel
theorem dX_changes_19 : decode mX_changes.2.1 19 = .ok (.ireturn, 1) := by decide +kernel
theorem dX_changes_20 : decode mX_changes.2.1 20 = .ok (.aload_n 0, 1) := by decide +kernel
theorem dX_changes_21 : decode mX_changes.2.1 21 = .ok (.getfield 24, 3) := by decide +kernel
theorem dX_changes_24 : decode mX_changes.2.1 24 = .ok (.invokevirtual 126, 3) := by decide +kernel
theorem dX_changes_27 : decode mX_changes.2.1 27 = .ok (.aload_n 0, 1) := by decide +kernel
theorem dX_changes_28 : decode mX_changes.2.1 28 = .ok (.getfield 33, 3) := by decide +kernel
theorem dX_changes_31 : decode mX_changes.2.1 31 = .ok (.aload_n 0, 1) := by decide +kernel
theorem dX_changes_32 : decode mX_changes.2.1 32 = .ok (.getfield 33, 3) := by decide +kernel
theorem dX_changes_35 : decode mX_changes.2.1 35 = .ok (.iload_n 1, 1) := by decide +kernel
theorem dX_changes_36 : decode mX_changes.2.1 36 = .ok (.invokevirtual 152, 3) := by decide +kernel
theorem dX_changes_39 : decode mX_changes.2.1 39 = .ok (.iload_n 2, 1) := by decide +kernel
theorem dX_changes_40 : decode mX_changes.2.1 40 = .ok (.invokevirtual 161, 3) := by decide +kernel
theorem dX_changes_43 : decode mX_changes.2.1 43 = .ok (.ireturn, 1) := by decide +kernel
theorem dM_changesOf_0 : decode mM_changesOf.2.1 0 = .ok (.iconst 0, 1) := by decide +kernel
theorem dM_changesOf_1 : decode mM_changesOf.2.1 1 = .ok (.istore_n 2, 1) := by decide +kernel
theorem dM_changesOf_2 : decode mM_changesOf.2.1 2 = .ok (.iconst 2, 1) := by decide +kernel
theorem dM_changesOf_3 : decode mM_changesOf.2.1 3 = .ok (.istore_n 3, 1) := by decide +kernel
theorem dM_changesOf_4 : decode mM_changesOf.2.1 4 = .ok (.iconst 0, 1) := by decide +kernel
theorem dM_changesOf_5 : decode mM_changesOf.2.1 5 = .ok (.istore 4, 2) := by decide +kernel
theorem dM_changesOf_7 : decode mM_changesOf.2.1 7 = .ok (.iload 4, 2) := by decide +kernel
theorem dM_changesOf_9 : decode mM_changesOf.2.1 9 = .ok (.aload_n 0, 1) := by decide +kernel
theorem dM_changesOf_10 : decode mM_changesOf.2.1 10 = .ok (.getfield 181, 3) := by decide +kernel
theorem dM_changesOf_13 : decode mM_changesOf.2.1 13 = .ok (.if_icmp .ge 66, 3) := by decide +kernel
theorem dM_changesOf_16 : decode mM_changesOf.2.1 16 = .ok (.aload_n 0, 1) := by decide +kernel
theorem dM_changesOf_17 : decode mM_changesOf.2.1 17 = .ok (.getfield 36, 3) := by decide +kernel
theorem dM_changesOf_20 : decode mM_changesOf.2.1 20 = .ok (.bipush 8, 2) := by decide +kernel
theorem dM_changesOf_22 : decode mM_changesOf.2.1 22 = .ok (.aload_n 0, 1) := by decide +kernel
theorem dM_changesOf_23 : decode mM_changesOf.2.1 23 = .ok (.getfield 93, 3) := by decide +kernel
theorem dM_changesOf_26 : decode mM_changesOf.2.1 26 = .ok (.iload 4, 2) := by decide +kernel
theorem dM_changesOf_28 : decode mM_changesOf.2.1 28 = .ok (.iaload, 1) := by decide +kernel
theorem dM_changesOf_29 : decode mM_changesOf.2.1 29 = .ok (.imul, 1) := by decide +kernel
theorem dM_changesOf_30 : decode mM_changesOf.2.1 30 = .ok (.iload_n 1, 1) := by decide +kernel
theorem dM_changesOf_31 : decode mM_changesOf.2.1 31 = .ok (.iadd, 1) := by decide +kernel
theorem dM_changesOf_32 : decode mM_changesOf.2.1 32 = .ok (.iaload, 1) := by decide +kernel
theorem dM_changesOf_33 : decode mM_changesOf.2.1 33 = .ok (.istore 5, 2) := by decide +kernel
theorem dM_changesOf_35 : decode mM_changesOf.2.1 35 = .ok (.iload_n 2, 1) := by decide +kernel
theorem dM_changesOf_36 : decode mM_changesOf.2.1 36 = .ok (.iload 5, 2) := by decide +kernel
theorem dM_changesOf_38 : decode mM_changesOf.2.1 38 = .ok (.iconst 2, 1) := by decide +kernel
theorem dM_changesOf_39 : decode mM_changesOf.2.1 39 = .ok (.if_icmp .ge 18, 3) := by decide +kernel
theorem dM_changesOf_42 : decode mM_changesOf.2.1 42 = .ok (.iload_n 3, 1) := by decide +kernel
theorem dM_changesOf_43 : decode mM_changesOf.2.1 43 = .ok (.iconst 2, 1) := by decide +kernel
theorem dM_changesOf_44 : decode mM_changesOf.2.1 44 = .ok (.if_icmp .ge 13, 3) := by decide +kernel
theorem dM_changesOf_47 : decode mM_changesOf.2.1 47 = .ok (.iload 5, 2) := by decide +kernel
theorem dM_changesOf_49 : decode mM_changesOf.2.1 49 = .ok (.iload_n 3, 1) := by decide +kernel
theorem dM_changesOf_50 : decode mM_changesOf.2.1 50 = .ok (.if_icmp .eq 7, 3) := by decide +kernel
theorem dM_changesOf_53 : decode mM_changesOf.2.1 53 = .ok (.iconst 1, 1) := by decide +kernel
theorem dM_changesOf_54 : decode mM_changesOf.2.1 54 = .ok (.goto 4, 3) := by decide +kernel
theorem dM_changesOf_57 : decode mM_changesOf.2.1 57 = .ok (.iconst 0, 1) := by decide +kernel
theorem dM_changesOf_58 : decode mM_changesOf.2.1 58 = .ok (.iadd, 1) := by decide +kernel
theorem dM_changesOf_59 : decode mM_changesOf.2.1 59 = .ok (.istore_n 2, 1) := by decide +kernel
theorem dM_changesOf_60 : decode mM_changesOf.2.1 60 = .ok (.iload 5, 2) := by decide +kernel
theorem dM_changesOf_62 : decode mM_changesOf.2.1 62 = .ok (.iconst 2, 1) := by decide +kernel
theorem dM_changesOf_63 : decode mM_changesOf.2.1 63 = .ok (.if_icmp .ge 8, 3) := by decide +kernel
theorem dM_changesOf_66 : decode mM_changesOf.2.1 66 = .ok (.iload 5, 2) := by decide +kernel
theorem dM_changesOf_68 : decode mM_changesOf.2.1 68 = .ok (.goto 4, 3) := by decide +kernel
theorem dM_changesOf_71 : decode mM_changesOf.2.1 71 = .ok (.iload_n 3, 1) := by decide +kernel
theorem dM_changesOf_72 : decode mM_changesOf.2.1 72 = .ok (.istore_n 3, 1) := by decide +kernel
theorem dM_changesOf_73 : decode mM_changesOf.2.1 73 = .ok (.iinc 4 1, 3) := by decide +kernel
theorem dM_changesOf_76 : decode mM_changesOf.2.1 76 = .ok (.goto (-69), 3) := by decide +kernel
theorem dM_changesOf_79 : decode mM_changesOf.2.1 79 = .ok (.iload_n 2, 1) := by decide +kernel
theorem dM_changesOf_80 : decode mM_changesOf.2.1 80 = .ok (.ireturn, 1) := by decide +kernel
theorem dM_changes_0 : decode mM_changes.2.1 0 = .ok (.aload_n 0, 1) := by decide +kernel
theorem dM_changes_1 : decode mM_changes.2.1 1 = .ok (.iload_n 1, 1) := by decide +kernel
theorem dM_changes_2 : decode mM_changes.2.1 2 = .ok (.invokevirtual 184, 3) := by decide +kernel
theorem dM_changes_5 : decode mM_changes.2.1 5 = .ok (.ifCond .eq 10, 3) := by decide +kernel
theorem dM_changes_8 : decode mM_changes.2.1 8 = .ok (.iload_n 2, 1) := by decide +kernel
theorem dM_changes_9 : decode mM_changes.2.1 9 = .ok (.invokestatic 114, 3) := by decide +kernel
theorem dM_changes_12 : decode mM_changes.2.1 12 = .ok (.ifCond .ne 5, 3) := by decide +kernel
theorem dM_changes_15 : decode mM_changes.2.1 15 = .ok (.iconst (-1), 1) := by decide +kernel
theorem dM_changes_16 : decode mM_changes.2.1 16 = .ok (.ireturn, 1) := by decide +kernel
theorem dM_changes_17 : decode mM_changes.2.1 17 = .ok (.aload_n 0, 1) := by decide +kernel
theorem dM_changes_18 : decode mM_changes.2.1 18 = .ok (.iconst (-1), 1) := by decide +kernel
theorem dM_changes_19 : decode mM_changes.2.1 19 = .ok (.invokevirtual 168, 3) := by decide +kernel
theorem dM_changes_22 : decode mM_changes.2.1 22 = .ok (.aload_n 0, 1) := by decide +kernel
theorem dM_changes_23 : decode mM_changes.2.1 23 = .ok (.iload_n 1, 1) := by decide +kernel
theorem dM_changes_24 : decode mM_changes.2.1 24 = .ok (.invokevirtual 187, 3) := by decide +kernel
theorem dM_changes_27 : decode mM_changes.2.1 27 = .ok (.aload_n 0, 1) := by decide +kernel
theorem dM_changes_28 : decode mM_changes.2.1 28 = .ok (.iload_n 2, 1) := by decide +kernel
