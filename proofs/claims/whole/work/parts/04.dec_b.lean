theorem dX11_init_0 : decode cX11_init 0 = .ok (.aload_n 0, 1) := by decide +kernel
theorem dX11_init_1 : decode cX11_init 1 = .ok (.invokespecial 3, 3) := by decide +kernel
theorem dX11_init_4 : decode cX11_init 4 = .ok (.aload_n 0, 1) := by decide +kernel
theorem dX11_init_5 : decode cX11_init 5 = .ok (.new 9, 3) := by decide +kernel
theorem dX11_init_8 : decode cX11_init 8 = .ok (.dup, 1) := by decide +kernel
theorem dX11_init_9 : decode cX11_init 9 = .ok (.invokespecial 11, 3) := by decide +kernel
theorem dX11_init_12 : decode cX11_init 12 = .ok (.putfield 12, 3) := by decide +kernel
theorem dX11_init_15 : decode cX11_init 15 = .ok (.aload_n 0, 1) := by decide +kernel
theorem dX11_init_16 : decode cX11_init 16 = .ok (.new 16, 3) := by decide +kernel
theorem dX11_init_19 : decode cX11_init 19 = .ok (.dup, 1) := by decide +kernel
theorem dX11_init_20 : decode cX11_init 20 = .ok (.invokespecial 18, 3) := by decide +kernel
theorem dX11_init_23 : decode cX11_init 23 = .ok (.putfield 19, 3) := by decide +kernel
theorem dX11_init_26 : decode cX11_init 26 = .ok (.aload_n 0, 1) := by decide +kernel
theorem dX11_init_27 : decode cX11_init 27 = .ok (.new 23, 3) := by decide +kernel
theorem dX11_init_30 : decode cX11_init 30 = .ok (.dup, 1) := by decide +kernel
theorem dX11_init_31 : decode cX11_init 31 = .ok (.invokespecial 25, 3) := by decide +kernel
theorem dX11_init_34 : decode cX11_init 34 = .ok (.putfield 26, 3) := by decide +kernel
theorem dX11_init_37 : decode cX11_init 37 = .ok (.aload_n 0, 1) := by decide +kernel
theorem dX11_init_38 : decode cX11_init 38 = .ok (.new 23, 3) := by decide +kernel
theorem dX11_init_41 : decode cX11_init 41 = .ok (.dup, 1) := by decide +kernel
theorem dX11_init_42 : decode cX11_init 42 = .ok (.invokespecial 25, 3) := by decide +kernel
theorem dX11_init_45 : decode cX11_init 45 = .ok (.putfield 30, 3) := by decide +kernel
theorem dX11_init_48 : decode cX11_init 48 = .ok (.aload_n 0, 1) := by decide +kernel
theorem dX11_init_49 : decode cX11_init 49 = .ok (.new 33, 3) := by decide +kernel
theorem dX11_init_52 : decode cX11_init 52 = .ok (.dup, 1) := by decide +kernel
theorem dX11_init_53 : decode cX11_init 53 = .ok (.aload_n 0, 1) := by decide +kernel
theorem dX11_init_54 : decode cX11_init 54 = .ok (.getfield 19, 3) := by decide +kernel
theorem dX11_init_57 : decode cX11_init 57 = .ok (.aload_n 0, 1) := by decide +kernel
theorem dX11_init_58 : decode cX11_init 58 = .ok (.getfield 30, 3) := by decide +kernel
theorem dX11_init_61 : decode cX11_init 61 = .ok (.invokespecial 35, 3) := by decide +kernel
theorem dX11_init_64 : decode cX11_init 64 = .ok (.putfield 38, 3) := by decide +kernel
theorem dX11_init_67 : decode cX11_init 67 = .ok (.aload_n 0, 1) := by decide +kernel
theorem dX11_init_68 : decode cX11_init 68 = .ok (.new 42, 3) := by decide +kernel
theorem dX11_init_71 : decode cX11_init 71 = .ok (.dup, 1) := by decide +kernel
theorem dX11_init_72 : decode cX11_init 72 = .ok (.aload_n 0, 1) := by decide +kernel
theorem dX11_init_73 : decode cX11_init 73 = .ok (.getfield 19, 3) := by decide +kernel
theorem dX11_init_76 : decode cX11_init 76 = .ok (.aload_n 0, 1) := by decide +kernel
theorem dX11_init_77 : decode cX11_init 77 = .ok (.getfield 30, 3) := by decide +kernel
theorem dX11_init_80 : decode cX11_init 80 = .ok (.invokespecial 44, 3) := by decide +kernel
theorem dX11_init_83 : decode cX11_init 83 = .ok (.putfield 45, 3) := by decide +kernel
theorem dX11_init_86 : decode cX11_init 86 = .ok (.aload_n 0, 1) := by decide +kernel
theorem dX11_init_87 : decode cX11_init 87 = .ok (.iconst 3, 1) := by decide +kernel
theorem dX11_init_88 : decode cX11_init 88 = .ok (.anewarray 23, 3) := by decide +kernel
theorem dX11_init_91 : decode cX11_init 91 = .ok (.putfield 49, 3) := by decide +kernel
theorem dX11_init_94 : decode cX11_init 94 = .ok (.iconst 0, 1) := by decide +kernel
theorem dX11_init_95 : decode cX11_init 95 = .ok (.istore_n 1, 1) := by decide +kernel
theorem dX11_init_96 : decode cX11_init 96 = .ok (.iload_n 1, 1) := by decide +kernel
theorem dX11_init_97 : decode cX11_init 97 = .ok (.iconst 3, 1) := by decide +kernel
theorem dX11_init_98 : decode cX11_init 98 = .ok (.if_icmp .ge 22, 3) := by decide +kernel
theorem dX11_init_101 : decode cX11_init 101 = .ok (.aload_n 0, 1) := by decide +kernel
theorem dX11_init_102 : decode cX11_init 102 = .ok (.getfield 49, 3) := by decide +kernel
theorem dX11_init_105 : decode cX11_init 105 = .ok (.iload_n 1, 1) := by decide +kernel
theorem dX11_init_106 : decode cX11_init 106 = .ok (.new 23, 3) := by decide +kernel
theorem dX11_init_109 : decode cX11_init 109 = .ok (.dup, 1) := by decide +kernel
theorem dX11_init_110 : decode cX11_init 110 = .ok (.invokespecial 25, 3) := by decide +kernel
theorem dX11_init_113 : decode cX11_init 113 = .ok (.aastore, 1) := by decide +kernel
theorem dX11_init_114 : decode cX11_init 114 = .ok (.iinc 1 1, 3) := by decide +kernel
theorem dX11_init_117 : decode cX11_init 117 = .ok (.goto (-21), 3) := by decide +kernel
theorem dX11_init_120 : decode cX11_init 120 = .ok (.sipush 4096, 3) := by decide +kernel
theorem dX11_init_123 : decode cX11_init 123 = .ok (.newarray .int, 2) := by decide +kernel
theorem dX11_init_125 : decode cX11_init 125 = .ok (.astore_n 1, 1) := by decide +kernel
theorem dX11_init_126 : decode cX11_init 126 = .ok (.aload_n 0, 1) := by decide +kernel
theorem dX11_init_127 : decode cX11_init 127 = .ok (.new 53, 3) := by decide +kernel
theorem dX11_init_130 : decode cX11_init 130 = .ok (.dup, 1) := by decide +kernel
theorem dX11_init_131 : decode cX11_init 131 = .ok (.aload_n 0, 1) := by decide +kernel
theorem dX11_init_132 : decode cX11_init 132 = .ok (.getfield 26, 3) := by decide +kernel
theorem dX11_init_135 : decode cX11_init 135 = .ok (.invokespecial 55, 3) := by decide +kernel
theorem dX11_init_138 : decode cX11_init 138 = .ok (.putfield 58, 3) := by decide +kernel
theorem dX11_init_141 : decode cX11_init 141 = .ok (.aload_n 0, 1) := by decide +kernel
theorem dX11_init_142 : decode cX11_init 142 = .ok (.new 62, 3) := by decide +kernel
theorem dX11_init_145 : decode cX11_init 145 = .ok (.dup, 1) := by decide +kernel
theorem dX11_init_146 : decode cX11_init 146 = .ok (.aload_n 0, 1) := by decide +kernel
theorem dX11_init_147 : decode cX11_init 147 = .ok (.getfield 26, 3) := by decide +kernel
theorem dX11_init_150 : decode cX11_init 150 = .ok (.aload_n 0, 1) := by decide +kernel
theorem dX11_init_151 : decode cX11_init 151 = .ok (.getfield 58, 3) := by decide +kernel
theorem dX11_init_154 : decode cX11_init 154 = .ok (.invokespecial 64, 3) := by decide +kernel
theorem dX11_init_157 : decode cX11_init 157 = .ok (.putfield 67, 3) := by decide +kernel
theorem dX11_init_160 : decode cX11_init 160 = .ok (.aload_n 0, 1) := by decide +kernel
theorem dX11_init_161 : decode cX11_init 161 = .ok (.new 71, 3) := by decide +kernel
theorem dX11_init_164 : decode cX11_init 164 = .ok (.dup, 1) := by decide +kernel
theorem dX11_init_165 : decode cX11_init 165 = .ok (.aload_n 0, 1) := by decide +kernel
theorem dX11_init_166 : decode cX11_init 166 = .ok (.getfield 26, 3) := by decide +kernel
theorem dX11_init_169 : decode cX11_init 169 = .ok (.aload_n 0, 1) := by decide +kernel
theorem dX11_init_170 : decode cX11_init 170 = .ok (.getfield 58, 3) := by decide +kernel
theorem dX11_init_173 : decode cX11_init 173 = .ok (.aload_n 0, 1) := by decide +kernel
theorem dX11_init_174 : decode cX11_init 174 = .ok (.getfield 67, 3) := by decide +kernel
theorem dX11_init_177 : decode cX11_init 177 = .ok (.aload_n 1, 1) := by decide +kernel
theorem dX11_init_178 : decode cX11_init 178 = .ok (.invokespecial 73, 3) := by decide +kernel
theorem dX11_init_181 : decode cX11_init 181 = .ok (.putfield 76, 3) := by decide +kernel
theorem dX11_init_184 : decode cX11_init 184 = .ok (.aload_n 0, 1) := by decide +kernel
theorem dX11_init_185 : decode cX11_init 185 = .ok (.new 80, 3) := by decide +kernel
theorem dX11_init_188 : decode cX11_init 188 = .ok (.dup, 1) := by decide +kernel
theorem dX11_init_189 : decode cX11_init 189 = .ok (.aload_n 0, 1) := by decide +kernel
theorem dX11_init_190 : decode cX11_init 190 = .ok (.getfield 26, 3) := by decide +kernel
theorem dX11_init_193 : decode cX11_init 193 = .ok (.aload_n 0, 1) := by decide +kernel
theorem dX11_init_194 : decode cX11_init 194 = .ok (.getfield 58, 3) := by decide +kernel
theorem dX11_init_197 : decode cX11_init 197 = .ok (.aload_n 1, 1) := by decide +kernel
theorem dX11_init_198 : decode cX11_init 198 = .ok (.invokespecial 82, 3) := by decide +kernel
theorem dX11_init_201 : decode cX11_init 201 = .ok (.putfield 85, 3) := by decide +kernel
theorem dX11_init_204 : decode cX11_init 204 = .ok (.aload_n 0, 1) := by decide +kernel
theorem dX11_init_205 : decode cX11_init 205 = .ok (.new 89, 3) := by decide +kernel
theorem dX11_init_208 : decode cX11_init 208 = .ok (.dup, 1) := by decide +kernel
theorem dX11_init_209 : decode cX11_init 209 = .ok (.aload_n 0, 1) := by decide +kernel
theorem dX11_init_210 : decode cX11_init 210 = .ok (.getfield 26, 3) := by decide +kernel
theorem dX11_init_213 : decode cX11_init 213 = .ok (.aload_n 0, 1) := by decide +kernel
theorem dX11_init_214 : decode cX11_init 214 = .ok (.getfield 58, 3) := by decide +kernel
theorem dX11_init_217 : decode cX11_init 217 = .ok (.aload_n 0, 1) := by decide +kernel
theorem dX11_init_218 : decode cX11_init 218 = .ok (.getfield 67, 3) := by decide +kernel
theorem dX11_init_221 : decode cX11_init 221 = .ok (.invokespecial 91, 3) := by decide +kernel
theorem dX11_init_224 : decode cX11_init 224 = .ok (.putfield 94, 3) := by decide +kernel
theorem dX11_init_227 : decode cX11_init 227 = .ok (.aload_n 0, 1) := by decide +kernel
theorem dX11_init_228 : decode cX11_init 228 = .ok (.iconst 5, 1) := by decide +kernel
theorem dX11_init_229 : decode cX11_init 229 = .ok (.newarray .int, 2) := by decide +kernel
theorem dX11_init_231 : decode cX11_init 231 = .ok (.putfield 98, 3) := by decide +kernel
theorem dX11_init_234 : decode cX11_init 234 = .ok (.aload_n 0, 1) := by decide +kernel
theorem dX11_init_235 : decode cX11_init 235 = .ok (.iconst 0, 1) := by decide +kernel
theorem dX11_init_236 : decode cX11_init 236 = .ok (.putfield 102, 3) := by decide +kernel
theorem dX11_init_239 : decode cX11_init 239 = .ok (.aload_n 0, 1) := by decide +kernel
theorem dX11_init_240 : decode cX11_init 240 = .ok (.iconst 0, 1) := by decide +kernel
theorem dX11_init_241 : decode cX11_init 241 = .ok (.putfield 106, 3) := by decide +kernel
theorem dX11_init_244 : decode cX11_init 244 = .ok (.aload_n 0, 1) := by decide +kernel
theorem dX11_init_245 : decode cX11_init 245 = .ok (.iconst 0, 1) := by decide +kernel
theorem dX11_init_246 : decode cX11_init 246 = .ok (.putfield 110, 3) := by decide +kernel
theorem dX11_init_249 : decode cX11_init 249 = .ok (.aload_n 0, 1) := by decide +kernel
theorem dX11_init_250 : decode cX11_init 250 = .ok (.lconst 0, 1) := by decide +kernel
theorem dX11_init_251 : decode cX11_init 251 = .ok (.putfield 113, 3) := by decide +kernel
theorem dX11_init_254 : decode cX11_init 254 = .ok (.aload_n 0, 1) := by decide +kernel
theorem dX11_init_255 : decode cX11_init 255 = .ok (.lconst 1, 1) := by decide +kernel
theorem dX11_init_256 : decode cX11_init 256 = .ok (.putfield 117, 3) := by decide +kernel
theorem dX11_init_259 : decode cX11_init 259 = .ok (.aload_n 0, 1) := by decide +kernel
theorem dX11_init_260 : decode cX11_init 260 = .ok (.iconst (-1), 1) := by decide +kernel
theorem dX11_init_261 : decode cX11_init 261 = .ok (.putfield 120, 3) := by decide +kernel
theorem dX11_init_264 : decode cX11_init 264 = .ok (.aload_n 0, 1) := by decide +kernel
theorem dX11_init_265 : decode cX11_init 265 = .ok (.iconst (-1), 1) := by decide +kernel
theorem dX11_init_266 : decode cX11_init 266 = .ok (.putfield 123, 3) := by decide +kernel
theorem dX11_init_269 : decode cX11_init 269 = .ok (.return_, 1) := by decide +kernel
theorem dX11_fine_0 : decode cX11_fine 0 = .ok (.aload_n 0, 1) := by decide +kernel
theorem dX11_fine_1 : decode cX11_fine 1 = .ok (.iconst 0, 1) := by decide +kernel
theorem dX11_fine_2 : decode cX11_fine 2 = .ok (.putfield 110, 3) := by decide +kernel
theorem dX11_fine_5 : decode cX11_fine 5 = .ok (.iload_n 1, 1) := by decide +kernel
theorem dX11_fine_6 : decode cX11_fine 6 = .ok (.ireturn, 1) := by decide +kernel
theorem dX11_fineSo_0 : decode cX11_fineSo 0 = .ok (.aload_n 0, 1) := by decide +kernel
theorem dX11_fineSo_1 : decode cX11_fineSo 1 = .ok (.iconst 0, 1) := by decide +kernel
theorem dX11_fineSo_2 : decode cX11_fineSo 2 = .ok (.putfield 110, 3) := by decide +kernel
theorem dX11_fineSo_5 : decode cX11_fineSo 5 = .ok (.iconst 1, 1) := by decide +kernel
theorem dX11_fineSo_6 : decode cX11_fineSo 6 = .ok (.ireturn, 1) := by decide +kernel
theorem dX11_refuse_0 : decode cX11_refuse 0 = .ok (.aload_n 0, 1) := by decide +kernel
theorem dX11_refuse_1 : decode cX11_refuse 1 = .ok (.iload_n 1, 1) := by decide +kernel
theorem dX11_refuse_2 : decode cX11_refuse 2 = .ok (.putfield 110, 3) := by decide +kernel
theorem dX11_refuse_5 : decode cX11_refuse 5 = .ok (.iconst (-1), 1) := by decide +kernel
theorem dX11_refuse_6 : decode cX11_refuse 6 = .ok (.ireturn, 1) := by decide +kernel
theorem dX11_refuseSo_0 : decode cX11_refuseSo 0 = .ok (.aload_n 0, 1) := by decide +kernel
theorem dX11_refuseSo_1 : decode cX11_refuseSo 1 = .ok (.iload_n 1, 1) := by decide +kernel
theorem dX11_refuseSo_2 : decode cX11_refuseSo 2 = .ok (.putfield 110, 3) := by decide +kernel
theorem dX11_refuseSo_5 : decode cX11_refuseSo 5 = .ok (.iconst 0, 1) := by decide +kernel
theorem dX11_refuseSo_6 : decode cX11_refuseSo 6 = .ok (.ireturn, 1) := by decide +kernel
theorem dX11_fineOrNone_0 : decode cX11_fineOrNone 0 = .ok (.iload_n 1, 1) := by decide +kernel
theorem dX11_fineOrNone_1 : decode cX11_fineOrNone 1 = .ok (.iconst (-1), 1) := by decide +kernel
theorem dX11_fineOrNone_2 : decode cX11_fineOrNone 2 = .ok (.if_icmp .ne 12, 3) := by decide +kernel
theorem dX11_fineOrNone_5 : decode cX11_fineOrNone 5 = .ok (.aload_n 0, 1) := by decide +kernel
theorem dX11_fineOrNone_6 : decode cX11_fineOrNone 6 = .ok (.bipush 8, 2) := by decide +kernel
theorem dX11_fineOrNone_8 : decode cX11_fineOrNone 8 = .ok (.invokevirtual 126, 3) := by decide +kernel
theorem dX11_fineOrNone_11 : decode cX11_fineOrNone 11 = .ok (.goto 8, 3) := by decide +kernel
theorem dX11_fineOrNone_14 : decode cX11_fineOrNone 14 = .ok (.aload_n 0, 1) := by decide +kernel
theorem dX11_fineOrNone_15 : decode cX11_fineOrNone 15 = .ok (.iload_n 1, 1) := by decide +kernel
theorem dX11_fineOrNone_16 : decode cX11_fineOrNone 16 = .ok (.invokevirtual 130, 3) := by decide +kernel
theorem dX11_fineOrNone_19 : decode cX11_fineOrNone 19 = .ok (.ireturn, 1) := by decide +kernel
theorem dX11_tellFraction_0 : decode cX11_tellFraction 0 = .ok (.lload_n 1, 1) := by decide +kernel
theorem dX11_tellFraction_1 : decode cX11_tellFraction 1 = .ok (.invokestatic 133, 3) := by decide +kernel
theorem dX11_tellFraction_4 : decode cX11_tellFraction 4 = .ok (.lstore 5, 2) := by decide +kernel
theorem dX11_tellFraction_6 : decode cX11_tellFraction 6 = .ok (.lload_n 3, 1) := by decide +kernel
theorem dX11_tellFraction_7 : decode cX11_tellFraction 7 = .ok (.invokestatic 133, 3) := by decide +kernel
theorem dX11_tellFraction_10 : decode cX11_tellFraction 10 = .ok (.lstore 7, 2) := by decide +kernel
theorem dX11_tellFraction_12 : decode cX11_tellFraction 12 = .ok (.iconst 0, 1) := by decide +kernel
theorem dX11_tellFraction_13 : decode cX11_tellFraction 13 = .ok (.istore 9, 2) := by decide +kernel
theorem dX11_tellFraction_15 : decode cX11_tellFraction 15 = .ok (.iload 9, 2) := by decide +kernel
theorem dX11_tellFraction_17 : decode cX11_tellFraction 17 = .ok (.sipush 200, 3) := by decide +kernel
theorem dX11_tellFraction_20 : decode cX11_tellFraction 20 = .ok (.if_icmp .ge 31, 3) := by decide +kernel
theorem dX11_tellFraction_23 : decode cX11_tellFraction 23 = .ok (.lload 7, 2) := by decide +kernel
theorem dX11_tellFraction_25 : decode cX11_tellFraction 25 = .ok (.lconst 0, 1) := by decide +kernel
theorem dX11_tellFraction_26 : decode cX11_tellFraction 26 = .ok (.lcmp, 1) := by decide +kernel
theorem dX11_tellFraction_27 : decode cX11_tellFraction 27 = .ok (.ifCond .eq 24, 3) := by decide +kernel
theorem dX11_tellFraction_30 : decode cX11_tellFraction 30 = .ok (.lload 5, 2) := by decide +kernel
theorem dX11_tellFraction_32 : decode cX11_tellFraction 32 = .ok (.lload 7, 2) := by decide +kernel
theorem dX11_tellFraction_34 : decode cX11_tellFraction 34 = .ok (.lrem, 1) := by decide +kernel
theorem dX11_tellFraction_35 : decode cX11_tellFraction 35 = .ok (.lstore 10, 2) := by decide +kernel
theorem dX11_tellFraction_37 : decode cX11_tellFraction 37 = .ok (.lload 7, 2) := by decide +kernel
theorem dX11_tellFraction_39 : decode cX11_tellFraction 39 = .ok (.lstore 5, 2) := by decide +kernel
theorem dX11_tellFraction_41 : decode cX11_tellFraction 41 = .ok (.lload 10, 2) := by decide +kernel
theorem dX11_tellFraction_43 : decode cX11_tellFraction 43 = .ok (.lstore 7, 2) := by decide +kernel
theorem dX11_tellFraction_45 : decode cX11_tellFraction 45 = .ok (.iinc 9 1, 3) := by decide +kernel
theorem dX11_tellFraction_48 : decode cX11_tellFraction 48 = .ok (.goto (-33), 3) := by decide +kernel
theorem dX11_tellFraction_51 : decode cX11_tellFraction 51 = .ok (.lload_n 1, 1) := by decide +kernel
theorem dX11_tellFraction_52 : decode cX11_tellFraction 52 = .ok (.lconst 0, 1) := by decide +kernel
theorem dX11_tellFraction_53 : decode cX11_tellFraction 53 = .ok (.lcmp, 1) := by decide +kernel
theorem dX11_tellFraction_54 : decode cX11_tellFraction 54 = .ok (.ifCond .eq 16, 3) := by decide +kernel
theorem dX11_tellFraction_57 : decode cX11_tellFraction 57 = .ok (.lload_n 3, 1) := by decide +kernel
theorem dX11_tellFraction_58 : decode cX11_tellFraction 58 = .ok (.lconst 0, 1) := by decide +kernel
theorem dX11_tellFraction_59 : decode cX11_tellFraction 59 = .ok (.lcmp, 1) := by decide +kernel
theorem dX11_tellFraction_60 : decode cX11_tellFraction 60 = .ok (.ifCond .eq 10, 3) := by decide +kernel
theorem dX11_tellFraction_63 : decode cX11_tellFraction 63 = .ok (.lload 5, 2) := by decide +kernel
theorem dX11_tellFraction_65 : decode cX11_tellFraction 65 = .ok (.lconst 0, 1) := by decide +kernel
theorem dX11_tellFraction_66 : decode cX11_tellFraction 66 = .ok (.lcmp, 1) := by decide +kernel
theorem dX11_tellFraction_67 : decode cX11_tellFraction 67 = .ok (.ifCond .ne 14, 3) := by decide +kernel
theorem dX11_tellFraction_70 : decode cX11_tellFraction 70 = .ok (.aload_n 0, 1) := by decide +kernel
theorem dX11_tellFraction_71 : decode cX11_tellFraction 71 = .ok (.lconst 0, 1) := by decide +kernel
theorem dX11_tellFraction_72 : decode cX11_tellFraction 72 = .ok (.putfield 113, 3) := by decide +kernel
theorem dX11_tellFraction_75 : decode cX11_tellFraction 75 = .ok (.aload_n 0, 1) := by decide +kernel
theorem dX11_tellFraction_76 : decode cX11_tellFraction 76 = .ok (.lconst 1, 1) := by decide +kernel
theorem dX11_tellFraction_77 : decode cX11_tellFraction 77 = .ok (.putfield 117, 3) := by decide +kernel
theorem dX11_tellFraction_80 : decode cX11_tellFraction 80 = .ok (.return_, 1) := by decide +kernel
theorem dX11_tellFraction_81 : decode cX11_tellFraction 81 = .ok (.aload_n 0, 1) := by decide +kernel
theorem dX11_tellFraction_82 : decode cX11_tellFraction 82 = .ok (.lload_n 1, 1) := by decide +kernel
theorem dX11_tellFraction_83 : decode cX11_tellFraction 83 = .ok (.lload 5, 2) := by decide +kernel
theorem dX11_tellFraction_85 : decode cX11_tellFraction 85 = .ok (.ldiv, 1) := by decide +kernel
theorem dX11_tellFraction_86 : decode cX11_tellFraction 86 = .ok (.putfield 113, 3) := by decide +kernel
theorem dX11_tellFraction_89 : decode cX11_tellFraction 89 = .ok (.aload_n 0, 1) := by decide +kernel
theorem dX11_tellFraction_90 : decode cX11_tellFraction 90 = .ok (.lload_n 3, 1) := by decide +kernel
theorem dX11_tellFraction_91 : decode cX11_tellFraction 91 = .ok (.lload 5, 2) := by decide +kernel
theorem dX11_tellFraction_93 : decode cX11_tellFraction 93 = .ok (.ldiv, 1) := by decide +kernel
theorem dX11_tellFraction_94 : decode cX11_tellFraction 94 = .ok (.putfield 117, 3) := by decide +kernel
theorem dX11_tellFraction_97 : decode cX11_tellFraction 97 = .ok (.return_, 1) := by decide +kernel
theorem dX11_noThing_0 : decode cX11_noThing 0 = .ok (.iload_n 1, 1) := by decide +kernel
theorem dX11_noThing_1 : decode cX11_noThing 1 = .ok (.ifCond .lt 14, 3) := by decide +kernel
theorem dX11_noThing_4 : decode cX11_noThing 4 = .ok (.iload_n 1, 1) := by decide +kernel
theorem dX11_noThing_5 : decode cX11_noThing 5 = .ok (.aload_n 0, 1) := by decide +kernel
theorem dX11_noThing_6 : decode cX11_noThing 6 = .ok (.getfield 26, 3) := by decide +kernel
theorem dX11_noThing_9 : decode cX11_noThing 9 = .ok (.getfield 139, 3) := by decide +kernel
theorem dX11_noThing_12 : decode cX11_noThing 12 = .ok (.if_icmp .lt 7, 3) := by decide +kernel
theorem dX11_noThing_15 : decode cX11_noThing 15 = .ok (.iconst 1, 1) := by decide +kernel
theorem dX11_noThing_16 : decode cX11_noThing 16 = .ok (.goto 4, 3) := by decide +kernel
theorem dX11_noThing_19 : decode cX11_noThing 19 = .ok (.iconst 0, 1) := by decide +kernel
theorem dX11_noThing_20 : decode cX11_noThing 20 = .ok (.ireturn, 1) := by decide +kernel
theorem dX11_noWork_0 : decode cX11_noWork 0 = .ok (.iload_n 1, 1) := by decide +kernel
theorem dX11_noWork_1 : decode cX11_noWork 1 = .ok (.ifCond .lt 14, 3) := by decide +kernel
theorem dX11_noWork_4 : decode cX11_noWork 4 = .ok (.iload_n 1, 1) := by decide +kernel
theorem dX11_noWork_5 : decode cX11_noWork 5 = .ok (.aload_n 0, 1) := by decide +kernel
theorem dX11_noWork_6 : decode cX11_noWork 6 = .ok (.getfield 26, 3) := by decide +kernel
theorem dX11_noWork_9 : decode cX11_noWork 9 = .ok (.getfield 142, 3) := by decide +kernel
theorem dX11_noWork_12 : decode cX11_noWork 12 = .ok (.if_icmp .lt 7, 3) := by decide +kernel
theorem dX11_noWork_15 : decode cX11_noWork 15 = .ok (.iconst 1, 1) := by decide +kernel
theorem dX11_noWork_16 : decode cX11_noWork 16 = .ok (.goto 4, 3) := by decide +kernel
theorem dX11_noWork_19 : decode cX11_noWork 19 = .ok (.iconst 0, 1) := by decide +kernel
theorem dX11_noWork_20 : decode cX11_noWork 20 = .ok (.ireturn, 1) := by decide +kernel
theorem dX11_noVoter_0 : decode cX11_noVoter 0 = .ok (.iload_n 1, 1) := by decide +kernel
theorem dX11_noVoter_1 : decode cX11_noVoter 1 = .ok (.ifCond .lt 14, 3) := by decide +kernel
theorem dX11_noVoter_4 : decode cX11_noVoter 4 = .ok (.iload_n 1, 1) := by decide +kernel
theorem dX11_noVoter_5 : decode cX11_noVoter 5 = .ok (.aload_n 0, 1) := by decide +kernel
theorem dX11_noVoter_6 : decode cX11_noVoter 6 = .ok (.getfield 26, 3) := by decide +kernel
theorem dX11_noVoter_9 : decode cX11_noVoter 9 = .ok (.getfield 145, 3) := by decide +kernel
theorem dX11_noVoter_12 : decode cX11_noVoter 12 = .ok (.if_icmp .lt 7, 3) := by decide +kernel
theorem dX11_noVoter_15 : decode cX11_noVoter 15 = .ok (.iconst 1, 1) := by decide +kernel
theorem dX11_noVoter_16 : decode cX11_noVoter 16 = .ok (.goto 4, 3) := by decide +kernel
theorem dX11_noVoter_19 : decode cX11_noVoter 19 = .ok (.iconst 0, 1) := by decide +kernel
theorem dX11_noVoter_20 : decode cX11_noVoter 20 = .ok (.ireturn, 1) := by decide +kernel
theorem dX11_noSetOfThings_0 : decode cX11_noSetOfThings 0 = .ok (.iload_n 1, 1) := by decide +kernel
theorem dX11_noSetOfThings_1 : decode cX11_noSetOfThings 1 = .ok (.ifCond .lt 16, 3) := by decide +kernel
theorem dX11_noSetOfThings_4 : decode cX11_noSetOfThings 4 = .ok (.iload_n 1, 1) := by decide +kernel
theorem dX11_noSetOfThings_5 : decode cX11_noSetOfThings 5 = .ok (.iconst 1, 1) := by decide +kernel
theorem dX11_noSetOfThings_6 : decode cX11_noSetOfThings 6 = .ok (.aload_n 0, 1) := by decide +kernel
theorem dX11_noSetOfThings_7 : decode cX11_noSetOfThings 7 = .ok (.getfield 26, 3) := by decide +kernel
theorem dX11_noSetOfThings_10 : decode cX11_noSetOfThings 10 = .ok (.getfield 139, 3) := by decide +kernel
theorem dX11_noSetOfThings_13 : decode cX11_noSetOfThings 13 = .ok (.ishl, 1) := by decide +kernel
theorem dX11_noSetOfThings_14 : decode cX11_noSetOfThings 14 = .ok (.if_icmp .lt 7, 3) := by decide +kernel
theorem dX11_noSetOfThings_17 : decode cX11_noSetOfThings 17 = .ok (.iconst 1, 1) := by decide +kernel
theorem dX11_noSetOfThings_18 : decode cX11_noSetOfThings 18 = .ok (.goto 4, 3) := by decide +kernel
theorem dX11_noSetOfThings_21 : decode cX11_noSetOfThings 21 = .ok (.iconst 0, 1) := by decide +kernel
theorem dX11_noSetOfThings_22 : decode cX11_noSetOfThings 22 = .ok (.ireturn, 1) := by decide +kernel
theorem dX11_isOneOf_0 : decode cX11_isOneOf 0 = .ok (.iload_n 2, 1) := by decide +kernel
theorem dX11_isOneOf_1 : decode cX11_isOneOf 1 = .ok (.iload_n 1, 1) := by decide +kernel
theorem dX11_isOneOf_2 : decode cX11_isOneOf 2 = .ok (.ishr, 1) := by decide +kernel
theorem dX11_isOneOf_3 : decode cX11_isOneOf 3 = .ok (.iconst 1, 1) := by decide +kernel
theorem dX11_isOneOf_4 : decode cX11_isOneOf 4 = .ok (.iand, 1) := by decide +kernel
theorem dX11_isOneOf_5 : decode cX11_isOneOf 5 = .ok (.ifCond .eq 7, 3) := by decide +kernel
theorem dX11_isOneOf_8 : decode cX11_isOneOf 8 = .ok (.iconst 1, 1) := by decide +kernel
theorem dX11_isOneOf_9 : decode cX11_isOneOf 9 = .ok (.goto 4, 3) := by decide +kernel
theorem dX11_isOneOf_12 : decode cX11_isOneOf 12 = .ok (.iconst 0, 1) := by decide +kernel
theorem dX11_isOneOf_13 : decode cX11_isOneOf 13 = .ok (.ireturn, 1) := by decide +kernel
theorem dX11_turnToNow_0 : decode cX11_turnToNow 0 = .ok (.aload_n 0, 1) := by decide +kernel
theorem dX11_turnToNow_1 : decode cX11_turnToNow 1 = .ok (.getfield 58, 3) := by decide +kernel
theorem dX11_turnToNow_4 : decode cX11_turnToNow 4 = .ok (.aload_n 0, 1) := by decide +kernel
theorem dX11_turnToNow_5 : decode cX11_turnToNow 5 = .ok (.getfield 26, 3) := by decide +kernel
theorem dX11_turnToNow_8 : decode cX11_turnToNow 8 = .ok (.invokevirtual 148, 3) := by decide +kernel
theorem dX11_turnToNow_11 : decode cX11_turnToNow 11 = .ok (.aload_n 0, 1) := by decide +kernel
theorem dX11_turnToNow_12 : decode cX11_turnToNow 12 = .ok (.getfield 67, 3) := by decide +kernel
theorem dX11_turnToNow_15 : decode cX11_turnToNow 15 = .ok (.aload_n 0, 1) := by decide +kernel
theorem dX11_turnToNow_16 : decode cX11_turnToNow 16 = .ok (.getfield 26, 3) := by decide +kernel
theorem dX11_turnToNow_19 : decode cX11_turnToNow 19 = .ok (.invokevirtual 151, 3) := by decide +kernel
theorem dX11_turnToNow_22 : decode cX11_turnToNow 22 = .ok (.aload_n 0, 1) := by decide +kernel
theorem dX11_turnToNow_23 : decode cX11_turnToNow 23 = .ok (.getfield 76, 3) := by decide +kernel
theorem dX11_turnToNow_26 : decode cX11_turnToNow 26 = .ok (.aload_n 0, 1) := by decide +kernel
theorem dX11_turnToNow_27 : decode cX11_turnToNow 27 = .ok (.getfield 26, 3) := by decide +kernel
theorem dX11_turnToNow_30 : decode cX11_turnToNow 30 = .ok (.invokevirtual 152, 3) := by decide +kernel
theorem dX11_turnToNow_33 : decode cX11_turnToNow 33 = .ok (.aload_n 0, 1) := by decide +kernel
theorem dX11_turnToNow_34 : decode cX11_turnToNow 34 = .ok (.getfield 85, 3) := by decide +kernel
theorem dX11_turnToNow_37 : decode cX11_turnToNow 37 = .ok (.aload_n 0, 1) := by decide +kernel
theorem dX11_turnToNow_38 : decode cX11_turnToNow 38 = .ok (.getfield 26, 3) := by decide +kernel
theorem dX11_turnToNow_41 : decode cX11_turnToNow 41 = .ok (.invokevirtual 153, 3) := by decide +kernel
theorem dX11_turnToNow_44 : decode cX11_turnToNow 44 = .ok (.aload_n 0, 1) := by decide +kernel
theorem dX11_turnToNow_45 : decode cX11_turnToNow 45 = .ok (.getfield 94, 3) := by decide +kernel
theorem dX11_turnToNow_48 : decode cX11_turnToNow 48 = .ok (.aload_n 0, 1) := by decide +kernel
theorem dX11_turnToNow_49 : decode cX11_turnToNow 49 = .ok (.getfield 26, 3) := by decide +kernel
theorem dX11_turnToNow_52 : decode cX11_turnToNow 52 = .ok (.invokevirtual 154, 3) := by decide +kernel
theorem dX11_turnToNow_55 : decode cX11_turnToNow 55 = .ok (.return_, 1) := by decide +kernel
theorem dX11_status_0 : decode cX11_status 0 = .ok (.aload_n 0, 1) := by decide +kernel
theorem dX11_status_1 : decode cX11_status 1 = .ok (.getfield 110, 3) := by decide +kernel
theorem dX11_status_4 : decode cX11_status 4 = .ok (.ireturn, 1) := by decide +kernel
theorem dX11_top_0 : decode cX11_top 0 = .ok (.aload_n 0, 1) := by decide +kernel
theorem dX11_top_1 : decode cX11_top 1 = .ok (.getfield 113, 3) := by decide +kernel
theorem dX11_top_4 : decode cX11_top 4 = .ok (.lreturn, 1) := by decide +kernel
theorem dX11_bottom_0 : decode cX11_bottom 0 = .ok (.aload_n 0, 1) := by decide +kernel
theorem dX11_bottom_1 : decode cX11_bottom 1 = .ok (.getfield 117, 3) := by decide +kernel
theorem dX11_bottom_4 : decode cX11_bottom 4 = .ok (.lreturn, 1) := by decide +kernel
theorem dX11_tray_0 : decode cX11_tray 0 = .ok (.aload_n 0, 1) := by decide +kernel
theorem dX11_tray_1 : decode cX11_tray 1 = .ok (.getfield 12, 3) := by decide +kernel
theorem dX11_tray_4 : decode cX11_tray 4 = .ok (.iload_n 1, 1) := by decide +kernel
theorem dX11_tray_5 : decode cX11_tray 5 = .ok (.invokevirtual 155, 3) := by decide +kernel
theorem dX11_tray_8 : decode cX11_tray 8 = .ok (.ifCond .eq 14, 3) := by decide +kernel
theorem dX11_tray_11 : decode cX11_tray 11 = .ok (.aload_n 0, 1) := by decide +kernel
theorem dX11_tray_12 : decode cX11_tray 12 = .ok (.getfield 12, 3) := by decide +kernel
theorem dX11_tray_15 : decode cX11_tray 15 = .ok (.iload_n 2, 1) := by decide +kernel
theorem dX11_tray_16 : decode cX11_tray 16 = .ok (.invokevirtual 159, 3) := by decide +kernel
theorem dX11_tray_19 : decode cX11_tray 19 = .ok (.ifCond .ne 9, 3) := by decide +kernel
theorem dX11_tray_22 : decode cX11_tray 22 = .ok (.aload_n 0, 1) := by decide +kernel
theorem dX11_tray_23 : decode cX11_tray 23 = .ok (.iconst 1, 1) := by decide +kernel
theorem dX11_tray_24 : decode cX11_tray 24 = .ok (.invokevirtual 162, 3) := by decide +kernel
theorem dX11_tray_27 : decode cX11_tray 27 = .ok (.ireturn, 1) := by decide +kernel
theorem dX11_tray_28 : decode cX11_tray 28 = .ok (.iload_n 3, 1) := by decide +kernel
theorem dX11_tray_29 : decode cX11_tray 29 = .ok (.bipush 60, 2) := by decide +kernel
theorem dX11_tray_31 : decode cX11_tray 31 = .ok (.if_icmp .le 9, 3) := by decide +kernel
theorem dX11_tray_34 : decode cX11_tray 34 = .ok (.aload_n 0, 1) := by decide +kernel
theorem dX11_tray_35 : decode cX11_tray 35 = .ok (.iconst 5, 1) := by decide +kernel
theorem dX11_tray_36 : decode cX11_tray 36 = .ok (.invokevirtual 162, 3) := by decide +kernel
theorem dX11_tray_39 : decode cX11_tray 39 = .ok (.ireturn, 1) := by decide +kernel
theorem dX11_tray_40 : decode cX11_tray 40 = .ok (.iload_n 3, 1) := by decide +kernel
theorem dX11_tray_41 : decode cX11_tray 41 = .ok (.ifCond .ge 10, 3) := by decide +kernel
theorem dX11_tray_44 : decode cX11_tray 44 = .ok (.aload_n 0, 1) := by decide +kernel
theorem dX11_tray_45 : decode cX11_tray 45 = .ok (.bipush 6, 2) := by decide +kernel
theorem dX11_tray_47 : decode cX11_tray 47 = .ok (.invokevirtual 162, 3) := by decide +kernel
theorem dX11_tray_50 : decode cX11_tray 50 = .ok (.ireturn, 1) := by decide +kernel
theorem dX11_tray_51 : decode cX11_tray 51 = .ok (.aload_n 0, 1) := by decide +kernel
theorem dX11_tray_52 : decode cX11_tray 52 = .ok (.getfield 12, 3) := by decide +kernel
theorem dX11_tray_55 : decode cX11_tray 55 = .ok (.iload_n 1, 1) := by decide +kernel
theorem dX11_tray_56 : decode cX11_tray 56 = .ok (.iload_n 2, 1) := by decide +kernel
theorem dX11_tray_57 : decode cX11_tray 57 = .ok (.iload_n 3, 1) := by decide +kernel
theorem dX11_tray_58 : decode cX11_tray 58 = .ok (.invokevirtual 165, 3) := by decide +kernel
theorem dX11_tray_61 : decode cX11_tray 61 = .ok (.aload_n 0, 1) := by decide +kernel
theorem dX11_tray_62 : decode cX11_tray 62 = .ok (.invokevirtual 169, 3) := by decide +kernel
theorem dX11_tray_65 : decode cX11_tray 65 = .ok (.ireturn, 1) := by decide +kernel
theorem dX11_write_0 : decode cX11_write 0 = .ok (.aload_n 0, 1) := by decide +kernel
theorem dX11_write_1 : decode cX11_write 1 = .ok (.iload_n 1, 1) := by decide +kernel
theorem dX11_write_2 : decode cX11_write 2 = .ok (.iload_n 2, 1) := by decide +kernel
theorem dX11_write_3 : decode cX11_write 3 = .ok (.invokevirtual 173, 3) := by decide +kernel
theorem dX11_write_6 : decode cX11_write 6 = .ok (.istore 5, 2) := by decide +kernel
theorem dX11_write_8 : decode cX11_write 8 = .ok (.iload 5, 2) := by decide +kernel
theorem dX11_write_10 : decode cX11_write 10 = .ok (.ifCond .eq 10, 3) := by decide +kernel
theorem dX11_write_13 : decode cX11_write 13 = .ok (.aload_n 0, 1) := by decide +kernel
theorem dX11_write_14 : decode cX11_write 14 = .ok (.iload 5, 2) := by decide +kernel
theorem dX11_write_16 : decode cX11_write 16 = .ok (.invokevirtual 162, 3) := by decide +kernel
theorem dX11_write_19 : decode cX11_write 19 = .ok (.ireturn, 1) := by decide +kernel
theorem dX11_write_20 : decode cX11_write 20 = .ok (.aload_n 0, 1) := by decide +kernel
theorem dX11_write_21 : decode cX11_write 21 = .ok (.getfield 12, 3) := by decide +kernel
theorem dX11_write_24 : decode cX11_write 24 = .ok (.iload_n 1, 1) := by decide +kernel
theorem dX11_write_25 : decode cX11_write 25 = .ok (.iload_n 2, 1) := by decide +kernel
theorem dX11_write_26 : decode cX11_write 26 = .ok (.lload_n 3, 1) := by decide +kernel
theorem dX11_write_27 : decode cX11_write 27 = .ok (.invokevirtual 177, 3) := by decide +kernel
theorem dX11_write_30 : decode cX11_write 30 = .ok (.aload_n 0, 1) := by decide +kernel
theorem dX11_write_31 : decode cX11_write 31 = .ok (.invokevirtual 169, 3) := by decide +kernel
theorem dX11_write_34 : decode cX11_write 34 = .ok (.ireturn, 1) := by decide +kernel
theorem dX11_read_0 : decode cX11_read 0 = .ok (.aload_n 0, 1) := by decide +kernel
theorem dX11_read_1 : decode cX11_read 1 = .ok (.iload_n 1, 1) := by decide +kernel
theorem dX11_read_2 : decode cX11_read 2 = .ok (.iload_n 2, 1) := by decide +kernel
theorem dX11_read_3 : decode cX11_read 3 = .ok (.invokevirtual 173, 3) := by decide +kernel
theorem dX11_read_6 : decode cX11_read 6 = .ok (.istore_n 3, 1) := by decide +kernel
theorem dX11_read_7 : decode cX11_read 7 = .ok (.iload_n 3, 1) := by decide +kernel
theorem dX11_read_8 : decode cX11_read 8 = .ok (.ifCond .eq 10, 3) := by decide +kernel
theorem dX11_read_11 : decode cX11_read 11 = .ok (.aload_n 0, 1) := by decide +kernel
theorem dX11_read_12 : decode cX11_read 12 = .ok (.iload_n 3, 1) := by decide +kernel
theorem dX11_read_13 : decode cX11_read 13 = .ok (.invokevirtual 126, 3) := by decide +kernel
theorem dX11_read_16 : decode cX11_read 16 = .ok (.i2l, 1) := by decide +kernel
theorem dX11_read_17 : decode cX11_read 17 = .ok (.lreturn, 1) := by decide +kernel
theorem dX11_read_18 : decode cX11_read 18 = .ok (.aload_n 0, 1) := by decide +kernel
theorem dX11_read_19 : decode cX11_read 19 = .ok (.iconst 0, 1) := by decide +kernel
theorem dX11_read_20 : decode cX11_read 20 = .ok (.putfield 110, 3) := by decide +kernel
theorem dX11_read_23 : decode cX11_read 23 = .ok (.aload_n 0, 1) := by decide +kernel
theorem dX11_read_24 : decode cX11_read 24 = .ok (.getfield 12, 3) := by decide +kernel
theorem dX11_read_27 : decode cX11_read 27 = .ok (.iload_n 1, 1) := by decide +kernel
theorem dX11_read_28 : decode cX11_read 28 = .ok (.iload_n 2, 1) := by decide +kernel
theorem dX11_read_29 : decode cX11_read 29 = .ok (.invokevirtual 181, 3) := by decide +kernel
theorem dX11_read_32 : decode cX11_read 32 = .ok (.lreturn, 1) := by decide +kernel
theorem dX11_placeFault_0 : decode cX11_placeFault 0 = .ok (.aload_n 0, 1) := by decide +kernel
theorem dX11_placeFault_1 : decode cX11_placeFault 1 = .ok (.getfield 12, 3) := by decide +kernel
theorem dX11_placeFault_4 : decode cX11_placeFault 4 = .ok (.iload_n 1, 1) := by decide +kernel
theorem dX11_placeFault_5 : decode cX11_placeFault 5 = .ok (.invokevirtual 155, 3) := by decide +kernel
theorem dX11_placeFault_8 : decode cX11_placeFault 8 = .ok (.ifCond .ne 5, 3) := by decide +kernel
theorem dX11_placeFault_11 : decode cX11_placeFault 11 = .ok (.iconst 1, 1) := by decide +kernel
theorem dX11_placeFault_12 : decode cX11_placeFault 12 = .ok (.ireturn, 1) := by decide +kernel
theorem dX11_placeFault_13 : decode cX11_placeFault 13 = .ok (.aload_n 0, 1) := by decide +kernel
theorem dX11_placeFault_14 : decode cX11_placeFault 14 = .ok (.getfield 12, 3) := by decide +kernel
theorem dX11_placeFault_17 : decode cX11_placeFault 17 = .ok (.iload_n 1, 1) := by decide +kernel
theorem dX11_placeFault_18 : decode cX11_placeFault 18 = .ok (.invokevirtual 185, 3) := by decide +kernel
theorem dX11_placeFault_21 : decode cX11_placeFault 21 = .ok (.ifCond .eq 5, 3) := by decide +kernel
theorem dX11_placeFault_24 : decode cX11_placeFault 24 = .ok (.iconst 3, 1) := by decide +kernel
theorem dX11_placeFault_25 : decode cX11_placeFault 25 = .ok (.ireturn, 1) := by decide +kernel
theorem dX11_placeFault_26 : decode cX11_placeFault 26 = .ok (.aload_n 0, 1) := by decide +kernel
theorem dX11_placeFault_27 : decode cX11_placeFault 27 = .ok (.getfield 12, 3) := by decide +kernel
theorem dX11_placeFault_30 : decode cX11_placeFault 30 = .ok (.iload_n 1, 1) := by decide +kernel
theorem dX11_placeFault_31 : decode cX11_placeFault 31 = .ok (.iload_n 2, 1) := by decide +kernel
theorem dX11_placeFault_32 : decode cX11_placeFault 32 = .ok (.iconst 1, 1) := by decide +kernel
theorem dX11_placeFault_33 : decode cX11_placeFault 33 = .ok (.invokevirtual 188, 3) := by decide +kernel
theorem dX11_placeFault_36 : decode cX11_placeFault 36 = .ok (.ifCond .eq 7, 3) := by decide +kernel
theorem dX11_placeFault_39 : decode cX11_placeFault 39 = .ok (.iconst 0, 1) := by decide +kernel
theorem dX11_placeFault_40 : decode cX11_placeFault 40 = .ok (.goto 4, 3) := by decide +kernel
theorem dX11_placeFault_43 : decode cX11_placeFault 43 = .ok (.iconst 4, 1) := by decide +kernel
theorem dX11_placeFault_44 : decode cX11_placeFault 44 = .ok (.ireturn, 1) := by decide +kernel
theorem dX11_pour_0 : decode cX11_pour 0 = .ok (.aload_n 0, 1) := by decide +kernel
theorem dX11_pour_1 : decode cX11_pour 1 = .ok (.getfield 12, 3) := by decide +kernel
theorem dX11_pour_4 : decode cX11_pour 4 = .ok (.iload_n 1, 1) := by decide +kernel
theorem dX11_pour_5 : decode cX11_pour 5 = .ok (.invokevirtual 155, 3) := by decide +kernel
theorem dX11_pour_8 : decode cX11_pour 8 = .ok (.ifCond .eq 14, 3) := by decide +kernel
theorem dX11_pour_11 : decode cX11_pour 11 = .ok (.aload_n 0, 1) := by decide +kernel
theorem dX11_pour_12 : decode cX11_pour 12 = .ok (.getfield 12, 3) := by decide +kernel
theorem dX11_pour_15 : decode cX11_pour 15 = .ok (.iload_n 3, 1) := by decide +kernel
theorem dX11_pour_16 : decode cX11_pour 16 = .ok (.invokevirtual 155, 3) := by decide +kernel
theorem dX11_pour_19 : decode cX11_pour 19 = .ok (.ifCond .ne 9, 3) := by decide +kernel
theorem dX11_pour_22 : decode cX11_pour 22 = .ok (.aload_n 0, 1) := by decide +kernel
theorem dX11_pour_23 : decode cX11_pour 23 = .ok (.iconst 1, 1) := by decide +kernel
theorem dX11_pour_24 : decode cX11_pour 24 = .ok (.invokevirtual 162, 3) := by decide +kernel
theorem dX11_pour_27 : decode cX11_pour 27 = .ok (.ireturn, 1) := by decide +kernel
theorem dX11_pour_28 : decode cX11_pour 28 = .ok (.aload_n 0, 1) := by decide +kernel
theorem dX11_pour_29 : decode cX11_pour 29 = .ok (.getfield 12, 3) := by decide +kernel
theorem dX11_pour_32 : decode cX11_pour 32 = .ok (.iload_n 1, 1) := by decide +kernel
theorem dX11_pour_33 : decode cX11_pour 33 = .ok (.invokevirtual 185, 3) := by decide +kernel
theorem dX11_pour_36 : decode cX11_pour 36 = .ok (.ifCond .ne 14, 3) := by decide +kernel
theorem dX11_pour_39 : decode cX11_pour 39 = .ok (.aload_n 0, 1) := by decide +kernel
theorem dX11_pour_40 : decode cX11_pour 40 = .ok (.getfield 12, 3) := by decide +kernel
theorem dX11_pour_43 : decode cX11_pour 43 = .ok (.iload_n 3, 1) := by decide +kernel
theorem dX11_pour_44 : decode cX11_pour 44 = .ok (.invokevirtual 185, 3) := by decide +kernel
theorem dX11_pour_47 : decode cX11_pour 47 = .ok (.ifCond .eq 9, 3) := by decide +kernel
theorem dX11_pour_50 : decode cX11_pour 50 = .ok (.aload_n 0, 1) := by decide +kernel
theorem dX11_pour_51 : decode cX11_pour 51 = .ok (.iconst 3, 1) := by decide +kernel
theorem dX11_pour_52 : decode cX11_pour 52 = .ok (.invokevirtual 162, 3) := by decide +kernel
theorem dX11_pour_55 : decode cX11_pour 55 = .ok (.ireturn, 1) := by decide +kernel
theorem dX11_pour_56 : decode cX11_pour 56 = .ok (.aload_n 0, 1) := by decide +kernel
theorem dX11_pour_57 : decode cX11_pour 57 = .ok (.getfield 12, 3) := by decide +kernel
theorem dX11_pour_60 : decode cX11_pour 60 = .ok (.iload_n 1, 1) := by decide +kernel
theorem dX11_pour_61 : decode cX11_pour 61 = .ok (.iload_n 3, 1) := by decide +kernel
theorem dX11_pour_62 : decode cX11_pour 62 = .ok (.invokevirtual 192, 3) := by decide +kernel
theorem dX11_pour_65 : decode cX11_pour 65 = .ok (.ifCond .ne 10, 3) := by decide +kernel
theorem dX11_pour_68 : decode cX11_pour 68 = .ok (.aload_n 0, 1) := by decide +kernel
theorem dX11_pour_69 : decode cX11_pour 69 = .ok (.bipush 11, 2) := by decide +kernel
theorem dX11_pour_71 : decode cX11_pour 71 = .ok (.invokevirtual 162, 3) := by decide +kernel
theorem dX11_pour_74 : decode cX11_pour 74 = .ok (.ireturn, 1) := by decide +kernel
theorem dX11_pour_75 : decode cX11_pour 75 = .ok (.iload 5, 2) := by decide +kernel
theorem dX11_pour_77 : decode cX11_pour 77 = .ok (.ifCond .ge 10, 3) := by decide +kernel
theorem dX11_pour_80 : decode cX11_pour 80 = .ok (.aload_n 0, 1) := by decide +kernel
theorem dX11_pour_81 : decode cX11_pour 81 = .ok (.bipush 6, 2) := by decide +kernel
theorem dX11_pour_83 : decode cX11_pour 83 = .ok (.invokevirtual 162, 3) := by decide +kernel
theorem dX11_pour_86 : decode cX11_pour 86 = .ok (.ireturn, 1) := by decide +kernel
theorem dX11_pour_87 : decode cX11_pour 87 = .ok (.aload_n 0, 1) := by decide +kernel
theorem dX11_pour_88 : decode cX11_pour 88 = .ok (.getfield 12, 3) := by decide +kernel
theorem dX11_pour_91 : decode cX11_pour 91 = .ok (.iload_n 1, 1) := by decide +kernel
theorem dX11_pour_92 : decode cX11_pour 92 = .ok (.iload_n 2, 1) := by decide +kernel
theorem dX11_pour_93 : decode cX11_pour 93 = .ok (.iload 5, 2) := by decide +kernel
theorem dX11_pour_95 : decode cX11_pour 95 = .ok (.invokevirtual 188, 3) := by decide +kernel
theorem dX11_pour_98 : decode cX11_pour 98 = .ok (.ifCond .eq 18, 3) := by decide +kernel
theorem dX11_pour_101 : decode cX11_pour 101 = .ok (.aload_n 0, 1) := by decide +kernel
theorem dX11_pour_102 : decode cX11_pour 102 = .ok (.getfield 12, 3) := by decide +kernel
theorem dX11_pour_105 : decode cX11_pour 105 = .ok (.iload_n 3, 1) := by decide +kernel
theorem dX11_pour_106 : decode cX11_pour 106 = .ok (.iload 4, 2) := by decide +kernel
theorem dX11_pour_108 : decode cX11_pour 108 = .ok (.iload 5, 2) := by decide +kernel
theorem dX11_pour_110 : decode cX11_pour 110 = .ok (.invokevirtual 188, 3) := by decide +kernel
theorem dX11_pour_113 : decode cX11_pour 113 = .ok (.ifCond .ne 9, 3) := by decide +kernel
theorem dX11_pour_116 : decode cX11_pour 116 = .ok (.aload_n 0, 1) := by decide +kernel
theorem dX11_pour_117 : decode cX11_pour 117 = .ok (.iconst 4, 1) := by decide +kernel
theorem dX11_pour_118 : decode cX11_pour 118 = .ok (.invokevirtual 162, 3) := by decide +kernel
theorem dX11_pour_121 : decode cX11_pour 121 = .ok (.ireturn, 1) := by decide +kernel
theorem dX11_pour_122 : decode cX11_pour 122 = .ok (.aload_n 0, 1) := by decide +kernel
theorem dX11_pour_123 : decode cX11_pour 123 = .ok (.getfield 12, 3) := by decide +kernel
theorem dX11_pour_126 : decode cX11_pour 126 = .ok (.iload_n 1, 1) := by decide +kernel
theorem dX11_pour_127 : decode cX11_pour 127 = .ok (.iload_n 2, 1) := by decide +kernel
theorem dX11_pour_128 : decode cX11_pour 128 = .ok (.iload_n 3, 1) := by decide +kernel
theorem dX11_pour_129 : decode cX11_pour 129 = .ok (.iload 4, 2) := by decide +kernel
theorem dX11_pour_131 : decode cX11_pour 131 = .ok (.iload 5, 2) := by decide +kernel
theorem dX11_pour_133 : decode cX11_pour 133 = .ok (.invokevirtual 196, 3) := by decide +kernel
theorem dX11_pour_136 : decode cX11_pour 136 = .ok (.aload_n 0, 1) := by decide +kernel
theorem dX11_pour_137 : decode cX11_pour 137 = .ok (.invokevirtual 169, 3) := by decide +kernel
theorem dX11_pour_140 : decode cX11_pour 140 = .ok (.ireturn, 1) := by decide +kernel
theorem dX11_feed_0 : decode cX11_feed 0 = .ok (.aload_n 0, 1) := by decide +kernel
theorem dX11_feed_1 : decode cX11_feed 1 = .ok (.getfield 19, 3) := by decide +kernel
theorem dX11_feed_4 : decode cX11_feed 4 = .ok (.invokevirtual 200, 3) := by decide +kernel
theorem dX11_feed_7 : decode cX11_feed 7 = .ok (.ifCond .ne 5, 3) := by decide +kernel
theorem dX11_feed_10 : decode cX11_feed 10 = .ok (.iconst (-1), 1) := by decide +kernel
theorem dX11_feed_11 : decode cX11_feed 11 = .ok (.ireturn, 1) := by decide +kernel
theorem dX11_feed_12 : decode cX11_feed 12 = .ok (.aload_n 0, 1) := by decide +kernel
theorem dX11_feed_13 : decode cX11_feed 13 = .ok (.getfield 19, 3) := by decide +kernel
theorem dX11_feed_16 : decode cX11_feed 16 = .ok (.iload_n 1, 1) := by decide +kernel
theorem dX11_feed_17 : decode cX11_feed 17 = .ok (.invokevirtual 203, 3) := by decide +kernel
theorem dX11_feed_20 : decode cX11_feed 20 = .ok (.aload_n 0, 1) := by decide +kernel
theorem dX11_feed_21 : decode cX11_feed 21 = .ok (.getfield 19, 3) := by decide +kernel
theorem dX11_feed_24 : decode cX11_feed 24 = .ok (.iload_n 2, 1) := by decide +kernel
theorem dX11_feed_25 : decode cX11_feed 25 = .ok (.invokevirtual 203, 3) := by decide +kernel
theorem dX11_feed_28 : decode cX11_feed 28 = .ok (.aload_n 0, 1) := by decide +kernel
theorem dX11_feed_29 : decode cX11_feed 29 = .ok (.getfield 19, 3) := by decide +kernel
theorem dX11_feed_32 : decode cX11_feed 32 = .ok (.iload_n 3, 1) := by decide +kernel
theorem dX11_feed_33 : decode cX11_feed 33 = .ok (.invokevirtual 203, 3) := by decide +kernel
theorem dX11_feed_36 : decode cX11_feed 36 = .ok (.aload_n 0, 1) := by decide +kernel
theorem dX11_feed_37 : decode cX11_feed 37 = .ok (.getfield 19, 3) := by decide +kernel
theorem dX11_feed_40 : decode cX11_feed 40 = .ok (.iload 4, 2) := by decide +kernel
theorem dX11_feed_42 : decode cX11_feed 42 = .ok (.invokevirtual 203, 3) := by decide +kernel
theorem dX11_feed_45 : decode cX11_feed 45 = .ok (.aload_n 0, 1) := by decide +kernel
theorem dX11_feed_46 : decode cX11_feed 46 = .ok (.getfield 19, 3) := by decide +kernel
theorem dX11_feed_49 : decode cX11_feed 49 = .ok (.iload 5, 2) := by decide +kernel
theorem dX11_feed_51 : decode cX11_feed 51 = .ok (.invokevirtual 203, 3) := by decide +kernel
theorem dX11_feed_54 : decode cX11_feed 54 = .ok (.aload_n 0, 1) := by decide +kernel
theorem dX11_feed_55 : decode cX11_feed 55 = .ok (.getfield 19, 3) := by decide +kernel
theorem dX11_feed_58 : decode cX11_feed 58 = .ok (.getfield 207, 3) := by decide +kernel
theorem dX11_feed_61 : decode cX11_feed 61 = .ok (.ireturn, 1) := by decide +kernel
theorem dX11_city_0 : decode cX11_city 0 = .ok (.iload_n 1, 1) := by decide +kernel
theorem dX11_city_1 : decode cX11_city 1 = .ok (.ifCond .lt 14, 3) := by decide +kernel
theorem dX11_city_4 : decode cX11_city 4 = .ok (.iload_n 1, 1) := by decide +kernel
theorem dX11_city_5 : decode cX11_city 5 = .ok (.aload_n 0, 1) := by decide +kernel
theorem dX11_city_6 : decode cX11_city 6 = .ok (.getfield 19, 3) := by decide +kernel
theorem dX11_city_9 : decode cX11_city 9 = .ok (.getfield 207, 3) := by decide +kernel
theorem dX11_city_12 : decode cX11_city 12 = .ok (.if_icmp .le 9, 3) := by decide +kernel
theorem dX11_city_15 : decode cX11_city 15 = .ok (.aload_n 0, 1) := by decide +kernel
theorem dX11_city_16 : decode cX11_city 16 = .ok (.iconst 5, 1) := by decide +kernel
theorem dX11_city_17 : decode cX11_city 17 = .ok (.invokevirtual 126, 3) := by decide +kernel
theorem dX11_city_20 : decode cX11_city 20 = .ok (.ireturn, 1) := by decide +kernel
theorem dX11_city_21 : decode cX11_city 21 = .ok (.aload_n 0, 1) := by decide +kernel
theorem dX11_city_22 : decode cX11_city 22 = .ok (.getfield 38, 3) := by decide +kernel
theorem dX11_city_25 : decode cX11_city 25 = .ok (.aload_n 0, 1) := by decide +kernel
theorem dX11_city_26 : decode cX11_city 26 = .ok (.getfield 30, 3) := by decide +kernel
theorem dX11_city_29 : decode cX11_city 29 = .ok (.iload_n 1, 1) := by decide +kernel
theorem dX11_city_30 : decode cX11_city 30 = .ok (.invokevirtual 210, 3) := by decide +kernel
theorem dX11_city_33 : decode cX11_city 33 = .ok (.istore_n 2, 1) := by decide +kernel
theorem dX11_city_34 : decode cX11_city 34 = .ok (.aload_n 0, 1) := by decide +kernel
theorem dX11_city_35 : decode cX11_city 35 = .ok (.iload_n 2, 1) := by decide +kernel
theorem dX11_city_36 : decode cX11_city 36 = .ok (.invokevirtual 214, 3) := by decide +kernel
theorem dX11_city_39 : decode cX11_city 39 = .ok (.iload_n 2, 1) := by decide +kernel
theorem dX11_city_40 : decode cX11_city 40 = .ok (.ifCond .ne 10, 3) := by decide +kernel
theorem dX11_city_43 : decode cX11_city 43 = .ok (.aload_n 0, 1) := by decide +kernel
theorem dX11_city_44 : decode cX11_city 44 = .ok (.bipush 10, 2) := by decide +kernel
theorem dX11_city_46 : decode cX11_city 46 = .ok (.invokevirtual 126, 3) := by decide +kernel
theorem dX11_city_49 : decode cX11_city 49 = .ok (.ireturn, 1) := by decide +kernel
theorem dX11_city_50 : decode cX11_city 50 = .ok (.aload_n 0, 1) := by decide +kernel
theorem dX11_city_51 : decode cX11_city 51 = .ok (.getfield 26, 3) := by decide +kernel
theorem dX11_city_54 : decode cX11_city 54 = .ok (.astore_n 3, 1) := by decide +kernel
theorem dX11_city_55 : decode cX11_city 55 = .ok (.aload_n 0, 1) := by decide +kernel
theorem dX11_city_56 : decode cX11_city 56 = .ok (.aload_n 0, 1) := by decide +kernel
theorem dX11_city_57 : decode cX11_city 57 = .ok (.getfield 30, 3) := by decide +kernel
theorem dX11_city_60 : decode cX11_city 60 = .ok (.putfield 26, 3) := by decide +kernel
theorem dX11_city_63 : decode cX11_city 63 = .ok (.aload_n 0, 1) := by decide +kernel
theorem dX11_city_64 : decode cX11_city 64 = .ok (.aload_n 3, 1) := by decide +kernel
theorem dX11_city_65 : decode cX11_city 65 = .ok (.putfield 30, 3) := by decide +kernel
theorem dX11_city_68 : decode cX11_city 68 = .ok (.aload_n 0, 1) := by decide +kernel
theorem dX11_city_69 : decode cX11_city 69 = .ok (.invokevirtual 218, 3) := by decide +kernel
theorem dX11_city_72 : decode cX11_city 72 = .ok (.aload_n 0, 1) := by decide +kernel
theorem dX11_city_73 : decode cX11_city 73 = .ok (.aload_n 0, 1) := by decide +kernel
theorem dX11_city_74 : decode cX11_city 74 = .ok (.getfield 26, 3) := by decide +kernel
theorem dX11_city_77 : decode cX11_city 77 = .ok (.getfield 139, 3) := by decide +kernel
theorem dX11_city_80 : decode cX11_city 80 = .ok (.invokevirtual 130, 3) := by decide +kernel
theorem dX11_city_83 : decode cX11_city 83 = .ok (.ireturn, 1) := by decide +kernel
theorem dX11_centuries_0 : decode cX11_centuries 0 = .ok (.iload_n 1, 1) := by decide +kernel
theorem dX11_centuries_1 : decode cX11_centuries 1 = .ok (.ifCond .lt 21, 3) := by decide +kernel
theorem dX11_centuries_4 : decode cX11_centuries 4 = .ok (.iload_n 1, 1) := by decide +kernel
theorem dX11_centuries_5 : decode cX11_centuries 5 = .ok (.aload_n 0, 1) := by decide +kernel
theorem dX11_centuries_6 : decode cX11_centuries 6 = .ok (.getfield 19, 3) := by decide +kernel
theorem dX11_centuries_9 : decode cX11_centuries 9 = .ok (.getfield 207, 3) := by decide +kernel
theorem dX11_centuries_12 : decode cX11_centuries 12 = .ok (.if_icmp .gt 10, 3) := by decide +kernel
theorem dX11_centuries_15 : decode cX11_centuries 15 = .ok (.iload_n 1, 1) := by decide +kernel
theorem dX11_centuries_16 : decode cX11_centuries 16 = .ok (.sipush 300, 3) := by decide +kernel
theorem dX11_centuries_19 : decode cX11_centuries 19 = .ok (.if_icmp .le 9, 3) := by decide +kernel
theorem dX11_centuries_22 : decode cX11_centuries 22 = .ok (.aload_n 0, 1) := by decide +kernel
theorem dX11_centuries_23 : decode cX11_centuries 23 = .ok (.iconst 5, 1) := by decide +kernel
theorem dX11_centuries_24 : decode cX11_centuries 24 = .ok (.invokevirtual 126, 3) := by decide +kernel
theorem dX11_centuries_27 : decode cX11_centuries 27 = .ok (.ireturn, 1) := by decide +kernel
theorem dX11_centuries_28 : decode cX11_centuries 28 = .ok (.aload_n 0, 1) := by decide +kernel
theorem dX11_centuries_29 : decode cX11_centuries 29 = .ok (.getfield 45, 3) := by decide +kernel
theorem dX11_centuries_32 : decode cX11_centuries 32 = .ok (.aload_n 0, 1) := by decide +kernel
theorem dX11_centuries_33 : decode cX11_centuries 33 = .ok (.getfield 30, 3) := by decide +kernel
theorem dX11_centuries_36 : decode cX11_centuries 36 = .ok (.getfield 221, 3) := by decide +kernel
theorem dX11_centuries_39 : decode cX11_centuries 39 = .ok (.aload_n 0, 1) := by decide +kernel
theorem dX11_centuries_40 : decode cX11_centuries 40 = .ok (.getfield 26, 3) := by decide +kernel
theorem dX11_centuries_43 : decode cX11_centuries 43 = .ok (.iload_n 1, 1) := by decide +kernel
theorem dX11_centuries_44 : decode cX11_centuries 44 = .ok (.invokevirtual 225, 3) := by decide +kernel
theorem dX11_centuries_47 : decode cX11_centuries 47 = .ok (.istore_n 2, 1) := by decide +kernel
theorem dX11_centuries_48 : decode cX11_centuries 48 = .ok (.aload_n 0, 1) := by decide +kernel
theorem dX11_centuries_49 : decode cX11_centuries 49 = .ok (.iload_n 2, 1) := by decide +kernel
theorem dX11_centuries_50 : decode cX11_centuries 50 = .ok (.invokevirtual 214, 3) := by decide +kernel
theorem dX11_centuries_53 : decode cX11_centuries 53 = .ok (.iload_n 2, 1) := by decide +kernel
theorem dX11_centuries_54 : decode cX11_centuries 54 = .ok (.ifCond .ne 10, 3) := by decide +kernel
theorem dX11_centuries_57 : decode cX11_centuries 57 = .ok (.aload_n 0, 1) := by decide +kernel
theorem dX11_centuries_58 : decode cX11_centuries 58 = .ok (.bipush 10, 2) := by decide +kernel
theorem dX11_centuries_60 : decode cX11_centuries 60 = .ok (.invokevirtual 126, 3) := by decide +kernel
theorem dX11_centuries_63 : decode cX11_centuries 63 = .ok (.ireturn, 1) := by decide +kernel
theorem dX11_centuries_64 : decode cX11_centuries 64 = .ok (.aload_n 0, 1) := by decide +kernel
theorem dX11_centuries_65 : decode cX11_centuries 65 = .ok (.getfield 26, 3) := by decide +kernel
theorem dX11_centuries_68 : decode cX11_centuries 68 = .ok (.getfield 221, 3) := by decide +kernel
theorem dX11_centuries_71 : decode cX11_centuries 71 = .ok (.aload_n 0, 1) := by decide +kernel
theorem dX11_centuries_72 : decode cX11_centuries 72 = .ok (.getfield 30, 3) := by decide +kernel
theorem dX11_centuries_75 : decode cX11_centuries 75 = .ok (.getfield 221, 3) := by decide +kernel
theorem dX11_centuries_78 : decode cX11_centuries 78 = .ok (.invokevirtual 228, 3) := by decide +kernel
theorem dX11_centuries_81 : decode cX11_centuries 81 = .ok (.aload_n 0, 1) := by decide +kernel
theorem dX11_centuries_82 : decode cX11_centuries 82 = .ok (.aload_n 0, 1) := by decide +kernel
theorem dX11_centuries_83 : decode cX11_centuries 83 = .ok (.getfield 26, 3) := by decide +kernel
theorem dX11_centuries_86 : decode cX11_centuries 86 = .ok (.getfield 221, 3) := by decide +kernel
theorem dX11_centuries_89 : decode cX11_centuries 89 = .ok (.getfield 234, 3) := by decide +kernel
theorem dX11_centuries_92 : decode cX11_centuries 92 = .ok (.invokevirtual 130, 3) := by decide +kernel
theorem dX11_centuries_95 : decode cX11_centuries 95 = .ok (.ireturn, 1) := by decide +kernel
theorem dX11_tellFault_0 : decode cX11_tellFault 0 = .ok (.aload_n 0, 1) := by decide +kernel
theorem dX11_tellFault_1 : decode cX11_tellFault 1 = .ok (.iload_n 1, 1) := by decide +kernel
theorem dX11_tellFault_2 : decode cX11_tellFault 2 = .ok (.ifCond .eq 7, 3) := by decide +kernel
theorem dX11_tellFault_5 : decode cX11_tellFault 5 = .ok (.iconst 0, 1) := by decide +kernel
theorem dX11_tellFault_6 : decode cX11_tellFault 6 = .ok (.goto 10, 3) := by decide +kernel
theorem dX11_tellFault_9 : decode cX11_tellFault 9 = .ok (.aload_n 0, 1) := by decide +kernel
theorem dX11_tellFault_10 : decode cX11_tellFault 10 = .ok (.getfield 19, 3) := by decide +kernel
theorem dX11_tellFault_13 : decode cX11_tellFault 13 = .ok (.getfield 237, 3) := by decide +kernel
theorem dX11_tellFault_16 : decode cX11_tellFault 16 = .ok (.putfield 120, 3) := by decide +kernel
theorem dX11_tellFault_19 : decode cX11_tellFault 19 = .ok (.aload_n 0, 1) := by decide +kernel
theorem dX11_tellFault_20 : decode cX11_tellFault 20 = .ok (.iload_n 1, 1) := by decide +kernel
theorem dX11_tellFault_21 : decode cX11_tellFault 21 = .ok (.ifCond .eq 7, 3) := by decide +kernel
theorem dX11_tellFault_24 : decode cX11_tellFault 24 = .ok (.iconst (-1), 1) := by decide +kernel
theorem dX11_tellFault_25 : decode cX11_tellFault 25 = .ok (.goto 10, 3) := by decide +kernel
theorem dX11_tellFault_28 : decode cX11_tellFault 28 = .ok (.aload_n 0, 1) := by decide +kernel
theorem dX11_tellFault_29 : decode cX11_tellFault 29 = .ok (.getfield 19, 3) := by decide +kernel
theorem dX11_tellFault_32 : decode cX11_tellFault 32 = .ok (.getfield 238, 3) := by decide +kernel
theorem dX11_tellFault_35 : decode cX11_tellFault 35 = .ok (.putfield 123, 3) := by decide +kernel
theorem dX11_tellFault_38 : decode cX11_tellFault 38 = .ok (.aload_n 0, 1) := by decide +kernel
theorem dX11_tellFault_39 : decode cX11_tellFault 39 = .ok (.getfield 19, 3) := by decide +kernel
theorem dX11_tellFault_42 : decode cX11_tellFault 42 = .ok (.invokevirtual 239, 3) := by decide +kernel
theorem dX11_tellFault_45 : decode cX11_tellFault 45 = .ok (.return_, 1) := by decide +kernel
theorem dX11_fault_0 : decode cX11_fault 0 = .ok (.iload_n 1, 1) := by decide +kernel
theorem dX11_fault_1 : decode cX11_fault 1 = .ok (.ifCond .ne 8, 3) := by decide +kernel
theorem dX11_fault_4 : decode cX11_fault 4 = .ok (.aload_n 0, 1) := by decide +kernel
theorem dX11_fault_5 : decode cX11_fault 5 = .ok (.getfield 120, 3) := by decide +kernel
theorem dX11_fault_8 : decode cX11_fault 8 = .ok (.ireturn, 1) := by decide +kernel
theorem dX11_fault_9 : decode cX11_fault 9 = .ok (.iload_n 1, 1) := by decide +kernel
theorem dX11_fault_10 : decode cX11_fault 10 = .ok (.iconst 1, 1) := by decide +kernel
theorem dX11_fault_11 : decode cX11_fault 11 = .ok (.if_icmp .ne 10, 3) := by decide +kernel
theorem dX11_fault_14 : decode cX11_fault 14 = .ok (.aload_n 0, 1) := by decide +kernel
theorem dX11_fault_15 : decode cX11_fault 15 = .ok (.getfield 123, 3) := by decide +kernel
theorem dX11_fault_18 : decode cX11_fault 18 = .ok (.goto 4, 3) := by decide +kernel
theorem dX11_fault_21 : decode cX11_fault 21 = .ok (.iconst (-1), 1) := by decide +kernel
theorem dX11_fault_22 : decode cX11_fault 22 = .ok (.ireturn, 1) := by decide +kernel
theorem dX11_many_0 : decode cX11_many 0 = .ok (.aload_n 0, 1) := by decide +kernel
theorem dX11_many_1 : decode cX11_many 1 = .ok (.getfield 58, 3) := by decide +kernel
theorem dX11_many_4 : decode cX11_many 4 = .ok (.invokevirtual 242, 3) := by decide +kernel
theorem dX11_many_7 : decode cX11_many 7 = .ok (.istore_n 2, 1) := by decide +kernel
theorem dX11_many_8 : decode cX11_many 8 = .ok (.iconst 1, 1) := by decide +kernel
theorem dX11_many_9 : decode cX11_many 9 = .ok (.aload_n 0, 1) := by decide +kernel
theorem dX11_many_10 : decode cX11_many 10 = .ok (.getfield 26, 3) := by decide +kernel
theorem dX11_many_13 : decode cX11_many 13 = .ok (.getfield 139, 3) := by decide +kernel
theorem dX11_many_16 : decode cX11_many 16 = .ok (.ishl, 1) := by decide +kernel
theorem dX11_many_17 : decode cX11_many 17 = .ok (.iconst 1, 1) := by decide +kernel
theorem dX11_many_18 : decode cX11_many 18 = .ok (.isub, 1) := by decide +kernel
theorem dX11_many_19 : decode cX11_many 19 = .ok (.istore_n 3, 1) := by decide +kernel
theorem dX11_many_20 : decode cX11_many 20 = .ok (.iload_n 1, 1) := by decide +kernel
theorem dX11_many_21 : decode cX11_many 21 = .ok (.tableswitch 211 0 11 #[63, 75, 87, 99, 111, 123, 135, 141, 153, 173, 185, 198], 63) := by decide +kernel
theorem dX11_many_84 : decode cX11_many 84 = .ok (.aload_n 0, 1) := by decide +kernel
theorem dX11_many_85 : decode cX11_many 85 = .ok (.aload_n 0, 1) := by decide +kernel
theorem dX11_many_86 : decode cX11_many 86 = .ok (.getfield 26, 3) := by decide +kernel
theorem dX11_many_89 : decode cX11_many 89 = .ok (.getfield 139, 3) := by decide +kernel
theorem dX11_many_92 : decode cX11_many 92 = .ok (.invokevirtual 130, 3) := by decide +kernel
theorem dX11_many_95 : decode cX11_many 95 = .ok (.ireturn, 1) := by decide +kernel
theorem dX11_many_96 : decode cX11_many 96 = .ok (.aload_n 0, 1) := by decide +kernel
theorem dX11_many_97 : decode cX11_many 97 = .ok (.aload_n 0, 1) := by decide +kernel
theorem dX11_many_98 : decode cX11_many 98 = .ok (.getfield 26, 3) := by decide +kernel
theorem dX11_many_101 : decode cX11_many 101 = .ok (.getfield 246, 3) := by decide +kernel
theorem dX11_many_104 : decode cX11_many 104 = .ok (.invokevirtual 130, 3) := by decide +kernel
theorem dX11_many_107 : decode cX11_many 107 = .ok (.ireturn, 1) := by decide +kernel
theorem dX11_many_108 : decode cX11_many 108 = .ok (.aload_n 0, 1) := by decide +kernel
theorem dX11_many_109 : decode cX11_many 109 = .ok (.aload_n 0, 1) := by decide +kernel
theorem dX11_many_110 : decode cX11_many 110 = .ok (.getfield 26, 3) := by decide +kernel
theorem dX11_many_113 : decode cX11_many 113 = .ok (.getfield 142, 3) := by decide +kernel
theorem dX11_many_116 : decode cX11_many 116 = .ok (.invokevirtual 130, 3) := by decide +kernel
theorem dX11_many_119 : decode cX11_many 119 = .ok (.ireturn, 1) := by decide +kernel
theorem dX11_many_120 : decode cX11_many 120 = .ok (.aload_n 0, 1) := by decide +kernel
theorem dX11_many_121 : decode cX11_many 121 = .ok (.aload_n 0, 1) := by decide +kernel
theorem dX11_many_122 : decode cX11_many 122 = .ok (.getfield 26, 3) := by decide +kernel
theorem dX11_many_125 : decode cX11_many 125 = .ok (.getfield 145, 3) := by decide +kernel
theorem dX11_many_128 : decode cX11_many 128 = .ok (.invokevirtual 130, 3) := by decide +kernel
theorem dX11_many_131 : decode cX11_many 131 = .ok (.ireturn, 1) := by decide +kernel
theorem dX11_many_132 : decode cX11_many 132 = .ok (.aload_n 0, 1) := by decide +kernel
theorem dX11_many_133 : decode cX11_many 133 = .ok (.aload_n 0, 1) := by decide +kernel
theorem dX11_many_134 : decode cX11_many 134 = .ok (.getfield 26, 3) := by decide +kernel
theorem dX11_many_137 : decode cX11_many 137 = .ok (.getfield 249, 3) := by decide +kernel
theorem dX11_many_140 : decode cX11_many 140 = .ok (.invokevirtual 130, 3) := by decide +kernel
theorem dX11_many_143 : decode cX11_many 143 = .ok (.ireturn, 1) := by decide +kernel
theorem dX11_many_144 : decode cX11_many 144 = .ok (.aload_n 0, 1) := by decide +kernel
theorem dX11_many_145 : decode cX11_many 145 = .ok (.aload_n 0, 1) := by decide +kernel
theorem dX11_many_146 : decode cX11_many 146 = .ok (.getfield 26, 3) := by decide +kernel
theorem dX11_many_149 : decode cX11_many 149 = .ok (.getfield 252, 3) := by decide +kernel
theorem dX11_many_152 : decode cX11_many 152 = .ok (.invokevirtual 130, 3) := by decide +kernel
theorem dX11_many_155 : decode cX11_many 155 = .ok (.ireturn, 1) := by decide +kernel
theorem dX11_many_156 : decode cX11_many 156 = .ok (.aload_n 0, 1) := by decide +kernel
theorem dX11_many_157 : decode cX11_many 157 = .ok (.iload_n 2, 1) := by decide +kernel
theorem dX11_many_158 : decode cX11_many 158 = .ok (.invokevirtual 130, 3) := by decide +kernel
theorem dX11_many_161 : decode cX11_many 161 = .ok (.ireturn, 1) := by decide +kernel
theorem dX11_many_162 : decode cX11_many 162 = .ok (.aload_n 0, 1) := by decide +kernel
theorem dX11_many_163 : decode cX11_many 163 = .ok (.aload_n 0, 1) := by decide +kernel
theorem dX11_many_164 : decode cX11_many 164 = .ok (.getfield 26, 3) := by decide +kernel
theorem dX11_many_167 : decode cX11_many 167 = .ok (.getfield 255, 3) := by decide +kernel
theorem dX11_many_170 : decode cX11_many 170 = .ok (.invokevirtual 130, 3) := by decide +kernel
theorem dX11_many_173 : decode cX11_many 173 = .ok (.ireturn, 1) := by decide +kernel
theorem dX11_many_174 : decode cX11_many 174 = .ok (.aload_n 0, 1) := by decide +kernel
theorem dX11_many_175 : decode cX11_many 175 = .ok (.iload_n 3, 1) := by decide +kernel
theorem dX11_many_176 : decode cX11_many 176 = .ok (.iload_n 2, 1) := by decide +kernel
theorem dX11_many_177 : decode cX11_many 177 = .ok (.iconst (-1), 1) := by decide +kernel
theorem dX11_many_178 : decode cX11_many 178 = .ok (.ixor, 1) := by decide +kernel
theorem dX11_many_179 : decode cX11_many 179 = .ok (.iand, 1) := by decide +kernel
theorem dX11_many_180 : decode cX11_many 180 = .ok (.aload_n 0, 1) := by decide +kernel
theorem dX11_many_181 : decode cX11_many 181 = .ok (.getfield 26, 3) := by decide +kernel
theorem dX11_many_184 : decode cX11_many 184 = .ok (.getfield 255, 3) := by decide +kernel
theorem dX11_many_187 : decode cX11_many 187 = .ok (.iconst (-1), 1) := by decide +kernel
theorem dX11_many_188 : decode cX11_many 188 = .ok (.ixor, 1) := by decide +kernel
theorem dX11_many_189 : decode cX11_many 189 = .ok (.iand, 1) := by decide +kernel
theorem dX11_many_190 : decode cX11_many 190 = .ok (.invokevirtual 130, 3) := by decide +kernel
theorem dX11_many_193 : decode cX11_many 193 = .ok (.ireturn, 1) := by decide +kernel
theorem dX11_many_194 : decode cX11_many 194 = .ok (.aload_n 0, 1) := by decide +kernel
theorem dX11_many_195 : decode cX11_many 195 = .ok (.aload_n 0, 1) := by decide +kernel
theorem dX11_many_196 : decode cX11_many 196 = .ok (.getfield 26, 3) := by decide +kernel
theorem dX11_many_199 : decode cX11_many 199 = .ok (.getfield 258, 3) := by decide +kernel
theorem dX11_many_202 : decode cX11_many 202 = .ok (.invokevirtual 130, 3) := by decide +kernel
theorem dX11_many_205 : decode cX11_many 205 = .ok (.ireturn, 1) := by decide +kernel
theorem dX11_many_206 : decode cX11_many 206 = .ok (.aload_n 0, 1) := by decide +kernel
theorem dX11_many_207 : decode cX11_many 207 = .ok (.aload_n 0, 1) := by decide +kernel
theorem dX11_many_208 : decode cX11_many 208 = .ok (.getfield 58, 3) := by decide +kernel
theorem dX11_many_211 : decode cX11_many 211 = .ok (.iload_n 2, 1) := by decide +kernel
theorem dX11_many_212 : decode cX11_many 212 = .ok (.invokevirtual 261, 3) := by decide +kernel
theorem dX11_many_215 : decode cX11_many 215 = .ok (.invokevirtual 130, 3) := by decide +kernel
theorem dX11_many_218 : decode cX11_many 218 = .ok (.ireturn, 1) := by decide +kernel
theorem dX11_many_219 : decode cX11_many 219 = .ok (.aload_n 0, 1) := by decide +kernel
theorem dX11_many_220 : decode cX11_many 220 = .ok (.aload_n 0, 1) := by decide +kernel
theorem dX11_many_221 : decode cX11_many 221 = .ok (.getfield 26, 3) := by decide +kernel
theorem dX11_many_224 : decode cX11_many 224 = .ok (.iload_n 2, 1) := by decide +kernel
theorem dX11_many_225 : decode cX11_many 225 = .ok (.invokevirtual 264, 3) := by decide +kernel
theorem dX11_many_228 : decode cX11_many 228 = .ok (.invokevirtual 130, 3) := by decide +kernel
theorem dX11_many_231 : decode cX11_many 231 = .ok (.ireturn, 1) := by decide +kernel
theorem dX11_many_232 : decode cX11_many 232 = .ok (.aload_n 0, 1) := by decide +kernel
theorem dX11_many_233 : decode cX11_many 233 = .ok (.iconst 5, 1) := by decide +kernel
theorem dX11_many_234 : decode cX11_many 234 = .ok (.invokevirtual 126, 3) := by decide +kernel
theorem dX11_many_237 : decode cX11_many 237 = .ok (.ireturn, 1) := by decide +kernel
theorem dX11_thing_0 : decode cX11_thing 0 = .ok (.aload_n 0, 1) := by decide +kernel
theorem dX11_thing_1 : decode cX11_thing 1 = .ok (.iload_n 1, 1) := by decide +kernel
theorem dX11_thing_2 : decode cX11_thing 2 = .ok (.invokevirtual 267, 3) := by decide +kernel
theorem dX11_thing_5 : decode cX11_thing 5 = .ok (.ifCond .eq 9, 3) := by decide +kernel
theorem dX11_thing_8 : decode cX11_thing 8 = .ok (.aload_n 0, 1) := by decide +kernel
theorem dX11_thing_9 : decode cX11_thing 9 = .ok (.iconst 2, 1) := by decide +kernel
theorem dX11_thing_10 : decode cX11_thing 10 = .ok (.invokevirtual 126, 3) := by decide +kernel
theorem dX11_thing_13 : decode cX11_thing 13 = .ok (.ireturn, 1) := by decide +kernel
theorem dX11_thing_14 : decode cX11_thing 14 = .ok (.iload_n 2, 1) := by decide +kernel
theorem dX11_thing_15 : decode cX11_thing 15 = .ok (.tableswitch 86 0 3 #[29, 43, 59, 72], 29) := by decide +kernel
theorem dX11_thing_44 : decode cX11_thing 44 = .ok (.aload_n 0, 1) := by decide +kernel
theorem dX11_thing_45 : decode cX11_thing 45 = .ok (.aload_n 0, 1) := by decide +kernel
theorem dX11_thing_46 : decode cX11_thing 46 = .ok (.getfield 26, 3) := by decide +kernel
theorem dX11_thing_49 : decode cX11_thing 49 = .ok (.getfield 270, 3) := by decide +kernel
theorem dX11_thing_52 : decode cX11_thing 52 = .ok (.iload_n 1, 1) := by decide +kernel
theorem dX11_thing_53 : decode cX11_thing 53 = .ok (.iaload, 1) := by decide +kernel
theorem dX11_thing_54 : decode cX11_thing 54 = .ok (.invokevirtual 130, 3) := by decide +kernel
theorem dX11_thing_57 : decode cX11_thing 57 = .ok (.ireturn, 1) := by decide +kernel
theorem dX11_thing_58 : decode cX11_thing 58 = .ok (.aload_n 0, 1) := by decide +kernel
theorem dX11_thing_59 : decode cX11_thing 59 = .ok (.aload_n 0, 1) := by decide +kernel
theorem dX11_thing_60 : decode cX11_thing 60 = .ok (.getfield 58, 3) := by decide +kernel
theorem dX11_thing_63 : decode cX11_thing 63 = .ok (.invokevirtual 242, 3) := by decide +kernel
theorem dX11_thing_66 : decode cX11_thing 66 = .ok (.iload_n 1, 1) := by decide +kernel
theorem dX11_thing_67 : decode cX11_thing 67 = .ok (.ishr, 1) := by decide +kernel
theorem dX11_thing_68 : decode cX11_thing 68 = .ok (.iconst 1, 1) := by decide +kernel
theorem dX11_thing_69 : decode cX11_thing 69 = .ok (.iand, 1) := by decide +kernel
theorem dX11_thing_70 : decode cX11_thing 70 = .ok (.invokevirtual 130, 3) := by decide +kernel
theorem dX11_thing_73 : decode cX11_thing 73 = .ok (.ireturn, 1) := by decide +kernel
theorem dX11_thing_74 : decode cX11_thing 74 = .ok (.aload_n 0, 1) := by decide +kernel
theorem dX11_thing_75 : decode cX11_thing 75 = .ok (.aload_n 0, 1) := by decide +kernel
theorem dX11_thing_76 : decode cX11_thing 76 = .ok (.getfield 26, 3) := by decide +kernel
theorem dX11_thing_79 : decode cX11_thing 79 = .ok (.iload_n 1, 1) := by decide +kernel
theorem dX11_thing_80 : decode cX11_thing 80 = .ok (.invokevirtual 273, 3) := by decide +kernel
theorem dX11_thing_83 : decode cX11_thing 83 = .ok (.invokevirtual 130, 3) := by decide +kernel
theorem dX11_thing_86 : decode cX11_thing 86 = .ok (.ireturn, 1) := by decide +kernel
theorem dX11_thing_87 : decode cX11_thing 87 = .ok (.aload_n 0, 1) := by decide +kernel
theorem dX11_thing_88 : decode cX11_thing 88 = .ok (.aload_n 0, 1) := by decide +kernel
theorem dX11_thing_89 : decode cX11_thing 89 = .ok (.getfield 26, 3) := by decide +kernel
theorem dX11_thing_92 : decode cX11_thing 92 = .ok (.getfield 276, 3) := by decide +kernel
theorem dX11_thing_95 : decode cX11_thing 95 = .ok (.iload_n 1, 1) := by decide +kernel
theorem dX11_thing_96 : decode cX11_thing 96 = .ok (.iaload, 1) := by decide +kernel
theorem dX11_thing_97 : decode cX11_thing 97 = .ok (.invokevirtual 130, 3) := by decide +kernel
theorem dX11_thing_100 : decode cX11_thing 100 = .ok (.ireturn, 1) := by decide +kernel
theorem dX11_thing_101 : decode cX11_thing 101 = .ok (.aload_n 0, 1) := by decide +kernel
theorem dX11_thing_102 : decode cX11_thing 102 = .ok (.iconst 5, 1) := by decide +kernel
theorem dX11_thing_103 : decode cX11_thing 103 = .ok (.invokevirtual 126, 3) := by decide +kernel
theorem dX11_thing_106 : decode cX11_thing 106 = .ok (.ireturn, 1) := by decide +kernel
theorem dX11_making_0 : decode cX11_making 0 = .ok (.iload_n 1, 1) := by decide +kernel
theorem dX11_making_1 : decode cX11_making 1 = .ok (.ifCond .lt 14, 3) := by decide +kernel
theorem dX11_making_4 : decode cX11_making 4 = .ok (.iload_n 1, 1) := by decide +kernel
theorem dX11_making_5 : decode cX11_making 5 = .ok (.aload_n 0, 1) := by decide +kernel
theorem dX11_making_6 : decode cX11_making 6 = .ok (.getfield 26, 3) := by decide +kernel
theorem dX11_making_9 : decode cX11_making 9 = .ok (.getfield 246, 3) := by decide +kernel
theorem dX11_making_12 : decode cX11_making 12 = .ok (.if_icmp .lt 9, 3) := by decide +kernel
theorem dX11_making_15 : decode cX11_making 15 = .ok (.aload_n 0, 1) := by decide +kernel
theorem dX11_making_16 : decode cX11_making 16 = .ok (.iconst 2, 1) := by decide +kernel
theorem dX11_making_17 : decode cX11_making 17 = .ok (.invokevirtual 126, 3) := by decide +kernel
theorem dX11_making_20 : decode cX11_making 20 = .ok (.ireturn, 1) := by decide +kernel
theorem dX11_making_21 : decode cX11_making 21 = .ok (.iload_n 2, 1) := by decide +kernel
theorem dX11_making_22 : decode cX11_making 22 = .ok (.lookupswitch 54 #[(0, 26), (1, 40)], 26) := by decide +kernel
theorem dX11_making_48 : decode cX11_making 48 = .ok (.aload_n 0, 1) := by decide +kernel
theorem dX11_making_49 : decode cX11_making 49 = .ok (.aload_n 0, 1) := by decide +kernel
theorem dX11_making_50 : decode cX11_making 50 = .ok (.getfield 26, 3) := by decide +kernel
theorem dX11_making_53 : decode cX11_making 53 = .ok (.getfield 279, 3) := by decide +kernel
theorem dX11_making_56 : decode cX11_making 56 = .ok (.iload_n 1, 1) := by decide +kernel
theorem dX11_making_57 : decode cX11_making 57 = .ok (.iaload, 1) := by decide +kernel
theorem dX11_making_58 : decode cX11_making 58 = .ok (.invokevirtual 130, 3) := by decide +kernel
theorem dX11_making_61 : decode cX11_making 61 = .ok (.ireturn, 1) := by decide +kernel
theorem dX11_making_62 : decode cX11_making 62 = .ok (.aload_n 0, 1) := by decide +kernel
theorem dX11_making_63 : decode cX11_making 63 = .ok (.aload_n 0, 1) := by decide +kernel
theorem dX11_making_64 : decode cX11_making 64 = .ok (.getfield 26, 3) := by decide +kernel
theorem dX11_making_67 : decode cX11_making 67 = .ok (.getfield 282, 3) := by decide +kernel
theorem dX11_making_70 : decode cX11_making 70 = .ok (.iload_n 1, 1) := by decide +kernel
theorem dX11_making_71 : decode cX11_making 71 = .ok (.iaload, 1) := by decide +kernel
theorem dX11_making_72 : decode cX11_making 72 = .ok (.invokevirtual 130, 3) := by decide +kernel
theorem dX11_making_75 : decode cX11_making 75 = .ok (.ireturn, 1) := by decide +kernel
theorem dX11_making_76 : decode cX11_making 76 = .ok (.aload_n 0, 1) := by decide +kernel
theorem dX11_making_77 : decode cX11_making 77 = .ok (.iconst 5, 1) := by decide +kernel
theorem dX11_making_78 : decode cX11_making 78 = .ok (.invokevirtual 126, 3) := by decide +kernel
theorem dX11_making_81 : decode cX11_making 81 = .ok (.ireturn, 1) := by decide +kernel
theorem dX11_needs_0 : decode cX11_needs 0 = .ok (.aload_n 0, 1) := by decide +kernel
theorem dX11_needs_1 : decode cX11_needs 1 = .ok (.iload_n 1, 1) := by decide +kernel
theorem dX11_needs_2 : decode cX11_needs 2 = .ok (.invokevirtual 285, 3) := by decide +kernel
theorem dX11_needs_5 : decode cX11_needs 5 = .ok (.ifCond .eq 11, 3) := by decide +kernel
theorem dX11_needs_8 : decode cX11_needs 8 = .ok (.aload_n 0, 1) := by decide +kernel
theorem dX11_needs_9 : decode cX11_needs 9 = .ok (.iconst 2, 1) := by decide +kernel
theorem dX11_needs_10 : decode cX11_needs 10 = .ok (.invokevirtual 126, 3) := by decide +kernel
theorem dX11_needs_13 : decode cX11_needs 13 = .ok (.goto 16, 3) := by decide +kernel
theorem dX11_needs_16 : decode cX11_needs 16 = .ok (.aload_n 0, 1) := by decide +kernel
theorem dX11_needs_17 : decode cX11_needs 17 = .ok (.aload_n 0, 1) := by decide +kernel
theorem dX11_needs_18 : decode cX11_needs 18 = .ok (.getfield 26, 3) := by decide +kernel
theorem dX11_needs_21 : decode cX11_needs 21 = .ok (.getfield 288, 3) := by decide +kernel
theorem dX11_needs_24 : decode cX11_needs 24 = .ok (.iload_n 1, 1) := by decide +kernel
theorem dX11_needs_25 : decode cX11_needs 25 = .ok (.iaload, 1) := by decide +kernel
theorem dX11_needs_26 : decode cX11_needs 26 = .ok (.invokevirtual 130, 3) := by decide +kernel
theorem dX11_needs_29 : decode cX11_needs 29 = .ok (.ireturn, 1) := by decide +kernel
theorem dX11_hate_0 : decode cX11_hate 0 = .ok (.aload_n 0, 1) := by decide +kernel
theorem dX11_hate_1 : decode cX11_hate 1 = .ok (.iload_n 1, 1) := by decide +kernel
theorem dX11_hate_2 : decode cX11_hate 2 = .ok (.invokevirtual 291, 3) := by decide +kernel
theorem dX11_hate_5 : decode cX11_hate 5 = .ok (.ifCond .ne 11, 3) := by decide +kernel
theorem dX11_hate_8 : decode cX11_hate 8 = .ok (.aload_n 0, 1) := by decide +kernel
theorem dX11_hate_9 : decode cX11_hate 9 = .ok (.iload_n 2, 1) := by decide +kernel
theorem dX11_hate_10 : decode cX11_hate 10 = .ok (.invokevirtual 267, 3) := by decide +kernel
theorem dX11_hate_13 : decode cX11_hate 13 = .ok (.ifCond .eq 9, 3) := by decide +kernel
theorem dX11_hate_16 : decode cX11_hate 16 = .ok (.aload_n 0, 1) := by decide +kernel
theorem dX11_hate_17 : decode cX11_hate 17 = .ok (.iconst 2, 1) := by decide +kernel
theorem dX11_hate_18 : decode cX11_hate 18 = .ok (.invokevirtual 126, 3) := by decide +kernel
theorem dX11_hate_21 : decode cX11_hate 21 = .ok (.ireturn, 1) := by decide +kernel
theorem dX11_hate_22 : decode cX11_hate 22 = .ok (.aload_n 0, 1) := by decide +kernel
theorem dX11_hate_23 : decode cX11_hate 23 = .ok (.aload_n 0, 1) := by decide +kernel
theorem dX11_hate_24 : decode cX11_hate 24 = .ok (.getfield 26, 3) := by decide +kernel
theorem dX11_hate_27 : decode cX11_hate 27 = .ok (.getfield 294, 3) := by decide +kernel
theorem dX11_hate_30 : decode cX11_hate 30 = .ok (.iload_n 1, 1) := by decide +kernel
theorem dX11_hate_31 : decode cX11_hate 31 = .ok (.bipush 12, 2) := by decide +kernel
theorem dX11_hate_33 : decode cX11_hate 33 = .ok (.imul, 1) := by decide +kernel
theorem dX11_hate_34 : decode cX11_hate 34 = .ok (.iload_n 2, 1) := by decide +kernel
theorem dX11_hate_35 : decode cX11_hate 35 = .ok (.iadd, 1) := by decide +kernel
theorem dX11_hate_36 : decode cX11_hate 36 = .ok (.iaload, 1) := by decide +kernel
theorem dX11_hate_37 : decode cX11_hate 37 = .ok (.invokevirtual 130, 3) := by decide +kernel
theorem dX11_hate_40 : decode cX11_hate 40 = .ok (.ireturn, 1) := by decide +kernel
theorem dX11_copyWorth_0 : decode cX11_copyWorth 0 = .ok (.aload_n 0, 1) := by decide +kernel
theorem dX11_copyWorth_1 : decode cX11_copyWorth 1 = .ok (.getfield 12, 3) := by decide +kernel
theorem dX11_copyWorth_4 : decode cX11_copyWorth 4 = .ok (.iload_n 1, 1) := by decide +kernel
theorem dX11_copyWorth_5 : decode cX11_copyWorth 5 = .ok (.invokevirtual 155, 3) := by decide +kernel
theorem dX11_copyWorth_8 : decode cX11_copyWorth 8 = .ok (.ifCond .ne 9, 3) := by decide +kernel
theorem dX11_copyWorth_11 : decode cX11_copyWorth 11 = .ok (.aload_n 0, 1) := by decide +kernel
theorem dX11_copyWorth_12 : decode cX11_copyWorth 12 = .ok (.iconst 1, 1) := by decide +kernel
theorem dX11_copyWorth_13 : decode cX11_copyWorth 13 = .ok (.invokevirtual 126, 3) := by decide +kernel
theorem dX11_copyWorth_16 : decode cX11_copyWorth 16 = .ok (.ireturn, 1) := by decide +kernel
theorem dX11_copyWorth_17 : decode cX11_copyWorth 17 = .ok (.aload_n 0, 1) := by decide +kernel
theorem dX11_copyWorth_18 : decode cX11_copyWorth 18 = .ok (.getfield 12, 3) := by decide +kernel
theorem dX11_copyWorth_21 : decode cX11_copyWorth 21 = .ok (.iload_n 1, 1) := by decide +kernel
theorem dX11_copyWorth_22 : decode cX11_copyWorth 22 = .ok (.invokevirtual 185, 3) := by decide +kernel
theorem dX11_copyWorth_25 : decode cX11_copyWorth 25 = .ok (.ifCond .eq 9, 3) := by decide +kernel
theorem dX11_copyWorth_28 : decode cX11_copyWorth 28 = .ok (.aload_n 0, 1) := by decide +kernel
theorem dX11_copyWorth_29 : decode cX11_copyWorth 29 = .ok (.iconst 3, 1) := by decide +kernel
theorem dX11_copyWorth_30 : decode cX11_copyWorth 30 = .ok (.invokevirtual 126, 3) := by decide +kernel
theorem dX11_copyWorth_33 : decode cX11_copyWorth 33 = .ok (.ireturn, 1) := by decide +kernel
theorem dX11_copyWorth_34 : decode cX11_copyWorth 34 = .ok (.aload_n 0, 1) := by decide +kernel
theorem dX11_copyWorth_35 : decode cX11_copyWorth 35 = .ok (.getfield 12, 3) := by decide +kernel
theorem dX11_copyWorth_38 : decode cX11_copyWorth 38 = .ok (.iload_n 1, 1) := by decide +kernel
theorem dX11_copyWorth_39 : decode cX11_copyWorth 39 = .ok (.iconst 0, 1) := by decide +kernel
theorem dX11_copyWorth_40 : decode cX11_copyWorth 40 = .ok (.aload_n 0, 1) := by decide +kernel
theorem dX11_copyWorth_41 : decode cX11_copyWorth 41 = .ok (.getfield 26, 3) := by decide +kernel
theorem dX11_copyWorth_44 : decode cX11_copyWorth 44 = .ok (.getfield 139, 3) := by decide +kernel
theorem dX11_copyWorth_47 : decode cX11_copyWorth 47 = .ok (.invokevirtual 188, 3) := by decide +kernel
theorem dX11_copyWorth_50 : decode cX11_copyWorth 50 = .ok (.ifCond .ne 9, 3) := by decide +kernel
theorem dX11_copyWorth_53 : decode cX11_copyWorth 53 = .ok (.aload_n 0, 1) := by decide +kernel
theorem dX11_copyWorth_54 : decode cX11_copyWorth 54 = .ok (.iconst 4, 1) := by decide +kernel
theorem dX11_copyWorth_55 : decode cX11_copyWorth 55 = .ok (.invokevirtual 126, 3) := by decide +kernel
theorem dX11_copyWorth_58 : decode cX11_copyWorth 58 = .ok (.ireturn, 1) := by decide +kernel
theorem dX11_copyWorth_59 : decode cX11_copyWorth 59 = .ok (.aload_n 0, 1) := by decide +kernel
theorem dX11_copyWorth_60 : decode cX11_copyWorth 60 = .ok (.getfield 58, 3) := by decide +kernel
theorem dX11_copyWorth_63 : decode cX11_copyWorth 63 = .ok (.invokevirtual 242, 3) := by decide +kernel
theorem dX11_copyWorth_66 : decode cX11_copyWorth 66 = .ok (.istore_n 2, 1) := by decide +kernel
theorem dX11_copyWorth_67 : decode cX11_copyWorth 67 = .ok (.iconst 0, 1) := by decide +kernel
theorem dX11_copyWorth_68 : decode cX11_copyWorth 68 = .ok (.istore_n 3, 1) := by decide +kernel
theorem dX11_copyWorth_69 : decode cX11_copyWorth 69 = .ok (.iload_n 3, 1) := by decide +kernel
theorem dX11_copyWorth_70 : decode cX11_copyWorth 70 = .ok (.aload_n 0, 1) := by decide +kernel
theorem dX11_copyWorth_71 : decode cX11_copyWorth 71 = .ok (.getfield 26, 3) := by decide +kernel
theorem dX11_copyWorth_74 : decode cX11_copyWorth 74 = .ok (.getfield 139, 3) := by decide +kernel
theorem dX11_copyWorth_77 : decode cX11_copyWorth 77 = .ok (.if_icmp .ge 41, 3) := by decide +kernel
theorem dX11_copyWorth_80 : decode cX11_copyWorth 80 = .ok (.aload_n 0, 1) := by decide +kernel
theorem dX11_copyWorth_81 : decode cX11_copyWorth 81 = .ok (.getfield 12, 3) := by decide +kernel
theorem dX11_copyWorth_84 : decode cX11_copyWorth 84 = .ok (.iload_n 1, 1) := by decide +kernel
theorem dX11_copyWorth_85 : decode cX11_copyWorth 85 = .ok (.iload_n 3, 1) := by decide +kernel
theorem dX11_copyWorth_86 : decode cX11_copyWorth 86 = .ok (.aload_n 0, 1) := by decide +kernel
theorem dX11_copyWorth_87 : decode cX11_copyWorth 87 = .ok (.iload_n 3, 1) := by decide +kernel
theorem dX11_copyWorth_88 : decode cX11_copyWorth 88 = .ok (.iload_n 2, 1) := by decide +kernel
theorem dX11_copyWorth_89 : decode cX11_copyWorth 89 = .ok (.invokevirtual 297, 3) := by decide +kernel
theorem dX11_copyWorth_92 : decode cX11_copyWorth 92 = .ok (.ifCond .eq 16, 3) := by decide +kernel
theorem dX11_copyWorth_95 : decode cX11_copyWorth 95 = .ok (.aload_n 0, 1) := by decide +kernel
theorem dX11_copyWorth_96 : decode cX11_copyWorth 96 = .ok (.getfield 26, 3) := by decide +kernel
theorem dX11_copyWorth_99 : decode cX11_copyWorth 99 = .ok (.getfield 270, 3) := by decide +kernel
theorem dX11_copyWorth_102 : decode cX11_copyWorth 102 = .ok (.iload_n 3, 1) := by decide +kernel
theorem dX11_copyWorth_103 : decode cX11_copyWorth 103 = .ok (.iaload, 1) := by decide +kernel
theorem dX11_copyWorth_104 : decode cX11_copyWorth 104 = .ok (.i2l, 1) := by decide +kernel
theorem dX11_copyWorth_105 : decode cX11_copyWorth 105 = .ok (.goto 4, 3) := by decide +kernel
theorem dX11_copyWorth_108 : decode cX11_copyWorth 108 = .ok (.lconst 0, 1) := by decide +kernel
theorem dX11_copyWorth_109 : decode cX11_copyWorth 109 = .ok (.invokevirtual 177, 3) := by decide +kernel
theorem dX11_copyWorth_112 : decode cX11_copyWorth 112 = .ok (.iinc 3 1, 3) := by decide +kernel
theorem dX11_copyWorth_115 : decode cX11_copyWorth 115 = .ok (.goto (-46), 3) := by decide +kernel
theorem dX11_copyWorth_118 : decode cX11_copyWorth 118 = .ok (.aload_n 0, 1) := by decide +kernel
theorem dX11_copyWorth_119 : decode cX11_copyWorth 119 = .ok (.aload_n 0, 1) := by decide +kernel
theorem dX11_copyWorth_120 : decode cX11_copyWorth 120 = .ok (.getfield 26, 3) := by decide +kernel
theorem dX11_copyWorth_123 : decode cX11_copyWorth 123 = .ok (.getfield 139, 3) := by decide +kernel
theorem dX11_copyWorth_126 : decode cX11_copyWorth 126 = .ok (.invokevirtual 130, 3) := by decide +kernel
theorem dX11_copyWorth_129 : decode cX11_copyWorth 129 = .ok (.ireturn, 1) := by decide +kernel
theorem dX11_year_0 : decode cX11_year 0 = .ok (.iload_n 1, 1) := by decide +kernel
theorem dX11_year_1 : decode cX11_year 1 = .ok (.iconst 1, 1) := by decide +kernel
theorem dX11_year_2 : decode cX11_year 2 = .ok (.if_icmp .lt 9, 3) := by decide +kernel
theorem dX11_year_5 : decode cX11_year 5 = .ok (.iload_n 1, 1) := by decide +kernel
theorem dX11_year_6 : decode cX11_year 6 = .ok (.bipush 99, 2) := by decide +kernel
theorem dX11_year_8 : decode cX11_year 8 = .ok (.if_icmp .le 9, 3) := by decide +kernel
theorem dX11_year_11 : decode cX11_year 11 = .ok (.aload_n 0, 1) := by decide +kernel
theorem dX11_year_12 : decode cX11_year 12 = .ok (.iconst 5, 1) := by decide +kernel
theorem dX11_year_13 : decode cX11_year 13 = .ok (.invokevirtual 126, 3) := by decide +kernel
theorem dX11_year_16 : decode cX11_year 16 = .ok (.ireturn, 1) := by decide +kernel
theorem dX11_year_17 : decode cX11_year 17 = .ok (.aload_n 0, 1) := by decide +kernel
theorem dX11_year_18 : decode cX11_year 18 = .ok (.getfield 26, 3) := by decide +kernel
theorem dX11_year_21 : decode cX11_year 21 = .ok (.getfield 252, 3) := by decide +kernel
theorem dX11_year_24 : decode cX11_year 24 = .ok (.iload_n 1, 1) := by decide +kernel
theorem dX11_year_25 : decode cX11_year 25 = .ok (.iadd, 1) := by decide +kernel
theorem dX11_year_26 : decode cX11_year 26 = .ok (.sipush 9999, 3) := by decide +kernel
theorem dX11_year_29 : decode cX11_year 29 = .ok (.if_icmp .le 10, 3) := by decide +kernel
theorem dX11_year_32 : decode cX11_year 32 = .ok (.aload_n 0, 1) := by decide +kernel
theorem dX11_year_33 : decode cX11_year 33 = .ok (.bipush 7, 2) := by decide +kernel
theorem dX11_year_35 : decode cX11_year 35 = .ok (.invokevirtual 126, 3) := by decide +kernel
theorem dX11_year_38 : decode cX11_year 38 = .ok (.ireturn, 1) := by decide +kernel
theorem dX11_year_39 : decode cX11_year 39 = .ok (.aload_n 0, 1) := by decide +kernel
theorem dX11_year_40 : decode cX11_year 40 = .ok (.getfield 26, 3) := by decide +kernel
theorem dX11_year_43 : decode cX11_year 43 = .ok (.getfield 255, 3) := by decide +kernel
theorem dX11_year_46 : decode cX11_year 46 = .ok (.istore_n 2, 1) := by decide +kernel
theorem dX11_year_47 : decode cX11_year 47 = .ok (.iconst 0, 1) := by decide +kernel
theorem dX11_year_48 : decode cX11_year 48 = .ok (.istore_n 3, 1) := by decide +kernel
theorem dX11_year_49 : decode cX11_year 49 = .ok (.iload_n 3, 1) := by decide +kernel
theorem dX11_year_50 : decode cX11_year 50 = .ok (.iload_n 1, 1) := by decide +kernel
theorem dX11_year_51 : decode cX11_year 51 = .ok (.if_icmp .ge 37, 3) := by decide +kernel
theorem dX11_year_54 : decode cX11_year 54 = .ok (.aload_n 0, 1) := by decide +kernel
theorem dX11_year_55 : decode cX11_year 55 = .ok (.getfield 26, 3) := by decide +kernel
theorem dX11_year_58 : decode cX11_year 58 = .ok (.aload_n 0, 1) := by decide +kernel
theorem dX11_year_59 : decode cX11_year 59 = .ok (.getfield 67, 3) := by decide +kernel
theorem dX11_year_62 : decode cX11_year 62 = .ok (.aload_n 0, 1) := by decide +kernel
theorem dX11_year_63 : decode cX11_year 63 = .ok (.getfield 26, 3) := by decide +kernel
theorem dX11_year_66 : decode cX11_year 66 = .ok (.getfield 255, 3) := by decide +kernel
theorem dX11_year_69 : decode cX11_year 69 = .ok (.aload_n 0, 1) := by decide +kernel
theorem dX11_year_70 : decode cX11_year 70 = .ok (.getfield 26, 3) := by decide +kernel
theorem dX11_year_73 : decode cX11_year 73 = .ok (.getfield 258, 3) := by decide +kernel
theorem dX11_year_76 : decode cX11_year 76 = .ok (.invokevirtual 300, 3) := by decide +kernel
theorem dX11_year_79 : decode cX11_year 79 = .ok (.putfield 255, 3) := by decide +kernel
theorem dX11_year_82 : decode cX11_year 82 = .ok (.iinc 3 1, 3) := by decide +kernel
theorem dX11_year_85 : decode cX11_year 85 = .ok (.goto (-36), 3) := by decide +kernel
theorem dX11_year_88 : decode cX11_year 88 = .ok (.aload_n 0, 1) := by decide +kernel
theorem dX11_year_89 : decode cX11_year 89 = .ok (.getfield 26, 3) := by decide +kernel
theorem dX11_year_92 : decode cX11_year 92 = .ok (.dup, 1) := by decide +kernel
theorem dX11_year_93 : decode cX11_year 93 = .ok (.getfield 252, 3) := by decide +kernel
theorem dX11_year_96 : decode cX11_year 96 = .ok (.iload_n 1, 1) := by decide +kernel
theorem dX11_year_97 : decode cX11_year 97 = .ok (.iadd, 1) := by decide +kernel
theorem dX11_year_98 : decode cX11_year 98 = .ok (.putfield 252, 3) := by decide +kernel
theorem dX11_year_101 : decode cX11_year 101 = .ok (.aload_n 0, 1) := by decide +kernel
theorem dX11_year_102 : decode cX11_year 102 = .ok (.aload_n 0, 1) := by decide +kernel
theorem dX11_year_103 : decode cX11_year 103 = .ok (.getfield 26, 3) := by decide +kernel
theorem dX11_year_106 : decode cX11_year 106 = .ok (.getfield 255, 3) := by decide +kernel
theorem dX11_year_109 : decode cX11_year 109 = .ok (.iload_n 2, 1) := by decide +kernel
theorem dX11_year_110 : decode cX11_year 110 = .ok (.iconst (-1), 1) := by decide +kernel
theorem dX11_year_111 : decode cX11_year 111 = .ok (.ixor, 1) := by decide +kernel
theorem dX11_year_112 : decode cX11_year 112 = .ok (.iand, 1) := by decide +kernel
theorem dX11_year_113 : decode cX11_year 113 = .ok (.invokevirtual 130, 3) := by decide +kernel
theorem dX11_year_116 : decode cX11_year 116 = .ok (.ireturn, 1) := by decide +kernel
theorem dX11_unmake_0 : decode cX11_unmake 0 = .ok (.aload_n 0, 1) := by decide +kernel
theorem dX11_unmake_1 : decode cX11_unmake 1 = .ok (.iload_n 1, 1) := by decide +kernel
theorem dX11_unmake_2 : decode cX11_unmake 2 = .ok (.invokevirtual 267, 3) := by decide +kernel
theorem dX11_unmake_5 : decode cX11_unmake 5 = .ok (.ifCond .eq 9, 3) := by decide +kernel
theorem dX11_unmake_8 : decode cX11_unmake 8 = .ok (.aload_n 0, 1) := by decide +kernel
theorem dX11_unmake_9 : decode cX11_unmake 9 = .ok (.iconst 2, 1) := by decide +kernel
theorem dX11_unmake_10 : decode cX11_unmake 10 = .ok (.invokevirtual 126, 3) := by decide +kernel
theorem dX11_unmake_13 : decode cX11_unmake 13 = .ok (.ireturn, 1) := by decide +kernel
theorem dX11_unmake_14 : decode cX11_unmake 14 = .ok (.aload_n 0, 1) := by decide +kernel
theorem dX11_unmake_15 : decode cX11_unmake 15 = .ok (.iload_n 1, 1) := by decide +kernel
theorem dX11_unmake_16 : decode cX11_unmake 16 = .ok (.aload_n 0, 1) := by decide +kernel
theorem dX11_unmake_17 : decode cX11_unmake 17 = .ok (.getfield 26, 3) := by decide +kernel
theorem dX11_unmake_20 : decode cX11_unmake 20 = .ok (.getfield 255, 3) := by decide +kernel
theorem dX11_unmake_23 : decode cX11_unmake 23 = .ok (.aload_n 0, 1) := by decide +kernel
theorem dX11_unmake_24 : decode cX11_unmake 24 = .ok (.getfield 26, 3) := by decide +kernel
theorem dX11_unmake_27 : decode cX11_unmake 27 = .ok (.getfield 258, 3) := by decide +kernel
theorem dX11_unmake_30 : decode cX11_unmake 30 = .ok (.ior, 1) := by decide +kernel
theorem dX11_unmake_31 : decode cX11_unmake 31 = .ok (.invokevirtual 297, 3) := by decide +kernel
theorem dX11_unmake_34 : decode cX11_unmake 34 = .ok (.ifCond .eq 10, 3) := by decide +kernel
theorem dX11_unmake_37 : decode cX11_unmake 37 = .ok (.aload_n 0, 1) := by decide +kernel
theorem dX11_unmake_38 : decode cX11_unmake 38 = .ok (.bipush 9, 2) := by decide +kernel
theorem dX11_unmake_40 : decode cX11_unmake 40 = .ok (.invokevirtual 126, 3) := by decide +kernel
theorem dX11_unmake_43 : decode cX11_unmake 43 = .ok (.ireturn, 1) := by decide +kernel
theorem dX11_unmake_44 : decode cX11_unmake 44 = .ok (.aload_n 0, 1) := by decide +kernel
theorem dX11_unmake_45 : decode cX11_unmake 45 = .ok (.getfield 58, 3) := by decide +kernel
theorem dX11_unmake_48 : decode cX11_unmake 48 = .ok (.invokevirtual 242, 3) := by decide +kernel
theorem dX11_unmake_51 : decode cX11_unmake 51 = .ok (.istore_n 2, 1) := by decide +kernel
theorem dX11_unmake_52 : decode cX11_unmake 52 = .ok (.aload_n 0, 1) := by decide +kernel
theorem dX11_unmake_53 : decode cX11_unmake 53 = .ok (.getfield 26, 3) := by decide +kernel
theorem dX11_unmake_56 : decode cX11_unmake 56 = .ok (.dup, 1) := by decide +kernel
theorem dX11_unmake_57 : decode cX11_unmake 57 = .ok (.getfield 255, 3) := by decide +kernel
theorem dX11_unmake_60 : decode cX11_unmake 60 = .ok (.iconst 1, 1) := by decide +kernel
theorem dX11_unmake_61 : decode cX11_unmake 61 = .ok (.iload_n 1, 1) := by decide +kernel
theorem dX11_unmake_62 : decode cX11_unmake 62 = .ok (.ishl, 1) := by decide +kernel
theorem dX11_unmake_63 : decode cX11_unmake 63 = .ok (.ior, 1) := by decide +kernel
theorem dX11_unmake_64 : decode cX11_unmake 64 = .ok (.putfield 255, 3) := by decide +kernel
theorem dX11_unmake_67 : decode cX11_unmake 67 = .ok (.aload_n 0, 1) := by decide +kernel
theorem dX11_unmake_68 : decode cX11_unmake 68 = .ok (.iload_n 2, 1) := by decide +kernel
theorem dX11_unmake_69 : decode cX11_unmake 69 = .ok (.aload_n 0, 1) := by decide +kernel
theorem dX11_unmake_70 : decode cX11_unmake 70 = .ok (.getfield 58, 3) := by decide +kernel
theorem dX11_unmake_73 : decode cX11_unmake 73 = .ok (.invokevirtual 242, 3) := by decide +kernel
theorem dX11_unmake_76 : decode cX11_unmake 76 = .ok (.iconst (-1), 1) := by decide +kernel
theorem dX11_unmake_77 : decode cX11_unmake 77 = .ok (.ixor, 1) := by decide +kernel
theorem dX11_unmake_78 : decode cX11_unmake 78 = .ok (.iand, 1) := by decide +kernel
theorem dX11_unmake_79 : decode cX11_unmake 79 = .ok (.invokevirtual 130, 3) := by decide +kernel
theorem dX11_unmake_82 : decode cX11_unmake 82 = .ok (.ireturn, 1) := by decide +kernel
theorem dX11_remake_0 : decode cX11_remake 0 = .ok (.aload_n 0, 1) := by decide +kernel
theorem dX11_remake_1 : decode cX11_remake 1 = .ok (.iload_n 1, 1) := by decide +kernel
theorem dX11_remake_2 : decode cX11_remake 2 = .ok (.invokevirtual 267, 3) := by decide +kernel
theorem dX11_remake_5 : decode cX11_remake 5 = .ok (.ifCond .eq 9, 3) := by decide +kernel
theorem dX11_remake_8 : decode cX11_remake 8 = .ok (.aload_n 0, 1) := by decide +kernel
theorem dX11_remake_9 : decode cX11_remake 9 = .ok (.iconst 2, 1) := by decide +kernel
theorem dX11_remake_10 : decode cX11_remake 10 = .ok (.invokevirtual 126, 3) := by decide +kernel
theorem dX11_remake_13 : decode cX11_remake 13 = .ok (.ireturn, 1) := by decide +kernel
theorem dX11_remake_14 : decode cX11_remake 14 = .ok (.aload_n 0, 1) := by decide +kernel
theorem dX11_remake_15 : decode cX11_remake 15 = .ok (.iload_n 1, 1) := by decide +kernel
theorem dX11_remake_16 : decode cX11_remake 16 = .ok (.aload_n 0, 1) := by decide +kernel
theorem dX11_remake_17 : decode cX11_remake 17 = .ok (.getfield 26, 3) := by decide +kernel
theorem dX11_remake_20 : decode cX11_remake 20 = .ok (.getfield 255, 3) := by decide +kernel
theorem dX11_remake_23 : decode cX11_remake 23 = .ok (.invokevirtual 297, 3) := by decide +kernel
theorem dX11_remake_26 : decode cX11_remake 26 = .ok (.ifCond .ne 10, 3) := by decide +kernel
theorem dX11_remake_29 : decode cX11_remake 29 = .ok (.aload_n 0, 1) := by decide +kernel
theorem dX11_remake_30 : decode cX11_remake 30 = .ok (.bipush 9, 2) := by decide +kernel
theorem dX11_remake_32 : decode cX11_remake 32 = .ok (.invokevirtual 126, 3) := by decide +kernel
theorem dX11_remake_35 : decode cX11_remake 35 = .ok (.ireturn, 1) := by decide +kernel
theorem dX11_remake_36 : decode cX11_remake 36 = .ok (.aload_n 0, 1) := by decide +kernel
theorem dX11_remake_37 : decode cX11_remake 37 = .ok (.getfield 58, 3) := by decide +kernel
theorem dX11_remake_40 : decode cX11_remake 40 = .ok (.invokevirtual 242, 3) := by decide +kernel
theorem dX11_remake_43 : decode cX11_remake 43 = .ok (.istore_n 2, 1) := by decide +kernel
theorem dX11_remake_44 : decode cX11_remake 44 = .ok (.aload_n 0, 1) := by decide +kernel
theorem dX11_remake_45 : decode cX11_remake 45 = .ok (.getfield 26, 3) := by decide +kernel
theorem dX11_remake_48 : decode cX11_remake 48 = .ok (.dup, 1) := by decide +kernel
theorem dX11_remake_49 : decode cX11_remake 49 = .ok (.getfield 255, 3) := by decide +kernel
theorem dX11_remake_52 : decode cX11_remake 52 = .ok (.iconst 1, 1) := by decide +kernel
theorem dX11_remake_53 : decode cX11_remake 53 = .ok (.iload_n 1, 1) := by decide +kernel
theorem dX11_remake_54 : decode cX11_remake 54 = .ok (.ishl, 1) := by decide +kernel
theorem dX11_remake_55 : decode cX11_remake 55 = .ok (.iconst (-1), 1) := by decide +kernel
theorem dX11_remake_56 : decode cX11_remake 56 = .ok (.ixor, 1) := by decide +kernel
theorem dX11_remake_57 : decode cX11_remake 57 = .ok (.iand, 1) := by decide +kernel
theorem dX11_remake_58 : decode cX11_remake 58 = .ok (.putfield 255, 3) := by decide +kernel
theorem dX11_remake_61 : decode cX11_remake 61 = .ok (.aload_n 0, 1) := by decide +kernel
theorem dX11_remake_62 : decode cX11_remake 62 = .ok (.aload_n 0, 1) := by decide +kernel
theorem dX11_remake_63 : decode cX11_remake 63 = .ok (.getfield 58, 3) := by decide +kernel
theorem dX11_remake_66 : decode cX11_remake 66 = .ok (.invokevirtual 242, 3) := by decide +kernel
theorem dX11_remake_69 : decode cX11_remake 69 = .ok (.iload_n 2, 1) := by decide +kernel
theorem dX11_remake_70 : decode cX11_remake 70 = .ok (.iconst (-1), 1) := by decide +kernel
theorem dX11_remake_71 : decode cX11_remake 71 = .ok (.ixor, 1) := by decide +kernel
theorem dX11_remake_72 : decode cX11_remake 72 = .ok (.iand, 1) := by decide +kernel
theorem dX11_remake_73 : decode cX11_remake 73 = .ok (.invokevirtual 130, 3) := by decide +kernel
theorem dX11_remake_76 : decode cX11_remake 76 = .ok (.ireturn, 1) := by decide +kernel
theorem dX11_exempt_0 : decode cX11_exempt 0 = .ok (.aload_n 0, 1) := by decide +kernel
theorem dX11_exempt_1 : decode cX11_exempt 1 = .ok (.iload_n 1, 1) := by decide +kernel
theorem dX11_exempt_2 : decode cX11_exempt 2 = .ok (.invokevirtual 267, 3) := by decide +kernel
theorem dX11_exempt_5 : decode cX11_exempt 5 = .ok (.ifCond .eq 9, 3) := by decide +kernel
theorem dX11_exempt_8 : decode cX11_exempt 8 = .ok (.aload_n 0, 1) := by decide +kernel
theorem dX11_exempt_9 : decode cX11_exempt 9 = .ok (.iconst 2, 1) := by decide +kernel
theorem dX11_exempt_10 : decode cX11_exempt 10 = .ok (.invokevirtual 162, 3) := by decide +kernel
theorem dX11_exempt_13 : decode cX11_exempt 13 = .ok (.ireturn, 1) := by decide +kernel
theorem dX11_exempt_14 : decode cX11_exempt 14 = .ok (.aload_n 0, 1) := by decide +kernel
theorem dX11_exempt_15 : decode cX11_exempt 15 = .ok (.iload_n 1, 1) := by decide +kernel
theorem dX11_exempt_16 : decode cX11_exempt 16 = .ok (.aload_n 0, 1) := by decide +kernel
theorem dX11_exempt_17 : decode cX11_exempt 17 = .ok (.getfield 26, 3) := by decide +kernel
theorem dX11_exempt_20 : decode cX11_exempt 20 = .ok (.getfield 258, 3) := by decide +kernel
theorem dX11_exempt_23 : decode cX11_exempt 23 = .ok (.invokevirtual 297, 3) := by decide +kernel
theorem dX11_exempt_26 : decode cX11_exempt 26 = .ok (.iload_n 2, 1) := by decide +kernel
theorem dX11_exempt_27 : decode cX11_exempt 27 = .ok (.if_icmp .ne 10, 3) := by decide +kernel
theorem dX11_exempt_30 : decode cX11_exempt 30 = .ok (.aload_n 0, 1) := by decide +kernel
theorem dX11_exempt_31 : decode cX11_exempt 31 = .ok (.bipush 9, 2) := by decide +kernel
theorem dX11_exempt_33 : decode cX11_exempt 33 = .ok (.invokevirtual 162, 3) := by decide +kernel
theorem dX11_exempt_36 : decode cX11_exempt 36 = .ok (.ireturn, 1) := by decide +kernel
theorem dX11_exempt_37 : decode cX11_exempt 37 = .ok (.aload_n 0, 1) := by decide +kernel
theorem dX11_exempt_38 : decode cX11_exempt 38 = .ok (.getfield 26, 3) := by decide +kernel
theorem dX11_exempt_41 : decode cX11_exempt 41 = .ok (.dup, 1) := by decide +kernel
theorem dX11_exempt_42 : decode cX11_exempt 42 = .ok (.getfield 258, 3) := by decide +kernel
theorem dX11_exempt_45 : decode cX11_exempt 45 = .ok (.iconst 1, 1) := by decide +kernel
theorem dX11_exempt_46 : decode cX11_exempt 46 = .ok (.iload_n 1, 1) := by decide +kernel
theorem dX11_exempt_47 : decode cX11_exempt 47 = .ok (.ishl, 1) := by decide +kernel
theorem dX11_exempt_48 : decode cX11_exempt 48 = .ok (.ixor, 1) := by decide +kernel
theorem dX11_exempt_49 : decode cX11_exempt 49 = .ok (.putfield 258, 3) := by decide +kernel
theorem dX11_exempt_52 : decode cX11_exempt 52 = .ok (.aload_n 0, 1) := by decide +kernel
theorem dX11_exempt_53 : decode cX11_exempt 53 = .ok (.invokevirtual 169, 3) := by decide +kernel
theorem dX11_exempt_56 : decode cX11_exempt 56 = .ok (.ireturn, 1) := by decide +kernel
theorem dX11_grudge_0 : decode cX11_grudge 0 = .ok (.aload_n 0, 1) := by decide +kernel
theorem dX11_grudge_1 : decode cX11_grudge 1 = .ok (.iload_n 1, 1) := by decide +kernel
theorem dX11_grudge_2 : decode cX11_grudge 2 = .ok (.invokevirtual 291, 3) := by decide +kernel
theorem dX11_grudge_5 : decode cX11_grudge 5 = .ok (.ifCond .ne 11, 3) := by decide +kernel
theorem dX11_grudge_8 : decode cX11_grudge 8 = .ok (.aload_n 0, 1) := by decide +kernel
theorem dX11_grudge_9 : decode cX11_grudge 9 = .ok (.iload_n 2, 1) := by decide +kernel
theorem dX11_grudge_10 : decode cX11_grudge 10 = .ok (.invokevirtual 267, 3) := by decide +kernel
theorem dX11_grudge_13 : decode cX11_grudge 13 = .ok (.ifCond .eq 9, 3) := by decide +kernel
theorem dX11_grudge_16 : decode cX11_grudge 16 = .ok (.aload_n 0, 1) := by decide +kernel
theorem dX11_grudge_17 : decode cX11_grudge 17 = .ok (.iconst 2, 1) := by decide +kernel
theorem dX11_grudge_18 : decode cX11_grudge 18 = .ok (.invokevirtual 162, 3) := by decide +kernel
theorem dX11_grudge_21 : decode cX11_grudge 21 = .ok (.ireturn, 1) := by decide +kernel
theorem dX11_grudge_22 : decode cX11_grudge 22 = .ok (.iload_n 3, 1) := by decide +kernel
theorem dX11_grudge_23 : decode cX11_grudge 23 = .ok (.ifCond .lt 9, 3) := by decide +kernel
theorem dX11_grudge_26 : decode cX11_grudge 26 = .ok (.iload_n 3, 1) := by decide +kernel
theorem dX11_grudge_27 : decode cX11_grudge 27 = .ok (.bipush 9, 2) := by decide +kernel
theorem dX11_grudge_29 : decode cX11_grudge 29 = .ok (.if_icmp .le 9, 3) := by decide +kernel
theorem dX11_grudge_32 : decode cX11_grudge 32 = .ok (.aload_n 0, 1) := by decide +kernel
theorem dX11_grudge_33 : decode cX11_grudge 33 = .ok (.iconst 5, 1) := by decide +kernel
theorem dX11_grudge_34 : decode cX11_grudge 34 = .ok (.invokevirtual 162, 3) := by decide +kernel
theorem dX11_grudge_37 : decode cX11_grudge 37 = .ok (.ireturn, 1) := by decide +kernel
theorem dX11_grudge_38 : decode cX11_grudge 38 = .ok (.aload_n 0, 1) := by decide +kernel
theorem dX11_grudge_39 : decode cX11_grudge 39 = .ok (.getfield 26, 3) := by decide +kernel
theorem dX11_grudge_42 : decode cX11_grudge 42 = .ok (.getfield 294, 3) := by decide +kernel
theorem dX11_grudge_45 : decode cX11_grudge 45 = .ok (.iload_n 1, 1) := by decide +kernel
theorem dX11_grudge_46 : decode cX11_grudge 46 = .ok (.bipush 12, 2) := by decide +kernel
theorem dX11_grudge_48 : decode cX11_grudge 48 = .ok (.imul, 1) := by decide +kernel
theorem dX11_grudge_49 : decode cX11_grudge 49 = .ok (.iload_n 2, 1) := by decide +kernel
theorem dX11_grudge_50 : decode cX11_grudge 50 = .ok (.iadd, 1) := by decide +kernel
theorem dX11_grudge_51 : decode cX11_grudge 51 = .ok (.iload_n 3, 1) := by decide +kernel
theorem dX11_grudge_52 : decode cX11_grudge 52 = .ok (.iastore, 1) := by decide +kernel
theorem dX11_grudge_53 : decode cX11_grudge 53 = .ok (.aload_n 0, 1) := by decide +kernel
theorem dX11_grudge_54 : decode cX11_grudge 54 = .ok (.getfield 67, 3) := by decide +kernel
theorem dX11_grudge_57 : decode cX11_grudge 57 = .ok (.invokevirtual 303, 3) := by decide +kernel
theorem dX11_grudge_60 : decode cX11_grudge 60 = .ok (.aload_n 0, 1) := by decide +kernel
theorem dX11_grudge_61 : decode cX11_grudge 61 = .ok (.invokevirtual 169, 3) := by decide +kernel
theorem dX11_grudge_64 : decode cX11_grudge 64 = .ok (.ireturn, 1) := by decide +kernel
theorem dX11_rule_0 : decode cX11_rule 0 = .ok (.iload_n 1, 1) := by decide +kernel
theorem dX11_rule_1 : decode cX11_rule 1 = .ok (.ifCond .lt 8, 3) := by decide +kernel
theorem dX11_rule_4 : decode cX11_rule 4 = .ok (.iload_n 1, 1) := by decide +kernel
theorem dX11_rule_5 : decode cX11_rule 5 = .ok (.iconst 2, 1) := by decide +kernel
theorem dX11_rule_6 : decode cX11_rule 6 = .ok (.if_icmp .le 9, 3) := by decide +kernel
theorem dX11_rule_9 : decode cX11_rule 9 = .ok (.aload_n 0, 1) := by decide +kernel
theorem dX11_rule_10 : decode cX11_rule 10 = .ok (.iconst 5, 1) := by decide +kernel
theorem dX11_rule_11 : decode cX11_rule 11 = .ok (.invokevirtual 162, 3) := by decide +kernel
theorem dX11_rule_14 : decode cX11_rule 14 = .ok (.ireturn, 1) := by decide +kernel
theorem dX11_rule_15 : decode cX11_rule 15 = .ok (.aload_n 0, 1) := by decide +kernel
theorem dX11_rule_16 : decode cX11_rule 16 = .ok (.getfield 26, 3) := by decide +kernel
theorem dX11_rule_19 : decode cX11_rule 19 = .ok (.iload_n 1, 1) := by decide +kernel
theorem dX11_rule_20 : decode cX11_rule 20 = .ok (.putfield 249, 3) := by decide +kernel
theorem dX11_rule_23 : decode cX11_rule 23 = .ok (.aload_n 0, 1) := by decide +kernel
theorem dX11_rule_24 : decode cX11_rule 24 = .ok (.getfield 67, 3) := by decide +kernel
theorem dX11_rule_27 : decode cX11_rule 27 = .ok (.invokevirtual 303, 3) := by decide +kernel
theorem dX11_rule_30 : decode cX11_rule 30 = .ok (.aload_n 0, 1) := by decide +kernel
theorem dX11_rule_31 : decode cX11_rule 31 = .ok (.invokevirtual 169, 3) := by decide +kernel
theorem dX11_rule_34 : decode cX11_rule 34 = .ok (.ireturn, 1) := by decide +kernel
theorem dX11_vote_0 : decode cX11_vote 0 = .ok (.aload_n 0, 1) := by decide +kernel
theorem dX11_vote_1 : decode cX11_vote 1 = .ok (.aload_n 0, 1) := by decide +kernel
theorem dX11_vote_2 : decode cX11_vote 2 = .ok (.getfield 67, 3) := by decide +kernel
theorem dX11_vote_5 : decode cX11_vote 5 = .ok (.aload_n 0, 1) := by decide +kernel
theorem dX11_vote_6 : decode cX11_vote 6 = .ok (.getfield 67, 3) := by decide +kernel
theorem dX11_vote_9 : decode cX11_vote 9 = .ok (.invokevirtual 306, 3) := by decide +kernel
theorem dX11_vote_12 : decode cX11_vote 12 = .ok (.aload_n 0, 1) := by decide +kernel
theorem dX11_vote_13 : decode cX11_vote 13 = .ok (.getfield 26, 3) := by decide +kernel
theorem dX11_vote_16 : decode cX11_vote 16 = .ok (.getfield 249, 3) := by decide +kernel
theorem dX11_vote_19 : decode cX11_vote 19 = .ok (.invokevirtual 309, 3) := by decide +kernel
theorem dX11_vote_22 : decode cX11_vote 22 = .ok (.invokevirtual 312, 3) := by decide +kernel
theorem dX11_vote_25 : decode cX11_vote 25 = .ok (.ireturn, 1) := by decide +kernel
theorem dX11_votes_0 : decode cX11_votes 0 = .ok (.aload_n 0, 1) := by decide +kernel
theorem dX11_votes_1 : decode cX11_votes 1 = .ok (.iload_n 1, 1) := by decide +kernel
theorem dX11_votes_2 : decode cX11_votes 2 = .ok (.invokevirtual 267, 3) := by decide +kernel
theorem dX11_votes_5 : decode cX11_votes 5 = .ok (.ifCond .eq 9, 3) := by decide +kernel
theorem dX11_votes_8 : decode cX11_votes 8 = .ok (.aload_n 0, 1) := by decide +kernel
theorem dX11_votes_9 : decode cX11_votes 9 = .ok (.iconst 2, 1) := by decide +kernel
theorem dX11_votes_10 : decode cX11_votes 10 = .ok (.invokevirtual 126, 3) := by decide +kernel
theorem dX11_votes_13 : decode cX11_votes 13 = .ok (.ireturn, 1) := by decide +kernel
theorem dX11_votes_14 : decode cX11_votes 14 = .ok (.aload_n 0, 1) := by decide +kernel
theorem dX11_votes_15 : decode cX11_votes 15 = .ok (.getfield 67, 3) := by decide +kernel
theorem dX11_votes_18 : decode cX11_votes 18 = .ok (.aload_n 0, 1) := by decide +kernel
theorem dX11_votes_19 : decode cX11_votes 19 = .ok (.getfield 67, 3) := by decide +kernel
theorem dX11_votes_22 : decode cX11_votes 22 = .ok (.invokevirtual 306, 3) := by decide +kernel
theorem dX11_votes_25 : decode cX11_votes 25 = .ok (.aload_n 0, 1) := by decide +kernel
theorem dX11_votes_26 : decode cX11_votes 26 = .ok (.getfield 26, 3) := by decide +kernel
theorem dX11_votes_29 : decode cX11_votes 29 = .ok (.getfield 249, 3) := by decide +kernel
theorem dX11_votes_32 : decode cX11_votes 32 = .ok (.invokevirtual 309, 3) := by decide +kernel
theorem dX11_votes_35 : decode cX11_votes 35 = .ok (.pop, 1) := by decide +kernel
theorem dX11_votes_36 : decode cX11_votes 36 = .ok (.aload_n 0, 1) := by decide +kernel
theorem dX11_votes_37 : decode cX11_votes 37 = .ok (.aload_n 0, 1) := by decide +kernel
theorem dX11_votes_38 : decode cX11_votes 38 = .ok (.getfield 67, 3) := by decide +kernel
theorem dX11_votes_41 : decode cX11_votes 41 = .ok (.getfield 315, 3) := by decide +kernel
theorem dX11_votes_44 : decode cX11_votes 44 = .ok (.iload_n 1, 1) := by decide +kernel
theorem dX11_votes_45 : decode cX11_votes 45 = .ok (.iaload, 1) := by decide +kernel
theorem dX11_votes_46 : decode cX11_votes 46 = .ok (.invokevirtual 130, 3) := by decide +kernel
theorem dX11_votes_49 : decode cX11_votes 49 = .ok (.ireturn, 1) := by decide +kernel
theorem dX11_voteBy_0 : decode cX11_voteBy 0 = .ok (.iload_n 1, 1) := by decide +kernel
theorem dX11_voteBy_1 : decode cX11_voteBy 1 = .ok (.ifCond .lt 8, 3) := by decide +kernel
theorem dX11_voteBy_4 : decode cX11_voteBy 4 = .ok (.iload_n 1, 1) := by decide +kernel
theorem dX11_voteBy_5 : decode cX11_voteBy 5 = .ok (.iconst 2, 1) := by decide +kernel
theorem dX11_voteBy_6 : decode cX11_voteBy 6 = .ok (.if_icmp .le 9, 3) := by decide +kernel
theorem dX11_voteBy_9 : decode cX11_voteBy 9 = .ok (.aload_n 0, 1) := by decide +kernel
theorem dX11_voteBy_10 : decode cX11_voteBy 10 = .ok (.iconst 5, 1) := by decide +kernel
theorem dX11_voteBy_11 : decode cX11_voteBy 11 = .ok (.invokevirtual 126, 3) := by decide +kernel
theorem dX11_voteBy_14 : decode cX11_voteBy 14 = .ok (.ireturn, 1) := by decide +kernel
theorem dX11_voteBy_15 : decode cX11_voteBy 15 = .ok (.aload_n 0, 1) := by decide +kernel
theorem dX11_voteBy_16 : decode cX11_voteBy 16 = .ok (.aload_n 0, 1) := by decide +kernel
theorem dX11_voteBy_17 : decode cX11_voteBy 17 = .ok (.getfield 67, 3) := by decide +kernel
theorem dX11_voteBy_20 : decode cX11_voteBy 20 = .ok (.aload_n 0, 1) := by decide +kernel
theorem dX11_voteBy_21 : decode cX11_voteBy 21 = .ok (.getfield 67, 3) := by decide +kernel
theorem dX11_voteBy_24 : decode cX11_voteBy 24 = .ok (.invokevirtual 306, 3) := by decide +kernel
theorem dX11_voteBy_27 : decode cX11_voteBy 27 = .ok (.iload_n 1, 1) := by decide +kernel
theorem dX11_voteBy_28 : decode cX11_voteBy 28 = .ok (.invokevirtual 309, 3) := by decide +kernel
theorem dX11_voteBy_31 : decode cX11_voteBy 31 = .ok (.invokevirtual 312, 3) := by decide +kernel
theorem dX11_voteBy_34 : decode cX11_voteBy 34 = .ok (.ireturn, 1) := by decide +kernel
theorem dX11_sway_0 : decode cX11_sway 0 = .ok (.aload_n 0, 1) := by decide +kernel
theorem dX11_sway_1 : decode cX11_sway 1 = .ok (.iload_n 1, 1) := by decide +kernel
theorem dX11_sway_2 : decode cX11_sway 2 = .ok (.invokevirtual 291, 3) := by decide +kernel
theorem dX11_sway_5 : decode cX11_sway 5 = .ok (.ifCond .eq 9, 3) := by decide +kernel
theorem dX11_sway_8 : decode cX11_sway 8 = .ok (.aload_n 0, 1) := by decide +kernel
theorem dX11_sway_9 : decode cX11_sway 9 = .ok (.iconst 2, 1) := by decide +kernel
theorem dX11_sway_10 : decode cX11_sway 10 = .ok (.invokevirtual 126, 3) := by decide +kernel
theorem dX11_sway_13 : decode cX11_sway 13 = .ok (.ireturn, 1) := by decide +kernel
theorem dX11_sway_14 : decode cX11_sway 14 = .ok (.aload_n 0, 1) := by decide +kernel
theorem dX11_sway_15 : decode cX11_sway 15 = .ok (.getfield 26, 3) := by decide +kernel
theorem dX11_sway_18 : decode cX11_sway 18 = .ok (.getfield 249, 3) := by decide +kernel
theorem dX11_sway_21 : decode cX11_sway 21 = .ok (.iconst 2, 1) := by decide +kernel
theorem dX11_sway_22 : decode cX11_sway 22 = .ok (.if_icmp .ne 10, 3) := by decide +kernel
theorem dX11_sway_25 : decode cX11_sway 25 = .ok (.aload_n 0, 1) := by decide +kernel
theorem dX11_sway_26 : decode cX11_sway 26 = .ok (.bipush 9, 2) := by decide +kernel
theorem dX11_sway_28 : decode cX11_sway 28 = .ok (.invokevirtual 126, 3) := by decide +kernel
theorem dX11_sway_31 : decode cX11_sway 31 = .ok (.ireturn, 1) := by decide +kernel
theorem dX11_sway_32 : decode cX11_sway 32 = .ok (.aload_n 0, 1) := by decide +kernel
theorem dX11_sway_33 : decode cX11_sway 33 = .ok (.aload_n 0, 1) := by decide +kernel
theorem dX11_sway_34 : decode cX11_sway 34 = .ok (.getfield 67, 3) := by decide +kernel
theorem dX11_sway_37 : decode cX11_sway 37 = .ok (.iload_n 1, 1) := by decide +kernel
theorem dX11_sway_38 : decode cX11_sway 38 = .ok (.invokevirtual 318, 3) := by decide +kernel
theorem dX11_sway_41 : decode cX11_sway 41 = .ok (.invokevirtual 130, 3) := by decide +kernel
theorem dX11_sway_44 : decode cX11_sway 44 = .ok (.ireturn, 1) := by decide +kernel
theorem dX11_uprightFault_0 : decode cX11_uprightFault 0 = .ok (.aload_n 0, 1) := by decide +kernel
theorem dX11_uprightFault_1 : decode cX11_uprightFault 1 = .ok (.iload_n 1, 1) := by decide +kernel
theorem dX11_uprightFault_2 : decode cX11_uprightFault 2 = .ok (.invokevirtual 267, 3) := by decide +kernel
theorem dX11_uprightFault_5 : decode cX11_uprightFault 5 = .ok (.ifCond .eq 5, 3) := by decide +kernel
theorem dX11_uprightFault_8 : decode cX11_uprightFault 8 = .ok (.iconst 2, 1) := by decide +kernel
theorem dX11_uprightFault_9 : decode cX11_uprightFault 9 = .ok (.ireturn, 1) := by decide +kernel
theorem dX11_uprightFault_10 : decode cX11_uprightFault 10 = .ok (.aload_n 0, 1) := by decide +kernel
theorem dX11_uprightFault_11 : decode cX11_uprightFault 11 = .ok (.iload_n 1, 1) := by decide +kernel
theorem dX11_uprightFault_12 : decode cX11_uprightFault 12 = .ok (.aload_n 0, 1) := by decide +kernel
theorem dX11_uprightFault_13 : decode cX11_uprightFault 13 = .ok (.getfield 58, 3) := by decide +kernel
theorem dX11_uprightFault_16 : decode cX11_uprightFault 16 = .ok (.invokevirtual 242, 3) := by decide +kernel
theorem dX11_uprightFault_19 : decode cX11_uprightFault 19 = .ok (.invokevirtual 297, 3) := by decide +kernel
theorem dX11_uprightFault_22 : decode cX11_uprightFault 22 = .ok (.ifCond .eq 7, 3) := by decide +kernel
theorem dX11_uprightFault_25 : decode cX11_uprightFault 25 = .ok (.iconst 0, 1) := by decide +kernel
theorem dX11_uprightFault_26 : decode cX11_uprightFault 26 = .ok (.goto 5, 3) := by decide +kernel
theorem dX11_uprightFault_29 : decode cX11_uprightFault 29 = .ok (.bipush 9, 2) := by decide +kernel
theorem dX11_uprightFault_31 : decode cX11_uprightFault 31 = .ok (.ireturn, 1) := by decide +kernel
theorem dX11_falls_0 : decode cX11_falls 0 = .ok (.aload_n 0, 1) := by decide +kernel
theorem dX11_falls_1 : decode cX11_falls 1 = .ok (.iload_n 1, 1) := by decide +kernel
theorem dX11_falls_2 : decode cX11_falls 2 = .ok (.invokevirtual 321, 3) := by decide +kernel
theorem dX11_falls_5 : decode cX11_falls 5 = .ok (.istore_n 2, 1) := by decide +kernel
theorem dX11_falls_6 : decode cX11_falls 6 = .ok (.iload_n 2, 1) := by decide +kernel
theorem dX11_falls_7 : decode cX11_falls 7 = .ok (.ifCond .eq 11, 3) := by decide +kernel
theorem dX11_falls_10 : decode cX11_falls 10 = .ok (.aload_n 0, 1) := by decide +kernel
theorem dX11_falls_11 : decode cX11_falls 11 = .ok (.iload_n 2, 1) := by decide +kernel
theorem dX11_falls_12 : decode cX11_falls 12 = .ok (.invokevirtual 126, 3) := by decide +kernel
theorem dX11_falls_15 : decode cX11_falls 15 = .ok (.goto 15, 3) := by decide +kernel
theorem dX11_falls_18 : decode cX11_falls 18 = .ok (.aload_n 0, 1) := by decide +kernel
theorem dX11_falls_19 : decode cX11_falls 19 = .ok (.aload_n 0, 1) := by decide +kernel
theorem dX11_falls_20 : decode cX11_falls 20 = .ok (.getfield 58, 3) := by decide +kernel
theorem dX11_falls_23 : decode cX11_falls 23 = .ok (.iload_n 1, 1) := by decide +kernel
theorem dX11_falls_24 : decode cX11_falls 24 = .ok (.invokevirtual 324, 3) := by decide +kernel
theorem dX11_falls_27 : decode cX11_falls 27 = .ok (.invokevirtual 130, 3) := by decide +kernel
theorem dX11_falls_30 : decode cX11_falls 30 = .ok (.ireturn, 1) := by decide +kernel
theorem dX11_loss_0 : decode cX11_loss 0 = .ok (.aload_n 0, 1) := by decide +kernel
theorem dX11_loss_1 : decode cX11_loss 1 = .ok (.iload_n 1, 1) := by decide +kernel
theorem dX11_loss_2 : decode cX11_loss 2 = .ok (.invokevirtual 321, 3) := by decide +kernel
theorem dX11_loss_5 : decode cX11_loss 5 = .ok (.istore_n 2, 1) := by decide +kernel
theorem dX11_loss_6 : decode cX11_loss 6 = .ok (.iload_n 2, 1) := by decide +kernel
theorem dX11_loss_7 : decode cX11_loss 7 = .ok (.ifCond .eq 11, 3) := by decide +kernel
theorem dX11_loss_10 : decode cX11_loss 10 = .ok (.aload_n 0, 1) := by decide +kernel
theorem dX11_loss_11 : decode cX11_loss 11 = .ok (.iload_n 2, 1) := by decide +kernel
theorem dX11_loss_12 : decode cX11_loss 12 = .ok (.invokevirtual 126, 3) := by decide +kernel
theorem dX11_loss_15 : decode cX11_loss 15 = .ok (.goto 22, 3) := by decide +kernel
theorem dX11_loss_18 : decode cX11_loss 18 = .ok (.aload_n 0, 1) := by decide +kernel
theorem dX11_loss_19 : decode cX11_loss 19 = .ok (.aload_n 0, 1) := by decide +kernel
theorem dX11_loss_20 : decode cX11_loss 20 = .ok (.getfield 26, 3) := by decide +kernel
theorem dX11_loss_23 : decode cX11_loss 23 = .ok (.aload_n 0, 1) := by decide +kernel
theorem dX11_loss_24 : decode cX11_loss 24 = .ok (.getfield 58, 3) := by decide +kernel
theorem dX11_loss_27 : decode cX11_loss 27 = .ok (.iload_n 1, 1) := by decide +kernel
theorem dX11_loss_28 : decode cX11_loss 28 = .ok (.invokevirtual 324, 3) := by decide +kernel
theorem dX11_loss_31 : decode cX11_loss 31 = .ok (.invokevirtual 264, 3) := by decide +kernel
theorem dX11_loss_34 : decode cX11_loss 34 = .ok (.invokevirtual 130, 3) := by decide +kernel
theorem dX11_loss_37 : decode cX11_loss 37 = .ok (.ireturn, 1) := by decide +kernel
theorem dX11_keystone_0 : decode cX11_keystone 0 = .ok (.aload_n 0, 1) := by decide +kernel
theorem dX11_keystone_1 : decode cX11_keystone 1 = .ok (.getfield 58, 3) := by decide +kernel
theorem dX11_keystone_4 : decode cX11_keystone 4 = .ok (.invokevirtual 242, 3) := by decide +kernel
theorem dX11_keystone_7 : decode cX11_keystone 7 = .ok (.istore_n 1, 1) := by decide +kernel
theorem dX11_keystone_8 : decode cX11_keystone 8 = .ok (.iconst (-1), 1) := by decide +kernel
theorem dX11_keystone_9 : decode cX11_keystone 9 = .ok (.istore_n 2, 1) := by decide +kernel
theorem dX11_keystone_10 : decode cX11_keystone 10 = .ok (.iconst (-1), 1) := by decide +kernel
theorem dX11_keystone_11 : decode cX11_keystone 11 = .ok (.istore_n 3, 1) := by decide +kernel
theorem dX11_keystone_12 : decode cX11_keystone 12 = .ok (.iconst 0, 1) := by decide +kernel
theorem dX11_keystone_13 : decode cX11_keystone 13 = .ok (.istore 4, 2) := by decide +kernel
theorem dX11_keystone_15 : decode cX11_keystone 15 = .ok (.iload 4, 2) := by decide +kernel
theorem dX11_keystone_17 : decode cX11_keystone 17 = .ok (.aload_n 0, 1) := by decide +kernel
theorem dX11_keystone_18 : decode cX11_keystone 18 = .ok (.getfield 26, 3) := by decide +kernel
theorem dX11_keystone_21 : decode cX11_keystone 21 = .ok (.getfield 139, 3) := by decide +kernel
theorem dX11_keystone_24 : decode cX11_keystone 24 = .ok (.if_icmp .ge 53, 3) := by decide +kernel
theorem dX11_keystone_27 : decode cX11_keystone 27 = .ok (.aload_n 0, 1) := by decide +kernel
theorem dX11_keystone_28 : decode cX11_keystone 28 = .ok (.iload 4, 2) := by decide +kernel
theorem dX11_keystone_30 : decode cX11_keystone 30 = .ok (.iload_n 1, 1) := by decide +kernel
theorem dX11_keystone_31 : decode cX11_keystone 31 = .ok (.invokevirtual 297, 3) := by decide +kernel
theorem dX11_keystone_34 : decode cX11_keystone 34 = .ok (.ifCond .eq 22, 3) := by decide +kernel
theorem dX11_keystone_37 : decode cX11_keystone 37 = .ok (.aload_n 0, 1) := by decide +kernel
theorem dX11_keystone_38 : decode cX11_keystone 38 = .ok (.getfield 26, 3) := by decide +kernel
theorem dX11_keystone_41 : decode cX11_keystone 41 = .ok (.aload_n 0, 1) := by decide +kernel
theorem dX11_keystone_42 : decode cX11_keystone 42 = .ok (.getfield 58, 3) := by decide +kernel
theorem dX11_keystone_45 : decode cX11_keystone 45 = .ok (.iload 4, 2) := by decide +kernel
theorem dX11_keystone_47 : decode cX11_keystone 47 = .ok (.invokevirtual 324, 3) := by decide +kernel
theorem dX11_keystone_50 : decode cX11_keystone 50 = .ok (.invokevirtual 264, 3) := by decide +kernel
theorem dX11_keystone_53 : decode cX11_keystone 53 = .ok (.goto 4, 3) := by decide +kernel
theorem dX11_keystone_56 : decode cX11_keystone 56 = .ok (.iconst (-1), 1) := by decide +kernel
theorem dX11_keystone_57 : decode cX11_keystone 57 = .ok (.istore 5, 2) := by decide +kernel
theorem dX11_keystone_59 : decode cX11_keystone 59 = .ok (.iload 5, 2) := by decide +kernel
theorem dX11_keystone_61 : decode cX11_keystone 61 = .ok (.iload_n 3, 1) := by decide +kernel
theorem dX11_keystone_62 : decode cX11_keystone 62 = .ok (.if_icmp .le 9, 3) := by decide +kernel
theorem dX11_keystone_65 : decode cX11_keystone 65 = .ok (.iload 5, 2) := by decide +kernel
theorem dX11_keystone_67 : decode cX11_keystone 67 = .ok (.istore_n 3, 1) := by decide +kernel
theorem dX11_keystone_68 : decode cX11_keystone 68 = .ok (.iload 4, 2) := by decide +kernel
theorem dX11_keystone_70 : decode cX11_keystone 70 = .ok (.istore_n 2, 1) := by decide +kernel
theorem dX11_keystone_71 : decode cX11_keystone 71 = .ok (.iinc 4 1, 3) := by decide +kernel
theorem dX11_keystone_74 : decode cX11_keystone 74 = .ok (.goto (-59), 3) := by decide +kernel
theorem dX11_keystone_77 : decode cX11_keystone 77 = .ok (.aload_n 0, 1) := by decide +kernel
theorem dX11_keystone_78 : decode cX11_keystone 78 = .ok (.iload_n 2, 1) := by decide +kernel
theorem dX11_keystone_79 : decode cX11_keystone 79 = .ok (.invokevirtual 312, 3) := by decide +kernel
theorem dX11_keystone_82 : decode cX11_keystone 82 = .ok (.ireturn, 1) := by decide +kernel
theorem dX11_goneBy_0 : decode cX11_goneBy 0 = .ok (.aload_n 0, 1) := by decide +kernel
theorem dX11_goneBy_1 : decode cX11_goneBy 1 = .ok (.iload_n 1, 1) := by decide +kernel
theorem dX11_goneBy_2 : decode cX11_goneBy 2 = .ok (.invokevirtual 267, 3) := by decide +kernel
theorem dX11_goneBy_5 : decode cX11_goneBy 5 = .ok (.ifCond .eq 11, 3) := by decide +kernel
theorem dX11_goneBy_8 : decode cX11_goneBy 8 = .ok (.aload_n 0, 1) := by decide +kernel
theorem dX11_goneBy_9 : decode cX11_goneBy 9 = .ok (.iconst 2, 1) := by decide +kernel
theorem dX11_goneBy_10 : decode cX11_goneBy 10 = .ok (.invokevirtual 126, 3) := by decide +kernel
theorem dX11_goneBy_13 : decode cX11_goneBy 13 = .ok (.goto 17, 3) := by decide +kernel
theorem dX11_goneBy_16 : decode cX11_goneBy 16 = .ok (.aload_n 0, 1) := by decide +kernel
theorem dX11_goneBy_17 : decode cX11_goneBy 17 = .ok (.aload_n 0, 1) := by decide +kernel
theorem dX11_goneBy_18 : decode cX11_goneBy 18 = .ok (.getfield 76, 3) := by decide +kernel
theorem dX11_goneBy_21 : decode cX11_goneBy 21 = .ok (.iconst 1, 1) := by decide +kernel
theorem dX11_goneBy_22 : decode cX11_goneBy 22 = .ok (.iload_n 1, 1) := by decide +kernel
theorem dX11_goneBy_23 : decode cX11_goneBy 23 = .ok (.ishl, 1) := by decide +kernel
theorem dX11_goneBy_24 : decode cX11_goneBy 24 = .ok (.invokevirtual 327, 3) := by decide +kernel
theorem dX11_goneBy_27 : decode cX11_goneBy 27 = .ok (.invokevirtual 312, 3) := by decide +kernel
theorem dX11_goneBy_30 : decode cX11_goneBy 30 = .ok (.ireturn, 1) := by decide +kernel
theorem dX11_ends_0 : decode cX11_ends 0 = .ok (.aload_n 0, 1) := by decide +kernel
theorem dX11_ends_1 : decode cX11_ends 1 = .ok (.iload_n 1, 1) := by decide +kernel
theorem dX11_ends_2 : decode cX11_ends 2 = .ok (.invokevirtual 285, 3) := by decide +kernel
theorem dX11_ends_5 : decode cX11_ends 5 = .ok (.ifCond .eq 11, 3) := by decide +kernel
theorem dX11_ends_8 : decode cX11_ends 8 = .ok (.aload_n 0, 1) := by decide +kernel
theorem dX11_ends_9 : decode cX11_ends 9 = .ok (.iconst 2, 1) := by decide +kernel
theorem dX11_ends_10 : decode cX11_ends 10 = .ok (.invokevirtual 126, 3) := by decide +kernel
theorem dX11_ends_13 : decode cX11_ends 13 = .ok (.goto 23, 3) := by decide +kernel
theorem dX11_ends_16 : decode cX11_ends 16 = .ok (.aload_n 0, 1) := by decide +kernel
theorem dX11_ends_17 : decode cX11_ends 17 = .ok (.aload_n 0, 1) := by decide +kernel
theorem dX11_ends_18 : decode cX11_ends 18 = .ok (.getfield 76, 3) := by decide +kernel
theorem dX11_ends_21 : decode cX11_ends 21 = .ok (.aload_n 0, 1) := by decide +kernel
theorem dX11_ends_22 : decode cX11_ends 22 = .ok (.getfield 26, 3) := by decide +kernel
theorem dX11_ends_25 : decode cX11_ends 25 = .ok (.getfield 288, 3) := by decide +kernel
theorem dX11_ends_28 : decode cX11_ends 28 = .ok (.iload_n 1, 1) := by decide +kernel
theorem dX11_ends_29 : decode cX11_ends 29 = .ok (.iaload, 1) := by decide +kernel
theorem dX11_ends_30 : decode cX11_ends 30 = .ok (.invokevirtual 327, 3) := by decide +kernel
theorem dX11_ends_33 : decode cX11_ends 33 = .ok (.invokevirtual 312, 3) := by decide +kernel
theorem dX11_ends_36 : decode cX11_ends 36 = .ok (.ireturn, 1) := by decide +kernel
theorem dX11_later_0 : decode cX11_later 0 = .ok (.iload_n 1, 1) := by decide +kernel
theorem dX11_later_1 : decode cX11_later 1 = .ok (.ifCond .lt 9, 3) := by decide +kernel
theorem dX11_later_4 : decode cX11_later 4 = .ok (.iload_n 1, 1) := by decide +kernel
theorem dX11_later_5 : decode cX11_later 5 = .ok (.bipush 99, 2) := by decide +kernel
theorem dX11_later_7 : decode cX11_later 7 = .ok (.if_icmp .le 9, 3) := by decide +kernel
theorem dX11_later_10 : decode cX11_later 10 = .ok (.aload_n 0, 1) := by decide +kernel
theorem dX11_later_11 : decode cX11_later 11 = .ok (.iconst 5, 1) := by decide +kernel
theorem dX11_later_12 : decode cX11_later 12 = .ok (.invokevirtual 126, 3) := by decide +kernel
theorem dX11_later_15 : decode cX11_later 15 = .ok (.ireturn, 1) := by decide +kernel
theorem dX11_later_16 : decode cX11_later 16 = .ok (.aload_n 0, 1) := by decide +kernel
theorem dX11_later_17 : decode cX11_later 17 = .ok (.getfield 26, 3) := by decide +kernel
theorem dX11_later_20 : decode cX11_later 20 = .ok (.getfield 255, 3) := by decide +kernel
theorem dX11_later_23 : decode cX11_later 23 = .ok (.istore_n 2, 1) := by decide +kernel
theorem dX11_later_24 : decode cX11_later 24 = .ok (.iconst 0, 1) := by decide +kernel
theorem dX11_later_25 : decode cX11_later 25 = .ok (.istore_n 3, 1) := by decide +kernel
theorem dX11_later_26 : decode cX11_later 26 = .ok (.iload_n 3, 1) := by decide +kernel
theorem dX11_later_27 : decode cX11_later 27 = .ok (.iload_n 1, 1) := by decide +kernel
theorem dX11_later_28 : decode cX11_later 28 = .ok (.if_icmp .ge 25, 3) := by decide +kernel
theorem dX11_later_31 : decode cX11_later 31 = .ok (.aload_n 0, 1) := by decide +kernel
theorem dX11_later_32 : decode cX11_later 32 = .ok (.getfield 67, 3) := by decide +kernel
theorem dX11_later_35 : decode cX11_later 35 = .ok (.iload_n 2, 1) := by decide +kernel
theorem dX11_later_36 : decode cX11_later 36 = .ok (.aload_n 0, 1) := by decide +kernel
theorem dX11_later_37 : decode cX11_later 37 = .ok (.getfield 26, 3) := by decide +kernel
theorem dX11_later_40 : decode cX11_later 40 = .ok (.getfield 258, 3) := by decide +kernel
theorem dX11_later_43 : decode cX11_later 43 = .ok (.invokevirtual 300, 3) := by decide +kernel
theorem dX11_later_46 : decode cX11_later 46 = .ok (.istore_n 2, 1) := by decide +kernel
theorem dX11_later_47 : decode cX11_later 47 = .ok (.iinc 3 1, 3) := by decide +kernel
theorem dX11_later_50 : decode cX11_later 50 = .ok (.goto (-24), 3) := by decide +kernel
theorem dX11_later_53 : decode cX11_later 53 = .ok (.aload_n 0, 1) := by decide +kernel
theorem dX11_later_54 : decode cX11_later 54 = .ok (.aload_n 0, 1) := by decide +kernel
theorem dX11_later_55 : decode cX11_later 55 = .ok (.getfield 58, 3) := by decide +kernel
theorem dX11_later_58 : decode cX11_later 58 = .ok (.iload_n 2, 1) := by decide +kernel
theorem dX11_later_59 : decode cX11_later 59 = .ok (.invokevirtual 330, 3) := by decide +kernel
theorem dX11_later_62 : decode cX11_later 62 = .ok (.invokevirtual 130, 3) := by decide +kernel
theorem dX11_later_65 : decode cX11_later 65 = .ok (.ireturn, 1) := by decide +kernel
theorem dX11_keep_0 : decode cX11_keep 0 = .ok (.aload_n 0, 1) := by decide +kernel
theorem dX11_keep_1 : decode cX11_keep 1 = .ok (.aload_n 0, 1) := by decide +kernel
theorem dX11_keep_2 : decode cX11_keep 2 = .ok (.iload_n 1, 1) := by decide +kernel
theorem dX11_keep_3 : decode cX11_keep 3 = .ok (.iload_n 2, 1) := by decide +kernel
theorem dX11_keep_4 : decode cX11_keep 4 = .ok (.invokevirtual 333, 3) := by decide +kernel
theorem dX11_keep_7 : decode cX11_keep 7 = .ok (.invokevirtual 336, 3) := by decide +kernel
theorem dX11_keep_10 : decode cX11_keep 10 = .ok (.ireturn, 1) := by decide +kernel
theorem dX11_keepSet_0 : decode cX11_keepSet 0 = .ok (.aload_n 0, 1) := by decide +kernel
theorem dX11_keepSet_1 : decode cX11_keepSet 1 = .ok (.iload_n 1, 1) := by decide +kernel
theorem dX11_keepSet_2 : decode cX11_keepSet 2 = .ok (.invokevirtual 285, 3) := by decide +kernel
theorem dX11_keepSet_5 : decode cX11_keepSet 5 = .ok (.ifCond .eq 9, 3) := by decide +kernel
theorem dX11_keepSet_8 : decode cX11_keepSet 8 = .ok (.aload_n 0, 1) := by decide +kernel
theorem dX11_keepSet_9 : decode cX11_keepSet 9 = .ok (.iconst 2, 1) := by decide +kernel
theorem dX11_keepSet_10 : decode cX11_keepSet 10 = .ok (.invokevirtual 126, 3) := by decide +kernel
theorem dX11_keepSet_13 : decode cX11_keepSet 13 = .ok (.ireturn, 1) := by decide +kernel
theorem dX11_keepSet_14 : decode cX11_keepSet 14 = .ok (.iload_n 2, 1) := by decide +kernel
theorem dX11_keepSet_15 : decode cX11_keepSet 15 = .ok (.ifCond .lt 9, 3) := by decide +kernel
theorem dX11_keepSet_18 : decode cX11_keepSet 18 = .ok (.iload_n 2, 1) := by decide +kernel
theorem dX11_keepSet_19 : decode cX11_keepSet 19 = .ok (.bipush 12, 2) := by decide +kernel
theorem dX11_keepSet_21 : decode cX11_keepSet 21 = .ok (.if_icmp .le 9, 3) := by decide +kernel
theorem dX11_keepSet_24 : decode cX11_keepSet 24 = .ok (.aload_n 0, 1) := by decide +kernel
theorem dX11_keepSet_25 : decode cX11_keepSet 25 = .ok (.iconst 5, 1) := by decide +kernel
theorem dX11_keepSet_26 : decode cX11_keepSet 26 = .ok (.invokevirtual 126, 3) := by decide +kernel
theorem dX11_keepSet_29 : decode cX11_keepSet 29 = .ok (.ireturn, 1) := by decide +kernel
theorem dX11_keepSet_30 : decode cX11_keepSet 30 = .ok (.aload_n 0, 1) := by decide +kernel
theorem dX11_keepSet_31 : decode cX11_keepSet 31 = .ok (.aload_n 0, 1) := by decide +kernel
theorem dX11_keepSet_32 : decode cX11_keepSet 32 = .ok (.getfield 76, 3) := by decide +kernel
theorem dX11_keepSet_35 : decode cX11_keepSet 35 = .ok (.aload_n 0, 1) := by decide +kernel
theorem dX11_keepSet_36 : decode cX11_keepSet 36 = .ok (.getfield 26, 3) := by decide +kernel
theorem dX11_keepSet_39 : decode cX11_keepSet 39 = .ok (.getfield 288, 3) := by decide +kernel
theorem dX11_keepSet_42 : decode cX11_keepSet 42 = .ok (.iload_n 1, 1) := by decide +kernel
theorem dX11_keepSet_43 : decode cX11_keepSet 43 = .ok (.iaload, 1) := by decide +kernel
theorem dX11_keepSet_44 : decode cX11_keepSet 44 = .ok (.iload_n 2, 1) := by decide +kernel
theorem dX11_keepSet_45 : decode cX11_keepSet 45 = .ok (.invokevirtual 339, 3) := by decide +kernel
theorem dX11_keepSet_48 : decode cX11_keepSet 48 = .ok (.invokevirtual 312, 3) := by decide +kernel
theorem dX11_keepSet_51 : decode cX11_keepSet 51 = .ok (.ireturn, 1) := by decide +kernel
theorem dX11_sizeOf_0 : decode cX11_sizeOf 0 = .ok (.iload_n 1, 1) := by decide +kernel
theorem dX11_sizeOf_1 : decode cX11_sizeOf 1 = .ok (.iconst (-1), 1) := by decide +kernel
theorem dX11_sizeOf_2 : decode cX11_sizeOf 2 = .ok (.if_icmp .ne 7, 3) := by decide +kernel
theorem dX11_sizeOf_5 : decode cX11_sizeOf 5 = .ok (.iconst (-1), 1) := by decide +kernel
theorem dX11_sizeOf_6 : decode cX11_sizeOf 6 = .ok (.goto 7, 3) := by decide +kernel
theorem dX11_sizeOf_9 : decode cX11_sizeOf 9 = .ok (.iload_n 1, 1) := by decide +kernel
theorem dX11_sizeOf_10 : decode cX11_sizeOf 10 = .ok (.invokestatic 342, 3) := by decide +kernel
theorem dX11_sizeOf_13 : decode cX11_sizeOf 13 = .ok (.ireturn, 1) := by decide +kernel
theorem dX11_strike_0 : decode cX11_strike 0 = .ok (.aload_n 0, 1) := by decide +kernel
theorem dX11_strike_1 : decode cX11_strike 1 = .ok (.aload_n 0, 1) := by decide +kernel
theorem dX11_strike_2 : decode cX11_strike 2 = .ok (.iload_n 1, 1) := by decide +kernel
theorem dX11_strike_3 : decode cX11_strike 3 = .ok (.invokevirtual 347, 3) := by decide +kernel
theorem dX11_strike_6 : decode cX11_strike 6 = .ok (.invokevirtual 336, 3) := by decide +kernel
theorem dX11_strike_9 : decode cX11_strike 9 = .ok (.ireturn, 1) := by decide +kernel
theorem dX11_strikeSet_0 : decode cX11_strikeSet 0 = .ok (.aload_n 0, 1) := by decide +kernel
theorem dX11_strikeSet_1 : decode cX11_strikeSet 1 = .ok (.iload_n 1, 1) := by decide +kernel
theorem dX11_strikeSet_2 : decode cX11_strikeSet 2 = .ok (.invokevirtual 285, 3) := by decide +kernel
theorem dX11_strikeSet_5 : decode cX11_strikeSet 5 = .ok (.ifCond .eq 11, 3) := by decide +kernel
theorem dX11_strikeSet_8 : decode cX11_strikeSet 8 = .ok (.aload_n 0, 1) := by decide +kernel
theorem dX11_strikeSet_9 : decode cX11_strikeSet 9 = .ok (.iconst 2, 1) := by decide +kernel
theorem dX11_strikeSet_10 : decode cX11_strikeSet 10 = .ok (.invokevirtual 126, 3) := by decide +kernel
theorem dX11_strikeSet_13 : decode cX11_strikeSet 13 = .ok (.goto 23, 3) := by decide +kernel
theorem dX11_strikeSet_16 : decode cX11_strikeSet 16 = .ok (.aload_n 0, 1) := by decide +kernel
theorem dX11_strikeSet_17 : decode cX11_strikeSet 17 = .ok (.aload_n 0, 1) := by decide +kernel
theorem dX11_strikeSet_18 : decode cX11_strikeSet 18 = .ok (.getfield 76, 3) := by decide +kernel
theorem dX11_strikeSet_21 : decode cX11_strikeSet 21 = .ok (.aload_n 0, 1) := by decide +kernel
theorem dX11_strikeSet_22 : decode cX11_strikeSet 22 = .ok (.getfield 26, 3) := by decide +kernel
theorem dX11_strikeSet_25 : decode cX11_strikeSet 25 = .ok (.getfield 288, 3) := by decide +kernel
theorem dX11_strikeSet_28 : decode cX11_strikeSet 28 = .ok (.iload_n 1, 1) := by decide +kernel
theorem dX11_strikeSet_29 : decode cX11_strikeSet 29 = .ok (.iaload, 1) := by decide +kernel
theorem dX11_strikeSet_30 : decode cX11_strikeSet 30 = .ok (.invokevirtual 350, 3) := by decide +kernel
theorem dX11_strikeSet_33 : decode cX11_strikeSet 33 = .ok (.invokevirtual 312, 3) := by decide +kernel
theorem dX11_strikeSet_36 : decode cX11_strikeSet 36 = .ok (.ireturn, 1) := by decide +kernel
theorem dX11_agenda_0 : decode cX11_agenda 0 = .ok (.aload_n 0, 1) := by decide +kernel
theorem dX11_agenda_1 : decode cX11_agenda 1 = .ok (.iload_n 1, 1) := by decide +kernel
theorem dX11_agenda_2 : decode cX11_agenda 2 = .ok (.invokevirtual 353, 3) := by decide +kernel
theorem dX11_agenda_5 : decode cX11_agenda 5 = .ok (.ifCond .ne 16, 3) := by decide +kernel
theorem dX11_agenda_8 : decode cX11_agenda 8 = .ok (.iload_n 1, 1) := by decide +kernel
theorem dX11_agenda_9 : decode cX11_agenda 9 = .ok (.ifCond .eq 12, 3) := by decide +kernel
theorem dX11_agenda_12 : decode cX11_agenda 12 = .ok (.iload_n 1, 1) := by decide +kernel
theorem dX11_agenda_13 : decode cX11_agenda 13 = .ok (.invokestatic 342, 3) := by decide +kernel
theorem dX11_agenda_16 : decode cX11_agenda 16 = .ok (.bipush 6, 2) := by decide +kernel
theorem dX11_agenda_18 : decode cX11_agenda 18 = .ok (.if_icmp .le 9, 3) := by decide +kernel
theorem dX11_agenda_21 : decode cX11_agenda 21 = .ok (.aload_n 0, 1) := by decide +kernel
theorem dX11_agenda_22 : decode cX11_agenda 22 = .ok (.iconst 5, 1) := by decide +kernel
theorem dX11_agenda_23 : decode cX11_agenda 23 = .ok (.invokevirtual 126, 3) := by decide +kernel
theorem dX11_agenda_26 : decode cX11_agenda 26 = .ok (.ireturn, 1) := by decide +kernel
theorem dX11_agenda_27 : decode cX11_agenda 27 = .ok (.iload_n 1, 1) := by decide +kernel
theorem dX11_agenda_28 : decode cX11_agenda 28 = .ok (.aload_n 0, 1) := by decide +kernel
theorem dX11_agenda_29 : decode cX11_agenda 29 = .ok (.getfield 58, 3) := by decide +kernel
theorem dX11_agenda_32 : decode cX11_agenda 32 = .ok (.invokevirtual 242, 3) := by decide +kernel
theorem dX11_agenda_35 : decode cX11_agenda 35 = .ok (.iconst (-1), 1) := by decide +kernel
theorem dX11_agenda_36 : decode cX11_agenda 36 = .ok (.ixor, 1) := by decide +kernel
theorem dX11_agenda_37 : decode cX11_agenda 37 = .ok (.iand, 1) := by decide +kernel
theorem dX11_agenda_38 : decode cX11_agenda 38 = .ok (.ifCond .eq 10, 3) := by decide +kernel
theorem dX11_agenda_41 : decode cX11_agenda 41 = .ok (.aload_n 0, 1) := by decide +kernel
theorem dX11_agenda_42 : decode cX11_agenda 42 = .ok (.bipush 9, 2) := by decide +kernel
theorem dX11_agenda_44 : decode cX11_agenda 44 = .ok (.invokevirtual 126, 3) := by decide +kernel
theorem dX11_agenda_47 : decode cX11_agenda 47 = .ok (.ireturn, 1) := by decide +kernel
theorem dX11_agenda_48 : decode cX11_agenda 48 = .ok (.aload_n 0, 1) := by decide +kernel
theorem dX11_agenda_49 : decode cX11_agenda 49 = .ok (.aload_n 0, 1) := by decide +kernel
theorem dX11_agenda_50 : decode cX11_agenda 50 = .ok (.getfield 76, 3) := by decide +kernel
theorem dX11_agenda_53 : decode cX11_agenda 53 = .ok (.iload_n 1, 1) := by decide +kernel
theorem dX11_agenda_54 : decode cX11_agenda 54 = .ok (.invokevirtual 356, 3) := by decide +kernel
theorem dX11_agenda_57 : decode cX11_agenda 57 = .ok (.invokevirtual 130, 3) := by decide +kernel
theorem dX11_agenda_60 : decode cX11_agenda 60 = .ok (.ireturn, 1) := by decide +kernel
theorem dX11_agendaAt_0 : decode cX11_agendaAt 0 = .ok (.iload_n 1, 1) := by decide +kernel
theorem dX11_agendaAt_1 : decode cX11_agendaAt 1 = .ok (.ifCond .lt 14, 3) := by decide +kernel
theorem dX11_agendaAt_4 : decode cX11_agendaAt 4 = .ok (.iload_n 1, 1) := by decide +kernel
theorem dX11_agendaAt_5 : decode cX11_agendaAt 5 = .ok (.aload_n 0, 1) := by decide +kernel
theorem dX11_agendaAt_6 : decode cX11_agendaAt 6 = .ok (.getfield 76, 3) := by decide +kernel
theorem dX11_agendaAt_9 : decode cX11_agendaAt 9 = .ok (.getfield 359, 3) := by decide +kernel
theorem dX11_agendaAt_12 : decode cX11_agendaAt 12 = .ok (.if_icmp .lt 10, 3) := by decide +kernel
theorem dX11_agendaAt_15 : decode cX11_agendaAt 15 = .ok (.aload_n 0, 1) := by decide +kernel
theorem dX11_agendaAt_16 : decode cX11_agendaAt 16 = .ok (.bipush 8, 2) := by decide +kernel
theorem dX11_agendaAt_18 : decode cX11_agendaAt 18 = .ok (.invokevirtual 126, 3) := by decide +kernel
theorem dX11_agendaAt_21 : decode cX11_agendaAt 21 = .ok (.ireturn, 1) := by decide +kernel
theorem dX11_agendaAt_22 : decode cX11_agendaAt 22 = .ok (.aload_n 0, 1) := by decide +kernel
theorem dX11_agendaAt_23 : decode cX11_agendaAt 23 = .ok (.aload_n 0, 1) := by decide +kernel
theorem dX11_agendaAt_24 : decode cX11_agendaAt 24 = .ok (.getfield 76, 3) := by decide +kernel
theorem dX11_agendaAt_27 : decode cX11_agendaAt 27 = .ok (.getfield 362, 3) := by decide +kernel
theorem dX11_agendaAt_30 : decode cX11_agendaAt 30 = .ok (.iload_n 1, 1) := by decide +kernel
theorem dX11_agendaAt_31 : decode cX11_agendaAt 31 = .ok (.iaload, 1) := by decide +kernel
theorem dX11_agendaAt_32 : decode cX11_agendaAt 32 = .ok (.invokevirtual 130, 3) := by decide +kernel
theorem dX11_agendaAt_35 : decode cX11_agendaAt 35 = .ok (.ireturn, 1) := by decide +kernel
theorem dX11_noGame_0 : decode cX11_noGame 0 = .ok (.iload_n 1, 1) := by decide +kernel
theorem dX11_noGame_1 : decode cX11_noGame 1 = .ok (.ifCond .lt 26, 3) := by decide +kernel
theorem dX11_noGame_4 : decode cX11_noGame 4 = .ok (.iload_n 1, 1) := by decide +kernel
theorem dX11_noGame_5 : decode cX11_noGame 5 = .ok (.iconst 1, 1) := by decide +kernel
theorem dX11_noGame_6 : decode cX11_noGame 6 = .ok (.aload_n 0, 1) := by decide +kernel
theorem dX11_noGame_7 : decode cX11_noGame 7 = .ok (.getfield 26, 3) := by decide +kernel
theorem dX11_noGame_10 : decode cX11_noGame 10 = .ok (.getfield 142, 3) := by decide +kernel
theorem dX11_noGame_13 : decode cX11_noGame 13 = .ok (.ishl, 1) := by decide +kernel
theorem dX11_noGame_14 : decode cX11_noGame 14 = .ok (.if_icmp .ge 13, 3) := by decide +kernel
theorem dX11_noGame_17 : decode cX11_noGame 17 = .ok (.iload_n 2, 1) := by decide +kernel
theorem dX11_noGame_18 : decode cX11_noGame 18 = .ok (.iconst 1, 1) := by decide +kernel
theorem dX11_noGame_19 : decode cX11_noGame 19 = .ok (.if_icmp .lt 8, 3) := by decide +kernel
theorem dX11_noGame_22 : decode cX11_noGame 22 = .ok (.iload_n 2, 1) := by decide +kernel
theorem dX11_noGame_23 : decode cX11_noGame 23 = .ok (.iconst 4, 1) := by decide +kernel
theorem dX11_noGame_24 : decode cX11_noGame 24 = .ok (.if_icmp .le 7, 3) := by decide +kernel
theorem dX11_noGame_27 : decode cX11_noGame 27 = .ok (.iconst 1, 1) := by decide +kernel
theorem dX11_noGame_28 : decode cX11_noGame 28 = .ok (.goto 4, 3) := by decide +kernel
theorem dX11_noGame_31 : decode cX11_noGame 31 = .ok (.iconst 0, 1) := by decide +kernel
theorem dX11_noGame_32 : decode cX11_noGame 32 = .ok (.ireturn, 1) := by decide +kernel
theorem dX11_game_0 : decode cX11_game 0 = .ok (.aload_n 0, 1) := by decide +kernel
theorem dX11_game_1 : decode cX11_game 1 = .ok (.iload_n 1, 1) := by decide +kernel
theorem dX11_game_2 : decode cX11_game 2 = .ok (.iload_n 2, 1) := by decide +kernel
theorem dX11_game_3 : decode cX11_game 3 = .ok (.invokevirtual 365, 3) := by decide +kernel
theorem dX11_game_6 : decode cX11_game 6 = .ok (.ifCond .eq 11, 3) := by decide +kernel
theorem dX11_game_9 : decode cX11_game 9 = .ok (.aload_n 0, 1) := by decide +kernel
theorem dX11_game_10 : decode cX11_game 10 = .ok (.iconst 5, 1) := by decide +kernel
theorem dX11_game_11 : decode cX11_game 11 = .ok (.invokevirtual 126, 3) := by decide +kernel
theorem dX11_game_14 : decode cX11_game 14 = .ok (.goto 16, 3) := by decide +kernel
theorem dX11_game_17 : decode cX11_game 17 = .ok (.aload_n 0, 1) := by decide +kernel
theorem dX11_game_18 : decode cX11_game 18 = .ok (.aload_n 0, 1) := by decide +kernel
theorem dX11_game_19 : decode cX11_game 19 = .ok (.getfield 76, 3) := by decide +kernel
theorem dX11_game_22 : decode cX11_game 22 = .ok (.iload_n 1, 1) := by decide +kernel
theorem dX11_game_23 : decode cX11_game 23 = .ok (.iload_n 2, 1) := by decide +kernel
theorem dX11_game_24 : decode cX11_game 24 = .ok (.invokevirtual 368, 3) := by decide +kernel
theorem dX11_game_27 : decode cX11_game 27 = .ok (.invokevirtual 130, 3) := by decide +kernel
theorem dX11_game_30 : decode cX11_game 30 = .ok (.ireturn, 1) := by decide +kernel
theorem dX11_firstMove_0 : decode cX11_firstMove 0 = .ok (.aload_n 0, 1) := by decide +kernel
theorem dX11_firstMove_1 : decode cX11_firstMove 1 = .ok (.iload_n 1, 1) := by decide +kernel
theorem dX11_firstMove_2 : decode cX11_firstMove 2 = .ok (.iload_n 2, 1) := by decide +kernel
theorem dX11_firstMove_3 : decode cX11_firstMove 3 = .ok (.invokevirtual 365, 3) := by decide +kernel
theorem dX11_firstMove_6 : decode cX11_firstMove 6 = .ok (.ifCond .eq 11, 3) := by decide +kernel
theorem dX11_firstMove_9 : decode cX11_firstMove 9 = .ok (.aload_n 0, 1) := by decide +kernel
theorem dX11_firstMove_10 : decode cX11_firstMove 10 = .ok (.iconst 5, 1) := by decide +kernel
theorem dX11_firstMove_11 : decode cX11_firstMove 11 = .ok (.invokevirtual 126, 3) := by decide +kernel
theorem dX11_firstMove_14 : decode cX11_firstMove 14 = .ok (.goto 16, 3) := by decide +kernel
theorem dX11_firstMove_17 : decode cX11_firstMove 17 = .ok (.aload_n 0, 1) := by decide +kernel
theorem dX11_firstMove_18 : decode cX11_firstMove 18 = .ok (.aload_n 0, 1) := by decide +kernel
theorem dX11_firstMove_19 : decode cX11_firstMove 19 = .ok (.getfield 76, 3) := by decide +kernel
theorem dX11_firstMove_22 : decode cX11_firstMove 22 = .ok (.iload_n 1, 1) := by decide +kernel
theorem dX11_firstMove_23 : decode cX11_firstMove 23 = .ok (.iload_n 2, 1) := by decide +kernel
theorem dX11_firstMove_24 : decode cX11_firstMove 24 = .ok (.invokevirtual 371, 3) := by decide +kernel
theorem dX11_firstMove_27 : decode cX11_firstMove 27 = .ok (.invokevirtual 312, 3) := by decide +kernel
theorem dX11_firstMove_30 : decode cX11_firstMove 30 = .ok (.ireturn, 1) := by decide +kernel
theorem dX11_again_0 : decode cX11_again 0 = .ok (.aload_n 0, 1) := by decide +kernel
theorem dX11_again_1 : decode cX11_again 1 = .ok (.aload_n 0, 1) := by decide +kernel
theorem dX11_again_2 : decode cX11_again 2 = .ok (.iload_n 1, 1) := by decide +kernel
theorem dX11_again_3 : decode cX11_again 3 = .ok (.invokevirtual 374, 3) := by decide +kernel
theorem dX11_again_6 : decode cX11_again 6 = .ok (.invokevirtual 336, 3) := by decide +kernel
theorem dX11_again_9 : decode cX11_again 9 = .ok (.ireturn, 1) := by decide +kernel
theorem dX11_againSet_0 : decode cX11_againSet 0 = .ok (.aload_n 0, 1) := by decide +kernel
theorem dX11_againSet_1 : decode cX11_againSet 1 = .ok (.iload_n 1, 1) := by decide +kernel
theorem dX11_againSet_2 : decode cX11_againSet 2 = .ok (.invokevirtual 267, 3) := by decide +kernel
theorem dX11_againSet_5 : decode cX11_againSet 5 = .ok (.ifCond .eq 11, 3) := by decide +kernel
theorem dX11_againSet_8 : decode cX11_againSet 8 = .ok (.aload_n 0, 1) := by decide +kernel
theorem dX11_againSet_9 : decode cX11_againSet 9 = .ok (.iconst 2, 1) := by decide +kernel
theorem dX11_againSet_10 : decode cX11_againSet 10 = .ok (.invokevirtual 126, 3) := by decide +kernel
theorem dX11_againSet_13 : decode cX11_againSet 13 = .ok (.goto 15, 3) := by decide +kernel
theorem dX11_againSet_16 : decode cX11_againSet 16 = .ok (.aload_n 0, 1) := by decide +kernel
theorem dX11_againSet_17 : decode cX11_againSet 17 = .ok (.aload_n 0, 1) := by decide +kernel
theorem dX11_againSet_18 : decode cX11_againSet 18 = .ok (.getfield 76, 3) := by decide +kernel
theorem dX11_againSet_21 : decode cX11_againSet 21 = .ok (.iload_n 1, 1) := by decide +kernel
theorem dX11_againSet_22 : decode cX11_againSet 22 = .ok (.invokevirtual 377, 3) := by decide +kernel
theorem dX11_againSet_25 : decode cX11_againSet 25 = .ok (.invokevirtual 312, 3) := by decide +kernel
theorem dX11_againSet_28 : decode cX11_againSet 28 = .ok (.ireturn, 1) := by decide +kernel
theorem dX11_wasIt_0 : decode cX11_wasIt 0 = .ok (.aload_n 0, 1) := by decide +kernel
theorem dX11_wasIt_1 : decode cX11_wasIt 1 = .ok (.iload_n 1, 1) := by decide +kernel
theorem dX11_wasIt_2 : decode cX11_wasIt 2 = .ok (.invokevirtual 353, 3) := by decide +kernel
theorem dX11_wasIt_5 : decode cX11_wasIt 5 = .ok (.ifCond .eq 11, 3) := by decide +kernel
theorem dX11_wasIt_8 : decode cX11_wasIt 8 = .ok (.aload_n 0, 1) := by decide +kernel
theorem dX11_wasIt_9 : decode cX11_wasIt 9 = .ok (.iconst 5, 1) := by decide +kernel
theorem dX11_wasIt_10 : decode cX11_wasIt 10 = .ok (.invokevirtual 126, 3) := by decide +kernel
theorem dX11_wasIt_13 : decode cX11_wasIt 13 = .ok (.goto 15, 3) := by decide +kernel
theorem dX11_wasIt_16 : decode cX11_wasIt 16 = .ok (.aload_n 0, 1) := by decide +kernel
theorem dX11_wasIt_17 : decode cX11_wasIt 17 = .ok (.aload_n 0, 1) := by decide +kernel
theorem dX11_wasIt_18 : decode cX11_wasIt 18 = .ok (.getfield 85, 3) := by decide +kernel
theorem dX11_wasIt_21 : decode cX11_wasIt 21 = .ok (.iload_n 1, 1) := by decide +kernel
theorem dX11_wasIt_22 : decode cX11_wasIt 22 = .ok (.invokevirtual 380, 3) := by decide +kernel
theorem dX11_wasIt_25 : decode cX11_wasIt 25 = .ok (.invokevirtual 130, 3) := by decide +kernel
theorem dX11_wasIt_28 : decode cX11_wasIt 28 = .ok (.ireturn, 1) := by decide +kernel
theorem dX11_noSuspects_0 : decode cX11_noSuspects 0 = .ok (.aload_n 0, 1) := by decide +kernel
theorem dX11_noSuspects_1 : decode cX11_noSuspects 1 = .ok (.iload_n 1, 1) := by decide +kernel
theorem dX11_noSuspects_2 : decode cX11_noSuspects 2 = .ok (.invokevirtual 353, 3) := by decide +kernel
theorem dX11_noSuspects_5 : decode cX11_noSuspects 5 = .ok (.ifCond .ne 25, 3) := by decide +kernel
theorem dX11_noSuspects_8 : decode cX11_noSuspects 8 = .ok (.iload_n 1, 1) := by decide +kernel
theorem dX11_noSuspects_9 : decode cX11_noSuspects 9 = .ok (.invokestatic 342, 3) := by decide +kernel
theorem dX11_noSuspects_12 : decode cX11_noSuspects 12 = .ok (.iload_n 2, 1) := by decide +kernel
theorem dX11_noSuspects_13 : decode cX11_noSuspects 13 = .ok (.if_icmp .lt 17, 3) := by decide +kernel
theorem dX11_noSuspects_16 : decode cX11_noSuspects 16 = .ok (.iload_n 1, 1) := by decide +kernel
theorem dX11_noSuspects_17 : decode cX11_noSuspects 17 = .ok (.aload_n 0, 1) := by decide +kernel
theorem dX11_noSuspects_18 : decode cX11_noSuspects 18 = .ok (.getfield 58, 3) := by decide +kernel
theorem dX11_noSuspects_21 : decode cX11_noSuspects 21 = .ok (.invokevirtual 242, 3) := by decide +kernel
theorem dX11_noSuspects_24 : decode cX11_noSuspects 24 = .ok (.iconst (-1), 1) := by decide +kernel
theorem dX11_noSuspects_25 : decode cX11_noSuspects 25 = .ok (.ixor, 1) := by decide +kernel
theorem dX11_noSuspects_26 : decode cX11_noSuspects 26 = .ok (.iand, 1) := by decide +kernel
theorem dX11_noSuspects_27 : decode cX11_noSuspects 27 = .ok (.ifCond .eq 7, 3) := by decide +kernel
theorem dX11_noSuspects_30 : decode cX11_noSuspects 30 = .ok (.iconst 1, 1) := by decide +kernel
theorem dX11_noSuspects_31 : decode cX11_noSuspects 31 = .ok (.goto 4, 3) := by decide +kernel
theorem dX11_noSuspects_34 : decode cX11_noSuspects 34 = .ok (.iconst 0, 1) := by decide +kernel
theorem dX11_noSuspects_35 : decode cX11_noSuspects 35 = .ok (.ireturn, 1) := by decide +kernel
theorem dX11_tells_0 : decode cX11_tells 0 = .ok (.aload_n 0, 1) := by decide +kernel
theorem dX11_tells_1 : decode cX11_tells 1 = .ok (.iload_n 1, 1) := by decide +kernel
theorem dX11_tells_2 : decode cX11_tells 2 = .ok (.iconst 2, 1) := by decide +kernel
theorem dX11_tells_3 : decode cX11_tells 3 = .ok (.invokevirtual 383, 3) := by decide +kernel
theorem dX11_tells_6 : decode cX11_tells 6 = .ok (.ifCond .eq 11, 3) := by decide +kernel
theorem dX11_tells_9 : decode cX11_tells 9 = .ok (.aload_n 0, 1) := by decide +kernel
theorem dX11_tells_10 : decode cX11_tells 10 = .ok (.iconst 5, 1) := by decide +kernel
theorem dX11_tells_11 : decode cX11_tells 11 = .ok (.invokevirtual 126, 3) := by decide +kernel
theorem dX11_tells_14 : decode cX11_tells 14 = .ok (.goto 15, 3) := by decide +kernel
theorem dX11_tells_17 : decode cX11_tells 17 = .ok (.aload_n 0, 1) := by decide +kernel
theorem dX11_tells_18 : decode cX11_tells 18 = .ok (.aload_n 0, 1) := by decide +kernel
theorem dX11_tells_19 : decode cX11_tells 19 = .ok (.getfield 85, 3) := by decide +kernel
theorem dX11_tells_22 : decode cX11_tells 22 = .ok (.iload_n 1, 1) := by decide +kernel
theorem dX11_tells_23 : decode cX11_tells 23 = .ok (.invokevirtual 386, 3) := by decide +kernel
theorem dX11_tells_26 : decode cX11_tells 26 = .ok (.invokevirtual 312, 3) := by decide +kernel
theorem dX11_tells_29 : decode cX11_tells 29 = .ok (.ireturn, 1) := by decide +kernel
theorem dX11_sure_0 : decode cX11_sure 0 = .ok (.aload_n 0, 1) := by decide +kernel
theorem dX11_sure_1 : decode cX11_sure 1 = .ok (.iload_n 1, 1) := by decide +kernel
theorem dX11_sure_2 : decode cX11_sure 2 = .ok (.iconst 1, 1) := by decide +kernel
theorem dX11_sure_3 : decode cX11_sure 3 = .ok (.invokevirtual 383, 3) := by decide +kernel
theorem dX11_sure_6 : decode cX11_sure 6 = .ok (.ifCond .eq 11, 3) := by decide +kernel
theorem dX11_sure_9 : decode cX11_sure 9 = .ok (.aload_n 0, 1) := by decide +kernel
theorem dX11_sure_10 : decode cX11_sure 10 = .ok (.iconst 5, 1) := by decide +kernel
theorem dX11_sure_11 : decode cX11_sure 11 = .ok (.invokevirtual 126, 3) := by decide +kernel
theorem dX11_sure_14 : decode cX11_sure 14 = .ok (.goto 15, 3) := by decide +kernel
theorem dX11_sure_17 : decode cX11_sure 17 = .ok (.aload_n 0, 1) := by decide +kernel
theorem dX11_sure_18 : decode cX11_sure 18 = .ok (.aload_n 0, 1) := by decide +kernel
theorem dX11_sure_19 : decode cX11_sure 19 = .ok (.getfield 85, 3) := by decide +kernel
theorem dX11_sure_22 : decode cX11_sure 22 = .ok (.iload_n 1, 1) := by decide +kernel
theorem dX11_sure_23 : decode cX11_sure 23 = .ok (.invokevirtual 389, 3) := by decide +kernel
theorem dX11_sure_26 : decode cX11_sure 26 = .ok (.invokevirtual 312, 3) := by decide +kernel
theorem dX11_sure_29 : decode cX11_sure 29 = .ok (.ireturn, 1) := by decide +kernel
theorem dX11_histories_0 : decode cX11_histories 0 = .ok (.aload_n 0, 1) := by decide +kernel
theorem dX11_histories_1 : decode cX11_histories 1 = .ok (.aload_n 0, 1) := by decide +kernel
theorem dX11_histories_2 : decode cX11_histories 2 = .ok (.getfield 85, 3) := by decide +kernel
theorem dX11_histories_5 : decode cX11_histories 5 = .ok (.invokevirtual 392, 3) := by decide +kernel
theorem dX11_histories_8 : decode cX11_histories 8 = .ok (.invokevirtual 130, 3) := by decide +kernel
theorem dX11_histories_11 : decode cX11_histories 11 = .ok (.i2l, 1) := by decide +kernel
theorem dX11_histories_12 : decode cX11_histories 12 = .ok (.lreturn, 1) := by decide +kernel
theorem dX11_firsts_0 : decode cX11_firsts 0 = .ok (.aload_n 0, 1) := by decide +kernel
theorem dX11_firsts_1 : decode cX11_firsts 1 = .ok (.aload_n 0, 1) := by decide +kernel
theorem dX11_firsts_2 : decode cX11_firsts 2 = .ok (.getfield 85, 3) := by decide +kernel
theorem dX11_firsts_5 : decode cX11_firsts 5 = .ok (.invokevirtual 395, 3) := by decide +kernel
theorem dX11_firsts_8 : decode cX11_firsts 8 = .ok (.invokevirtual 130, 3) := by decide +kernel
theorem dX11_firsts_11 : decode cX11_firsts 11 = .ok (.ireturn, 1) := by decide +kernel
theorem dX11_clash_0 : decode cX11_clash 0 = .ok (.aload_n 0, 1) := by decide +kernel
theorem dX11_clash_1 : decode cX11_clash 1 = .ok (.aload_n 0, 1) := by decide +kernel
theorem dX11_clash_2 : decode cX11_clash 2 = .ok (.getfield 85, 3) := by decide +kernel
theorem dX11_clash_5 : decode cX11_clash 5 = .ok (.invokevirtual 398, 3) := by decide +kernel
theorem dX11_clash_8 : decode cX11_clash 8 = .ok (.invokevirtual 130, 3) := by decide +kernel
theorem dX11_clash_11 : decode cX11_clash 11 = .ok (.ireturn, 1) := by decide +kernel
theorem dX11_aheadOdds_0 : decode cX11_aheadOdds 0 = .ok (.aload_n 0, 1) := by decide +kernel
theorem dX11_aheadOdds_1 : decode cX11_aheadOdds 1 = .ok (.iload_n 1, 1) := by decide +kernel
theorem dX11_aheadOdds_2 : decode cX11_aheadOdds 2 = .ok (.invokevirtual 267, 3) := by decide +kernel
theorem dX11_aheadOdds_5 : decode cX11_aheadOdds 5 = .ok (.ifCond .ne 11, 3) := by decide +kernel
theorem dX11_aheadOdds_8 : decode cX11_aheadOdds 8 = .ok (.aload_n 0, 1) := by decide +kernel
theorem dX11_aheadOdds_9 : decode cX11_aheadOdds 9 = .ok (.iload_n 2, 1) := by decide +kernel
theorem dX11_aheadOdds_10 : decode cX11_aheadOdds 10 = .ok (.invokevirtual 267, 3) := by decide +kernel
theorem dX11_aheadOdds_13 : decode cX11_aheadOdds 13 = .ok (.ifCond .eq 9, 3) := by decide +kernel
theorem dX11_aheadOdds_16 : decode cX11_aheadOdds 16 = .ok (.aload_n 0, 1) := by decide +kernel
theorem dX11_aheadOdds_17 : decode cX11_aheadOdds 17 = .ok (.iconst 2, 1) := by decide +kernel
theorem dX11_aheadOdds_18 : decode cX11_aheadOdds 18 = .ok (.invokevirtual 162, 3) := by decide +kernel
theorem dX11_aheadOdds_21 : decode cX11_aheadOdds 21 = .ok (.ireturn, 1) := by decide +kernel
theorem dX11_aheadOdds_22 : decode cX11_aheadOdds 22 = .ok (.iload_n 1, 1) := by decide +kernel
theorem dX11_aheadOdds_23 : decode cX11_aheadOdds 23 = .ok (.iload_n 2, 1) := by decide +kernel
theorem dX11_aheadOdds_24 : decode cX11_aheadOdds 24 = .ok (.if_icmp .ne 10, 3) := by decide +kernel
theorem dX11_aheadOdds_27 : decode cX11_aheadOdds 27 = .ok (.aload_n 0, 1) := by decide +kernel
theorem dX11_aheadOdds_28 : decode cX11_aheadOdds 28 = .ok (.bipush 9, 2) := by decide +kernel
theorem dX11_aheadOdds_30 : decode cX11_aheadOdds 30 = .ok (.invokevirtual 162, 3) := by decide +kernel
theorem dX11_aheadOdds_33 : decode cX11_aheadOdds 33 = .ok (.ireturn, 1) := by decide +kernel
theorem dX11_aheadOdds_34 : decode cX11_aheadOdds 34 = .ok (.aload_n 0, 1) := by decide +kernel
theorem dX11_aheadOdds_35 : decode cX11_aheadOdds 35 = .ok (.getfield 85, 3) := by decide +kernel
theorem dX11_aheadOdds_38 : decode cX11_aheadOdds 38 = .ok (.invokevirtual 392, 3) := by decide +kernel
theorem dX11_aheadOdds_41 : decode cX11_aheadOdds 41 = .ok (.istore_n 3, 1) := by decide +kernel
theorem dX11_aheadOdds_42 : decode cX11_aheadOdds 42 = .ok (.iload_n 3, 1) := by decide +kernel
theorem dX11_aheadOdds_43 : decode cX11_aheadOdds 43 = .ok (.ifCond .ne 10, 3) := by decide +kernel
theorem dX11_aheadOdds_46 : decode cX11_aheadOdds 46 = .ok (.aload_n 0, 1) := by decide +kernel
theorem dX11_aheadOdds_47 : decode cX11_aheadOdds 47 = .ok (.bipush 8, 2) := by decide +kernel
theorem dX11_aheadOdds_49 : decode cX11_aheadOdds 49 = .ok (.invokevirtual 162, 3) := by decide +kernel
theorem dX11_aheadOdds_52 : decode cX11_aheadOdds 52 = .ok (.ireturn, 1) := by decide +kernel
theorem dX11_aheadOdds_53 : decode cX11_aheadOdds 53 = .ok (.aload_n 0, 1) := by decide +kernel
theorem dX11_aheadOdds_54 : decode cX11_aheadOdds 54 = .ok (.aload_n 0, 1) := by decide +kernel
theorem dX11_aheadOdds_55 : decode cX11_aheadOdds 55 = .ok (.getfield 85, 3) := by decide +kernel
theorem dX11_aheadOdds_58 : decode cX11_aheadOdds 58 = .ok (.iload_n 1, 1) := by decide +kernel
theorem dX11_aheadOdds_59 : decode cX11_aheadOdds 59 = .ok (.iload_n 2, 1) := by decide +kernel
theorem dX11_aheadOdds_60 : decode cX11_aheadOdds 60 = .ok (.invokevirtual 401, 3) := by decide +kernel
theorem dX11_aheadOdds_63 : decode cX11_aheadOdds 63 = .ok (.i2l, 1) := by decide +kernel
theorem dX11_aheadOdds_64 : decode cX11_aheadOdds 64 = .ok (.iload_n 3, 1) := by decide +kernel
theorem dX11_aheadOdds_65 : decode cX11_aheadOdds 65 = .ok (.i2l, 1) := by decide +kernel
theorem dX11_aheadOdds_66 : decode cX11_aheadOdds 66 = .ok (.invokevirtual 404, 3) := by decide +kernel
theorem dX11_aheadOdds_69 : decode cX11_aheadOdds 69 = .ok (.aload_n 0, 1) := by decide +kernel
theorem dX11_aheadOdds_70 : decode cX11_aheadOdds 70 = .ok (.invokevirtual 169, 3) := by decide +kernel
theorem dX11_aheadOdds_73 : decode cX11_aheadOdds 73 = .ok (.ireturn, 1) := by decide +kernel
theorem dX11_live_0 : decode cX11_live 0 = .ok (.iload_n 1, 1) := by decide +kernel
theorem dX11_live_1 : decode cX11_live 1 = .ok (.ifCond .lt 10, 3) := by decide +kernel
theorem dX11_live_4 : decode cX11_live 4 = .ok (.iload_n 1, 1) := by decide +kernel
theorem dX11_live_5 : decode cX11_live 5 = .ok (.sipush 9999, 3) := by decide +kernel
theorem dX11_live_8 : decode cX11_live 8 = .ok (.if_icmp .le 9, 3) := by decide +kernel
theorem dX11_live_11 : decode cX11_live 11 = .ok (.aload_n 0, 1) := by decide +kernel
theorem dX11_live_12 : decode cX11_live 12 = .ok (.iconst 5, 1) := by decide +kernel
theorem dX11_live_13 : decode cX11_live 13 = .ok (.invokevirtual 126, 3) := by decide +kernel
theorem dX11_live_16 : decode cX11_live 16 = .ok (.ireturn, 1) := by decide +kernel
theorem dX11_live_17 : decode cX11_live 17 = .ok (.aload_n 0, 1) := by decide +kernel
theorem dX11_live_18 : decode cX11_live 18 = .ok (.getfield 26, 3) := by decide +kernel
theorem dX11_live_21 : decode cX11_live 21 = .ok (.getfield 221, 3) := by decide +kernel
theorem dX11_live_24 : decode cX11_live 24 = .ok (.getfield 408, 3) := by decide +kernel
theorem dX11_live_27 : decode cX11_live 27 = .ok (.ifCond .ne 10, 3) := by decide +kernel
theorem dX11_live_30 : decode cX11_live 30 = .ok (.aload_n 0, 1) := by decide +kernel
theorem dX11_live_31 : decode cX11_live 31 = .ok (.bipush 8, 2) := by decide +kernel
theorem dX11_live_33 : decode cX11_live 33 = .ok (.invokevirtual 126, 3) := by decide +kernel
theorem dX11_live_36 : decode cX11_live 36 = .ok (.ireturn, 1) := by decide +kernel
theorem dX11_live_37 : decode cX11_live 37 = .ok (.aload_n 0, 1) := by decide +kernel
theorem dX11_live_38 : decode cX11_live 38 = .ok (.getfield 94, 3) := by decide +kernel
theorem dX11_live_41 : decode cX11_live 41 = .ok (.iload_n 1, 1) := by decide +kernel
theorem dX11_live_42 : decode cX11_live 42 = .ok (.invokevirtual 410, 3) := by decide +kernel
theorem dX11_live_45 : decode cX11_live 45 = .ok (.istore_n 2, 1) := by decide +kernel
theorem dX11_live_46 : decode cX11_live 46 = .ok (.aload_n 0, 1) := by decide +kernel
theorem dX11_live_47 : decode cX11_live 47 = .ok (.getfield 94, 3) := by decide +kernel
theorem dX11_live_50 : decode cX11_live 50 = .ok (.getfield 413, 3) := by decide +kernel
theorem dX11_live_53 : decode cX11_live 53 = .ok (.iconst 0, 1) := by decide +kernel
theorem dX11_live_54 : decode cX11_live 54 = .ok (.aload_n 0, 1) := by decide +kernel
theorem dX11_live_55 : decode cX11_live 55 = .ok (.getfield 98, 3) := by decide +kernel
theorem dX11_live_58 : decode cX11_live 58 = .ok (.iconst 0, 1) := by decide +kernel
theorem dX11_live_59 : decode cX11_live 59 = .ok (.iconst 5, 1) := by decide +kernel
theorem dX11_live_60 : decode cX11_live 60 = .ok (.invokestatic 416, 3) := by decide +kernel
theorem dX11_live_63 : decode cX11_live 63 = .ok (.aload_n 0, 1) := by decide +kernel
theorem dX11_live_64 : decode cX11_live 64 = .ok (.iconst 1, 1) := by decide +kernel
theorem dX11_live_65 : decode cX11_live 65 = .ok (.putfield 102, 3) := by decide +kernel
theorem dX11_live_68 : decode cX11_live 68 = .ok (.aload_n 0, 1) := by decide +kernel
theorem dX11_live_69 : decode cX11_live 69 = .ok (.iload_n 2, 1) := by decide +kernel
theorem dX11_live_70 : decode cX11_live 70 = .ok (.invokevirtual 130, 3) := by decide +kernel
theorem dX11_live_73 : decode cX11_live 73 = .ok (.ireturn, 1) := by decide +kernel
theorem dX11_lived_0 : decode cX11_lived 0 = .ok (.iload_n 1, 1) := by decide +kernel
theorem dX11_lived_1 : decode cX11_lived 1 = .ok (.ifCond .lt 8, 3) := by decide +kernel
theorem dX11_lived_4 : decode cX11_lived 4 = .ok (.iload_n 1, 1) := by decide +kernel
theorem dX11_lived_5 : decode cX11_lived 5 = .ok (.iconst 5, 1) := by decide +kernel
theorem dX11_lived_6 : decode cX11_lived 6 = .ok (.if_icmp .lt 9, 3) := by decide +kernel
theorem dX11_lived_9 : decode cX11_lived 9 = .ok (.aload_n 0, 1) := by decide +kernel
theorem dX11_lived_10 : decode cX11_lived 10 = .ok (.iconst 5, 1) := by decide +kernel
theorem dX11_lived_11 : decode cX11_lived 11 = .ok (.invokevirtual 126, 3) := by decide +kernel
theorem dX11_lived_14 : decode cX11_lived 14 = .ok (.ireturn, 1) := by decide +kernel
theorem dX11_lived_15 : decode cX11_lived 15 = .ok (.aload_n 0, 1) := by decide +kernel
theorem dX11_lived_16 : decode cX11_lived 16 = .ok (.getfield 102, 3) := by decide +kernel
theorem dX11_lived_19 : decode cX11_lived 19 = .ok (.ifCond .eq 16, 3) := by decide +kernel
theorem dX11_lived_22 : decode cX11_lived 22 = .ok (.aload_n 0, 1) := by decide +kernel
theorem dX11_lived_23 : decode cX11_lived 23 = .ok (.aload_n 0, 1) := by decide +kernel
theorem dX11_lived_24 : decode cX11_lived 24 = .ok (.getfield 98, 3) := by decide +kernel
theorem dX11_lived_27 : decode cX11_lived 27 = .ok (.iload_n 1, 1) := by decide +kernel
theorem dX11_lived_28 : decode cX11_lived 28 = .ok (.iaload, 1) := by decide +kernel
theorem dX11_lived_29 : decode cX11_lived 29 = .ok (.invokevirtual 130, 3) := by decide +kernel
theorem dX11_lived_32 : decode cX11_lived 32 = .ok (.goto 9, 3) := by decide +kernel
theorem dX11_lived_35 : decode cX11_lived 35 = .ok (.aload_n 0, 1) := by decide +kernel
theorem dX11_lived_36 : decode cX11_lived 36 = .ok (.bipush 8, 2) := by decide +kernel
theorem dX11_lived_38 : decode cX11_lived 38 = .ok (.invokevirtual 126, 3) := by decide +kernel
theorem dX11_lived_41 : decode cX11_lived 41 = .ok (.ireturn, 1) := by decide +kernel
theorem dX11_mean_0 : decode cX11_mean 0 = .ok (.iload_n 1, 1) := by decide +kernel
theorem dX11_mean_1 : decode cX11_mean 1 = .ok (.ifCond .lt 32, 3) := by decide +kernel
theorem dX11_mean_4 : decode cX11_mean 4 = .ok (.iload_n 1, 1) := by decide +kernel
theorem dX11_mean_5 : decode cX11_mean 5 = .ok (.sipush 9999, 3) := by decide +kernel
theorem dX11_mean_8 : decode cX11_mean 8 = .ok (.if_icmp .gt 25, 3) := by decide +kernel
theorem dX11_mean_11 : decode cX11_mean 11 = .ok (.iload_n 2, 1) := by decide +kernel
theorem dX11_mean_12 : decode cX11_mean 12 = .ok (.iconst 1, 1) := by decide +kernel
theorem dX11_mean_13 : decode cX11_mean 13 = .ok (.if_icmp .lt 20, 3) := by decide +kernel
theorem dX11_mean_16 : decode cX11_mean 16 = .ok (.iload_n 2, 1) := by decide +kernel
theorem dX11_mean_17 : decode cX11_mean 17 = .ok (.bipush 20, 2) := by decide +kernel
theorem dX11_mean_19 : decode cX11_mean 19 = .ok (.if_icmp .gt 14, 3) := by decide +kernel
theorem dX11_mean_22 : decode cX11_mean 22 = .ok (.iload_n 1, 1) := by decide +kernel
theorem dX11_mean_23 : decode cX11_mean 23 = .ok (.iload_n 2, 1) := by decide +kernel
theorem dX11_mean_24 : decode cX11_mean 24 = .ok (.iadd, 1) := by decide +kernel
theorem dX11_mean_25 : decode cX11_mean 25 = .ok (.iconst 1, 1) := by decide +kernel
theorem dX11_mean_26 : decode cX11_mean 26 = .ok (.isub, 1) := by decide +kernel
theorem dX11_mean_27 : decode cX11_mean 27 = .ok (.sipush 9999, 3) := by decide +kernel
theorem dX11_mean_30 : decode cX11_mean 30 = .ok (.if_icmp .le 9, 3) := by decide +kernel
theorem dX11_mean_33 : decode cX11_mean 33 = .ok (.aload_n 0, 1) := by decide +kernel
theorem dX11_mean_34 : decode cX11_mean 34 = .ok (.iconst 5, 1) := by decide +kernel
theorem dX11_mean_35 : decode cX11_mean 35 = .ok (.invokevirtual 162, 3) := by decide +kernel
theorem dX11_mean_38 : decode cX11_mean 38 = .ok (.ireturn, 1) := by decide +kernel
theorem dX11_mean_39 : decode cX11_mean 39 = .ok (.aload_n 0, 1) := by decide +kernel
theorem dX11_mean_40 : decode cX11_mean 40 = .ok (.getfield 26, 3) := by decide +kernel
theorem dX11_mean_43 : decode cX11_mean 43 = .ok (.getfield 221, 3) := by decide +kernel
theorem dX11_mean_46 : decode cX11_mean 46 = .ok (.getfield 408, 3) := by decide +kernel
theorem dX11_mean_49 : decode cX11_mean 49 = .ok (.ifCond .ne 10, 3) := by decide +kernel
theorem dX11_mean_52 : decode cX11_mean 52 = .ok (.aload_n 0, 1) := by decide +kernel
theorem dX11_mean_53 : decode cX11_mean 53 = .ok (.bipush 8, 2) := by decide +kernel
theorem dX11_mean_55 : decode cX11_mean 55 = .ok (.invokevirtual 162, 3) := by decide +kernel
theorem dX11_mean_58 : decode cX11_mean 58 = .ok (.ireturn, 1) := by decide +kernel
theorem dX11_mean_59 : decode cX11_mean 59 = .ok (.aload_n 0, 1) := by decide +kernel
theorem dX11_mean_60 : decode cX11_mean 60 = .ok (.getfield 26, 3) := by decide +kernel
theorem dX11_mean_63 : decode cX11_mean 63 = .ok (.getfield 255, 3) := by decide +kernel
theorem dX11_mean_66 : decode cX11_mean 66 = .ok (.istore_n 3, 1) := by decide +kernel
theorem dX11_mean_67 : decode cX11_mean 67 = .ok (.aload_n 0, 1) := by decide +kernel
theorem dX11_mean_68 : decode cX11_mean 68 = .ok (.getfield 26, 3) := by decide +kernel
theorem dX11_mean_71 : decode cX11_mean 71 = .ok (.getfield 258, 3) := by decide +kernel
theorem dX11_mean_74 : decode cX11_mean 74 = .ok (.istore 4, 2) := by decide +kernel
theorem dX11_mean_76 : decode cX11_mean 76 = .ok (.aload_n 0, 1) := by decide +kernel
theorem dX11_mean_77 : decode cX11_mean 77 = .ok (.getfield 26, 3) := by decide +kernel
theorem dX11_mean_80 : decode cX11_mean 80 = .ok (.getfield 252, 3) := by decide +kernel
theorem dX11_mean_83 : decode cX11_mean 83 = .ok (.istore 5, 2) := by decide +kernel
theorem dX11_mean_85 : decode cX11_mean 85 = .ok (.iconst 0, 1) := by decide +kernel
theorem dX11_mean_86 : decode cX11_mean 86 = .ok (.istore 6, 2) := by decide +kernel
theorem dX11_mean_88 : decode cX11_mean 88 = .ok (.iconst 0, 1) := by decide +kernel
theorem dX11_mean_89 : decode cX11_mean 89 = .ok (.istore 7, 2) := by decide +kernel
theorem dX11_mean_91 : decode cX11_mean 91 = .ok (.iload 7, 2) := by decide +kernel
theorem dX11_mean_93 : decode cX11_mean 93 = .ok (.iload_n 2, 1) := by decide +kernel
theorem dX11_mean_94 : decode cX11_mean 94 = .ok (.if_icmp .ge 69, 3) := by decide +kernel
theorem dX11_mean_97 : decode cX11_mean 97 = .ok (.aload_n 0, 1) := by decide +kernel
theorem dX11_mean_98 : decode cX11_mean 98 = .ok (.getfield 94, 3) := by decide +kernel
theorem dX11_mean_101 : decode cX11_mean 101 = .ok (.iload_n 1, 1) := by decide +kernel
theorem dX11_mean_102 : decode cX11_mean 102 = .ok (.iload 7, 2) := by decide +kernel
theorem dX11_mean_104 : decode cX11_mean 104 = .ok (.iadd, 1) := by decide +kernel
theorem dX11_mean_105 : decode cX11_mean 105 = .ok (.invokevirtual 410, 3) := by decide +kernel
theorem dX11_mean_108 : decode cX11_mean 108 = .ok (.pop, 1) := by decide +kernel
theorem dX11_mean_109 : decode cX11_mean 109 = .ok (.iload 6, 2) := by decide +kernel
theorem dX11_mean_111 : decode cX11_mean 111 = .ok (.aload_n 0, 1) := by decide +kernel
theorem dX11_mean_112 : decode cX11_mean 112 = .ok (.getfield 58, 3) := by decide +kernel
theorem dX11_mean_115 : decode cX11_mean 115 = .ok (.aload_n 0, 1) := by decide +kernel
theorem dX11_mean_116 : decode cX11_mean 116 = .ok (.getfield 58, 3) := by decide +kernel
theorem dX11_mean_119 : decode cX11_mean 119 = .ok (.invokevirtual 242, 3) := by decide +kernel
theorem dX11_mean_122 : decode cX11_mean 122 = .ok (.invokevirtual 261, 3) := by decide +kernel
theorem dX11_mean_125 : decode cX11_mean 125 = .ok (.invokestatic 342, 3) := by decide +kernel
theorem dX11_mean_128 : decode cX11_mean 128 = .ok (.iadd, 1) := by decide +kernel
theorem dX11_mean_129 : decode cX11_mean 129 = .ok (.istore 6, 2) := by decide +kernel
theorem dX11_mean_131 : decode cX11_mean 131 = .ok (.aload_n 0, 1) := by decide +kernel
theorem dX11_mean_132 : decode cX11_mean 132 = .ok (.getfield 26, 3) := by decide +kernel
theorem dX11_mean_135 : decode cX11_mean 135 = .ok (.iload_n 3, 1) := by decide +kernel
theorem dX11_mean_136 : decode cX11_mean 136 = .ok (.putfield 255, 3) := by decide +kernel
theorem dX11_mean_139 : decode cX11_mean 139 = .ok (.aload_n 0, 1) := by decide +kernel
theorem dX11_mean_140 : decode cX11_mean 140 = .ok (.getfield 26, 3) := by decide +kernel
theorem dX11_mean_143 : decode cX11_mean 143 = .ok (.iload 4, 2) := by decide +kernel
theorem dX11_mean_145 : decode cX11_mean 145 = .ok (.putfield 258, 3) := by decide +kernel
theorem dX11_mean_148 : decode cX11_mean 148 = .ok (.aload_n 0, 1) := by decide +kernel
theorem dX11_mean_149 : decode cX11_mean 149 = .ok (.getfield 26, 3) := by decide +kernel
theorem dX11_mean_152 : decode cX11_mean 152 = .ok (.iload 5, 2) := by decide +kernel
theorem dX11_mean_154 : decode cX11_mean 154 = .ok (.putfield 252, 3) := by decide +kernel
theorem dX11_mean_157 : decode cX11_mean 157 = .ok (.iinc 7 1, 3) := by decide +kernel
theorem dX11_mean_160 : decode cX11_mean 160 = .ok (.goto (-69), 3) := by decide +kernel
theorem dX11_mean_163 : decode cX11_mean 163 = .ok (.aload_n 0, 1) := by decide +kernel
theorem dX11_mean_164 : decode cX11_mean 164 = .ok (.iload 6, 2) := by decide +kernel
theorem dX11_mean_166 : decode cX11_mean 166 = .ok (.i2l, 1) := by decide +kernel
theorem dX11_mean_167 : decode cX11_mean 167 = .ok (.iload_n 2, 1) := by decide +kernel
theorem dX11_mean_168 : decode cX11_mean 168 = .ok (.i2l, 1) := by decide +kernel
theorem dX11_mean_169 : decode cX11_mean 169 = .ok (.invokevirtual 404, 3) := by decide +kernel
theorem dX11_mean_172 : decode cX11_mean 172 = .ok (.aload_n 0, 1) := by decide +kernel
theorem dX11_mean_173 : decode cX11_mean 173 = .ok (.invokevirtual 169, 3) := by decide +kernel
theorem dX11_mean_176 : decode cX11_mean 176 = .ok (.ireturn, 1) := by decide +kernel
theorem dX11_mark_0 : decode cX11_mark 0 = .ok (.aload_n 0, 1) := by decide +kernel
theorem dX11_mark_1 : decode cX11_mark 1 = .ok (.getfield 106, 3) := by decide +kernel
theorem dX11_mark_4 : decode cX11_mark 4 = .ok (.iconst 3, 1) := by decide +kernel
theorem dX11_mark_5 : decode cX11_mark 5 = .ok (.if_icmp .lt 10, 3) := by decide +kernel
theorem dX11_mark_8 : decode cX11_mark 8 = .ok (.aload_n 0, 1) := by decide +kernel
theorem dX11_mark_9 : decode cX11_mark 9 = .ok (.bipush 7, 2) := by decide +kernel
theorem dX11_mark_11 : decode cX11_mark 11 = .ok (.invokevirtual 126, 3) := by decide +kernel
theorem dX11_mark_14 : decode cX11_mark 14 = .ok (.ireturn, 1) := by decide +kernel
theorem dX11_mark_15 : decode cX11_mark 15 = .ok (.aload_n 0, 1) := by decide +kernel
theorem dX11_mark_16 : decode cX11_mark 16 = .ok (.getfield 49, 3) := by decide +kernel
theorem dX11_mark_19 : decode cX11_mark 19 = .ok (.aload_n 0, 1) := by decide +kernel
theorem dX11_mark_20 : decode cX11_mark 20 = .ok (.getfield 106, 3) := by decide +kernel
theorem dX11_mark_23 : decode cX11_mark 23 = .ok (.aaload, 1) := by decide +kernel
theorem dX11_mark_24 : decode cX11_mark 24 = .ok (.aload_n 0, 1) := by decide +kernel
theorem dX11_mark_25 : decode cX11_mark 25 = .ok (.getfield 26, 3) := by decide +kernel
theorem dX11_mark_28 : decode cX11_mark 28 = .ok (.invokevirtual 422, 3) := by decide +kernel
theorem dX11_mark_31 : decode cX11_mark 31 = .ok (.aload_n 0, 1) := by decide +kernel
theorem dX11_mark_32 : decode cX11_mark 32 = .ok (.dup, 1) := by decide +kernel
theorem dX11_mark_33 : decode cX11_mark 33 = .ok (.getfield 106, 3) := by decide +kernel
theorem dX11_mark_36 : decode cX11_mark 36 = .ok (.iconst 1, 1) := by decide +kernel
theorem dX11_mark_37 : decode cX11_mark 37 = .ok (.iadd, 1) := by decide +kernel
theorem dX11_mark_38 : decode cX11_mark 38 = .ok (.putfield 106, 3) := by decide +kernel
theorem dX11_mark_41 : decode cX11_mark 41 = .ok (.aload_n 0, 1) := by decide +kernel
theorem dX11_mark_42 : decode cX11_mark 42 = .ok (.aload_n 0, 1) := by decide +kernel
theorem dX11_mark_43 : decode cX11_mark 43 = .ok (.getfield 106, 3) := by decide +kernel
theorem dX11_mark_46 : decode cX11_mark 46 = .ok (.invokevirtual 130, 3) := by decide +kernel
theorem dX11_mark_49 : decode cX11_mark 49 = .ok (.ireturn, 1) := by decide +kernel
theorem dX11_back_0 : decode cX11_back 0 = .ok (.aload_n 0, 1) := by decide +kernel
theorem dX11_back_1 : decode cX11_back 1 = .ok (.getfield 106, 3) := by decide +kernel
theorem dX11_back_4 : decode cX11_back 4 = .ok (.ifCond .gt 10, 3) := by decide +kernel
theorem dX11_back_7 : decode cX11_back 7 = .ok (.aload_n 0, 1) := by decide +kernel
theorem dX11_back_8 : decode cX11_back 8 = .ok (.bipush 8, 2) := by decide +kernel
theorem dX11_back_10 : decode cX11_back 10 = .ok (.invokevirtual 126, 3) := by decide +kernel
theorem dX11_back_13 : decode cX11_back 13 = .ok (.ireturn, 1) := by decide +kernel
theorem dX11_back_14 : decode cX11_back 14 = .ok (.aload_n 0, 1) := by decide +kernel
theorem dX11_back_15 : decode cX11_back 15 = .ok (.dup, 1) := by decide +kernel
theorem dX11_back_16 : decode cX11_back 16 = .ok (.getfield 106, 3) := by decide +kernel
theorem dX11_back_19 : decode cX11_back 19 = .ok (.iconst 1, 1) := by decide +kernel
theorem dX11_back_20 : decode cX11_back 20 = .ok (.isub, 1) := by decide +kernel
theorem dX11_back_21 : decode cX11_back 21 = .ok (.putfield 106, 3) := by decide +kernel
theorem dX11_back_24 : decode cX11_back 24 = .ok (.aload_n 0, 1) := by decide +kernel
theorem dX11_back_25 : decode cX11_back 25 = .ok (.getfield 26, 3) := by decide +kernel
theorem dX11_back_28 : decode cX11_back 28 = .ok (.aload_n 0, 1) := by decide +kernel
theorem dX11_back_29 : decode cX11_back 29 = .ok (.getfield 49, 3) := by decide +kernel
theorem dX11_back_32 : decode cX11_back 32 = .ok (.aload_n 0, 1) := by decide +kernel
theorem dX11_back_33 : decode cX11_back 33 = .ok (.getfield 106, 3) := by decide +kernel
theorem dX11_back_36 : decode cX11_back 36 = .ok (.aaload, 1) := by decide +kernel
theorem dX11_back_37 : decode cX11_back 37 = .ok (.invokevirtual 422, 3) := by decide +kernel
theorem dX11_back_40 : decode cX11_back 40 = .ok (.aload_n 0, 1) := by decide +kernel
theorem dX11_back_41 : decode cX11_back 41 = .ok (.invokevirtual 218, 3) := by decide +kernel
theorem dX11_back_44 : decode cX11_back 44 = .ok (.aload_n 0, 1) := by decide +kernel
theorem dX11_back_45 : decode cX11_back 45 = .ok (.aload_n 0, 1) := by decide +kernel
theorem dX11_back_46 : decode cX11_back 46 = .ok (.getfield 106, 3) := by decide +kernel
theorem dX11_back_49 : decode cX11_back 49 = .ok (.invokevirtual 130, 3) := by decide +kernel
theorem dX11_back_52 : decode cX11_back 52 = .ok (.ireturn, 1) := by decide +kernel
theorem dJ6_bitCount_0f7a4_0 : decode cJ6_bitCount_0f7a4 0 = .ok (.iload_n 0, 1) := by decide +kernel
theorem dJ6_bitCount_0f7a4_1 : decode cJ6_bitCount_0f7a4 1 = .ok (.iload_n 0, 1) := by decide +kernel
theorem dJ6_bitCount_0f7a4_2 : decode cJ6_bitCount_0f7a4 2 = .ok (.iconst 1, 1) := by decide +kernel
theorem dJ6_bitCount_0f7a4_3 : decode cJ6_bitCount_0f7a4 3 = .ok (.iushr, 1) := by decide +kernel
theorem dJ6_bitCount_0f7a4_4 : decode cJ6_bitCount_0f7a4 4 = .ok (.ldc_w 265, 3) := by decide +kernel
theorem dJ6_bitCount_0f7a4_7 : decode cJ6_bitCount_0f7a4 7 = .ok (.iand, 1) := by decide +kernel
theorem dJ6_bitCount_0f7a4_8 : decode cJ6_bitCount_0f7a4 8 = .ok (.isub, 1) := by decide +kernel
theorem dJ6_bitCount_0f7a4_9 : decode cJ6_bitCount_0f7a4 9 = .ok (.istore_n 0, 1) := by decide +kernel
theorem dJ6_bitCount_0f7a4_10 : decode cJ6_bitCount_0f7a4 10 = .ok (.iload_n 0, 1) := by decide +kernel
theorem dJ6_bitCount_0f7a4_11 : decode cJ6_bitCount_0f7a4 11 = .ok (.ldc_w 266, 3) := by decide +kernel
theorem dJ6_bitCount_0f7a4_14 : decode cJ6_bitCount_0f7a4 14 = .ok (.iand, 1) := by decide +kernel
theorem dJ6_bitCount_0f7a4_15 : decode cJ6_bitCount_0f7a4 15 = .ok (.iload_n 0, 1) := by decide +kernel
theorem dJ6_bitCount_0f7a4_16 : decode cJ6_bitCount_0f7a4 16 = .ok (.iconst 2, 1) := by decide +kernel
theorem dJ6_bitCount_0f7a4_17 : decode cJ6_bitCount_0f7a4 17 = .ok (.iushr, 1) := by decide +kernel
theorem dJ6_bitCount_0f7a4_18 : decode cJ6_bitCount_0f7a4 18 = .ok (.ldc_w 266, 3) := by decide +kernel
theorem dJ6_bitCount_0f7a4_21 : decode cJ6_bitCount_0f7a4 21 = .ok (.iand, 1) := by decide +kernel
theorem dJ6_bitCount_0f7a4_22 : decode cJ6_bitCount_0f7a4 22 = .ok (.iadd, 1) := by decide +kernel
theorem dJ6_bitCount_0f7a4_23 : decode cJ6_bitCount_0f7a4 23 = .ok (.istore_n 0, 1) := by decide +kernel
theorem dJ6_bitCount_0f7a4_24 : decode cJ6_bitCount_0f7a4 24 = .ok (.iload_n 0, 1) := by decide +kernel
theorem dJ6_bitCount_0f7a4_25 : decode cJ6_bitCount_0f7a4 25 = .ok (.iload_n 0, 1) := by decide +kernel
theorem dJ6_bitCount_0f7a4_26 : decode cJ6_bitCount_0f7a4 26 = .ok (.iconst 4, 1) := by decide +kernel
theorem dJ6_bitCount_0f7a4_27 : decode cJ6_bitCount_0f7a4 27 = .ok (.iushr, 1) := by decide +kernel
theorem dJ6_bitCount_0f7a4_28 : decode cJ6_bitCount_0f7a4 28 = .ok (.iadd, 1) := by decide +kernel
theorem dJ6_bitCount_0f7a4_29 : decode cJ6_bitCount_0f7a4 29 = .ok (.ldc_w 267, 3) := by decide +kernel
theorem dJ6_bitCount_0f7a4_32 : decode cJ6_bitCount_0f7a4 32 = .ok (.iand, 1) := by decide +kernel
theorem dJ6_bitCount_0f7a4_33 : decode cJ6_bitCount_0f7a4 33 = .ok (.istore_n 0, 1) := by decide +kernel
theorem dJ6_bitCount_0f7a4_34 : decode cJ6_bitCount_0f7a4 34 = .ok (.iload_n 0, 1) := by decide +kernel
theorem dJ6_bitCount_0f7a4_35 : decode cJ6_bitCount_0f7a4 35 = .ok (.iload_n 0, 1) := by decide +kernel
theorem dJ6_bitCount_0f7a4_36 : decode cJ6_bitCount_0f7a4 36 = .ok (.bipush 8, 2) := by decide +kernel
theorem dJ6_bitCount_0f7a4_38 : decode cJ6_bitCount_0f7a4 38 = .ok (.iushr, 1) := by decide +kernel
theorem dJ6_bitCount_0f7a4_39 : decode cJ6_bitCount_0f7a4 39 = .ok (.iadd, 1) := by decide +kernel
theorem dJ6_bitCount_0f7a4_40 : decode cJ6_bitCount_0f7a4 40 = .ok (.istore_n 0, 1) := by decide +kernel
theorem dJ6_bitCount_0f7a4_41 : decode cJ6_bitCount_0f7a4 41 = .ok (.iload_n 0, 1) := by decide +kernel
theorem dJ6_bitCount_0f7a4_42 : decode cJ6_bitCount_0f7a4 42 = .ok (.iload_n 0, 1) := by decide +kernel
theorem dJ6_bitCount_0f7a4_43 : decode cJ6_bitCount_0f7a4 43 = .ok (.bipush 16, 2) := by decide +kernel
theorem dJ6_bitCount_0f7a4_45 : decode cJ6_bitCount_0f7a4 45 = .ok (.iushr, 1) := by decide +kernel
theorem dJ6_bitCount_0f7a4_46 : decode cJ6_bitCount_0f7a4 46 = .ok (.iadd, 1) := by decide +kernel
theorem dJ6_bitCount_0f7a4_47 : decode cJ6_bitCount_0f7a4 47 = .ok (.istore_n 0, 1) := by decide +kernel
theorem dJ6_bitCount_0f7a4_48 : decode cJ6_bitCount_0f7a4 48 = .ok (.iload_n 0, 1) := by decide +kernel
theorem dJ6_bitCount_0f7a4_49 : decode cJ6_bitCount_0f7a4 49 = .ok (.bipush 63, 2) := by decide +kernel
theorem dJ6_bitCount_0f7a4_51 : decode cJ6_bitCount_0f7a4 51 = .ok (.iand, 1) := by decide +kernel
theorem dJ6_bitCount_0f7a4_52 : decode cJ6_bitCount_0f7a4 52 = .ok (.ireturn, 1) := by decide +kernel
theorem dJ9_abs_067f4_0 : decode cJ9_abs_067f4 0 = .ok (.lload_n 0, 1) := by decide +kernel
theorem dJ9_abs_067f4_1 : decode cJ9_abs_067f4 1 = .ok (.lconst 0, 1) := by decide +kernel
theorem dJ9_abs_067f4_2 : decode cJ9_abs_067f4 2 = .ok (.lcmp, 1) := by decide +kernel
theorem dJ9_abs_067f4_3 : decode cJ9_abs_067f4 3 = .ok (.ifCond .ge 8, 3) := by decide +kernel
theorem dJ9_abs_067f4_6 : decode cJ9_abs_067f4 6 = .ok (.lload_n 0, 1) := by decide +kernel
theorem dJ9_abs_067f4_7 : decode cJ9_abs_067f4 7 = .ok (.lneg, 1) := by decide +kernel
theorem dJ9_abs_067f4_8 : decode cJ9_abs_067f4 8 = .ok (.goto 4, 3) := by decide +kernel
theorem dJ9_abs_067f4_11 : decode cJ9_abs_067f4 11 = .ok (.lload_n 0, 1) := by decide +kernel
theorem dJ9_abs_067f4_12 : decode cJ9_abs_067f4 12 = .ok (.lreturn, 1) := by decide +kernel
theorem dJ9_max_7cf53_0 : decode cJ9_max_7cf53 0 = .ok (.iload_n 0, 1) := by decide +kernel
theorem dJ9_max_7cf53_1 : decode cJ9_max_7cf53 1 = .ok (.iload_n 1, 1) := by decide +kernel
theorem dJ9_max_7cf53_2 : decode cJ9_max_7cf53 2 = .ok (.if_icmp .lt 7, 3) := by decide +kernel
theorem dJ9_max_7cf53_5 : decode cJ9_max_7cf53 5 = .ok (.iload_n 0, 1) := by decide +kernel
theorem dJ9_max_7cf53_6 : decode cJ9_max_7cf53 6 = .ok (.goto 4, 3) := by decide +kernel
theorem dJ9_max_7cf53_9 : decode cJ9_max_7cf53 9 = .ok (.iload_n 1, 1) := by decide +kernel
theorem dJ9_max_7cf53_10 : decode cJ9_max_7cf53 10 = .ok (.ireturn, 1) := by decide +kernel
theorem dJ9_min_7cf53_0 : decode cJ9_min_7cf53 0 = .ok (.iload_n 0, 1) := by decide +kernel
theorem dJ9_min_7cf53_1 : decode cJ9_min_7cf53 1 = .ok (.iload_n 1, 1) := by decide +kernel
theorem dJ9_min_7cf53_2 : decode cJ9_min_7cf53 2 = .ok (.if_icmp .gt 7, 3) := by decide +kernel
theorem dJ9_min_7cf53_5 : decode cJ9_min_7cf53 5 = .ok (.iload_n 0, 1) := by decide +kernel
theorem dJ9_min_7cf53_6 : decode cJ9_min_7cf53 6 = .ok (.goto 4, 3) := by decide +kernel
theorem dJ9_min_7cf53_9 : decode cJ9_min_7cf53 9 = .ok (.iload_n 1, 1) := by decide +kernel
theorem dJ9_min_7cf53_10 : decode cJ9_min_7cf53 10 = .ok (.ireturn, 1) := by decide +kernel
theorem dJ7_fill_d0a16_0 : decode cJ7_fill_d0a16 0 = .ok (.iconst 0, 1) := by decide +kernel
theorem dJ7_fill_d0a16_1 : decode cJ7_fill_d0a16 1 = .ok (.istore_n 3, 1) := by decide +kernel
theorem dJ7_fill_d0a16_2 : decode cJ7_fill_d0a16 2 = .ok (.aload_n 0, 1) := by decide +kernel
theorem dJ7_fill_d0a16_3 : decode cJ7_fill_d0a16 3 = .ok (.arraylength, 1) := by decide +kernel
theorem dJ7_fill_d0a16_4 : decode cJ7_fill_d0a16 4 = .ok (.istore 4, 2) := by decide +kernel
theorem dJ7_fill_d0a16_6 : decode cJ7_fill_d0a16 6 = .ok (.iload_n 3, 1) := by decide +kernel
theorem dJ7_fill_d0a16_7 : decode cJ7_fill_d0a16 7 = .ok (.iload 4, 2) := by decide +kernel
theorem dJ7_fill_d0a16_9 : decode cJ7_fill_d0a16 9 = .ok (.if_icmp .ge 13, 3) := by decide +kernel
theorem dJ7_fill_d0a16_12 : decode cJ7_fill_d0a16 12 = .ok (.aload_n 0, 1) := by decide +kernel
theorem dJ7_fill_d0a16_13 : decode cJ7_fill_d0a16 13 = .ok (.iload_n 3, 1) := by decide +kernel
theorem dJ7_fill_d0a16_14 : decode cJ7_fill_d0a16 14 = .ok (.lload_n 1, 1) := by decide +kernel
theorem dJ7_fill_d0a16_15 : decode cJ7_fill_d0a16 15 = .ok (.lastore, 1) := by decide +kernel
theorem dJ7_fill_d0a16_16 : decode cJ7_fill_d0a16 16 = .ok (.iinc 3 1, 3) := by decide +kernel
theorem dJ7_fill_d0a16_19 : decode cJ7_fill_d0a16 19 = .ok (.goto (-13), 3) := by decide +kernel
theorem dJ7_fill_d0a16_22 : decode cJ7_fill_d0a16 22 = .ok (.return_, 1) := by decide +kernel
theorem dJ7_fill_53178_0 : decode cJ7_fill_53178 0 = .ok (.iconst 0, 1) := by decide +kernel
theorem dJ7_fill_53178_1 : decode cJ7_fill_53178 1 = .ok (.istore_n 2, 1) := by decide +kernel
theorem dJ7_fill_53178_2 : decode cJ7_fill_53178 2 = .ok (.aload_n 0, 1) := by decide +kernel
theorem dJ7_fill_53178_3 : decode cJ7_fill_53178 3 = .ok (.arraylength, 1) := by decide +kernel
theorem dJ7_fill_53178_4 : decode cJ7_fill_53178 4 = .ok (.istore_n 3, 1) := by decide +kernel
theorem dJ7_fill_53178_5 : decode cJ7_fill_53178 5 = .ok (.iload_n 2, 1) := by decide +kernel
theorem dJ7_fill_53178_6 : decode cJ7_fill_53178 6 = .ok (.iload_n 3, 1) := by decide +kernel
theorem dJ7_fill_53178_7 : decode cJ7_fill_53178 7 = .ok (.if_icmp .ge 13, 3) := by decide +kernel
theorem dJ7_fill_53178_10 : decode cJ7_fill_53178 10 = .ok (.aload_n 0, 1) := by decide +kernel
theorem dJ7_fill_53178_11 : decode cJ7_fill_53178 11 = .ok (.iload_n 2, 1) := by decide +kernel
theorem dJ7_fill_53178_12 : decode cJ7_fill_53178 12 = .ok (.iload_n 1, 1) := by decide +kernel
theorem dJ7_fill_53178_13 : decode cJ7_fill_53178 13 = .ok (.iastore, 1) := by decide +kernel
theorem dJ7_fill_53178_14 : decode cJ7_fill_53178 14 = .ok (.iinc 2 1, 3) := by decide +kernel
theorem dJ7_fill_53178_17 : decode cJ7_fill_53178 17 = .ok (.goto (-12), 3) := by decide +kernel
theorem dJ7_fill_53178_20 : decode cJ7_fill_53178 20 = .ok (.return_, 1) := by decide +kernel
