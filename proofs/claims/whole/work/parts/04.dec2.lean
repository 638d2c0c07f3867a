theorem dX8_init_0 : decode cX8_init 0 = .ok (.aload_n 0, 1) := by decide +kernel
theorem dX8_init_1 : decode cX8_init 1 = .ok (.invokespecial 1, 3) := by decide +kernel
theorem dX8_init_4 : decode cX8_init 4 = .ok (.aload_n 0, 1) := by decide +kernel
theorem dX8_init_5 : decode cX8_init 5 = .ok (.bipush 6, 2) := by decide +kernel
theorem dX8_init_7 : decode cX8_init 7 = .ok (.anewarray 9, 3) := by decide +kernel
theorem dX8_init_10 : decode cX8_init 10 = .ok (.putfield 11, 3) := by decide +kernel
theorem dX8_init_13 : decode cX8_init 13 = .ok (.aload_n 0, 1) := by decide +kernel
theorem dX8_init_14 : decode cX8_init 14 = .ok (.iconst 4, 1) := by decide +kernel
theorem dX8_init_15 : decode cX8_init 15 = .ok (.anewarray 9, 3) := by decide +kernel
theorem dX8_init_18 : decode cX8_init 18 = .ok (.putfield 15, 3) := by decide +kernel
theorem dX8_init_21 : decode cX8_init 21 = .ok (.aload_n 0, 1) := by decide +kernel
theorem dX8_init_22 : decode cX8_init 22 = .ok (.new 18, 3) := by decide +kernel
theorem dX8_init_25 : decode cX8_init 25 = .ok (.dup, 1) := by decide +kernel
theorem dX8_init_26 : decode cX8_init 26 = .ok (.invokespecial 20, 3) := by decide +kernel
theorem dX8_init_29 : decode cX8_init 29 = .ok (.putfield 21, 3) := by decide +kernel
theorem dX8_init_32 : decode cX8_init 32 = .ok (.aload_n 0, 1) := by decide +kernel
theorem dX8_init_33 : decode cX8_init 33 = .ok (.new 25, 3) := by decide +kernel
theorem dX8_init_36 : decode cX8_init 36 = .ok (.dup, 1) := by decide +kernel
theorem dX8_init_37 : decode cX8_init 37 = .ok (.invokespecial 27, 3) := by decide +kernel
theorem dX8_init_40 : decode cX8_init 40 = .ok (.putfield 28, 3) := by decide +kernel
theorem dX8_init_43 : decode cX8_init 43 = .ok (.aload_n 0, 1) := by decide +kernel
theorem dX8_init_44 : decode cX8_init 44 = .ok (.new 32, 3) := by decide +kernel
theorem dX8_init_47 : decode cX8_init 47 = .ok (.dup, 1) := by decide +kernel
theorem dX8_init_48 : decode cX8_init 48 = .ok (.aload_n 0, 1) := by decide +kernel
theorem dX8_init_49 : decode cX8_init 49 = .ok (.getfield 28, 3) := by decide +kernel
theorem dX8_init_52 : decode cX8_init 52 = .ok (.invokespecial 34, 3) := by decide +kernel
theorem dX8_init_55 : decode cX8_init 55 = .ok (.putfield 37, 3) := by decide +kernel
theorem dX8_init_58 : decode cX8_init 58 = .ok (.aload_n 0, 1) := by decide +kernel
theorem dX8_init_59 : decode cX8_init 59 = .ok (.iconst 3, 1) := by decide +kernel
theorem dX8_init_60 : decode cX8_init 60 = .ok (.anewarray 32, 3) := by decide +kernel
theorem dX8_init_63 : decode cX8_init 63 = .ok (.putfield 41, 3) := by decide +kernel
theorem dX8_init_66 : decode cX8_init 66 = .ok (.aload_n 0, 1) := by decide +kernel
theorem dX8_init_67 : decode cX8_init 67 = .ok (.getstatic 45, 3) := by decide +kernel
theorem dX8_init_70 : decode cX8_init 70 = .ok (.arraylength, 1) := by decide +kernel
theorem dX8_init_71 : decode cX8_init 71 = .ok (.anewarray 49, 3) := by decide +kernel
theorem dX8_init_74 : decode cX8_init 74 = .ok (.putfield 51, 3) := by decide +kernel
theorem dX8_init_77 : decode cX8_init 77 = .ok (.aload_n 0, 1) := by decide +kernel
theorem dX8_init_78 : decode cX8_init 78 = .ok (.bipush 6, 2) := by decide +kernel
theorem dX8_init_80 : decode cX8_init 80 = .ok (.anewarray 49, 3) := by decide +kernel
theorem dX8_init_83 : decode cX8_init 83 = .ok (.putfield 55, 3) := by decide +kernel
theorem dX8_init_86 : decode cX8_init 86 = .ok (.aload_n 0, 1) := by decide +kernel
theorem dX8_init_87 : decode cX8_init 87 = .ok (.new 58, 3) := by decide +kernel
theorem dX8_init_90 : decode cX8_init 90 = .ok (.dup, 1) := by decide +kernel
theorem dX8_init_91 : decode cX8_init 91 = .ok (.invokespecial 60, 3) := by decide +kernel
theorem dX8_init_94 : decode cX8_init 94 = .ok (.putfield 61, 3) := by decide +kernel
theorem dX8_init_97 : decode cX8_init 97 = .ok (.aload_n 0, 1) := by decide +kernel
theorem dX8_init_98 : decode cX8_init 98 = .ok (.new 65, 3) := by decide +kernel
theorem dX8_init_101 : decode cX8_init 101 = .ok (.dup, 1) := by decide +kernel
theorem dX8_init_102 : decode cX8_init 102 = .ok (.aload_n 0, 1) := by decide +kernel
theorem dX8_init_103 : decode cX8_init 103 = .ok (.getfield 28, 3) := by decide +kernel
theorem dX8_init_106 : decode cX8_init 106 = .ok (.invokespecial 67, 3) := by decide +kernel
theorem dX8_init_109 : decode cX8_init 109 = .ok (.putfield 68, 3) := by decide +kernel
theorem dX8_init_112 : decode cX8_init 112 = .ok (.aload_n 0, 1) := by decide +kernel
theorem dX8_init_113 : decode cX8_init 113 = .ok (.bipush 8, 2) := by decide +kernel
theorem dX8_init_115 : decode cX8_init 115 = .ok (.newarray .int, 2) := by decide +kernel
theorem dX8_init_117 : decode cX8_init 117 = .ok (.putfield 72, 3) := by decide +kernel
theorem dX8_init_120 : decode cX8_init 120 = .ok (.aload_n 0, 1) := by decide +kernel
theorem dX8_init_121 : decode cX8_init 121 = .ok (.lconst 1, 1) := by decide +kernel
theorem dX8_init_122 : decode cX8_init 122 = .ok (.putfield 75, 3) := by decide +kernel
theorem dX8_init_125 : decode cX8_init 125 = .ok (.aload_n 0, 1) := by decide +kernel
theorem dX8_init_126 : decode cX8_init 126 = .ok (.bipush 6, 2) := by decide +kernel
theorem dX8_init_128 : decode cX8_init 128 = .ok (.newarray .int, 2) := by decide +kernel
theorem dX8_init_130 : decode cX8_init 130 = .ok (.putfield 79, 3) := by decide +kernel
theorem dX8_init_133 : decode cX8_init 133 = .ok (.iconst 0, 1) := by decide +kernel
theorem dX8_init_134 : decode cX8_init 134 = .ok (.istore_n 1, 1) := by decide +kernel
theorem dX8_init_135 : decode cX8_init 135 = .ok (.iload_n 1, 1) := by decide +kernel
theorem dX8_init_136 : decode cX8_init 136 = .ok (.aload_n 0, 1) := by decide +kernel
theorem dX8_init_137 : decode cX8_init 137 = .ok (.getfield 11, 3) := by decide +kernel
theorem dX8_init_140 : decode cX8_init 140 = .ok (.arraylength, 1) := by decide +kernel
theorem dX8_init_141 : decode cX8_init 141 = .ok (.if_icmp .ge 24, 3) := by decide +kernel
theorem dX8_init_144 : decode cX8_init 144 = .ok (.aload_n 0, 1) := by decide +kernel
theorem dX8_init_145 : decode cX8_init 145 = .ok (.getfield 11, 3) := by decide +kernel
theorem dX8_init_148 : decode cX8_init 148 = .ok (.iload_n 1, 1) := by decide +kernel
theorem dX8_init_149 : decode cX8_init 149 = .ok (.new 9, 3) := by decide +kernel
theorem dX8_init_152 : decode cX8_init 152 = .ok (.dup, 1) := by decide +kernel
theorem dX8_init_153 : decode cX8_init 153 = .ok (.bipush 40, 2) := by decide +kernel
theorem dX8_init_155 : decode cX8_init 155 = .ok (.invokespecial 82, 3) := by decide +kernel
theorem dX8_init_158 : decode cX8_init 158 = .ok (.aastore, 1) := by decide +kernel
theorem dX8_init_159 : decode cX8_init 159 = .ok (.iinc 1 1, 3) := by decide +kernel
theorem dX8_init_162 : decode cX8_init 162 = .ok (.goto (-27), 3) := by decide +kernel
theorem dX8_init_165 : decode cX8_init 165 = .ok (.iconst 0, 1) := by decide +kernel
theorem dX8_init_166 : decode cX8_init 166 = .ok (.istore_n 1, 1) := by decide +kernel
theorem dX8_init_167 : decode cX8_init 167 = .ok (.iload_n 1, 1) := by decide +kernel
theorem dX8_init_168 : decode cX8_init 168 = .ok (.aload_n 0, 1) := by decide +kernel
theorem dX8_init_169 : decode cX8_init 169 = .ok (.getfield 15, 3) := by decide +kernel
theorem dX8_init_172 : decode cX8_init 172 = .ok (.arraylength, 1) := by decide +kernel
theorem dX8_init_173 : decode cX8_init 173 = .ok (.if_icmp .ge 24, 3) := by decide +kernel
theorem dX8_init_176 : decode cX8_init 176 = .ok (.aload_n 0, 1) := by decide +kernel
theorem dX8_init_177 : decode cX8_init 177 = .ok (.getfield 15, 3) := by decide +kernel
theorem dX8_init_180 : decode cX8_init 180 = .ok (.iload_n 1, 1) := by decide +kernel
theorem dX8_init_181 : decode cX8_init 181 = .ok (.new 9, 3) := by decide +kernel
theorem dX8_init_184 : decode cX8_init 184 = .ok (.dup, 1) := by decide +kernel
theorem dX8_init_185 : decode cX8_init 185 = .ok (.bipush 60, 2) := by decide +kernel
theorem dX8_init_187 : decode cX8_init 187 = .ok (.invokespecial 82, 3) := by decide +kernel
theorem dX8_init_190 : decode cX8_init 190 = .ok (.aastore, 1) := by decide +kernel
theorem dX8_init_191 : decode cX8_init 191 = .ok (.iinc 1 1, 3) := by decide +kernel
theorem dX8_init_194 : decode cX8_init 194 = .ok (.goto (-27), 3) := by decide +kernel
theorem dX8_init_197 : decode cX8_init 197 = .ok (.iconst 0, 1) := by decide +kernel
theorem dX8_init_198 : decode cX8_init 198 = .ok (.istore_n 1, 1) := by decide +kernel
theorem dX8_init_199 : decode cX8_init 199 = .ok (.iload_n 1, 1) := by decide +kernel
theorem dX8_init_200 : decode cX8_init 200 = .ok (.aload_n 0, 1) := by decide +kernel
theorem dX8_init_201 : decode cX8_init 201 = .ok (.getfield 41, 3) := by decide +kernel
theorem dX8_init_204 : decode cX8_init 204 = .ok (.arraylength, 1) := by decide +kernel
theorem dX8_init_205 : decode cX8_init 205 = .ok (.if_icmp .ge 26, 3) := by decide +kernel
theorem dX8_init_208 : decode cX8_init 208 = .ok (.aload_n 0, 1) := by decide +kernel
theorem dX8_init_209 : decode cX8_init 209 = .ok (.getfield 41, 3) := by decide +kernel
theorem dX8_init_212 : decode cX8_init 212 = .ok (.iload_n 1, 1) := by decide +kernel
theorem dX8_init_213 : decode cX8_init 213 = .ok (.new 32, 3) := by decide +kernel
theorem dX8_init_216 : decode cX8_init 216 = .ok (.dup, 1) := by decide +kernel
theorem dX8_init_217 : decode cX8_init 217 = .ok (.aload_n 0, 1) := by decide +kernel
theorem dX8_init_218 : decode cX8_init 218 = .ok (.getfield 28, 3) := by decide +kernel
theorem dX8_init_221 : decode cX8_init 221 = .ok (.invokespecial 34, 3) := by decide +kernel
theorem dX8_init_224 : decode cX8_init 224 = .ok (.aastore, 1) := by decide +kernel
theorem dX8_init_225 : decode cX8_init 225 = .ok (.iinc 1 1, 3) := by decide +kernel
theorem dX8_init_228 : decode cX8_init 228 = .ok (.goto (-29), 3) := by decide +kernel
theorem dX8_init_231 : decode cX8_init 231 = .ok (.iconst 0, 1) := by decide +kernel
theorem dX8_init_232 : decode cX8_init 232 = .ok (.istore_n 1, 1) := by decide +kernel
theorem dX8_init_233 : decode cX8_init 233 = .ok (.iload_n 1, 1) := by decide +kernel
theorem dX8_init_234 : decode cX8_init 234 = .ok (.aload_n 0, 1) := by decide +kernel
theorem dX8_init_235 : decode cX8_init 235 = .ok (.getfield 51, 3) := by decide +kernel
theorem dX8_init_238 : decode cX8_init 238 = .ok (.arraylength, 1) := by decide +kernel
theorem dX8_init_239 : decode cX8_init 239 = .ok (.if_icmp .ge 27, 3) := by decide +kernel
theorem dX8_init_242 : decode cX8_init 242 = .ok (.aload_n 0, 1) := by decide +kernel
theorem dX8_init_243 : decode cX8_init 243 = .ok (.getfield 51, 3) := by decide +kernel
theorem dX8_init_246 : decode cX8_init 246 = .ok (.iload_n 1, 1) := by decide +kernel
theorem dX8_init_247 : decode cX8_init 247 = .ok (.new 49, 3) := by decide +kernel
theorem dX8_init_250 : decode cX8_init 250 = .ok (.dup, 1) := by decide +kernel
theorem dX8_init_251 : decode cX8_init 251 = .ok (.iload_n 1, 1) := by decide +kernel
theorem dX8_init_252 : decode cX8_init 252 = .ok (.aload_n 0, 1) := by decide +kernel
theorem dX8_init_253 : decode cX8_init 253 = .ok (.getfield 28, 3) := by decide +kernel
theorem dX8_init_256 : decode cX8_init 256 = .ok (.invokespecial 85, 3) := by decide +kernel
theorem dX8_init_259 : decode cX8_init 259 = .ok (.aastore, 1) := by decide +kernel
theorem dX8_init_260 : decode cX8_init 260 = .ok (.iinc 1 1, 3) := by decide +kernel
theorem dX8_init_263 : decode cX8_init 263 = .ok (.goto (-30), 3) := by decide +kernel
theorem dX8_init_266 : decode cX8_init 266 = .ok (.return_, 1) := by decide +kernel
theorem dX8_row_0 : decode cX8_row 0 = .ok (.aload_n 0, 1) := by decide +kernel
theorem dX8_row_1 : decode cX8_row 1 = .ok (.aload_n 0, 1) := by decide +kernel
theorem dX8_row_2 : decode cX8_row 2 = .ok (.iload_n 1, 1) := by decide +kernel
theorem dX8_row_3 : decode cX8_row 3 = .ok (.invokevirtual 88, 3) := by decide +kernel
theorem dX8_row_6 : decode cX8_row 6 = .ok (.iload_n 2, 1) := by decide +kernel
theorem dX8_row_7 : decode cX8_row 7 = .ok (.iconst 0, 1) := by decide +kernel
theorem dX8_row_8 : decode cX8_row 8 = .ok (.invokevirtual 92, 3) := by decide +kernel
theorem dX8_row_11 : decode cX8_row 11 = .ok (.ireturn, 1) := by decide +kernel
theorem dX8_lay_0 : decode cX8_lay 0 = .ok (.aload_n 0, 1) := by decide +kernel
theorem dX8_lay_1 : decode cX8_lay 1 = .ok (.iload_n 1, 1) := by decide +kernel
theorem dX8_lay_2 : decode cX8_lay 2 = .ok (.invokevirtual 88, 3) := by decide +kernel
theorem dX8_lay_5 : decode cX8_lay 5 = .ok (.astore 4, 2) := by decide +kernel
theorem dX8_lay_7 : decode cX8_lay 7 = .ok (.aload 4, 2) := by decide +kernel
theorem dX8_lay_9 : decode cX8_lay 9 = .ok (.ifnonnull 5, 3) := by decide +kernel
theorem dX8_lay_12 : decode cX8_lay 12 = .ok (.iconst (-1), 1) := by decide +kernel
theorem dX8_lay_13 : decode cX8_lay 13 = .ok (.ireturn, 1) := by decide +kernel
theorem dX8_lay_14 : decode cX8_lay 14 = .ok (.aload 4, 2) := by decide +kernel
theorem dX8_lay_16 : decode cX8_lay 16 = .ok (.iload_n 2, 1) := by decide +kernel
theorem dX8_lay_17 : decode cX8_lay 17 = .ok (.invokestatic 96, 3) := by decide +kernel
theorem dX8_lay_20 : decode cX8_lay 20 = .ok (.istore 5, 2) := by decide +kernel
theorem dX8_lay_22 : decode cX8_lay 22 = .ok (.iload 5, 2) := by decide +kernel
theorem dX8_lay_24 : decode cX8_lay 24 = .ok (.ifCond .eq 10, 3) := by decide +kernel
theorem dX8_lay_27 : decode cX8_lay 27 = .ok (.aload_n 0, 1) := by decide +kernel
theorem dX8_lay_28 : decode cX8_lay 28 = .ok (.iload 5, 2) := by decide +kernel
theorem dX8_lay_30 : decode cX8_lay 30 = .ok (.invokevirtual 100, 3) := by decide +kernel
theorem dX8_lay_33 : decode cX8_lay 33 = .ok (.ireturn, 1) := by decide +kernel
theorem dX8_lay_34 : decode cX8_lay 34 = .ok (.aload_n 0, 1) := by decide +kernel
theorem dX8_lay_35 : decode cX8_lay 35 = .ok (.aload 4, 2) := by decide +kernel
theorem dX8_lay_37 : decode cX8_lay 37 = .ok (.iload_n 2, 1) := by decide +kernel
theorem dX8_lay_38 : decode cX8_lay 38 = .ok (.invokevirtual 104, 3) := by decide +kernel
theorem dX8_lay_41 : decode cX8_lay 41 = .ok (.putfield 107, 3) := by decide +kernel
theorem dX8_lay_44 : decode cX8_lay 44 = .ok (.aload 4, 2) := by decide +kernel
theorem dX8_lay_46 : decode cX8_lay 46 = .ok (.iload_n 2, 1) := by decide +kernel
theorem dX8_lay_47 : decode cX8_lay 47 = .ok (.iload_n 3, 1) := by decide +kernel
theorem dX8_lay_48 : decode cX8_lay 48 = .ok (.invokevirtual 111, 3) := by decide +kernel
theorem dX8_lay_51 : decode cX8_lay 51 = .ok (.iconst 1, 1) := by decide +kernel
theorem dX8_lay_52 : decode cX8_lay 52 = .ok (.ireturn, 1) := by decide +kernel
theorem dX8_at_0 : decode cX8_at 0 = .ok (.aload_n 0, 1) := by decide +kernel
theorem dX8_at_1 : decode cX8_at 1 = .ok (.iload_n 1, 1) := by decide +kernel
theorem dX8_at_2 : decode cX8_at 2 = .ok (.invokevirtual 88, 3) := by decide +kernel
theorem dX8_at_5 : decode cX8_at 5 = .ok (.astore_n 3, 1) := by decide +kernel
theorem dX8_at_6 : decode cX8_at 6 = .ok (.aload_n 3, 1) := by decide +kernel
theorem dX8_at_7 : decode cX8_at 7 = .ok (.ifnonnull 5, 3) := by decide +kernel
theorem dX8_at_10 : decode cX8_at 10 = .ok (.iconst (-1), 1) := by decide +kernel
theorem dX8_at_11 : decode cX8_at 11 = .ok (.ireturn, 1) := by decide +kernel
theorem dX8_at_12 : decode cX8_at 12 = .ok (.aload_n 3, 1) := by decide +kernel
theorem dX8_at_13 : decode cX8_at 13 = .ok (.iload_n 2, 1) := by decide +kernel
theorem dX8_at_14 : decode cX8_at 14 = .ok (.invokestatic 96, 3) := by decide +kernel
theorem dX8_at_17 : decode cX8_at 17 = .ok (.istore 4, 2) := by decide +kernel
theorem dX8_at_19 : decode cX8_at 19 = .ok (.iload 4, 2) := by decide +kernel
theorem dX8_at_21 : decode cX8_at 21 = .ok (.ifCond .eq 10, 3) := by decide +kernel
theorem dX8_at_24 : decode cX8_at 24 = .ok (.aload_n 0, 1) := by decide +kernel
theorem dX8_at_25 : decode cX8_at 25 = .ok (.iload 4, 2) := by decide +kernel
theorem dX8_at_27 : decode cX8_at 27 = .ok (.invokevirtual 100, 3) := by decide +kernel
theorem dX8_at_30 : decode cX8_at 30 = .ok (.ireturn, 1) := by decide +kernel
theorem dX8_at_31 : decode cX8_at 31 = .ok (.aload_n 0, 1) := by decide +kernel
theorem dX8_at_32 : decode cX8_at 32 = .ok (.aload_n 3, 1) := by decide +kernel
theorem dX8_at_33 : decode cX8_at 33 = .ok (.iload_n 2, 1) := by decide +kernel
theorem dX8_at_34 : decode cX8_at 34 = .ok (.invokevirtual 104, 3) := by decide +kernel
theorem dX8_at_37 : decode cX8_at 37 = .ok (.invokevirtual 115, 3) := by decide +kernel
theorem dX8_at_40 : decode cX8_at 40 = .ok (.ireturn, 1) := by decide +kernel
theorem dX8_tear_0 : decode cX8_tear 0 = .ok (.aload_n 0, 1) := by decide +kernel
theorem dX8_tear_1 : decode cX8_tear 1 = .ok (.iload_n 1, 1) := by decide +kernel
theorem dX8_tear_2 : decode cX8_tear 2 = .ok (.invokevirtual 88, 3) := by decide +kernel
theorem dX8_tear_5 : decode cX8_tear 5 = .ok (.astore_n 2, 1) := by decide +kernel
theorem dX8_tear_6 : decode cX8_tear 6 = .ok (.aload_n 2, 1) := by decide +kernel
theorem dX8_tear_7 : decode cX8_tear 7 = .ok (.ifnonnull 5, 3) := by decide +kernel
theorem dX8_tear_10 : decode cX8_tear 10 = .ok (.iconst (-1), 1) := by decide +kernel
theorem dX8_tear_11 : decode cX8_tear 11 = .ok (.ireturn, 1) := by decide +kernel
theorem dX8_tear_12 : decode cX8_tear 12 = .ok (.aload_n 2, 1) := by decide +kernel
theorem dX8_tear_13 : decode cX8_tear 13 = .ok (.invokevirtual 118, 3) := by decide +kernel
theorem dX8_tear_16 : decode cX8_tear 16 = .ok (.ifCond .eq 9, 3) := by decide +kernel
theorem dX8_tear_19 : decode cX8_tear 19 = .ok (.aload_n 0, 1) := by decide +kernel
theorem dX8_tear_20 : decode cX8_tear 20 = .ok (.iconst 1, 1) := by decide +kernel
theorem dX8_tear_21 : decode cX8_tear 21 = .ok (.invokevirtual 100, 3) := by decide +kernel
theorem dX8_tear_24 : decode cX8_tear 24 = .ok (.ireturn, 1) := by decide +kernel
theorem dX8_tear_25 : decode cX8_tear 25 = .ok (.aload_n 2, 1) := by decide +kernel
theorem dX8_tear_26 : decode cX8_tear 26 = .ok (.invokevirtual 122, 3) := by decide +kernel
theorem dX8_tear_29 : decode cX8_tear 29 = .ok (.iconst 1, 1) := by decide +kernel
theorem dX8_tear_30 : decode cX8_tear 30 = .ok (.ireturn, 1) := by decide +kernel
theorem dX8_copy_0 : decode cX8_copy 0 = .ok (.aload_n 0, 1) := by decide +kernel
theorem dX8_copy_1 : decode cX8_copy 1 = .ok (.iload_n 1, 1) := by decide +kernel
theorem dX8_copy_2 : decode cX8_copy 2 = .ok (.invokevirtual 88, 3) := by decide +kernel
theorem dX8_copy_5 : decode cX8_copy 5 = .ok (.astore 6, 2) := by decide +kernel
theorem dX8_copy_7 : decode cX8_copy 7 = .ok (.aload_n 0, 1) := by decide +kernel
theorem dX8_copy_8 : decode cX8_copy 8 = .ok (.iload_n 3, 1) := by decide +kernel
theorem dX8_copy_9 : decode cX8_copy 9 = .ok (.invokevirtual 88, 3) := by decide +kernel
theorem dX8_copy_12 : decode cX8_copy 12 = .ok (.astore 7, 2) := by decide +kernel
theorem dX8_copy_14 : decode cX8_copy 14 = .ok (.aload 6, 2) := by decide +kernel
theorem dX8_copy_16 : decode cX8_copy 16 = .ok (.ifnull 8, 3) := by decide +kernel
theorem dX8_copy_19 : decode cX8_copy 19 = .ok (.aload 7, 2) := by decide +kernel
theorem dX8_copy_21 : decode cX8_copy 21 = .ok (.ifnonnull 5, 3) := by decide +kernel
theorem dX8_copy_24 : decode cX8_copy 24 = .ok (.iconst (-1), 1) := by decide +kernel
theorem dX8_copy_25 : decode cX8_copy 25 = .ok (.ireturn, 1) := by decide +kernel
theorem dX8_copy_26 : decode cX8_copy 26 = .ok (.iload 5, 2) := by decide +kernel
theorem dX8_copy_28 : decode cX8_copy 28 = .ok (.ifCond .ge 9, 3) := by decide +kernel
theorem dX8_copy_31 : decode cX8_copy 31 = .ok (.aload_n 0, 1) := by decide +kernel
theorem dX8_copy_32 : decode cX8_copy 32 = .ok (.iconst 5, 1) := by decide +kernel
theorem dX8_copy_33 : decode cX8_copy 33 = .ok (.invokevirtual 100, 3) := by decide +kernel
theorem dX8_copy_36 : decode cX8_copy 36 = .ok (.ireturn, 1) := by decide +kernel
theorem dX8_copy_37 : decode cX8_copy 37 = .ok (.aload 6, 2) := by decide +kernel
theorem dX8_copy_39 : decode cX8_copy 39 = .ok (.invokevirtual 118, 3) := by decide +kernel
theorem dX8_copy_42 : decode cX8_copy 42 = .ok (.ifCond .ne 11, 3) := by decide +kernel
theorem dX8_copy_45 : decode cX8_copy 45 = .ok (.aload 7, 2) := by decide +kernel
theorem dX8_copy_47 : decode cX8_copy 47 = .ok (.invokevirtual 118, 3) := by decide +kernel
theorem dX8_copy_50 : decode cX8_copy 50 = .ok (.ifCond .eq 9, 3) := by decide +kernel
theorem dX8_copy_53 : decode cX8_copy 53 = .ok (.aload_n 0, 1) := by decide +kernel
theorem dX8_copy_54 : decode cX8_copy 54 = .ok (.iconst 1, 1) := by decide +kernel
theorem dX8_copy_55 : decode cX8_copy 55 = .ok (.invokevirtual 100, 3) := by decide +kernel
theorem dX8_copy_58 : decode cX8_copy 58 = .ok (.ireturn, 1) := by decide +kernel
theorem dX8_copy_59 : decode cX8_copy 59 = .ok (.aload 6, 2) := by decide +kernel
theorem dX8_copy_61 : decode cX8_copy 61 = .ok (.iload_n 2, 1) := by decide +kernel
theorem dX8_copy_62 : decode cX8_copy 62 = .ok (.iload 5, 2) := by decide +kernel
theorem dX8_copy_64 : decode cX8_copy 64 = .ok (.invokevirtual 125, 3) := by decide +kernel
theorem dX8_copy_67 : decode cX8_copy 67 = .ok (.ifCond .eq 15, 3) := by decide +kernel
theorem dX8_copy_70 : decode cX8_copy 70 = .ok (.aload 7, 2) := by decide +kernel
theorem dX8_copy_72 : decode cX8_copy 72 = .ok (.iload 4, 2) := by decide +kernel
theorem dX8_copy_74 : decode cX8_copy 74 = .ok (.iload 5, 2) := by decide +kernel
theorem dX8_copy_76 : decode cX8_copy 76 = .ok (.invokevirtual 125, 3) := by decide +kernel
theorem dX8_copy_79 : decode cX8_copy 79 = .ok (.ifCond .ne 9, 3) := by decide +kernel
theorem dX8_copy_82 : decode cX8_copy 82 = .ok (.aload_n 0, 1) := by decide +kernel
theorem dX8_copy_83 : decode cX8_copy 83 = .ok (.iconst 2, 1) := by decide +kernel
theorem dX8_copy_84 : decode cX8_copy 84 = .ok (.invokevirtual 100, 3) := by decide +kernel
theorem dX8_copy_87 : decode cX8_copy 87 = .ok (.ireturn, 1) := by decide +kernel
theorem dX8_copy_88 : decode cX8_copy 88 = .ok (.aload 7, 2) := by decide +kernel
theorem dX8_copy_90 : decode cX8_copy 90 = .ok (.iload 4, 2) := by decide +kernel
theorem dX8_copy_92 : decode cX8_copy 92 = .ok (.aload 6, 2) := by decide +kernel
theorem dX8_copy_94 : decode cX8_copy 94 = .ok (.iload_n 2, 1) := by decide +kernel
theorem dX8_copy_95 : decode cX8_copy 95 = .ok (.iload 5, 2) := by decide +kernel
theorem dX8_copy_97 : decode cX8_copy 97 = .ok (.invokevirtual 129, 3) := by decide +kernel
theorem dX8_copy_100 : decode cX8_copy 100 = .ok (.iconst 1, 1) := by decide +kernel
theorem dX8_copy_101 : decode cX8_copy 101 = .ok (.ireturn, 1) := by decide +kernel
theorem dX8_mean_0 : decode cX8_mean 0 = .ok (.aload_n 0, 1) := by decide +kernel
theorem dX8_mean_1 : decode cX8_mean 1 = .ok (.iload_n 1, 1) := by decide +kernel
theorem dX8_mean_2 : decode cX8_mean 2 = .ok (.invokevirtual 88, 3) := by decide +kernel
theorem dX8_mean_5 : decode cX8_mean 5 = .ok (.astore_n 2, 1) := by decide +kernel
theorem dX8_mean_6 : decode cX8_mean 6 = .ok (.aload_n 2, 1) := by decide +kernel
theorem dX8_mean_7 : decode cX8_mean 7 = .ok (.ifnonnull 5, 3) := by decide +kernel
theorem dX8_mean_10 : decode cX8_mean 10 = .ok (.iconst (-1), 1) := by decide +kernel
theorem dX8_mean_11 : decode cX8_mean 11 = .ok (.ireturn, 1) := by decide +kernel
theorem dX8_mean_12 : decode cX8_mean 12 = .ok (.aload_n 2, 1) := by decide +kernel
theorem dX8_mean_13 : decode cX8_mean 13 = .ok (.invokevirtual 118, 3) := by decide +kernel
theorem dX8_mean_16 : decode cX8_mean 16 = .ok (.ifCond .eq 9, 3) := by decide +kernel
theorem dX8_mean_19 : decode cX8_mean 19 = .ok (.aload_n 0, 1) := by decide +kernel
theorem dX8_mean_20 : decode cX8_mean 20 = .ok (.iconst 1, 1) := by decide +kernel
theorem dX8_mean_21 : decode cX8_mean 21 = .ok (.invokevirtual 100, 3) := by decide +kernel
theorem dX8_mean_24 : decode cX8_mean 24 = .ok (.ireturn, 1) := by decide +kernel
theorem dX8_mean_25 : decode cX8_mean 25 = .ok (.aload_n 2, 1) := by decide +kernel
theorem dX8_mean_26 : decode cX8_mean 26 = .ok (.invokevirtual 133, 3) := by decide +kernel
theorem dX8_mean_29 : decode cX8_mean 29 = .ok (.istore_n 3, 1) := by decide +kernel
theorem dX8_mean_30 : decode cX8_mean 30 = .ok (.iload_n 3, 1) := by decide +kernel
theorem dX8_mean_31 : decode cX8_mean 31 = .ok (.ifCond .gt 9, 3) := by decide +kernel
theorem dX8_mean_34 : decode cX8_mean 34 = .ok (.aload_n 0, 1) := by decide +kernel
theorem dX8_mean_35 : decode cX8_mean 35 = .ok (.iconst 4, 1) := by decide +kernel
theorem dX8_mean_36 : decode cX8_mean 36 = .ok (.invokevirtual 100, 3) := by decide +kernel
theorem dX8_mean_39 : decode cX8_mean 39 = .ok (.ireturn, 1) := by decide +kernel
theorem dX8_mean_40 : decode cX8_mean 40 = .ok (.aload_n 0, 1) := by decide +kernel
theorem dX8_mean_41 : decode cX8_mean 41 = .ok (.aload_n 2, 1) := by decide +kernel
theorem dX8_mean_42 : decode cX8_mean 42 = .ok (.invokevirtual 137, 3) := by decide +kernel
theorem dX8_mean_45 : decode cX8_mean 45 = .ok (.iload_n 3, 1) := by decide +kernel
theorem dX8_mean_46 : decode cX8_mean 46 = .ok (.i2l, 1) := by decide +kernel
theorem dX8_mean_47 : decode cX8_mean 47 = .ok (.ldiv, 1) := by decide +kernel
theorem dX8_mean_48 : decode cX8_mean 48 = .ok (.l2i, 1) := by decide +kernel
theorem dX8_mean_49 : decode cX8_mean 49 = .ok (.invokevirtual 115, 3) := by decide +kernel
theorem dX8_mean_52 : decode cX8_mean 52 = .ok (.ireturn, 1) := by decide +kernel
theorem dX8_text_0 : decode cX8_text 0 = .ok (.aload_n 0, 1) := by decide +kernel
theorem dX8_text_1 : decode cX8_text 1 = .ok (.aload_n 0, 1) := by decide +kernel
theorem dX8_text_2 : decode cX8_text 2 = .ok (.iload_n 1, 1) := by decide +kernel
theorem dX8_text_3 : decode cX8_text 3 = .ok (.invokevirtual 141, 3) := by decide +kernel
theorem dX8_text_6 : decode cX8_text 6 = .ok (.iload_n 2, 1) := by decide +kernel
theorem dX8_text_7 : decode cX8_text 7 = .ok (.bipush 32, 2) := by decide +kernel
theorem dX8_text_9 : decode cX8_text 9 = .ok (.invokevirtual 92, 3) := by decide +kernel
theorem dX8_text_12 : decode cX8_text 12 = .ok (.ireturn, 1) := by decide +kernel
theorem dX8_put_0 : decode cX8_put 0 = .ok (.aload_n 0, 1) := by decide +kernel
theorem dX8_put_1 : decode cX8_put 1 = .ok (.iload_n 1, 1) := by decide +kernel
theorem dX8_put_2 : decode cX8_put 2 = .ok (.invokevirtual 141, 3) := by decide +kernel
theorem dX8_put_5 : decode cX8_put 5 = .ok (.astore 4, 2) := by decide +kernel
theorem dX8_put_7 : decode cX8_put 7 = .ok (.aload 4, 2) := by decide +kernel
theorem dX8_put_9 : decode cX8_put 9 = .ok (.ifnonnull 5, 3) := by decide +kernel
theorem dX8_put_12 : decode cX8_put 12 = .ok (.iconst (-1), 1) := by decide +kernel
theorem dX8_put_13 : decode cX8_put 13 = .ok (.ireturn, 1) := by decide +kernel
theorem dX8_put_14 : decode cX8_put 14 = .ok (.aload 4, 2) := by decide +kernel
theorem dX8_put_16 : decode cX8_put 16 = .ok (.iload_n 2, 1) := by decide +kernel
theorem dX8_put_17 : decode cX8_put 17 = .ok (.invokestatic 96, 3) := by decide +kernel
theorem dX8_put_20 : decode cX8_put 20 = .ok (.istore 5, 2) := by decide +kernel
theorem dX8_put_22 : decode cX8_put 22 = .ok (.iload 5, 2) := by decide +kernel
theorem dX8_put_24 : decode cX8_put 24 = .ok (.ifCond .eq 10, 3) := by decide +kernel
theorem dX8_put_27 : decode cX8_put 27 = .ok (.aload_n 0, 1) := by decide +kernel
theorem dX8_put_28 : decode cX8_put 28 = .ok (.iload 5, 2) := by decide +kernel
theorem dX8_put_30 : decode cX8_put 30 = .ok (.invokevirtual 100, 3) := by decide +kernel
theorem dX8_put_33 : decode cX8_put 33 = .ok (.ireturn, 1) := by decide +kernel
theorem dX8_put_34 : decode cX8_put 34 = .ok (.aload 4, 2) := by decide +kernel
theorem dX8_put_36 : decode cX8_put 36 = .ok (.iload_n 2, 1) := by decide +kernel
theorem dX8_put_37 : decode cX8_put 37 = .ok (.invokevirtual 104, 3) := by decide +kernel
theorem dX8_put_40 : decode cX8_put 40 = .ok (.istore 6, 2) := by decide +kernel
theorem dX8_put_42 : decode cX8_put 42 = .ok (.aload 4, 2) := by decide +kernel
theorem dX8_put_44 : decode cX8_put 44 = .ok (.iload_n 2, 1) := by decide +kernel
theorem dX8_put_45 : decode cX8_put 45 = .ok (.iload_n 3, 1) := by decide +kernel
theorem dX8_put_46 : decode cX8_put 46 = .ok (.i2b, 1) := by decide +kernel
theorem dX8_put_47 : decode cX8_put 47 = .ok (.invokevirtual 111, 3) := by decide +kernel
theorem dX8_put_50 : decode cX8_put 50 = .ok (.iload 6, 2) := by decide +kernel
theorem dX8_put_52 : decode cX8_put 52 = .ok (.sipush 1000, 3) := by decide +kernel
theorem dX8_put_55 : decode cX8_put 55 = .ok (.iadd, 1) := by decide +kernel
theorem dX8_put_56 : decode cX8_put 56 = .ok (.ireturn, 1) := by decide +kernel
theorem dX8_fault_0 : decode cX8_fault 0 = .ok (.aload_n 0, 1) := by decide +kernel
theorem dX8_fault_1 : decode cX8_fault 1 = .ok (.iload_n 1, 1) := by decide +kernel
theorem dX8_fault_2 : decode cX8_fault 2 = .ok (.invokevirtual 141, 3) := by decide +kernel
theorem dX8_fault_5 : decode cX8_fault 5 = .ok (.astore_n 2, 1) := by decide +kernel
theorem dX8_fault_6 : decode cX8_fault 6 = .ok (.aload_n 2, 1) := by decide +kernel
theorem dX8_fault_7 : decode cX8_fault 7 = .ok (.ifnonnull 5, 3) := by decide +kernel
theorem dX8_fault_10 : decode cX8_fault 10 = .ok (.iconst (-1), 1) := by decide +kernel
theorem dX8_fault_11 : decode cX8_fault 11 = .ok (.ireturn, 1) := by decide +kernel
theorem dX8_fault_12 : decode cX8_fault 12 = .ok (.aload_n 2, 1) := by decide +kernel
theorem dX8_fault_13 : decode cX8_fault 13 = .ok (.invokevirtual 118, 3) := by decide +kernel
theorem dX8_fault_16 : decode cX8_fault 16 = .ok (.ifCond .eq 11, 3) := by decide +kernel
theorem dX8_fault_19 : decode cX8_fault 19 = .ok (.aload_n 0, 1) := by decide +kernel
theorem dX8_fault_20 : decode cX8_fault 20 = .ok (.iconst 1, 1) := by decide +kernel
theorem dX8_fault_21 : decode cX8_fault 21 = .ok (.invokevirtual 100, 3) := by decide +kernel
theorem dX8_fault_24 : decode cX8_fault 24 = .ok (.goto 11, 3) := by decide +kernel
theorem dX8_fault_27 : decode cX8_fault 27 = .ok (.aload_n 0, 1) := by decide +kernel
theorem dX8_fault_28 : decode cX8_fault 28 = .ok (.getfield 21, 3) := by decide +kernel
theorem dX8_fault_31 : decode cX8_fault 31 = .ok (.aload_n 2, 1) := by decide +kernel
theorem dX8_fault_32 : decode cX8_fault 32 = .ok (.invokevirtual 144, 3) := by decide +kernel
theorem dX8_fault_35 : decode cX8_fault 35 = .ok (.ireturn, 1) := by decide +kernel
theorem dX8_ground_0 : decode cX8_ground 0 = .ok (.aload_n 0, 1) := by decide +kernel
theorem dX8_ground_1 : decode cX8_ground 1 = .ok (.iload_n 1, 1) := by decide +kernel
theorem dX8_ground_2 : decode cX8_ground 2 = .ok (.invokevirtual 141, 3) := by decide +kernel
theorem dX8_ground_5 : decode cX8_ground 5 = .ok (.astore_n 2, 1) := by decide +kernel
theorem dX8_ground_6 : decode cX8_ground 6 = .ok (.aload_n 2, 1) := by decide +kernel
theorem dX8_ground_7 : decode cX8_ground 7 = .ok (.ifnonnull 5, 3) := by decide +kernel
theorem dX8_ground_10 : decode cX8_ground 10 = .ok (.iconst (-1), 1) := by decide +kernel
theorem dX8_ground_11 : decode cX8_ground 11 = .ok (.ireturn, 1) := by decide +kernel
theorem dX8_ground_12 : decode cX8_ground 12 = .ok (.aload_n 2, 1) := by decide +kernel
theorem dX8_ground_13 : decode cX8_ground 13 = .ok (.invokevirtual 118, 3) := by decide +kernel
theorem dX8_ground_16 : decode cX8_ground 16 = .ok (.ifCond .eq 9, 3) := by decide +kernel
theorem dX8_ground_19 : decode cX8_ground 19 = .ok (.aload_n 0, 1) := by decide +kernel
theorem dX8_ground_20 : decode cX8_ground 20 = .ok (.iconst 1, 1) := by decide +kernel
theorem dX8_ground_21 : decode cX8_ground 21 = .ok (.invokevirtual 100, 3) := by decide +kernel
theorem dX8_ground_24 : decode cX8_ground 24 = .ok (.ireturn, 1) := by decide +kernel
theorem dX8_ground_25 : decode cX8_ground 25 = .ok (.aload_n 0, 1) := by decide +kernel
theorem dX8_ground_26 : decode cX8_ground 26 = .ok (.getfield 21, 3) := by decide +kernel
theorem dX8_ground_29 : decode cX8_ground 29 = .ok (.aload_n 2, 1) := by decide +kernel
theorem dX8_ground_30 : decode cX8_ground 30 = .ok (.invokevirtual 144, 3) := by decide +kernel
theorem dX8_ground_33 : decode cX8_ground 33 = .ok (.bipush (-9), 2) := by decide +kernel
theorem dX8_ground_35 : decode cX8_ground 35 = .ok (.if_icmp .eq 6, 3) := by decide +kernel
theorem dX8_ground_38 : decode cX8_ground 38 = .ok (.bipush (-4), 2) := by decide +kernel
theorem dX8_ground_40 : decode cX8_ground 40 = .ok (.ireturn, 1) := by decide +kernel
theorem dX8_ground_41 : decode cX8_ground 41 = .ok (.aload_n 0, 1) := by decide +kernel
theorem dX8_ground_42 : decode cX8_ground 42 = .ok (.getfield 28, 3) := by decide +kernel
theorem dX8_ground_45 : decode cX8_ground 45 = .ok (.aload_n 0, 1) := by decide +kernel
theorem dX8_ground_46 : decode cX8_ground 46 = .ok (.getfield 21, 3) := by decide +kernel
theorem dX8_ground_49 : decode cX8_ground 49 = .ok (.invokevirtual 148, 3) := by decide +kernel
theorem dX8_ground_52 : decode cX8_ground 52 = .ok (.aload_n 0, 1) := by decide +kernel
theorem dX8_ground_53 : decode cX8_ground 53 = .ok (.getfield 37, 3) := by decide +kernel
theorem dX8_ground_56 : decode cX8_ground 56 = .ok (.aload_n 0, 1) := by decide +kernel
theorem dX8_ground_57 : decode cX8_ground 57 = .ok (.getfield 21, 3) := by decide +kernel
theorem dX8_ground_60 : decode cX8_ground 60 = .ok (.invokevirtual 152, 3) := by decide +kernel
theorem dX8_ground_63 : decode cX8_ground 63 = .ok (.aload_n 0, 1) := by decide +kernel
theorem dX8_ground_64 : decode cX8_ground 64 = .ok (.invokevirtual 155, 3) := by decide +kernel
theorem dX8_ground_67 : decode cX8_ground 67 = .ok (.aload_n 0, 1) := by decide +kernel
theorem dX8_ground_68 : decode cX8_ground 68 = .ok (.getfield 61, 3) := by decide +kernel
theorem dX8_ground_71 : decode cX8_ground 71 = .ok (.invokevirtual 158, 3) := by decide +kernel
theorem dX8_ground_74 : decode cX8_ground 74 = .ok (.iconst 0, 1) := by decide +kernel
theorem dX8_ground_75 : decode cX8_ground 75 = .ok (.istore_n 3, 1) := by decide +kernel
theorem dX8_ground_76 : decode cX8_ground 76 = .ok (.iload_n 3, 1) := by decide +kernel
theorem dX8_ground_77 : decode cX8_ground 77 = .ok (.aload_n 0, 1) := by decide +kernel
theorem dX8_ground_78 : decode cX8_ground 78 = .ok (.getfield 41, 3) := by decide +kernel
theorem dX8_ground_81 : decode cX8_ground 81 = .ok (.arraylength, 1) := by decide +kernel
theorem dX8_ground_82 : decode cX8_ground 82 = .ok (.if_icmp .ge 18, 3) := by decide +kernel
theorem dX8_ground_85 : decode cX8_ground 85 = .ok (.aload_n 0, 1) := by decide +kernel
theorem dX8_ground_86 : decode cX8_ground 86 = .ok (.getfield 41, 3) := by decide +kernel
theorem dX8_ground_89 : decode cX8_ground 89 = .ok (.iload_n 3, 1) := by decide +kernel
theorem dX8_ground_90 : decode cX8_ground 90 = .ok (.aaload, 1) := by decide +kernel
theorem dX8_ground_91 : decode cX8_ground 91 = .ok (.invokevirtual 161, 3) := by decide +kernel
theorem dX8_ground_94 : decode cX8_ground 94 = .ok (.iinc 3 1, 3) := by decide +kernel
theorem dX8_ground_97 : decode cX8_ground 97 = .ok (.goto (-21), 3) := by decide +kernel
theorem dX8_ground_100 : decode cX8_ground 100 = .ok (.aload_n 0, 1) := by decide +kernel
theorem dX8_ground_101 : decode cX8_ground 101 = .ok (.getfield 28, 3) := by decide +kernel
theorem dX8_ground_104 : decode cX8_ground 104 = .ok (.getfield 164, 3) := by decide +kernel
theorem dX8_ground_107 : decode cX8_ground 107 = .ok (.ireturn, 1) := by decide +kernel
theorem dX8_cell_0 : decode cX8_cell 0 = .ok (.aload_n 0, 1) := by decide +kernel
theorem dX8_cell_1 : decode cX8_cell 1 = .ok (.getfield 28, 3) := by decide +kernel
theorem dX8_cell_4 : decode cX8_cell 4 = .ok (.iload_n 1, 1) := by decide +kernel
theorem dX8_cell_5 : decode cX8_cell 5 = .ok (.invokevirtual 167, 3) := by decide +kernel
theorem dX8_cell_8 : decode cX8_cell 8 = .ok (.ifCond .eq 12, 3) := by decide +kernel
theorem dX8_cell_11 : decode cX8_cell 11 = .ok (.iload_n 2, 1) := by decide +kernel
theorem dX8_cell_12 : decode cX8_cell 12 = .ok (.ifCond .lt 8, 3) := by decide +kernel
theorem dX8_cell_15 : decode cX8_cell 15 = .ok (.iload_n 2, 1) := by decide +kernel
theorem dX8_cell_16 : decode cX8_cell 16 = .ok (.iconst 3, 1) := by decide +kernel
theorem dX8_cell_17 : decode cX8_cell 17 = .ok (.if_icmp .lt 5, 3) := by decide +kernel
theorem dX8_cell_20 : decode cX8_cell 20 = .ok (.iconst (-1), 1) := by decide +kernel
theorem dX8_cell_21 : decode cX8_cell 21 = .ok (.ireturn, 1) := by decide +kernel
theorem dX8_cell_22 : decode cX8_cell 22 = .ok (.aload_n 0, 1) := by decide +kernel
theorem dX8_cell_23 : decode cX8_cell 23 = .ok (.aload_n 0, 1) := by decide +kernel
theorem dX8_cell_24 : decode cX8_cell 24 = .ok (.iload_n 1, 1) := by decide +kernel
theorem dX8_cell_25 : decode cX8_cell 25 = .ok (.iload_n 2, 1) := by decide +kernel
theorem dX8_cell_26 : decode cX8_cell 26 = .ok (.invokevirtual 171, 3) := by decide +kernel
theorem dX8_cell_29 : decode cX8_cell 29 = .ok (.invokevirtual 115, 3) := by decide +kernel
theorem dX8_cell_32 : decode cX8_cell 32 = .ok (.ireturn, 1) := by decide +kernel
theorem dX8_law_0 : decode cX8_law 0 = .ok (.aload_n 0, 1) := by decide +kernel
theorem dX8_law_1 : decode cX8_law 1 = .ok (.iload_n 1, 1) := by decide +kernel
theorem dX8_law_2 : decode cX8_law 2 = .ok (.invokevirtual 175, 3) := by decide +kernel
theorem dX8_law_5 : decode cX8_law 5 = .ok (.astore_n 2, 1) := by decide +kernel
theorem dX8_law_6 : decode cX8_law 6 = .ok (.aload_n 2, 1) := by decide +kernel
theorem dX8_law_7 : decode cX8_law 7 = .ok (.ifnonnull 7, 3) := by decide +kernel
theorem dX8_law_10 : decode cX8_law 10 = .ok (.iconst (-1), 1) := by decide +kernel
theorem dX8_law_11 : decode cX8_law 11 = .ok (.goto 7, 3) := by decide +kernel
theorem dX8_law_14 : decode cX8_law 14 = .ok (.aload_n 2, 1) := by decide +kernel
theorem dX8_law_15 : decode cX8_law 15 = .ok (.getfield 179, 3) := by decide +kernel
theorem dX8_law_18 : decode cX8_law 18 = .ok (.ireturn, 1) := by decide +kernel
theorem dX8_mark_0 : decode cX8_mark 0 = .ok (.aload_n 0, 1) := by decide +kernel
theorem dX8_mark_1 : decode cX8_mark 1 = .ok (.iload_n 1, 1) := by decide +kernel
theorem dX8_mark_2 : decode cX8_mark 2 = .ok (.invokevirtual 175, 3) := by decide +kernel
theorem dX8_mark_5 : decode cX8_mark 5 = .ok (.astore_n 3, 1) := by decide +kernel
theorem dX8_mark_6 : decode cX8_mark 6 = .ok (.aload_n 3, 1) := by decide +kernel
theorem dX8_mark_7 : decode cX8_mark 7 = .ok (.ifnull 15, 3) := by decide +kernel
theorem dX8_mark_10 : decode cX8_mark 10 = .ok (.iload_n 2, 1) := by decide +kernel
theorem dX8_mark_11 : decode cX8_mark 11 = .ok (.ifCond .le 11, 3) := by decide +kernel
theorem dX8_mark_14 : decode cX8_mark 14 = .ok (.iload_n 2, 1) := by decide +kernel
theorem dX8_mark_15 : decode cX8_mark 15 = .ok (.getstatic 45, 3) := by decide +kernel
theorem dX8_mark_18 : decode cX8_mark 18 = .ok (.arraylength, 1) := by decide +kernel
theorem dX8_mark_19 : decode cX8_mark 19 = .ok (.if_icmp .lt 5, 3) := by decide +kernel
theorem dX8_mark_22 : decode cX8_mark 22 = .ok (.iconst (-1), 1) := by decide +kernel
theorem dX8_mark_23 : decode cX8_mark 23 = .ok (.ireturn, 1) := by decide +kernel
theorem dX8_mark_24 : decode cX8_mark 24 = .ok (.aload_n 3, 1) := by decide +kernel
theorem dX8_mark_25 : decode cX8_mark 25 = .ok (.iload_n 2, 1) := by decide +kernel
theorem dX8_mark_26 : decode cX8_mark 26 = .ok (.invokevirtual 182, 3) := by decide +kernel
theorem dX8_mark_29 : decode cX8_mark 29 = .ok (.ifCond .eq 15, 3) := by decide +kernel
theorem dX8_mark_32 : decode cX8_mark 32 = .ok (.aload_n 3, 1) := by decide +kernel
theorem dX8_mark_33 : decode cX8_mark 33 = .ok (.iload_n 2, 1) := by decide +kernel
theorem dX8_mark_34 : decode cX8_mark 34 = .ok (.aload_n 0, 1) := by decide +kernel
theorem dX8_mark_35 : decode cX8_mark 35 = .ok (.getfield 37, 3) := by decide +kernel
theorem dX8_mark_38 : decode cX8_mark 38 = .ok (.invokevirtual 185, 3) := by decide +kernel
theorem dX8_mark_41 : decode cX8_mark 41 = .ok (.goto 8, 3) := by decide +kernel
theorem dX8_mark_44 : decode cX8_mark 44 = .ok (.aload_n 0, 1) := by decide +kernel
theorem dX8_mark_45 : decode cX8_mark 45 = .ok (.iconst 3, 1) := by decide +kernel
theorem dX8_mark_46 : decode cX8_mark 46 = .ok (.invokevirtual 100, 3) := by decide +kernel
theorem dX8_mark_49 : decode cX8_mark 49 = .ok (.ireturn, 1) := by decide +kernel
theorem dX8_hole_0 : decode cX8_hole 0 = .ok (.aload_n 0, 1) := by decide +kernel
theorem dX8_hole_1 : decode cX8_hole 1 = .ok (.getfield 37, 3) := by decide +kernel
theorem dX8_hole_4 : decode cX8_hole 4 = .ok (.iload_n 1, 1) := by decide +kernel
theorem dX8_hole_5 : decode cX8_hole 5 = .ok (.invokevirtual 189, 3) := by decide +kernel
theorem dX8_hole_8 : decode cX8_hole 8 = .ok (.ifCond .eq 12, 3) := by decide +kernel
theorem dX8_hole_11 : decode cX8_hole 11 = .ok (.iload_n 2, 1) := by decide +kernel
theorem dX8_hole_12 : decode cX8_hole 12 = .ok (.ifCond .lt 8, 3) := by decide +kernel
theorem dX8_hole_15 : decode cX8_hole 15 = .ok (.iload_n 2, 1) := by decide +kernel
theorem dX8_hole_16 : decode cX8_hole 16 = .ok (.iconst 5, 1) := by decide +kernel
theorem dX8_hole_17 : decode cX8_hole 17 = .ok (.if_icmp .lt 5, 3) := by decide +kernel
theorem dX8_hole_20 : decode cX8_hole 20 = .ok (.iconst (-1), 1) := by decide +kernel
theorem dX8_hole_21 : decode cX8_hole 21 = .ok (.ireturn, 1) := by decide +kernel
theorem dX8_hole_22 : decode cX8_hole 22 = .ok (.aload_n 0, 1) := by decide +kernel
theorem dX8_hole_23 : decode cX8_hole 23 = .ok (.aload_n 0, 1) := by decide +kernel
theorem dX8_hole_24 : decode cX8_hole 24 = .ok (.getfield 37, 3) := by decide +kernel
theorem dX8_hole_27 : decode cX8_hole 27 = .ok (.iload_n 1, 1) := by decide +kernel
theorem dX8_hole_28 : decode cX8_hole 28 = .ok (.iload_n 2, 1) := by decide +kernel
theorem dX8_hole_29 : decode cX8_hole 29 = .ok (.invokevirtual 190, 3) := by decide +kernel
theorem dX8_hole_32 : decode cX8_hole 32 = .ok (.invokevirtual 115, 3) := by decide +kernel
theorem dX8_hole_35 : decode cX8_hole 35 = .ok (.ireturn, 1) := by decide +kernel
theorem dX8_dig_0 : decode cX8_dig 0 = .ok (.aload_n 0, 1) := by decide +kernel
theorem dX8_dig_1 : decode cX8_dig 1 = .ok (.getfield 28, 3) := by decide +kernel
theorem dX8_dig_4 : decode cX8_dig 4 = .ok (.iload_n 1, 1) := by decide +kernel
theorem dX8_dig_5 : decode cX8_dig 5 = .ok (.invokevirtual 167, 3) := by decide +kernel
theorem dX8_dig_8 : decode cX8_dig 8 = .ok (.ifCond .ne 5, 3) := by decide +kernel
theorem dX8_dig_11 : decode cX8_dig 11 = .ok (.iconst (-1), 1) := by decide +kernel
theorem dX8_dig_12 : decode cX8_dig 12 = .ok (.ireturn, 1) := by decide +kernel
theorem dX8_dig_13 : decode cX8_dig 13 = .ok (.aload_n 0, 1) := by decide +kernel
theorem dX8_dig_14 : decode cX8_dig 14 = .ok (.getfield 37, 3) := by decide +kernel
theorem dX8_dig_17 : decode cX8_dig 17 = .ok (.iload_n 1, 1) := by decide +kernel
theorem dX8_dig_18 : decode cX8_dig 18 = .ok (.iconst 1, 1) := by decide +kernel
theorem dX8_dig_19 : decode cX8_dig 19 = .ok (.invokevirtual 193, 3) := by decide +kernel
theorem dX8_dig_22 : decode cX8_dig 22 = .ok (.ifCond .ne 6, 3) := by decide +kernel
theorem dX8_dig_25 : decode cX8_dig 25 = .ok (.bipush (-4), 2) := by decide +kernel
theorem dX8_dig_27 : decode cX8_dig 27 = .ok (.ireturn, 1) := by decide +kernel
theorem dX8_dig_28 : decode cX8_dig 28 = .ok (.aload_n 0, 1) := by decide +kernel
theorem dX8_dig_29 : decode cX8_dig 29 = .ok (.getfield 61, 3) := by decide +kernel
theorem dX8_dig_32 : decode cX8_dig 32 = .ok (.invokevirtual 196, 3) := by decide +kernel
theorem dX8_dig_35 : decode cX8_dig 35 = .ok (.ifCond .eq 6, 3) := by decide +kernel
theorem dX8_dig_38 : decode cX8_dig 38 = .ok (.bipush (-2), 2) := by decide +kernel
theorem dX8_dig_40 : decode cX8_dig 40 = .ok (.ireturn, 1) := by decide +kernel
theorem dX8_dig_41 : decode cX8_dig 41 = .ok (.aload_n 0, 1) := by decide +kernel
theorem dX8_dig_42 : decode cX8_dig 42 = .ok (.getfield 61, 3) := by decide +kernel
theorem dX8_dig_45 : decode cX8_dig 45 = .ok (.aload_n 0, 1) := by decide +kernel
theorem dX8_dig_46 : decode cX8_dig 46 = .ok (.getfield 37, 3) := by decide +kernel
theorem dX8_dig_49 : decode cX8_dig 49 = .ok (.iconst 1, 1) := by decide +kernel
theorem dX8_dig_50 : decode cX8_dig 50 = .ok (.iload_n 1, 1) := by decide +kernel
theorem dX8_dig_51 : decode cX8_dig 51 = .ok (.ishl, 1) := by decide +kernel
theorem dX8_dig_52 : decode cX8_dig 52 = .ok (.iconst 1, 1) := by decide +kernel
theorem dX8_dig_53 : decode cX8_dig 53 = .ok (.iconst 1, 1) := by decide +kernel
theorem dX8_dig_54 : decode cX8_dig 54 = .ok (.invokevirtual 199, 3) := by decide +kernel
theorem dX8_dig_57 : decode cX8_dig 57 = .ok (.aload_n 0, 1) := by decide +kernel
theorem dX8_dig_58 : decode cX8_dig 58 = .ok (.getfield 37, 3) := by decide +kernel
theorem dX8_dig_61 : decode cX8_dig 61 = .ok (.iload_n 1, 1) := by decide +kernel
theorem dX8_dig_62 : decode cX8_dig 62 = .ok (.invokevirtual 203, 3) := by decide +kernel
theorem dX8_dig_65 : decode cX8_dig 65 = .ok (.ireturn, 1) := by decide +kernel
theorem dX8_fill_0 : decode cX8_fill 0 = .ok (.aload_n 0, 1) := by decide +kernel
theorem dX8_fill_1 : decode cX8_fill 1 = .ok (.getfield 28, 3) := by decide +kernel
theorem dX8_fill_4 : decode cX8_fill 4 = .ok (.iload_n 1, 1) := by decide +kernel
theorem dX8_fill_5 : decode cX8_fill 5 = .ok (.invokevirtual 167, 3) := by decide +kernel
theorem dX8_fill_8 : decode cX8_fill 8 = .ok (.ifCond .ne 5, 3) := by decide +kernel
theorem dX8_fill_11 : decode cX8_fill 11 = .ok (.iconst (-1), 1) := by decide +kernel
theorem dX8_fill_12 : decode cX8_fill 12 = .ok (.ireturn, 1) := by decide +kernel
theorem dX8_fill_13 : decode cX8_fill 13 = .ok (.aload_n 0, 1) := by decide +kernel
theorem dX8_fill_14 : decode cX8_fill 14 = .ok (.getfield 37, 3) := by decide +kernel
theorem dX8_fill_17 : decode cX8_fill 17 = .ok (.iload_n 1, 1) := by decide +kernel
theorem dX8_fill_18 : decode cX8_fill 18 = .ok (.iconst (-1), 1) := by decide +kernel
theorem dX8_fill_19 : decode cX8_fill 19 = .ok (.invokevirtual 193, 3) := by decide +kernel
theorem dX8_fill_22 : decode cX8_fill 22 = .ok (.ifCond .eq 13, 3) := by decide +kernel
theorem dX8_fill_25 : decode cX8_fill 25 = .ok (.aload_n 0, 1) := by decide +kernel
theorem dX8_fill_26 : decode cX8_fill 26 = .ok (.getfield 37, 3) := by decide +kernel
theorem dX8_fill_29 : decode cX8_fill 29 = .ok (.getfield 206, 3) := by decide +kernel
theorem dX8_fill_32 : decode cX8_fill 32 = .ok (.ifCond .gt 6, 3) := by decide +kernel
theorem dX8_fill_35 : decode cX8_fill 35 = .ok (.bipush (-4), 2) := by decide +kernel
theorem dX8_fill_37 : decode cX8_fill 37 = .ok (.ireturn, 1) := by decide +kernel
theorem dX8_fill_38 : decode cX8_fill 38 = .ok (.aload_n 0, 1) := by decide +kernel
theorem dX8_fill_39 : decode cX8_fill 39 = .ok (.getfield 61, 3) := by decide +kernel
theorem dX8_fill_42 : decode cX8_fill 42 = .ok (.invokevirtual 196, 3) := by decide +kernel
theorem dX8_fill_45 : decode cX8_fill 45 = .ok (.ifCond .eq 6, 3) := by decide +kernel
theorem dX8_fill_48 : decode cX8_fill 48 = .ok (.bipush (-2), 2) := by decide +kernel
theorem dX8_fill_50 : decode cX8_fill 50 = .ok (.ireturn, 1) := by decide +kernel
theorem dX8_fill_51 : decode cX8_fill 51 = .ok (.aload_n 0, 1) := by decide +kernel
theorem dX8_fill_52 : decode cX8_fill 52 = .ok (.getfield 61, 3) := by decide +kernel
theorem dX8_fill_55 : decode cX8_fill 55 = .ok (.aload_n 0, 1) := by decide +kernel
theorem dX8_fill_56 : decode cX8_fill 56 = .ok (.getfield 37, 3) := by decide +kernel
theorem dX8_fill_59 : decode cX8_fill 59 = .ok (.iconst 1, 1) := by decide +kernel
theorem dX8_fill_60 : decode cX8_fill 60 = .ok (.iload_n 1, 1) := by decide +kernel
theorem dX8_fill_61 : decode cX8_fill 61 = .ok (.ishl, 1) := by decide +kernel
theorem dX8_fill_62 : decode cX8_fill 62 = .ok (.iconst (-1), 1) := by decide +kernel
theorem dX8_fill_63 : decode cX8_fill 63 = .ok (.iconst (-1), 1) := by decide +kernel
theorem dX8_fill_64 : decode cX8_fill 64 = .ok (.invokevirtual 199, 3) := by decide +kernel
theorem dX8_fill_67 : decode cX8_fill 67 = .ok (.aload_n 0, 1) := by decide +kernel
theorem dX8_fill_68 : decode cX8_fill 68 = .ok (.getfield 37, 3) := by decide +kernel
theorem dX8_fill_71 : decode cX8_fill 71 = .ok (.iload_n 1, 1) := by decide +kernel
theorem dX8_fill_72 : decode cX8_fill 72 = .ok (.invokevirtual 203, 3) := by decide +kernel
theorem dX8_fill_75 : decode cX8_fill 75 = .ok (.ireturn, 1) := by decide +kernel
theorem dX8_rain_0 : decode cX8_rain 0 = .ok (.iload_n 1, 1) := by decide +kernel
theorem dX8_rain_1 : decode cX8_rain 1 = .ok (.ifCond .lt 20, 3) := by decide +kernel
theorem dX8_rain_4 : decode cX8_rain 4 = .ok (.iload_n 1, 1) := by decide +kernel
theorem dX8_rain_5 : decode cX8_rain 5 = .ok (.bipush 12, 2) := by decide +kernel
theorem dX8_rain_7 : decode cX8_rain 7 = .ok (.if_icmp .gt 14, 3) := by decide +kernel
theorem dX8_rain_10 : decode cX8_rain 10 = .ok (.iload_n 2, 1) := by decide +kernel
theorem dX8_rain_11 : decode cX8_rain 11 = .ok (.iconst 1, 1) := by decide +kernel
theorem dX8_rain_12 : decode cX8_rain 12 = .ok (.if_icmp .lt 9, 3) := by decide +kernel
theorem dX8_rain_15 : decode cX8_rain 15 = .ok (.iload_n 2, 1) := by decide +kernel
theorem dX8_rain_16 : decode cX8_rain 16 = .ok (.ldc 209, 2) := by decide +kernel
theorem dX8_rain_18 : decode cX8_rain 18 = .ok (.if_icmp .lt 5, 3) := by decide +kernel
theorem dX8_rain_21 : decode cX8_rain 21 = .ok (.iconst (-1), 1) := by decide +kernel
theorem dX8_rain_22 : decode cX8_rain 22 = .ok (.ireturn, 1) := by decide +kernel
theorem dX8_rain_23 : decode cX8_rain 23 = .ok (.aload_n 0, 1) := by decide +kernel
theorem dX8_rain_24 : decode cX8_rain 24 = .ok (.getfield 37, 3) := by decide +kernel
theorem dX8_rain_27 : decode cX8_rain 27 = .ok (.getfield 210, 3) := by decide +kernel
theorem dX8_rain_30 : decode cX8_rain 30 = .ok (.ifCond .ne 6, 3) := by decide +kernel
theorem dX8_rain_33 : decode cX8_rain 33 = .ok (.bipush (-4), 2) := by decide +kernel
theorem dX8_rain_35 : decode cX8_rain 35 = .ok (.ireturn, 1) := by decide +kernel
theorem dX8_rain_36 : decode cX8_rain 36 = .ok (.aload_n 0, 1) := by decide +kernel
theorem dX8_rain_37 : decode cX8_rain 37 = .ok (.getfield 61, 3) := by decide +kernel
theorem dX8_rain_40 : decode cX8_rain 40 = .ok (.invokevirtual 196, 3) := by decide +kernel
theorem dX8_rain_43 : decode cX8_rain 43 = .ok (.ifCond .eq 6, 3) := by decide +kernel
theorem dX8_rain_46 : decode cX8_rain 46 = .ok (.bipush (-2), 2) := by decide +kernel
theorem dX8_rain_48 : decode cX8_rain 48 = .ok (.ireturn, 1) := by decide +kernel
theorem dX8_rain_49 : decode cX8_rain 49 = .ok (.aload_n 0, 1) := by decide +kernel
theorem dX8_rain_50 : decode cX8_rain 50 = .ok (.getfield 61, 3) := by decide +kernel
theorem dX8_rain_53 : decode cX8_rain 53 = .ok (.aload_n 0, 1) := by decide +kernel
theorem dX8_rain_54 : decode cX8_rain 54 = .ok (.getfield 37, 3) := by decide +kernel
theorem dX8_rain_57 : decode cX8_rain 57 = .ok (.aload_n 0, 1) := by decide +kernel
theorem dX8_rain_58 : decode cX8_rain 58 = .ok (.iload_n 1, 1) := by decide +kernel
theorem dX8_rain_59 : decode cX8_rain 59 = .ok (.iload_n 2, 1) := by decide +kernel
theorem dX8_rain_60 : decode cX8_rain 60 = .ok (.invokevirtual 214, 3) := by decide +kernel
theorem dX8_rain_63 : decode cX8_rain 63 = .ok (.iconst (-1), 1) := by decide +kernel
theorem dX8_rain_64 : decode cX8_rain 64 = .ok (.iconst 0, 1) := by decide +kernel
theorem dX8_rain_65 : decode cX8_rain 65 = .ok (.invokevirtual 199, 3) := by decide +kernel
theorem dX8_rain_68 : decode cX8_rain 68 = .ok (.aload_n 0, 1) := by decide +kernel
theorem dX8_rain_69 : decode cX8_rain 69 = .ok (.getfield 37, 3) := by decide +kernel
theorem dX8_rain_72 : decode cX8_rain 72 = .ok (.getfield 217, 3) := by decide +kernel
theorem dX8_rain_75 : decode cX8_rain 75 = .ok (.ireturn, 1) := by decide +kernel
theorem dX8_undo_0 : decode cX8_undo 0 = .ok (.iload_n 1, 1) := by decide +kernel
theorem dX8_undo_1 : decode cX8_undo 1 = .ok (.ifCond .lt 14, 3) := by decide +kernel
theorem dX8_undo_4 : decode cX8_undo 4 = .ok (.iload_n 1, 1) := by decide +kernel
theorem dX8_undo_5 : decode cX8_undo 5 = .ok (.aload_n 0, 1) := by decide +kernel
theorem dX8_undo_6 : decode cX8_undo 6 = .ok (.getfield 61, 3) := by decide +kernel
theorem dX8_undo_9 : decode cX8_undo 9 = .ok (.invokevirtual 220, 3) := by decide +kernel
theorem dX8_undo_12 : decode cX8_undo 12 = .ok (.if_icmp .le 5, 3) := by decide +kernel
theorem dX8_undo_15 : decode cX8_undo 15 = .ok (.iconst (-1), 1) := by decide +kernel
theorem dX8_undo_16 : decode cX8_undo 16 = .ok (.ireturn, 1) := by decide +kernel
theorem dX8_undo_17 : decode cX8_undo 17 = .ok (.aload_n 0, 1) := by decide +kernel
theorem dX8_undo_18 : decode cX8_undo 18 = .ok (.getfield 61, 3) := by decide +kernel
theorem dX8_undo_21 : decode cX8_undo 21 = .ok (.aload_n 0, 1) := by decide +kernel
theorem dX8_undo_22 : decode cX8_undo 22 = .ok (.getfield 37, 3) := by decide +kernel
theorem dX8_undo_25 : decode cX8_undo 25 = .ok (.iload_n 1, 1) := by decide +kernel
theorem dX8_undo_26 : decode cX8_undo 26 = .ok (.invokevirtual 221, 3) := by decide +kernel
theorem dX8_undo_29 : decode cX8_undo 29 = .ok (.ireturn, 1) := by decide +kernel
theorem dX8_image_0 : decode cX8_image 0 = .ok (.aload_n 0, 1) := by decide +kernel
theorem dX8_image_1 : decode cX8_image 1 = .ok (.iload_n 1, 1) := by decide +kernel
theorem dX8_image_2 : decode cX8_image 2 = .ok (.invokevirtual 225, 3) := by decide +kernel
theorem dX8_image_5 : decode cX8_image 5 = .ok (.astore_n 2, 1) := by decide +kernel
theorem dX8_image_6 : decode cX8_image 6 = .ok (.aload_n 2, 1) := by decide +kernel
theorem dX8_image_7 : decode cX8_image 7 = .ok (.ifnonnull 5, 3) := by decide +kernel
theorem dX8_image_10 : decode cX8_image 10 = .ok (.iconst (-1), 1) := by decide +kernel
theorem dX8_image_11 : decode cX8_image 11 = .ok (.ireturn, 1) := by decide +kernel
theorem dX8_image_12 : decode cX8_image 12 = .ok (.aload_n 0, 1) := by decide +kernel
theorem dX8_image_13 : decode cX8_image 13 = .ok (.getfield 37, 3) := by decide +kernel
theorem dX8_image_16 : decode cX8_image 16 = .ok (.getfield 210, 3) := by decide +kernel
theorem dX8_image_19 : decode cX8_image 19 = .ok (.ifCond .ne 6, 3) := by decide +kernel
theorem dX8_image_22 : decode cX8_image 22 = .ok (.bipush (-4), 2) := by decide +kernel
theorem dX8_image_24 : decode cX8_image 24 = .ok (.ireturn, 1) := by decide +kernel
theorem dX8_image_25 : decode cX8_image 25 = .ok (.aload_n 2, 1) := by decide +kernel
theorem dX8_image_26 : decode cX8_image 26 = .ok (.aload_n 0, 1) := by decide +kernel
theorem dX8_image_27 : decode cX8_image 27 = .ok (.getfield 37, 3) := by decide +kernel
theorem dX8_image_30 : decode cX8_image 30 = .ok (.invokevirtual 229, 3) := by decide +kernel
theorem dX8_image_33 : decode cX8_image 33 = .ok (.aload_n 2, 1) := by decide +kernel
theorem dX8_image_34 : decode cX8_image 34 = .ok (.getfield 217, 3) := by decide +kernel
theorem dX8_image_37 : decode cX8_image 37 = .ok (.ireturn, 1) := by decide +kernel
theorem dX8_on_0 : decode cX8_on 0 = .ok (.aload_n 0, 1) := by decide +kernel
theorem dX8_on_1 : decode cX8_on 1 = .ok (.iload_n 1, 1) := by decide +kernel
theorem dX8_on_2 : decode cX8_on 2 = .ok (.invokevirtual 225, 3) := by decide +kernel
theorem dX8_on_5 : decode cX8_on 5 = .ok (.astore_n 2, 1) := by decide +kernel
theorem dX8_on_6 : decode cX8_on 6 = .ok (.aload_n 2, 1) := by decide +kernel
theorem dX8_on_7 : decode cX8_on 7 = .ok (.ifnonnull 5, 3) := by decide +kernel
theorem dX8_on_10 : decode cX8_on 10 = .ok (.iconst (-1), 1) := by decide +kernel
theorem dX8_on_11 : decode cX8_on 11 = .ok (.ireturn, 1) := by decide +kernel
theorem dX8_on_12 : decode cX8_on 12 = .ok (.aload_n 2, 1) := by decide +kernel
theorem dX8_on_13 : decode cX8_on 13 = .ok (.getfield 210, 3) := by decide +kernel
theorem dX8_on_16 : decode cX8_on 16 = .ok (.ifCond .ne 9, 3) := by decide +kernel
theorem dX8_on_19 : decode cX8_on 19 = .ok (.aload_n 0, 1) := by decide +kernel
theorem dX8_on_20 : decode cX8_on 20 = .ok (.iconst 1, 1) := by decide +kernel
theorem dX8_on_21 : decode cX8_on 21 = .ok (.invokevirtual 100, 3) := by decide +kernel
theorem dX8_on_24 : decode cX8_on 24 = .ok (.ireturn, 1) := by decide +kernel
theorem dX8_on_25 : decode cX8_on 25 = .ok (.aload_n 0, 1) := by decide +kernel
theorem dX8_on_26 : decode cX8_on 26 = .ok (.getfield 37, 3) := by decide +kernel
theorem dX8_on_29 : decode cX8_on 29 = .ok (.aload_n 2, 1) := by decide +kernel
theorem dX8_on_30 : decode cX8_on 30 = .ok (.invokevirtual 229, 3) := by decide +kernel
theorem dX8_on_33 : decode cX8_on 33 = .ok (.aload_n 0, 1) := by decide +kernel
theorem dX8_on_34 : decode cX8_on 34 = .ok (.getfield 61, 3) := by decide +kernel
theorem dX8_on_37 : decode cX8_on 37 = .ok (.invokevirtual 158, 3) := by decide +kernel
theorem dX8_on_40 : decode cX8_on 40 = .ok (.aload_n 0, 1) := by decide +kernel
theorem dX8_on_41 : decode cX8_on 41 = .ok (.getfield 37, 3) := by decide +kernel
theorem dX8_on_44 : decode cX8_on 44 = .ok (.getfield 217, 3) := by decide +kernel
theorem dX8_on_47 : decode cX8_on 47 = .ok (.ireturn, 1) := by decide +kernel
theorem dX8_then_0 : decode cX8_then 0 = .ok (.aload_n 0, 1) := by decide +kernel
theorem dX8_then_1 : decode cX8_then 1 = .ok (.iload_n 1, 1) := by decide +kernel
theorem dX8_then_2 : decode cX8_then 2 = .ok (.invokevirtual 225, 3) := by decide +kernel
theorem dX8_then_5 : decode cX8_then 5 = .ok (.astore 4, 2) := by decide +kernel
theorem dX8_then_7 : decode cX8_then 7 = .ok (.aload 4, 2) := by decide +kernel
theorem dX8_then_9 : decode cX8_then 9 = .ok (.ifnull 12, 3) := by decide +kernel
theorem dX8_then_12 : decode cX8_then 12 = .ok (.iload_n 3, 1) := by decide +kernel
theorem dX8_then_13 : decode cX8_then 13 = .ok (.ifCond .lt 8, 3) := by decide +kernel
theorem dX8_then_16 : decode cX8_then 16 = .ok (.iload_n 3, 1) := by decide +kernel
theorem dX8_then_17 : decode cX8_then 17 = .ok (.iconst 5, 1) := by decide +kernel
theorem dX8_then_18 : decode cX8_then 18 = .ok (.if_icmp .lt 5, 3) := by decide +kernel
theorem dX8_then_21 : decode cX8_then 21 = .ok (.iconst (-1), 1) := by decide +kernel
theorem dX8_then_22 : decode cX8_then 22 = .ok (.ireturn, 1) := by decide +kernel
theorem dX8_then_23 : decode cX8_then 23 = .ok (.aload 4, 2) := by decide +kernel
theorem dX8_then_25 : decode cX8_then 25 = .ok (.getfield 210, 3) := by decide +kernel
theorem dX8_then_28 : decode cX8_then 28 = .ok (.ifCond .ne 9, 3) := by decide +kernel
theorem dX8_then_31 : decode cX8_then 31 = .ok (.aload_n 0, 1) := by decide +kernel
theorem dX8_then_32 : decode cX8_then 32 = .ok (.iconst 1, 1) := by decide +kernel
theorem dX8_then_33 : decode cX8_then 33 = .ok (.invokevirtual 100, 3) := by decide +kernel
theorem dX8_then_36 : decode cX8_then 36 = .ok (.ireturn, 1) := by decide +kernel
theorem dX8_then_37 : decode cX8_then 37 = .ok (.aload 4, 2) := by decide +kernel
theorem dX8_then_39 : decode cX8_then 39 = .ok (.iload_n 2, 1) := by decide +kernel
theorem dX8_then_40 : decode cX8_then 40 = .ok (.invokevirtual 189, 3) := by decide +kernel
theorem dX8_then_43 : decode cX8_then 43 = .ok (.ifCond .ne 5, 3) := by decide +kernel
theorem dX8_then_46 : decode cX8_then 46 = .ok (.iconst (-1), 1) := by decide +kernel
theorem dX8_then_47 : decode cX8_then 47 = .ok (.ireturn, 1) := by decide +kernel
theorem dX8_then_48 : decode cX8_then 48 = .ok (.aload_n 0, 1) := by decide +kernel
theorem dX8_then_49 : decode cX8_then 49 = .ok (.aload 4, 2) := by decide +kernel
theorem dX8_then_51 : decode cX8_then 51 = .ok (.iload_n 2, 1) := by decide +kernel
theorem dX8_then_52 : decode cX8_then 52 = .ok (.iload_n 3, 1) := by decide +kernel
theorem dX8_then_53 : decode cX8_then 53 = .ok (.invokevirtual 190, 3) := by decide +kernel
theorem dX8_then_56 : decode cX8_then 56 = .ok (.invokevirtual 115, 3) := by decide +kernel
theorem dX8_then_59 : decode cX8_then 59 = .ok (.ireturn, 1) := by decide +kernel
theorem dX8_same_0 : decode cX8_same 0 = .ok (.aload_n 0, 1) := by decide +kernel
theorem dX8_same_1 : decode cX8_same 1 = .ok (.iload_n 1, 1) := by decide +kernel
theorem dX8_same_2 : decode cX8_same 2 = .ok (.invokevirtual 175, 3) := by decide +kernel
theorem dX8_same_5 : decode cX8_same 5 = .ok (.astore 5, 2) := by decide +kernel
theorem dX8_same_7 : decode cX8_same 7 = .ok (.aload_n 0, 1) := by decide +kernel
theorem dX8_same_8 : decode cX8_same 8 = .ok (.iload_n 2, 1) := by decide +kernel
theorem dX8_same_9 : decode cX8_same 9 = .ok (.invokevirtual 225, 3) := by decide +kernel
theorem dX8_same_12 : decode cX8_same 12 = .ok (.astore 6, 2) := by decide +kernel
theorem dX8_same_14 : decode cX8_same 14 = .ok (.aload 5, 2) := by decide +kernel
theorem dX8_same_16 : decode cX8_same 16 = .ok (.ifnull 8, 3) := by decide +kernel
theorem dX8_same_19 : decode cX8_same 19 = .ok (.aload 6, 2) := by decide +kernel
theorem dX8_same_21 : decode cX8_same 21 = .ok (.ifnonnull 5, 3) := by decide +kernel
theorem dX8_same_24 : decode cX8_same 24 = .ok (.iconst (-1), 1) := by decide +kernel
theorem dX8_same_25 : decode cX8_same 25 = .ok (.ireturn, 1) := by decide +kernel
theorem dX8_same_26 : decode cX8_same 26 = .ok (.aload 6, 2) := by decide +kernel
theorem dX8_same_28 : decode cX8_same 28 = .ok (.getfield 210, 3) := by decide +kernel
theorem dX8_same_31 : decode cX8_same 31 = .ok (.ifCond .ne 9, 3) := by decide +kernel
theorem dX8_same_34 : decode cX8_same 34 = .ok (.aload_n 0, 1) := by decide +kernel
theorem dX8_same_35 : decode cX8_same 35 = .ok (.iconst 1, 1) := by decide +kernel
theorem dX8_same_36 : decode cX8_same 36 = .ok (.invokevirtual 100, 3) := by decide +kernel
theorem dX8_same_39 : decode cX8_same 39 = .ok (.ireturn, 1) := by decide +kernel
theorem dX8_same_40 : decode cX8_same 40 = .ok (.aload 6, 2) := by decide +kernel
theorem dX8_same_42 : decode cX8_same 42 = .ok (.iload_n 3, 1) := by decide +kernel
theorem dX8_same_43 : decode cX8_same 43 = .ok (.invokevirtual 189, 3) := by decide +kernel
theorem dX8_same_46 : decode cX8_same 46 = .ok (.ifCond .eq 15, 3) := by decide +kernel
theorem dX8_same_49 : decode cX8_same 49 = .ok (.aload_n 0, 1) := by decide +kernel
theorem dX8_same_50 : decode cX8_same 50 = .ok (.getfield 37, 3) := by decide +kernel
theorem dX8_same_53 : decode cX8_same 53 = .ok (.iload 4, 2) := by decide +kernel
theorem dX8_same_55 : decode cX8_same 55 = .ok (.invokevirtual 189, 3) := by decide +kernel
theorem dX8_same_58 : decode cX8_same 58 = .ok (.ifCond .ne 5, 3) := by decide +kernel
theorem dX8_same_61 : decode cX8_same 61 = .ok (.iconst (-1), 1) := by decide +kernel
theorem dX8_same_62 : decode cX8_same 62 = .ok (.ireturn, 1) := by decide +kernel
theorem dX8_same_63 : decode cX8_same 63 = .ok (.aload 5, 2) := by decide +kernel
theorem dX8_same_65 : decode cX8_same 65 = .ok (.aload 6, 2) := by decide +kernel
theorem dX8_same_67 : decode cX8_same 67 = .ok (.iload_n 3, 1) := by decide +kernel
theorem dX8_same_68 : decode cX8_same 68 = .ok (.aload_n 0, 1) := by decide +kernel
theorem dX8_same_69 : decode cX8_same 69 = .ok (.getfield 37, 3) := by decide +kernel
theorem dX8_same_72 : decode cX8_same 72 = .ok (.iload 4, 2) := by decide +kernel
theorem dX8_same_74 : decode cX8_same 74 = .ok (.invokevirtual 233, 3) := by decide +kernel
theorem dX8_same_77 : decode cX8_same 77 = .ok (.ifCond .eq 7, 3) := by decide +kernel
theorem dX8_same_80 : decode cX8_same 80 = .ok (.iconst 1, 1) := by decide +kernel
theorem dX8_same_81 : decode cX8_same 81 = .ok (.goto 4, 3) := by decide +kernel
theorem dX8_same_84 : decode cX8_same 84 = .ok (.iconst 0, 1) := by decide +kernel
theorem dX8_same_85 : decode cX8_same 85 = .ok (.ireturn, 1) := by decide +kernel
theorem dX8_which_0 : decode cX8_which 0 = .ok (.aload_n 0, 1) := by decide +kernel
theorem dX8_which_1 : decode cX8_which 1 = .ok (.iload_n 1, 1) := by decide +kernel
theorem dX8_which_2 : decode cX8_which 2 = .ok (.invokevirtual 175, 3) := by decide +kernel
theorem dX8_which_5 : decode cX8_which 5 = .ok (.astore 4, 2) := by decide +kernel
theorem dX8_which_7 : decode cX8_which 7 = .ok (.aload_n 0, 1) := by decide +kernel
theorem dX8_which_8 : decode cX8_which 8 = .ok (.iload_n 2, 1) := by decide +kernel
theorem dX8_which_9 : decode cX8_which 9 = .ok (.invokevirtual 225, 3) := by decide +kernel
theorem dX8_which_12 : decode cX8_which 12 = .ok (.astore 5, 2) := by decide +kernel
theorem dX8_which_14 : decode cX8_which 14 = .ok (.aload 4, 2) := by decide +kernel
theorem dX8_which_16 : decode cX8_which 16 = .ok (.ifnull 8, 3) := by decide +kernel
theorem dX8_which_19 : decode cX8_which 19 = .ok (.aload 5, 2) := by decide +kernel
theorem dX8_which_21 : decode cX8_which 21 = .ok (.ifnonnull 5, 3) := by decide +kernel
theorem dX8_which_24 : decode cX8_which 24 = .ok (.iconst (-1), 1) := by decide +kernel
theorem dX8_which_25 : decode cX8_which 25 = .ok (.ireturn, 1) := by decide +kernel
theorem dX8_which_26 : decode cX8_which 26 = .ok (.aload 5, 2) := by decide +kernel
theorem dX8_which_28 : decode cX8_which 28 = .ok (.getfield 210, 3) := by decide +kernel
theorem dX8_which_31 : decode cX8_which 31 = .ok (.ifCond .ne 9, 3) := by decide +kernel
theorem dX8_which_34 : decode cX8_which 34 = .ok (.aload_n 0, 1) := by decide +kernel
theorem dX8_which_35 : decode cX8_which 35 = .ok (.iconst 1, 1) := by decide +kernel
theorem dX8_which_36 : decode cX8_which 36 = .ok (.invokevirtual 100, 3) := by decide +kernel
theorem dX8_which_39 : decode cX8_which 39 = .ok (.ireturn, 1) := by decide +kernel
theorem dX8_which_40 : decode cX8_which 40 = .ok (.aload 5, 2) := by decide +kernel
theorem dX8_which_42 : decode cX8_which 42 = .ok (.iload_n 3, 1) := by decide +kernel
theorem dX8_which_43 : decode cX8_which 43 = .ok (.invokevirtual 189, 3) := by decide +kernel
theorem dX8_which_46 : decode cX8_which 46 = .ok (.ifCond .ne 5, 3) := by decide +kernel
theorem dX8_which_49 : decode cX8_which 49 = .ok (.iconst (-1), 1) := by decide +kernel
theorem dX8_which_50 : decode cX8_which 50 = .ok (.ireturn, 1) := by decide +kernel
theorem dX8_which_51 : decode cX8_which 51 = .ok (.aload 4, 2) := by decide +kernel
theorem dX8_which_53 : decode cX8_which 53 = .ok (.aload 5, 2) := by decide +kernel
theorem dX8_which_55 : decode cX8_which 55 = .ok (.iload_n 3, 1) := by decide +kernel
theorem dX8_which_56 : decode cX8_which 56 = .ok (.aload_n 0, 1) := by decide +kernel
theorem dX8_which_57 : decode cX8_which 57 = .ok (.getfield 37, 3) := by decide +kernel
theorem dX8_which_60 : decode cX8_which 60 = .ok (.invokevirtual 237, 3) := by decide +kernel
theorem dX8_which_63 : decode cX8_which 63 = .ok (.ireturn, 1) := by decide +kernel
theorem dX8_doubt_0 : decode cX8_doubt 0 = .ok (.aload_n 0, 1) := by decide +kernel
theorem dX8_doubt_1 : decode cX8_doubt 1 = .ok (.iload_n 1, 1) := by decide +kernel
theorem dX8_doubt_2 : decode cX8_doubt 2 = .ok (.invokevirtual 175, 3) := by decide +kernel
theorem dX8_doubt_5 : decode cX8_doubt 5 = .ok (.astore_n 3, 1) := by decide +kernel
theorem dX8_doubt_6 : decode cX8_doubt 6 = .ok (.aload_n 0, 1) := by decide +kernel
theorem dX8_doubt_7 : decode cX8_doubt 7 = .ok (.iload_n 2, 1) := by decide +kernel
theorem dX8_doubt_8 : decode cX8_doubt 8 = .ok (.invokevirtual 225, 3) := by decide +kernel
theorem dX8_doubt_11 : decode cX8_doubt 11 = .ok (.astore 4, 2) := by decide +kernel
theorem dX8_doubt_13 : decode cX8_doubt 13 = .ok (.aload_n 3, 1) := by decide +kernel
theorem dX8_doubt_14 : decode cX8_doubt 14 = .ok (.ifnull 8, 3) := by decide +kernel
theorem dX8_doubt_17 : decode cX8_doubt 17 = .ok (.aload 4, 2) := by decide +kernel
theorem dX8_doubt_19 : decode cX8_doubt 19 = .ok (.ifnonnull 5, 3) := by decide +kernel
theorem dX8_doubt_22 : decode cX8_doubt 22 = .ok (.iconst (-1), 1) := by decide +kernel
theorem dX8_doubt_23 : decode cX8_doubt 23 = .ok (.ireturn, 1) := by decide +kernel
theorem dX8_doubt_24 : decode cX8_doubt 24 = .ok (.aload 4, 2) := by decide +kernel
theorem dX8_doubt_26 : decode cX8_doubt 26 = .ok (.getfield 210, 3) := by decide +kernel
theorem dX8_doubt_29 : decode cX8_doubt 29 = .ok (.ifCond .ne 9, 3) := by decide +kernel
theorem dX8_doubt_32 : decode cX8_doubt 32 = .ok (.aload_n 0, 1) := by decide +kernel
theorem dX8_doubt_33 : decode cX8_doubt 33 = .ok (.iconst 1, 1) := by decide +kernel
theorem dX8_doubt_34 : decode cX8_doubt 34 = .ok (.invokevirtual 100, 3) := by decide +kernel
theorem dX8_doubt_37 : decode cX8_doubt 37 = .ok (.ireturn, 1) := by decide +kernel
theorem dX8_doubt_38 : decode cX8_doubt 38 = .ok (.iconst 0, 1) := by decide +kernel
theorem dX8_doubt_39 : decode cX8_doubt 39 = .ok (.istore 5, 2) := by decide +kernel
theorem dX8_doubt_41 : decode cX8_doubt 41 = .ok (.iconst 0, 1) := by decide +kernel
theorem dX8_doubt_42 : decode cX8_doubt 42 = .ok (.istore 6, 2) := by decide +kernel
theorem dX8_doubt_44 : decode cX8_doubt 44 = .ok (.iconst 0, 1) := by decide +kernel
theorem dX8_doubt_45 : decode cX8_doubt 45 = .ok (.istore 7, 2) := by decide +kernel
theorem dX8_doubt_47 : decode cX8_doubt 47 = .ok (.iload 7, 2) := by decide +kernel
theorem dX8_doubt_49 : decode cX8_doubt 49 = .ok (.aload 4, 2) := by decide +kernel
theorem dX8_doubt_51 : decode cX8_doubt 51 = .ok (.getfield 217, 3) := by decide +kernel
theorem dX8_doubt_54 : decode cX8_doubt 54 = .ok (.if_icmp .ge 46, 3) := by decide +kernel
theorem dX8_doubt_57 : decode cX8_doubt 57 = .ok (.aload_n 3, 1) := by decide +kernel
theorem dX8_doubt_58 : decode cX8_doubt 58 = .ok (.aload 4, 2) := by decide +kernel
theorem dX8_doubt_60 : decode cX8_doubt 60 = .ok (.iload 7, 2) := by decide +kernel
theorem dX8_doubt_62 : decode cX8_doubt 62 = .ok (.aload_n 0, 1) := by decide +kernel
theorem dX8_doubt_63 : decode cX8_doubt 63 = .ok (.getfield 37, 3) := by decide +kernel
theorem dX8_doubt_66 : decode cX8_doubt 66 = .ok (.invokevirtual 237, 3) := by decide +kernel
theorem dX8_doubt_69 : decode cX8_doubt 69 = .ok (.invokestatic 241, 3) := by decide +kernel
theorem dX8_doubt_72 : decode cX8_doubt 72 = .ok (.istore 8, 2) := by decide +kernel
theorem dX8_doubt_74 : decode cX8_doubt 74 = .ok (.iload 8, 2) := by decide +kernel
theorem dX8_doubt_76 : decode cX8_doubt 76 = .ok (.iconst 1, 1) := by decide +kernel
theorem dX8_doubt_77 : decode cX8_doubt 77 = .ok (.if_icmp .le 9, 3) := by decide +kernel
theorem dX8_doubt_80 : decode cX8_doubt 80 = .ok (.iinc 5 1, 3) := by decide +kernel
theorem dX8_doubt_83 : decode cX8_doubt 83 = .ok (.goto 11, 3) := by decide +kernel
theorem dX8_doubt_86 : decode cX8_doubt 86 = .ok (.iload 8, 2) := by decide +kernel
theorem dX8_doubt_88 : decode cX8_doubt 88 = .ok (.ifCond .ne 6, 3) := by decide +kernel
theorem dX8_doubt_91 : decode cX8_doubt 91 = .ok (.iinc 6 1, 3) := by decide +kernel
theorem dX8_doubt_94 : decode cX8_doubt 94 = .ok (.iinc 7 1, 3) := by decide +kernel
theorem dX8_doubt_97 : decode cX8_doubt 97 = .ok (.goto (-50), 3) := by decide +kernel
theorem dX8_doubt_100 : decode cX8_doubt 100 = .ok (.aload_n 0, 1) := by decide +kernel
theorem dX8_doubt_101 : decode cX8_doubt 101 = .ok (.iload 6, 2) := by decide +kernel
theorem dX8_doubt_103 : decode cX8_doubt 103 = .ok (.putfield 107, 3) := by decide +kernel
theorem dX8_doubt_106 : decode cX8_doubt 106 = .ok (.iload 5, 2) := by decide +kernel
theorem dX8_doubt_108 : decode cX8_doubt 108 = .ok (.ireturn, 1) := by decide +kernel
theorem dX8_fair_0 : decode cX8_fair 0 = .ok (.aload_n 0, 1) := by decide +kernel
theorem dX8_fair_1 : decode cX8_fair 1 = .ok (.iload_n 1, 1) := by decide +kernel
theorem dX8_fair_2 : decode cX8_fair 2 = .ok (.invokevirtual 225, 3) := by decide +kernel
theorem dX8_fair_5 : decode cX8_fair 5 = .ok (.astore_n 2, 1) := by decide +kernel
theorem dX8_fair_6 : decode cX8_fair 6 = .ok (.aload_n 2, 1) := by decide +kernel
theorem dX8_fair_7 : decode cX8_fair 7 = .ok (.ifnonnull 5, 3) := by decide +kernel
theorem dX8_fair_10 : decode cX8_fair 10 = .ok (.iconst (-1), 1) := by decide +kernel
theorem dX8_fair_11 : decode cX8_fair 11 = .ok (.ireturn, 1) := by decide +kernel
theorem dX8_fair_12 : decode cX8_fair 12 = .ok (.aload_n 2, 1) := by decide +kernel
theorem dX8_fair_13 : decode cX8_fair 13 = .ok (.getfield 210, 3) := by decide +kernel
theorem dX8_fair_16 : decode cX8_fair 16 = .ok (.ifCond .ne 9, 3) := by decide +kernel
theorem dX8_fair_19 : decode cX8_fair 19 = .ok (.aload_n 0, 1) := by decide +kernel
theorem dX8_fair_20 : decode cX8_fair 20 = .ok (.iconst 1, 1) := by decide +kernel
theorem dX8_fair_21 : decode cX8_fair 21 = .ok (.invokevirtual 100, 3) := by decide +kernel
theorem dX8_fair_24 : decode cX8_fair 24 = .ok (.ireturn, 1) := by decide +kernel
theorem dX8_fair_25 : decode cX8_fair 25 = .ok (.iconst 0, 1) := by decide +kernel
theorem dX8_fair_26 : decode cX8_fair 26 = .ok (.istore_n 3, 1) := by decide +kernel
theorem dX8_fair_27 : decode cX8_fair 27 = .ok (.iconst 0, 1) := by decide +kernel
theorem dX8_fair_28 : decode cX8_fair 28 = .ok (.istore 4, 2) := by decide +kernel
theorem dX8_fair_30 : decode cX8_fair 30 = .ok (.iload 4, 2) := by decide +kernel
theorem dX8_fair_32 : decode cX8_fair 32 = .ok (.aload_n 0, 1) := by decide +kernel
theorem dX8_fair_33 : decode cX8_fair 33 = .ok (.getfield 246, 3) := by decide +kernel
theorem dX8_fair_36 : decode cX8_fair 36 = .ok (.if_icmp .ge 42, 3) := by decide +kernel
theorem dX8_fair_39 : decode cX8_fair 39 = .ok (.aload_n 0, 1) := by decide +kernel
theorem dX8_fair_40 : decode cX8_fair 40 = .ok (.iload 4, 2) := by decide +kernel
theorem dX8_fair_42 : decode cX8_fair 42 = .ok (.invokevirtual 175, 3) := by decide +kernel
theorem dX8_fair_45 : decode cX8_fair 45 = .ok (.astore 5, 2) := by decide +kernel
theorem dX8_fair_47 : decode cX8_fair 47 = .ok (.aload 5, 2) := by decide +kernel
theorem dX8_fair_49 : decode cX8_fair 49 = .ok (.ifnull 23, 3) := by decide +kernel
theorem dX8_fair_52 : decode cX8_fair 52 = .ok (.aload 5, 2) := by decide +kernel
theorem dX8_fair_54 : decode cX8_fair 54 = .ok (.aload_n 2, 1) := by decide +kernel
theorem dX8_fair_55 : decode cX8_fair 55 = .ok (.aload_n 0, 1) := by decide +kernel
theorem dX8_fair_56 : decode cX8_fair 56 = .ok (.getfield 37, 3) := by decide +kernel
theorem dX8_fair_59 : decode cX8_fair 59 = .ok (.invokevirtual 249, 3) := by decide +kernel
theorem dX8_fair_62 : decode cX8_fair 62 = .ok (.ifCond .eq 10, 3) := by decide +kernel
theorem dX8_fair_65 : decode cX8_fair 65 = .ok (.iload_n 3, 1) := by decide +kernel
theorem dX8_fair_66 : decode cX8_fair 66 = .ok (.iconst 1, 1) := by decide +kernel
theorem dX8_fair_67 : decode cX8_fair 67 = .ok (.iload 4, 2) := by decide +kernel
theorem dX8_fair_69 : decode cX8_fair 69 = .ok (.ishl, 1) := by decide +kernel
theorem dX8_fair_70 : decode cX8_fair 70 = .ok (.ior, 1) := by decide +kernel
theorem dX8_fair_71 : decode cX8_fair 71 = .ok (.istore_n 3, 1) := by decide +kernel
theorem dX8_fair_72 : decode cX8_fair 72 = .ok (.iinc 4 1, 3) := by decide +kernel
theorem dX8_fair_75 : decode cX8_fair 75 = .ok (.goto (-45), 3) := by decide +kernel
theorem dX8_fair_78 : decode cX8_fair 78 = .ok (.iload_n 3, 1) := by decide +kernel
theorem dX8_fair_79 : decode cX8_fair 79 = .ok (.ireturn, 1) := by decide +kernel
theorem dX8_shovels_0 : decode cX8_shovels 0 = .ok (.aload_n 0, 1) := by decide +kernel
theorem dX8_shovels_1 : decode cX8_shovels 1 = .ok (.iload_n 1, 1) := by decide +kernel
theorem dX8_shovels_2 : decode cX8_shovels 2 = .ok (.invokevirtual 225, 3) := by decide +kernel
theorem dX8_shovels_5 : decode cX8_shovels 5 = .ok (.astore_n 2, 1) := by decide +kernel
theorem dX8_shovels_6 : decode cX8_shovels 6 = .ok (.aload_n 2, 1) := by decide +kernel
theorem dX8_shovels_7 : decode cX8_shovels 7 = .ok (.ifnonnull 5, 3) := by decide +kernel
theorem dX8_shovels_10 : decode cX8_shovels 10 = .ok (.iconst (-1), 1) := by decide +kernel
theorem dX8_shovels_11 : decode cX8_shovels 11 = .ok (.ireturn, 1) := by decide +kernel
theorem dX8_shovels_12 : decode cX8_shovels 12 = .ok (.aload_n 2, 1) := by decide +kernel
theorem dX8_shovels_13 : decode cX8_shovels 13 = .ok (.getfield 210, 3) := by decide +kernel
theorem dX8_shovels_16 : decode cX8_shovels 16 = .ok (.ifCond .ne 9, 3) := by decide +kernel
theorem dX8_shovels_19 : decode cX8_shovels 19 = .ok (.aload_n 0, 1) := by decide +kernel
theorem dX8_shovels_20 : decode cX8_shovels 20 = .ok (.iconst 1, 1) := by decide +kernel
theorem dX8_shovels_21 : decode cX8_shovels 21 = .ok (.invokevirtual 100, 3) := by decide +kernel
theorem dX8_shovels_24 : decode cX8_shovels 24 = .ok (.ireturn, 1) := by decide +kernel
theorem dX8_shovels_25 : decode cX8_shovels 25 = .ok (.iconst 0, 1) := by decide +kernel
theorem dX8_shovels_26 : decode cX8_shovels 26 = .ok (.istore_n 3, 1) := by decide +kernel
theorem dX8_shovels_27 : decode cX8_shovels 27 = .ok (.iconst 0, 1) := by decide +kernel
theorem dX8_shovels_28 : decode cX8_shovels 28 = .ok (.istore 4, 2) := by decide +kernel
theorem dX8_shovels_30 : decode cX8_shovels 30 = .ok (.iconst 0, 1) := by decide +kernel
theorem dX8_shovels_31 : decode cX8_shovels 31 = .ok (.istore 5, 2) := by decide +kernel
theorem dX8_shovels_33 : decode cX8_shovels 33 = .ok (.iload 5, 2) := by decide +kernel
theorem dX8_shovels_35 : decode cX8_shovels 35 = .ok (.aload_n 0, 1) := by decide +kernel
theorem dX8_shovels_36 : decode cX8_shovels 36 = .ok (.getfield 28, 3) := by decide +kernel
theorem dX8_shovels_39 : decode cX8_shovels 39 = .ok (.getfield 164, 3) := by decide +kernel
theorem dX8_shovels_42 : decode cX8_shovels 42 = .ok (.if_icmp .ge 42, 3) := by decide +kernel
theorem dX8_shovels_45 : decode cX8_shovels 45 = .ok (.aload_n 0, 1) := by decide +kernel
theorem dX8_shovels_46 : decode cX8_shovels 46 = .ok (.getfield 37, 3) := by decide +kernel
theorem dX8_shovels_49 : decode cX8_shovels 49 = .ok (.iload 5, 2) := by decide +kernel
theorem dX8_shovels_51 : decode cX8_shovels 51 = .ok (.invokevirtual 203, 3) := by decide +kernel
theorem dX8_shovels_54 : decode cX8_shovels 54 = .ok (.aload_n 2, 1) := by decide +kernel
theorem dX8_shovels_55 : decode cX8_shovels 55 = .ok (.iload 5, 2) := by decide +kernel
theorem dX8_shovels_57 : decode cX8_shovels 57 = .ok (.invokevirtual 203, 3) := by decide +kernel
theorem dX8_shovels_60 : decode cX8_shovels 60 = .ok (.isub, 1) := by decide +kernel
theorem dX8_shovels_61 : decode cX8_shovels 61 = .ok (.istore 6, 2) := by decide +kernel
theorem dX8_shovels_63 : decode cX8_shovels 63 = .ok (.iload_n 3, 1) := by decide +kernel
theorem dX8_shovels_64 : decode cX8_shovels 64 = .ok (.iload 6, 2) := by decide +kernel
theorem dX8_shovels_66 : decode cX8_shovels 66 = .ok (.invokestatic 253, 3) := by decide +kernel
theorem dX8_shovels_69 : decode cX8_shovels 69 = .ok (.iadd, 1) := by decide +kernel
theorem dX8_shovels_70 : decode cX8_shovels 70 = .ok (.istore_n 3, 1) := by decide +kernel
theorem dX8_shovels_71 : decode cX8_shovels 71 = .ok (.iload 4, 2) := by decide +kernel
theorem dX8_shovels_73 : decode cX8_shovels 73 = .ok (.iload 6, 2) := by decide +kernel
theorem dX8_shovels_75 : decode cX8_shovels 75 = .ok (.iadd, 1) := by decide +kernel
theorem dX8_shovels_76 : decode cX8_shovels 76 = .ok (.istore 4, 2) := by decide +kernel
theorem dX8_shovels_78 : decode cX8_shovels 78 = .ok (.iinc 5 1, 3) := by decide +kernel
theorem dX8_shovels_81 : decode cX8_shovels 81 = .ok (.goto (-48), 3) := by decide +kernel
theorem dX8_shovels_84 : decode cX8_shovels 84 = .ok (.aload_n 0, 1) := by decide +kernel
theorem dX8_shovels_85 : decode cX8_shovels 85 = .ok (.iload 4, 2) := by decide +kernel
theorem dX8_shovels_87 : decode cX8_shovels 87 = .ok (.putfield 107, 3) := by decide +kernel
theorem dX8_shovels_90 : decode cX8_shovels 90 = .ok (.iload_n 3, 1) := by decide +kernel
theorem dX8_shovels_91 : decode cX8_shovels 91 = .ok (.ireturn, 1) := by decide +kernel
theorem dX8_suspect_0 : decode cX8_suspect 0 = .ok (.aload_n 0, 1) := by decide +kernel
theorem dX8_suspect_1 : decode cX8_suspect 1 = .ok (.iload_n 1, 1) := by decide +kernel
theorem dX8_suspect_2 : decode cX8_suspect 2 = .ok (.invokevirtual 225, 3) := by decide +kernel
theorem dX8_suspect_5 : decode cX8_suspect 5 = .ok (.astore_n 2, 1) := by decide +kernel
theorem dX8_suspect_6 : decode cX8_suspect 6 = .ok (.aload_n 2, 1) := by decide +kernel
theorem dX8_suspect_7 : decode cX8_suspect 7 = .ok (.ifnonnull 5, 3) := by decide +kernel
theorem dX8_suspect_10 : decode cX8_suspect 10 = .ok (.iconst (-1), 1) := by decide +kernel
theorem dX8_suspect_11 : decode cX8_suspect 11 = .ok (.ireturn, 1) := by decide +kernel
theorem dX8_suspect_12 : decode cX8_suspect 12 = .ok (.aload_n 2, 1) := by decide +kernel
theorem dX8_suspect_13 : decode cX8_suspect 13 = .ok (.getfield 210, 3) := by decide +kernel
theorem dX8_suspect_16 : decode cX8_suspect 16 = .ok (.ifCond .ne 9, 3) := by decide +kernel
theorem dX8_suspect_19 : decode cX8_suspect 19 = .ok (.aload_n 0, 1) := by decide +kernel
theorem dX8_suspect_20 : decode cX8_suspect 20 = .ok (.iconst 1, 1) := by decide +kernel
theorem dX8_suspect_21 : decode cX8_suspect 21 = .ok (.invokevirtual 100, 3) := by decide +kernel
theorem dX8_suspect_24 : decode cX8_suspect 24 = .ok (.ireturn, 1) := by decide +kernel
theorem dX8_suspect_25 : decode cX8_suspect 25 = .ok (.iconst 0, 1) := by decide +kernel
theorem dX8_suspect_26 : decode cX8_suspect 26 = .ok (.istore_n 3, 1) := by decide +kernel
theorem dX8_suspect_27 : decode cX8_suspect 27 = .ok (.bipush (-9), 2) := by decide +kernel
theorem dX8_suspect_29 : decode cX8_suspect 29 = .ok (.istore 4, 2) := by decide +kernel
theorem dX8_suspect_31 : decode cX8_suspect 31 = .ok (.iconst 0, 1) := by decide +kernel
theorem dX8_suspect_32 : decode cX8_suspect 32 = .ok (.istore 5, 2) := by decide +kernel
theorem dX8_suspect_34 : decode cX8_suspect 34 = .ok (.iload 5, 2) := by decide +kernel
theorem dX8_suspect_36 : decode cX8_suspect 36 = .ok (.aload_n 0, 1) := by decide +kernel
theorem dX8_suspect_37 : decode cX8_suspect 37 = .ok (.getfield 28, 3) := by decide +kernel
theorem dX8_suspect_40 : decode cX8_suspect 40 = .ok (.getfield 164, 3) := by decide +kernel
theorem dX8_suspect_43 : decode cX8_suspect 43 = .ok (.if_icmp .ge 40, 3) := by decide +kernel
theorem dX8_suspect_46 : decode cX8_suspect 46 = .ok (.aload_n 0, 1) := by decide +kernel
theorem dX8_suspect_47 : decode cX8_suspect 47 = .ok (.getfield 37, 3) := by decide +kernel
theorem dX8_suspect_50 : decode cX8_suspect 50 = .ok (.iload 5, 2) := by decide +kernel
theorem dX8_suspect_52 : decode cX8_suspect 52 = .ok (.invokevirtual 203, 3) := by decide +kernel
theorem dX8_suspect_55 : decode cX8_suspect 55 = .ok (.aload_n 2, 1) := by decide +kernel
theorem dX8_suspect_56 : decode cX8_suspect 56 = .ok (.iload 5, 2) := by decide +kernel
theorem dX8_suspect_58 : decode cX8_suspect 58 = .ok (.invokevirtual 203, 3) := by decide +kernel
theorem dX8_suspect_61 : decode cX8_suspect 61 = .ok (.isub, 1) := by decide +kernel
theorem dX8_suspect_62 : decode cX8_suspect 62 = .ok (.istore 6, 2) := by decide +kernel
theorem dX8_suspect_64 : decode cX8_suspect 64 = .ok (.iload 6, 2) := by decide +kernel
theorem dX8_suspect_66 : decode cX8_suspect 66 = .ok (.iload_n 3, 1) := by decide +kernel
theorem dX8_suspect_67 : decode cX8_suspect 67 = .ok (.if_icmp .le 10, 3) := by decide +kernel
theorem dX8_suspect_70 : decode cX8_suspect 70 = .ok (.iload 6, 2) := by decide +kernel
theorem dX8_suspect_72 : decode cX8_suspect 72 = .ok (.istore_n 3, 1) := by decide +kernel
theorem dX8_suspect_73 : decode cX8_suspect 73 = .ok (.iload 5, 2) := by decide +kernel
theorem dX8_suspect_75 : decode cX8_suspect 75 = .ok (.istore 4, 2) := by decide +kernel
theorem dX8_suspect_77 : decode cX8_suspect 77 = .ok (.iinc 5 1, 3) := by decide +kernel
theorem dX8_suspect_80 : decode cX8_suspect 80 = .ok (.goto (-46), 3) := by decide +kernel
theorem dX8_suspect_83 : decode cX8_suspect 83 = .ok (.iload 4, 2) := by decide +kernel
theorem dX8_suspect_85 : decode cX8_suspect 85 = .ok (.bipush (-9), 2) := by decide +kernel
theorem dX8_suspect_87 : decode cX8_suspect 87 = .ok (.if_icmp .eq 8, 3) := by decide +kernel
theorem dX8_suspect_90 : decode cX8_suspect 90 = .ok (.aload_n 0, 1) := by decide +kernel
theorem dX8_suspect_91 : decode cX8_suspect 91 = .ok (.iload_n 3, 1) := by decide +kernel
theorem dX8_suspect_92 : decode cX8_suspect 92 = .ok (.putfield 107, 3) := by decide +kernel
theorem dX8_suspect_95 : decode cX8_suspect 95 = .ok (.iload 4, 2) := by decide +kernel
theorem dX8_suspect_97 : decode cX8_suspect 97 = .ok (.ireturn, 1) := by decide +kernel
theorem dX8_carry_0 : decode cX8_carry 0 = .ok (.aload_n 0, 1) := by decide +kernel
theorem dX8_carry_1 : decode cX8_carry 1 = .ok (.getfield 37, 3) := by decide +kernel
theorem dX8_carry_4 : decode cX8_carry 4 = .ok (.iload_n 1, 1) := by decide +kernel
theorem dX8_carry_5 : decode cX8_carry 5 = .ok (.invokevirtual 189, 3) := by decide +kernel
theorem dX8_carry_8 : decode cX8_carry 8 = .ok (.ifCond .ne 5, 3) := by decide +kernel
theorem dX8_carry_11 : decode cX8_carry 11 = .ok (.iconst (-1), 1) := by decide +kernel
theorem dX8_carry_12 : decode cX8_carry 12 = .ok (.ireturn, 1) := by decide +kernel
theorem dX8_carry_13 : decode cX8_carry 13 = .ok (.aload_n 0, 1) := by decide +kernel
theorem dX8_carry_14 : decode cX8_carry 14 = .ok (.getfield 37, 3) := by decide +kernel
theorem dX8_carry_17 : decode cX8_carry 17 = .ok (.iload_n 1, 1) := by decide +kernel
theorem dX8_carry_18 : decode cX8_carry 18 = .ok (.invokevirtual 258, 3) := by decide +kernel
theorem dX8_carry_21 : decode cX8_carry 21 = .ok (.istore 4, 2) := by decide +kernel
theorem dX8_carry_23 : decode cX8_carry 23 = .ok (.aload_n 0, 1) := by decide +kernel
theorem dX8_carry_24 : decode cX8_carry 24 = .ok (.getfield 28, 3) := by decide +kernel
theorem dX8_carry_27 : decode cX8_carry 27 = .ok (.iload 4, 2) := by decide +kernel
theorem dX8_carry_29 : decode cX8_carry 29 = .ok (.iload_n 2, 1) := by decide +kernel
theorem dX8_carry_30 : decode cX8_carry 30 = .ok (.iload_n 3, 1) := by decide +kernel
theorem dX8_carry_31 : decode cX8_carry 31 = .ok (.invokevirtual 261, 3) := by decide +kernel
theorem dX8_carry_34 : decode cX8_carry 34 = .ok (.ifCond .ne 6, 3) := by decide +kernel
theorem dX8_carry_37 : decode cX8_carry 37 = .ok (.bipush (-9), 2) := by decide +kernel
theorem dX8_carry_39 : decode cX8_carry 39 = .ok (.ireturn, 1) := by decide +kernel
theorem dX8_carry_40 : decode cX8_carry 40 = .ok (.iload_n 3, 1) := by decide +kernel
theorem dX8_carry_41 : decode cX8_carry 41 = .ok (.aload_n 0, 1) := by decide +kernel
theorem dX8_carry_42 : decode cX8_carry 42 = .ok (.getfield 28, 3) := by decide +kernel
theorem dX8_carry_45 : decode cX8_carry 45 = .ok (.getfield 265, 3) := by decide +kernel
theorem dX8_carry_48 : decode cX8_carry 48 = .ok (.imul, 1) := by decide +kernel
theorem dX8_carry_49 : decode cX8_carry 49 = .ok (.iload_n 2, 1) := by decide +kernel
theorem dX8_carry_50 : decode cX8_carry 50 = .ok (.iadd, 1) := by decide +kernel
theorem dX8_carry_51 : decode cX8_carry 51 = .ok (.istore 5, 2) := by decide +kernel
theorem dX8_carry_53 : decode cX8_carry 53 = .ok (.iload 5, 2) := by decide +kernel
theorem dX8_carry_55 : decode cX8_carry 55 = .ok (.ifCond .lt 11, 3) := by decide +kernel
theorem dX8_carry_58 : decode cX8_carry 58 = .ok (.iload 4, 2) := by decide +kernel
theorem dX8_carry_60 : decode cX8_carry 60 = .ok (.iload 5, 2) := by decide +kernel
theorem dX8_carry_62 : decode cX8_carry 62 = .ok (.ishl, 1) := by decide +kernel
theorem dX8_carry_63 : decode cX8_carry 63 = .ok (.goto 9, 3) := by decide +kernel
theorem dX8_carry_66 : decode cX8_carry 66 = .ok (.iload 4, 2) := by decide +kernel
theorem dX8_carry_68 : decode cX8_carry 68 = .ok (.iload 5, 2) := by decide +kernel
theorem dX8_carry_70 : decode cX8_carry 70 = .ok (.ineg, 1) := by decide +kernel
theorem dX8_carry_71 : decode cX8_carry 71 = .ok (.iushr, 1) := by decide +kernel
theorem dX8_carry_72 : decode cX8_carry 72 = .ok (.istore 6, 2) := by decide +kernel
theorem dX8_carry_74 : decode cX8_carry 74 = .ok (.aload_n 0, 1) := by decide +kernel
theorem dX8_carry_75 : decode cX8_carry 75 = .ok (.getfield 37, 3) := by decide +kernel
theorem dX8_carry_78 : decode cX8_carry 78 = .ok (.getfield 268, 3) := by decide +kernel
theorem dX8_carry_81 : decode cX8_carry 81 = .ok (.iload 4, 2) := by decide +kernel
theorem dX8_carry_83 : decode cX8_carry 83 = .ok (.iconst (-1), 1) := by decide +kernel
theorem dX8_carry_84 : decode cX8_carry 84 = .ok (.ixor, 1) := by decide +kernel
theorem dX8_carry_85 : decode cX8_carry 85 = .ok (.iand, 1) := by decide +kernel
theorem dX8_carry_86 : decode cX8_carry 86 = .ok (.istore 7, 2) := by decide +kernel
theorem dX8_carry_88 : decode cX8_carry 88 = .ok (.aload_n 0, 1) := by decide +kernel
theorem dX8_carry_89 : decode cX8_carry 89 = .ok (.getfield 28, 3) := by decide +kernel
theorem dX8_carry_92 : decode cX8_carry 92 = .ok (.iload 6, 2) := by decide +kernel
theorem dX8_carry_94 : decode cX8_carry 94 = .ok (.invokevirtual 271, 3) := by decide +kernel
theorem dX8_carry_97 : decode cX8_carry 97 = .ok (.iload 7, 2) := by decide +kernel
theorem dX8_carry_99 : decode cX8_carry 99 = .ok (.iand, 1) := by decide +kernel
theorem dX8_carry_100 : decode cX8_carry 100 = .ok (.ifCond .eq 6, 3) := by decide +kernel
theorem dX8_carry_103 : decode cX8_carry 103 = .ok (.bipush (-9), 2) := by decide +kernel
theorem dX8_carry_105 : decode cX8_carry 105 = .ok (.ireturn, 1) := by decide +kernel
theorem dX8_carry_106 : decode cX8_carry 106 = .ok (.iconst 0, 1) := by decide +kernel
theorem dX8_carry_107 : decode cX8_carry 107 = .ok (.istore 8, 2) := by decide +kernel
theorem dX8_carry_109 : decode cX8_carry 109 = .ok (.iconst 0, 1) := by decide +kernel
theorem dX8_carry_110 : decode cX8_carry 110 = .ok (.istore 9, 2) := by decide +kernel
theorem dX8_carry_112 : decode cX8_carry 112 = .ok (.iload 9, 2) := by decide +kernel
theorem dX8_carry_114 : decode cX8_carry 114 = .ok (.aload_n 0, 1) := by decide +kernel
theorem dX8_carry_115 : decode cX8_carry 115 = .ok (.getfield 28, 3) := by decide +kernel
theorem dX8_carry_118 : decode cX8_carry 118 = .ok (.getfield 164, 3) := by decide +kernel
theorem dX8_carry_121 : decode cX8_carry 121 = .ok (.if_icmp .ge 70, 3) := by decide +kernel
theorem dX8_carry_124 : decode cX8_carry 124 = .ok (.iload 4, 2) := by decide +kernel
theorem dX8_carry_126 : decode cX8_carry 126 = .ok (.iload 6, 2) := by decide +kernel
theorem dX8_carry_128 : decode cX8_carry 128 = .ok (.ior, 1) := by decide +kernel
theorem dX8_carry_129 : decode cX8_carry 129 = .ok (.iload 9, 2) := by decide +kernel
theorem dX8_carry_131 : decode cX8_carry 131 = .ok (.iushr, 1) := by decide +kernel
theorem dX8_carry_132 : decode cX8_carry 132 = .ok (.iconst 1, 1) := by decide +kernel
theorem dX8_carry_133 : decode cX8_carry 133 = .ok (.iand, 1) := by decide +kernel
theorem dX8_carry_134 : decode cX8_carry 134 = .ok (.ifCond .eq 51, 3) := by decide +kernel
theorem dX8_carry_137 : decode cX8_carry 137 = .ok (.iload 6, 2) := by decide +kernel
theorem dX8_carry_139 : decode cX8_carry 139 = .ok (.iload 9, 2) := by decide +kernel
theorem dX8_carry_141 : decode cX8_carry 141 = .ok (.iushr, 1) := by decide +kernel
theorem dX8_carry_142 : decode cX8_carry 142 = .ok (.iconst 1, 1) := by decide +kernel
theorem dX8_carry_143 : decode cX8_carry 143 = .ok (.iand, 1) := by decide +kernel
theorem dX8_carry_144 : decode cX8_carry 144 = .ok (.ifCond .eq 18, 3) := by decide +kernel
theorem dX8_carry_147 : decode cX8_carry 147 = .ok (.aload_n 0, 1) := by decide +kernel
theorem dX8_carry_148 : decode cX8_carry 148 = .ok (.getfield 37, 3) := by decide +kernel
theorem dX8_carry_151 : decode cX8_carry 151 = .ok (.iload 9, 2) := by decide +kernel
theorem dX8_carry_153 : decode cX8_carry 153 = .ok (.iload 5, 2) := by decide +kernel
theorem dX8_carry_155 : decode cX8_carry 155 = .ok (.isub, 1) := by decide +kernel
theorem dX8_carry_156 : decode cX8_carry 156 = .ok (.invokevirtual 203, 3) := by decide +kernel
theorem dX8_carry_159 : decode cX8_carry 159 = .ok (.goto 4, 3) := by decide +kernel
theorem dX8_carry_162 : decode cX8_carry 162 = .ok (.iconst 0, 1) := by decide +kernel
theorem dX8_carry_163 : decode cX8_carry 163 = .ok (.istore 10, 2) := by decide +kernel
theorem dX8_carry_165 : decode cX8_carry 165 = .ok (.iload 8, 2) := by decide +kernel
theorem dX8_carry_167 : decode cX8_carry 167 = .ok (.iload 10, 2) := by decide +kernel
theorem dX8_carry_169 : decode cX8_carry 169 = .ok (.aload_n 0, 1) := by decide +kernel
theorem dX8_carry_170 : decode cX8_carry 170 = .ok (.getfield 37, 3) := by decide +kernel
theorem dX8_carry_173 : decode cX8_carry 173 = .ok (.iload 9, 2) := by decide +kernel
theorem dX8_carry_175 : decode cX8_carry 175 = .ok (.invokevirtual 203, 3) := by decide +kernel
theorem dX8_carry_178 : decode cX8_carry 178 = .ok (.isub, 1) := by decide +kernel
theorem dX8_carry_179 : decode cX8_carry 179 = .ok (.invokestatic 253, 3) := by decide +kernel
theorem dX8_carry_182 : decode cX8_carry 182 = .ok (.iadd, 1) := by decide +kernel
theorem dX8_carry_183 : decode cX8_carry 183 = .ok (.istore 8, 2) := by decide +kernel
theorem dX8_carry_185 : decode cX8_carry 185 = .ok (.iinc 9 1, 3) := by decide +kernel
theorem dX8_carry_188 : decode cX8_carry 188 = .ok (.goto (-76), 3) := by decide +kernel
theorem dX8_carry_191 : decode cX8_carry 191 = .ok (.iload 8, 2) := by decide +kernel
theorem dX8_carry_193 : decode cX8_carry 193 = .ok (.ireturn, 1) := by decide +kernel
theorem dX8_join_0 : decode cX8_join 0 = .ok (.aload_n 0, 1) := by decide +kernel
theorem dX8_join_1 : decode cX8_join 1 = .ok (.getfield 37, 3) := by decide +kernel
theorem dX8_join_4 : decode cX8_join 4 = .ok (.iload_n 1, 1) := by decide +kernel
theorem dX8_join_5 : decode cX8_join 5 = .ok (.invokevirtual 189, 3) := by decide +kernel
theorem dX8_join_8 : decode cX8_join 8 = .ok (.ifCond .eq 19, 3) := by decide +kernel
theorem dX8_join_11 : decode cX8_join 11 = .ok (.aload_n 0, 1) := by decide +kernel
theorem dX8_join_12 : decode cX8_join 12 = .ok (.getfield 37, 3) := by decide +kernel
theorem dX8_join_15 : decode cX8_join 15 = .ok (.iload_n 2, 1) := by decide +kernel
theorem dX8_join_16 : decode cX8_join 16 = .ok (.invokevirtual 189, 3) := by decide +kernel
theorem dX8_join_19 : decode cX8_join 19 = .ok (.ifCond .eq 8, 3) := by decide +kernel
theorem dX8_join_22 : decode cX8_join 22 = .ok (.iload_n 1, 1) := by decide +kernel
theorem dX8_join_23 : decode cX8_join 23 = .ok (.iload_n 2, 1) := by decide +kernel
theorem dX8_join_24 : decode cX8_join 24 = .ok (.if_icmp .ne 5, 3) := by decide +kernel
theorem dX8_join_27 : decode cX8_join 27 = .ok (.iconst (-1), 1) := by decide +kernel
theorem dX8_join_28 : decode cX8_join 28 = .ok (.ireturn, 1) := by decide +kernel
theorem dX8_join_29 : decode cX8_join 29 = .ok (.aload_n 0, 1) := by decide +kernel
theorem dX8_join_30 : decode cX8_join 30 = .ok (.getfield 37, 3) := by decide +kernel
theorem dX8_join_33 : decode cX8_join 33 = .ok (.iload_n 1, 1) := by decide +kernel
theorem dX8_join_34 : decode cX8_join 34 = .ok (.invokevirtual 258, 3) := by decide +kernel
theorem dX8_join_37 : decode cX8_join 37 = .ok (.istore_n 3, 1) := by decide +kernel
theorem dX8_join_38 : decode cX8_join 38 = .ok (.aload_n 0, 1) := by decide +kernel
theorem dX8_join_39 : decode cX8_join 39 = .ok (.getfield 37, 3) := by decide +kernel
theorem dX8_join_42 : decode cX8_join 42 = .ok (.iload_n 2, 1) := by decide +kernel
theorem dX8_join_43 : decode cX8_join 43 = .ok (.invokevirtual 258, 3) := by decide +kernel
theorem dX8_join_46 : decode cX8_join 46 = .ok (.istore 4, 2) := by decide +kernel
theorem dX8_join_48 : decode cX8_join 48 = .ok (.iconst 1, 1) := by decide +kernel
theorem dX8_join_49 : decode cX8_join 49 = .ok (.istore 5, 2) := by decide +kernel
theorem dX8_join_51 : decode cX8_join 51 = .ok (.iload 5, 2) := by decide +kernel
theorem dX8_join_53 : decode cX8_join 53 = .ok (.iconst 4, 1) := by decide +kernel
theorem dX8_join_54 : decode cX8_join 54 = .ok (.if_icmp .gt 88, 3) := by decide +kernel
theorem dX8_join_57 : decode cX8_join 57 = .ok (.iconst 1, 1) := by decide +kernel
theorem dX8_join_58 : decode cX8_join 58 = .ok (.iload 5, 2) := by decide +kernel
theorem dX8_join_60 : decode cX8_join 60 = .ok (.ishl, 1) := by decide +kernel
theorem dX8_join_61 : decode cX8_join 61 = .ok (.iconst 1, 1) := by decide +kernel
theorem dX8_join_62 : decode cX8_join 62 = .ok (.isub, 1) := by decide +kernel
theorem dX8_join_63 : decode cX8_join 63 = .ok (.istore 6, 2) := by decide +kernel
theorem dX8_join_65 : decode cX8_join 65 = .ok (.iconst 0, 1) := by decide +kernel
theorem dX8_join_66 : decode cX8_join 66 = .ok (.istore 7, 2) := by decide +kernel
theorem dX8_join_68 : decode cX8_join 68 = .ok (.iload 7, 2) := by decide +kernel
theorem dX8_join_70 : decode cX8_join 70 = .ok (.sipush 1820, 3) := by decide +kernel
theorem dX8_join_73 : decode cX8_join 73 = .ok (.if_icmp .ge 63, 3) := by decide +kernel
theorem dX8_join_76 : decode cX8_join 76 = .ok (.iload 6, 2) := by decide +kernel
theorem dX8_join_78 : decode cX8_join 78 = .ok (.iconst 1, 1) := by decide +kernel
theorem dX8_join_79 : decode cX8_join 79 = .ok (.aload_n 0, 1) := by decide +kernel
theorem dX8_join_80 : decode cX8_join 80 = .ok (.getfield 28, 3) := by decide +kernel
theorem dX8_join_83 : decode cX8_join 83 = .ok (.getfield 164, 3) := by decide +kernel
theorem dX8_join_86 : decode cX8_join 86 = .ok (.ishl, 1) := by decide +kernel
theorem dX8_join_87 : decode cX8_join 87 = .ok (.if_icmp .ge 49, 3) := by decide +kernel
theorem dX8_join_90 : decode cX8_join 90 = .ok (.aload_n 0, 1) := by decide +kernel
theorem dX8_join_91 : decode cX8_join 91 = .ok (.getfield 28, 3) := by decide +kernel
theorem dX8_join_94 : decode cX8_join 94 = .ok (.iload_n 3, 1) := by decide +kernel
theorem dX8_join_95 : decode cX8_join 95 = .ok (.aload_n 0, 1) := by decide +kernel
theorem dX8_join_96 : decode cX8_join 96 = .ok (.getfield 37, 3) := by decide +kernel
theorem dX8_join_99 : decode cX8_join 99 = .ok (.getfield 268, 3) := by decide +kernel
theorem dX8_join_102 : decode cX8_join 102 = .ok (.iload 6, 2) := by decide +kernel
theorem dX8_join_104 : decode cX8_join 104 = .ok (.ior, 1) := by decide +kernel
theorem dX8_join_105 : decode cX8_join 105 = .ok (.invokevirtual 274, 3) := by decide +kernel
theorem dX8_join_108 : decode cX8_join 108 = .ok (.iload 4, 2) := by decide +kernel
theorem dX8_join_110 : decode cX8_join 110 = .ok (.iand, 1) := by decide +kernel
theorem dX8_join_111 : decode cX8_join 111 = .ok (.ifCond .eq 12, 3) := by decide +kernel
theorem dX8_join_114 : decode cX8_join 114 = .ok (.aload_n 0, 1) := by decide +kernel
theorem dX8_join_115 : decode cX8_join 115 = .ok (.iload 6, 2) := by decide +kernel
theorem dX8_join_117 : decode cX8_join 117 = .ok (.putfield 107, 3) := by decide +kernel
theorem dX8_join_120 : decode cX8_join 120 = .ok (.iload 5, 2) := by decide +kernel
theorem dX8_join_122 : decode cX8_join 122 = .ok (.ireturn, 1) := by decide +kernel
theorem dX8_join_123 : decode cX8_join 123 = .ok (.iload 6, 2) := by decide +kernel
theorem dX8_join_125 : decode cX8_join 125 = .ok (.invokestatic 277, 3) := by decide +kernel
theorem dX8_join_128 : decode cX8_join 128 = .ok (.istore 6, 2) := by decide +kernel
theorem dX8_join_130 : decode cX8_join 130 = .ok (.iinc 7 1, 3) := by decide +kernel
theorem dX8_join_133 : decode cX8_join 133 = .ok (.goto (-65), 3) := by decide +kernel
theorem dX8_join_136 : decode cX8_join 136 = .ok (.iinc 5 1, 3) := by decide +kernel
theorem dX8_join_139 : decode cX8_join 139 = .ok (.goto (-88), 3) := by decide +kernel
theorem dX8_join_142 : decode cX8_join 142 = .ok (.bipush (-9), 2) := by decide +kernel
theorem dX8_join_144 : decode cX8_join 144 = .ok (.ireturn, 1) := by decide +kernel
theorem dX8_part_0 : decode cX8_part 0 = .ok (.aload_n 0, 1) := by decide +kernel
theorem dX8_part_1 : decode cX8_part 1 = .ok (.getfield 37, 3) := by decide +kernel
theorem dX8_part_4 : decode cX8_part 4 = .ok (.iload_n 1, 1) := by decide +kernel
theorem dX8_part_5 : decode cX8_part 5 = .ok (.invokevirtual 189, 3) := by decide +kernel
theorem dX8_part_8 : decode cX8_part 8 = .ok (.ifCond .ne 5, 3) := by decide +kernel
theorem dX8_part_11 : decode cX8_part 11 = .ok (.iconst (-1), 1) := by decide +kernel
theorem dX8_part_12 : decode cX8_part 12 = .ok (.ireturn, 1) := by decide +kernel
theorem dX8_part_13 : decode cX8_part 13 = .ok (.aload_n 0, 1) := by decide +kernel
theorem dX8_part_14 : decode cX8_part 14 = .ok (.getfield 37, 3) := by decide +kernel
theorem dX8_part_17 : decode cX8_part 17 = .ok (.iload_n 1, 1) := by decide +kernel
theorem dX8_part_18 : decode cX8_part 18 = .ok (.invokevirtual 258, 3) := by decide +kernel
theorem dX8_part_21 : decode cX8_part 21 = .ok (.istore_n 2, 1) := by decide +kernel
theorem dX8_part_22 : decode cX8_part 22 = .ok (.bipush (-9), 2) := by decide +kernel
theorem dX8_part_24 : decode cX8_part 24 = .ok (.istore_n 3, 1) := by decide +kernel
theorem dX8_part_25 : decode cX8_part 25 = .ok (.iconst 0, 1) := by decide +kernel
theorem dX8_part_26 : decode cX8_part 26 = .ok (.istore 4, 2) := by decide +kernel
theorem dX8_part_28 : decode cX8_part 28 = .ok (.iconst 1, 1) := by decide +kernel
theorem dX8_part_29 : decode cX8_part 29 = .ok (.istore 5, 2) := by decide +kernel
theorem dX8_part_31 : decode cX8_part 31 = .ok (.iload 5, 2) := by decide +kernel
theorem dX8_part_33 : decode cX8_part 33 = .ok (.iconst 3, 1) := by decide +kernel
theorem dX8_part_34 : decode cX8_part 34 = .ok (.if_icmp .gt 123, 3) := by decide +kernel
theorem dX8_part_37 : decode cX8_part 37 = .ok (.iconst 1, 1) := by decide +kernel
theorem dX8_part_38 : decode cX8_part 38 = .ok (.iload 5, 2) := by decide +kernel
theorem dX8_part_40 : decode cX8_part 40 = .ok (.ishl, 1) := by decide +kernel
theorem dX8_part_41 : decode cX8_part 41 = .ok (.iconst 1, 1) := by decide +kernel
theorem dX8_part_42 : decode cX8_part 42 = .ok (.isub, 1) := by decide +kernel
theorem dX8_part_43 : decode cX8_part 43 = .ok (.istore 6, 2) := by decide +kernel
theorem dX8_part_45 : decode cX8_part 45 = .ok (.iconst 0, 1) := by decide +kernel
theorem dX8_part_46 : decode cX8_part 46 = .ok (.istore 7, 2) := by decide +kernel
theorem dX8_part_48 : decode cX8_part 48 = .ok (.iload 7, 2) := by decide +kernel
theorem dX8_part_50 : decode cX8_part 50 = .ok (.sipush 1820, 3) := by decide +kernel
theorem dX8_part_53 : decode cX8_part 53 = .ok (.if_icmp .ge 98, 3) := by decide +kernel
theorem dX8_part_56 : decode cX8_part 56 = .ok (.iload 6, 2) := by decide +kernel
theorem dX8_part_58 : decode cX8_part 58 = .ok (.iconst 1, 1) := by decide +kernel
theorem dX8_part_59 : decode cX8_part 59 = .ok (.aload_n 0, 1) := by decide +kernel
theorem dX8_part_60 : decode cX8_part 60 = .ok (.getfield 28, 3) := by decide +kernel
theorem dX8_part_63 : decode cX8_part 63 = .ok (.getfield 164, 3) := by decide +kernel
theorem dX8_part_66 : decode cX8_part 66 = .ok (.ishl, 1) := by decide +kernel
theorem dX8_part_67 : decode cX8_part 67 = .ok (.if_icmp .ge 84, 3) := by decide +kernel
theorem dX8_part_70 : decode cX8_part 70 = .ok (.iload 6, 2) := by decide +kernel
theorem dX8_part_72 : decode cX8_part 72 = .ok (.iload_n 2, 1) := by decide +kernel
theorem dX8_part_73 : decode cX8_part 73 = .ok (.iconst (-1), 1) := by decide +kernel
theorem dX8_part_74 : decode cX8_part 74 = .ok (.ixor, 1) := by decide +kernel
theorem dX8_part_75 : decode cX8_part 75 = .ok (.iand, 1) := by decide +kernel
theorem dX8_part_76 : decode cX8_part 76 = .ok (.ifCond .ne 62, 3) := by decide +kernel
theorem dX8_part_79 : decode cX8_part 79 = .ok (.aload_n 0, 1) := by decide +kernel
theorem dX8_part_80 : decode cX8_part 80 = .ok (.getfield 28, 3) := by decide +kernel
theorem dX8_part_83 : decode cX8_part 83 = .ok (.iload_n 2, 1) := by decide +kernel
theorem dX8_part_84 : decode cX8_part 84 = .ok (.iload 6, 2) := by decide +kernel
theorem dX8_part_86 : decode cX8_part 86 = .ok (.iconst (-1), 1) := by decide +kernel
theorem dX8_part_87 : decode cX8_part 87 = .ok (.ixor, 1) := by decide +kernel
theorem dX8_part_88 : decode cX8_part 88 = .ok (.iand, 1) := by decide +kernel
theorem dX8_part_89 : decode cX8_part 89 = .ok (.invokevirtual 280, 3) := by decide +kernel
theorem dX8_part_92 : decode cX8_part 92 = .ok (.ifCond .eq 46, 3) := by decide +kernel
theorem dX8_part_95 : decode cX8_part 95 = .ok (.aload_n 0, 1) := by decide +kernel
theorem dX8_part_96 : decode cX8_part 96 = .ok (.getfield 37, 3) := by decide +kernel
theorem dX8_part_99 : decode cX8_part 99 = .ok (.iload 6, 2) := by decide +kernel
theorem dX8_part_101 : decode cX8_part 101 = .ok (.invokevirtual 283, 3) := by decide +kernel
theorem dX8_part_104 : decode cX8_part 104 = .ok (.istore 8, 2) := by decide +kernel
theorem dX8_part_106 : decode cX8_part 106 = .ok (.iload_n 3, 1) := by decide +kernel
theorem dX8_part_107 : decode cX8_part 107 = .ok (.bipush (-9), 2) := by decide +kernel
theorem dX8_part_109 : decode cX8_part 109 = .ok (.if_icmp .eq 22, 3) := by decide +kernel
theorem dX8_part_112 : decode cX8_part 112 = .ok (.iload 8, 2) := by decide +kernel
theorem dX8_part_114 : decode cX8_part 114 = .ok (.iload_n 3, 1) := by decide +kernel
theorem dX8_part_115 : decode cX8_part 115 = .ok (.if_icmp .lt 16, 3) := by decide +kernel
theorem dX8_part_118 : decode cX8_part 118 = .ok (.iload 8, 2) := by decide +kernel
theorem dX8_part_120 : decode cX8_part 120 = .ok (.iload_n 3, 1) := by decide +kernel
theorem dX8_part_121 : decode cX8_part 121 = .ok (.if_icmp .ne 17, 3) := by decide +kernel
theorem dX8_part_124 : decode cX8_part 124 = .ok (.iload 6, 2) := by decide +kernel
theorem dX8_part_126 : decode cX8_part 126 = .ok (.iload 4, 2) := by decide +kernel
theorem dX8_part_128 : decode cX8_part 128 = .ok (.if_icmp .ge 10, 3) := by decide +kernel
theorem dX8_part_131 : decode cX8_part 131 = .ok (.iload 8, 2) := by decide +kernel
theorem dX8_part_133 : decode cX8_part 133 = .ok (.istore_n 3, 1) := by decide +kernel
theorem dX8_part_134 : decode cX8_part 134 = .ok (.iload 6, 2) := by decide +kernel
theorem dX8_part_136 : decode cX8_part 136 = .ok (.istore 4, 2) := by decide +kernel
theorem dX8_part_138 : decode cX8_part 138 = .ok (.iload 6, 2) := by decide +kernel
theorem dX8_part_140 : decode cX8_part 140 = .ok (.invokestatic 277, 3) := by decide +kernel
theorem dX8_part_143 : decode cX8_part 143 = .ok (.istore 6, 2) := by decide +kernel
theorem dX8_part_145 : decode cX8_part 145 = .ok (.iinc 7 1, 3) := by decide +kernel
theorem dX8_part_148 : decode cX8_part 148 = .ok (.goto (-100), 3) := by decide +kernel
theorem dX8_part_151 : decode cX8_part 151 = .ok (.iinc 5 1, 3) := by decide +kernel
theorem dX8_part_154 : decode cX8_part 154 = .ok (.goto (-123), 3) := by decide +kernel
theorem dX8_part_157 : decode cX8_part 157 = .ok (.iload_n 3, 1) := by decide +kernel
theorem dX8_part_158 : decode cX8_part 158 = .ok (.bipush (-9), 2) := by decide +kernel
theorem dX8_part_160 : decode cX8_part 160 = .ok (.if_icmp .eq 9, 3) := by decide +kernel
theorem dX8_part_163 : decode cX8_part 163 = .ok (.aload_n 0, 1) := by decide +kernel
theorem dX8_part_164 : decode cX8_part 164 = .ok (.iload 4, 2) := by decide +kernel
theorem dX8_part_166 : decode cX8_part 166 = .ok (.putfield 107, 3) := by decide +kernel
theorem dX8_part_169 : decode cX8_part 169 = .ok (.iload_n 3, 1) := by decide +kernel
theorem dX8_part_170 : decode cX8_part 170 = .ok (.ireturn, 1) := by decide +kernel
theorem dX8_steal_0 : decode cX8_steal 0 = .ok (.aload_n 0, 1) := by decide +kernel
theorem dX8_steal_1 : decode cX8_steal 1 = .ok (.iload_n 1, 1) := by decide +kernel
theorem dX8_steal_2 : decode cX8_steal 2 = .ok (.invokevirtual 175, 3) := by decide +kernel
theorem dX8_steal_5 : decode cX8_steal 5 = .ok (.astore 6, 2) := by decide +kernel
theorem dX8_steal_7 : decode cX8_steal 7 = .ok (.aload_n 0, 1) := by decide +kernel
theorem dX8_steal_8 : decode cX8_steal 8 = .ok (.iload_n 2, 1) := by decide +kernel
theorem dX8_steal_9 : decode cX8_steal 9 = .ok (.invokevirtual 225, 3) := by decide +kernel
theorem dX8_steal_12 : decode cX8_steal 12 = .ok (.astore 7, 2) := by decide +kernel
theorem dX8_steal_14 : decode cX8_steal 14 = .ok (.aload_n 0, 1) := by decide +kernel
theorem dX8_steal_15 : decode cX8_steal 15 = .ok (.iload 5, 2) := by decide +kernel
theorem dX8_steal_17 : decode cX8_steal 17 = .ok (.invokevirtual 88, 3) := by decide +kernel
theorem dX8_steal_20 : decode cX8_steal 20 = .ok (.astore 8, 2) := by decide +kernel
theorem dX8_steal_22 : decode cX8_steal 22 = .ok (.aload 6, 2) := by decide +kernel
theorem dX8_steal_24 : decode cX8_steal 24 = .ok (.ifnull 21, 3) := by decide +kernel
theorem dX8_steal_27 : decode cX8_steal 27 = .ok (.aload 7, 2) := by decide +kernel
theorem dX8_steal_29 : decode cX8_steal 29 = .ok (.ifnull 16, 3) := by decide +kernel
theorem dX8_steal_32 : decode cX8_steal 32 = .ok (.aload 8, 2) := by decide +kernel
theorem dX8_steal_34 : decode cX8_steal 34 = .ok (.ifnull 11, 3) := by decide +kernel
theorem dX8_steal_37 : decode cX8_steal 37 = .ok (.iload 4, 2) := by decide +kernel
theorem dX8_steal_39 : decode cX8_steal 39 = .ok (.invokestatic 286, 3) := by decide +kernel
theorem dX8_steal_42 : decode cX8_steal 42 = .ok (.ifCond .ne 5, 3) := by decide +kernel
theorem dX8_steal_45 : decode cX8_steal 45 = .ok (.iconst (-1), 1) := by decide +kernel
theorem dX8_steal_46 : decode cX8_steal 46 = .ok (.ireturn, 1) := by decide +kernel
theorem dX8_steal_47 : decode cX8_steal 47 = .ok (.aload 7, 2) := by decide +kernel
theorem dX8_steal_49 : decode cX8_steal 49 = .ok (.getfield 210, 3) := by decide +kernel
theorem dX8_steal_52 : decode cX8_steal 52 = .ok (.ifCond .ne 9, 3) := by decide +kernel
theorem dX8_steal_55 : decode cX8_steal 55 = .ok (.aload_n 0, 1) := by decide +kernel
theorem dX8_steal_56 : decode cX8_steal 56 = .ok (.iconst 1, 1) := by decide +kernel
theorem dX8_steal_57 : decode cX8_steal 57 = .ok (.invokevirtual 100, 3) := by decide +kernel
theorem dX8_steal_60 : decode cX8_steal 60 = .ok (.ireturn, 1) := by decide +kernel
theorem dX8_steal_61 : decode cX8_steal 61 = .ok (.aload 7, 2) := by decide +kernel
theorem dX8_steal_63 : decode cX8_steal 63 = .ok (.iload_n 3, 1) := by decide +kernel
theorem dX8_steal_64 : decode cX8_steal 64 = .ok (.invokevirtual 189, 3) := by decide +kernel
theorem dX8_steal_67 : decode cX8_steal 67 = .ok (.ifCond .ne 5, 3) := by decide +kernel
theorem dX8_steal_70 : decode cX8_steal 70 = .ok (.iconst (-1), 1) := by decide +kernel
theorem dX8_steal_71 : decode cX8_steal 71 = .ok (.ireturn, 1) := by decide +kernel
theorem dX8_steal_72 : decode cX8_steal 72 = .ok (.aload_n 0, 1) := by decide +kernel
theorem dX8_steal_73 : decode cX8_steal 73 = .ok (.getfield 68, 3) := by decide +kernel
theorem dX8_steal_76 : decode cX8_steal 76 = .ok (.aload 6, 2) := by decide +kernel
theorem dX8_steal_78 : decode cX8_steal 78 = .ok (.aload 7, 2) := by decide +kernel
theorem dX8_steal_80 : decode cX8_steal 80 = .ok (.iload_n 3, 1) := by decide +kernel
theorem dX8_steal_81 : decode cX8_steal 81 = .ok (.iload 4, 2) := by decide +kernel
theorem dX8_steal_83 : decode cX8_steal 83 = .ok (.invokevirtual 289, 3) := by decide +kernel
theorem dX8_steal_86 : decode cX8_steal 86 = .ok (.aload_n 0, 1) := by decide +kernel
theorem dX8_steal_87 : decode cX8_steal 87 = .ok (.getfield 68, 3) := by decide +kernel
theorem dX8_steal_90 : decode cX8_steal 90 = .ok (.aload_n 0, 1) := by decide +kernel
theorem dX8_steal_91 : decode cX8_steal 91 = .ok (.getfield 37, 3) := by decide +kernel
theorem dX8_steal_94 : decode cX8_steal 94 = .ok (.invokevirtual 293, 3) := by decide +kernel
theorem dX8_steal_97 : decode cX8_steal 97 = .ok (.istore 9, 2) := by decide +kernel
theorem dX8_steal_99 : decode cX8_steal 99 = .ok (.iload 9, 2) := by decide +kernel
theorem dX8_steal_101 : decode cX8_steal 101 = .ok (.bipush (-9), 2) := by decide +kernel
theorem dX8_steal_103 : decode cX8_steal 103 = .ok (.if_icmp .eq 43, 3) := by decide +kernel
theorem dX8_steal_106 : decode cX8_steal 106 = .ok (.aload 8, 2) := by decide +kernel
theorem dX8_steal_108 : decode cX8_steal 108 = .ok (.iload 9, 2) := by decide +kernel
theorem dX8_steal_110 : decode cX8_steal 110 = .ok (.iconst 0, 1) := by decide +kernel
theorem dX8_steal_111 : decode cX8_steal 111 = .ok (.invokevirtual 297, 3) := by decide +kernel
theorem dX8_steal_114 : decode cX8_steal 114 = .ok (.iconst 0, 1) := by decide +kernel
theorem dX8_steal_115 : decode cX8_steal 115 = .ok (.istore 10, 2) := by decide +kernel
theorem dX8_steal_117 : decode cX8_steal 117 = .ok (.iload 10, 2) := by decide +kernel
theorem dX8_steal_119 : decode cX8_steal 119 = .ok (.iload 9, 2) := by decide +kernel
theorem dX8_steal_121 : decode cX8_steal 121 = .ok (.if_icmp .ge 25, 3) := by decide +kernel
theorem dX8_steal_124 : decode cX8_steal 124 = .ok (.aload 8, 2) := by decide +kernel
theorem dX8_steal_126 : decode cX8_steal 126 = .ok (.iload 10, 2) := by decide +kernel
theorem dX8_steal_128 : decode cX8_steal 128 = .ok (.aload_n 0, 1) := by decide +kernel
theorem dX8_steal_129 : decode cX8_steal 129 = .ok (.getfield 68, 3) := by decide +kernel
theorem dX8_steal_132 : decode cX8_steal 132 = .ok (.iload 10, 2) := by decide +kernel
theorem dX8_steal_134 : decode cX8_steal 134 = .ok (.invokevirtual 300, 3) := by decide +kernel
theorem dX8_steal_137 : decode cX8_steal 137 = .ok (.invokevirtual 111, 3) := by decide +kernel
theorem dX8_steal_140 : decode cX8_steal 140 = .ok (.iinc 10 1, 3) := by decide +kernel
theorem dX8_steal_143 : decode cX8_steal 143 = .ok (.goto (-26), 3) := by decide +kernel
theorem dX8_steal_146 : decode cX8_steal 146 = .ok (.iload 9, 2) := by decide +kernel
theorem dX8_steal_148 : decode cX8_steal 148 = .ok (.ireturn, 1) := by decide +kernel
theorem dX8_share_0 : decode cX8_share 0 = .ok (.aload_n 0, 1) := by decide +kernel
theorem dX8_share_1 : decode cX8_share 1 = .ok (.getfield 37, 3) := by decide +kernel
theorem dX8_share_4 : decode cX8_share 4 = .ok (.iload_n 1, 1) := by decide +kernel
theorem dX8_share_5 : decode cX8_share 5 = .ok (.invokevirtual 189, 3) := by decide +kernel
theorem dX8_share_8 : decode cX8_share 8 = .ok (.ifCond .eq 10, 3) := by decide +kernel
theorem dX8_share_11 : decode cX8_share 11 = .ok (.iload_n 2, 1) := by decide +kernel
theorem dX8_share_12 : decode cX8_share 12 = .ok (.invokestatic 286, 3) := by decide +kernel
theorem dX8_share_15 : decode cX8_share 15 = .ok (.ifCond .ne 5, 3) := by decide +kernel
theorem dX8_share_18 : decode cX8_share 18 = .ok (.iconst (-1), 1) := by decide +kernel
theorem dX8_share_19 : decode cX8_share 19 = .ok (.ireturn, 1) := by decide +kernel
theorem dX8_share_20 : decode cX8_share 20 = .ok (.aload_n 0, 1) := by decide +kernel
theorem dX8_share_21 : decode cX8_share 21 = .ok (.getfield 37, 3) := by decide +kernel
theorem dX8_share_24 : decode cX8_share 24 = .ok (.iload_n 1, 1) := by decide +kernel
theorem dX8_share_25 : decode cX8_share 25 = .ok (.invokevirtual 258, 3) := by decide +kernel
theorem dX8_share_28 : decode cX8_share 28 = .ok (.istore_n 3, 1) := by decide +kernel
theorem dX8_share_29 : decode cX8_share 29 = .ok (.aload_n 0, 1) := by decide +kernel
theorem dX8_share_30 : decode cX8_share 30 = .ok (.aload_n 0, 1) := by decide +kernel
theorem dX8_share_31 : decode cX8_share 31 = .ok (.getfield 37, 3) := by decide +kernel
theorem dX8_share_34 : decode cX8_share 34 = .ok (.iload_n 3, 1) := by decide +kernel
theorem dX8_share_35 : decode cX8_share 35 = .ok (.aload_n 0, 1) := by decide +kernel
theorem dX8_share_36 : decode cX8_share 36 = .ok (.getfield 28, 3) := by decide +kernel
theorem dX8_share_39 : decode cX8_share 39 = .ok (.iload_n 2, 1) := by decide +kernel
theorem dX8_share_40 : decode cX8_share 40 = .ok (.invokevirtual 303, 3) := by decide +kernel
theorem dX8_share_43 : decode cX8_share 43 = .ok (.iand, 1) := by decide +kernel
theorem dX8_share_44 : decode cX8_share 44 = .ok (.invokevirtual 283, 3) := by decide +kernel
theorem dX8_share_47 : decode cX8_share 47 = .ok (.i2l, 1) := by decide +kernel
theorem dX8_share_48 : decode cX8_share 48 = .ok (.aload_n 0, 1) := by decide +kernel
theorem dX8_share_49 : decode cX8_share 49 = .ok (.getfield 37, 3) := by decide +kernel
theorem dX8_share_52 : decode cX8_share 52 = .ok (.iload_n 3, 1) := by decide +kernel
theorem dX8_share_53 : decode cX8_share 53 = .ok (.invokevirtual 283, 3) := by decide +kernel
theorem dX8_share_56 : decode cX8_share 56 = .ok (.i2l, 1) := by decide +kernel
theorem dX8_share_57 : decode cX8_share 57 = .ok (.invokevirtual 306, 3) := by decide +kernel
theorem dX8_share_60 : decode cX8_share 60 = .ok (.ireturn, 1) := by decide +kernel
theorem dX8_heaps_0 : decode cX8_heaps 0 = .ok (.aload_n 0, 1) := by decide +kernel
theorem dX8_heaps_1 : decode cX8_heaps 1 = .ok (.iload_n 1, 1) := by decide +kernel
theorem dX8_heaps_2 : decode cX8_heaps 2 = .ok (.invokevirtual 88, 3) := by decide +kernel
theorem dX8_heaps_5 : decode cX8_heaps 5 = .ok (.astore_n 2, 1) := by decide +kernel
theorem dX8_heaps_6 : decode cX8_heaps 6 = .ok (.aload_n 2, 1) := by decide +kernel
theorem dX8_heaps_7 : decode cX8_heaps 7 = .ok (.ifnonnull 5, 3) := by decide +kernel
theorem dX8_heaps_10 : decode cX8_heaps 10 = .ok (.iconst (-1), 1) := by decide +kernel
theorem dX8_heaps_11 : decode cX8_heaps 11 = .ok (.ireturn, 1) := by decide +kernel
theorem dX8_heaps_12 : decode cX8_heaps 12 = .ok (.aload_n 2, 1) := by decide +kernel
theorem dX8_heaps_13 : decode cX8_heaps 13 = .ok (.invokestatic 310, 3) := by decide +kernel
theorem dX8_heaps_16 : decode cX8_heaps 16 = .ok (.istore_n 3, 1) := by decide +kernel
theorem dX8_heaps_17 : decode cX8_heaps 17 = .ok (.iload_n 3, 1) := by decide +kernel
theorem dX8_heaps_18 : decode cX8_heaps 18 = .ok (.ifCond .eq 9, 3) := by decide +kernel
theorem dX8_heaps_21 : decode cX8_heaps 21 = .ok (.aload_n 0, 1) := by decide +kernel
theorem dX8_heaps_22 : decode cX8_heaps 22 = .ok (.iload_n 3, 1) := by decide +kernel
theorem dX8_heaps_23 : decode cX8_heaps 23 = .ok (.invokevirtual 100, 3) := by decide +kernel
theorem dX8_heaps_26 : decode cX8_heaps 26 = .ok (.ireturn, 1) := by decide +kernel
theorem dX8_heaps_27 : decode cX8_heaps 27 = .ok (.iconst 0, 1) := by decide +kernel
theorem dX8_heaps_28 : decode cX8_heaps 28 = .ok (.istore 4, 2) := by decide +kernel
theorem dX8_heaps_30 : decode cX8_heaps 30 = .ok (.iconst 0, 1) := by decide +kernel
theorem dX8_heaps_31 : decode cX8_heaps 31 = .ok (.istore 5, 2) := by decide +kernel
theorem dX8_heaps_33 : decode cX8_heaps 33 = .ok (.iload 5, 2) := by decide +kernel
theorem dX8_heaps_35 : decode cX8_heaps 35 = .ok (.aload_n 0, 1) := by decide +kernel
theorem dX8_heaps_36 : decode cX8_heaps 36 = .ok (.getfield 37, 3) := by decide +kernel
theorem dX8_heaps_39 : decode cX8_heaps 39 = .ok (.getfield 217, 3) := by decide +kernel
theorem dX8_heaps_42 : decode cX8_heaps 42 = .ok (.if_icmp .ge 54, 3) := by decide +kernel
theorem dX8_heaps_45 : decode cX8_heaps 45 = .ok (.iload 5, 2) := by decide +kernel
theorem dX8_heaps_47 : decode cX8_heaps 47 = .ok (.aload_n 0, 1) := by decide +kernel
theorem dX8_heaps_48 : decode cX8_heaps 48 = .ok (.getfield 72, 3) := by decide +kernel
theorem dX8_heaps_51 : decode cX8_heaps 51 = .ok (.arraylength, 1) := by decide +kernel
theorem dX8_heaps_52 : decode cX8_heaps 52 = .ok (.if_icmp .ge 44, 3) := by decide +kernel
theorem dX8_heaps_55 : decode cX8_heaps 55 = .ok (.aload_n 0, 1) := by decide +kernel
theorem dX8_heaps_56 : decode cX8_heaps 56 = .ok (.getfield 72, 3) := by decide +kernel
theorem dX8_heaps_59 : decode cX8_heaps 59 = .ok (.iload 5, 2) := by decide +kernel
theorem dX8_heaps_61 : decode cX8_heaps 61 = .ok (.aload_n 0, 1) := by decide +kernel
theorem dX8_heaps_62 : decode cX8_heaps 62 = .ok (.getfield 37, 3) := by decide +kernel
theorem dX8_heaps_65 : decode cX8_heaps 65 = .ok (.aload_n 0, 1) := by decide +kernel
theorem dX8_heaps_66 : decode cX8_heaps 66 = .ok (.getfield 37, 3) := by decide +kernel
theorem dX8_heaps_69 : decode cX8_heaps 69 = .ok (.iload 5, 2) := by decide +kernel
theorem dX8_heaps_71 : decode cX8_heaps 71 = .ok (.invokevirtual 258, 3) := by decide +kernel
theorem dX8_heaps_74 : decode cX8_heaps 74 = .ok (.invokevirtual 283, 3) := by decide +kernel
theorem dX8_heaps_77 : decode cX8_heaps 77 = .ok (.iastore, 1) := by decide +kernel
theorem dX8_heaps_78 : decode cX8_heaps 78 = .ok (.iload 4, 2) := by decide +kernel
theorem dX8_heaps_80 : decode cX8_heaps 80 = .ok (.aload_n 0, 1) := by decide +kernel
theorem dX8_heaps_81 : decode cX8_heaps 81 = .ok (.getfield 72, 3) := by decide +kernel
theorem dX8_heaps_84 : decode cX8_heaps 84 = .ok (.iload 5, 2) := by decide +kernel
theorem dX8_heaps_86 : decode cX8_heaps 86 = .ok (.iaload, 1) := by decide +kernel
theorem dX8_heaps_87 : decode cX8_heaps 87 = .ok (.iadd, 1) := by decide +kernel
theorem dX8_heaps_88 : decode cX8_heaps 88 = .ok (.istore 4, 2) := by decide +kernel
theorem dX8_heaps_90 : decode cX8_heaps 90 = .ok (.iinc 5 1, 3) := by decide +kernel
theorem dX8_heaps_93 : decode cX8_heaps 93 = .ok (.goto (-60), 3) := by decide +kernel
theorem dX8_heaps_96 : decode cX8_heaps 96 = .ok (.aload_n 0, 1) := by decide +kernel
theorem dX8_heaps_97 : decode cX8_heaps 97 = .ok (.aload_n 2, 1) := by decide +kernel
theorem dX8_heaps_98 : decode cX8_heaps 98 = .ok (.invokevirtual 137, 3) := by decide +kernel
theorem dX8_heaps_101 : decode cX8_heaps 101 = .ok (.iload 4, 2) := by decide +kernel
theorem dX8_heaps_103 : decode cX8_heaps 103 = .ok (.i2l, 1) := by decide +kernel
theorem dX8_heaps_104 : decode cX8_heaps 104 = .ok (.lcmp, 1) := by decide +kernel
theorem dX8_heaps_105 : decode cX8_heaps 105 = .ok (.ifCond .ne 13, 3) := by decide +kernel
theorem dX8_heaps_108 : decode cX8_heaps 108 = .ok (.aload_n 0, 1) := by decide +kernel
theorem dX8_heaps_109 : decode cX8_heaps 109 = .ok (.aload_n 2, 1) := by decide +kernel
theorem dX8_heaps_110 : decode cX8_heaps 110 = .ok (.iconst 0, 1) := by decide +kernel
theorem dX8_heaps_111 : decode cX8_heaps 111 = .ok (.invokevirtual 313, 3) := by decide +kernel
theorem dX8_heaps_114 : decode cX8_heaps 114 = .ok (.i2l, 1) := by decide +kernel
theorem dX8_heaps_115 : decode cX8_heaps 115 = .ok (.goto 4, 3) := by decide +kernel
theorem dX8_heaps_118 : decode cX8_heaps 118 = .ok (.lconst 0, 1) := by decide +kernel
theorem dX8_heaps_119 : decode cX8_heaps 119 = .ok (.lconst 1, 1) := by decide +kernel
theorem dX8_heaps_120 : decode cX8_heaps 120 = .ok (.invokevirtual 306, 3) := by decide +kernel
theorem dX8_heaps_123 : decode cX8_heaps 123 = .ok (.ireturn, 1) := by decide +kernel
theorem dX8_lies_0 : decode cX8_lies 0 = .ok (.aload_n 0, 1) := by decide +kernel
theorem dX8_lies_1 : decode cX8_lies 1 = .ok (.iload_n 1, 1) := by decide +kernel
theorem dX8_lies_2 : decode cX8_lies 2 = .ok (.invokevirtual 88, 3) := by decide +kernel
theorem dX8_lies_5 : decode cX8_lies 5 = .ok (.astore_n 2, 1) := by decide +kernel
theorem dX8_lies_6 : decode cX8_lies 6 = .ok (.aload_n 2, 1) := by decide +kernel
theorem dX8_lies_7 : decode cX8_lies 7 = .ok (.ifnonnull 5, 3) := by decide +kernel
theorem dX8_lies_10 : decode cX8_lies 10 = .ok (.iconst (-1), 1) := by decide +kernel
theorem dX8_lies_11 : decode cX8_lies 11 = .ok (.ireturn, 1) := by decide +kernel
theorem dX8_lies_12 : decode cX8_lies 12 = .ok (.aload_n 2, 1) := by decide +kernel
theorem dX8_lies_13 : decode cX8_lies 13 = .ok (.aload_n 0, 1) := by decide +kernel
theorem dX8_lies_14 : decode cX8_lies 14 = .ok (.getfield 28, 3) := by decide +kernel
theorem dX8_lies_17 : decode cX8_lies 17 = .ok (.invokestatic 316, 3) := by decide +kernel
theorem dX8_lies_20 : decode cX8_lies 20 = .ok (.istore_n 3, 1) := by decide +kernel
theorem dX8_lies_21 : decode cX8_lies 21 = .ok (.iload_n 3, 1) := by decide +kernel
theorem dX8_lies_22 : decode cX8_lies 22 = .ok (.ifCond .eq 9, 3) := by decide +kernel
theorem dX8_lies_25 : decode cX8_lies 25 = .ok (.aload_n 0, 1) := by decide +kernel
theorem dX8_lies_26 : decode cX8_lies 26 = .ok (.iload_n 3, 1) := by decide +kernel
theorem dX8_lies_27 : decode cX8_lies 27 = .ok (.invokevirtual 100, 3) := by decide +kernel
theorem dX8_lies_30 : decode cX8_lies 30 = .ok (.ireturn, 1) := by decide +kernel
theorem dX8_lies_31 : decode cX8_lies 31 = .ok (.aload_n 0, 1) := by decide +kernel
theorem dX8_lies_32 : decode cX8_lies 32 = .ok (.aload_n 2, 1) := by decide +kernel
theorem dX8_lies_33 : decode cX8_lies 33 = .ok (.aload_n 0, 1) := by decide +kernel
theorem dX8_lies_34 : decode cX8_lies 34 = .ok (.getfield 37, 3) := by decide +kernel
theorem dX8_lies_37 : decode cX8_lies 37 = .ok (.invokestatic 322, 3) := by decide +kernel
theorem dX8_lies_40 : decode cX8_lies 40 = .ok (.putfield 107, 3) := by decide +kernel
theorem dX8_lies_43 : decode cX8_lies 43 = .ok (.aload_n 2, 1) := by decide +kernel
theorem dX8_lies_44 : decode cX8_lies 44 = .ok (.aload_n 0, 1) := by decide +kernel
theorem dX8_lies_45 : decode cX8_lies 45 = .ok (.getfield 37, 3) := by decide +kernel
theorem dX8_lies_48 : decode cX8_lies 48 = .ok (.invokestatic 326, 3) := by decide +kernel
theorem dX8_lies_51 : decode cX8_lies 51 = .ok (.ireturn, 1) := by decide +kernel
theorem dX8_day_0 : decode cX8_day 0 = .ok (.aload_n 0, 1) := by decide +kernel
theorem dX8_day_1 : decode cX8_day 1 = .ok (.iload_n 1, 1) := by decide +kernel
theorem dX8_day_2 : decode cX8_day 2 = .ok (.invokevirtual 88, 3) := by decide +kernel
theorem dX8_day_5 : decode cX8_day 5 = .ok (.astore_n 2, 1) := by decide +kernel
theorem dX8_day_6 : decode cX8_day 6 = .ok (.aload_n 2, 1) := by decide +kernel
theorem dX8_day_7 : decode cX8_day 7 = .ok (.ifnonnull 5, 3) := by decide +kernel
theorem dX8_day_10 : decode cX8_day 10 = .ok (.iconst (-1), 1) := by decide +kernel
theorem dX8_day_11 : decode cX8_day 11 = .ok (.ireturn, 1) := by decide +kernel
theorem dX8_day_12 : decode cX8_day 12 = .ok (.aload_n 2, 1) := by decide +kernel
theorem dX8_day_13 : decode cX8_day 13 = .ok (.aload_n 0, 1) := by decide +kernel
theorem dX8_day_14 : decode cX8_day 14 = .ok (.getfield 28, 3) := by decide +kernel
theorem dX8_day_17 : decode cX8_day 17 = .ok (.invokestatic 316, 3) := by decide +kernel
theorem dX8_day_20 : decode cX8_day 20 = .ok (.istore_n 3, 1) := by decide +kernel
theorem dX8_day_21 : decode cX8_day 21 = .ok (.iload_n 3, 1) := by decide +kernel
theorem dX8_day_22 : decode cX8_day 22 = .ok (.ifCond .eq 9, 3) := by decide +kernel
theorem dX8_day_25 : decode cX8_day 25 = .ok (.aload_n 0, 1) := by decide +kernel
theorem dX8_day_26 : decode cX8_day 26 = .ok (.iload_n 3, 1) := by decide +kernel
theorem dX8_day_27 : decode cX8_day 27 = .ok (.invokevirtual 100, 3) := by decide +kernel
theorem dX8_day_30 : decode cX8_day 30 = .ok (.ireturn, 1) := by decide +kernel
theorem dX8_day_31 : decode cX8_day 31 = .ok (.iconst 0, 1) := by decide +kernel
theorem dX8_day_32 : decode cX8_day 32 = .ok (.istore 4, 2) := by decide +kernel
theorem dX8_day_34 : decode cX8_day 34 = .ok (.bipush (-9), 2) := by decide +kernel
theorem dX8_day_36 : decode cX8_day 36 = .ok (.istore 5, 2) := by decide +kernel
theorem dX8_day_38 : decode cX8_day 38 = .ok (.iconst 0, 1) := by decide +kernel
theorem dX8_day_39 : decode cX8_day 39 = .ok (.istore 6, 2) := by decide +kernel
theorem dX8_day_41 : decode cX8_day 41 = .ok (.iload 6, 2) := by decide +kernel
theorem dX8_day_43 : decode cX8_day 43 = .ok (.aload_n 0, 1) := by decide +kernel
theorem dX8_day_44 : decode cX8_day 44 = .ok (.getfield 41, 3) := by decide +kernel
theorem dX8_day_47 : decode cX8_day 47 = .ok (.arraylength, 1) := by decide +kernel
theorem dX8_day_48 : decode cX8_day 48 = .ok (.if_icmp .ge 57, 3) := by decide +kernel
theorem dX8_day_51 : decode cX8_day 51 = .ok (.aload_n 0, 1) := by decide +kernel
theorem dX8_day_52 : decode cX8_day 52 = .ok (.getfield 41, 3) := by decide +kernel
theorem dX8_day_55 : decode cX8_day 55 = .ok (.iload 6, 2) := by decide +kernel
theorem dX8_day_57 : decode cX8_day 57 = .ok (.aaload, 1) := by decide +kernel
theorem dX8_day_58 : decode cX8_day 58 = .ok (.getfield 210, 3) := by decide +kernel
theorem dX8_day_61 : decode cX8_day 61 = .ok (.ifCond .eq 38, 3) := by decide +kernel
theorem dX8_day_64 : decode cX8_day 64 = .ok (.aload_n 2, 1) := by decide +kernel
theorem dX8_day_65 : decode cX8_day 65 = .ok (.aload_n 0, 1) := by decide +kernel
theorem dX8_day_66 : decode cX8_day 66 = .ok (.getfield 41, 3) := by decide +kernel
theorem dX8_day_69 : decode cX8_day 69 = .ok (.iload 6, 2) := by decide +kernel
theorem dX8_day_71 : decode cX8_day 71 = .ok (.aaload, 1) := by decide +kernel
theorem dX8_day_72 : decode cX8_day 72 = .ok (.invokestatic 326, 3) := by decide +kernel
theorem dX8_day_75 : decode cX8_day 75 = .ok (.istore 7, 2) := by decide +kernel
theorem dX8_day_77 : decode cX8_day 77 = .ok (.iload 5, 2) := by decide +kernel
theorem dX8_day_79 : decode cX8_day 79 = .ok (.bipush (-9), 2) := by decide +kernel
theorem dX8_day_81 : decode cX8_day 81 = .ok (.if_icmp .eq 10, 3) := by decide +kernel
theorem dX8_day_84 : decode cX8_day 84 = .ok (.iload 7, 2) := by decide +kernel
theorem dX8_day_86 : decode cX8_day 86 = .ok (.iload 4, 2) := by decide +kernel
theorem dX8_day_88 : decode cX8_day 88 = .ok (.if_icmp .ge 11, 3) := by decide +kernel
theorem dX8_day_91 : decode cX8_day 91 = .ok (.iload 7, 2) := by decide +kernel
theorem dX8_day_93 : decode cX8_day 93 = .ok (.istore 4, 2) := by decide +kernel
theorem dX8_day_95 : decode cX8_day 95 = .ok (.iload 6, 2) := by decide +kernel
theorem dX8_day_97 : decode cX8_day 97 = .ok (.istore 5, 2) := by decide +kernel
theorem dX8_day_99 : decode cX8_day 99 = .ok (.iinc 6 1, 3) := by decide +kernel
theorem dX8_day_102 : decode cX8_day 102 = .ok (.goto (-61), 3) := by decide +kernel
theorem dX8_day_105 : decode cX8_day 105 = .ok (.iload 5, 2) := by decide +kernel
theorem dX8_day_107 : decode cX8_day 107 = .ok (.bipush (-9), 2) := by decide +kernel
theorem dX8_day_109 : decode cX8_day 109 = .ok (.if_icmp .eq 9, 3) := by decide +kernel
theorem dX8_day_112 : decode cX8_day 112 = .ok (.aload_n 0, 1) := by decide +kernel
theorem dX8_day_113 : decode cX8_day 113 = .ok (.iload 4, 2) := by decide +kernel
theorem dX8_day_115 : decode cX8_day 115 = .ok (.putfield 107, 3) := by decide +kernel
theorem dX8_day_118 : decode cX8_day 118 = .ok (.iload 5, 2) := by decide +kernel
theorem dX8_day_120 : decode cX8_day 120 = .ok (.ireturn, 1) := by decide +kernel
theorem dX8_grounds_0 : decode cX8_grounds 0 = .ok (.aload_n 0, 1) := by decide +kernel
theorem dX8_grounds_1 : decode cX8_grounds 1 = .ok (.iload_n 1, 1) := by decide +kernel
theorem dX8_grounds_2 : decode cX8_grounds 2 = .ok (.invokevirtual 88, 3) := by decide +kernel
theorem dX8_grounds_5 : decode cX8_grounds 5 = .ok (.astore_n 2, 1) := by decide +kernel
theorem dX8_grounds_6 : decode cX8_grounds 6 = .ok (.aload_n 2, 1) := by decide +kernel
theorem dX8_grounds_7 : decode cX8_grounds 7 = .ok (.ifnonnull 5, 3) := by decide +kernel
theorem dX8_grounds_10 : decode cX8_grounds 10 = .ok (.iconst (-1), 1) := by decide +kernel
theorem dX8_grounds_11 : decode cX8_grounds 11 = .ok (.ireturn, 1) := by decide +kernel
theorem dX8_grounds_12 : decode cX8_grounds 12 = .ok (.aload_n 2, 1) := by decide +kernel
theorem dX8_grounds_13 : decode cX8_grounds 13 = .ok (.aload_n 0, 1) := by decide +kernel
theorem dX8_grounds_14 : decode cX8_grounds 14 = .ok (.getfield 28, 3) := by decide +kernel
theorem dX8_grounds_17 : decode cX8_grounds 17 = .ok (.invokestatic 316, 3) := by decide +kernel
theorem dX8_grounds_20 : decode cX8_grounds 20 = .ok (.istore_n 3, 1) := by decide +kernel
theorem dX8_grounds_21 : decode cX8_grounds 21 = .ok (.iload_n 3, 1) := by decide +kernel
theorem dX8_grounds_22 : decode cX8_grounds 22 = .ok (.ifCond .eq 9, 3) := by decide +kernel
theorem dX8_grounds_25 : decode cX8_grounds 25 = .ok (.aload_n 0, 1) := by decide +kernel
theorem dX8_grounds_26 : decode cX8_grounds 26 = .ok (.iload_n 3, 1) := by decide +kernel
theorem dX8_grounds_27 : decode cX8_grounds 27 = .ok (.invokevirtual 100, 3) := by decide +kernel
theorem dX8_grounds_30 : decode cX8_grounds 30 = .ok (.ireturn, 1) := by decide +kernel
theorem dX8_grounds_31 : decode cX8_grounds 31 = .ok (.aload_n 0, 1) := by decide +kernel
theorem dX8_grounds_32 : decode cX8_grounds 32 = .ok (.aload_n 2, 1) := by decide +kernel
theorem dX8_grounds_33 : decode cX8_grounds 33 = .ok (.aload_n 0, 1) := by decide +kernel
theorem dX8_grounds_34 : decode cX8_grounds 34 = .ok (.getfield 28, 3) := by decide +kernel
theorem dX8_grounds_37 : decode cX8_grounds 37 = .ok (.invokestatic 329, 3) := by decide +kernel
theorem dX8_grounds_40 : decode cX8_grounds 40 = .ok (.lconst 1, 1) := by decide +kernel
theorem dX8_grounds_41 : decode cX8_grounds 41 = .ok (.invokevirtual 306, 3) := by decide +kernel
theorem dX8_grounds_44 : decode cX8_grounds 44 = .ok (.ireturn, 1) := by decide +kernel
theorem dX8_odds_0 : decode cX8_odds 0 = .ok (.aload_n 0, 1) := by decide +kernel
theorem dX8_odds_1 : decode cX8_odds 1 = .ok (.getfield 37, 3) := by decide +kernel
theorem dX8_odds_4 : decode cX8_odds 4 = .ok (.iload_n 1, 1) := by decide +kernel
theorem dX8_odds_5 : decode cX8_odds 5 = .ok (.invokevirtual 189, 3) := by decide +kernel
theorem dX8_odds_8 : decode cX8_odds 8 = .ok (.ifCond .eq 13, 3) := by decide +kernel
theorem dX8_odds_11 : decode cX8_odds 11 = .ok (.iload_n 2, 1) := by decide +kernel
theorem dX8_odds_12 : decode cX8_odds 12 = .ok (.ifCond .lt 9, 3) := by decide +kernel
theorem dX8_odds_15 : decode cX8_odds 15 = .ok (.iload_n 2, 1) := by decide +kernel
theorem dX8_odds_16 : decode cX8_odds 16 = .ok (.bipush 12, 2) := by decide +kernel
theorem dX8_odds_18 : decode cX8_odds 18 = .ok (.if_icmp .le 5, 3) := by decide +kernel
theorem dX8_odds_21 : decode cX8_odds 21 = .ok (.iconst (-1), 1) := by decide +kernel
theorem dX8_odds_22 : decode cX8_odds 22 = .ok (.ireturn, 1) := by decide +kernel
theorem dX8_odds_23 : decode cX8_odds 23 = .ok (.aload_n 0, 1) := by decide +kernel
theorem dX8_odds_24 : decode cX8_odds 24 = .ok (.getfield 37, 3) := by decide +kernel
theorem dX8_odds_27 : decode cX8_odds 27 = .ok (.iload_n 1, 1) := by decide +kernel
theorem dX8_odds_28 : decode cX8_odds 28 = .ok (.invokevirtual 258, 3) := by decide +kernel
theorem dX8_odds_31 : decode cX8_odds 31 = .ok (.istore_n 3, 1) := by decide +kernel
theorem dX8_odds_32 : decode cX8_odds 32 = .ok (.lconst 1, 1) := by decide +kernel
theorem dX8_odds_33 : decode cX8_odds 33 = .ok (.lstore 4, 2) := by decide +kernel
theorem dX8_odds_35 : decode cX8_odds 35 = .ok (.lconst 1, 1) := by decide +kernel
theorem dX8_odds_36 : decode cX8_odds 36 = .ok (.lstore 6, 2) := by decide +kernel
theorem dX8_odds_38 : decode cX8_odds 38 = .ok (.iconst 0, 1) := by decide +kernel
theorem dX8_odds_39 : decode cX8_odds 39 = .ok (.istore 8, 2) := by decide +kernel
theorem dX8_odds_41 : decode cX8_odds 41 = .ok (.iload 8, 2) := by decide +kernel
theorem dX8_odds_43 : decode cX8_odds 43 = .ok (.aload_n 0, 1) := by decide +kernel
theorem dX8_odds_44 : decode cX8_odds 44 = .ok (.getfield 28, 3) := by decide +kernel
theorem dX8_odds_47 : decode cX8_odds 47 = .ok (.getfield 164, 3) := by decide +kernel
theorem dX8_odds_50 : decode cX8_odds 50 = .ok (.if_icmp .ge 49, 3) := by decide +kernel
theorem dX8_odds_53 : decode cX8_odds 53 = .ok (.iload_n 3, 1) := by decide +kernel
theorem dX8_odds_54 : decode cX8_odds 54 = .ok (.iload 8, 2) := by decide +kernel
theorem dX8_odds_56 : decode cX8_odds 56 = .ok (.iushr, 1) := by decide +kernel
theorem dX8_odds_57 : decode cX8_odds 57 = .ok (.iconst 1, 1) := by decide +kernel
theorem dX8_odds_58 : decode cX8_odds 58 = .ok (.iand, 1) := by decide +kernel
theorem dX8_odds_59 : decode cX8_odds 59 = .ok (.ifCond .eq 34, 3) := by decide +kernel
theorem dX8_odds_62 : decode cX8_odds 62 = .ok (.aload_n 0, 1) := by decide +kernel
theorem dX8_odds_63 : decode cX8_odds 63 = .ok (.getfield 37, 3) := by decide +kernel
theorem dX8_odds_66 : decode cX8_odds 66 = .ok (.iload 8, 2) := by decide +kernel
theorem dX8_odds_68 : decode cX8_odds 68 = .ok (.invokevirtual 203, 3) := by decide +kernel
theorem dX8_odds_71 : decode cX8_odds 71 = .ok (.iconst 1, 1) := by decide +kernel
theorem dX8_odds_72 : decode cX8_odds 72 = .ok (.if_icmp .ne 21, 3) := by decide +kernel
theorem dX8_odds_75 : decode cX8_odds 75 = .ok (.lload 4, 2) := by decide +kernel
theorem dX8_odds_77 : decode cX8_odds 77 = .ok (.bipush 12, 2) := by decide +kernel
theorem dX8_odds_79 : decode cX8_odds 79 = .ok (.iload_n 2, 1) := by decide +kernel
theorem dX8_odds_80 : decode cX8_odds 80 = .ok (.isub, 1) := by decide +kernel
theorem dX8_odds_81 : decode cX8_odds 81 = .ok (.i2l, 1) := by decide +kernel
theorem dX8_odds_82 : decode cX8_odds 82 = .ok (.lmul, 1) := by decide +kernel
theorem dX8_odds_83 : decode cX8_odds 83 = .ok (.lstore 4, 2) := by decide +kernel
theorem dX8_odds_85 : decode cX8_odds 85 = .ok (.lload 6, 2) := by decide +kernel
theorem dX8_odds_87 : decode cX8_odds 87 = .ok (.ldc2_w 333, 3) := by decide +kernel
theorem dX8_odds_90 : decode cX8_odds 90 = .ok (.lmul, 1) := by decide +kernel
theorem dX8_odds_91 : decode cX8_odds 91 = .ok (.lstore 6, 2) := by decide +kernel
theorem dX8_odds_93 : decode cX8_odds 93 = .ok (.iinc 8 1, 3) := by decide +kernel
theorem dX8_odds_96 : decode cX8_odds 96 = .ok (.goto (-55), 3) := by decide +kernel
theorem dX8_odds_99 : decode cX8_odds 99 = .ok (.aload_n 0, 1) := by decide +kernel
theorem dX8_odds_100 : decode cX8_odds 100 = .ok (.lload 4, 2) := by decide +kernel
theorem dX8_odds_102 : decode cX8_odds 102 = .ok (.lload 6, 2) := by decide +kernel
theorem dX8_odds_104 : decode cX8_odds 104 = .ok (.invokevirtual 306, 3) := by decide +kernel
theorem dX8_odds_107 : decode cX8_odds 107 = .ok (.ireturn, 1) := by decide +kernel
theorem dX8_gone_0 : decode cX8_gone 0 = .ok (.aload_n 0, 1) := by decide +kernel
theorem dX8_gone_1 : decode cX8_gone 1 = .ok (.getfield 28, 3) := by decide +kernel
theorem dX8_gone_4 : decode cX8_gone 4 = .ok (.iload_n 1, 1) := by decide +kernel
theorem dX8_gone_5 : decode cX8_gone 5 = .ok (.invokevirtual 167, 3) := by decide +kernel
theorem dX8_gone_8 : decode cX8_gone 8 = .ok (.ifCond .eq 23, 3) := by decide +kernel
theorem dX8_gone_11 : decode cX8_gone 11 = .ok (.iload_n 2, 1) := by decide +kernel
theorem dX8_gone_12 : decode cX8_gone 12 = .ok (.ifCond .lt 19, 3) := by decide +kernel
theorem dX8_gone_15 : decode cX8_gone 15 = .ok (.iload_n 2, 1) := by decide +kernel
theorem dX8_gone_16 : decode cX8_gone 16 = .ok (.bipush 8, 2) := by decide +kernel
theorem dX8_gone_18 : decode cX8_gone 18 = .ok (.if_icmp .gt 13, 3) := by decide +kernel
theorem dX8_gone_21 : decode cX8_gone 21 = .ok (.iload_n 3, 1) := by decide +kernel
theorem dX8_gone_22 : decode cX8_gone 22 = .ok (.ifCond .lt 9, 3) := by decide +kernel
theorem dX8_gone_25 : decode cX8_gone 25 = .ok (.iload_n 3, 1) := by decide +kernel
theorem dX8_gone_26 : decode cX8_gone 26 = .ok (.bipush 12, 2) := by decide +kernel
theorem dX8_gone_28 : decode cX8_gone 28 = .ok (.if_icmp .le 5, 3) := by decide +kernel
theorem dX8_gone_31 : decode cX8_gone 31 = .ok (.iconst (-1), 1) := by decide +kernel
theorem dX8_gone_32 : decode cX8_gone 32 = .ok (.ireturn, 1) := by decide +kernel
theorem dX8_gone_33 : decode cX8_gone 33 = .ok (.lconst 1, 1) := by decide +kernel
theorem dX8_gone_34 : decode cX8_gone 34 = .ok (.lstore 4, 2) := by decide +kernel
theorem dX8_gone_36 : decode cX8_gone 36 = .ok (.iconst 0, 1) := by decide +kernel
theorem dX8_gone_37 : decode cX8_gone 37 = .ok (.istore 6, 2) := by decide +kernel
theorem dX8_gone_39 : decode cX8_gone 39 = .ok (.iload 6, 2) := by decide +kernel
theorem dX8_gone_41 : decode cX8_gone 41 = .ok (.iload_n 2, 1) := by decide +kernel
theorem dX8_gone_42 : decode cX8_gone 42 = .ok (.if_icmp .ge 17, 3) := by decide +kernel
theorem dX8_gone_45 : decode cX8_gone 45 = .ok (.lload 4, 2) := by decide +kernel
theorem dX8_gone_47 : decode cX8_gone 47 = .ok (.ldc2_w 333, 3) := by decide +kernel
theorem dX8_gone_50 : decode cX8_gone 50 = .ok (.lmul, 1) := by decide +kernel
theorem dX8_gone_51 : decode cX8_gone 51 = .ok (.lstore 4, 2) := by decide +kernel
theorem dX8_gone_53 : decode cX8_gone 53 = .ok (.iinc 6 1, 3) := by decide +kernel
theorem dX8_gone_56 : decode cX8_gone 56 = .ok (.goto (-17), 3) := by decide +kernel
theorem dX8_gone_59 : decode cX8_gone 59 = .ok (.aload_n 0, 1) := by decide +kernel
theorem dX8_gone_60 : decode cX8_gone 60 = .ok (.aload_n 0, 1) := by decide +kernel
theorem dX8_gone_61 : decode cX8_gone 61 = .ok (.getfield 37, 3) := by decide +kernel
theorem dX8_gone_64 : decode cX8_gone 64 = .ok (.iload_n 1, 1) := by decide +kernel
theorem dX8_gone_65 : decode cX8_gone 65 = .ok (.invokevirtual 203, 3) := by decide +kernel
theorem dX8_gone_68 : decode cX8_gone 68 = .ok (.iload_n 2, 1) := by decide +kernel
theorem dX8_gone_69 : decode cX8_gone 69 = .ok (.iload_n 3, 1) := by decide +kernel
theorem dX8_gone_70 : decode cX8_gone 70 = .ok (.invokestatic 335, 3) := by decide +kernel
theorem dX8_gone_73 : decode cX8_gone 73 = .ok (.lload 4, 2) := by decide +kernel
theorem dX8_gone_75 : decode cX8_gone 75 = .ok (.invokevirtual 306, 3) := by decide +kernel
theorem dX8_gone_78 : decode cX8_gone 78 = .ok (.ireturn, 1) := by decide +kernel
theorem dX8_asked_0 : decode cX8_asked 0 = .ok (.aload_n 0, 1) := by decide +kernel
theorem dX8_asked_1 : decode cX8_asked 1 = .ok (.getfield 107, 3) := by decide +kernel
theorem dX8_asked_4 : decode cX8_asked 4 = .ok (.ireturn, 1) := by decide +kernel
theorem dX8_upper_0 : decode cX8_upper 0 = .ok (.aload_n 0, 1) := by decide +kernel
theorem dX8_upper_1 : decode cX8_upper 1 = .ok (.getfield 339, 3) := by decide +kernel
theorem dX8_upper_4 : decode cX8_upper 4 = .ok (.lreturn, 1) := by decide +kernel
theorem dX8_lower_0 : decode cX8_lower 0 = .ok (.aload_n 0, 1) := by decide +kernel
theorem dX8_lower_1 : decode cX8_lower 1 = .ok (.getfield 75, 3) := by decide +kernel
theorem dX8_lower_4 : decode cX8_lower 4 = .ok (.lreturn, 1) := by decide +kernel
theorem dX8_count_0 : decode cX8_count 0 = .ok (.iload_n 1, 1) := by decide +kernel
theorem dX8_count_1 : decode cX8_count 1 = .ok (.ifCond .lt 9, 3) := by decide +kernel
theorem dX8_count_4 : decode cX8_count 4 = .ok (.iload_n 1, 1) := by decide +kernel
theorem dX8_count_5 : decode cX8_count 5 = .ok (.bipush 10, 2) := by decide +kernel
theorem dX8_count_7 : decode cX8_count 7 = .ok (.if_icmp .lt 7, 3) := by decide +kernel
theorem dX8_count_10 : decode cX8_count 10 = .ok (.iconst (-1), 1) := by decide +kernel
theorem dX8_count_11 : decode cX8_count 11 = .ok (.goto 8, 3) := by decide +kernel
theorem dX8_count_14 : decode cX8_count 14 = .ok (.aload_n 0, 1) := by decide +kernel
theorem dX8_count_15 : decode cX8_count 15 = .ok (.iload_n 1, 1) := by decide +kernel
theorem dX8_count_16 : decode cX8_count 16 = .ok (.invokevirtual 342, 3) := by decide +kernel
theorem dX8_count_19 : decode cX8_count 19 = .ok (.ireturn, 1) := by decide +kernel
theorem dX8_finding_0 : decode cX8_finding 0 = .ok (.aload_n 0, 1) := by decide +kernel
theorem dX8_finding_1 : decode cX8_finding 1 = .ok (.getfield 345, 3) := by decide +kernel
theorem dX8_finding_4 : decode cX8_finding 4 = .ok (.ireturn, 1) := by decide +kernel
theorem dX8_findings_0 : decode cX8_findings 0 = .ok (.iload_n 1, 1) := by decide +kernel
theorem dX8_findings_1 : decode cX8_findings 1 = .ok (.iconst 1, 1) := by decide +kernel
theorem dX8_findings_2 : decode cX8_findings 2 = .ok (.if_icmp .lt 12, 3) := by decide +kernel
theorem dX8_findings_5 : decode cX8_findings 5 = .ok (.iload_n 1, 1) := by decide +kernel
theorem dX8_findings_6 : decode cX8_findings 6 = .ok (.aload_n 0, 1) := by decide +kernel
theorem dX8_findings_7 : decode cX8_findings 7 = .ok (.getfield 79, 3) := by decide +kernel
theorem dX8_findings_10 : decode cX8_findings 10 = .ok (.arraylength, 1) := by decide +kernel
theorem dX8_findings_11 : decode cX8_findings 11 = .ok (.if_icmp .lt 7, 3) := by decide +kernel
theorem dX8_findings_14 : decode cX8_findings 14 = .ok (.iconst (-1), 1) := by decide +kernel
theorem dX8_findings_15 : decode cX8_findings 15 = .ok (.goto 9, 3) := by decide +kernel
theorem dX8_findings_18 : decode cX8_findings 18 = .ok (.aload_n 0, 1) := by decide +kernel
theorem dX8_findings_19 : decode cX8_findings 19 = .ok (.getfield 79, 3) := by decide +kernel
theorem dX8_findings_22 : decode cX8_findings 22 = .ok (.iload_n 1, 1) := by decide +kernel
theorem dX8_findings_23 : decode cX8_findings 23 = .ok (.iaload, 1) := by decide +kernel
theorem dX8_findings_24 : decode cX8_findings 24 = .ok (.ireturn, 1) := by decide +kernel
theorem dX8_digest_0 : decode cX8_digest 0 = .ok (.ldc2_w 348, 3) := by decide +kernel
theorem dX8_digest_3 : decode cX8_digest 3 = .ok (.lstore_n 1, 1) := by decide +kernel
theorem dX8_digest_4 : decode cX8_digest 4 = .ok (.iconst 0, 1) := by decide +kernel
theorem dX8_digest_5 : decode cX8_digest 5 = .ok (.istore_n 3, 1) := by decide +kernel
theorem dX8_digest_6 : decode cX8_digest 6 = .ok (.iload_n 3, 1) := by decide +kernel
theorem dX8_digest_7 : decode cX8_digest 7 = .ok (.bipush 10, 2) := by decide +kernel
theorem dX8_digest_9 : decode cX8_digest 9 = .ok (.if_icmp .ge 22, 3) := by decide +kernel
theorem dX8_digest_12 : decode cX8_digest 12 = .ok (.ldc2_w 350, 3) := by decide +kernel
theorem dX8_digest_15 : decode cX8_digest 15 = .ok (.lload_n 1, 1) := by decide +kernel
theorem dX8_digest_16 : decode cX8_digest 16 = .ok (.lmul, 1) := by decide +kernel
theorem dX8_digest_17 : decode cX8_digest 17 = .ok (.aload_n 0, 1) := by decide +kernel
theorem dX8_digest_18 : decode cX8_digest 18 = .ok (.iload_n 3, 1) := by decide +kernel
theorem dX8_digest_19 : decode cX8_digest 19 = .ok (.invokevirtual 342, 3) := by decide +kernel
theorem dX8_digest_22 : decode cX8_digest 22 = .ok (.i2l, 1) := by decide +kernel
theorem dX8_digest_23 : decode cX8_digest 23 = .ok (.ladd, 1) := by decide +kernel
theorem dX8_digest_24 : decode cX8_digest 24 = .ok (.lstore_n 1, 1) := by decide +kernel
theorem dX8_digest_25 : decode cX8_digest 25 = .ok (.iinc 3 1, 3) := by decide +kernel
theorem dX8_digest_28 : decode cX8_digest 28 = .ok (.goto (-22), 3) := by decide +kernel
theorem dX8_digest_31 : decode cX8_digest 31 = .ok (.iconst 0, 1) := by decide +kernel
theorem dX8_digest_32 : decode cX8_digest 32 = .ok (.istore_n 3, 1) := by decide +kernel
theorem dX8_digest_33 : decode cX8_digest 33 = .ok (.iload_n 3, 1) := by decide +kernel
theorem dX8_digest_34 : decode cX8_digest 34 = .ok (.aload_n 0, 1) := by decide +kernel
theorem dX8_digest_35 : decode cX8_digest 35 = .ok (.getfield 28, 3) := by decide +kernel
theorem dX8_digest_38 : decode cX8_digest 38 = .ok (.getfield 164, 3) := by decide +kernel
theorem dX8_digest_41 : decode cX8_digest 41 = .ok (.if_icmp .ge 39, 3) := by decide +kernel
theorem dX8_digest_44 : decode cX8_digest 44 = .ok (.iconst 0, 1) := by decide +kernel
theorem dX8_digest_45 : decode cX8_digest 45 = .ok (.istore 4, 2) := by decide +kernel
theorem dX8_digest_47 : decode cX8_digest 47 = .ok (.iload 4, 2) := by decide +kernel
theorem dX8_digest_49 : decode cX8_digest 49 = .ok (.iconst 3, 1) := by decide +kernel
theorem dX8_digest_50 : decode cX8_digest 50 = .ok (.if_icmp .ge 24, 3) := by decide +kernel
theorem dX8_digest_53 : decode cX8_digest 53 = .ok (.ldc2_w 350, 3) := by decide +kernel
theorem dX8_digest_56 : decode cX8_digest 56 = .ok (.lload_n 1, 1) := by decide +kernel
theorem dX8_digest_57 : decode cX8_digest 57 = .ok (.lmul, 1) := by decide +kernel
theorem dX8_digest_58 : decode cX8_digest 58 = .ok (.aload_n 0, 1) := by decide +kernel
theorem dX8_digest_59 : decode cX8_digest 59 = .ok (.iload_n 3, 1) := by decide +kernel
theorem dX8_digest_60 : decode cX8_digest 60 = .ok (.iload 4, 2) := by decide +kernel
theorem dX8_digest_62 : decode cX8_digest 62 = .ok (.invokevirtual 171, 3) := by decide +kernel
theorem dX8_digest_65 : decode cX8_digest 65 = .ok (.i2l, 1) := by decide +kernel
theorem dX8_digest_66 : decode cX8_digest 66 = .ok (.ladd, 1) := by decide +kernel
theorem dX8_digest_67 : decode cX8_digest 67 = .ok (.lstore_n 1, 1) := by decide +kernel
theorem dX8_digest_68 : decode cX8_digest 68 = .ok (.iinc 4 1, 3) := by decide +kernel
theorem dX8_digest_71 : decode cX8_digest 71 = .ok (.goto (-24), 3) := by decide +kernel
theorem dX8_digest_74 : decode cX8_digest 74 = .ok (.iinc 3 1, 3) := by decide +kernel
theorem dX8_digest_77 : decode cX8_digest 77 = .ok (.goto (-44), 3) := by decide +kernel
theorem dX8_digest_80 : decode cX8_digest 80 = .ok (.iconst 0, 1) := by decide +kernel
theorem dX8_digest_81 : decode cX8_digest 81 = .ok (.istore_n 3, 1) := by decide +kernel
theorem dX8_digest_82 : decode cX8_digest 82 = .ok (.iload_n 3, 1) := by decide +kernel
theorem dX8_digest_83 : decode cX8_digest 83 = .ok (.aload_n 0, 1) := by decide +kernel
theorem dX8_digest_84 : decode cX8_digest 84 = .ok (.getfield 246, 3) := by decide +kernel
theorem dX8_digest_87 : decode cX8_digest 87 = .ok (.if_icmp .ge 22, 3) := by decide +kernel
theorem dX8_digest_90 : decode cX8_digest 90 = .ok (.ldc2_w 350, 3) := by decide +kernel
theorem dX8_digest_93 : decode cX8_digest 93 = .ok (.lload_n 1, 1) := by decide +kernel
theorem dX8_digest_94 : decode cX8_digest 94 = .ok (.lmul, 1) := by decide +kernel
theorem dX8_digest_95 : decode cX8_digest 95 = .ok (.aload_n 0, 1) := by decide +kernel
theorem dX8_digest_96 : decode cX8_digest 96 = .ok (.iload_n 3, 1) := by decide +kernel
theorem dX8_digest_97 : decode cX8_digest 97 = .ok (.invokevirtual 352, 3) := by decide +kernel
theorem dX8_digest_100 : decode cX8_digest 100 = .ok (.i2l, 1) := by decide +kernel
theorem dX8_digest_101 : decode cX8_digest 101 = .ok (.ladd, 1) := by decide +kernel
theorem dX8_digest_102 : decode cX8_digest 102 = .ok (.lstore_n 1, 1) := by decide +kernel
theorem dX8_digest_103 : decode cX8_digest 103 = .ok (.iinc 3 1, 3) := by decide +kernel
theorem dX8_digest_106 : decode cX8_digest 106 = .ok (.goto (-24), 3) := by decide +kernel
theorem dX8_digest_109 : decode cX8_digest 109 = .ok (.iconst 0, 1) := by decide +kernel
theorem dX8_digest_110 : decode cX8_digest 110 = .ok (.istore_n 3, 1) := by decide +kernel
theorem dX8_digest_111 : decode cX8_digest 111 = .ok (.iload_n 3, 1) := by decide +kernel
theorem dX8_digest_112 : decode cX8_digest 112 = .ok (.aload_n 0, 1) := by decide +kernel
theorem dX8_digest_113 : decode cX8_digest 113 = .ok (.getfield 41, 3) := by decide +kernel
theorem dX8_digest_116 : decode cX8_digest 116 = .ok (.arraylength, 1) := by decide +kernel
theorem dX8_digest_117 : decode cX8_digest 117 = .ok (.if_icmp .ge 20, 3) := by decide +kernel
theorem dX8_digest_120 : decode cX8_digest 120 = .ok (.aload_n 0, 1) := by decide +kernel
theorem dX8_digest_121 : decode cX8_digest 121 = .ok (.getfield 41, 3) := by decide +kernel
theorem dX8_digest_124 : decode cX8_digest 124 = .ok (.iload_n 3, 1) := by decide +kernel
theorem dX8_digest_125 : decode cX8_digest 125 = .ok (.aaload, 1) := by decide +kernel
theorem dX8_digest_126 : decode cX8_digest 126 = .ok (.lload_n 1, 1) := by decide +kernel
theorem dX8_digest_127 : decode cX8_digest 127 = .ok (.invokevirtual 355, 3) := by decide +kernel
theorem dX8_digest_130 : decode cX8_digest 130 = .ok (.lstore_n 1, 1) := by decide +kernel
theorem dX8_digest_131 : decode cX8_digest 131 = .ok (.iinc 3 1, 3) := by decide +kernel
theorem dX8_digest_134 : decode cX8_digest 134 = .ok (.goto (-23), 3) := by decide +kernel
theorem dX8_digest_137 : decode cX8_digest 137 = .ok (.iconst 0, 1) := by decide +kernel
theorem dX8_digest_138 : decode cX8_digest 138 = .ok (.istore_n 3, 1) := by decide +kernel
theorem dX8_digest_139 : decode cX8_digest 139 = .ok (.iload_n 3, 1) := by decide +kernel
theorem dX8_digest_140 : decode cX8_digest 140 = .ok (.aload_n 0, 1) := by decide +kernel
theorem dX8_digest_141 : decode cX8_digest 141 = .ok (.getfield 11, 3) := by decide +kernel
theorem dX8_digest_144 : decode cX8_digest 144 = .ok (.arraylength, 1) := by decide +kernel
theorem dX8_digest_145 : decode cX8_digest 145 = .ok (.if_icmp .ge 20, 3) := by decide +kernel
theorem dX8_digest_148 : decode cX8_digest 148 = .ok (.aload_n 0, 1) := by decide +kernel
theorem dX8_digest_149 : decode cX8_digest 149 = .ok (.getfield 11, 3) := by decide +kernel
theorem dX8_digest_152 : decode cX8_digest 152 = .ok (.iload_n 3, 1) := by decide +kernel
theorem dX8_digest_153 : decode cX8_digest 153 = .ok (.aaload, 1) := by decide +kernel
theorem dX8_digest_154 : decode cX8_digest 154 = .ok (.lload_n 1, 1) := by decide +kernel
theorem dX8_digest_155 : decode cX8_digest 155 = .ok (.invokevirtual 359, 3) := by decide +kernel
theorem dX8_digest_158 : decode cX8_digest 158 = .ok (.lstore_n 1, 1) := by decide +kernel
theorem dX8_digest_159 : decode cX8_digest 159 = .ok (.iinc 3 1, 3) := by decide +kernel
theorem dX8_digest_162 : decode cX8_digest 162 = .ok (.goto (-23), 3) := by decide +kernel
theorem dX8_digest_165 : decode cX8_digest 165 = .ok (.iconst 0, 1) := by decide +kernel
theorem dX8_digest_166 : decode cX8_digest 166 = .ok (.istore_n 3, 1) := by decide +kernel
theorem dX8_digest_167 : decode cX8_digest 167 = .ok (.iload_n 3, 1) := by decide +kernel
theorem dX8_digest_168 : decode cX8_digest 168 = .ok (.aload_n 0, 1) := by decide +kernel
theorem dX8_digest_169 : decode cX8_digest 169 = .ok (.getfield 15, 3) := by decide +kernel
theorem dX8_digest_172 : decode cX8_digest 172 = .ok (.arraylength, 1) := by decide +kernel
theorem dX8_digest_173 : decode cX8_digest 173 = .ok (.if_icmp .ge 20, 3) := by decide +kernel
theorem dX8_digest_176 : decode cX8_digest 176 = .ok (.aload_n 0, 1) := by decide +kernel
theorem dX8_digest_177 : decode cX8_digest 177 = .ok (.getfield 15, 3) := by decide +kernel
theorem dX8_digest_180 : decode cX8_digest 180 = .ok (.iload_n 3, 1) := by decide +kernel
theorem dX8_digest_181 : decode cX8_digest 181 = .ok (.aaload, 1) := by decide +kernel
theorem dX8_digest_182 : decode cX8_digest 182 = .ok (.lload_n 1, 1) := by decide +kernel
theorem dX8_digest_183 : decode cX8_digest 183 = .ok (.invokevirtual 359, 3) := by decide +kernel
theorem dX8_digest_186 : decode cX8_digest 186 = .ok (.lstore_n 1, 1) := by decide +kernel
theorem dX8_digest_187 : decode cX8_digest 187 = .ok (.iinc 3 1, 3) := by decide +kernel
theorem dX8_digest_190 : decode cX8_digest 190 = .ok (.goto (-23), 3) := by decide +kernel
theorem dX8_digest_193 : decode cX8_digest 193 = .ok (.lload_n 1, 1) := by decide +kernel
theorem dX8_digest_194 : decode cX8_digest 194 = .ok (.lreturn, 1) := by decide +kernel
theorem dX8_rowOf_0 : decode cX8_rowOf 0 = .ok (.iload_n 1, 1) := by decide +kernel
theorem dX8_rowOf_1 : decode cX8_rowOf 1 = .ok (.ifCond .lt 21, 3) := by decide +kernel
theorem dX8_rowOf_4 : decode cX8_rowOf 4 = .ok (.iload_n 1, 1) := by decide +kernel
theorem dX8_rowOf_5 : decode cX8_rowOf 5 = .ok (.aload_n 0, 1) := by decide +kernel
theorem dX8_rowOf_6 : decode cX8_rowOf 6 = .ok (.getfield 11, 3) := by decide +kernel
theorem dX8_rowOf_9 : decode cX8_rowOf 9 = .ok (.arraylength, 1) := by decide +kernel
theorem dX8_rowOf_10 : decode cX8_rowOf 10 = .ok (.if_icmp .ge 12, 3) := by decide +kernel
theorem dX8_rowOf_13 : decode cX8_rowOf 13 = .ok (.aload_n 0, 1) := by decide +kernel
theorem dX8_rowOf_14 : decode cX8_rowOf 14 = .ok (.getfield 11, 3) := by decide +kernel
theorem dX8_rowOf_17 : decode cX8_rowOf 17 = .ok (.iload_n 1, 1) := by decide +kernel
theorem dX8_rowOf_18 : decode cX8_rowOf 18 = .ok (.aaload, 1) := by decide +kernel
theorem dX8_rowOf_19 : decode cX8_rowOf 19 = .ok (.goto 4, 3) := by decide +kernel
theorem dX8_rowOf_22 : decode cX8_rowOf 22 = .ok (.aconst_null, 1) := by decide +kernel
theorem dX8_rowOf_23 : decode cX8_rowOf 23 = .ok (.areturn, 1) := by decide +kernel
theorem dX8_textOf_0 : decode cX8_textOf 0 = .ok (.iload_n 1, 1) := by decide +kernel
theorem dX8_textOf_1 : decode cX8_textOf 1 = .ok (.ifCond .lt 21, 3) := by decide +kernel
theorem dX8_textOf_4 : decode cX8_textOf 4 = .ok (.iload_n 1, 1) := by decide +kernel
theorem dX8_textOf_5 : decode cX8_textOf 5 = .ok (.aload_n 0, 1) := by decide +kernel
theorem dX8_textOf_6 : decode cX8_textOf 6 = .ok (.getfield 15, 3) := by decide +kernel
theorem dX8_textOf_9 : decode cX8_textOf 9 = .ok (.arraylength, 1) := by decide +kernel
theorem dX8_textOf_10 : decode cX8_textOf 10 = .ok (.if_icmp .ge 12, 3) := by decide +kernel
theorem dX8_textOf_13 : decode cX8_textOf 13 = .ok (.aload_n 0, 1) := by decide +kernel
theorem dX8_textOf_14 : decode cX8_textOf 14 = .ok (.getfield 15, 3) := by decide +kernel
theorem dX8_textOf_17 : decode cX8_textOf 17 = .ok (.iload_n 1, 1) := by decide +kernel
theorem dX8_textOf_18 : decode cX8_textOf 18 = .ok (.aaload, 1) := by decide +kernel
theorem dX8_textOf_19 : decode cX8_textOf 19 = .ok (.goto 4, 3) := by decide +kernel
theorem dX8_textOf_22 : decode cX8_textOf 22 = .ok (.aconst_null, 1) := by decide +kernel
theorem dX8_textOf_23 : decode cX8_textOf 23 = .ok (.areturn, 1) := by decide +kernel
theorem dX8_imageOf_0 : decode cX8_imageOf 0 = .ok (.iload_n 1, 1) := by decide +kernel
theorem dX8_imageOf_1 : decode cX8_imageOf 1 = .ok (.ifCond .lt 21, 3) := by decide +kernel
theorem dX8_imageOf_4 : decode cX8_imageOf 4 = .ok (.iload_n 1, 1) := by decide +kernel
theorem dX8_imageOf_5 : decode cX8_imageOf 5 = .ok (.aload_n 0, 1) := by decide +kernel
theorem dX8_imageOf_6 : decode cX8_imageOf 6 = .ok (.getfield 41, 3) := by decide +kernel
theorem dX8_imageOf_9 : decode cX8_imageOf 9 = .ok (.arraylength, 1) := by decide +kernel
theorem dX8_imageOf_10 : decode cX8_imageOf 10 = .ok (.if_icmp .ge 12, 3) := by decide +kernel
theorem dX8_imageOf_13 : decode cX8_imageOf 13 = .ok (.aload_n 0, 1) := by decide +kernel
theorem dX8_imageOf_14 : decode cX8_imageOf 14 = .ok (.getfield 41, 3) := by decide +kernel
theorem dX8_imageOf_17 : decode cX8_imageOf 17 = .ok (.iload_n 1, 1) := by decide +kernel
theorem dX8_imageOf_18 : decode cX8_imageOf 18 = .ok (.aaload, 1) := by decide +kernel
theorem dX8_imageOf_19 : decode cX8_imageOf 19 = .ok (.goto 4, 3) := by decide +kernel
theorem dX8_imageOf_22 : decode cX8_imageOf 22 = .ok (.aconst_null, 1) := by decide +kernel
theorem dX8_imageOf_23 : decode cX8_imageOf 23 = .ok (.areturn, 1) := by decide +kernel
theorem dX8_lawOf_0 : decode cX8_lawOf 0 = .ok (.iload_n 1, 1) := by decide +kernel
theorem dX8_lawOf_1 : decode cX8_lawOf 1 = .ok (.ifCond .lt 29, 3) := by decide +kernel
theorem dX8_lawOf_4 : decode cX8_lawOf 4 = .ok (.iload_n 1, 1) := by decide +kernel
theorem dX8_lawOf_5 : decode cX8_lawOf 5 = .ok (.aload_n 0, 1) := by decide +kernel
theorem dX8_lawOf_6 : decode cX8_lawOf 6 = .ok (.getfield 246, 3) := by decide +kernel
theorem dX8_lawOf_9 : decode cX8_lawOf 9 = .ok (.if_icmp .ge 21, 3) := by decide +kernel
theorem dX8_lawOf_12 : decode cX8_lawOf 12 = .ok (.iload_n 1, 1) := by decide +kernel
theorem dX8_lawOf_13 : decode cX8_lawOf 13 = .ok (.aload_n 0, 1) := by decide +kernel
theorem dX8_lawOf_14 : decode cX8_lawOf 14 = .ok (.getfield 55, 3) := by decide +kernel
theorem dX8_lawOf_17 : decode cX8_lawOf 17 = .ok (.arraylength, 1) := by decide +kernel
theorem dX8_lawOf_18 : decode cX8_lawOf 18 = .ok (.if_icmp .ge 12, 3) := by decide +kernel
theorem dX8_lawOf_21 : decode cX8_lawOf 21 = .ok (.aload_n 0, 1) := by decide +kernel
theorem dX8_lawOf_22 : decode cX8_lawOf 22 = .ok (.getfield 55, 3) := by decide +kernel
theorem dX8_lawOf_25 : decode cX8_lawOf 25 = .ok (.iload_n 1, 1) := by decide +kernel
theorem dX8_lawOf_26 : decode cX8_lawOf 26 = .ok (.aaload, 1) := by decide +kernel
theorem dX8_lawOf_27 : decode cX8_lawOf 27 = .ok (.goto 4, 3) := by decide +kernel
theorem dX8_lawOf_30 : decode cX8_lawOf 30 = .ok (.aconst_null, 1) := by decide +kernel
theorem dX8_lawOf_31 : decode cX8_lawOf 31 = .ok (.areturn, 1) := by decide +kernel
theorem dX8_isPerson_0 : decode cX8_isPerson 0 = .ok (.iload_n 0, 1) := by decide +kernel
theorem dX8_isPerson_1 : decode cX8_isPerson 1 = .ok (.ifCond .lt 12, 3) := by decide +kernel
theorem dX8_isPerson_4 : decode cX8_isPerson 4 = .ok (.iload_n 0, 1) := by decide +kernel
theorem dX8_isPerson_5 : decode cX8_isPerson 5 = .ok (.iconst 4, 1) := by decide +kernel
theorem dX8_isPerson_6 : decode cX8_isPerson 6 = .ok (.if_icmp .ge 7, 3) := by decide +kernel
theorem dX8_isPerson_9 : decode cX8_isPerson 9 = .ok (.iconst 1, 1) := by decide +kernel
theorem dX8_isPerson_10 : decode cX8_isPerson 10 = .ok (.goto 4, 3) := by decide +kernel
theorem dX8_isPerson_13 : decode cX8_isPerson 13 = .ok (.iconst 0, 1) := by decide +kernel
theorem dX8_isPerson_14 : decode cX8_isPerson 14 = .ok (.ireturn, 1) := by decide +kernel
theorem dX8_found_0 : decode cX8_found 0 = .ok (.iload_n 1, 1) := by decide +kernel
theorem dX8_found_1 : decode cX8_found 1 = .ok (.iconst 1, 1) := by decide +kernel
theorem dX8_found_2 : decode cX8_found 2 = .ok (.if_icmp .lt 27, 3) := by decide +kernel
theorem dX8_found_5 : decode cX8_found 5 = .ok (.iload_n 1, 1) := by decide +kernel
theorem dX8_found_6 : decode cX8_found 6 = .ok (.aload_n 0, 1) := by decide +kernel
theorem dX8_found_7 : decode cX8_found 7 = .ok (.getfield 79, 3) := by decide +kernel
theorem dX8_found_10 : decode cX8_found 10 = .ok (.arraylength, 1) := by decide +kernel
theorem dX8_found_11 : decode cX8_found 11 = .ok (.if_icmp .ge 18, 3) := by decide +kernel
theorem dX8_found_14 : decode cX8_found 14 = .ok (.aload_n 0, 1) := by decide +kernel
theorem dX8_found_15 : decode cX8_found 15 = .ok (.iload_n 1, 1) := by decide +kernel
theorem dX8_found_16 : decode cX8_found 16 = .ok (.putfield 345, 3) := by decide +kernel
theorem dX8_found_19 : decode cX8_found 19 = .ok (.aload_n 0, 1) := by decide +kernel
theorem dX8_found_20 : decode cX8_found 20 = .ok (.getfield 79, 3) := by decide +kernel
theorem dX8_found_23 : decode cX8_found 23 = .ok (.iload_n 1, 1) := by decide +kernel
theorem dX8_found_24 : decode cX8_found 24 = .ok (.dup2, 1) := by decide +kernel
theorem dX8_found_25 : decode cX8_found 25 = .ok (.iaload, 1) := by decide +kernel
theorem dX8_found_26 : decode cX8_found 26 = .ok (.iconst 1, 1) := by decide +kernel
theorem dX8_found_27 : decode cX8_found 27 = .ok (.iadd, 1) := by decide +kernel
theorem dX8_found_28 : decode cX8_found 28 = .ok (.iastore, 1) := by decide +kernel
theorem dX8_found_29 : decode cX8_found 29 = .ok (.bipush (-3), 2) := by decide +kernel
theorem dX8_found_31 : decode cX8_found 31 = .ok (.ireturn, 1) := by decide +kernel
theorem dX8_tell_0 : decode cX8_tell 0 = .ok (.aload_n 0, 1) := by decide +kernel
theorem dX8_tell_1 : decode cX8_tell 1 = .ok (.iload_n 1, 1) := by decide +kernel
theorem dX8_tell_2 : decode cX8_tell 2 = .ok (.putfield 107, 3) := by decide +kernel
theorem dX8_tell_5 : decode cX8_tell 5 = .ok (.iconst 1, 1) := by decide +kernel
theorem dX8_tell_6 : decode cX8_tell 6 = .ok (.ireturn, 1) := by decide +kernel
theorem dX8_tellFraction_0 : decode cX8_tellFraction 0 = .ok (.lload_n 1, 1) := by decide +kernel
theorem dX8_tellFraction_1 : decode cX8_tellFraction 1 = .ok (.lload_n 3, 1) := by decide +kernel
theorem dX8_tellFraction_2 : decode cX8_tellFraction 2 = .ok (.invokestatic 360, 3) := by decide +kernel
theorem dX8_tellFraction_5 : decode cX8_tellFraction 5 = .ok (.lstore 5, 2) := by decide +kernel
theorem dX8_tellFraction_7 : decode cX8_tellFraction 7 = .ok (.aload_n 0, 1) := by decide +kernel
theorem dX8_tellFraction_8 : decode cX8_tellFraction 8 = .ok (.lload 5, 2) := by decide +kernel
theorem dX8_tellFraction_10 : decode cX8_tellFraction 10 = .ok (.lconst 0, 1) := by decide +kernel
theorem dX8_tellFraction_11 : decode cX8_tellFraction 11 = .ok (.lcmp, 1) := by decide +kernel
theorem dX8_tellFraction_12 : decode cX8_tellFraction 12 = .ok (.ifCond .le 10, 3) := by decide +kernel
theorem dX8_tellFraction_15 : decode cX8_tellFraction 15 = .ok (.lload_n 1, 1) := by decide +kernel
theorem dX8_tellFraction_16 : decode cX8_tellFraction 16 = .ok (.lload 5, 2) := by decide +kernel
theorem dX8_tellFraction_18 : decode cX8_tellFraction 18 = .ok (.ldiv, 1) := by decide +kernel
theorem dX8_tellFraction_19 : decode cX8_tellFraction 19 = .ok (.goto 4, 3) := by decide +kernel
theorem dX8_tellFraction_22 : decode cX8_tellFraction 22 = .ok (.lconst 0, 1) := by decide +kernel
theorem dX8_tellFraction_23 : decode cX8_tellFraction 23 = .ok (.putfield 339, 3) := by decide +kernel
theorem dX8_tellFraction_26 : decode cX8_tellFraction 26 = .ok (.aload_n 0, 1) := by decide +kernel
theorem dX8_tellFraction_27 : decode cX8_tellFraction 27 = .ok (.lload 5, 2) := by decide +kernel
theorem dX8_tellFraction_29 : decode cX8_tellFraction 29 = .ok (.lconst 0, 1) := by decide +kernel
theorem dX8_tellFraction_30 : decode cX8_tellFraction 30 = .ok (.lcmp, 1) := by decide +kernel
theorem dX8_tellFraction_31 : decode cX8_tellFraction 31 = .ok (.ifCond .le 10, 3) := by decide +kernel
theorem dX8_tellFraction_34 : decode cX8_tellFraction 34 = .ok (.lload_n 3, 1) := by decide +kernel
theorem dX8_tellFraction_35 : decode cX8_tellFraction 35 = .ok (.lload 5, 2) := by decide +kernel
theorem dX8_tellFraction_37 : decode cX8_tellFraction 37 = .ok (.ldiv, 1) := by decide +kernel
theorem dX8_tellFraction_38 : decode cX8_tellFraction 38 = .ok (.goto 4, 3) := by decide +kernel
theorem dX8_tellFraction_41 : decode cX8_tellFraction 41 = .ok (.lconst 1, 1) := by decide +kernel
theorem dX8_tellFraction_42 : decode cX8_tellFraction 42 = .ok (.putfield 75, 3) := by decide +kernel
theorem dX8_tellFraction_45 : decode cX8_tellFraction 45 = .ok (.iconst 1, 1) := by decide +kernel
theorem dX8_tellFraction_46 : decode cX8_tellFraction 46 = .ok (.ireturn, 1) := by decide +kernel
theorem dX8_commonDivisor_0 : decode cX8_commonDivisor 0 = .ok (.lload_n 0, 1) := by decide +kernel
theorem dX8_commonDivisor_1 : decode cX8_commonDivisor 1 = .ok (.lstore 4, 2) := by decide +kernel
theorem dX8_commonDivisor_3 : decode cX8_commonDivisor 3 = .ok (.lload_n 2, 1) := by decide +kernel
theorem dX8_commonDivisor_4 : decode cX8_commonDivisor 4 = .ok (.lstore 6, 2) := by decide +kernel
theorem dX8_commonDivisor_6 : decode cX8_commonDivisor 6 = .ok (.iconst 0, 1) := by decide +kernel
theorem dX8_commonDivisor_7 : decode cX8_commonDivisor 7 = .ok (.istore 8, 2) := by decide +kernel
theorem dX8_commonDivisor_9 : decode cX8_commonDivisor 9 = .ok (.iload 8, 2) := by decide +kernel
theorem dX8_commonDivisor_11 : decode cX8_commonDivisor 11 = .ok (.bipush 100, 2) := by decide +kernel
theorem dX8_commonDivisor_13 : decode cX8_commonDivisor 13 = .ok (.if_icmp .ge 31, 3) := by decide +kernel
theorem dX8_commonDivisor_16 : decode cX8_commonDivisor 16 = .ok (.lload 6, 2) := by decide +kernel
theorem dX8_commonDivisor_18 : decode cX8_commonDivisor 18 = .ok (.lconst 0, 1) := by decide +kernel
theorem dX8_commonDivisor_19 : decode cX8_commonDivisor 19 = .ok (.lcmp, 1) := by decide +kernel
theorem dX8_commonDivisor_20 : decode cX8_commonDivisor 20 = .ok (.ifCond .eq 24, 3) := by decide +kernel
theorem dX8_commonDivisor_23 : decode cX8_commonDivisor 23 = .ok (.lload 4, 2) := by decide +kernel
theorem dX8_commonDivisor_25 : decode cX8_commonDivisor 25 = .ok (.lload 6, 2) := by decide +kernel
theorem dX8_commonDivisor_27 : decode cX8_commonDivisor 27 = .ok (.lrem, 1) := by decide +kernel
theorem dX8_commonDivisor_28 : decode cX8_commonDivisor 28 = .ok (.lstore 9, 2) := by decide +kernel
theorem dX8_commonDivisor_30 : decode cX8_commonDivisor 30 = .ok (.lload 6, 2) := by decide +kernel
theorem dX8_commonDivisor_32 : decode cX8_commonDivisor 32 = .ok (.lstore 4, 2) := by decide +kernel
theorem dX8_commonDivisor_34 : decode cX8_commonDivisor 34 = .ok (.lload 9, 2) := by decide +kernel
theorem dX8_commonDivisor_36 : decode cX8_commonDivisor 36 = .ok (.lstore 6, 2) := by decide +kernel
theorem dX8_commonDivisor_38 : decode cX8_commonDivisor 38 = .ok (.iinc 8 1, 3) := by decide +kernel
theorem dX8_commonDivisor_41 : decode cX8_commonDivisor 41 = .ok (.goto (-32), 3) := by decide +kernel
theorem dX8_commonDivisor_44 : decode cX8_commonDivisor 44 = .ok (.lload 4, 2) := by decide +kernel
theorem dX8_commonDivisor_46 : decode cX8_commonDivisor 46 = .ok (.lreturn, 1) := by decide +kernel
theorem dX8_comeAnew_0 : decode cX8_comeAnew 0 = .ok (.aload_n 1, 1) := by decide +kernel
theorem dX8_comeAnew_1 : decode cX8_comeAnew 1 = .ok (.ifnull 11, 3) := by decide +kernel
theorem dX8_comeAnew_4 : decode cX8_comeAnew 4 = .ok (.iload_n 2, 1) := by decide +kernel
theorem dX8_comeAnew_5 : decode cX8_comeAnew 5 = .ok (.aload_n 1, 1) := by decide +kernel
theorem dX8_comeAnew_6 : decode cX8_comeAnew 6 = .ok (.invokevirtual 364, 3) := by decide +kernel
theorem dX8_comeAnew_9 : decode cX8_comeAnew 9 = .ok (.if_icmp .le 5, 3) := by decide +kernel
theorem dX8_comeAnew_12 : decode cX8_comeAnew 12 = .ok (.iconst (-1), 1) := by decide +kernel
theorem dX8_comeAnew_13 : decode cX8_comeAnew 13 = .ok (.ireturn, 1) := by decide +kernel
theorem dX8_comeAnew_14 : decode cX8_comeAnew 14 = .ok (.iload_n 2, 1) := by decide +kernel
theorem dX8_comeAnew_15 : decode cX8_comeAnew 15 = .ok (.ifCond .ge 9, 3) := by decide +kernel
theorem dX8_comeAnew_18 : decode cX8_comeAnew 18 = .ok (.aload_n 0, 1) := by decide +kernel
theorem dX8_comeAnew_19 : decode cX8_comeAnew 19 = .ok (.iconst 5, 1) := by decide +kernel
theorem dX8_comeAnew_20 : decode cX8_comeAnew 20 = .ok (.invokevirtual 100, 3) := by decide +kernel
theorem dX8_comeAnew_23 : decode cX8_comeAnew 23 = .ok (.ireturn, 1) := by decide +kernel
theorem dX8_comeAnew_24 : decode cX8_comeAnew 24 = .ok (.aload_n 1, 1) := by decide +kernel
theorem dX8_comeAnew_25 : decode cX8_comeAnew 25 = .ok (.iload_n 2, 1) := by decide +kernel
theorem dX8_comeAnew_26 : decode cX8_comeAnew 26 = .ok (.iload_n 3, 1) := by decide +kernel
theorem dX8_comeAnew_27 : decode cX8_comeAnew 27 = .ok (.invokevirtual 297, 3) := by decide +kernel
theorem dX8_comeAnew_30 : decode cX8_comeAnew 30 = .ok (.iload_n 2, 1) := by decide +kernel
theorem dX8_comeAnew_31 : decode cX8_comeAnew 31 = .ok (.ireturn, 1) := by decide +kernel
theorem dX8_wrongPlace_0 : decode cX8_wrongPlace 0 = .ok (.aload_n 0, 1) := by decide +kernel
theorem dX8_wrongPlace_1 : decode cX8_wrongPlace 1 = .ok (.invokevirtual 118, 3) := by decide +kernel
theorem dX8_wrongPlace_4 : decode cX8_wrongPlace 4 = .ok (.ifCond .eq 5, 3) := by decide +kernel
theorem dX8_wrongPlace_7 : decode cX8_wrongPlace 7 = .ok (.iconst 1, 1) := by decide +kernel
theorem dX8_wrongPlace_8 : decode cX8_wrongPlace 8 = .ok (.ireturn, 1) := by decide +kernel
theorem dX8_wrongPlace_9 : decode cX8_wrongPlace 9 = .ok (.aload_n 0, 1) := by decide +kernel
theorem dX8_wrongPlace_10 : decode cX8_wrongPlace 10 = .ok (.iload_n 1, 1) := by decide +kernel
theorem dX8_wrongPlace_11 : decode cX8_wrongPlace 11 = .ok (.invokevirtual 367, 3) := by decide +kernel
theorem dX8_wrongPlace_14 : decode cX8_wrongPlace 14 = .ok (.ifCond .eq 7, 3) := by decide +kernel
theorem dX8_wrongPlace_17 : decode cX8_wrongPlace 17 = .ok (.iconst 0, 1) := by decide +kernel
theorem dX8_wrongPlace_18 : decode cX8_wrongPlace 18 = .ok (.goto 4, 3) := by decide +kernel
theorem dX8_wrongPlace_21 : decode cX8_wrongPlace 21 = .ok (.iconst 2, 1) := by decide +kernel
theorem dX8_wrongPlace_22 : decode cX8_wrongPlace 22 = .ok (.ireturn, 1) := by decide +kernel
theorem dX8_wrongHeaps_0 : decode cX8_wrongHeaps 0 = .ok (.aload_n 0, 1) := by decide +kernel
theorem dX8_wrongHeaps_1 : decode cX8_wrongHeaps 1 = .ok (.invokevirtual 118, 3) := by decide +kernel
theorem dX8_wrongHeaps_4 : decode cX8_wrongHeaps 4 = .ok (.ifCond .eq 5, 3) := by decide +kernel
theorem dX8_wrongHeaps_7 : decode cX8_wrongHeaps 7 = .ok (.iconst 1, 1) := by decide +kernel
theorem dX8_wrongHeaps_8 : decode cX8_wrongHeaps 8 = .ok (.ireturn, 1) := by decide +kernel
theorem dX8_wrongHeaps_9 : decode cX8_wrongHeaps 9 = .ok (.aload_n 0, 1) := by decide +kernel
theorem dX8_wrongHeaps_10 : decode cX8_wrongHeaps 10 = .ok (.invokevirtual 133, 3) := by decide +kernel
theorem dX8_wrongHeaps_13 : decode cX8_wrongHeaps 13 = .ok (.iconst 1, 1) := by decide +kernel
theorem dX8_wrongHeaps_14 : decode cX8_wrongHeaps 14 = .ok (.if_icmp .lt 12, 3) := by decide +kernel
theorem dX8_wrongHeaps_17 : decode cX8_wrongHeaps 17 = .ok (.aload_n 0, 1) := by decide +kernel
theorem dX8_wrongHeaps_18 : decode cX8_wrongHeaps 18 = .ok (.invokevirtual 133, 3) := by decide +kernel
theorem dX8_wrongHeaps_21 : decode cX8_wrongHeaps 21 = .ok (.bipush 6, 2) := by decide +kernel
theorem dX8_wrongHeaps_23 : decode cX8_wrongHeaps 23 = .ok (.if_icmp .le 5, 3) := by decide +kernel
theorem dX8_wrongHeaps_26 : decode cX8_wrongHeaps 26 = .ok (.iconst 5, 1) := by decide +kernel
theorem dX8_wrongHeaps_27 : decode cX8_wrongHeaps 27 = .ok (.ireturn, 1) := by decide +kernel
theorem dX8_wrongHeaps_28 : decode cX8_wrongHeaps 28 = .ok (.iconst 0, 1) := by decide +kernel
theorem dX8_wrongHeaps_29 : decode cX8_wrongHeaps 29 = .ok (.istore_n 1, 1) := by decide +kernel
theorem dX8_wrongHeaps_30 : decode cX8_wrongHeaps 30 = .ok (.iload_n 1, 1) := by decide +kernel
theorem dX8_wrongHeaps_31 : decode cX8_wrongHeaps 31 = .ok (.aload_n 0, 1) := by decide +kernel
theorem dX8_wrongHeaps_32 : decode cX8_wrongHeaps 32 = .ok (.invokevirtual 133, 3) := by decide +kernel
theorem dX8_wrongHeaps_35 : decode cX8_wrongHeaps 35 = .ok (.if_icmp .ge 30, 3) := by decide +kernel
theorem dX8_wrongHeaps_38 : decode cX8_wrongHeaps 38 = .ok (.aload_n 0, 1) := by decide +kernel
theorem dX8_wrongHeaps_39 : decode cX8_wrongHeaps 39 = .ok (.iload_n 1, 1) := by decide +kernel
theorem dX8_wrongHeaps_40 : decode cX8_wrongHeaps 40 = .ok (.invokevirtual 104, 3) := by decide +kernel
theorem dX8_wrongHeaps_43 : decode cX8_wrongHeaps 43 = .ok (.iconst 1, 1) := by decide +kernel
theorem dX8_wrongHeaps_44 : decode cX8_wrongHeaps 44 = .ok (.if_icmp .lt 13, 3) := by decide +kernel
theorem dX8_wrongHeaps_47 : decode cX8_wrongHeaps 47 = .ok (.aload_n 0, 1) := by decide +kernel
theorem dX8_wrongHeaps_48 : decode cX8_wrongHeaps 48 = .ok (.iload_n 1, 1) := by decide +kernel
theorem dX8_wrongHeaps_49 : decode cX8_wrongHeaps 49 = .ok (.invokevirtual 104, 3) := by decide +kernel
theorem dX8_wrongHeaps_52 : decode cX8_wrongHeaps 52 = .ok (.bipush 80, 2) := by decide +kernel
theorem dX8_wrongHeaps_54 : decode cX8_wrongHeaps 54 = .ok (.if_icmp .le 5, 3) := by decide +kernel
theorem dX8_wrongHeaps_57 : decode cX8_wrongHeaps 57 = .ok (.iconst 3, 1) := by decide +kernel
theorem dX8_wrongHeaps_58 : decode cX8_wrongHeaps 58 = .ok (.ireturn, 1) := by decide +kernel
theorem dX8_wrongHeaps_59 : decode cX8_wrongHeaps 59 = .ok (.iinc 1 1, 3) := by decide +kernel
theorem dX8_wrongHeaps_62 : decode cX8_wrongHeaps 62 = .ok (.goto (-32), 3) := by decide +kernel
theorem dX8_wrongHeaps_65 : decode cX8_wrongHeaps 65 = .ok (.iconst 0, 1) := by decide +kernel
theorem dX8_wrongHeaps_66 : decode cX8_wrongHeaps 66 = .ok (.ireturn, 1) := by decide +kernel
theorem dX8_takeLaws_0 : decode cX8_takeLaws 0 = .ok (.aload_n 0, 1) := by decide +kernel
theorem dX8_takeLaws_1 : decode cX8_takeLaws 1 = .ok (.aload_n 0, 1) := by decide +kernel
theorem dX8_takeLaws_2 : decode cX8_takeLaws 2 = .ok (.getfield 21, 3) := by decide +kernel
theorem dX8_takeLaws_5 : decode cX8_takeLaws 5 = .ok (.getfield 368, 3) := by decide +kernel
theorem dX8_takeLaws_8 : decode cX8_takeLaws 8 = .ok (.aload_n 0, 1) := by decide +kernel
theorem dX8_takeLaws_9 : decode cX8_takeLaws 9 = .ok (.getfield 55, 3) := by decide +kernel
theorem dX8_takeLaws_12 : decode cX8_takeLaws 12 = .ok (.arraylength, 1) := by decide +kernel
theorem dX8_takeLaws_13 : decode cX8_takeLaws 13 = .ok (.invokestatic 370, 3) := by decide +kernel
theorem dX8_takeLaws_16 : decode cX8_takeLaws 16 = .ok (.putfield 246, 3) := by decide +kernel
theorem dX8_takeLaws_19 : decode cX8_takeLaws 19 = .ok (.iconst 0, 1) := by decide +kernel
theorem dX8_takeLaws_20 : decode cX8_takeLaws 20 = .ok (.istore_n 1, 1) := by decide +kernel
theorem dX8_takeLaws_21 : decode cX8_takeLaws 21 = .ok (.iload_n 1, 1) := by decide +kernel
theorem dX8_takeLaws_22 : decode cX8_takeLaws 22 = .ok (.aload_n 0, 1) := by decide +kernel
theorem dX8_takeLaws_23 : decode cX8_takeLaws 23 = .ok (.getfield 246, 3) := by decide +kernel
theorem dX8_takeLaws_26 : decode cX8_takeLaws 26 = .ok (.if_icmp .ge 47, 3) := by decide +kernel
theorem dX8_takeLaws_29 : decode cX8_takeLaws 29 = .ok (.aload_n 0, 1) := by decide +kernel
theorem dX8_takeLaws_30 : decode cX8_takeLaws 30 = .ok (.getfield 21, 3) := by decide +kernel
theorem dX8_takeLaws_33 : decode cX8_takeLaws 33 = .ok (.iload_n 1, 1) := by decide +kernel
theorem dX8_takeLaws_34 : decode cX8_takeLaws 34 = .ok (.invokevirtual 373, 3) := by decide +kernel
theorem dX8_takeLaws_37 : decode cX8_takeLaws 37 = .ok (.istore_n 2, 1) := by decide +kernel
theorem dX8_takeLaws_38 : decode cX8_takeLaws 38 = .ok (.aload_n 0, 1) := by decide +kernel
theorem dX8_takeLaws_39 : decode cX8_takeLaws 39 = .ok (.getfield 55, 3) := by decide +kernel
theorem dX8_takeLaws_42 : decode cX8_takeLaws 42 = .ok (.iload_n 1, 1) := by decide +kernel
theorem dX8_takeLaws_43 : decode cX8_takeLaws 43 = .ok (.iload_n 2, 1) := by decide +kernel
theorem dX8_takeLaws_44 : decode cX8_takeLaws 44 = .ok (.ifCond .lt 21, 3) := by decide +kernel
theorem dX8_takeLaws_47 : decode cX8_takeLaws 47 = .ok (.iload_n 2, 1) := by decide +kernel
theorem dX8_takeLaws_48 : decode cX8_takeLaws 48 = .ok (.aload_n 0, 1) := by decide +kernel
theorem dX8_takeLaws_49 : decode cX8_takeLaws 49 = .ok (.getfield 51, 3) := by decide +kernel
theorem dX8_takeLaws_52 : decode cX8_takeLaws 52 = .ok (.arraylength, 1) := by decide +kernel
theorem dX8_takeLaws_53 : decode cX8_takeLaws 53 = .ok (.if_icmp .ge 12, 3) := by decide +kernel
theorem dX8_takeLaws_56 : decode cX8_takeLaws 56 = .ok (.aload_n 0, 1) := by decide +kernel
theorem dX8_takeLaws_57 : decode cX8_takeLaws 57 = .ok (.getfield 51, 3) := by decide +kernel
theorem dX8_takeLaws_60 : decode cX8_takeLaws 60 = .ok (.iload_n 2, 1) := by decide +kernel
theorem dX8_takeLaws_61 : decode cX8_takeLaws 61 = .ok (.aaload, 1) := by decide +kernel
theorem dX8_takeLaws_62 : decode cX8_takeLaws 62 = .ok (.goto 4, 3) := by decide +kernel
theorem dX8_takeLaws_65 : decode cX8_takeLaws 65 = .ok (.aconst_null, 1) := by decide +kernel
theorem dX8_takeLaws_66 : decode cX8_takeLaws 66 = .ok (.aastore, 1) := by decide +kernel
theorem dX8_takeLaws_67 : decode cX8_takeLaws 67 = .ok (.iinc 1 1, 3) := by decide +kernel
theorem dX8_takeLaws_70 : decode cX8_takeLaws 70 = .ok (.goto (-49), 3) := by decide +kernel
theorem dX8_takeLaws_73 : decode cX8_takeLaws 73 = .ok (.return_, 1) := by decide +kernel
theorem dX8_cellTold_0 : decode cX8_cellTold 0 = .ok (.iload_n 2, 1) := by decide +kernel
theorem dX8_cellTold_1 : decode cX8_cellTold 1 = .ok (.lookupswitch 45 #[(0, 27), (1, 36)], 27) := by decide +kernel
theorem dX8_cellTold_28 : decode cX8_cellTold 28 = .ok (.aload_n 0, 1) := by decide +kernel
theorem dX8_cellTold_29 : decode cX8_cellTold 29 = .ok (.getfield 37, 3) := by decide +kernel
theorem dX8_cellTold_32 : decode cX8_cellTold 32 = .ok (.iload_n 1, 1) := by decide +kernel
theorem dX8_cellTold_33 : decode cX8_cellTold 33 = .ok (.invokevirtual 203, 3) := by decide +kernel
theorem dX8_cellTold_36 : decode cX8_cellTold 36 = .ok (.ireturn, 1) := by decide +kernel
theorem dX8_cellTold_37 : decode cX8_cellTold 37 = .ok (.aload_n 0, 1) := by decide +kernel
theorem dX8_cellTold_38 : decode cX8_cellTold 38 = .ok (.getfield 28, 3) := by decide +kernel
theorem dX8_cellTold_41 : decode cX8_cellTold 41 = .ok (.iload_n 1, 1) := by decide +kernel
theorem dX8_cellTold_42 : decode cX8_cellTold 42 = .ok (.invokevirtual 376, 3) := by decide +kernel
theorem dX8_cellTold_45 : decode cX8_cellTold 45 = .ok (.ireturn, 1) := by decide +kernel
theorem dX8_cellTold_46 : decode cX8_cellTold 46 = .ok (.aload_n 0, 1) := by decide +kernel
theorem dX8_cellTold_47 : decode cX8_cellTold 47 = .ok (.getfield 37, 3) := by decide +kernel
theorem dX8_cellTold_50 : decode cX8_cellTold 50 = .ok (.iload_n 1, 1) := by decide +kernel
theorem dX8_cellTold_51 : decode cX8_cellTold 51 = .ok (.invokevirtual 379, 3) := by decide +kernel
theorem dX8_cellTold_54 : decode cX8_cellTold 54 = .ok (.ireturn, 1) := by decide +kernel
theorem dX8_counted_0 : decode cX8_counted 0 = .ok (.iload_n 1, 1) := by decide +kernel
theorem dX8_counted_1 : decode cX8_counted 1 = .ok (.tableswitch 117 0 8 #[51, 59, 67, 75, 83, 91, 96, 101, 109], 51) := by decide +kernel
theorem dX8_counted_52 : decode cX8_counted 52 = .ok (.aload_n 0, 1) := by decide +kernel
theorem dX8_counted_53 : decode cX8_counted 53 = .ok (.getfield 28, 3) := by decide +kernel
theorem dX8_counted_56 : decode cX8_counted 56 = .ok (.getfield 164, 3) := by decide +kernel
theorem dX8_counted_59 : decode cX8_counted 59 = .ok (.ireturn, 1) := by decide +kernel
theorem dX8_counted_60 : decode cX8_counted 60 = .ok (.aload_n 0, 1) := by decide +kernel
theorem dX8_counted_61 : decode cX8_counted 61 = .ok (.getfield 28, 3) := by decide +kernel
theorem dX8_counted_64 : decode cX8_counted 64 = .ok (.getfield 265, 3) := by decide +kernel
theorem dX8_counted_67 : decode cX8_counted 67 = .ok (.ireturn, 1) := by decide +kernel
theorem dX8_counted_68 : decode cX8_counted 68 = .ok (.aload_n 0, 1) := by decide +kernel
theorem dX8_counted_69 : decode cX8_counted 69 = .ok (.getfield 37, 3) := by decide +kernel
theorem dX8_counted_72 : decode cX8_counted 72 = .ok (.getfield 217, 3) := by decide +kernel
theorem dX8_counted_75 : decode cX8_counted 75 = .ok (.ireturn, 1) := by decide +kernel
theorem dX8_counted_76 : decode cX8_counted 76 = .ok (.aload_n 0, 1) := by decide +kernel
theorem dX8_counted_77 : decode cX8_counted 77 = .ok (.getfield 37, 3) := by decide +kernel
theorem dX8_counted_80 : decode cX8_counted 80 = .ok (.getfield 206, 3) := by decide +kernel
theorem dX8_counted_83 : decode cX8_counted 83 = .ok (.ireturn, 1) := by decide +kernel
theorem dX8_counted_84 : decode cX8_counted 84 = .ok (.aload_n 0, 1) := by decide +kernel
theorem dX8_counted_85 : decode cX8_counted 85 = .ok (.getfield 61, 3) := by decide +kernel
theorem dX8_counted_88 : decode cX8_counted 88 = .ok (.invokevirtual 220, 3) := by decide +kernel
theorem dX8_counted_91 : decode cX8_counted 91 = .ok (.ireturn, 1) := by decide +kernel
theorem dX8_counted_92 : decode cX8_counted 92 = .ok (.aload_n 0, 1) := by decide +kernel
theorem dX8_counted_93 : decode cX8_counted 93 = .ok (.getfield 246, 3) := by decide +kernel
theorem dX8_counted_96 : decode cX8_counted 96 = .ok (.ireturn, 1) := by decide +kernel
theorem dX8_counted_97 : decode cX8_counted 97 = .ok (.aload_n 0, 1) := by decide +kernel
theorem dX8_counted_98 : decode cX8_counted 98 = .ok (.invokevirtual 382, 3) := by decide +kernel
theorem dX8_counted_101 : decode cX8_counted 101 = .ok (.ireturn, 1) := by decide +kernel
theorem dX8_counted_102 : decode cX8_counted 102 = .ok (.aload_n 0, 1) := by decide +kernel
theorem dX8_counted_103 : decode cX8_counted 103 = .ok (.getfield 11, 3) := by decide +kernel
theorem dX8_counted_106 : decode cX8_counted 106 = .ok (.invokestatic 385, 3) := by decide +kernel
theorem dX8_counted_109 : decode cX8_counted 109 = .ok (.ireturn, 1) := by decide +kernel
theorem dX8_counted_110 : decode cX8_counted 110 = .ok (.aload_n 0, 1) := by decide +kernel
theorem dX8_counted_111 : decode cX8_counted 111 = .ok (.getfield 15, 3) := by decide +kernel
theorem dX8_counted_114 : decode cX8_counted 114 = .ok (.invokestatic 385, 3) := by decide +kernel
theorem dX8_counted_117 : decode cX8_counted 117 = .ok (.ireturn, 1) := by decide +kernel
theorem dX8_counted_118 : decode cX8_counted 118 = .ok (.aload_n 0, 1) := by decide +kernel
theorem dX8_counted_119 : decode cX8_counted 119 = .ok (.invokevirtual 389, 3) := by decide +kernel
theorem dX8_counted_122 : decode cX8_counted 122 = .ok (.ireturn, 1) := by decide +kernel
theorem dX8_rimLaws_0 : decode cX8_rimLaws 0 = .ok (.iconst 0, 1) := by decide +kernel
theorem dX8_rimLaws_1 : decode cX8_rimLaws 1 = .ok (.istore_n 1, 1) := by decide +kernel
theorem dX8_rimLaws_2 : decode cX8_rimLaws 2 = .ok (.iconst 0, 1) := by decide +kernel
theorem dX8_rimLaws_3 : decode cX8_rimLaws 3 = .ok (.istore_n 2, 1) := by decide +kernel
theorem dX8_rimLaws_4 : decode cX8_rimLaws 4 = .ok (.iload_n 2, 1) := by decide +kernel
theorem dX8_rimLaws_5 : decode cX8_rimLaws 5 = .ok (.aload_n 0, 1) := by decide +kernel
theorem dX8_rimLaws_6 : decode cX8_rimLaws 6 = .ok (.getfield 246, 3) := by decide +kernel
theorem dX8_rimLaws_9 : decode cX8_rimLaws 9 = .ok (.if_icmp .ge 30, 3) := by decide +kernel
theorem dX8_rimLaws_12 : decode cX8_rimLaws 12 = .ok (.aload_n 0, 1) := by decide +kernel
theorem dX8_rimLaws_13 : decode cX8_rimLaws 13 = .ok (.iload_n 2, 1) := by decide +kernel
theorem dX8_rimLaws_14 : decode cX8_rimLaws 14 = .ok (.invokevirtual 175, 3) := by decide +kernel
theorem dX8_rimLaws_17 : decode cX8_rimLaws 17 = .ok (.astore_n 3, 1) := by decide +kernel
theorem dX8_rimLaws_18 : decode cX8_rimLaws 18 = .ok (.aload_n 3, 1) := by decide +kernel
theorem dX8_rimLaws_19 : decode cX8_rimLaws 19 = .ok (.ifnull 14, 3) := by decide +kernel
theorem dX8_rimLaws_22 : decode cX8_rimLaws 22 = .ok (.aload_n 3, 1) := by decide +kernel
theorem dX8_rimLaws_23 : decode cX8_rimLaws 23 = .ok (.iconst 1, 1) := by decide +kernel
theorem dX8_rimLaws_24 : decode cX8_rimLaws 24 = .ok (.invokevirtual 182, 3) := by decide +kernel
theorem dX8_rimLaws_27 : decode cX8_rimLaws 27 = .ok (.ifCond .eq 6, 3) := by decide +kernel
theorem dX8_rimLaws_30 : decode cX8_rimLaws 30 = .ok (.iinc 1 1, 3) := by decide +kernel
theorem dX8_rimLaws_33 : decode cX8_rimLaws 33 = .ok (.iinc 2 1, 3) := by decide +kernel
theorem dX8_rimLaws_36 : decode cX8_rimLaws 36 = .ok (.goto (-32), 3) := by decide +kernel
theorem dX8_rimLaws_39 : decode cX8_rimLaws 39 = .ok (.iload_n 1, 1) := by decide +kernel
theorem dX8_rimLaws_40 : decode cX8_rimLaws 40 = .ok (.ireturn, 1) := by decide +kernel
theorem dX8_stripsThere_0 : decode cX8_stripsThere 0 = .ok (.iconst 0, 1) := by decide +kernel
theorem dX8_stripsThere_1 : decode cX8_stripsThere 1 = .ok (.istore_n 1, 1) := by decide +kernel
theorem dX8_stripsThere_2 : decode cX8_stripsThere 2 = .ok (.iconst 0, 1) := by decide +kernel
theorem dX8_stripsThere_3 : decode cX8_stripsThere 3 = .ok (.istore_n 2, 1) := by decide +kernel
theorem dX8_stripsThere_4 : decode cX8_stripsThere 4 = .ok (.iload_n 2, 1) := by decide +kernel
theorem dX8_stripsThere_5 : decode cX8_stripsThere 5 = .ok (.aload_n 0, 1) := by decide +kernel
theorem dX8_stripsThere_6 : decode cX8_stripsThere 6 = .ok (.arraylength, 1) := by decide +kernel
theorem dX8_stripsThere_7 : decode cX8_stripsThere 7 = .ok (.if_icmp .ge 21, 3) := by decide +kernel
theorem dX8_stripsThere_10 : decode cX8_stripsThere 10 = .ok (.aload_n 0, 1) := by decide +kernel
theorem dX8_stripsThere_11 : decode cX8_stripsThere 11 = .ok (.iload_n 2, 1) := by decide +kernel
theorem dX8_stripsThere_12 : decode cX8_stripsThere 12 = .ok (.aaload, 1) := by decide +kernel
theorem dX8_stripsThere_13 : decode cX8_stripsThere 13 = .ok (.invokevirtual 118, 3) := by decide +kernel
theorem dX8_stripsThere_16 : decode cX8_stripsThere 16 = .ok (.ifCond .ne 6, 3) := by decide +kernel
theorem dX8_stripsThere_19 : decode cX8_stripsThere 19 = .ok (.iinc 1 1, 3) := by decide +kernel
theorem dX8_stripsThere_22 : decode cX8_stripsThere 22 = .ok (.iinc 2 1, 3) := by decide +kernel
theorem dX8_stripsThere_25 : decode cX8_stripsThere 25 = .ok (.goto (-21), 3) := by decide +kernel
theorem dX8_stripsThere_28 : decode cX8_stripsThere 28 = .ok (.iload_n 1, 1) := by decide +kernel
theorem dX8_stripsThere_29 : decode cX8_stripsThere 29 = .ok (.ireturn, 1) := by decide +kernel
theorem dX8_imagesThere_0 : decode cX8_imagesThere 0 = .ok (.iconst 0, 1) := by decide +kernel
theorem dX8_imagesThere_1 : decode cX8_imagesThere 1 = .ok (.istore_n 1, 1) := by decide +kernel
theorem dX8_imagesThere_2 : decode cX8_imagesThere 2 = .ok (.iconst 0, 1) := by decide +kernel
theorem dX8_imagesThere_3 : decode cX8_imagesThere 3 = .ok (.istore_n 2, 1) := by decide +kernel
theorem dX8_imagesThere_4 : decode cX8_imagesThere 4 = .ok (.iload_n 2, 1) := by decide +kernel
theorem dX8_imagesThere_5 : decode cX8_imagesThere 5 = .ok (.aload_n 0, 1) := by decide +kernel
theorem dX8_imagesThere_6 : decode cX8_imagesThere 6 = .ok (.getfield 41, 3) := by decide +kernel
theorem dX8_imagesThere_9 : decode cX8_imagesThere 9 = .ok (.arraylength, 1) := by decide +kernel
theorem dX8_imagesThere_10 : decode cX8_imagesThere 10 = .ok (.if_icmp .ge 24, 3) := by decide +kernel
theorem dX8_imagesThere_13 : decode cX8_imagesThere 13 = .ok (.aload_n 0, 1) := by decide +kernel
theorem dX8_imagesThere_14 : decode cX8_imagesThere 14 = .ok (.getfield 41, 3) := by decide +kernel
theorem dX8_imagesThere_17 : decode cX8_imagesThere 17 = .ok (.iload_n 2, 1) := by decide +kernel
theorem dX8_imagesThere_18 : decode cX8_imagesThere 18 = .ok (.aaload, 1) := by decide +kernel
theorem dX8_imagesThere_19 : decode cX8_imagesThere 19 = .ok (.getfield 210, 3) := by decide +kernel
theorem dX8_imagesThere_22 : decode cX8_imagesThere 22 = .ok (.ifCond .eq 6, 3) := by decide +kernel
theorem dX8_imagesThere_25 : decode cX8_imagesThere 25 = .ok (.iinc 1 1, 3) := by decide +kernel
theorem dX8_imagesThere_28 : decode cX8_imagesThere 28 = .ok (.iinc 2 1, 3) := by decide +kernel
theorem dX8_imagesThere_31 : decode cX8_imagesThere 31 = .ok (.goto (-27), 3) := by decide +kernel
theorem dX8_imagesThere_34 : decode cX8_imagesThere 34 = .ok (.iload_n 1, 1) := by decide +kernel
theorem dX8_imagesThere_35 : decode cX8_imagesThere 35 = .ok (.ireturn, 1) := by decide +kernel
theorem dX8_rainedOn_0 : decode cX8_rainedOn 0 = .ok (.iconst 0, 1) := by decide +kernel
theorem dX8_rainedOn_1 : decode cX8_rainedOn 1 = .ok (.istore_n 3, 1) := by decide +kernel
theorem dX8_rainedOn_2 : decode cX8_rainedOn 2 = .ok (.iload_n 2, 1) := by decide +kernel
theorem dX8_rainedOn_3 : decode cX8_rainedOn 3 = .ok (.i2l, 1) := by decide +kernel
theorem dX8_rainedOn_4 : decode cX8_rainedOn 4 = .ok (.lstore 4, 2) := by decide +kernel
theorem dX8_rainedOn_6 : decode cX8_rainedOn 6 = .ok (.iconst 0, 1) := by decide +kernel
theorem dX8_rainedOn_7 : decode cX8_rainedOn 7 = .ok (.istore 6, 2) := by decide +kernel
theorem dX8_rainedOn_9 : decode cX8_rainedOn 9 = .ok (.iload 6, 2) := by decide +kernel
theorem dX8_rainedOn_11 : decode cX8_rainedOn 11 = .ok (.aload_n 0, 1) := by decide +kernel
theorem dX8_rainedOn_12 : decode cX8_rainedOn 12 = .ok (.getfield 28, 3) := by decide +kernel
theorem dX8_rainedOn_15 : decode cX8_rainedOn 15 = .ok (.getfield 164, 3) := by decide +kernel
theorem dX8_rainedOn_18 : decode cX8_rainedOn 18 = .ok (.if_icmp .ge 52, 3) := by decide +kernel
theorem dX8_rainedOn_21 : decode cX8_rainedOn 21 = .ok (.aload_n 0, 1) := by decide +kernel
theorem dX8_rainedOn_22 : decode cX8_rainedOn 22 = .ok (.getfield 37, 3) := by decide +kernel
theorem dX8_rainedOn_25 : decode cX8_rainedOn 25 = .ok (.iload 6, 2) := by decide +kernel
theorem dX8_rainedOn_27 : decode cX8_rainedOn 27 = .ok (.invokevirtual 203, 3) := by decide +kernel
theorem dX8_rainedOn_30 : decode cX8_rainedOn 30 = .ok (.ifCond .le 34, 3) := by decide +kernel
theorem dX8_rainedOn_33 : decode cX8_rainedOn 33 = .ok (.lload 4, 2) := by decide +kernel
theorem dX8_rainedOn_35 : decode cX8_rainedOn 35 = .ok (.ldc2_w 392, 3) := by decide +kernel
theorem dX8_rainedOn_38 : decode cX8_rainedOn 38 = .ok (.lmul, 1) := by decide +kernel
theorem dX8_rainedOn_39 : decode cX8_rainedOn 39 = .ok (.ldc2_w 394, 3) := by decide +kernel
theorem dX8_rainedOn_42 : decode cX8_rainedOn 42 = .ok (.lrem, 1) := by decide +kernel
theorem dX8_rainedOn_43 : decode cX8_rainedOn 43 = .ok (.lstore 4, 2) := by decide +kernel
theorem dX8_rainedOn_45 : decode cX8_rainedOn 45 = .ok (.lload 4, 2) := by decide +kernel
theorem dX8_rainedOn_47 : decode cX8_rainedOn 47 = .ok (.ldc2_w 333, 3) := by decide +kernel
theorem dX8_rainedOn_50 : decode cX8_rainedOn 50 = .ok (.lrem, 1) := by decide +kernel
theorem dX8_rainedOn_51 : decode cX8_rainedOn 51 = .ok (.iload_n 1, 1) := by decide +kernel
theorem dX8_rainedOn_52 : decode cX8_rainedOn 52 = .ok (.i2l, 1) := by decide +kernel
theorem dX8_rainedOn_53 : decode cX8_rainedOn 53 = .ok (.lcmp, 1) := by decide +kernel
theorem dX8_rainedOn_54 : decode cX8_rainedOn 54 = .ok (.ifCond .ge 10, 3) := by decide +kernel
theorem dX8_rainedOn_57 : decode cX8_rainedOn 57 = .ok (.iload_n 3, 1) := by decide +kernel
theorem dX8_rainedOn_58 : decode cX8_rainedOn 58 = .ok (.iconst 1, 1) := by decide +kernel
theorem dX8_rainedOn_59 : decode cX8_rainedOn 59 = .ok (.iload 6, 2) := by decide +kernel
theorem dX8_rainedOn_61 : decode cX8_rainedOn 61 = .ok (.ishl, 1) := by decide +kernel
theorem dX8_rainedOn_62 : decode cX8_rainedOn 62 = .ok (.ior, 1) := by decide +kernel
theorem dX8_rainedOn_63 : decode cX8_rainedOn 63 = .ok (.istore_n 3, 1) := by decide +kernel
theorem dX8_rainedOn_64 : decode cX8_rainedOn 64 = .ok (.iinc 6 1, 3) := by decide +kernel
theorem dX8_rainedOn_67 : decode cX8_rainedOn 67 = .ok (.goto (-58), 3) := by decide +kernel
theorem dX8_rainedOn_70 : decode cX8_rainedOn 70 = .ok (.iload_n 3, 1) := by decide +kernel
theorem dX8_rainedOn_71 : decode cX8_rainedOn 71 = .ok (.ireturn, 1) := by decide +kernel
theorem dX8_nextSet_0 : decode cX8_nextSet 0 = .ok (.iload_n 0, 1) := by decide +kernel
theorem dX8_nextSet_1 : decode cX8_nextSet 1 = .ok (.iload_n 0, 1) := by decide +kernel
theorem dX8_nextSet_2 : decode cX8_nextSet 2 = .ok (.ineg, 1) := by decide +kernel
theorem dX8_nextSet_3 : decode cX8_nextSet 3 = .ok (.iand, 1) := by decide +kernel
theorem dX8_nextSet_4 : decode cX8_nextSet 4 = .ok (.istore_n 1, 1) := by decide +kernel
theorem dX8_nextSet_5 : decode cX8_nextSet 5 = .ok (.iload_n 0, 1) := by decide +kernel
theorem dX8_nextSet_6 : decode cX8_nextSet 6 = .ok (.iload_n 1, 1) := by decide +kernel
theorem dX8_nextSet_7 : decode cX8_nextSet 7 = .ok (.iadd, 1) := by decide +kernel
theorem dX8_nextSet_8 : decode cX8_nextSet 8 = .ok (.istore_n 2, 1) := by decide +kernel
theorem dX8_nextSet_9 : decode cX8_nextSet 9 = .ok (.iload_n 1, 1) := by decide +kernel
theorem dX8_nextSet_10 : decode cX8_nextSet 10 = .ok (.iconst 1, 1) := by decide +kernel
theorem dX8_nextSet_11 : decode cX8_nextSet 11 = .ok (.isub, 1) := by decide +kernel
theorem dX8_nextSet_12 : decode cX8_nextSet 12 = .ok (.invokestatic 241, 3) := by decide +kernel
theorem dX8_nextSet_15 : decode cX8_nextSet 15 = .ok (.istore_n 3, 1) := by decide +kernel
theorem dX8_nextSet_16 : decode cX8_nextSet 16 = .ok (.iload_n 2, 1) := by decide +kernel
theorem dX8_nextSet_17 : decode cX8_nextSet 17 = .ok (.iload_n 2, 1) := by decide +kernel
theorem dX8_nextSet_18 : decode cX8_nextSet 18 = .ok (.iload_n 0, 1) := by decide +kernel
theorem dX8_nextSet_19 : decode cX8_nextSet 19 = .ok (.ixor, 1) := by decide +kernel
theorem dX8_nextSet_20 : decode cX8_nextSet 20 = .ok (.iconst 2, 1) := by decide +kernel
theorem dX8_nextSet_21 : decode cX8_nextSet 21 = .ok (.iushr, 1) := by decide +kernel
theorem dX8_nextSet_22 : decode cX8_nextSet 22 = .ok (.iload_n 3, 1) := by decide +kernel
theorem dX8_nextSet_23 : decode cX8_nextSet 23 = .ok (.iushr, 1) := by decide +kernel
theorem dX8_nextSet_24 : decode cX8_nextSet 24 = .ok (.ior, 1) := by decide +kernel
theorem dX8_nextSet_25 : decode cX8_nextSet 25 = .ok (.ireturn, 1) := by decide +kernel
theorem dX8_waysFrom_0 : decode cX8_waysFrom 0 = .ok (.iload_n 2, 1) := by decide +kernel
theorem dX8_waysFrom_1 : decode cX8_waysFrom 1 = .ok (.aload_n 1, 1) := by decide +kernel
theorem dX8_waysFrom_2 : decode cX8_waysFrom 2 = .ok (.invokevirtual 133, 3) := by decide +kernel
theorem dX8_waysFrom_5 : decode cX8_waysFrom 5 = .ok (.if_icmp .ge 9, 3) := by decide +kernel
theorem dX8_waysFrom_8 : decode cX8_waysFrom 8 = .ok (.iload_n 2, 1) := by decide +kernel
theorem dX8_waysFrom_9 : decode cX8_waysFrom 9 = .ok (.bipush 6, 2) := by decide +kernel
theorem dX8_waysFrom_11 : decode cX8_waysFrom 11 = .ok (.if_icmp .lt 5, 3) := by decide +kernel
theorem dX8_waysFrom_14 : decode cX8_waysFrom 14 = .ok (.iconst 1, 1) := by decide +kernel
theorem dX8_waysFrom_15 : decode cX8_waysFrom 15 = .ok (.ireturn, 1) := by decide +kernel
theorem dX8_waysFrom_16 : decode cX8_waysFrom 16 = .ok (.iconst 0, 1) := by decide +kernel
theorem dX8_waysFrom_17 : decode cX8_waysFrom 17 = .ok (.istore_n 3, 1) := by decide +kernel
theorem dX8_waysFrom_18 : decode cX8_waysFrom 18 = .ok (.aload_n 1, 1) := by decide +kernel
theorem dX8_waysFrom_19 : decode cX8_waysFrom 19 = .ok (.iload_n 2, 1) := by decide +kernel
theorem dX8_waysFrom_20 : decode cX8_waysFrom 20 = .ok (.invokevirtual 104, 3) := by decide +kernel
theorem dX8_waysFrom_23 : decode cX8_waysFrom 23 = .ok (.istore 4, 2) := by decide +kernel
theorem dX8_waysFrom_25 : decode cX8_waysFrom 25 = .ok (.iconst 0, 1) := by decide +kernel
theorem dX8_waysFrom_26 : decode cX8_waysFrom 26 = .ok (.istore 5, 2) := by decide +kernel
theorem dX8_waysFrom_28 : decode cX8_waysFrom 28 = .ok (.iload 5, 2) := by decide +kernel
theorem dX8_waysFrom_30 : decode cX8_waysFrom 30 = .ok (.aload_n 0, 1) := by decide +kernel
theorem dX8_waysFrom_31 : decode cX8_waysFrom 31 = .ok (.getfield 37, 3) := by decide +kernel
theorem dX8_waysFrom_34 : decode cX8_waysFrom 34 = .ok (.getfield 217, 3) := by decide +kernel
theorem dX8_waysFrom_37 : decode cX8_waysFrom 37 = .ok (.if_icmp .ge 66, 3) := by decide +kernel
theorem dX8_waysFrom_40 : decode cX8_waysFrom 40 = .ok (.iload 5, 2) := by decide +kernel
theorem dX8_waysFrom_42 : decode cX8_waysFrom 42 = .ok (.aload_n 0, 1) := by decide +kernel
theorem dX8_waysFrom_43 : decode cX8_waysFrom 43 = .ok (.getfield 72, 3) := by decide +kernel
theorem dX8_waysFrom_46 : decode cX8_waysFrom 46 = .ok (.arraylength, 1) := by decide +kernel
theorem dX8_waysFrom_47 : decode cX8_waysFrom 47 = .ok (.if_icmp .ge 56, 3) := by decide +kernel
theorem dX8_waysFrom_50 : decode cX8_waysFrom 50 = .ok (.aload_n 0, 1) := by decide +kernel
theorem dX8_waysFrom_51 : decode cX8_waysFrom 51 = .ok (.getfield 72, 3) := by decide +kernel
theorem dX8_waysFrom_54 : decode cX8_waysFrom 54 = .ok (.iload 5, 2) := by decide +kernel
theorem dX8_waysFrom_56 : decode cX8_waysFrom 56 = .ok (.iaload, 1) := by decide +kernel
theorem dX8_waysFrom_57 : decode cX8_waysFrom 57 = .ok (.iload 4, 2) := by decide +kernel
theorem dX8_waysFrom_59 : decode cX8_waysFrom 59 = .ok (.if_icmp .lt 38, 3) := by decide +kernel
theorem dX8_waysFrom_62 : decode cX8_waysFrom 62 = .ok (.aload_n 0, 1) := by decide +kernel
theorem dX8_waysFrom_63 : decode cX8_waysFrom 63 = .ok (.getfield 72, 3) := by decide +kernel
theorem dX8_waysFrom_66 : decode cX8_waysFrom 66 = .ok (.iload 5, 2) := by decide +kernel
theorem dX8_waysFrom_68 : decode cX8_waysFrom 68 = .ok (.dup2, 1) := by decide +kernel
theorem dX8_waysFrom_69 : decode cX8_waysFrom 69 = .ok (.iaload, 1) := by decide +kernel
theorem dX8_waysFrom_70 : decode cX8_waysFrom 70 = .ok (.iload 4, 2) := by decide +kernel
theorem dX8_waysFrom_72 : decode cX8_waysFrom 72 = .ok (.isub, 1) := by decide +kernel
theorem dX8_waysFrom_73 : decode cX8_waysFrom 73 = .ok (.iastore, 1) := by decide +kernel
theorem dX8_waysFrom_74 : decode cX8_waysFrom 74 = .ok (.iload_n 3, 1) := by decide +kernel
theorem dX8_waysFrom_75 : decode cX8_waysFrom 75 = .ok (.aload_n 0, 1) := by decide +kernel
theorem dX8_waysFrom_76 : decode cX8_waysFrom 76 = .ok (.aload_n 1, 1) := by decide +kernel
theorem dX8_waysFrom_77 : decode cX8_waysFrom 77 = .ok (.iload_n 2, 1) := by decide +kernel
theorem dX8_waysFrom_78 : decode cX8_waysFrom 78 = .ok (.iconst 1, 1) := by decide +kernel
theorem dX8_waysFrom_79 : decode cX8_waysFrom 79 = .ok (.iadd, 1) := by decide +kernel
theorem dX8_waysFrom_80 : decode cX8_waysFrom 80 = .ok (.invokevirtual 313, 3) := by decide +kernel
theorem dX8_waysFrom_83 : decode cX8_waysFrom 83 = .ok (.iadd, 1) := by decide +kernel
theorem dX8_waysFrom_84 : decode cX8_waysFrom 84 = .ok (.istore_n 3, 1) := by decide +kernel
theorem dX8_waysFrom_85 : decode cX8_waysFrom 85 = .ok (.aload_n 0, 1) := by decide +kernel
theorem dX8_waysFrom_86 : decode cX8_waysFrom 86 = .ok (.getfield 72, 3) := by decide +kernel
theorem dX8_waysFrom_89 : decode cX8_waysFrom 89 = .ok (.iload 5, 2) := by decide +kernel
theorem dX8_waysFrom_91 : decode cX8_waysFrom 91 = .ok (.dup2, 1) := by decide +kernel
theorem dX8_waysFrom_92 : decode cX8_waysFrom 92 = .ok (.iaload, 1) := by decide +kernel
theorem dX8_waysFrom_93 : decode cX8_waysFrom 93 = .ok (.iload 4, 2) := by decide +kernel
theorem dX8_waysFrom_95 : decode cX8_waysFrom 95 = .ok (.iadd, 1) := by decide +kernel
theorem dX8_waysFrom_96 : decode cX8_waysFrom 96 = .ok (.iastore, 1) := by decide +kernel
theorem dX8_waysFrom_97 : decode cX8_waysFrom 97 = .ok (.iinc 5 1, 3) := by decide +kernel
theorem dX8_waysFrom_100 : decode cX8_waysFrom 100 = .ok (.goto (-72), 3) := by decide +kernel
theorem dX8_waysFrom_103 : decode cX8_waysFrom 103 = .ok (.iload_n 3, 1) := by decide +kernel
theorem dX8_waysFrom_104 : decode cX8_waysFrom 104 = .ok (.ireturn, 1) := by decide +kernel
theorem dX8_waysToVanish_0 : decode cX8_waysToVanish 0 = .ok (.iload_n 1, 1) := by decide +kernel
theorem dX8_waysToVanish_1 : decode cX8_waysToVanish 1 = .ok (.ifCond .gt 13, 3) := by decide +kernel
theorem dX8_waysToVanish_4 : decode cX8_waysToVanish 4 = .ok (.iload_n 0, 1) := by decide +kernel
theorem dX8_waysToVanish_5 : decode cX8_waysToVanish 5 = .ok (.ifCond .gt 7, 3) := by decide +kernel
theorem dX8_waysToVanish_8 : decode cX8_waysToVanish 8 = .ok (.lconst 1, 1) := by decide +kernel
theorem dX8_waysToVanish_9 : decode cX8_waysToVanish 9 = .ok (.goto 4, 3) := by decide +kernel
theorem dX8_waysToVanish_12 : decode cX8_waysToVanish 12 = .ok (.lconst 0, 1) := by decide +kernel
theorem dX8_waysToVanish_13 : decode cX8_waysToVanish 13 = .ok (.lreturn, 1) := by decide +kernel
theorem dX8_waysToVanish_14 : decode cX8_waysToVanish 14 = .ok (.iload_n 0, 1) := by decide +kernel
theorem dX8_waysToVanish_15 : decode cX8_waysToVanish 15 = .ok (.ifCond .gt 16, 3) := by decide +kernel
theorem dX8_waysToVanish_18 : decode cX8_waysToVanish 18 = .ok (.ldc2_w 333, 3) := by decide +kernel
theorem dX8_waysToVanish_21 : decode cX8_waysToVanish 21 = .ok (.iconst 0, 1) := by decide +kernel
theorem dX8_waysToVanish_22 : decode cX8_waysToVanish 22 = .ok (.iload_n 1, 1) := by decide +kernel
theorem dX8_waysToVanish_23 : decode cX8_waysToVanish 23 = .ok (.iconst 1, 1) := by decide +kernel
theorem dX8_waysToVanish_24 : decode cX8_waysToVanish 24 = .ok (.isub, 1) := by decide +kernel
theorem dX8_waysToVanish_25 : decode cX8_waysToVanish 25 = .ok (.iload_n 2, 1) := by decide +kernel
theorem dX8_waysToVanish_26 : decode cX8_waysToVanish 26 = .ok (.invokestatic 335, 3) := by decide +kernel
theorem dX8_waysToVanish_29 : decode cX8_waysToVanish 29 = .ok (.lmul, 1) := by decide +kernel
theorem dX8_waysToVanish_30 : decode cX8_waysToVanish 30 = .ok (.lreturn, 1) := by decide +kernel
theorem dX8_waysToVanish_31 : decode cX8_waysToVanish 31 = .ok (.iload_n 2, 1) := by decide +kernel
theorem dX8_waysToVanish_32 : decode cX8_waysToVanish 32 = .ok (.i2l, 1) := by decide +kernel
theorem dX8_waysToVanish_33 : decode cX8_waysToVanish 33 = .ok (.iload_n 0, 1) := by decide +kernel
theorem dX8_waysToVanish_34 : decode cX8_waysToVanish 34 = .ok (.iconst 1, 1) := by decide +kernel
theorem dX8_waysToVanish_35 : decode cX8_waysToVanish 35 = .ok (.isub, 1) := by decide +kernel
theorem dX8_waysToVanish_36 : decode cX8_waysToVanish 36 = .ok (.iload_n 1, 1) := by decide +kernel
theorem dX8_waysToVanish_37 : decode cX8_waysToVanish 37 = .ok (.iconst 1, 1) := by decide +kernel
theorem dX8_waysToVanish_38 : decode cX8_waysToVanish 38 = .ok (.isub, 1) := by decide +kernel
theorem dX8_waysToVanish_39 : decode cX8_waysToVanish 39 = .ok (.iload_n 2, 1) := by decide +kernel
theorem dX8_waysToVanish_40 : decode cX8_waysToVanish 40 = .ok (.invokestatic 335, 3) := by decide +kernel
theorem dX8_waysToVanish_43 : decode cX8_waysToVanish 43 = .ok (.lmul, 1) := by decide +kernel
theorem dX8_waysToVanish_44 : decode cX8_waysToVanish 44 = .ok (.bipush 12, 2) := by decide +kernel
theorem dX8_waysToVanish_46 : decode cX8_waysToVanish 46 = .ok (.iload_n 2, 1) := by decide +kernel
theorem dX8_waysToVanish_47 : decode cX8_waysToVanish 47 = .ok (.isub, 1) := by decide +kernel
theorem dX8_waysToVanish_48 : decode cX8_waysToVanish 48 = .ok (.i2l, 1) := by decide +kernel
theorem dX8_waysToVanish_49 : decode cX8_waysToVanish 49 = .ok (.iload_n 0, 1) := by decide +kernel
theorem dX8_waysToVanish_50 : decode cX8_waysToVanish 50 = .ok (.iload_n 1, 1) := by decide +kernel
theorem dX8_waysToVanish_51 : decode cX8_waysToVanish 51 = .ok (.iconst 1, 1) := by decide +kernel
theorem dX8_waysToVanish_52 : decode cX8_waysToVanish 52 = .ok (.isub, 1) := by decide +kernel
theorem dX8_waysToVanish_53 : decode cX8_waysToVanish 53 = .ok (.iload_n 2, 1) := by decide +kernel
theorem dX8_waysToVanish_54 : decode cX8_waysToVanish 54 = .ok (.invokestatic 335, 3) := by decide +kernel
theorem dX8_waysToVanish_57 : decode cX8_waysToVanish 57 = .ok (.lmul, 1) := by decide +kernel
theorem dX8_waysToVanish_58 : decode cX8_waysToVanish 58 = .ok (.ladd, 1) := by decide +kernel
theorem dX8_waysToVanish_59 : decode cX8_waysToVanish 59 = .ok (.lreturn, 1) := by decide +kernel
