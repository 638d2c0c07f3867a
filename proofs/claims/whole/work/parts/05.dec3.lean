theorem dX9_init_0 : decode cX9_init 0 = .ok (.aload_n 0, 1) := by decide +kernel
theorem dX9_init_1 : decode cX9_init 1 = .ok (.invokespecial 1, 3) := by decide +kernel
theorem dX9_init_4 : decode cX9_init 4 = .ok (.aload_n 0, 1) := by decide +kernel
theorem dX9_init_5 : decode cX9_init 5 = .ok (.bipush 6, 2) := by decide +kernel
theorem dX9_init_7 : decode cX9_init 7 = .ok (.newarray .int, 2) := by decide +kernel
theorem dX9_init_9 : decode cX9_init 9 = .ok (.putfield 7, 3) := by decide +kernel
theorem dX9_init_12 : decode cX9_init 12 = .ok (.aload_n 0, 1) := by decide +kernel
theorem dX9_init_13 : decode cX9_init 13 = .ok (.lconst 1, 1) := by decide +kernel
theorem dX9_init_14 : decode cX9_init 14 = .ok (.putfield 13, 3) := by decide +kernel
theorem dX9_init_17 : decode cX9_init 17 = .ok (.aload_n 0, 1) := by decide +kernel
theorem dX9_init_18 : decode cX9_init 18 = .ok (.bipush 6, 2) := by decide +kernel
theorem dX9_init_20 : decode cX9_init 20 = .ok (.newarray .int, 2) := by decide +kernel
theorem dX9_init_22 : decode cX9_init 22 = .ok (.putfield 17, 3) := by decide +kernel
theorem dX9_init_25 : decode cX9_init 25 = .ok (.aload_n 0, 1) := by decide +kernel
theorem dX9_init_26 : decode cX9_init 26 = .ok (.sipush 240, 3) := by decide +kernel
theorem dX9_init_29 : decode cX9_init 29 = .ok (.newarray .int, 2) := by decide +kernel
theorem dX9_init_31 : decode cX9_init 31 = .ok (.putfield 20, 3) := by decide +kernel
theorem dX9_init_34 : decode cX9_init 34 = .ok (.aload_n 0, 1) := by decide +kernel
theorem dX9_init_35 : decode cX9_init 35 = .ok (.bipush 40, 2) := by decide +kernel
theorem dX9_init_37 : decode cX9_init 37 = .ok (.newarray .int, 2) := by decide +kernel
theorem dX9_init_39 : decode cX9_init 39 = .ok (.putfield 23, 3) := by decide +kernel
theorem dX9_init_42 : decode cX9_init 42 = .ok (.aload_n 0, 1) := by decide +kernel
theorem dX9_init_43 : decode cX9_init 43 = .ok (.iconst 4, 1) := by decide +kernel
theorem dX9_init_44 : decode cX9_init 44 = .ok (.newarray .int, 2) := by decide +kernel
theorem dX9_init_46 : decode cX9_init 46 = .ok (.putfield 26, 3) := by decide +kernel
theorem dX9_init_49 : decode cX9_init 49 = .ok (.aload_n 0, 1) := by decide +kernel
theorem dX9_init_50 : decode cX9_init 50 = .ok (.sipush 240, 3) := by decide +kernel
theorem dX9_init_53 : decode cX9_init 53 = .ok (.newarray .int, 2) := by decide +kernel
theorem dX9_init_55 : decode cX9_init 55 = .ok (.putfield 29, 3) := by decide +kernel
theorem dX9_init_58 : decode cX9_init 58 = .ok (.aload_n 0, 1) := by decide +kernel
theorem dX9_init_59 : decode cX9_init 59 = .ok (.bipush 16, 2) := by decide +kernel
theorem dX9_init_61 : decode cX9_init 61 = .ok (.newarray .int, 2) := by decide +kernel
theorem dX9_init_63 : decode cX9_init 63 = .ok (.putfield 32, 3) := by decide +kernel
theorem dX9_init_66 : decode cX9_init 66 = .ok (.aload_n 0, 1) := by decide +kernel
theorem dX9_init_67 : decode cX9_init 67 = .ok (.iconst 4, 1) := by decide +kernel
theorem dX9_init_68 : decode cX9_init 68 = .ok (.newarray .int, 2) := by decide +kernel
theorem dX9_init_70 : decode cX9_init 70 = .ok (.putfield 35, 3) := by decide +kernel
theorem dX9_init_73 : decode cX9_init 73 = .ok (.aload_n 0, 1) := by decide +kernel
theorem dX9_init_74 : decode cX9_init 74 = .ok (.bipush 6, 2) := by decide +kernel
theorem dX9_init_76 : decode cX9_init 76 = .ok (.newarray .int, 2) := by decide +kernel
theorem dX9_init_78 : decode cX9_init 78 = .ok (.putfield 38, 3) := by decide +kernel
theorem dX9_init_81 : decode cX9_init 81 = .ok (.aload_n 0, 1) := by decide +kernel
theorem dX9_init_82 : decode cX9_init 82 = .ok (.bipush 26, 2) := by decide +kernel
theorem dX9_init_84 : decode cX9_init 84 = .ok (.newarray .int, 2) := by decide +kernel
theorem dX9_init_86 : decode cX9_init 86 = .ok (.putfield 41, 3) := by decide +kernel
theorem dX9_init_89 : decode cX9_init 89 = .ok (.aload_n 0, 1) := by decide +kernel
theorem dX9_init_90 : decode cX9_init 90 = .ok (.bipush 8, 2) := by decide +kernel
theorem dX9_init_92 : decode cX9_init 92 = .ok (.newarray .int, 2) := by decide +kernel
theorem dX9_init_94 : decode cX9_init 94 = .ok (.putfield 44, 3) := by decide +kernel
theorem dX9_init_97 : decode cX9_init 97 = .ok (.aload_n 0, 1) := by decide +kernel
theorem dX9_init_98 : decode cX9_init 98 = .ok (.bipush 8, 2) := by decide +kernel
theorem dX9_init_100 : decode cX9_init 100 = .ok (.newarray .int, 2) := by decide +kernel
theorem dX9_init_102 : decode cX9_init 102 = .ok (.putfield 47, 3) := by decide +kernel
theorem dX9_init_105 : decode cX9_init 105 = .ok (.aload_n 0, 1) := by decide +kernel
theorem dX9_init_106 : decode cX9_init 106 = .ok (.sipush 680, 3) := by decide +kernel
theorem dX9_init_109 : decode cX9_init 109 = .ok (.newarray .int, 2) := by decide +kernel
theorem dX9_init_111 : decode cX9_init 111 = .ok (.putfield 50, 3) := by decide +kernel
theorem dX9_init_114 : decode cX9_init 114 = .ok (.aload_n 0, 1) := by decide +kernel
theorem dX9_init_115 : decode cX9_init 115 = .ok (.iconst 3, 1) := by decide +kernel
theorem dX9_init_116 : decode cX9_init 116 = .ok (.newarray .int, 2) := by decide +kernel
theorem dX9_init_118 : decode cX9_init 118 = .ok (.putfield 53, 3) := by decide +kernel
theorem dX9_init_121 : decode cX9_init 121 = .ok (.aload_n 0, 1) := by decide +kernel
theorem dX9_init_122 : decode cX9_init 122 = .ok (.bipush 51, 2) := by decide +kernel
theorem dX9_init_124 : decode cX9_init 124 = .ok (.newarray .int, 2) := by decide +kernel
theorem dX9_init_126 : decode cX9_init 126 = .ok (.putfield 56, 3) := by decide +kernel
theorem dX9_init_129 : decode cX9_init 129 = .ok (.aload_n 0, 1) := by decide +kernel
theorem dX9_init_130 : decode cX9_init 130 = .ok (.iconst 3, 1) := by decide +kernel
theorem dX9_init_131 : decode cX9_init 131 = .ok (.newarray .int, 2) := by decide +kernel
theorem dX9_init_133 : decode cX9_init 133 = .ok (.putfield 59, 3) := by decide +kernel
theorem dX9_init_136 : decode cX9_init 136 = .ok (.aload_n 0, 1) := by decide +kernel
theorem dX9_init_137 : decode cX9_init 137 = .ok (.bipush 8, 2) := by decide +kernel
theorem dX9_init_139 : decode cX9_init 139 = .ok (.newarray .int, 2) := by decide +kernel
theorem dX9_init_141 : decode cX9_init 141 = .ok (.putfield 62, 3) := by decide +kernel
theorem dX9_init_144 : decode cX9_init 144 = .ok (.aload_n 0, 1) := by decide +kernel
theorem dX9_init_145 : decode cX9_init 145 = .ok (.bipush 6, 2) := by decide +kernel
theorem dX9_init_147 : decode cX9_init 147 = .ok (.newarray .long, 2) := by decide +kernel
theorem dX9_init_149 : decode cX9_init 149 = .ok (.putfield 65, 3) := by decide +kernel
theorem dX9_init_152 : decode cX9_init 152 = .ok (.iconst 0, 1) := by decide +kernel
theorem dX9_init_153 : decode cX9_init 153 = .ok (.istore_n 1, 1) := by decide +kernel
theorem dX9_init_154 : decode cX9_init 154 = .ok (.iload_n 1, 1) := by decide +kernel
theorem dX9_init_155 : decode cX9_init 155 = .ok (.bipush 6, 2) := by decide +kernel
theorem dX9_init_157 : decode cX9_init 157 = .ok (.if_icmp .ge 17, 3) := by decide +kernel
theorem dX9_init_160 : decode cX9_init 160 = .ok (.aload_n 0, 1) := by decide +kernel
theorem dX9_init_161 : decode cX9_init 161 = .ok (.getfield 17, 3) := by decide +kernel
theorem dX9_init_164 : decode cX9_init 164 = .ok (.iload_n 1, 1) := by decide +kernel
theorem dX9_init_165 : decode cX9_init 165 = .ok (.bipush (-9), 2) := by decide +kernel
theorem dX9_init_167 : decode cX9_init 167 = .ok (.iastore, 1) := by decide +kernel
theorem dX9_init_168 : decode cX9_init 168 = .ok (.iinc 1 1, 3) := by decide +kernel
theorem dX9_init_171 : decode cX9_init 171 = .ok (.goto (-17), 3) := by decide +kernel
theorem dX9_init_174 : decode cX9_init 174 = .ok (.iconst 0, 1) := by decide +kernel
theorem dX9_init_175 : decode cX9_init 175 = .ok (.istore_n 1, 1) := by decide +kernel
theorem dX9_init_176 : decode cX9_init 176 = .ok (.iload_n 1, 1) := by decide +kernel
theorem dX9_init_177 : decode cX9_init 177 = .ok (.iconst 4, 1) := by decide +kernel
theorem dX9_init_178 : decode cX9_init 178 = .ok (.if_icmp .ge 17, 3) := by decide +kernel
theorem dX9_init_181 : decode cX9_init 181 = .ok (.aload_n 0, 1) := by decide +kernel
theorem dX9_init_182 : decode cX9_init 182 = .ok (.getfield 26, 3) := by decide +kernel
theorem dX9_init_185 : decode cX9_init 185 = .ok (.iload_n 1, 1) := by decide +kernel
theorem dX9_init_186 : decode cX9_init 186 = .ok (.bipush (-9), 2) := by decide +kernel
theorem dX9_init_188 : decode cX9_init 188 = .ok (.iastore, 1) := by decide +kernel
theorem dX9_init_189 : decode cX9_init 189 = .ok (.iinc 1 1, 3) := by decide +kernel
theorem dX9_init_192 : decode cX9_init 192 = .ok (.goto (-16), 3) := by decide +kernel
theorem dX9_init_195 : decode cX9_init 195 = .ok (.return_, 1) := by decide +kernel
theorem dX9_in_0 : decode cX9_in 0 = .ok (.iload_n 0, 1) := by decide +kernel
theorem dX9_in_1 : decode cX9_in 1 = .ok (.iload_n 1, 1) := by decide +kernel
theorem dX9_in_2 : decode cX9_in 2 = .ok (.if_icmp .lt 12, 3) := by decide +kernel
theorem dX9_in_5 : decode cX9_in 5 = .ok (.iload_n 0, 1) := by decide +kernel
theorem dX9_in_6 : decode cX9_in 6 = .ok (.iload_n 2, 1) := by decide +kernel
theorem dX9_in_7 : decode cX9_in 7 = .ok (.if_icmp .gt 7, 3) := by decide +kernel
theorem dX9_in_10 : decode cX9_in 10 = .ok (.iconst 1, 1) := by decide +kernel
theorem dX9_in_11 : decode cX9_in 11 = .ok (.goto 4, 3) := by decide +kernel
theorem dX9_in_14 : decode cX9_in 14 = .ok (.iconst 0, 1) := by decide +kernel
theorem dX9_in_15 : decode cX9_in 15 = .ok (.ireturn, 1) := by decide +kernel
theorem dX9_meet_0 : decode cX9_meet 0 = .ok (.aload_n 0, 1) := by decide +kernel
theorem dX9_meet_1 : decode cX9_meet 1 = .ok (.iload_n 1, 1) := by decide +kernel
theorem dX9_meet_2 : decode cX9_meet 2 = .ok (.putfield 69, 3) := by decide +kernel
theorem dX9_meet_5 : decode cX9_meet 5 = .ok (.aload_n 0, 1) := by decide +kernel
theorem dX9_meet_6 : decode cX9_meet 6 = .ok (.getfield 7, 3) := by decide +kernel
theorem dX9_meet_9 : decode cX9_meet 9 = .ok (.iload_n 1, 1) := by decide +kernel
theorem dX9_meet_10 : decode cX9_meet 10 = .ok (.dup2, 1) := by decide +kernel
theorem dX9_meet_11 : decode cX9_meet 11 = .ok (.iaload, 1) := by decide +kernel
theorem dX9_meet_12 : decode cX9_meet 12 = .ok (.iconst 1, 1) := by decide +kernel
theorem dX9_meet_13 : decode cX9_meet 13 = .ok (.iadd, 1) := by decide +kernel
theorem dX9_meet_14 : decode cX9_meet 14 = .ok (.iastore, 1) := by decide +kernel
theorem dX9_meet_15 : decode cX9_meet 15 = .ok (.bipush (-3), 2) := by decide +kernel
theorem dX9_meet_17 : decode cX9_meet 17 = .ok (.ireturn, 1) := by decide +kernel
theorem dX9_ask_0 : decode cX9_ask 0 = .ok (.aload_n 0, 1) := by decide +kernel
theorem dX9_ask_1 : decode cX9_ask 1 = .ok (.iload_n 1, 1) := by decide +kernel
theorem dX9_ask_2 : decode cX9_ask 2 = .ok (.putfield 73, 3) := by decide +kernel
theorem dX9_ask_5 : decode cX9_ask 5 = .ok (.iload_n 2, 1) := by decide +kernel
theorem dX9_ask_6 : decode cX9_ask 6 = .ok (.ireturn, 1) := by decide +kernel
theorem dX9_has_0 : decode cX9_has 0 = .ok (.iload_n 0, 1) := by decide +kernel
theorem dX9_has_1 : decode cX9_has 1 = .ok (.iload_n 1, 1) := by decide +kernel
theorem dX9_has_2 : decode cX9_has 2 = .ok (.ishr, 1) := by decide +kernel
theorem dX9_has_3 : decode cX9_has 3 = .ok (.iconst 1, 1) := by decide +kernel
theorem dX9_has_4 : decode cX9_has 4 = .ok (.iand, 1) := by decide +kernel
theorem dX9_has_5 : decode cX9_has 5 = .ok (.iconst 1, 1) := by decide +kernel
theorem dX9_has_6 : decode cX9_has 6 = .ok (.if_icmp .ne 7, 3) := by decide +kernel
theorem dX9_has_9 : decode cX9_has 9 = .ok (.iconst 1, 1) := by decide +kernel
theorem dX9_has_10 : decode cX9_has 10 = .ok (.goto 4, 3) := by decide +kernel
theorem dX9_has_13 : decode cX9_has 13 = .ok (.iconst 0, 1) := by decide +kernel
theorem dX9_has_14 : decode cX9_has 14 = .ok (.ireturn, 1) := by decide +kernel
theorem dX9_sizeOf_0 : decode cX9_sizeOf 0 = .ok (.iconst 0, 1) := by decide +kernel
theorem dX9_sizeOf_1 : decode cX9_sizeOf 1 = .ok (.istore_n 1, 1) := by decide +kernel
theorem dX9_sizeOf_2 : decode cX9_sizeOf 2 = .ok (.iconst 0, 1) := by decide +kernel
theorem dX9_sizeOf_3 : decode cX9_sizeOf 3 = .ok (.istore_n 2, 1) := by decide +kernel
theorem dX9_sizeOf_4 : decode cX9_sizeOf 4 = .ok (.iload_n 2, 1) := by decide +kernel
theorem dX9_sizeOf_5 : decode cX9_sizeOf 5 = .ok (.bipush 16, 2) := by decide +kernel
theorem dX9_sizeOf_7 : decode cX9_sizeOf 7 = .ok (.if_icmp .ge 17, 3) := by decide +kernel
theorem dX9_sizeOf_10 : decode cX9_sizeOf 10 = .ok (.iload_n 1, 1) := by decide +kernel
theorem dX9_sizeOf_11 : decode cX9_sizeOf 11 = .ok (.iload_n 0, 1) := by decide +kernel
theorem dX9_sizeOf_12 : decode cX9_sizeOf 12 = .ok (.iload_n 2, 1) := by decide +kernel
theorem dX9_sizeOf_13 : decode cX9_sizeOf 13 = .ok (.ishr, 1) := by decide +kernel
theorem dX9_sizeOf_14 : decode cX9_sizeOf 14 = .ok (.iconst 1, 1) := by decide +kernel
theorem dX9_sizeOf_15 : decode cX9_sizeOf 15 = .ok (.iand, 1) := by decide +kernel
theorem dX9_sizeOf_16 : decode cX9_sizeOf 16 = .ok (.iadd, 1) := by decide +kernel
theorem dX9_sizeOf_17 : decode cX9_sizeOf 17 = .ok (.istore_n 1, 1) := by decide +kernel
theorem dX9_sizeOf_18 : decode cX9_sizeOf 18 = .ok (.iinc 2 1, 3) := by decide +kernel
theorem dX9_sizeOf_21 : decode cX9_sizeOf 21 = .ok (.goto (-17), 3) := by decide +kernel
theorem dX9_sizeOf_24 : decode cX9_sizeOf 24 = .ok (.iload_n 1, 1) := by decide +kernel
theorem dX9_sizeOf_25 : decode cX9_sizeOf 25 = .ok (.ireturn, 1) := by decide +kernel
theorem dX9_greater_0 : decode cX9_greater 0 = .ok (.iload_n 0, 1) := by decide +kernel
theorem dX9_greater_1 : decode cX9_greater 1 = .ok (.iload_n 1, 1) := by decide +kernel
theorem dX9_greater_2 : decode cX9_greater 2 = .ok (.if_icmp .le 7, 3) := by decide +kernel
theorem dX9_greater_5 : decode cX9_greater 5 = .ok (.iload_n 0, 1) := by decide +kernel
theorem dX9_greater_6 : decode cX9_greater 6 = .ok (.goto 4, 3) := by decide +kernel
theorem dX9_greater_9 : decode cX9_greater 9 = .ok (.iload_n 1, 1) := by decide +kernel
theorem dX9_greater_10 : decode cX9_greater 10 = .ok (.ireturn, 1) := by decide +kernel
theorem dX9_part_0 : decode cX9_part 0 = .ok (.lload_n 1, 1) := by decide +kernel
theorem dX9_part_1 : decode cX9_part 1 = .ok (.lstore 5, 2) := by decide +kernel
theorem dX9_part_3 : decode cX9_part 3 = .ok (.lload_n 3, 1) := by decide +kernel
theorem dX9_part_4 : decode cX9_part 4 = .ok (.lstore 7, 2) := by decide +kernel
theorem dX9_part_6 : decode cX9_part 6 = .ok (.lload 7, 2) := by decide +kernel
theorem dX9_part_8 : decode cX9_part 8 = .ok (.lconst 0, 1) := by decide +kernel
theorem dX9_part_9 : decode cX9_part 9 = .ok (.lcmp, 1) := by decide +kernel
theorem dX9_part_10 : decode cX9_part 10 = .ok (.ifCond .eq 21, 3) := by decide +kernel
theorem dX9_part_13 : decode cX9_part 13 = .ok (.lload 5, 2) := by decide +kernel
theorem dX9_part_15 : decode cX9_part 15 = .ok (.lload 7, 2) := by decide +kernel
theorem dX9_part_17 : decode cX9_part 17 = .ok (.lrem, 1) := by decide +kernel
theorem dX9_part_18 : decode cX9_part 18 = .ok (.lstore 9, 2) := by decide +kernel
theorem dX9_part_20 : decode cX9_part 20 = .ok (.lload 7, 2) := by decide +kernel
theorem dX9_part_22 : decode cX9_part 22 = .ok (.lstore 5, 2) := by decide +kernel
theorem dX9_part_24 : decode cX9_part 24 = .ok (.lload 9, 2) := by decide +kernel
theorem dX9_part_26 : decode cX9_part 26 = .ok (.lstore 7, 2) := by decide +kernel
theorem dX9_part_28 : decode cX9_part 28 = .ok (.goto (-22), 3) := by decide +kernel
theorem dX9_part_31 : decode cX9_part 31 = .ok (.aload_n 0, 1) := by decide +kernel
theorem dX9_part_32 : decode cX9_part 32 = .ok (.lload_n 1, 1) := by decide +kernel
theorem dX9_part_33 : decode cX9_part 33 = .ok (.lload 5, 2) := by decide +kernel
theorem dX9_part_35 : decode cX9_part 35 = .ok (.ldiv, 1) := by decide +kernel
theorem dX9_part_36 : decode cX9_part 36 = .ok (.putfield 76, 3) := by decide +kernel
theorem dX9_part_39 : decode cX9_part 39 = .ok (.aload_n 0, 1) := by decide +kernel
theorem dX9_part_40 : decode cX9_part 40 = .ok (.lload_n 3, 1) := by decide +kernel
theorem dX9_part_41 : decode cX9_part 41 = .ok (.lload 5, 2) := by decide +kernel
theorem dX9_part_43 : decode cX9_part 43 = .ok (.ldiv, 1) := by decide +kernel
theorem dX9_part_44 : decode cX9_part 44 = .ok (.putfield 13, 3) := by decide +kernel
theorem dX9_part_47 : decode cX9_part 47 = .ok (.iconst 1, 1) := by decide +kernel
theorem dX9_part_48 : decode cX9_part 48 = .ok (.ireturn, 1) := by decide +kernel
theorem dX9_isRow_0 : decode cX9_isRow 0 = .ok (.iload_n 0, 1) := by decide +kernel
theorem dX9_isRow_1 : decode cX9_isRow 1 = .ok (.iconst 0, 1) := by decide +kernel
theorem dX9_isRow_2 : decode cX9_isRow 2 = .ok (.iconst 5, 1) := by decide +kernel
theorem dX9_isRow_3 : decode cX9_isRow 3 = .ok (.invokestatic 79, 3) := by decide +kernel
theorem dX9_isRow_6 : decode cX9_isRow 6 = .ok (.ireturn, 1) := by decide +kernel
theorem dX9_isText_0 : decode cX9_isText 0 = .ok (.iload_n 0, 1) := by decide +kernel
theorem dX9_isText_1 : decode cX9_isText 1 = .ok (.iconst 0, 1) := by decide +kernel
theorem dX9_isText_2 : decode cX9_isText 2 = .ok (.iconst 3, 1) := by decide +kernel
theorem dX9_isText_3 : decode cX9_isText 3 = .ok (.invokestatic 79, 3) := by decide +kernel
theorem dX9_isText_6 : decode cX9_isText 6 = .ok (.ireturn, 1) := by decide +kernel
theorem dX9_askedRow_0 : decode cX9_askedRow 0 = .ok (.iload_n 1, 1) := by decide +kernel
theorem dX9_askedRow_1 : decode cX9_askedRow 1 = .ok (.invokestatic 83, 3) := by decide +kernel
theorem dX9_askedRow_4 : decode cX9_askedRow 4 = .ok (.ifCond .ne 7, 3) := by decide +kernel
theorem dX9_askedRow_7 : decode cX9_askedRow 7 = .ok (.iconst (-1), 1) := by decide +kernel
theorem dX9_askedRow_8 : decode cX9_askedRow 8 = .ok (.goto 21, 3) := by decide +kernel
theorem dX9_askedRow_11 : decode cX9_askedRow 11 = .ok (.aload_n 0, 1) := by decide +kernel
theorem dX9_askedRow_12 : decode cX9_askedRow 12 = .ok (.getfield 17, 3) := by decide +kernel
theorem dX9_askedRow_15 : decode cX9_askedRow 15 = .ok (.iload_n 1, 1) := by decide +kernel
theorem dX9_askedRow_16 : decode cX9_askedRow 16 = .ok (.iaload, 1) := by decide +kernel
theorem dX9_askedRow_17 : decode cX9_askedRow 17 = .ok (.ifCond .ge 11, 3) := by decide +kernel
theorem dX9_askedRow_20 : decode cX9_askedRow 20 = .ok (.aload_n 0, 1) := by decide +kernel
theorem dX9_askedRow_21 : decode cX9_askedRow 21 = .ok (.iconst 1, 1) := by decide +kernel
theorem dX9_askedRow_22 : decode cX9_askedRow 22 = .ok (.invokevirtual 87, 3) := by decide +kernel
theorem dX9_askedRow_25 : decode cX9_askedRow 25 = .ok (.goto 4, 3) := by decide +kernel
theorem dX9_askedRow_28 : decode cX9_askedRow 28 = .ok (.iconst 0, 1) := by decide +kernel
theorem dX9_askedRow_29 : decode cX9_askedRow 29 = .ok (.ireturn, 1) := by decide +kernel
theorem dX9_askedText_0 : decode cX9_askedText 0 = .ok (.iload_n 1, 1) := by decide +kernel
theorem dX9_askedText_1 : decode cX9_askedText 1 = .ok (.invokestatic 91, 3) := by decide +kernel
theorem dX9_askedText_4 : decode cX9_askedText 4 = .ok (.ifCond .ne 7, 3) := by decide +kernel
theorem dX9_askedText_7 : decode cX9_askedText 7 = .ok (.iconst (-1), 1) := by decide +kernel
theorem dX9_askedText_8 : decode cX9_askedText 8 = .ok (.goto 21, 3) := by decide +kernel
theorem dX9_askedText_11 : decode cX9_askedText 11 = .ok (.aload_n 0, 1) := by decide +kernel
theorem dX9_askedText_12 : decode cX9_askedText 12 = .ok (.getfield 26, 3) := by decide +kernel
theorem dX9_askedText_15 : decode cX9_askedText 15 = .ok (.iload_n 1, 1) := by decide +kernel
theorem dX9_askedText_16 : decode cX9_askedText 16 = .ok (.iaload, 1) := by decide +kernel
theorem dX9_askedText_17 : decode cX9_askedText 17 = .ok (.ifCond .ge 11, 3) := by decide +kernel
theorem dX9_askedText_20 : decode cX9_askedText 20 = .ok (.aload_n 0, 1) := by decide +kernel
theorem dX9_askedText_21 : decode cX9_askedText 21 = .ok (.iconst 1, 1) := by decide +kernel
theorem dX9_askedText_22 : decode cX9_askedText 22 = .ok (.invokevirtual 87, 3) := by decide +kernel
theorem dX9_askedText_25 : decode cX9_askedText 25 = .ok (.goto 4, 3) := by decide +kernel
theorem dX9_askedText_28 : decode cX9_askedText 28 = .ok (.iconst 0, 1) := by decide +kernel
theorem dX9_askedText_29 : decode cX9_askedText 29 = .ok (.ireturn, 1) := by decide +kernel
theorem dX9_rowAt_0 : decode cX9_rowAt 0 = .ok (.aload_n 0, 1) := by decide +kernel
theorem dX9_rowAt_1 : decode cX9_rowAt 1 = .ok (.getfield 20, 3) := by decide +kernel
theorem dX9_rowAt_4 : decode cX9_rowAt 4 = .ok (.bipush 40, 2) := by decide +kernel
theorem dX9_rowAt_6 : decode cX9_rowAt 6 = .ok (.iload_n 1, 1) := by decide +kernel
theorem dX9_rowAt_7 : decode cX9_rowAt 7 = .ok (.imul, 1) := by decide +kernel
theorem dX9_rowAt_8 : decode cX9_rowAt 8 = .ok (.iload_n 2, 1) := by decide +kernel
theorem dX9_rowAt_9 : decode cX9_rowAt 9 = .ok (.iadd, 1) := by decide +kernel
theorem dX9_rowAt_10 : decode cX9_rowAt 10 = .ok (.iaload, 1) := by decide +kernel
theorem dX9_rowAt_11 : decode cX9_rowAt 11 = .ok (.ireturn, 1) := by decide +kernel
theorem dX9_setRow_0 : decode cX9_setRow 0 = .ok (.aload_n 0, 1) := by decide +kernel
theorem dX9_setRow_1 : decode cX9_setRow 1 = .ok (.getfield 20, 3) := by decide +kernel
theorem dX9_setRow_4 : decode cX9_setRow 4 = .ok (.bipush 40, 2) := by decide +kernel
theorem dX9_setRow_6 : decode cX9_setRow 6 = .ok (.iload_n 1, 1) := by decide +kernel
theorem dX9_setRow_7 : decode cX9_setRow 7 = .ok (.imul, 1) := by decide +kernel
theorem dX9_setRow_8 : decode cX9_setRow 8 = .ok (.iload_n 2, 1) := by decide +kernel
theorem dX9_setRow_9 : decode cX9_setRow 9 = .ok (.iadd, 1) := by decide +kernel
theorem dX9_setRow_10 : decode cX9_setRow 10 = .ok (.iload_n 3, 1) := by decide +kernel
theorem dX9_setRow_11 : decode cX9_setRow 11 = .ok (.iastore, 1) := by decide +kernel
theorem dX9_setRow_12 : decode cX9_setRow 12 = .ok (.return_, 1) := by decide +kernel
theorem dX9_row_0 : decode cX9_row 0 = .ok (.iload_n 1, 1) := by decide +kernel
theorem dX9_row_1 : decode cX9_row 1 = .ok (.invokestatic 83, 3) := by decide +kernel
theorem dX9_row_4 : decode cX9_row 4 = .ok (.ifCond .eq 9, 3) := by decide +kernel
theorem dX9_row_7 : decode cX9_row 7 = .ok (.iload_n 2, 1) := by decide +kernel
theorem dX9_row_8 : decode cX9_row 8 = .ok (.bipush 40, 2) := by decide +kernel
theorem dX9_row_10 : decode cX9_row 10 = .ok (.if_icmp .le 5, 3) := by decide +kernel
theorem dX9_row_13 : decode cX9_row 13 = .ok (.iconst (-1), 1) := by decide +kernel
theorem dX9_row_14 : decode cX9_row 14 = .ok (.ireturn, 1) := by decide +kernel
theorem dX9_row_15 : decode cX9_row 15 = .ok (.iload_n 2, 1) := by decide +kernel
theorem dX9_row_16 : decode cX9_row 16 = .ok (.ifCond .ge 9, 3) := by decide +kernel
theorem dX9_row_19 : decode cX9_row 19 = .ok (.aload_n 0, 1) := by decide +kernel
theorem dX9_row_20 : decode cX9_row 20 = .ok (.iconst 5, 1) := by decide +kernel
theorem dX9_row_21 : decode cX9_row 21 = .ok (.invokevirtual 87, 3) := by decide +kernel
theorem dX9_row_24 : decode cX9_row 24 = .ok (.ireturn, 1) := by decide +kernel
theorem dX9_row_25 : decode cX9_row 25 = .ok (.aload_n 0, 1) := by decide +kernel
theorem dX9_row_26 : decode cX9_row 26 = .ok (.getfield 17, 3) := by decide +kernel
theorem dX9_row_29 : decode cX9_row 29 = .ok (.iload_n 1, 1) := by decide +kernel
theorem dX9_row_30 : decode cX9_row 30 = .ok (.iload_n 2, 1) := by decide +kernel
theorem dX9_row_31 : decode cX9_row 31 = .ok (.iastore, 1) := by decide +kernel
theorem dX9_row_32 : decode cX9_row 32 = .ok (.iconst 0, 1) := by decide +kernel
theorem dX9_row_33 : decode cX9_row 33 = .ok (.istore_n 3, 1) := by decide +kernel
theorem dX9_row_34 : decode cX9_row 34 = .ok (.iload_n 3, 1) := by decide +kernel
theorem dX9_row_35 : decode cX9_row 35 = .ok (.bipush 40, 2) := by decide +kernel
theorem dX9_row_37 : decode cX9_row 37 = .ok (.if_icmp .ge 16, 3) := by decide +kernel
theorem dX9_row_40 : decode cX9_row 40 = .ok (.aload_n 0, 1) := by decide +kernel
theorem dX9_row_41 : decode cX9_row 41 = .ok (.iload_n 1, 1) := by decide +kernel
theorem dX9_row_42 : decode cX9_row 42 = .ok (.iload_n 3, 1) := by decide +kernel
theorem dX9_row_43 : decode cX9_row 43 = .ok (.iconst 0, 1) := by decide +kernel
theorem dX9_row_44 : decode cX9_row 44 = .ok (.invokevirtual 94, 3) := by decide +kernel
theorem dX9_row_47 : decode cX9_row 47 = .ok (.iinc 3 1, 3) := by decide +kernel
theorem dX9_row_50 : decode cX9_row 50 = .ok (.goto (-16), 3) := by decide +kernel
theorem dX9_row_53 : decode cX9_row 53 = .ok (.iload_n 2, 1) := by decide +kernel
theorem dX9_row_54 : decode cX9_row 54 = .ok (.ireturn, 1) := by decide +kernel
theorem dX9_at_0 : decode cX9_at 0 = .ok (.aload_n 0, 1) := by decide +kernel
theorem dX9_at_1 : decode cX9_at 1 = .ok (.iload_n 1, 1) := by decide +kernel
theorem dX9_at_2 : decode cX9_at 2 = .ok (.invokevirtual 98, 3) := by decide +kernel
theorem dX9_at_5 : decode cX9_at 5 = .ok (.istore_n 3, 1) := by decide +kernel
theorem dX9_at_6 : decode cX9_at 6 = .ok (.iload_n 3, 1) := by decide +kernel
theorem dX9_at_7 : decode cX9_at 7 = .ok (.ifCond .ge 5, 3) := by decide +kernel
theorem dX9_at_10 : decode cX9_at 10 = .ok (.iload_n 3, 1) := by decide +kernel
theorem dX9_at_11 : decode cX9_at 11 = .ok (.ireturn, 1) := by decide +kernel
theorem dX9_at_12 : decode cX9_at 12 = .ok (.iload_n 2, 1) := by decide +kernel
theorem dX9_at_13 : decode cX9_at 13 = .ok (.iconst 0, 1) := by decide +kernel
theorem dX9_at_14 : decode cX9_at 14 = .ok (.aload_n 0, 1) := by decide +kernel
theorem dX9_at_15 : decode cX9_at 15 = .ok (.getfield 17, 3) := by decide +kernel
theorem dX9_at_18 : decode cX9_at 18 = .ok (.iload_n 1, 1) := by decide +kernel
theorem dX9_at_19 : decode cX9_at 19 = .ok (.iaload, 1) := by decide +kernel
theorem dX9_at_20 : decode cX9_at 20 = .ok (.iconst 1, 1) := by decide +kernel
theorem dX9_at_21 : decode cX9_at 21 = .ok (.isub, 1) := by decide +kernel
theorem dX9_at_22 : decode cX9_at 22 = .ok (.invokestatic 79, 3) := by decide +kernel
theorem dX9_at_25 : decode cX9_at 25 = .ok (.ifCond .eq 17, 3) := by decide +kernel
theorem dX9_at_28 : decode cX9_at 28 = .ok (.aload_n 0, 1) := by decide +kernel
theorem dX9_at_29 : decode cX9_at 29 = .ok (.aload_n 0, 1) := by decide +kernel
theorem dX9_at_30 : decode cX9_at 30 = .ok (.iload_n 1, 1) := by decide +kernel
theorem dX9_at_31 : decode cX9_at 31 = .ok (.iload_n 2, 1) := by decide +kernel
theorem dX9_at_32 : decode cX9_at 32 = .ok (.invokevirtual 101, 3) := by decide +kernel
theorem dX9_at_35 : decode cX9_at 35 = .ok (.iconst 1, 1) := by decide +kernel
theorem dX9_at_36 : decode cX9_at 36 = .ok (.invokevirtual 105, 3) := by decide +kernel
theorem dX9_at_39 : decode cX9_at 39 = .ok (.goto 8, 3) := by decide +kernel
theorem dX9_at_42 : decode cX9_at 42 = .ok (.aload_n 0, 1) := by decide +kernel
theorem dX9_at_43 : decode cX9_at 43 = .ok (.iconst 2, 1) := by decide +kernel
theorem dX9_at_44 : decode cX9_at 44 = .ok (.invokevirtual 87, 3) := by decide +kernel
theorem dX9_at_47 : decode cX9_at 47 = .ok (.ireturn, 1) := by decide +kernel
theorem dX9_lay_0 : decode cX9_lay 0 = .ok (.aload_n 0, 1) := by decide +kernel
theorem dX9_lay_1 : decode cX9_lay 1 = .ok (.iload_n 1, 1) := by decide +kernel
theorem dX9_lay_2 : decode cX9_lay 2 = .ok (.iload_n 2, 1) := by decide +kernel
theorem dX9_lay_3 : decode cX9_lay 3 = .ok (.invokevirtual 108, 3) := by decide +kernel
theorem dX9_lay_6 : decode cX9_lay 6 = .ok (.istore 4, 2) := by decide +kernel
theorem dX9_lay_8 : decode cX9_lay 8 = .ok (.iload 4, 2) := by decide +kernel
theorem dX9_lay_10 : decode cX9_lay 10 = .ok (.ifCond .ge 6, 3) := by decide +kernel
theorem dX9_lay_13 : decode cX9_lay 13 = .ok (.iload 4, 2) := by decide +kernel
theorem dX9_lay_15 : decode cX9_lay 15 = .ok (.ireturn, 1) := by decide +kernel
theorem dX9_lay_16 : decode cX9_lay 16 = .ok (.aload_n 0, 1) := by decide +kernel
theorem dX9_lay_17 : decode cX9_lay 17 = .ok (.iload_n 1, 1) := by decide +kernel
theorem dX9_lay_18 : decode cX9_lay 18 = .ok (.iload_n 2, 1) := by decide +kernel
theorem dX9_lay_19 : decode cX9_lay 19 = .ok (.iload_n 3, 1) := by decide +kernel
theorem dX9_lay_20 : decode cX9_lay 20 = .ok (.invokevirtual 94, 3) := by decide +kernel
theorem dX9_lay_23 : decode cX9_lay 23 = .ok (.iconst 1, 1) := by decide +kernel
theorem dX9_lay_24 : decode cX9_lay 24 = .ok (.ireturn, 1) := by decide +kernel
theorem dX9_tear_0 : decode cX9_tear 0 = .ok (.aload_n 0, 1) := by decide +kernel
theorem dX9_tear_1 : decode cX9_tear 1 = .ok (.iload_n 1, 1) := by decide +kernel
theorem dX9_tear_2 : decode cX9_tear 2 = .ok (.invokevirtual 98, 3) := by decide +kernel
theorem dX9_tear_5 : decode cX9_tear 5 = .ok (.istore_n 2, 1) := by decide +kernel
theorem dX9_tear_6 : decode cX9_tear 6 = .ok (.iload_n 2, 1) := by decide +kernel
theorem dX9_tear_7 : decode cX9_tear 7 = .ok (.ifCond .ge 5, 3) := by decide +kernel
theorem dX9_tear_10 : decode cX9_tear 10 = .ok (.iload_n 2, 1) := by decide +kernel
theorem dX9_tear_11 : decode cX9_tear 11 = .ok (.ireturn, 1) := by decide +kernel
theorem dX9_tear_12 : decode cX9_tear 12 = .ok (.aload_n 0, 1) := by decide +kernel
theorem dX9_tear_13 : decode cX9_tear 13 = .ok (.getfield 17, 3) := by decide +kernel
theorem dX9_tear_16 : decode cX9_tear 16 = .ok (.iload_n 1, 1) := by decide +kernel
theorem dX9_tear_17 : decode cX9_tear 17 = .ok (.bipush (-9), 2) := by decide +kernel
theorem dX9_tear_19 : decode cX9_tear 19 = .ok (.iastore, 1) := by decide +kernel
theorem dX9_tear_20 : decode cX9_tear 20 = .ok (.iconst 1, 1) := by decide +kernel
theorem dX9_tear_21 : decode cX9_tear 21 = .ok (.ireturn, 1) := by decide +kernel
theorem dX9_copy_0 : decode cX9_copy 0 = .ok (.iload_n 1, 1) := by decide +kernel
theorem dX9_copy_1 : decode cX9_copy 1 = .ok (.invokestatic 83, 3) := by decide +kernel
theorem dX9_copy_4 : decode cX9_copy 4 = .ok (.ifCond .eq 10, 3) := by decide +kernel
theorem dX9_copy_7 : decode cX9_copy 7 = .ok (.iload_n 3, 1) := by decide +kernel
theorem dX9_copy_8 : decode cX9_copy 8 = .ok (.invokestatic 83, 3) := by decide +kernel
theorem dX9_copy_11 : decode cX9_copy 11 = .ok (.ifCond .ne 5, 3) := by decide +kernel
theorem dX9_copy_14 : decode cX9_copy 14 = .ok (.iconst (-1), 1) := by decide +kernel
theorem dX9_copy_15 : decode cX9_copy 15 = .ok (.ireturn, 1) := by decide +kernel
theorem dX9_copy_16 : decode cX9_copy 16 = .ok (.iload 5, 2) := by decide +kernel
theorem dX9_copy_18 : decode cX9_copy 18 = .ok (.ifCond .ge 9, 3) := by decide +kernel
theorem dX9_copy_21 : decode cX9_copy 21 = .ok (.aload_n 0, 1) := by decide +kernel
theorem dX9_copy_22 : decode cX9_copy 22 = .ok (.iconst 5, 1) := by decide +kernel
theorem dX9_copy_23 : decode cX9_copy 23 = .ok (.invokevirtual 87, 3) := by decide +kernel
theorem dX9_copy_26 : decode cX9_copy 26 = .ok (.ireturn, 1) := by decide +kernel
theorem dX9_copy_27 : decode cX9_copy 27 = .ok (.aload_n 0, 1) := by decide +kernel
theorem dX9_copy_28 : decode cX9_copy 28 = .ok (.getfield 17, 3) := by decide +kernel
theorem dX9_copy_31 : decode cX9_copy 31 = .ok (.iload_n 1, 1) := by decide +kernel
theorem dX9_copy_32 : decode cX9_copy 32 = .ok (.iaload, 1) := by decide +kernel
theorem dX9_copy_33 : decode cX9_copy 33 = .ok (.ifCond .lt 12, 3) := by decide +kernel
theorem dX9_copy_36 : decode cX9_copy 36 = .ok (.aload_n 0, 1) := by decide +kernel
theorem dX9_copy_37 : decode cX9_copy 37 = .ok (.getfield 17, 3) := by decide +kernel
theorem dX9_copy_40 : decode cX9_copy 40 = .ok (.iload_n 3, 1) := by decide +kernel
theorem dX9_copy_41 : decode cX9_copy 41 = .ok (.iaload, 1) := by decide +kernel
theorem dX9_copy_42 : decode cX9_copy 42 = .ok (.ifCond .ge 9, 3) := by decide +kernel
theorem dX9_copy_45 : decode cX9_copy 45 = .ok (.aload_n 0, 1) := by decide +kernel
theorem dX9_copy_46 : decode cX9_copy 46 = .ok (.iconst 1, 1) := by decide +kernel
theorem dX9_copy_47 : decode cX9_copy 47 = .ok (.invokevirtual 87, 3) := by decide +kernel
theorem dX9_copy_50 : decode cX9_copy 50 = .ok (.ireturn, 1) := by decide +kernel
theorem dX9_copy_51 : decode cX9_copy 51 = .ok (.iload_n 2, 1) := by decide +kernel
theorem dX9_copy_52 : decode cX9_copy 52 = .ok (.ifCond .lt 43, 3) := by decide +kernel
theorem dX9_copy_55 : decode cX9_copy 55 = .ok (.iload 4, 2) := by decide +kernel
theorem dX9_copy_57 : decode cX9_copy 57 = .ok (.ifCond .lt 38, 3) := by decide +kernel
theorem dX9_copy_60 : decode cX9_copy 60 = .ok (.iload_n 2, 1) := by decide +kernel
theorem dX9_copy_61 : decode cX9_copy 61 = .ok (.i2l, 1) := by decide +kernel
theorem dX9_copy_62 : decode cX9_copy 62 = .ok (.iload 5, 2) := by decide +kernel
theorem dX9_copy_64 : decode cX9_copy 64 = .ok (.i2l, 1) := by decide +kernel
theorem dX9_copy_65 : decode cX9_copy 65 = .ok (.ladd, 1) := by decide +kernel
theorem dX9_copy_66 : decode cX9_copy 66 = .ok (.aload_n 0, 1) := by decide +kernel
theorem dX9_copy_67 : decode cX9_copy 67 = .ok (.getfield 17, 3) := by decide +kernel
theorem dX9_copy_70 : decode cX9_copy 70 = .ok (.iload_n 1, 1) := by decide +kernel
theorem dX9_copy_71 : decode cX9_copy 71 = .ok (.iaload, 1) := by decide +kernel
theorem dX9_copy_72 : decode cX9_copy 72 = .ok (.i2l, 1) := by decide +kernel
theorem dX9_copy_73 : decode cX9_copy 73 = .ok (.lcmp, 1) := by decide +kernel
theorem dX9_copy_74 : decode cX9_copy 74 = .ok (.ifCond .gt 21, 3) := by decide +kernel
theorem dX9_copy_77 : decode cX9_copy 77 = .ok (.iload 4, 2) := by decide +kernel
theorem dX9_copy_79 : decode cX9_copy 79 = .ok (.i2l, 1) := by decide +kernel
theorem dX9_copy_80 : decode cX9_copy 80 = .ok (.iload 5, 2) := by decide +kernel
theorem dX9_copy_82 : decode cX9_copy 82 = .ok (.i2l, 1) := by decide +kernel
theorem dX9_copy_83 : decode cX9_copy 83 = .ok (.ladd, 1) := by decide +kernel
theorem dX9_copy_84 : decode cX9_copy 84 = .ok (.aload_n 0, 1) := by decide +kernel
theorem dX9_copy_85 : decode cX9_copy 85 = .ok (.getfield 17, 3) := by decide +kernel
theorem dX9_copy_88 : decode cX9_copy 88 = .ok (.iload_n 3, 1) := by decide +kernel
theorem dX9_copy_89 : decode cX9_copy 89 = .ok (.iaload, 1) := by decide +kernel
theorem dX9_copy_90 : decode cX9_copy 90 = .ok (.i2l, 1) := by decide +kernel
theorem dX9_copy_91 : decode cX9_copy 91 = .ok (.lcmp, 1) := by decide +kernel
theorem dX9_copy_92 : decode cX9_copy 92 = .ok (.ifCond .le 9, 3) := by decide +kernel
theorem dX9_copy_95 : decode cX9_copy 95 = .ok (.aload_n 0, 1) := by decide +kernel
theorem dX9_copy_96 : decode cX9_copy 96 = .ok (.iconst 2, 1) := by decide +kernel
theorem dX9_copy_97 : decode cX9_copy 97 = .ok (.invokevirtual 87, 3) := by decide +kernel
theorem dX9_copy_100 : decode cX9_copy 100 = .ok (.ireturn, 1) := by decide +kernel
theorem dX9_copy_101 : decode cX9_copy 101 = .ok (.iconst 0, 1) := by decide +kernel
theorem dX9_copy_102 : decode cX9_copy 102 = .ok (.istore 6, 2) := by decide +kernel
theorem dX9_copy_104 : decode cX9_copy 104 = .ok (.iload 6, 2) := by decide +kernel
theorem dX9_copy_106 : decode cX9_copy 106 = .ok (.iload 5, 2) := by decide +kernel
theorem dX9_copy_108 : decode cX9_copy 108 = .ok (.if_icmp .ge 25, 3) := by decide +kernel
theorem dX9_copy_111 : decode cX9_copy 111 = .ok (.aload_n 0, 1) := by decide +kernel
theorem dX9_copy_112 : decode cX9_copy 112 = .ok (.getfield 23, 3) := by decide +kernel
theorem dX9_copy_115 : decode cX9_copy 115 = .ok (.iload 6, 2) := by decide +kernel
theorem dX9_copy_117 : decode cX9_copy 117 = .ok (.aload_n 0, 1) := by decide +kernel
theorem dX9_copy_118 : decode cX9_copy 118 = .ok (.iload_n 1, 1) := by decide +kernel
theorem dX9_copy_119 : decode cX9_copy 119 = .ok (.iload_n 2, 1) := by decide +kernel
theorem dX9_copy_120 : decode cX9_copy 120 = .ok (.iload 6, 2) := by decide +kernel
theorem dX9_copy_122 : decode cX9_copy 122 = .ok (.iadd, 1) := by decide +kernel
theorem dX9_copy_123 : decode cX9_copy 123 = .ok (.invokevirtual 101, 3) := by decide +kernel
theorem dX9_copy_126 : decode cX9_copy 126 = .ok (.iastore, 1) := by decide +kernel
theorem dX9_copy_127 : decode cX9_copy 127 = .ok (.iinc 6 1, 3) := by decide +kernel
theorem dX9_copy_130 : decode cX9_copy 130 = .ok (.goto (-26), 3) := by decide +kernel
theorem dX9_copy_133 : decode cX9_copy 133 = .ok (.iconst 0, 1) := by decide +kernel
theorem dX9_copy_134 : decode cX9_copy 134 = .ok (.istore 6, 2) := by decide +kernel
theorem dX9_copy_136 : decode cX9_copy 136 = .ok (.iload 6, 2) := by decide +kernel
theorem dX9_copy_138 : decode cX9_copy 138 = .ok (.iload 5, 2) := by decide +kernel
theorem dX9_copy_140 : decode cX9_copy 140 = .ok (.if_icmp .ge 26, 3) := by decide +kernel
theorem dX9_copy_143 : decode cX9_copy 143 = .ok (.aload_n 0, 1) := by decide +kernel
theorem dX9_copy_144 : decode cX9_copy 144 = .ok (.iload_n 3, 1) := by decide +kernel
theorem dX9_copy_145 : decode cX9_copy 145 = .ok (.iload 4, 2) := by decide +kernel
theorem dX9_copy_147 : decode cX9_copy 147 = .ok (.iload 6, 2) := by decide +kernel
theorem dX9_copy_149 : decode cX9_copy 149 = .ok (.iadd, 1) := by decide +kernel
theorem dX9_copy_150 : decode cX9_copy 150 = .ok (.aload_n 0, 1) := by decide +kernel
theorem dX9_copy_151 : decode cX9_copy 151 = .ok (.getfield 23, 3) := by decide +kernel
theorem dX9_copy_154 : decode cX9_copy 154 = .ok (.iload 6, 2) := by decide +kernel
theorem dX9_copy_156 : decode cX9_copy 156 = .ok (.iaload, 1) := by decide +kernel
theorem dX9_copy_157 : decode cX9_copy 157 = .ok (.invokevirtual 94, 3) := by decide +kernel
theorem dX9_copy_160 : decode cX9_copy 160 = .ok (.iinc 6 1, 3) := by decide +kernel
theorem dX9_copy_163 : decode cX9_copy 163 = .ok (.goto (-27), 3) := by decide +kernel
theorem dX9_copy_166 : decode cX9_copy 166 = .ok (.iconst 1, 1) := by decide +kernel
theorem dX9_copy_167 : decode cX9_copy 167 = .ok (.ireturn, 1) := by decide +kernel
theorem dX9_mean_0 : decode cX9_mean 0 = .ok (.aload_n 0, 1) := by decide +kernel
theorem dX9_mean_1 : decode cX9_mean 1 = .ok (.iload_n 1, 1) := by decide +kernel
theorem dX9_mean_2 : decode cX9_mean 2 = .ok (.invokevirtual 98, 3) := by decide +kernel
theorem dX9_mean_5 : decode cX9_mean 5 = .ok (.istore_n 2, 1) := by decide +kernel
theorem dX9_mean_6 : decode cX9_mean 6 = .ok (.iload_n 2, 1) := by decide +kernel
theorem dX9_mean_7 : decode cX9_mean 7 = .ok (.ifCond .ge 5, 3) := by decide +kernel
theorem dX9_mean_10 : decode cX9_mean 10 = .ok (.iload_n 2, 1) := by decide +kernel
theorem dX9_mean_11 : decode cX9_mean 11 = .ok (.ireturn, 1) := by decide +kernel
theorem dX9_mean_12 : decode cX9_mean 12 = .ok (.lconst 0, 1) := by decide +kernel
theorem dX9_mean_13 : decode cX9_mean 13 = .ok (.lstore_n 3, 1) := by decide +kernel
theorem dX9_mean_14 : decode cX9_mean 14 = .ok (.iconst 0, 1) := by decide +kernel
theorem dX9_mean_15 : decode cX9_mean 15 = .ok (.istore 5, 2) := by decide +kernel
theorem dX9_mean_17 : decode cX9_mean 17 = .ok (.iload 5, 2) := by decide +kernel
theorem dX9_mean_19 : decode cX9_mean 19 = .ok (.aload_n 0, 1) := by decide +kernel
theorem dX9_mean_20 : decode cX9_mean 20 = .ok (.getfield 17, 3) := by decide +kernel
theorem dX9_mean_23 : decode cX9_mean 23 = .ok (.iload_n 1, 1) := by decide +kernel
theorem dX9_mean_24 : decode cX9_mean 24 = .ok (.iaload, 1) := by decide +kernel
theorem dX9_mean_25 : decode cX9_mean 25 = .ok (.if_icmp .ge 20, 3) := by decide +kernel
theorem dX9_mean_28 : decode cX9_mean 28 = .ok (.lload_n 3, 1) := by decide +kernel
theorem dX9_mean_29 : decode cX9_mean 29 = .ok (.aload_n 0, 1) := by decide +kernel
theorem dX9_mean_30 : decode cX9_mean 30 = .ok (.iload_n 1, 1) := by decide +kernel
theorem dX9_mean_31 : decode cX9_mean 31 = .ok (.iload 5, 2) := by decide +kernel
theorem dX9_mean_33 : decode cX9_mean 33 = .ok (.invokevirtual 101, 3) := by decide +kernel
theorem dX9_mean_36 : decode cX9_mean 36 = .ok (.i2l, 1) := by decide +kernel
theorem dX9_mean_37 : decode cX9_mean 37 = .ok (.ladd, 1) := by decide +kernel
theorem dX9_mean_38 : decode cX9_mean 38 = .ok (.lstore_n 3, 1) := by decide +kernel
theorem dX9_mean_39 : decode cX9_mean 39 = .ok (.iinc 5 1, 3) := by decide +kernel
theorem dX9_mean_42 : decode cX9_mean 42 = .ok (.goto (-25), 3) := by decide +kernel
theorem dX9_mean_45 : decode cX9_mean 45 = .ok (.aload_n 0, 1) := by decide +kernel
theorem dX9_mean_46 : decode cX9_mean 46 = .ok (.getfield 17, 3) := by decide +kernel
theorem dX9_mean_49 : decode cX9_mean 49 = .ok (.iload_n 1, 1) := by decide +kernel
theorem dX9_mean_50 : decode cX9_mean 50 = .ok (.iaload, 1) := by decide +kernel
theorem dX9_mean_51 : decode cX9_mean 51 = .ok (.ifCond .ne 11, 3) := by decide +kernel
theorem dX9_mean_54 : decode cX9_mean 54 = .ok (.aload_n 0, 1) := by decide +kernel
theorem dX9_mean_55 : decode cX9_mean 55 = .ok (.iconst 4, 1) := by decide +kernel
theorem dX9_mean_56 : decode cX9_mean 56 = .ok (.invokevirtual 87, 3) := by decide +kernel
theorem dX9_mean_59 : decode cX9_mean 59 = .ok (.goto 18, 3) := by decide +kernel
theorem dX9_mean_62 : decode cX9_mean 62 = .ok (.aload_n 0, 1) := by decide +kernel
theorem dX9_mean_63 : decode cX9_mean 63 = .ok (.lload_n 3, 1) := by decide +kernel
theorem dX9_mean_64 : decode cX9_mean 64 = .ok (.aload_n 0, 1) := by decide +kernel
theorem dX9_mean_65 : decode cX9_mean 65 = .ok (.getfield 17, 3) := by decide +kernel
theorem dX9_mean_68 : decode cX9_mean 68 = .ok (.iload_n 1, 1) := by decide +kernel
theorem dX9_mean_69 : decode cX9_mean 69 = .ok (.iaload, 1) := by decide +kernel
theorem dX9_mean_70 : decode cX9_mean 70 = .ok (.i2l, 1) := by decide +kernel
theorem dX9_mean_71 : decode cX9_mean 71 = .ok (.ldiv, 1) := by decide +kernel
theorem dX9_mean_72 : decode cX9_mean 72 = .ok (.l2i, 1) := by decide +kernel
theorem dX9_mean_73 : decode cX9_mean 73 = .ok (.iconst 1, 1) := by decide +kernel
theorem dX9_mean_74 : decode cX9_mean 74 = .ok (.invokevirtual 105, 3) := by decide +kernel
theorem dX9_mean_77 : decode cX9_mean 77 = .ok (.ireturn, 1) := by decide +kernel
theorem dX9_text_0 : decode cX9_text 0 = .ok (.iload_n 1, 1) := by decide +kernel
theorem dX9_text_1 : decode cX9_text 1 = .ok (.invokestatic 91, 3) := by decide +kernel
theorem dX9_text_4 : decode cX9_text 4 = .ok (.ifCond .eq 9, 3) := by decide +kernel
theorem dX9_text_7 : decode cX9_text 7 = .ok (.iload_n 2, 1) := by decide +kernel
theorem dX9_text_8 : decode cX9_text 8 = .ok (.bipush 60, 2) := by decide +kernel
theorem dX9_text_10 : decode cX9_text 10 = .ok (.if_icmp .le 5, 3) := by decide +kernel
theorem dX9_text_13 : decode cX9_text 13 = .ok (.iconst (-1), 1) := by decide +kernel
theorem dX9_text_14 : decode cX9_text 14 = .ok (.ireturn, 1) := by decide +kernel
theorem dX9_text_15 : decode cX9_text 15 = .ok (.iload_n 2, 1) := by decide +kernel
theorem dX9_text_16 : decode cX9_text 16 = .ok (.ifCond .ge 9, 3) := by decide +kernel
theorem dX9_text_19 : decode cX9_text 19 = .ok (.aload_n 0, 1) := by decide +kernel
theorem dX9_text_20 : decode cX9_text 20 = .ok (.iconst 5, 1) := by decide +kernel
theorem dX9_text_21 : decode cX9_text 21 = .ok (.invokevirtual 87, 3) := by decide +kernel
theorem dX9_text_24 : decode cX9_text 24 = .ok (.ireturn, 1) := by decide +kernel
theorem dX9_text_25 : decode cX9_text 25 = .ok (.aload_n 0, 1) := by decide +kernel
theorem dX9_text_26 : decode cX9_text 26 = .ok (.getfield 26, 3) := by decide +kernel
theorem dX9_text_29 : decode cX9_text 29 = .ok (.iload_n 1, 1) := by decide +kernel
theorem dX9_text_30 : decode cX9_text 30 = .ok (.iload_n 2, 1) := by decide +kernel
theorem dX9_text_31 : decode cX9_text 31 = .ok (.iastore, 1) := by decide +kernel
theorem dX9_text_32 : decode cX9_text 32 = .ok (.iconst 0, 1) := by decide +kernel
theorem dX9_text_33 : decode cX9_text 33 = .ok (.istore_n 3, 1) := by decide +kernel
theorem dX9_text_34 : decode cX9_text 34 = .ok (.iload_n 3, 1) := by decide +kernel
theorem dX9_text_35 : decode cX9_text 35 = .ok (.bipush 60, 2) := by decide +kernel
theorem dX9_text_37 : decode cX9_text 37 = .ok (.if_icmp .ge 22, 3) := by decide +kernel
theorem dX9_text_40 : decode cX9_text 40 = .ok (.aload_n 0, 1) := by decide +kernel
theorem dX9_text_41 : decode cX9_text 41 = .ok (.getfield 29, 3) := by decide +kernel
theorem dX9_text_44 : decode cX9_text 44 = .ok (.bipush 60, 2) := by decide +kernel
theorem dX9_text_46 : decode cX9_text 46 = .ok (.iload_n 1, 1) := by decide +kernel
theorem dX9_text_47 : decode cX9_text 47 = .ok (.imul, 1) := by decide +kernel
theorem dX9_text_48 : decode cX9_text 48 = .ok (.iload_n 3, 1) := by decide +kernel
theorem dX9_text_49 : decode cX9_text 49 = .ok (.iadd, 1) := by decide +kernel
theorem dX9_text_50 : decode cX9_text 50 = .ok (.bipush 32, 2) := by decide +kernel
theorem dX9_text_52 : decode cX9_text 52 = .ok (.iastore, 1) := by decide +kernel
theorem dX9_text_53 : decode cX9_text 53 = .ok (.iinc 3 1, 3) := by decide +kernel
theorem dX9_text_56 : decode cX9_text 56 = .ok (.goto (-22), 3) := by decide +kernel
theorem dX9_text_59 : decode cX9_text 59 = .ok (.iload_n 2, 1) := by decide +kernel
theorem dX9_text_60 : decode cX9_text 60 = .ok (.ireturn, 1) := by decide +kernel
theorem dX9_put_0 : decode cX9_put 0 = .ok (.aload_n 0, 1) := by decide +kernel
theorem dX9_put_1 : decode cX9_put 1 = .ok (.iload_n 1, 1) := by decide +kernel
theorem dX9_put_2 : decode cX9_put 2 = .ok (.invokevirtual 111, 3) := by decide +kernel
theorem dX9_put_5 : decode cX9_put 5 = .ok (.istore 4, 2) := by decide +kernel
theorem dX9_put_7 : decode cX9_put 7 = .ok (.iload 4, 2) := by decide +kernel
theorem dX9_put_9 : decode cX9_put 9 = .ok (.ifCond .ge 6, 3) := by decide +kernel
theorem dX9_put_12 : decode cX9_put 12 = .ok (.iload 4, 2) := by decide +kernel
theorem dX9_put_14 : decode cX9_put 14 = .ok (.ireturn, 1) := by decide +kernel
theorem dX9_put_15 : decode cX9_put 15 = .ok (.iload_n 2, 1) := by decide +kernel
theorem dX9_put_16 : decode cX9_put 16 = .ok (.iconst 0, 1) := by decide +kernel
theorem dX9_put_17 : decode cX9_put 17 = .ok (.aload_n 0, 1) := by decide +kernel
theorem dX9_put_18 : decode cX9_put 18 = .ok (.getfield 26, 3) := by decide +kernel
theorem dX9_put_21 : decode cX9_put 21 = .ok (.iload_n 1, 1) := by decide +kernel
theorem dX9_put_22 : decode cX9_put 22 = .ok (.iaload, 1) := by decide +kernel
theorem dX9_put_23 : decode cX9_put 23 = .ok (.iconst 1, 1) := by decide +kernel
theorem dX9_put_24 : decode cX9_put 24 = .ok (.isub, 1) := by decide +kernel
theorem dX9_put_25 : decode cX9_put 25 = .ok (.invokestatic 79, 3) := by decide +kernel
theorem dX9_put_28 : decode cX9_put 28 = .ok (.ifCond .ne 9, 3) := by decide +kernel
theorem dX9_put_31 : decode cX9_put 31 = .ok (.aload_n 0, 1) := by decide +kernel
theorem dX9_put_32 : decode cX9_put 32 = .ok (.iconst 2, 1) := by decide +kernel
theorem dX9_put_33 : decode cX9_put 33 = .ok (.invokevirtual 87, 3) := by decide +kernel
theorem dX9_put_36 : decode cX9_put 36 = .ok (.ireturn, 1) := by decide +kernel
theorem dX9_put_37 : decode cX9_put 37 = .ok (.aload_n 0, 1) := by decide +kernel
theorem dX9_put_38 : decode cX9_put 38 = .ok (.getfield 29, 3) := by decide +kernel
theorem dX9_put_41 : decode cX9_put 41 = .ok (.bipush 60, 2) := by decide +kernel
theorem dX9_put_43 : decode cX9_put 43 = .ok (.iload_n 1, 1) := by decide +kernel
theorem dX9_put_44 : decode cX9_put 44 = .ok (.imul, 1) := by decide +kernel
theorem dX9_put_45 : decode cX9_put 45 = .ok (.iload_n 2, 1) := by decide +kernel
theorem dX9_put_46 : decode cX9_put 46 = .ok (.iadd, 1) := by decide +kernel
theorem dX9_put_47 : decode cX9_put 47 = .ok (.iaload, 1) := by decide +kernel
theorem dX9_put_48 : decode cX9_put 48 = .ok (.istore 5, 2) := by decide +kernel
theorem dX9_put_50 : decode cX9_put 50 = .ok (.aload_n 0, 1) := by decide +kernel
theorem dX9_put_51 : decode cX9_put 51 = .ok (.getfield 29, 3) := by decide +kernel
theorem dX9_put_54 : decode cX9_put 54 = .ok (.bipush 60, 2) := by decide +kernel
theorem dX9_put_56 : decode cX9_put 56 = .ok (.iload_n 1, 1) := by decide +kernel
theorem dX9_put_57 : decode cX9_put 57 = .ok (.imul, 1) := by decide +kernel
theorem dX9_put_58 : decode cX9_put 58 = .ok (.iload_n 2, 1) := by decide +kernel
theorem dX9_put_59 : decode cX9_put 59 = .ok (.iadd, 1) := by decide +kernel
theorem dX9_put_60 : decode cX9_put 60 = .ok (.iload_n 3, 1) := by decide +kernel
theorem dX9_put_61 : decode cX9_put 61 = .ok (.i2b, 1) := by decide +kernel
theorem dX9_put_62 : decode cX9_put 62 = .ok (.iastore, 1) := by decide +kernel
theorem dX9_put_63 : decode cX9_put 63 = .ok (.iload 5, 2) := by decide +kernel
theorem dX9_put_65 : decode cX9_put 65 = .ok (.sipush 1000, 3) := by decide +kernel
theorem dX9_put_68 : decode cX9_put 68 = .ok (.iadd, 1) := by decide +kernel
theorem dX9_put_69 : decode cX9_put 69 = .ok (.ireturn, 1) := by decide +kernel
theorem dX9_here_0 : decode cX9_here 0 = .ok (.aload_n 0, 1) := by decide +kernel
theorem dX9_here_1 : decode cX9_here 1 = .ok (.getfield 114, 3) := by decide +kernel
theorem dX9_here_4 : decode cX9_here 4 = .ok (.aload_n 0, 1) := by decide +kernel
theorem dX9_here_5 : decode cX9_here 5 = .ok (.getfield 26, 3) := by decide +kernel
theorem dX9_here_8 : decode cX9_here 8 = .ok (.iload_n 1, 1) := by decide +kernel
theorem dX9_here_9 : decode cX9_here 9 = .ok (.iaload, 1) := by decide +kernel
theorem dX9_here_10 : decode cX9_here 10 = .ok (.if_icmp .ge 20, 3) := by decide +kernel
theorem dX9_here_13 : decode cX9_here 13 = .ok (.aload_n 0, 1) := by decide +kernel
theorem dX9_here_14 : decode cX9_here 14 = .ok (.getfield 29, 3) := by decide +kernel
theorem dX9_here_17 : decode cX9_here 17 = .ok (.bipush 60, 2) := by decide +kernel
theorem dX9_here_19 : decode cX9_here 19 = .ok (.iload_n 1, 1) := by decide +kernel
theorem dX9_here_20 : decode cX9_here 20 = .ok (.imul, 1) := by decide +kernel
theorem dX9_here_21 : decode cX9_here 21 = .ok (.aload_n 0, 1) := by decide +kernel
theorem dX9_here_22 : decode cX9_here 22 = .ok (.getfield 114, 3) := by decide +kernel
theorem dX9_here_25 : decode cX9_here 25 = .ok (.iadd, 1) := by decide +kernel
theorem dX9_here_26 : decode cX9_here 26 = .ok (.iaload, 1) := by decide +kernel
theorem dX9_here_27 : decode cX9_here 27 = .ok (.goto 5, 3) := by decide +kernel
theorem dX9_here_30 : decode cX9_here 30 = .ok (.bipush (-9), 2) := by decide +kernel
theorem dX9_here_32 : decode cX9_here 32 = .ok (.ireturn, 1) := by decide +kernel
theorem dX9_figure_0 : decode cX9_figure 0 = .ok (.aload_n 0, 1) := by decide +kernel
theorem dX9_figure_1 : decode cX9_figure 1 = .ok (.iload_n 1, 1) := by decide +kernel
theorem dX9_figure_2 : decode cX9_figure 2 = .ok (.invokevirtual 117, 3) := by decide +kernel
theorem dX9_figure_5 : decode cX9_figure 5 = .ok (.bipush 48, 2) := by decide +kernel
theorem dX9_figure_7 : decode cX9_figure 7 = .ok (.isub, 1) := by decide +kernel
theorem dX9_figure_8 : decode cX9_figure 8 = .ok (.istore 4, 2) := by decide +kernel
theorem dX9_figure_10 : decode cX9_figure 10 = .ok (.iload 4, 2) := by decide +kernel
theorem dX9_figure_12 : decode cX9_figure 12 = .ok (.iconst 0, 1) := by decide +kernel
theorem dX9_figure_13 : decode cX9_figure 13 = .ok (.iload_n 3, 1) := by decide +kernel
theorem dX9_figure_14 : decode cX9_figure 14 = .ok (.invokestatic 79, 3) := by decide +kernel
theorem dX9_figure_17 : decode cX9_figure 17 = .ok (.ifCond .ne 5, 3) := by decide +kernel
theorem dX9_figure_20 : decode cX9_figure 20 = .ok (.iconst 0, 1) := by decide +kernel
theorem dX9_figure_21 : decode cX9_figure 21 = .ok (.ireturn, 1) := by decide +kernel
theorem dX9_figure_22 : decode cX9_figure 22 = .ok (.aload_n 0, 1) := by decide +kernel
theorem dX9_figure_23 : decode cX9_figure 23 = .ok (.getfield 41, 3) := by decide +kernel
theorem dX9_figure_26 : decode cX9_figure 26 = .ok (.iload_n 2, 1) := by decide +kernel
theorem dX9_figure_27 : decode cX9_figure 27 = .ok (.iload 4, 2) := by decide +kernel
theorem dX9_figure_29 : decode cX9_figure 29 = .ok (.iastore, 1) := by decide +kernel
theorem dX9_figure_30 : decode cX9_figure 30 = .ok (.aload_n 0, 1) := by decide +kernel
theorem dX9_figure_31 : decode cX9_figure 31 = .ok (.dup, 1) := by decide +kernel
theorem dX9_figure_32 : decode cX9_figure 32 = .ok (.getfield 114, 3) := by decide +kernel
theorem dX9_figure_35 : decode cX9_figure 35 = .ok (.iconst 1, 1) := by decide +kernel
theorem dX9_figure_36 : decode cX9_figure 36 = .ok (.iadd, 1) := by decide +kernel
theorem dX9_figure_37 : decode cX9_figure 37 = .ok (.putfield 114, 3) := by decide +kernel
theorem dX9_figure_40 : decode cX9_figure 40 = .ok (.iconst 1, 1) := by decide +kernel
theorem dX9_figure_41 : decode cX9_figure 41 = .ok (.ireturn, 1) := by decide +kernel
theorem dX9_sign_0 : decode cX9_sign 0 = .ok (.aload_n 0, 1) := by decide +kernel
theorem dX9_sign_1 : decode cX9_sign 1 = .ok (.iload_n 1, 1) := by decide +kernel
theorem dX9_sign_2 : decode cX9_sign 2 = .ok (.invokevirtual 117, 3) := by decide +kernel
theorem dX9_sign_5 : decode cX9_sign 5 = .ok (.iload_n 2, 1) := by decide +kernel
theorem dX9_sign_6 : decode cX9_sign 6 = .ok (.if_icmp .ne 7, 3) := by decide +kernel
theorem dX9_sign_9 : decode cX9_sign 9 = .ok (.iconst 1, 1) := by decide +kernel
theorem dX9_sign_10 : decode cX9_sign 10 = .ok (.goto 4, 3) := by decide +kernel
theorem dX9_sign_13 : decode cX9_sign 13 = .ok (.iconst 0, 1) := by decide +kernel
theorem dX9_sign_14 : decode cX9_sign 14 = .ok (.istore_n 3, 1) := by decide +kernel
theorem dX9_sign_15 : decode cX9_sign 15 = .ok (.aload_n 0, 1) := by decide +kernel
theorem dX9_sign_16 : decode cX9_sign 16 = .ok (.dup, 1) := by decide +kernel
theorem dX9_sign_17 : decode cX9_sign 17 = .ok (.getfield 114, 3) := by decide +kernel
theorem dX9_sign_20 : decode cX9_sign 20 = .ok (.iload_n 3, 1) := by decide +kernel
theorem dX9_sign_21 : decode cX9_sign 21 = .ok (.ifCond .eq 7, 3) := by decide +kernel
theorem dX9_sign_24 : decode cX9_sign 24 = .ok (.iconst 1, 1) := by decide +kernel
theorem dX9_sign_25 : decode cX9_sign 25 = .ok (.goto 4, 3) := by decide +kernel
theorem dX9_sign_28 : decode cX9_sign 28 = .ok (.iconst 0, 1) := by decide +kernel
theorem dX9_sign_29 : decode cX9_sign 29 = .ok (.iadd, 1) := by decide +kernel
theorem dX9_sign_30 : decode cX9_sign 30 = .ok (.putfield 114, 3) := by decide +kernel
theorem dX9_sign_33 : decode cX9_sign 33 = .ok (.iload_n 3, 1) := by decide +kernel
theorem dX9_sign_34 : decode cX9_sign 34 = .ok (.ireturn, 1) := by decide +kernel
theorem dX9_readsFirst_0 : decode cX9_readsFirst 0 = .ok (.aload_n 0, 1) := by decide +kernel
theorem dX9_readsFirst_1 : decode cX9_readsFirst 1 = .ok (.iconst 0, 1) := by decide +kernel
theorem dX9_readsFirst_2 : decode cX9_readsFirst 2 = .ok (.putfield 120, 3) := by decide +kernel
theorem dX9_readsFirst_5 : decode cX9_readsFirst 5 = .ok (.aload_n 0, 1) := by decide +kernel
theorem dX9_readsFirst_6 : decode cX9_readsFirst 6 = .ok (.getfield 120, 3) := by decide +kernel
theorem dX9_readsFirst_9 : decode cX9_readsFirst 9 = .ok (.iconst 4, 1) := by decide +kernel
theorem dX9_readsFirst_10 : decode cX9_readsFirst 10 = .ok (.if_icmp .ge 29, 3) := by decide +kernel
theorem dX9_readsFirst_13 : decode cX9_readsFirst 13 = .ok (.aload_n 0, 1) := by decide +kernel
theorem dX9_readsFirst_14 : decode cX9_readsFirst 14 = .ok (.iload_n 1, 1) := by decide +kernel
theorem dX9_readsFirst_15 : decode cX9_readsFirst 15 = .ok (.aload_n 0, 1) := by decide +kernel
theorem dX9_readsFirst_16 : decode cX9_readsFirst 16 = .ok (.getfield 120, 3) := by decide +kernel
theorem dX9_readsFirst_19 : decode cX9_readsFirst 19 = .ok (.iconst 5, 1) := by decide +kernel
theorem dX9_readsFirst_20 : decode cX9_readsFirst 20 = .ok (.invokevirtual 123, 3) := by decide +kernel
theorem dX9_readsFirst_23 : decode cX9_readsFirst 23 = .ok (.ifCond .eq 16, 3) := by decide +kernel
theorem dX9_readsFirst_26 : decode cX9_readsFirst 26 = .ok (.aload_n 0, 1) := by decide +kernel
theorem dX9_readsFirst_27 : decode cX9_readsFirst 27 = .ok (.dup, 1) := by decide +kernel
theorem dX9_readsFirst_28 : decode cX9_readsFirst 28 = .ok (.getfield 120, 3) := by decide +kernel
theorem dX9_readsFirst_31 : decode cX9_readsFirst 31 = .ok (.iconst 1, 1) := by decide +kernel
theorem dX9_readsFirst_32 : decode cX9_readsFirst 32 = .ok (.iadd, 1) := by decide +kernel
theorem dX9_readsFirst_33 : decode cX9_readsFirst 33 = .ok (.putfield 120, 3) := by decide +kernel
theorem dX9_readsFirst_36 : decode cX9_readsFirst 36 = .ok (.goto (-31), 3) := by decide +kernel
theorem dX9_readsFirst_39 : decode cX9_readsFirst 39 = .ok (.aload_n 0, 1) := by decide +kernel
theorem dX9_readsFirst_40 : decode cX9_readsFirst 40 = .ok (.aload_n 0, 1) := by decide +kernel
theorem dX9_readsFirst_41 : decode cX9_readsFirst 41 = .ok (.getfield 120, 3) := by decide +kernel
theorem dX9_readsFirst_44 : decode cX9_readsFirst 44 = .ok (.putfield 126, 3) := by decide +kernel
theorem dX9_readsFirst_47 : decode cX9_readsFirst 47 = .ok (.aload_n 0, 1) := by decide +kernel
theorem dX9_readsFirst_48 : decode cX9_readsFirst 48 = .ok (.getfield 126, 3) := by decide +kernel
theorem dX9_readsFirst_51 : decode cX9_readsFirst 51 = .ok (.iconst 1, 1) := by decide +kernel
theorem dX9_readsFirst_52 : decode cX9_readsFirst 52 = .ok (.if_icmp .le 7, 3) := by decide +kernel
theorem dX9_readsFirst_55 : decode cX9_readsFirst 55 = .ok (.iconst 1, 1) := by decide +kernel
theorem dX9_readsFirst_56 : decode cX9_readsFirst 56 = .ok (.goto 4, 3) := by decide +kernel
theorem dX9_readsFirst_59 : decode cX9_readsFirst 59 = .ok (.iconst 0, 1) := by decide +kernel
theorem dX9_readsFirst_60 : decode cX9_readsFirst 60 = .ok (.ireturn, 1) := by decide +kernel
theorem dX9_readsLine_0 : decode cX9_readsLine 0 = .ok (.iconst 0, 1) := by decide +kernel
theorem dX9_readsLine_1 : decode cX9_readsLine 1 = .ok (.istore_n 2, 1) := by decide +kernel
theorem dX9_readsLine_2 : decode cX9_readsLine 2 = .ok (.iload_n 2, 1) := by decide +kernel
theorem dX9_readsLine_3 : decode cX9_readsLine 3 = .ok (.aload_n 0, 1) := by decide +kernel
theorem dX9_readsLine_4 : decode cX9_readsLine 4 = .ok (.getfield 126, 3) := by decide +kernel
theorem dX9_readsLine_7 : decode cX9_readsLine 7 = .ok (.if_icmp .ge 34, 3) := by decide +kernel
theorem dX9_readsLine_10 : decode cX9_readsLine 10 = .ok (.aload_n 0, 1) := by decide +kernel
theorem dX9_readsLine_11 : decode cX9_readsLine 11 = .ok (.iload_n 1, 1) := by decide +kernel
theorem dX9_readsLine_12 : decode cX9_readsLine 12 = .ok (.aload_n 0, 1) := by decide +kernel
theorem dX9_readsLine_13 : decode cX9_readsLine 13 = .ok (.getfield 120, 3) := by decide +kernel
theorem dX9_readsLine_16 : decode cX9_readsLine 16 = .ok (.iconst 5, 1) := by decide +kernel
theorem dX9_readsLine_17 : decode cX9_readsLine 17 = .ok (.invokevirtual 123, 3) := by decide +kernel
theorem dX9_readsLine_20 : decode cX9_readsLine 20 = .ok (.ifCond .ne 5, 3) := by decide +kernel
theorem dX9_readsLine_23 : decode cX9_readsLine 23 = .ok (.iconst 0, 1) := by decide +kernel
theorem dX9_readsLine_24 : decode cX9_readsLine 24 = .ok (.ireturn, 1) := by decide +kernel
theorem dX9_readsLine_25 : decode cX9_readsLine 25 = .ok (.aload_n 0, 1) := by decide +kernel
theorem dX9_readsLine_26 : decode cX9_readsLine 26 = .ok (.dup, 1) := by decide +kernel
theorem dX9_readsLine_27 : decode cX9_readsLine 27 = .ok (.getfield 120, 3) := by decide +kernel
theorem dX9_readsLine_30 : decode cX9_readsLine 30 = .ok (.iconst 1, 1) := by decide +kernel
theorem dX9_readsLine_31 : decode cX9_readsLine 31 = .ok (.iadd, 1) := by decide +kernel
theorem dX9_readsLine_32 : decode cX9_readsLine 32 = .ok (.putfield 120, 3) := by decide +kernel
theorem dX9_readsLine_35 : decode cX9_readsLine 35 = .ok (.iinc 2 1, 3) := by decide +kernel
theorem dX9_readsLine_38 : decode cX9_readsLine 38 = .ok (.goto (-36), 3) := by decide +kernel
theorem dX9_readsLine_41 : decode cX9_readsLine 41 = .ok (.iconst 1, 1) := by decide +kernel
theorem dX9_readsLine_42 : decode cX9_readsLine 42 = .ok (.ireturn, 1) := by decide +kernel
theorem dX9_kindBy_0 : decode cX9_kindBy 0 = .ok (.iload_n 0, 1) := by decide +kernel
theorem dX9_kindBy_1 : decode cX9_kindBy 1 = .ok (.bipush 112, 2) := by decide +kernel
theorem dX9_kindBy_3 : decode cX9_kindBy 3 = .ok (.if_icmp .ne 7, 3) := by decide +kernel
theorem dX9_kindBy_6 : decode cX9_kindBy 6 = .ok (.iconst 0, 1) := by decide +kernel
theorem dX9_kindBy_7 : decode cX9_kindBy 7 = .ok (.goto 55, 3) := by decide +kernel
theorem dX9_kindBy_10 : decode cX9_kindBy 10 = .ok (.iload_n 0, 1) := by decide +kernel
theorem dX9_kindBy_11 : decode cX9_kindBy 11 = .ok (.bipush 114, 2) := by decide +kernel
theorem dX9_kindBy_13 : decode cX9_kindBy 13 = .ok (.if_icmp .ne 7, 3) := by decide +kernel
theorem dX9_kindBy_16 : decode cX9_kindBy 16 = .ok (.iconst 1, 1) := by decide +kernel
theorem dX9_kindBy_17 : decode cX9_kindBy 17 = .ok (.goto 45, 3) := by decide +kernel
theorem dX9_kindBy_20 : decode cX9_kindBy 20 = .ok (.iload_n 0, 1) := by decide +kernel
theorem dX9_kindBy_21 : decode cX9_kindBy 21 = .ok (.bipush 115, 2) := by decide +kernel
theorem dX9_kindBy_23 : decode cX9_kindBy 23 = .ok (.if_icmp .ne 7, 3) := by decide +kernel
theorem dX9_kindBy_26 : decode cX9_kindBy 26 = .ok (.iconst 2, 1) := by decide +kernel
theorem dX9_kindBy_27 : decode cX9_kindBy 27 = .ok (.goto 35, 3) := by decide +kernel
theorem dX9_kindBy_30 : decode cX9_kindBy 30 = .ok (.iload_n 0, 1) := by decide +kernel
theorem dX9_kindBy_31 : decode cX9_kindBy 31 = .ok (.bipush 98, 2) := by decide +kernel
theorem dX9_kindBy_33 : decode cX9_kindBy 33 = .ok (.if_icmp .ne 7, 3) := by decide +kernel
theorem dX9_kindBy_36 : decode cX9_kindBy 36 = .ok (.iconst 3, 1) := by decide +kernel
theorem dX9_kindBy_37 : decode cX9_kindBy 37 = .ok (.goto 25, 3) := by decide +kernel
theorem dX9_kindBy_40 : decode cX9_kindBy 40 = .ok (.iload_n 0, 1) := by decide +kernel
theorem dX9_kindBy_41 : decode cX9_kindBy 41 = .ok (.bipush 116, 2) := by decide +kernel
theorem dX9_kindBy_43 : decode cX9_kindBy 43 = .ok (.if_icmp .ne 7, 3) := by decide +kernel
theorem dX9_kindBy_46 : decode cX9_kindBy 46 = .ok (.iconst 4, 1) := by decide +kernel
theorem dX9_kindBy_47 : decode cX9_kindBy 47 = .ok (.goto 15, 3) := by decide +kernel
theorem dX9_kindBy_50 : decode cX9_kindBy 50 = .ok (.iload_n 0, 1) := by decide +kernel
theorem dX9_kindBy_51 : decode cX9_kindBy 51 = .ok (.bipush 100, 2) := by decide +kernel
theorem dX9_kindBy_53 : decode cX9_kindBy 53 = .ok (.if_icmp .ne 7, 3) := by decide +kernel
theorem dX9_kindBy_56 : decode cX9_kindBy 56 = .ok (.iconst 5, 1) := by decide +kernel
theorem dX9_kindBy_57 : decode cX9_kindBy 57 = .ok (.goto 5, 3) := by decide +kernel
theorem dX9_kindBy_60 : decode cX9_kindBy 60 = .ok (.bipush (-9), 2) := by decide +kernel
theorem dX9_kindBy_62 : decode cX9_kindBy 62 = .ok (.ireturn, 1) := by decide +kernel
theorem dX9_skip_0 : decode cX9_skip 0 = .ok (.aload_n 0, 1) := by decide +kernel
theorem dX9_skip_1 : decode cX9_skip 1 = .ok (.iload_n 1, 1) := by decide +kernel
theorem dX9_skip_2 : decode cX9_skip 2 = .ok (.invokevirtual 117, 3) := by decide +kernel
theorem dX9_skip_5 : decode cX9_skip 5 = .ok (.bipush 32, 2) := by decide +kernel
theorem dX9_skip_7 : decode cX9_skip 7 = .ok (.if_icmp .ne 16, 3) := by decide +kernel
theorem dX9_skip_10 : decode cX9_skip 10 = .ok (.aload_n 0, 1) := by decide +kernel
theorem dX9_skip_11 : decode cX9_skip 11 = .ok (.dup, 1) := by decide +kernel
theorem dX9_skip_12 : decode cX9_skip 12 = .ok (.getfield 114, 3) := by decide +kernel
theorem dX9_skip_15 : decode cX9_skip 15 = .ok (.iconst 1, 1) := by decide +kernel
theorem dX9_skip_16 : decode cX9_skip 16 = .ok (.iadd, 1) := by decide +kernel
theorem dX9_skip_17 : decode cX9_skip 17 = .ok (.putfield 114, 3) := by decide +kernel
theorem dX9_skip_20 : decode cX9_skip 20 = .ok (.goto (-20), 3) := by decide +kernel
theorem dX9_skip_23 : decode cX9_skip 23 = .ok (.return_, 1) := by decide +kernel
theorem dX9_readsGround_0 : decode cX9_readsGround 0 = .ok (.aload_n 0, 1) := by decide +kernel
theorem dX9_readsGround_1 : decode cX9_readsGround 1 = .ok (.iconst 0, 1) := by decide +kernel
theorem dX9_readsGround_2 : decode cX9_readsGround 2 = .ok (.putfield 114, 3) := by decide +kernel
theorem dX9_readsGround_5 : decode cX9_readsGround 5 = .ok (.aload_n 0, 1) := by decide +kernel
theorem dX9_readsGround_6 : decode cX9_readsGround 6 = .ok (.iconst 0, 1) := by decide +kernel
theorem dX9_readsGround_7 : decode cX9_readsGround 7 = .ok (.putfield 129, 3) := by decide +kernel
theorem dX9_readsGround_10 : decode cX9_readsGround 10 = .ok (.aload_n 0, 1) := by decide +kernel
theorem dX9_readsGround_11 : decode cX9_readsGround 11 = .ok (.iload_n 1, 1) := by decide +kernel
theorem dX9_readsGround_12 : decode cX9_readsGround 12 = .ok (.invokevirtual 132, 3) := by decide +kernel
theorem dX9_readsGround_15 : decode cX9_readsGround 15 = .ok (.aload_n 0, 1) := by decide +kernel
theorem dX9_readsGround_16 : decode cX9_readsGround 16 = .ok (.iload_n 1, 1) := by decide +kernel
theorem dX9_readsGround_17 : decode cX9_readsGround 17 = .ok (.invokevirtual 136, 3) := by decide +kernel
theorem dX9_readsGround_20 : decode cX9_readsGround 20 = .ok (.ifCond .ne 5, 3) := by decide +kernel
theorem dX9_readsGround_23 : decode cX9_readsGround 23 = .ok (.iconst 0, 1) := by decide +kernel
theorem dX9_readsGround_24 : decode cX9_readsGround 24 = .ok (.ireturn, 1) := by decide +kernel
theorem dX9_readsGround_25 : decode cX9_readsGround 25 = .ok (.aload_n 0, 1) := by decide +kernel
theorem dX9_readsGround_26 : decode cX9_readsGround 26 = .ok (.getfield 120, 3) := by decide +kernel
theorem dX9_readsGround_29 : decode cX9_readsGround 29 = .ok (.iconst 4, 1) := by decide +kernel
theorem dX9_readsGround_30 : decode cX9_readsGround 30 = .ok (.aload_n 0, 1) := by decide +kernel
theorem dX9_readsGround_31 : decode cX9_readsGround 31 = .ok (.getfield 126, 3) := by decide +kernel
theorem dX9_readsGround_34 : decode cX9_readsGround 34 = .ok (.imul, 1) := by decide +kernel
theorem dX9_readsGround_35 : decode cX9_readsGround 35 = .ok (.if_icmp .ge 23, 3) := by decide +kernel
theorem dX9_readsGround_38 : decode cX9_readsGround 38 = .ok (.aload_n 0, 1) := by decide +kernel
theorem dX9_readsGround_39 : decode cX9_readsGround 39 = .ok (.iload_n 1, 1) := by decide +kernel
theorem dX9_readsGround_40 : decode cX9_readsGround 40 = .ok (.bipush 47, 2) := by decide +kernel
theorem dX9_readsGround_42 : decode cX9_readsGround 42 = .ok (.invokevirtual 139, 3) := by decide +kernel
theorem dX9_readsGround_45 : decode cX9_readsGround 45 = .ok (.ifCond .eq 13, 3) := by decide +kernel
theorem dX9_readsGround_48 : decode cX9_readsGround 48 = .ok (.aload_n 0, 1) := by decide +kernel
theorem dX9_readsGround_49 : decode cX9_readsGround 49 = .ok (.iload_n 1, 1) := by decide +kernel
theorem dX9_readsGround_50 : decode cX9_readsGround 50 = .ok (.invokevirtual 143, 3) := by decide +kernel
theorem dX9_readsGround_53 : decode cX9_readsGround 53 = .ok (.ifCond .ne (-28), 3) := by decide +kernel
theorem dX9_readsGround_56 : decode cX9_readsGround 56 = .ok (.iconst 0, 1) := by decide +kernel
theorem dX9_readsGround_57 : decode cX9_readsGround 57 = .ok (.ireturn, 1) := by decide +kernel
theorem dX9_readsGround_58 : decode cX9_readsGround 58 = .ok (.aload_n 0, 1) := by decide +kernel
theorem dX9_readsGround_59 : decode cX9_readsGround 59 = .ok (.iload_n 1, 1) := by decide +kernel
theorem dX9_readsGround_60 : decode cX9_readsGround 60 = .ok (.bipush 61, 2) := by decide +kernel
theorem dX9_readsGround_62 : decode cX9_readsGround 62 = .ok (.invokevirtual 139, 3) := by decide +kernel
theorem dX9_readsGround_65 : decode cX9_readsGround 65 = .ok (.ifCond .ne 5, 3) := by decide +kernel
theorem dX9_readsGround_68 : decode cX9_readsGround 68 = .ok (.iconst 0, 1) := by decide +kernel
theorem dX9_readsGround_69 : decode cX9_readsGround 69 = .ok (.ireturn, 1) := by decide +kernel
theorem dX9_readsGround_70 : decode cX9_readsGround 70 = .ok (.iconst 0, 1) := by decide +kernel
theorem dX9_readsGround_71 : decode cX9_readsGround 71 = .ok (.istore_n 2, 1) := by decide +kernel
theorem dX9_readsGround_72 : decode cX9_readsGround 72 = .ok (.iload_n 2, 1) := by decide +kernel
theorem dX9_readsGround_73 : decode cX9_readsGround 73 = .ok (.aload_n 0, 1) := by decide +kernel
theorem dX9_readsGround_74 : decode cX9_readsGround 74 = .ok (.getfield 126, 3) := by decide +kernel
theorem dX9_readsGround_77 : decode cX9_readsGround 77 = .ok (.if_icmp .ge 24, 3) := by decide +kernel
theorem dX9_readsGround_80 : decode cX9_readsGround 80 = .ok (.aload_n 0, 1) := by decide +kernel
theorem dX9_readsGround_81 : decode cX9_readsGround 81 = .ok (.iload_n 1, 1) := by decide +kernel
theorem dX9_readsGround_82 : decode cX9_readsGround 82 = .ok (.bipush 16, 2) := by decide +kernel
theorem dX9_readsGround_84 : decode cX9_readsGround 84 = .ok (.iload_n 2, 1) := by decide +kernel
theorem dX9_readsGround_85 : decode cX9_readsGround 85 = .ok (.iadd, 1) := by decide +kernel
theorem dX9_readsGround_86 : decode cX9_readsGround 86 = .ok (.iconst 3, 1) := by decide +kernel
theorem dX9_readsGround_87 : decode cX9_readsGround 87 = .ok (.invokevirtual 123, 3) := by decide +kernel
theorem dX9_readsGround_90 : decode cX9_readsGround 90 = .ok (.ifCond .ne 5, 3) := by decide +kernel
theorem dX9_readsGround_93 : decode cX9_readsGround 93 = .ok (.iconst 0, 1) := by decide +kernel
theorem dX9_readsGround_94 : decode cX9_readsGround 94 = .ok (.ireturn, 1) := by decide +kernel
theorem dX9_readsGround_95 : decode cX9_readsGround 95 = .ok (.iinc 2 1, 3) := by decide +kernel
theorem dX9_readsGround_98 : decode cX9_readsGround 98 = .ok (.goto (-26), 3) := by decide +kernel
theorem dX9_readsGround_101 : decode cX9_readsGround 101 = .ok (.aload_n 0, 1) := by decide +kernel
theorem dX9_readsGround_102 : decode cX9_readsGround 102 = .ok (.getfield 129, 3) := by decide +kernel
theorem dX9_readsGround_105 : decode cX9_readsGround 105 = .ok (.bipush 6, 2) := by decide +kernel
theorem dX9_readsGround_107 : decode cX9_readsGround 107 = .ok (.if_icmp .ge 59, 3) := by decide +kernel
theorem dX9_readsGround_110 : decode cX9_readsGround 110 = .ok (.aload_n 0, 1) := by decide +kernel
theorem dX9_readsGround_111 : decode cX9_readsGround 111 = .ok (.iload_n 1, 1) := by decide +kernel
theorem dX9_readsGround_112 : decode cX9_readsGround 112 = .ok (.invokevirtual 117, 3) := by decide +kernel
theorem dX9_readsGround_115 : decode cX9_readsGround 115 = .ok (.invokestatic 146, 3) := by decide +kernel
theorem dX9_readsGround_118 : decode cX9_readsGround 118 = .ok (.bipush (-9), 2) := by decide +kernel
theorem dX9_readsGround_120 : decode cX9_readsGround 120 = .ok (.if_icmp .eq 46, 3) := by decide +kernel
theorem dX9_readsGround_123 : decode cX9_readsGround 123 = .ok (.aload_n 0, 1) := by decide +kernel
theorem dX9_readsGround_124 : decode cX9_readsGround 124 = .ok (.getfield 41, 3) := by decide +kernel
theorem dX9_readsGround_127 : decode cX9_readsGround 127 = .ok (.bipush 20, 2) := by decide +kernel
theorem dX9_readsGround_129 : decode cX9_readsGround 129 = .ok (.aload_n 0, 1) := by decide +kernel
theorem dX9_readsGround_130 : decode cX9_readsGround 130 = .ok (.getfield 129, 3) := by decide +kernel
theorem dX9_readsGround_133 : decode cX9_readsGround 133 = .ok (.iadd, 1) := by decide +kernel
theorem dX9_readsGround_134 : decode cX9_readsGround 134 = .ok (.aload_n 0, 1) := by decide +kernel
theorem dX9_readsGround_135 : decode cX9_readsGround 135 = .ok (.iload_n 1, 1) := by decide +kernel
theorem dX9_readsGround_136 : decode cX9_readsGround 136 = .ok (.invokevirtual 117, 3) := by decide +kernel
theorem dX9_readsGround_139 : decode cX9_readsGround 139 = .ok (.invokestatic 146, 3) := by decide +kernel
theorem dX9_readsGround_142 : decode cX9_readsGround 142 = .ok (.iastore, 1) := by decide +kernel
theorem dX9_readsGround_143 : decode cX9_readsGround 143 = .ok (.aload_n 0, 1) := by decide +kernel
theorem dX9_readsGround_144 : decode cX9_readsGround 144 = .ok (.dup, 1) := by decide +kernel
theorem dX9_readsGround_145 : decode cX9_readsGround 145 = .ok (.getfield 129, 3) := by decide +kernel
theorem dX9_readsGround_148 : decode cX9_readsGround 148 = .ok (.iconst 1, 1) := by decide +kernel
theorem dX9_readsGround_149 : decode cX9_readsGround 149 = .ok (.iadd, 1) := by decide +kernel
theorem dX9_readsGround_150 : decode cX9_readsGround 150 = .ok (.putfield 129, 3) := by decide +kernel
theorem dX9_readsGround_153 : decode cX9_readsGround 153 = .ok (.aload_n 0, 1) := by decide +kernel
theorem dX9_readsGround_154 : decode cX9_readsGround 154 = .ok (.dup, 1) := by decide +kernel
theorem dX9_readsGround_155 : decode cX9_readsGround 155 = .ok (.getfield 114, 3) := by decide +kernel
theorem dX9_readsGround_158 : decode cX9_readsGround 158 = .ok (.iconst 1, 1) := by decide +kernel
theorem dX9_readsGround_159 : decode cX9_readsGround 159 = .ok (.iadd, 1) := by decide +kernel
theorem dX9_readsGround_160 : decode cX9_readsGround 160 = .ok (.putfield 114, 3) := by decide +kernel
theorem dX9_readsGround_163 : decode cX9_readsGround 163 = .ok (.goto (-62), 3) := by decide +kernel
theorem dX9_readsGround_166 : decode cX9_readsGround 166 = .ok (.aload_n 0, 1) := by decide +kernel
theorem dX9_readsGround_167 : decode cX9_readsGround 167 = .ok (.iload_n 1, 1) := by decide +kernel
theorem dX9_readsGround_168 : decode cX9_readsGround 168 = .ok (.invokevirtual 132, 3) := by decide +kernel
theorem dX9_readsGround_171 : decode cX9_readsGround 171 = .ok (.aload_n 0, 1) := by decide +kernel
theorem dX9_readsGround_172 : decode cX9_readsGround 172 = .ok (.getfield 114, 3) := by decide +kernel
theorem dX9_readsGround_175 : decode cX9_readsGround 175 = .ok (.aload_n 0, 1) := by decide +kernel
theorem dX9_readsGround_176 : decode cX9_readsGround 176 = .ok (.getfield 26, 3) := by decide +kernel
theorem dX9_readsGround_179 : decode cX9_readsGround 179 = .ok (.iload_n 1, 1) := by decide +kernel
theorem dX9_readsGround_180 : decode cX9_readsGround 180 = .ok (.iaload, 1) := by decide +kernel
theorem dX9_readsGround_181 : decode cX9_readsGround 181 = .ok (.if_icmp .ne 7, 3) := by decide +kernel
theorem dX9_readsGround_184 : decode cX9_readsGround 184 = .ok (.iconst 1, 1) := by decide +kernel
theorem dX9_readsGround_185 : decode cX9_readsGround 185 = .ok (.goto 4, 3) := by decide +kernel
theorem dX9_readsGround_188 : decode cX9_readsGround 188 = .ok (.iconst 0, 1) := by decide +kernel
theorem dX9_readsGround_189 : decode cX9_readsGround 189 = .ok (.ireturn, 1) := by decide +kernel
theorem dX9_goesOn_0 : decode cX9_goesOn 0 = .ok (.aload_n 0, 1) := by decide +kernel
theorem dX9_goesOn_1 : decode cX9_goesOn 1 = .ok (.iload_n 1, 1) := by decide +kernel
theorem dX9_goesOn_2 : decode cX9_goesOn 2 = .ok (.invokevirtual 149, 3) := by decide +kernel
theorem dX9_goesOn_5 : decode cX9_goesOn 5 = .ok (.ifCond .eq 8, 3) := by decide +kernel
theorem dX9_goesOn_8 : decode cX9_goesOn 8 = .ok (.bipush (-9), 2) := by decide +kernel
theorem dX9_goesOn_10 : decode cX9_goesOn 10 = .ok (.goto 7, 3) := by decide +kernel
theorem dX9_goesOn_13 : decode cX9_goesOn 13 = .ok (.aload_n 0, 1) := by decide +kernel
theorem dX9_goesOn_14 : decode cX9_goesOn 14 = .ok (.getfield 114, 3) := by decide +kernel
theorem dX9_goesOn_17 : decode cX9_goesOn 17 = .ok (.ireturn, 1) := by decide +kernel
theorem dX9_fault_0 : decode cX9_fault 0 = .ok (.aload_n 0, 1) := by decide +kernel
theorem dX9_fault_1 : decode cX9_fault 1 = .ok (.iload_n 1, 1) := by decide +kernel
theorem dX9_fault_2 : decode cX9_fault 2 = .ok (.invokevirtual 111, 3) := by decide +kernel
theorem dX9_fault_5 : decode cX9_fault 5 = .ok (.istore_n 2, 1) := by decide +kernel
theorem dX9_fault_6 : decode cX9_fault 6 = .ok (.iload_n 2, 1) := by decide +kernel
theorem dX9_fault_7 : decode cX9_fault 7 = .ok (.ifCond .ge 7, 3) := by decide +kernel
theorem dX9_fault_10 : decode cX9_fault 10 = .ok (.iload_n 2, 1) := by decide +kernel
theorem dX9_fault_11 : decode cX9_fault 11 = .ok (.goto 8, 3) := by decide +kernel
theorem dX9_fault_14 : decode cX9_fault 14 = .ok (.aload_n 0, 1) := by decide +kernel
theorem dX9_fault_15 : decode cX9_fault 15 = .ok (.iload_n 1, 1) := by decide +kernel
theorem dX9_fault_16 : decode cX9_fault 16 = .ok (.invokevirtual 152, 3) := by decide +kernel
theorem dX9_fault_19 : decode cX9_fault 19 = .ok (.ireturn, 1) := by decide +kernel
theorem dX9_ground_0 : decode cX9_ground 0 = .ok (.aload_n 0, 1) := by decide +kernel
theorem dX9_ground_1 : decode cX9_ground 1 = .ok (.iload_n 1, 1) := by decide +kernel
theorem dX9_ground_2 : decode cX9_ground 2 = .ok (.invokevirtual 111, 3) := by decide +kernel
theorem dX9_ground_5 : decode cX9_ground 5 = .ok (.istore_n 2, 1) := by decide +kernel
theorem dX9_ground_6 : decode cX9_ground 6 = .ok (.iload_n 2, 1) := by decide +kernel
theorem dX9_ground_7 : decode cX9_ground 7 = .ok (.ifCond .ge 5, 3) := by decide +kernel
theorem dX9_ground_10 : decode cX9_ground 10 = .ok (.iload_n 2, 1) := by decide +kernel
theorem dX9_ground_11 : decode cX9_ground 11 = .ok (.ireturn, 1) := by decide +kernel
theorem dX9_ground_12 : decode cX9_ground 12 = .ok (.aload_n 0, 1) := by decide +kernel
theorem dX9_ground_13 : decode cX9_ground 13 = .ok (.iload_n 1, 1) := by decide +kernel
theorem dX9_ground_14 : decode cX9_ground 14 = .ok (.invokevirtual 152, 3) := by decide +kernel
theorem dX9_ground_17 : decode cX9_ground 17 = .ok (.bipush (-9), 2) := by decide +kernel
theorem dX9_ground_19 : decode cX9_ground 19 = .ok (.if_icmp .eq 6, 3) := by decide +kernel
theorem dX9_ground_22 : decode cX9_ground 22 = .ok (.bipush (-4), 2) := by decide +kernel
theorem dX9_ground_24 : decode cX9_ground 24 = .ok (.ireturn, 1) := by decide +kernel
theorem dX9_ground_25 : decode cX9_ground 25 = .ok (.aload_n 0, 1) := by decide +kernel
theorem dX9_ground_26 : decode cX9_ground 26 = .ok (.aload_n 0, 1) := by decide +kernel
theorem dX9_ground_27 : decode cX9_ground 27 = .ok (.getfield 120, 3) := by decide +kernel
theorem dX9_ground_30 : decode cX9_ground 30 = .ok (.putfield 155, 3) := by decide +kernel
theorem dX9_ground_33 : decode cX9_ground 33 = .ok (.aload_n 0, 1) := by decide +kernel
theorem dX9_ground_34 : decode cX9_ground 34 = .ok (.aload_n 0, 1) := by decide +kernel
theorem dX9_ground_35 : decode cX9_ground 35 = .ok (.getfield 126, 3) := by decide +kernel
theorem dX9_ground_38 : decode cX9_ground 38 = .ok (.putfield 158, 3) := by decide +kernel
theorem dX9_ground_41 : decode cX9_ground 41 = .ok (.aload_n 0, 1) := by decide +kernel
theorem dX9_ground_42 : decode cX9_ground 42 = .ok (.aload_n 0, 1) := by decide +kernel
theorem dX9_ground_43 : decode cX9_ground 43 = .ok (.getfield 129, 3) := by decide +kernel
theorem dX9_ground_46 : decode cX9_ground 46 = .ok (.putfield 161, 3) := by decide +kernel
theorem dX9_ground_49 : decode cX9_ground 49 = .ok (.iconst 0, 1) := by decide +kernel
theorem dX9_ground_50 : decode cX9_ground 50 = .ok (.istore_n 3, 1) := by decide +kernel
theorem dX9_ground_51 : decode cX9_ground 51 = .ok (.iload_n 3, 1) := by decide +kernel
theorem dX9_ground_52 : decode cX9_ground 52 = .ok (.bipush 16, 2) := by decide +kernel
theorem dX9_ground_54 : decode cX9_ground 54 = .ok (.if_icmp .ge 33, 3) := by decide +kernel
theorem dX9_ground_57 : decode cX9_ground 57 = .ok (.aload_n 0, 1) := by decide +kernel
theorem dX9_ground_58 : decode cX9_ground 58 = .ok (.getfield 32, 3) := by decide +kernel
theorem dX9_ground_61 : decode cX9_ground 61 = .ok (.iload_n 3, 1) := by decide +kernel
theorem dX9_ground_62 : decode cX9_ground 62 = .ok (.iload_n 3, 1) := by decide +kernel
theorem dX9_ground_63 : decode cX9_ground 63 = .ok (.aload_n 0, 1) := by decide +kernel
theorem dX9_ground_64 : decode cX9_ground 64 = .ok (.getfield 155, 3) := by decide +kernel
theorem dX9_ground_67 : decode cX9_ground 67 = .ok (.if_icmp .ge 12, 3) := by decide +kernel
theorem dX9_ground_70 : decode cX9_ground 70 = .ok (.aload_n 0, 1) := by decide +kernel
theorem dX9_ground_71 : decode cX9_ground 71 = .ok (.getfield 41, 3) := by decide +kernel
theorem dX9_ground_74 : decode cX9_ground 74 = .ok (.iload_n 3, 1) := by decide +kernel
theorem dX9_ground_75 : decode cX9_ground 75 = .ok (.iaload, 1) := by decide +kernel
theorem dX9_ground_76 : decode cX9_ground 76 = .ok (.goto 4, 3) := by decide +kernel
theorem dX9_ground_79 : decode cX9_ground 79 = .ok (.iconst 0, 1) := by decide +kernel
theorem dX9_ground_80 : decode cX9_ground 80 = .ok (.iastore, 1) := by decide +kernel
theorem dX9_ground_81 : decode cX9_ground 81 = .ok (.iinc 3 1, 3) := by decide +kernel
theorem dX9_ground_84 : decode cX9_ground 84 = .ok (.goto (-33), 3) := by decide +kernel
theorem dX9_ground_87 : decode cX9_ground 87 = .ok (.iconst 0, 1) := by decide +kernel
theorem dX9_ground_88 : decode cX9_ground 88 = .ok (.istore_n 3, 1) := by decide +kernel
theorem dX9_ground_89 : decode cX9_ground 89 = .ok (.iload_n 3, 1) := by decide +kernel
theorem dX9_ground_90 : decode cX9_ground 90 = .ok (.iconst 4, 1) := by decide +kernel
theorem dX9_ground_91 : decode cX9_ground 91 = .ok (.if_icmp .ge 36, 3) := by decide +kernel
theorem dX9_ground_94 : decode cX9_ground 94 = .ok (.aload_n 0, 1) := by decide +kernel
theorem dX9_ground_95 : decode cX9_ground 95 = .ok (.getfield 35, 3) := by decide +kernel
theorem dX9_ground_98 : decode cX9_ground 98 = .ok (.iload_n 3, 1) := by decide +kernel
theorem dX9_ground_99 : decode cX9_ground 99 = .ok (.iload_n 3, 1) := by decide +kernel
theorem dX9_ground_100 : decode cX9_ground 100 = .ok (.aload_n 0, 1) := by decide +kernel
theorem dX9_ground_101 : decode cX9_ground 101 = .ok (.getfield 158, 3) := by decide +kernel
theorem dX9_ground_104 : decode cX9_ground 104 = .ok (.if_icmp .ge 15, 3) := by decide +kernel
theorem dX9_ground_107 : decode cX9_ground 107 = .ok (.aload_n 0, 1) := by decide +kernel
theorem dX9_ground_108 : decode cX9_ground 108 = .ok (.getfield 41, 3) := by decide +kernel
theorem dX9_ground_111 : decode cX9_ground 111 = .ok (.bipush 16, 2) := by decide +kernel
theorem dX9_ground_113 : decode cX9_ground 113 = .ok (.iload_n 3, 1) := by decide +kernel
theorem dX9_ground_114 : decode cX9_ground 114 = .ok (.iadd, 1) := by decide +kernel
theorem dX9_ground_115 : decode cX9_ground 115 = .ok (.iaload, 1) := by decide +kernel
theorem dX9_ground_116 : decode cX9_ground 116 = .ok (.goto 4, 3) := by decide +kernel
theorem dX9_ground_119 : decode cX9_ground 119 = .ok (.iconst 0, 1) := by decide +kernel
theorem dX9_ground_120 : decode cX9_ground 120 = .ok (.iastore, 1) := by decide +kernel
theorem dX9_ground_121 : decode cX9_ground 121 = .ok (.iinc 3 1, 3) := by decide +kernel
theorem dX9_ground_124 : decode cX9_ground 124 = .ok (.goto (-35), 3) := by decide +kernel
theorem dX9_ground_127 : decode cX9_ground 127 = .ok (.iconst 0, 1) := by decide +kernel
theorem dX9_ground_128 : decode cX9_ground 128 = .ok (.istore_n 3, 1) := by decide +kernel
theorem dX9_ground_129 : decode cX9_ground 129 = .ok (.iload_n 3, 1) := by decide +kernel
theorem dX9_ground_130 : decode cX9_ground 130 = .ok (.aload_n 0, 1) := by decide +kernel
theorem dX9_ground_131 : decode cX9_ground 131 = .ok (.getfield 161, 3) := by decide +kernel
theorem dX9_ground_134 : decode cX9_ground 134 = .ok (.if_icmp .ge 24, 3) := by decide +kernel
theorem dX9_ground_137 : decode cX9_ground 137 = .ok (.aload_n 0, 1) := by decide +kernel
theorem dX9_ground_138 : decode cX9_ground 138 = .ok (.getfield 38, 3) := by decide +kernel
theorem dX9_ground_141 : decode cX9_ground 141 = .ok (.iload_n 3, 1) := by decide +kernel
theorem dX9_ground_142 : decode cX9_ground 142 = .ok (.aload_n 0, 1) := by decide +kernel
theorem dX9_ground_143 : decode cX9_ground 143 = .ok (.getfield 41, 3) := by decide +kernel
theorem dX9_ground_146 : decode cX9_ground 146 = .ok (.bipush 20, 2) := by decide +kernel
theorem dX9_ground_148 : decode cX9_ground 148 = .ok (.iload_n 3, 1) := by decide +kernel
theorem dX9_ground_149 : decode cX9_ground 149 = .ok (.iadd, 1) := by decide +kernel
theorem dX9_ground_150 : decode cX9_ground 150 = .ok (.iaload, 1) := by decide +kernel
theorem dX9_ground_151 : decode cX9_ground 151 = .ok (.iastore, 1) := by decide +kernel
theorem dX9_ground_152 : decode cX9_ground 152 = .ok (.iinc 3 1, 3) := by decide +kernel
theorem dX9_ground_155 : decode cX9_ground 155 = .ok (.goto (-26), 3) := by decide +kernel
theorem dX9_ground_158 : decode cX9_ground 158 = .ok (.aload_n 0, 1) := by decide +kernel
theorem dX9_ground_159 : decode cX9_ground 159 = .ok (.iconst 0, 1) := by decide +kernel
theorem dX9_ground_160 : decode cX9_ground 160 = .ok (.putfield 164, 3) := by decide +kernel
theorem dX9_ground_163 : decode cX9_ground 163 = .ok (.aload_n 0, 1) := by decide +kernel
theorem dX9_ground_164 : decode cX9_ground 164 = .ok (.iconst 0, 1) := by decide +kernel
theorem dX9_ground_165 : decode cX9_ground 165 = .ok (.putfield 167, 3) := by decide +kernel
theorem dX9_ground_168 : decode cX9_ground 168 = .ok (.iconst 0, 1) := by decide +kernel
theorem dX9_ground_169 : decode cX9_ground 169 = .ok (.istore_n 3, 1) := by decide +kernel
theorem dX9_ground_170 : decode cX9_ground 170 = .ok (.iload_n 3, 1) := by decide +kernel
theorem dX9_ground_171 : decode cX9_ground 171 = .ok (.iconst 3, 1) := by decide +kernel
theorem dX9_ground_172 : decode cX9_ground 172 = .ok (.if_icmp .ge 16, 3) := by decide +kernel
theorem dX9_ground_175 : decode cX9_ground 175 = .ok (.aload_n 0, 1) := by decide +kernel
theorem dX9_ground_176 : decode cX9_ground 176 = .ok (.getfield 53, 3) := by decide +kernel
theorem dX9_ground_179 : decode cX9_ground 179 = .ok (.iload_n 3, 1) := by decide +kernel
theorem dX9_ground_180 : decode cX9_ground 180 = .ok (.iconst 0, 1) := by decide +kernel
theorem dX9_ground_181 : decode cX9_ground 181 = .ok (.iastore, 1) := by decide +kernel
theorem dX9_ground_182 : decode cX9_ground 182 = .ok (.iinc 3 1, 3) := by decide +kernel
theorem dX9_ground_185 : decode cX9_ground 185 = .ok (.goto (-15), 3) := by decide +kernel
theorem dX9_ground_188 : decode cX9_ground 188 = .ok (.aload_n 0, 1) := by decide +kernel
theorem dX9_ground_189 : decode cX9_ground 189 = .ok (.getfield 155, 3) := by decide +kernel
theorem dX9_ground_192 : decode cX9_ground 192 = .ok (.ireturn, 1) := by decide +kernel
theorem dX9_isCell_0 : decode cX9_isCell 0 = .ok (.iload_n 1, 1) := by decide +kernel
theorem dX9_isCell_1 : decode cX9_isCell 1 = .ok (.iconst 0, 1) := by decide +kernel
theorem dX9_isCell_2 : decode cX9_isCell 2 = .ok (.aload_n 0, 1) := by decide +kernel
theorem dX9_isCell_3 : decode cX9_isCell 3 = .ok (.getfield 155, 3) := by decide +kernel
theorem dX9_isCell_6 : decode cX9_isCell 6 = .ok (.iconst 1, 1) := by decide +kernel
theorem dX9_isCell_7 : decode cX9_isCell 7 = .ok (.isub, 1) := by decide +kernel
theorem dX9_isCell_8 : decode cX9_isCell 8 = .ok (.invokestatic 79, 3) := by decide +kernel
theorem dX9_isCell_11 : decode cX9_isCell 11 = .ok (.ireturn, 1) := by decide +kernel
theorem dX9_isLaw_0 : decode cX9_isLaw 0 = .ok (.iload_n 1, 1) := by decide +kernel
theorem dX9_isLaw_1 : decode cX9_isLaw 1 = .ok (.iconst 0, 1) := by decide +kernel
theorem dX9_isLaw_2 : decode cX9_isLaw 2 = .ok (.aload_n 0, 1) := by decide +kernel
theorem dX9_isLaw_3 : decode cX9_isLaw 3 = .ok (.getfield 161, 3) := by decide +kernel
theorem dX9_isLaw_6 : decode cX9_isLaw 6 = .ok (.iconst 1, 1) := by decide +kernel
theorem dX9_isLaw_7 : decode cX9_isLaw 7 = .ok (.isub, 1) := by decide +kernel
theorem dX9_isLaw_8 : decode cX9_isLaw 8 = .ok (.invokestatic 79, 3) := by decide +kernel
theorem dX9_isLaw_11 : decode cX9_isLaw 11 = .ok (.ireturn, 1) := by decide +kernel
theorem dX9_besides_0 : decode cX9_besides 0 = .ok (.iload_n 1, 1) := by decide +kernel
theorem dX9_besides_1 : decode cX9_besides 1 = .ok (.aload_n 0, 1) := by decide +kernel
theorem dX9_besides_2 : decode cX9_besides 2 = .ok (.getfield 158, 3) := by decide +kernel
theorem dX9_besides_5 : decode cX9_besides 5 = .ok (.irem, 1) := by decide +kernel
theorem dX9_besides_6 : decode cX9_besides 6 = .ok (.istore_n 2, 1) := by decide +kernel
theorem dX9_besides_7 : decode cX9_besides 7 = .ok (.iload_n 2, 1) := by decide +kernel
theorem dX9_besides_8 : decode cX9_besides 8 = .ok (.ifCond .le 11, 3) := by decide +kernel
theorem dX9_besides_11 : decode cX9_besides 11 = .ok (.iconst 1, 1) := by decide +kernel
theorem dX9_besides_12 : decode cX9_besides 12 = .ok (.iload_n 1, 1) := by decide +kernel
theorem dX9_besides_13 : decode cX9_besides 13 = .ok (.iconst 1, 1) := by decide +kernel
theorem dX9_besides_14 : decode cX9_besides 14 = .ok (.isub, 1) := by decide +kernel
theorem dX9_besides_15 : decode cX9_besides 15 = .ok (.ishl, 1) := by decide +kernel
theorem dX9_besides_16 : decode cX9_besides 16 = .ok (.goto 4, 3) := by decide +kernel
theorem dX9_besides_19 : decode cX9_besides 19 = .ok (.iconst 0, 1) := by decide +kernel
theorem dX9_besides_20 : decode cX9_besides 20 = .ok (.iload_n 2, 1) := by decide +kernel
theorem dX9_besides_21 : decode cX9_besides 21 = .ok (.aload_n 0, 1) := by decide +kernel
theorem dX9_besides_22 : decode cX9_besides 22 = .ok (.getfield 158, 3) := by decide +kernel
theorem dX9_besides_25 : decode cX9_besides 25 = .ok (.iconst 1, 1) := by decide +kernel
theorem dX9_besides_26 : decode cX9_besides 26 = .ok (.isub, 1) := by decide +kernel
theorem dX9_besides_27 : decode cX9_besides 27 = .ok (.if_icmp .ge 11, 3) := by decide +kernel
theorem dX9_besides_30 : decode cX9_besides 30 = .ok (.iconst 1, 1) := by decide +kernel
theorem dX9_besides_31 : decode cX9_besides 31 = .ok (.iload_n 1, 1) := by decide +kernel
theorem dX9_besides_32 : decode cX9_besides 32 = .ok (.iconst 1, 1) := by decide +kernel
theorem dX9_besides_33 : decode cX9_besides 33 = .ok (.iadd, 1) := by decide +kernel
theorem dX9_besides_34 : decode cX9_besides 34 = .ok (.ishl, 1) := by decide +kernel
theorem dX9_besides_35 : decode cX9_besides 35 = .ok (.goto 4, 3) := by decide +kernel
theorem dX9_besides_38 : decode cX9_besides 38 = .ok (.iconst 0, 1) := by decide +kernel
theorem dX9_besides_39 : decode cX9_besides 39 = .ok (.ior, 1) := by decide +kernel
theorem dX9_besides_40 : decode cX9_besides 40 = .ok (.iload_n 1, 1) := by decide +kernel
theorem dX9_besides_41 : decode cX9_besides 41 = .ok (.aload_n 0, 1) := by decide +kernel
theorem dX9_besides_42 : decode cX9_besides 42 = .ok (.getfield 158, 3) := by decide +kernel
theorem dX9_besides_45 : decode cX9_besides 45 = .ok (.if_icmp .lt 14, 3) := by decide +kernel
theorem dX9_besides_48 : decode cX9_besides 48 = .ok (.iconst 1, 1) := by decide +kernel
theorem dX9_besides_49 : decode cX9_besides 49 = .ok (.iload_n 1, 1) := by decide +kernel
theorem dX9_besides_50 : decode cX9_besides 50 = .ok (.aload_n 0, 1) := by decide +kernel
theorem dX9_besides_51 : decode cX9_besides 51 = .ok (.getfield 158, 3) := by decide +kernel
theorem dX9_besides_54 : decode cX9_besides 54 = .ok (.isub, 1) := by decide +kernel
theorem dX9_besides_55 : decode cX9_besides 55 = .ok (.ishl, 1) := by decide +kernel
theorem dX9_besides_56 : decode cX9_besides 56 = .ok (.goto 4, 3) := by decide +kernel
theorem dX9_besides_59 : decode cX9_besides 59 = .ok (.iconst 0, 1) := by decide +kernel
theorem dX9_besides_60 : decode cX9_besides 60 = .ok (.ior, 1) := by decide +kernel
theorem dX9_besides_61 : decode cX9_besides 61 = .ok (.iload_n 1, 1) := by decide +kernel
theorem dX9_besides_62 : decode cX9_besides 62 = .ok (.aload_n 0, 1) := by decide +kernel
theorem dX9_besides_63 : decode cX9_besides 63 = .ok (.getfield 158, 3) := by decide +kernel
theorem dX9_besides_66 : decode cX9_besides 66 = .ok (.iadd, 1) := by decide +kernel
theorem dX9_besides_67 : decode cX9_besides 67 = .ok (.aload_n 0, 1) := by decide +kernel
theorem dX9_besides_68 : decode cX9_besides 68 = .ok (.getfield 155, 3) := by decide +kernel
theorem dX9_besides_71 : decode cX9_besides 71 = .ok (.if_icmp .ge 14, 3) := by decide +kernel
theorem dX9_besides_74 : decode cX9_besides 74 = .ok (.iconst 1, 1) := by decide +kernel
theorem dX9_besides_75 : decode cX9_besides 75 = .ok (.iload_n 1, 1) := by decide +kernel
theorem dX9_besides_76 : decode cX9_besides 76 = .ok (.aload_n 0, 1) := by decide +kernel
theorem dX9_besides_77 : decode cX9_besides 77 = .ok (.getfield 158, 3) := by decide +kernel
theorem dX9_besides_80 : decode cX9_besides 80 = .ok (.iadd, 1) := by decide +kernel
theorem dX9_besides_81 : decode cX9_besides 81 = .ok (.ishl, 1) := by decide +kernel
theorem dX9_besides_82 : decode cX9_besides 82 = .ok (.goto 4, 3) := by decide +kernel
theorem dX9_besides_85 : decode cX9_besides 85 = .ok (.iconst 0, 1) := by decide +kernel
theorem dX9_besides_86 : decode cX9_besides 86 = .ok (.ior, 1) := by decide +kernel
theorem dX9_besides_87 : decode cX9_besides 87 = .ok (.ireturn, 1) := by decide +kernel
theorem dX9_grown_0 : decode cX9_grown 0 = .ok (.iconst 1, 1) := by decide +kernel
theorem dX9_grown_1 : decode cX9_grown 1 = .ok (.iload_n 2, 1) := by decide +kernel
theorem dX9_grown_2 : decode cX9_grown 2 = .ok (.ishl, 1) := by decide +kernel
theorem dX9_grown_3 : decode cX9_grown 3 = .ok (.istore_n 3, 1) := by decide +kernel
theorem dX9_grown_4 : decode cX9_grown 4 = .ok (.iconst 0, 1) := by decide +kernel
theorem dX9_grown_5 : decode cX9_grown 5 = .ok (.istore 4, 2) := by decide +kernel
theorem dX9_grown_7 : decode cX9_grown 7 = .ok (.iload_n 3, 1) := by decide +kernel
theorem dX9_grown_8 : decode cX9_grown 8 = .ok (.iload 4, 2) := by decide +kernel
theorem dX9_grown_10 : decode cX9_grown 10 = .ok (.if_icmp .eq 52, 3) := by decide +kernel
theorem dX9_grown_13 : decode cX9_grown 13 = .ok (.iload_n 3, 1) := by decide +kernel
theorem dX9_grown_14 : decode cX9_grown 14 = .ok (.istore 4, 2) := by decide +kernel
theorem dX9_grown_16 : decode cX9_grown 16 = .ok (.iconst 0, 1) := by decide +kernel
theorem dX9_grown_17 : decode cX9_grown 17 = .ok (.istore 5, 2) := by decide +kernel
theorem dX9_grown_19 : decode cX9_grown 19 = .ok (.iload 5, 2) := by decide +kernel
theorem dX9_grown_21 : decode cX9_grown 21 = .ok (.aload_n 0, 1) := by decide +kernel
theorem dX9_grown_22 : decode cX9_grown 22 = .ok (.getfield 155, 3) := by decide +kernel
theorem dX9_grown_25 : decode cX9_grown 25 = .ok (.if_icmp .ge 34, 3) := by decide +kernel
theorem dX9_grown_28 : decode cX9_grown 28 = .ok (.iload_n 3, 1) := by decide +kernel
theorem dX9_grown_29 : decode cX9_grown 29 = .ok (.iload 4, 2) := by decide +kernel
theorem dX9_grown_31 : decode cX9_grown 31 = .ok (.iload 5, 2) := by decide +kernel
theorem dX9_grown_33 : decode cX9_grown 33 = .ok (.invokestatic 170, 3) := by decide +kernel
theorem dX9_grown_36 : decode cX9_grown 36 = .ok (.ifCond .eq 14, 3) := by decide +kernel
theorem dX9_grown_39 : decode cX9_grown 39 = .ok (.aload_n 0, 1) := by decide +kernel
theorem dX9_grown_40 : decode cX9_grown 40 = .ok (.iload 5, 2) := by decide +kernel
theorem dX9_grown_42 : decode cX9_grown 42 = .ok (.invokevirtual 173, 3) := by decide +kernel
theorem dX9_grown_45 : decode cX9_grown 45 = .ok (.iload_n 1, 1) := by decide +kernel
theorem dX9_grown_46 : decode cX9_grown 46 = .ok (.iand, 1) := by decide +kernel
theorem dX9_grown_47 : decode cX9_grown 47 = .ok (.goto 4, 3) := by decide +kernel
theorem dX9_grown_50 : decode cX9_grown 50 = .ok (.iconst 0, 1) := by decide +kernel
theorem dX9_grown_51 : decode cX9_grown 51 = .ok (.ior, 1) := by decide +kernel
theorem dX9_grown_52 : decode cX9_grown 52 = .ok (.istore_n 3, 1) := by decide +kernel
theorem dX9_grown_53 : decode cX9_grown 53 = .ok (.iinc 5 1, 3) := by decide +kernel
theorem dX9_grown_56 : decode cX9_grown 56 = .ok (.goto (-37), 3) := by decide +kernel
theorem dX9_grown_59 : decode cX9_grown 59 = .ok (.goto (-52), 3) := by decide +kernel
theorem dX9_grown_62 : decode cX9_grown 62 = .ok (.iload_n 3, 1) := by decide +kernel
theorem dX9_grown_63 : decode cX9_grown 63 = .ok (.ireturn, 1) := by decide +kernel
theorem dX9_dugIn_0 : decode cX9_dugIn 0 = .ok (.iconst 0, 1) := by decide +kernel
theorem dX9_dugIn_1 : decode cX9_dugIn 1 = .ok (.istore_n 2, 1) := by decide +kernel
theorem dX9_dugIn_2 : decode cX9_dugIn 2 = .ok (.iconst 0, 1) := by decide +kernel
theorem dX9_dugIn_3 : decode cX9_dugIn 3 = .ok (.istore_n 3, 1) := by decide +kernel
theorem dX9_dugIn_4 : decode cX9_dugIn 4 = .ok (.iload_n 3, 1) := by decide +kernel
theorem dX9_dugIn_5 : decode cX9_dugIn 5 = .ok (.bipush 16, 2) := by decide +kernel
theorem dX9_dugIn_7 : decode cX9_dugIn 7 = .ok (.if_icmp .ge 27, 3) := by decide +kernel
theorem dX9_dugIn_10 : decode cX9_dugIn 10 = .ok (.iload_n 2, 1) := by decide +kernel
theorem dX9_dugIn_11 : decode cX9_dugIn 11 = .ok (.aload_n 0, 1) := by decide +kernel
theorem dX9_dugIn_12 : decode cX9_dugIn 12 = .ok (.iload_n 1, 1) := by decide +kernel
theorem dX9_dugIn_13 : decode cX9_dugIn 13 = .ok (.iload_n 3, 1) := by decide +kernel
theorem dX9_dugIn_14 : decode cX9_dugIn 14 = .ok (.iadd, 1) := by decide +kernel
theorem dX9_dugIn_15 : decode cX9_dugIn 15 = .ok (.iaload, 1) := by decide +kernel
theorem dX9_dugIn_16 : decode cX9_dugIn 16 = .ok (.ifCond .le 9, 3) := by decide +kernel
theorem dX9_dugIn_19 : decode cX9_dugIn 19 = .ok (.iconst 1, 1) := by decide +kernel
theorem dX9_dugIn_20 : decode cX9_dugIn 20 = .ok (.iload_n 3, 1) := by decide +kernel
theorem dX9_dugIn_21 : decode cX9_dugIn 21 = .ok (.ishl, 1) := by decide +kernel
theorem dX9_dugIn_22 : decode cX9_dugIn 22 = .ok (.goto 4, 3) := by decide +kernel
theorem dX9_dugIn_25 : decode cX9_dugIn 25 = .ok (.iconst 0, 1) := by decide +kernel
theorem dX9_dugIn_26 : decode cX9_dugIn 26 = .ok (.ior, 1) := by decide +kernel
theorem dX9_dugIn_27 : decode cX9_dugIn 27 = .ok (.istore_n 2, 1) := by decide +kernel
theorem dX9_dugIn_28 : decode cX9_dugIn 28 = .ok (.iinc 3 1, 3) := by decide +kernel
theorem dX9_dugIn_31 : decode cX9_dugIn 31 = .ok (.goto (-27), 3) := by decide +kernel
theorem dX9_dugIn_34 : decode cX9_dugIn 34 = .ok (.iload_n 2, 1) := by decide +kernel
theorem dX9_dugIn_35 : decode cX9_dugIn 35 = .ok (.ireturn, 1) := by decide +kernel
theorem dX9_findHoles_0 : decode cX9_findHoles 0 = .ok (.iload_n 1, 1) := by decide +kernel
theorem dX9_findHoles_1 : decode cX9_findHoles 1 = .ok (.istore_n 3, 1) := by decide +kernel
theorem dX9_findHoles_2 : decode cX9_findHoles 2 = .ok (.iconst 0, 1) := by decide +kernel
theorem dX9_findHoles_3 : decode cX9_findHoles 3 = .ok (.istore 4, 2) := by decide +kernel
theorem dX9_findHoles_5 : decode cX9_findHoles 5 = .ok (.iconst 0, 1) := by decide +kernel
theorem dX9_findHoles_6 : decode cX9_findHoles 6 = .ok (.istore 5, 2) := by decide +kernel
theorem dX9_findHoles_8 : decode cX9_findHoles 8 = .ok (.iload 5, 2) := by decide +kernel
theorem dX9_findHoles_10 : decode cX9_findHoles 10 = .ok (.aload_n 0, 1) := by decide +kernel
theorem dX9_findHoles_11 : decode cX9_findHoles 11 = .ok (.getfield 155, 3) := by decide +kernel
theorem dX9_findHoles_14 : decode cX9_findHoles 14 = .ok (.if_icmp .ge 41, 3) := by decide +kernel
theorem dX9_findHoles_17 : decode cX9_findHoles 17 = .ok (.iload_n 3, 1) := by decide +kernel
theorem dX9_findHoles_18 : decode cX9_findHoles 18 = .ok (.iload 5, 2) := by decide +kernel
theorem dX9_findHoles_20 : decode cX9_findHoles 20 = .ok (.invokestatic 170, 3) := by decide +kernel
theorem dX9_findHoles_23 : decode cX9_findHoles 23 = .ok (.ifCond .eq 26, 3) := by decide +kernel
theorem dX9_findHoles_26 : decode cX9_findHoles 26 = .ok (.aload_n 2, 1) := by decide +kernel
theorem dX9_findHoles_27 : decode cX9_findHoles 27 = .ok (.iload 4, 2) := by decide +kernel
theorem dX9_findHoles_29 : decode cX9_findHoles 29 = .ok (.aload_n 0, 1) := by decide +kernel
theorem dX9_findHoles_30 : decode cX9_findHoles 30 = .ok (.iload_n 1, 1) := by decide +kernel
theorem dX9_findHoles_31 : decode cX9_findHoles 31 = .ok (.iload 5, 2) := by decide +kernel
theorem dX9_findHoles_33 : decode cX9_findHoles 33 = .ok (.invokevirtual 176, 3) := by decide +kernel
theorem dX9_findHoles_36 : decode cX9_findHoles 36 = .ok (.iastore, 1) := by decide +kernel
theorem dX9_findHoles_37 : decode cX9_findHoles 37 = .ok (.iload_n 3, 1) := by decide +kernel
theorem dX9_findHoles_38 : decode cX9_findHoles 38 = .ok (.aload_n 2, 1) := by decide +kernel
theorem dX9_findHoles_39 : decode cX9_findHoles 39 = .ok (.iload 4, 2) := by decide +kernel
theorem dX9_findHoles_41 : decode cX9_findHoles 41 = .ok (.iaload, 1) := by decide +kernel
theorem dX9_findHoles_42 : decode cX9_findHoles 42 = .ok (.iconst (-1), 1) := by decide +kernel
theorem dX9_findHoles_43 : decode cX9_findHoles 43 = .ok (.ixor, 1) := by decide +kernel
theorem dX9_findHoles_44 : decode cX9_findHoles 44 = .ok (.iand, 1) := by decide +kernel
theorem dX9_findHoles_45 : decode cX9_findHoles 45 = .ok (.istore_n 3, 1) := by decide +kernel
theorem dX9_findHoles_46 : decode cX9_findHoles 46 = .ok (.iinc 4 1, 3) := by decide +kernel
theorem dX9_findHoles_49 : decode cX9_findHoles 49 = .ok (.iinc 5 1, 3) := by decide +kernel
theorem dX9_findHoles_52 : decode cX9_findHoles 52 = .ok (.goto (-44), 3) := by decide +kernel
theorem dX9_findHoles_55 : decode cX9_findHoles 55 = .ok (.iload 4, 2) := by decide +kernel
theorem dX9_findHoles_57 : decode cX9_findHoles 57 = .ok (.ireturn, 1) := by decide +kernel
theorem dX9_layHoles_0 : decode cX9_layHoles 0 = .ok (.aload_n 0, 1) := by decide +kernel
theorem dX9_layHoles_1 : decode cX9_layHoles 1 = .ok (.aload_n 0, 1) := by decide +kernel
theorem dX9_layHoles_2 : decode cX9_layHoles 2 = .ok (.aload_n 0, 1) := by decide +kernel
theorem dX9_layHoles_3 : decode cX9_layHoles 3 = .ok (.getfield 32, 3) := by decide +kernel
theorem dX9_layHoles_6 : decode cX9_layHoles 6 = .ok (.iconst 0, 1) := by decide +kernel
theorem dX9_layHoles_7 : decode cX9_layHoles 7 = .ok (.invokestatic 179, 3) := by decide +kernel
theorem dX9_layHoles_10 : decode cX9_layHoles 10 = .ok (.aload_n 0, 1) := by decide +kernel
theorem dX9_layHoles_11 : decode cX9_layHoles 11 = .ok (.getfield 44, 3) := by decide +kernel
theorem dX9_layHoles_14 : decode cX9_layHoles 14 = .ok (.invokevirtual 183, 3) := by decide +kernel
theorem dX9_layHoles_17 : decode cX9_layHoles 17 = .ok (.putfield 187, 3) := by decide +kernel
theorem dX9_layHoles_20 : decode cX9_layHoles 20 = .ok (.return_, 1) := by decide +kernel
theorem dX9_holeCount_0 : decode cX9_holeCount 0 = .ok (.aload_n 0, 1) := by decide +kernel
theorem dX9_holeCount_1 : decode cX9_holeCount 1 = .ok (.invokevirtual 190, 3) := by decide +kernel
theorem dX9_holeCount_4 : decode cX9_holeCount 4 = .ok (.aload_n 0, 1) := by decide +kernel
theorem dX9_holeCount_5 : decode cX9_holeCount 5 = .ok (.getfield 187, 3) := by decide +kernel
theorem dX9_holeCount_8 : decode cX9_holeCount 8 = .ok (.ireturn, 1) := by decide +kernel
theorem dX9_isHole_0 : decode cX9_isHole 0 = .ok (.aload_n 0, 1) := by decide +kernel
theorem dX9_isHole_1 : decode cX9_isHole 1 = .ok (.invokevirtual 190, 3) := by decide +kernel
theorem dX9_isHole_4 : decode cX9_isHole 4 = .ok (.iload_n 1, 1) := by decide +kernel
theorem dX9_isHole_5 : decode cX9_isHole 5 = .ok (.iconst 0, 1) := by decide +kernel
theorem dX9_isHole_6 : decode cX9_isHole 6 = .ok (.aload_n 0, 1) := by decide +kernel
theorem dX9_isHole_7 : decode cX9_isHole 7 = .ok (.getfield 187, 3) := by decide +kernel
theorem dX9_isHole_10 : decode cX9_isHole 10 = .ok (.iconst 1, 1) := by decide +kernel
theorem dX9_isHole_11 : decode cX9_isHole 11 = .ok (.isub, 1) := by decide +kernel
theorem dX9_isHole_12 : decode cX9_isHole 12 = .ok (.invokestatic 79, 3) := by decide +kernel
theorem dX9_isHole_15 : decode cX9_isHole 15 = .ok (.ireturn, 1) := by decide +kernel
theorem dX9_volume_0 : decode cX9_volume 0 = .ok (.iconst 0, 1) := by decide +kernel
theorem dX9_volume_1 : decode cX9_volume 1 = .ok (.istore 4, 2) := by decide +kernel
theorem dX9_volume_3 : decode cX9_volume 3 = .ok (.iconst 0, 1) := by decide +kernel
theorem dX9_volume_4 : decode cX9_volume 4 = .ok (.istore 5, 2) := by decide +kernel
theorem dX9_volume_6 : decode cX9_volume 6 = .ok (.iload 5, 2) := by decide +kernel
theorem dX9_volume_8 : decode cX9_volume 8 = .ok (.aload_n 0, 1) := by decide +kernel
theorem dX9_volume_9 : decode cX9_volume 9 = .ok (.getfield 155, 3) := by decide +kernel
theorem dX9_volume_12 : decode cX9_volume 12 = .ok (.if_icmp .ge 33, 3) := by decide +kernel
theorem dX9_volume_15 : decode cX9_volume 15 = .ok (.iload 4, 2) := by decide +kernel
theorem dX9_volume_17 : decode cX9_volume 17 = .ok (.iload_n 3, 1) := by decide +kernel
theorem dX9_volume_18 : decode cX9_volume 18 = .ok (.iload 5, 2) := by decide +kernel
theorem dX9_volume_20 : decode cX9_volume 20 = .ok (.invokestatic 170, 3) := by decide +kernel
theorem dX9_volume_23 : decode cX9_volume 23 = .ok (.ifCond .eq 12, 3) := by decide +kernel
theorem dX9_volume_26 : decode cX9_volume 26 = .ok (.aload_n 1, 1) := by decide +kernel
theorem dX9_volume_27 : decode cX9_volume 27 = .ok (.iload_n 2, 1) := by decide +kernel
theorem dX9_volume_28 : decode cX9_volume 28 = .ok (.iload 5, 2) := by decide +kernel
theorem dX9_volume_30 : decode cX9_volume 30 = .ok (.iadd, 1) := by decide +kernel
theorem dX9_volume_31 : decode cX9_volume 31 = .ok (.iaload, 1) := by decide +kernel
theorem dX9_volume_32 : decode cX9_volume 32 = .ok (.goto 4, 3) := by decide +kernel
theorem dX9_volume_35 : decode cX9_volume 35 = .ok (.iconst 0, 1) := by decide +kernel
theorem dX9_volume_36 : decode cX9_volume 36 = .ok (.iadd, 1) := by decide +kernel
theorem dX9_volume_37 : decode cX9_volume 37 = .ok (.istore 4, 2) := by decide +kernel
theorem dX9_volume_39 : decode cX9_volume 39 = .ok (.iinc 5 1, 3) := by decide +kernel
theorem dX9_volume_42 : decode cX9_volume 42 = .ok (.goto (-36), 3) := by decide +kernel
theorem dX9_volume_45 : decode cX9_volume 45 = .ok (.iload 4, 2) := by decide +kernel
theorem dX9_volume_47 : decode cX9_volume 47 = .ok (.ireturn, 1) := by decide +kernel
theorem dX9_bottom_0 : decode cX9_bottom 0 = .ok (.iconst 0, 1) := by decide +kernel
theorem dX9_bottom_1 : decode cX9_bottom 1 = .ok (.istore 4, 2) := by decide +kernel
theorem dX9_bottom_3 : decode cX9_bottom 3 = .ok (.iconst 0, 1) := by decide +kernel
theorem dX9_bottom_4 : decode cX9_bottom 4 = .ok (.istore 5, 2) := by decide +kernel
theorem dX9_bottom_6 : decode cX9_bottom 6 = .ok (.iload 5, 2) := by decide +kernel
theorem dX9_bottom_8 : decode cX9_bottom 8 = .ok (.aload_n 0, 1) := by decide +kernel
theorem dX9_bottom_9 : decode cX9_bottom 9 = .ok (.getfield 155, 3) := by decide +kernel
theorem dX9_bottom_12 : decode cX9_bottom 12 = .ok (.if_icmp .ge 36, 3) := by decide +kernel
theorem dX9_bottom_15 : decode cX9_bottom 15 = .ok (.iload_n 3, 1) := by decide +kernel
theorem dX9_bottom_16 : decode cX9_bottom 16 = .ok (.iload 5, 2) := by decide +kernel
theorem dX9_bottom_18 : decode cX9_bottom 18 = .ok (.invokestatic 170, 3) := by decide +kernel
theorem dX9_bottom_21 : decode cX9_bottom 21 = .ok (.ifCond .eq 17, 3) := by decide +kernel
theorem dX9_bottom_24 : decode cX9_bottom 24 = .ok (.iload 4, 2) := by decide +kernel
theorem dX9_bottom_26 : decode cX9_bottom 26 = .ok (.aload_n 1, 1) := by decide +kernel
theorem dX9_bottom_27 : decode cX9_bottom 27 = .ok (.iload_n 2, 1) := by decide +kernel
theorem dX9_bottom_28 : decode cX9_bottom 28 = .ok (.iload 5, 2) := by decide +kernel
theorem dX9_bottom_30 : decode cX9_bottom 30 = .ok (.iadd, 1) := by decide +kernel
theorem dX9_bottom_31 : decode cX9_bottom 31 = .ok (.iaload, 1) := by decide +kernel
theorem dX9_bottom_32 : decode cX9_bottom 32 = .ok (.invokestatic 193, 3) := by decide +kernel
theorem dX9_bottom_35 : decode cX9_bottom 35 = .ok (.goto 5, 3) := by decide +kernel
theorem dX9_bottom_38 : decode cX9_bottom 38 = .ok (.iload 4, 2) := by decide +kernel
theorem dX9_bottom_40 : decode cX9_bottom 40 = .ok (.istore 4, 2) := by decide +kernel
theorem dX9_bottom_42 : decode cX9_bottom 42 = .ok (.iinc 5 1, 3) := by decide +kernel
theorem dX9_bottom_45 : decode cX9_bottom 45 = .ok (.goto (-39), 3) := by decide +kernel
theorem dX9_bottom_48 : decode cX9_bottom 48 = .ok (.iload 4, 2) := by decide +kernel
theorem dX9_bottom_50 : decode cX9_bottom 50 = .ok (.ireturn, 1) := by decide +kernel
theorem dX9_cellsOf_0 : decode cX9_cellsOf 0 = .ok (.iconst 0, 1) := by decide +kernel
theorem dX9_cellsOf_1 : decode cX9_cellsOf 1 = .ok (.istore_n 3, 1) := by decide +kernel
theorem dX9_cellsOf_2 : decode cX9_cellsOf 2 = .ok (.iconst 0, 1) := by decide +kernel
theorem dX9_cellsOf_3 : decode cX9_cellsOf 3 = .ok (.istore 4, 2) := by decide +kernel
theorem dX9_cellsOf_5 : decode cX9_cellsOf 5 = .ok (.iload 4, 2) := by decide +kernel
theorem dX9_cellsOf_7 : decode cX9_cellsOf 7 = .ok (.aload_n 0, 1) := by decide +kernel
theorem dX9_cellsOf_8 : decode cX9_cellsOf 8 = .ok (.getfield 155, 3) := by decide +kernel
theorem dX9_cellsOf_11 : decode cX9_cellsOf 11 = .ok (.if_icmp .ge 42, 3) := by decide +kernel
theorem dX9_cellsOf_14 : decode cX9_cellsOf 14 = .ok (.iload_n 3, 1) := by decide +kernel
theorem dX9_cellsOf_15 : decode cX9_cellsOf 15 = .ok (.iload_n 1, 1) := by decide +kernel
theorem dX9_cellsOf_16 : decode cX9_cellsOf 16 = .ok (.iload 4, 2) := by decide +kernel
theorem dX9_cellsOf_18 : decode cX9_cellsOf 18 = .ok (.invokestatic 170, 3) := by decide +kernel
theorem dX9_cellsOf_21 : decode cX9_cellsOf 21 = .ok (.ifCond .eq 23, 3) := by decide +kernel
theorem dX9_cellsOf_24 : decode cX9_cellsOf 24 = .ok (.aload_n 0, 1) := by decide +kernel
theorem dX9_cellsOf_25 : decode cX9_cellsOf 25 = .ok (.getfield 35, 3) := by decide +kernel
theorem dX9_cellsOf_28 : decode cX9_cellsOf 28 = .ok (.iload 4, 2) := by decide +kernel
theorem dX9_cellsOf_30 : decode cX9_cellsOf 30 = .ok (.aload_n 0, 1) := by decide +kernel
theorem dX9_cellsOf_31 : decode cX9_cellsOf 31 = .ok (.getfield 158, 3) := by decide +kernel
theorem dX9_cellsOf_34 : decode cX9_cellsOf 34 = .ok (.irem, 1) := by decide +kernel
theorem dX9_cellsOf_35 : decode cX9_cellsOf 35 = .ok (.iaload, 1) := by decide +kernel
theorem dX9_cellsOf_36 : decode cX9_cellsOf 36 = .ok (.iload_n 2, 1) := by decide +kernel
theorem dX9_cellsOf_37 : decode cX9_cellsOf 37 = .ok (.if_icmp .ne 7, 3) := by decide +kernel
theorem dX9_cellsOf_40 : decode cX9_cellsOf 40 = .ok (.iconst 1, 1) := by decide +kernel
theorem dX9_cellsOf_41 : decode cX9_cellsOf 41 = .ok (.goto 4, 3) := by decide +kernel
theorem dX9_cellsOf_44 : decode cX9_cellsOf 44 = .ok (.iconst 0, 1) := by decide +kernel
theorem dX9_cellsOf_45 : decode cX9_cellsOf 45 = .ok (.iadd, 1) := by decide +kernel
theorem dX9_cellsOf_46 : decode cX9_cellsOf 46 = .ok (.istore_n 3, 1) := by decide +kernel
theorem dX9_cellsOf_47 : decode cX9_cellsOf 47 = .ok (.iinc 4 1, 3) := by decide +kernel
theorem dX9_cellsOf_50 : decode cX9_cellsOf 50 = .ok (.goto (-45), 3) := by decide +kernel
theorem dX9_cellsOf_53 : decode cX9_cellsOf 53 = .ok (.iload_n 3, 1) := by decide +kernel
theorem dX9_cellsOf_54 : decode cX9_cellsOf 54 = .ok (.ireturn, 1) := by decide +kernel
theorem dX9_whose_0 : decode cX9_whose 0 = .ok (.iconst 0, 1) := by decide +kernel
theorem dX9_whose_1 : decode cX9_whose 1 = .ok (.istore_n 2, 1) := by decide +kernel
theorem dX9_whose_2 : decode cX9_whose 2 = .ok (.iconst 1, 1) := by decide +kernel
theorem dX9_whose_3 : decode cX9_whose 3 = .ok (.istore_n 3, 1) := by decide +kernel
theorem dX9_whose_4 : decode cX9_whose 4 = .ok (.iload_n 3, 1) := by decide +kernel
theorem dX9_whose_5 : decode cX9_whose 5 = .ok (.iconst 4, 1) := by decide +kernel
theorem dX9_whose_6 : decode cX9_whose 6 = .ok (.if_icmp .ge 30, 3) := by decide +kernel
theorem dX9_whose_9 : decode cX9_whose 9 = .ok (.aload_n 0, 1) := by decide +kernel
theorem dX9_whose_10 : decode cX9_whose 10 = .ok (.iload_n 1, 1) := by decide +kernel
theorem dX9_whose_11 : decode cX9_whose 11 = .ok (.iload_n 3, 1) := by decide +kernel
theorem dX9_whose_12 : decode cX9_whose 12 = .ok (.invokevirtual 196, 3) := by decide +kernel
theorem dX9_whose_15 : decode cX9_whose 15 = .ok (.aload_n 0, 1) := by decide +kernel
theorem dX9_whose_16 : decode cX9_whose 16 = .ok (.iload_n 1, 1) := by decide +kernel
theorem dX9_whose_17 : decode cX9_whose 17 = .ok (.iload_n 2, 1) := by decide +kernel
theorem dX9_whose_18 : decode cX9_whose 18 = .ok (.invokevirtual 196, 3) := by decide +kernel
theorem dX9_whose_21 : decode cX9_whose 21 = .ok (.if_icmp .le 7, 3) := by decide +kernel
theorem dX9_whose_24 : decode cX9_whose 24 = .ok (.iload_n 3, 1) := by decide +kernel
theorem dX9_whose_25 : decode cX9_whose 25 = .ok (.goto 4, 3) := by decide +kernel
theorem dX9_whose_28 : decode cX9_whose 28 = .ok (.iload_n 2, 1) := by decide +kernel
theorem dX9_whose_29 : decode cX9_whose 29 = .ok (.istore_n 2, 1) := by decide +kernel
theorem dX9_whose_30 : decode cX9_whose 30 = .ok (.iinc 3 1, 3) := by decide +kernel
theorem dX9_whose_33 : decode cX9_whose 33 = .ok (.goto (-29), 3) := by decide +kernel
theorem dX9_whose_36 : decode cX9_whose 36 = .ok (.iload_n 2, 1) := by decide +kernel
theorem dX9_whose_37 : decode cX9_whose 37 = .ok (.ireturn, 1) := by decide +kernel
theorem dX9_holeOf_0 : decode cX9_holeOf 0 = .ok (.iload 4, 2) := by decide +kernel
theorem dX9_holeOf_2 : decode cX9_holeOf 2 = .ok (.ifCond .ne 7, 3) := by decide +kernel
theorem dX9_holeOf_5 : decode cX9_holeOf 5 = .ok (.iload_n 3, 1) := by decide +kernel
theorem dX9_holeOf_6 : decode cX9_holeOf 6 = .ok (.goto 53, 3) := by decide +kernel
theorem dX9_holeOf_9 : decode cX9_holeOf 9 = .ok (.iload 4, 2) := by decide +kernel
theorem dX9_holeOf_11 : decode cX9_holeOf 11 = .ok (.iconst 1, 1) := by decide +kernel
theorem dX9_holeOf_12 : decode cX9_holeOf 12 = .ok (.if_icmp .ne 10, 3) := by decide +kernel
theorem dX9_holeOf_15 : decode cX9_holeOf 15 = .ok (.iload_n 3, 1) := by decide +kernel
theorem dX9_holeOf_16 : decode cX9_holeOf 16 = .ok (.invokestatic 199, 3) := by decide +kernel
theorem dX9_holeOf_19 : decode cX9_holeOf 19 = .ok (.goto 40, 3) := by decide +kernel
theorem dX9_holeOf_22 : decode cX9_holeOf 22 = .ok (.iload 4, 2) := by decide +kernel
theorem dX9_holeOf_24 : decode cX9_holeOf 24 = .ok (.iconst 2, 1) := by decide +kernel
theorem dX9_holeOf_25 : decode cX9_holeOf 25 = .ok (.if_icmp .ne 13, 3) := by decide +kernel
theorem dX9_holeOf_28 : decode cX9_holeOf 28 = .ok (.aload_n 0, 1) := by decide +kernel
theorem dX9_holeOf_29 : decode cX9_holeOf 29 = .ok (.aload_n 1, 1) := by decide +kernel
theorem dX9_holeOf_30 : decode cX9_holeOf 30 = .ok (.iload_n 2, 1) := by decide +kernel
theorem dX9_holeOf_31 : decode cX9_holeOf 31 = .ok (.iload_n 3, 1) := by decide +kernel
theorem dX9_holeOf_32 : decode cX9_holeOf 32 = .ok (.invokevirtual 202, 3) := by decide +kernel
theorem dX9_holeOf_35 : decode cX9_holeOf 35 = .ok (.goto 24, 3) := by decide +kernel
theorem dX9_holeOf_38 : decode cX9_holeOf 38 = .ok (.iload 4, 2) := by decide +kernel
theorem dX9_holeOf_40 : decode cX9_holeOf 40 = .ok (.iconst 3, 1) := by decide +kernel
theorem dX9_holeOf_41 : decode cX9_holeOf 41 = .ok (.if_icmp .ne 13, 3) := by decide +kernel
theorem dX9_holeOf_44 : decode cX9_holeOf 44 = .ok (.aload_n 0, 1) := by decide +kernel
theorem dX9_holeOf_45 : decode cX9_holeOf 45 = .ok (.aload_n 1, 1) := by decide +kernel
theorem dX9_holeOf_46 : decode cX9_holeOf 46 = .ok (.iload_n 2, 1) := by decide +kernel
theorem dX9_holeOf_47 : decode cX9_holeOf 47 = .ok (.iload_n 3, 1) := by decide +kernel
theorem dX9_holeOf_48 : decode cX9_holeOf 48 = .ok (.invokevirtual 206, 3) := by decide +kernel
theorem dX9_holeOf_51 : decode cX9_holeOf 51 = .ok (.goto 8, 3) := by decide +kernel
theorem dX9_holeOf_54 : decode cX9_holeOf 54 = .ok (.aload_n 0, 1) := by decide +kernel
theorem dX9_holeOf_55 : decode cX9_holeOf 55 = .ok (.iload_n 3, 1) := by decide +kernel
theorem dX9_holeOf_56 : decode cX9_holeOf 56 = .ok (.invokevirtual 209, 3) := by decide +kernel
theorem dX9_holeOf_59 : decode cX9_holeOf 59 = .ok (.ireturn, 1) := by decide +kernel
theorem dX9_cellOf_0 : decode cX9_cellOf 0 = .ok (.iload_n 2, 1) := by decide +kernel
theorem dX9_cellOf_1 : decode cX9_cellOf 1 = .ok (.iconst 2, 1) := by decide +kernel
theorem dX9_cellOf_2 : decode cX9_cellOf 2 = .ok (.if_icmp .ge 28, 3) := by decide +kernel
theorem dX9_cellOf_5 : decode cX9_cellOf 5 = .ok (.iload_n 2, 1) := by decide +kernel
theorem dX9_cellOf_6 : decode cX9_cellOf 6 = .ok (.ifCond .ne 12, 3) := by decide +kernel
theorem dX9_cellOf_9 : decode cX9_cellOf 9 = .ok (.aload_n 0, 1) := by decide +kernel
theorem dX9_cellOf_10 : decode cX9_cellOf 10 = .ok (.getfield 32, 3) := by decide +kernel
theorem dX9_cellOf_13 : decode cX9_cellOf 13 = .ok (.iload_n 1, 1) := by decide +kernel
theorem dX9_cellOf_14 : decode cX9_cellOf 14 = .ok (.iaload, 1) := by decide +kernel
theorem dX9_cellOf_15 : decode cX9_cellOf 15 = .ok (.goto 14, 3) := by decide +kernel
theorem dX9_cellOf_18 : decode cX9_cellOf 18 = .ok (.aload_n 0, 1) := by decide +kernel
theorem dX9_cellOf_19 : decode cX9_cellOf 19 = .ok (.getfield 35, 3) := by decide +kernel
theorem dX9_cellOf_22 : decode cX9_cellOf 22 = .ok (.iload_n 1, 1) := by decide +kernel
theorem dX9_cellOf_23 : decode cX9_cellOf 23 = .ok (.aload_n 0, 1) := by decide +kernel
theorem dX9_cellOf_24 : decode cX9_cellOf 24 = .ok (.getfield 158, 3) := by decide +kernel
theorem dX9_cellOf_27 : decode cX9_cellOf 27 = .ok (.irem, 1) := by decide +kernel
theorem dX9_cellOf_28 : decode cX9_cellOf 28 = .ok (.iaload, 1) := by decide +kernel
theorem dX9_cellOf_29 : decode cX9_cellOf 29 = .ok (.ireturn, 1) := by decide +kernel
theorem dX9_cellOf_30 : decode cX9_cellOf 30 = .ok (.aload_n 0, 1) := by decide +kernel
theorem dX9_cellOf_31 : decode cX9_cellOf 31 = .ok (.invokevirtual 190, 3) := by decide +kernel
theorem dX9_cellOf_34 : decode cX9_cellOf 34 = .ok (.bipush (-9), 2) := by decide +kernel
theorem dX9_cellOf_36 : decode cX9_cellOf 36 = .ok (.istore_n 3, 1) := by decide +kernel
theorem dX9_cellOf_37 : decode cX9_cellOf 37 = .ok (.iconst 0, 1) := by decide +kernel
theorem dX9_cellOf_38 : decode cX9_cellOf 38 = .ok (.istore 4, 2) := by decide +kernel
theorem dX9_cellOf_40 : decode cX9_cellOf 40 = .ok (.iload 4, 2) := by decide +kernel
theorem dX9_cellOf_42 : decode cX9_cellOf 42 = .ok (.aload_n 0, 1) := by decide +kernel
theorem dX9_cellOf_43 : decode cX9_cellOf 43 = .ok (.getfield 187, 3) := by decide +kernel
theorem dX9_cellOf_46 : decode cX9_cellOf 46 = .ok (.if_icmp .ge 30, 3) := by decide +kernel
theorem dX9_cellOf_49 : decode cX9_cellOf 49 = .ok (.aload_n 0, 1) := by decide +kernel
theorem dX9_cellOf_50 : decode cX9_cellOf 50 = .ok (.getfield 44, 3) := by decide +kernel
theorem dX9_cellOf_53 : decode cX9_cellOf 53 = .ok (.iload 4, 2) := by decide +kernel
theorem dX9_cellOf_55 : decode cX9_cellOf 55 = .ok (.iaload, 1) := by decide +kernel
theorem dX9_cellOf_56 : decode cX9_cellOf 56 = .ok (.iload_n 1, 1) := by decide +kernel
theorem dX9_cellOf_57 : decode cX9_cellOf 57 = .ok (.invokestatic 170, 3) := by decide +kernel
theorem dX9_cellOf_60 : decode cX9_cellOf 60 = .ok (.ifCond .eq 8, 3) := by decide +kernel
theorem dX9_cellOf_63 : decode cX9_cellOf 63 = .ok (.iload 4, 2) := by decide +kernel
theorem dX9_cellOf_65 : decode cX9_cellOf 65 = .ok (.goto 4, 3) := by decide +kernel
theorem dX9_cellOf_68 : decode cX9_cellOf 68 = .ok (.iload_n 3, 1) := by decide +kernel
theorem dX9_cellOf_69 : decode cX9_cellOf 69 = .ok (.istore_n 3, 1) := by decide +kernel
theorem dX9_cellOf_70 : decode cX9_cellOf 70 = .ok (.iinc 4 1, 3) := by decide +kernel
theorem dX9_cellOf_73 : decode cX9_cellOf 73 = .ok (.goto (-33), 3) := by decide +kernel
theorem dX9_cellOf_76 : decode cX9_cellOf 76 = .ok (.iload_n 3, 1) := by decide +kernel
theorem dX9_cellOf_77 : decode cX9_cellOf 77 = .ok (.ireturn, 1) := by decide +kernel
theorem dX9_cell_0 : decode cX9_cell 0 = .ok (.aload_n 0, 1) := by decide +kernel
theorem dX9_cell_1 : decode cX9_cell 1 = .ok (.iload_n 1, 1) := by decide +kernel
theorem dX9_cell_2 : decode cX9_cell 2 = .ok (.invokevirtual 212, 3) := by decide +kernel
theorem dX9_cell_5 : decode cX9_cell 5 = .ok (.ifCond .eq 26, 3) := by decide +kernel
theorem dX9_cell_8 : decode cX9_cell 8 = .ok (.iload_n 2, 1) := by decide +kernel
theorem dX9_cell_9 : decode cX9_cell 9 = .ok (.iconst 0, 1) := by decide +kernel
theorem dX9_cell_10 : decode cX9_cell 10 = .ok (.iconst 2, 1) := by decide +kernel
theorem dX9_cell_11 : decode cX9_cell 11 = .ok (.invokestatic 79, 3) := by decide +kernel
theorem dX9_cell_14 : decode cX9_cell 14 = .ok (.ifCond .eq 17, 3) := by decide +kernel
theorem dX9_cell_17 : decode cX9_cell 17 = .ok (.aload_n 0, 1) := by decide +kernel
theorem dX9_cell_18 : decode cX9_cell 18 = .ok (.aload_n 0, 1) := by decide +kernel
theorem dX9_cell_19 : decode cX9_cell 19 = .ok (.iload_n 1, 1) := by decide +kernel
theorem dX9_cell_20 : decode cX9_cell 20 = .ok (.iload_n 2, 1) := by decide +kernel
theorem dX9_cell_21 : decode cX9_cell 21 = .ok (.invokevirtual 215, 3) := by decide +kernel
theorem dX9_cell_24 : decode cX9_cell 24 = .ok (.iconst 1, 1) := by decide +kernel
theorem dX9_cell_25 : decode cX9_cell 25 = .ok (.invokevirtual 105, 3) := by decide +kernel
theorem dX9_cell_28 : decode cX9_cell 28 = .ok (.goto 4, 3) := by decide +kernel
theorem dX9_cell_31 : decode cX9_cell 31 = .ok (.iconst (-1), 1) := by decide +kernel
theorem dX9_cell_32 : decode cX9_cell 32 = .ok (.ireturn, 1) := by decide +kernel
theorem dX9_law_0 : decode cX9_law 0 = .ok (.aload_n 0, 1) := by decide +kernel
theorem dX9_law_1 : decode cX9_law 1 = .ok (.iload_n 1, 1) := by decide +kernel
theorem dX9_law_2 : decode cX9_law 2 = .ok (.invokevirtual 218, 3) := by decide +kernel
theorem dX9_law_5 : decode cX9_law 5 = .ok (.ifCond .eq 12, 3) := by decide +kernel
theorem dX9_law_8 : decode cX9_law 8 = .ok (.aload_n 0, 1) := by decide +kernel
theorem dX9_law_9 : decode cX9_law 9 = .ok (.getfield 38, 3) := by decide +kernel
theorem dX9_law_12 : decode cX9_law 12 = .ok (.iload_n 1, 1) := by decide +kernel
theorem dX9_law_13 : decode cX9_law 13 = .ok (.iaload, 1) := by decide +kernel
theorem dX9_law_14 : decode cX9_law 14 = .ok (.goto 4, 3) := by decide +kernel
theorem dX9_law_17 : decode cX9_law 17 = .ok (.iconst (-1), 1) := by decide +kernel
theorem dX9_law_18 : decode cX9_law 18 = .ok (.ireturn, 1) := by decide +kernel
theorem dX9_pushed_0 : decode cX9_pushed 0 = .ok (.iconst 4, 1) := by decide +kernel
theorem dX9_pushed_1 : decode cX9_pushed 1 = .ok (.istore_n 2, 1) := by decide +kernel
theorem dX9_pushed_2 : decode cX9_pushed 2 = .ok (.iconst 4, 1) := by decide +kernel
theorem dX9_pushed_3 : decode cX9_pushed 3 = .ok (.istore_n 3, 1) := by decide +kernel
theorem dX9_pushed_4 : decode cX9_pushed 4 = .ok (.iconst 0, 1) := by decide +kernel
theorem dX9_pushed_5 : decode cX9_pushed 5 = .ok (.istore 4, 2) := by decide +kernel
theorem dX9_pushed_7 : decode cX9_pushed 7 = .ok (.iload 4, 2) := by decide +kernel
theorem dX9_pushed_9 : decode cX9_pushed 9 = .ok (.bipush 16, 2) := by decide +kernel
theorem dX9_pushed_11 : decode cX9_pushed 11 = .ok (.if_icmp .ge 61, 3) := by decide +kernel
theorem dX9_pushed_14 : decode cX9_pushed 14 = .ok (.iload_n 1, 1) := by decide +kernel
theorem dX9_pushed_15 : decode cX9_pushed 15 = .ok (.iload 4, 2) := by decide +kernel
theorem dX9_pushed_17 : decode cX9_pushed 17 = .ok (.invokestatic 170, 3) := by decide +kernel
theorem dX9_pushed_20 : decode cX9_pushed 20 = .ok (.ifCond .eq 18, 3) := by decide +kernel
theorem dX9_pushed_23 : decode cX9_pushed 23 = .ok (.iload 4, 2) := by decide +kernel
theorem dX9_pushed_25 : decode cX9_pushed 25 = .ok (.iconst 4, 1) := by decide +kernel
theorem dX9_pushed_26 : decode cX9_pushed 26 = .ok (.irem, 1) := by decide +kernel
theorem dX9_pushed_27 : decode cX9_pushed 27 = .ok (.iload_n 2, 1) := by decide +kernel
theorem dX9_pushed_28 : decode cX9_pushed 28 = .ok (.if_icmp .ge 10, 3) := by decide +kernel
theorem dX9_pushed_31 : decode cX9_pushed 31 = .ok (.iload 4, 2) := by decide +kernel
theorem dX9_pushed_33 : decode cX9_pushed 33 = .ok (.iconst 4, 1) := by decide +kernel
theorem dX9_pushed_34 : decode cX9_pushed 34 = .ok (.irem, 1) := by decide +kernel
theorem dX9_pushed_35 : decode cX9_pushed 35 = .ok (.goto 4, 3) := by decide +kernel
theorem dX9_pushed_38 : decode cX9_pushed 38 = .ok (.iload_n 2, 1) := by decide +kernel
theorem dX9_pushed_39 : decode cX9_pushed 39 = .ok (.istore_n 2, 1) := by decide +kernel
theorem dX9_pushed_40 : decode cX9_pushed 40 = .ok (.iload_n 1, 1) := by decide +kernel
theorem dX9_pushed_41 : decode cX9_pushed 41 = .ok (.iload 4, 2) := by decide +kernel
theorem dX9_pushed_43 : decode cX9_pushed 43 = .ok (.invokestatic 170, 3) := by decide +kernel
theorem dX9_pushed_46 : decode cX9_pushed 46 = .ok (.ifCond .eq 18, 3) := by decide +kernel
theorem dX9_pushed_49 : decode cX9_pushed 49 = .ok (.iload 4, 2) := by decide +kernel
theorem dX9_pushed_51 : decode cX9_pushed 51 = .ok (.iconst 4, 1) := by decide +kernel
theorem dX9_pushed_52 : decode cX9_pushed 52 = .ok (.idiv, 1) := by decide +kernel
theorem dX9_pushed_53 : decode cX9_pushed 53 = .ok (.iload_n 3, 1) := by decide +kernel
theorem dX9_pushed_54 : decode cX9_pushed 54 = .ok (.if_icmp .ge 10, 3) := by decide +kernel
theorem dX9_pushed_57 : decode cX9_pushed 57 = .ok (.iload 4, 2) := by decide +kernel
theorem dX9_pushed_59 : decode cX9_pushed 59 = .ok (.iconst 4, 1) := by decide +kernel
theorem dX9_pushed_60 : decode cX9_pushed 60 = .ok (.idiv, 1) := by decide +kernel
theorem dX9_pushed_61 : decode cX9_pushed 61 = .ok (.goto 4, 3) := by decide +kernel
theorem dX9_pushed_64 : decode cX9_pushed 64 = .ok (.iload_n 3, 1) := by decide +kernel
theorem dX9_pushed_65 : decode cX9_pushed 65 = .ok (.istore_n 3, 1) := by decide +kernel
theorem dX9_pushed_66 : decode cX9_pushed 66 = .ok (.iinc 4 1, 3) := by decide +kernel
theorem dX9_pushed_69 : decode cX9_pushed 69 = .ok (.goto (-62), 3) := by decide +kernel
theorem dX9_pushed_72 : decode cX9_pushed 72 = .ok (.iconst 0, 1) := by decide +kernel
theorem dX9_pushed_73 : decode cX9_pushed 73 = .ok (.istore 4, 2) := by decide +kernel
theorem dX9_pushed_75 : decode cX9_pushed 75 = .ok (.iconst 0, 1) := by decide +kernel
theorem dX9_pushed_76 : decode cX9_pushed 76 = .ok (.istore 5, 2) := by decide +kernel
theorem dX9_pushed_78 : decode cX9_pushed 78 = .ok (.iload 5, 2) := by decide +kernel
theorem dX9_pushed_80 : decode cX9_pushed 80 = .ok (.bipush 16, 2) := by decide +kernel
theorem dX9_pushed_82 : decode cX9_pushed 82 = .ok (.if_icmp .ge 37, 3) := by decide +kernel
theorem dX9_pushed_85 : decode cX9_pushed 85 = .ok (.iload 4, 2) := by decide +kernel
theorem dX9_pushed_87 : decode cX9_pushed 87 = .ok (.iload_n 1, 1) := by decide +kernel
theorem dX9_pushed_88 : decode cX9_pushed 88 = .ok (.iload 5, 2) := by decide +kernel
theorem dX9_pushed_90 : decode cX9_pushed 90 = .ok (.invokestatic 170, 3) := by decide +kernel
theorem dX9_pushed_93 : decode cX9_pushed 93 = .ok (.ifCond .eq 16, 3) := by decide +kernel
theorem dX9_pushed_96 : decode cX9_pushed 96 = .ok (.iconst 1, 1) := by decide +kernel
theorem dX9_pushed_97 : decode cX9_pushed 97 = .ok (.iload 5, 2) := by decide +kernel
theorem dX9_pushed_99 : decode cX9_pushed 99 = .ok (.iload_n 2, 1) := by decide +kernel
theorem dX9_pushed_100 : decode cX9_pushed 100 = .ok (.isub, 1) := by decide +kernel
theorem dX9_pushed_101 : decode cX9_pushed 101 = .ok (.iconst 4, 1) := by decide +kernel
theorem dX9_pushed_102 : decode cX9_pushed 102 = .ok (.iload_n 3, 1) := by decide +kernel
theorem dX9_pushed_103 : decode cX9_pushed 103 = .ok (.imul, 1) := by decide +kernel
theorem dX9_pushed_104 : decode cX9_pushed 104 = .ok (.isub, 1) := by decide +kernel
theorem dX9_pushed_105 : decode cX9_pushed 105 = .ok (.ishl, 1) := by decide +kernel
theorem dX9_pushed_106 : decode cX9_pushed 106 = .ok (.goto 4, 3) := by decide +kernel
theorem dX9_pushed_109 : decode cX9_pushed 109 = .ok (.iconst 0, 1) := by decide +kernel
theorem dX9_pushed_110 : decode cX9_pushed 110 = .ok (.ior, 1) := by decide +kernel
theorem dX9_pushed_111 : decode cX9_pushed 111 = .ok (.istore 4, 2) := by decide +kernel
theorem dX9_pushed_113 : decode cX9_pushed 113 = .ok (.iinc 5 1, 3) := by decide +kernel
theorem dX9_pushed_116 : decode cX9_pushed 116 = .ok (.goto (-38), 3) := by decide +kernel
theorem dX9_pushed_119 : decode cX9_pushed 119 = .ok (.iload 4, 2) := by decide +kernel
theorem dX9_pushed_121 : decode cX9_pushed 121 = .ok (.ireturn, 1) := by decide +kernel
theorem dX9_shape_0 : decode cX9_shape 0 = .ok (.iconst 0, 1) := by decide +kernel
theorem dX9_shape_1 : decode cX9_shape 1 = .ok (.istore_n 2, 1) := by decide +kernel
theorem dX9_shape_2 : decode cX9_shape 2 = .ok (.iconst 0, 1) := by decide +kernel
theorem dX9_shape_3 : decode cX9_shape 3 = .ok (.istore_n 3, 1) := by decide +kernel
theorem dX9_shape_4 : decode cX9_shape 4 = .ok (.iload_n 3, 1) := by decide +kernel
theorem dX9_shape_5 : decode cX9_shape 5 = .ok (.aload_n 0, 1) := by decide +kernel
theorem dX9_shape_6 : decode cX9_shape 6 = .ok (.getfield 155, 3) := by decide +kernel
theorem dX9_shape_9 : decode cX9_shape 9 = .ok (.if_icmp .ge 41, 3) := by decide +kernel
theorem dX9_shape_12 : decode cX9_shape 12 = .ok (.iload_n 2, 1) := by decide +kernel
theorem dX9_shape_13 : decode cX9_shape 13 = .ok (.iload_n 1, 1) := by decide +kernel
theorem dX9_shape_14 : decode cX9_shape 14 = .ok (.iload_n 3, 1) := by decide +kernel
theorem dX9_shape_15 : decode cX9_shape 15 = .ok (.invokestatic 170, 3) := by decide +kernel
theorem dX9_shape_18 : decode cX9_shape 18 = .ok (.ifCond .eq 23, 3) := by decide +kernel
theorem dX9_shape_21 : decode cX9_shape 21 = .ok (.iconst 1, 1) := by decide +kernel
theorem dX9_shape_22 : decode cX9_shape 22 = .ok (.iconst 4, 1) := by decide +kernel
theorem dX9_shape_23 : decode cX9_shape 23 = .ok (.iload_n 3, 1) := by decide +kernel
theorem dX9_shape_24 : decode cX9_shape 24 = .ok (.aload_n 0, 1) := by decide +kernel
theorem dX9_shape_25 : decode cX9_shape 25 = .ok (.getfield 158, 3) := by decide +kernel
theorem dX9_shape_28 : decode cX9_shape 28 = .ok (.idiv, 1) := by decide +kernel
theorem dX9_shape_29 : decode cX9_shape 29 = .ok (.imul, 1) := by decide +kernel
theorem dX9_shape_30 : decode cX9_shape 30 = .ok (.iload_n 3, 1) := by decide +kernel
theorem dX9_shape_31 : decode cX9_shape 31 = .ok (.aload_n 0, 1) := by decide +kernel
theorem dX9_shape_32 : decode cX9_shape 32 = .ok (.getfield 158, 3) := by decide +kernel
theorem dX9_shape_35 : decode cX9_shape 35 = .ok (.irem, 1) := by decide +kernel
theorem dX9_shape_36 : decode cX9_shape 36 = .ok (.iadd, 1) := by decide +kernel
theorem dX9_shape_37 : decode cX9_shape 37 = .ok (.ishl, 1) := by decide +kernel
theorem dX9_shape_38 : decode cX9_shape 38 = .ok (.goto 4, 3) := by decide +kernel
theorem dX9_shape_41 : decode cX9_shape 41 = .ok (.iconst 0, 1) := by decide +kernel
theorem dX9_shape_42 : decode cX9_shape 42 = .ok (.ior, 1) := by decide +kernel
theorem dX9_shape_43 : decode cX9_shape 43 = .ok (.istore_n 2, 1) := by decide +kernel
theorem dX9_shape_44 : decode cX9_shape 44 = .ok (.iinc 3 1, 3) := by decide +kernel
theorem dX9_shape_47 : decode cX9_shape 47 = .ok (.goto (-43), 3) := by decide +kernel
theorem dX9_shape_50 : decode cX9_shape 50 = .ok (.aload_n 0, 1) := by decide +kernel
theorem dX9_shape_51 : decode cX9_shape 51 = .ok (.iload_n 2, 1) := by decide +kernel
theorem dX9_shape_52 : decode cX9_shape 52 = .ok (.invokevirtual 221, 3) := by decide +kernel
theorem dX9_shape_55 : decode cX9_shape 55 = .ok (.ireturn, 1) := by decide +kernel
theorem dX9_quarter_0 : decode cX9_quarter 0 = .ok (.iconst 0, 1) := by decide +kernel
theorem dX9_quarter_1 : decode cX9_quarter 1 = .ok (.istore_n 2, 1) := by decide +kernel
theorem dX9_quarter_2 : decode cX9_quarter 2 = .ok (.iconst 0, 1) := by decide +kernel
theorem dX9_quarter_3 : decode cX9_quarter 3 = .ok (.istore_n 3, 1) := by decide +kernel
theorem dX9_quarter_4 : decode cX9_quarter 4 = .ok (.iload_n 3, 1) := by decide +kernel
theorem dX9_quarter_5 : decode cX9_quarter 5 = .ok (.bipush 16, 2) := by decide +kernel
theorem dX9_quarter_7 : decode cX9_quarter 7 = .ok (.if_icmp .ge 37, 3) := by decide +kernel
theorem dX9_quarter_10 : decode cX9_quarter 10 = .ok (.iload_n 2, 1) := by decide +kernel
theorem dX9_quarter_11 : decode cX9_quarter 11 = .ok (.iload_n 1, 1) := by decide +kernel
theorem dX9_quarter_12 : decode cX9_quarter 12 = .ok (.iload_n 3, 1) := by decide +kernel
theorem dX9_quarter_13 : decode cX9_quarter 13 = .ok (.invokestatic 170, 3) := by decide +kernel
theorem dX9_quarter_16 : decode cX9_quarter 16 = .ok (.ifCond .eq 19, 3) := by decide +kernel
theorem dX9_quarter_19 : decode cX9_quarter 19 = .ok (.iconst 1, 1) := by decide +kernel
theorem dX9_quarter_20 : decode cX9_quarter 20 = .ok (.iconst 4, 1) := by decide +kernel
theorem dX9_quarter_21 : decode cX9_quarter 21 = .ok (.iload_n 3, 1) := by decide +kernel
theorem dX9_quarter_22 : decode cX9_quarter 22 = .ok (.iconst 4, 1) := by decide +kernel
theorem dX9_quarter_23 : decode cX9_quarter 23 = .ok (.irem, 1) := by decide +kernel
theorem dX9_quarter_24 : decode cX9_quarter 24 = .ok (.imul, 1) := by decide +kernel
theorem dX9_quarter_25 : decode cX9_quarter 25 = .ok (.iconst 3, 1) := by decide +kernel
theorem dX9_quarter_26 : decode cX9_quarter 26 = .ok (.iadd, 1) := by decide +kernel
theorem dX9_quarter_27 : decode cX9_quarter 27 = .ok (.iload_n 3, 1) := by decide +kernel
theorem dX9_quarter_28 : decode cX9_quarter 28 = .ok (.iconst 4, 1) := by decide +kernel
theorem dX9_quarter_29 : decode cX9_quarter 29 = .ok (.idiv, 1) := by decide +kernel
theorem dX9_quarter_30 : decode cX9_quarter 30 = .ok (.isub, 1) := by decide +kernel
theorem dX9_quarter_31 : decode cX9_quarter 31 = .ok (.ishl, 1) := by decide +kernel
theorem dX9_quarter_32 : decode cX9_quarter 32 = .ok (.goto 4, 3) := by decide +kernel
theorem dX9_quarter_35 : decode cX9_quarter 35 = .ok (.iconst 0, 1) := by decide +kernel
theorem dX9_quarter_36 : decode cX9_quarter 36 = .ok (.ior, 1) := by decide +kernel
theorem dX9_quarter_37 : decode cX9_quarter 37 = .ok (.istore_n 2, 1) := by decide +kernel
theorem dX9_quarter_38 : decode cX9_quarter 38 = .ok (.iinc 3 1, 3) := by decide +kernel
theorem dX9_quarter_41 : decode cX9_quarter 41 = .ok (.goto (-37), 3) := by decide +kernel
theorem dX9_quarter_44 : decode cX9_quarter 44 = .ok (.aload_n 0, 1) := by decide +kernel
theorem dX9_quarter_45 : decode cX9_quarter 45 = .ok (.iload_n 2, 1) := by decide +kernel
theorem dX9_quarter_46 : decode cX9_quarter 46 = .ok (.invokevirtual 221, 3) := by decide +kernel
theorem dX9_quarter_49 : decode cX9_quarter 49 = .ok (.ireturn, 1) := by decide +kernel
theorem dX9_areTurned_0 : decode cX9_areTurned 0 = .ok (.aload_n 0, 1) := by decide +kernel
theorem dX9_areTurned_1 : decode cX9_areTurned 1 = .ok (.iload_n 1, 1) := by decide +kernel
theorem dX9_areTurned_2 : decode cX9_areTurned 2 = .ok (.invokevirtual 224, 3) := by decide +kernel
theorem dX9_areTurned_5 : decode cX9_areTurned 5 = .ok (.istore_n 3, 1) := by decide +kernel
theorem dX9_areTurned_6 : decode cX9_areTurned 6 = .ok (.aload_n 0, 1) := by decide +kernel
theorem dX9_areTurned_7 : decode cX9_areTurned 7 = .ok (.iload_n 2, 1) := by decide +kernel
theorem dX9_areTurned_8 : decode cX9_areTurned 8 = .ok (.invokevirtual 224, 3) := by decide +kernel
theorem dX9_areTurned_11 : decode cX9_areTurned 11 = .ok (.istore 4, 2) := by decide +kernel
theorem dX9_areTurned_13 : decode cX9_areTurned 13 = .ok (.iload_n 3, 1) := by decide +kernel
theorem dX9_areTurned_14 : decode cX9_areTurned 14 = .ok (.iload 4, 2) := by decide +kernel
theorem dX9_areTurned_16 : decode cX9_areTurned 16 = .ok (.if_icmp .ne 7, 3) := by decide +kernel
theorem dX9_areTurned_19 : decode cX9_areTurned 19 = .ok (.iconst 1, 1) := by decide +kernel
theorem dX9_areTurned_20 : decode cX9_areTurned 20 = .ok (.goto 4, 3) := by decide +kernel
theorem dX9_areTurned_23 : decode cX9_areTurned 23 = .ok (.iconst 0, 1) := by decide +kernel
theorem dX9_areTurned_24 : decode cX9_areTurned 24 = .ok (.istore 5, 2) := by decide +kernel
theorem dX9_areTurned_26 : decode cX9_areTurned 26 = .ok (.iconst 0, 1) := by decide +kernel
theorem dX9_areTurned_27 : decode cX9_areTurned 27 = .ok (.istore 6, 2) := by decide +kernel
theorem dX9_areTurned_29 : decode cX9_areTurned 29 = .ok (.iload 6, 2) := by decide +kernel
theorem dX9_areTurned_31 : decode cX9_areTurned 31 = .ok (.iconst 3, 1) := by decide +kernel
theorem dX9_areTurned_32 : decode cX9_areTurned 32 = .ok (.if_icmp .ge 33, 3) := by decide +kernel
theorem dX9_areTurned_35 : decode cX9_areTurned 35 = .ok (.aload_n 0, 1) := by decide +kernel
theorem dX9_areTurned_36 : decode cX9_areTurned 36 = .ok (.iload_n 3, 1) := by decide +kernel
theorem dX9_areTurned_37 : decode cX9_areTurned 37 = .ok (.invokevirtual 227, 3) := by decide +kernel
theorem dX9_areTurned_40 : decode cX9_areTurned 40 = .ok (.istore_n 3, 1) := by decide +kernel
theorem dX9_areTurned_41 : decode cX9_areTurned 41 = .ok (.iload 5, 2) := by decide +kernel
theorem dX9_areTurned_43 : decode cX9_areTurned 43 = .ok (.ifCond .ne 9, 3) := by decide +kernel
theorem dX9_areTurned_46 : decode cX9_areTurned 46 = .ok (.iload_n 3, 1) := by decide +kernel
theorem dX9_areTurned_47 : decode cX9_areTurned 47 = .ok (.iload 4, 2) := by decide +kernel
theorem dX9_areTurned_49 : decode cX9_areTurned 49 = .ok (.if_icmp .ne 7, 3) := by decide +kernel
theorem dX9_areTurned_52 : decode cX9_areTurned 52 = .ok (.iconst 1, 1) := by decide +kernel
theorem dX9_areTurned_53 : decode cX9_areTurned 53 = .ok (.goto 4, 3) := by decide +kernel
theorem dX9_areTurned_56 : decode cX9_areTurned 56 = .ok (.iconst 0, 1) := by decide +kernel
theorem dX9_areTurned_57 : decode cX9_areTurned 57 = .ok (.istore 5, 2) := by decide +kernel
theorem dX9_areTurned_59 : decode cX9_areTurned 59 = .ok (.iinc 6 1, 3) := by decide +kernel
theorem dX9_areTurned_62 : decode cX9_areTurned 62 = .ok (.goto (-33), 3) := by decide +kernel
theorem dX9_areTurned_65 : decode cX9_areTurned 65 = .ok (.iload 5, 2) := by decide +kernel
theorem dX9_areTurned_67 : decode cX9_areTurned 67 = .ok (.ireturn, 1) := by decide +kernel
theorem dX9_areSame_0 : decode cX9_areSame 0 = .ok (.iload_n 1, 1) := by decide +kernel
theorem dX9_areSame_1 : decode cX9_areSame 1 = .ok (.tableswitch 120 0 4 #[35, 49, 62, 92, 83], 35) := by decide +kernel
theorem dX9_areSame_36 : decode cX9_areSame 36 = .ok (.iload 4, 2) := by decide +kernel
theorem dX9_areSame_38 : decode cX9_areSame 38 = .ok (.iload 5, 2) := by decide +kernel
theorem dX9_areSame_40 : decode cX9_areSame 40 = .ok (.iand, 1) := by decide +kernel
theorem dX9_areSame_41 : decode cX9_areSame 41 = .ok (.ifCond .eq 7, 3) := by decide +kernel
theorem dX9_areSame_44 : decode cX9_areSame 44 = .ok (.iconst 1, 1) := by decide +kernel
theorem dX9_areSame_45 : decode cX9_areSame 45 = .ok (.goto 4, 3) := by decide +kernel
theorem dX9_areSame_48 : decode cX9_areSame 48 = .ok (.iconst 0, 1) := by decide +kernel
theorem dX9_areSame_49 : decode cX9_areSame 49 = .ok (.ireturn, 1) := by decide +kernel
theorem dX9_areSame_50 : decode cX9_areSame 50 = .ok (.iload 4, 2) := by decide +kernel
theorem dX9_areSame_52 : decode cX9_areSame 52 = .ok (.iload 5, 2) := by decide +kernel
theorem dX9_areSame_54 : decode cX9_areSame 54 = .ok (.if_icmp .ne 7, 3) := by decide +kernel
theorem dX9_areSame_57 : decode cX9_areSame 57 = .ok (.iconst 1, 1) := by decide +kernel
theorem dX9_areSame_58 : decode cX9_areSame 58 = .ok (.goto 4, 3) := by decide +kernel
theorem dX9_areSame_61 : decode cX9_areSame 61 = .ok (.iconst 0, 1) := by decide +kernel
theorem dX9_areSame_62 : decode cX9_areSame 62 = .ok (.ireturn, 1) := by decide +kernel
theorem dX9_areSame_63 : decode cX9_areSame 63 = .ok (.aload_n 0, 1) := by decide +kernel
theorem dX9_areSame_64 : decode cX9_areSame 64 = .ok (.iload 4, 2) := by decide +kernel
theorem dX9_areSame_66 : decode cX9_areSame 66 = .ok (.invokevirtual 224, 3) := by decide +kernel
theorem dX9_areSame_69 : decode cX9_areSame 69 = .ok (.aload_n 0, 1) := by decide +kernel
theorem dX9_areSame_70 : decode cX9_areSame 70 = .ok (.iload 5, 2) := by decide +kernel
theorem dX9_areSame_72 : decode cX9_areSame 72 = .ok (.invokevirtual 224, 3) := by decide +kernel
theorem dX9_areSame_75 : decode cX9_areSame 75 = .ok (.if_icmp .ne 7, 3) := by decide +kernel
theorem dX9_areSame_78 : decode cX9_areSame 78 = .ok (.iconst 1, 1) := by decide +kernel
theorem dX9_areSame_79 : decode cX9_areSame 79 = .ok (.goto 4, 3) := by decide +kernel
theorem dX9_areSame_82 : decode cX9_areSame 82 = .ok (.iconst 0, 1) := by decide +kernel
theorem dX9_areSame_83 : decode cX9_areSame 83 = .ok (.ireturn, 1) := by decide +kernel
theorem dX9_areSame_84 : decode cX9_areSame 84 = .ok (.aload_n 0, 1) := by decide +kernel
theorem dX9_areSame_85 : decode cX9_areSame 85 = .ok (.iload 4, 2) := by decide +kernel
theorem dX9_areSame_87 : decode cX9_areSame 87 = .ok (.iload 5, 2) := by decide +kernel
theorem dX9_areSame_89 : decode cX9_areSame 89 = .ok (.invokevirtual 230, 3) := by decide +kernel
theorem dX9_areSame_92 : decode cX9_areSame 92 = .ok (.ireturn, 1) := by decide +kernel
theorem dX9_areSame_93 : decode cX9_areSame 93 = .ok (.aload_n 0, 1) := by decide +kernel
theorem dX9_areSame_94 : decode cX9_areSame 94 = .ok (.aload_n 2, 1) := by decide +kernel
theorem dX9_areSame_95 : decode cX9_areSame 95 = .ok (.iload_n 3, 1) := by decide +kernel
theorem dX9_areSame_96 : decode cX9_areSame 96 = .ok (.iload 4, 2) := by decide +kernel
theorem dX9_areSame_98 : decode cX9_areSame 98 = .ok (.invokevirtual 202, 3) := by decide +kernel
theorem dX9_areSame_101 : decode cX9_areSame 101 = .ok (.aload_n 0, 1) := by decide +kernel
theorem dX9_areSame_102 : decode cX9_areSame 102 = .ok (.aload_n 0, 1) := by decide +kernel
theorem dX9_areSame_103 : decode cX9_areSame 103 = .ok (.getfield 32, 3) := by decide +kernel
theorem dX9_areSame_106 : decode cX9_areSame 106 = .ok (.iconst 0, 1) := by decide +kernel
theorem dX9_areSame_107 : decode cX9_areSame 107 = .ok (.iload 5, 2) := by decide +kernel
theorem dX9_areSame_109 : decode cX9_areSame 109 = .ok (.invokevirtual 202, 3) := by decide +kernel
theorem dX9_areSame_112 : decode cX9_areSame 112 = .ok (.if_icmp .ne 7, 3) := by decide +kernel
theorem dX9_areSame_115 : decode cX9_areSame 115 = .ok (.iconst 1, 1) := by decide +kernel
theorem dX9_areSame_116 : decode cX9_areSame 116 = .ok (.goto 4, 3) := by decide +kernel
theorem dX9_areSame_119 : decode cX9_areSame 119 = .ok (.iconst 0, 1) := by decide +kernel
theorem dX9_areSame_120 : decode cX9_areSame 120 = .ok (.ireturn, 1) := by decide +kernel
theorem dX9_areSame_121 : decode cX9_areSame 121 = .ok (.aload_n 0, 1) := by decide +kernel
theorem dX9_areSame_122 : decode cX9_areSame 122 = .ok (.aload_n 2, 1) := by decide +kernel
theorem dX9_areSame_123 : decode cX9_areSame 123 = .ok (.iload_n 3, 1) := by decide +kernel
theorem dX9_areSame_124 : decode cX9_areSame 124 = .ok (.iload 4, 2) := by decide +kernel
theorem dX9_areSame_126 : decode cX9_areSame 126 = .ok (.invokevirtual 202, 3) := by decide +kernel
theorem dX9_areSame_129 : decode cX9_areSame 129 = .ok (.aload_n 0, 1) := by decide +kernel
theorem dX9_areSame_130 : decode cX9_areSame 130 = .ok (.aload_n 0, 1) := by decide +kernel
theorem dX9_areSame_131 : decode cX9_areSame 131 = .ok (.getfield 32, 3) := by decide +kernel
theorem dX9_areSame_134 : decode cX9_areSame 134 = .ok (.iconst 0, 1) := by decide +kernel
theorem dX9_areSame_135 : decode cX9_areSame 135 = .ok (.iload 5, 2) := by decide +kernel
theorem dX9_areSame_137 : decode cX9_areSame 137 = .ok (.invokevirtual 202, 3) := by decide +kernel
theorem dX9_areSame_140 : decode cX9_areSame 140 = .ok (.if_icmp .ne 29, 3) := by decide +kernel
theorem dX9_areSame_143 : decode cX9_areSame 143 = .ok (.aload_n 0, 1) := by decide +kernel
theorem dX9_areSame_144 : decode cX9_areSame 144 = .ok (.aload_n 2, 1) := by decide +kernel
theorem dX9_areSame_145 : decode cX9_areSame 145 = .ok (.iload_n 3, 1) := by decide +kernel
theorem dX9_areSame_146 : decode cX9_areSame 146 = .ok (.iload 4, 2) := by decide +kernel
theorem dX9_areSame_148 : decode cX9_areSame 148 = .ok (.invokevirtual 206, 3) := by decide +kernel
theorem dX9_areSame_151 : decode cX9_areSame 151 = .ok (.aload_n 0, 1) := by decide +kernel
theorem dX9_areSame_152 : decode cX9_areSame 152 = .ok (.aload_n 0, 1) := by decide +kernel
theorem dX9_areSame_153 : decode cX9_areSame 153 = .ok (.getfield 32, 3) := by decide +kernel
theorem dX9_areSame_156 : decode cX9_areSame 156 = .ok (.iconst 0, 1) := by decide +kernel
theorem dX9_areSame_157 : decode cX9_areSame 157 = .ok (.iload 5, 2) := by decide +kernel
theorem dX9_areSame_159 : decode cX9_areSame 159 = .ok (.invokevirtual 206, 3) := by decide +kernel
theorem dX9_areSame_162 : decode cX9_areSame 162 = .ok (.if_icmp .ne 7, 3) := by decide +kernel
theorem dX9_areSame_165 : decode cX9_areSame 165 = .ok (.iconst 1, 1) := by decide +kernel
theorem dX9_areSame_166 : decode cX9_areSame 166 = .ok (.goto 4, 3) := by decide +kernel
theorem dX9_areSame_169 : decode cX9_areSame 169 = .ok (.iconst 0, 1) := by decide +kernel
theorem dX9_areSame_170 : decode cX9_areSame 170 = .ok (.ireturn, 1) := by decide +kernel
theorem dX9_pairsBy_0 : decode cX9_pairsBy 0 = .ok (.iconst 0, 1) := by decide +kernel
theorem dX9_pairsBy_1 : decode cX9_pairsBy 1 = .ok (.istore_n 2, 1) := by decide +kernel
theorem dX9_pairsBy_2 : decode cX9_pairsBy 2 = .ok (.iconst 0, 1) := by decide +kernel
theorem dX9_pairsBy_3 : decode cX9_pairsBy 3 = .ok (.istore_n 3, 1) := by decide +kernel
theorem dX9_pairsBy_4 : decode cX9_pairsBy 4 = .ok (.iload_n 3, 1) := by decide +kernel
theorem dX9_pairsBy_5 : decode cX9_pairsBy 5 = .ok (.aload_n 0, 1) := by decide +kernel
theorem dX9_pairsBy_6 : decode cX9_pairsBy 6 = .ok (.getfield 187, 3) := by decide +kernel
theorem dX9_pairsBy_9 : decode cX9_pairsBy 9 = .ok (.if_icmp .ge 63, 3) := by decide +kernel
theorem dX9_pairsBy_12 : decode cX9_pairsBy 12 = .ok (.iload_n 3, 1) := by decide +kernel
theorem dX9_pairsBy_13 : decode cX9_pairsBy 13 = .ok (.iconst 1, 1) := by decide +kernel
theorem dX9_pairsBy_14 : decode cX9_pairsBy 14 = .ok (.iadd, 1) := by decide +kernel
theorem dX9_pairsBy_15 : decode cX9_pairsBy 15 = .ok (.istore 4, 2) := by decide +kernel
theorem dX9_pairsBy_17 : decode cX9_pairsBy 17 = .ok (.iload 4, 2) := by decide +kernel
theorem dX9_pairsBy_19 : decode cX9_pairsBy 19 = .ok (.aload_n 0, 1) := by decide +kernel
theorem dX9_pairsBy_20 : decode cX9_pairsBy 20 = .ok (.getfield 187, 3) := by decide +kernel
theorem dX9_pairsBy_23 : decode cX9_pairsBy 23 = .ok (.if_icmp .ge 43, 3) := by decide +kernel
theorem dX9_pairsBy_26 : decode cX9_pairsBy 26 = .ok (.iload_n 2, 1) := by decide +kernel
theorem dX9_pairsBy_27 : decode cX9_pairsBy 27 = .ok (.aload_n 0, 1) := by decide +kernel
theorem dX9_pairsBy_28 : decode cX9_pairsBy 28 = .ok (.iload_n 1, 1) := by decide +kernel
theorem dX9_pairsBy_29 : decode cX9_pairsBy 29 = .ok (.aload_n 0, 1) := by decide +kernel
theorem dX9_pairsBy_30 : decode cX9_pairsBy 30 = .ok (.getfield 32, 3) := by decide +kernel
theorem dX9_pairsBy_33 : decode cX9_pairsBy 33 = .ok (.iconst 0, 1) := by decide +kernel
theorem dX9_pairsBy_34 : decode cX9_pairsBy 34 = .ok (.aload_n 0, 1) := by decide +kernel
theorem dX9_pairsBy_35 : decode cX9_pairsBy 35 = .ok (.getfield 44, 3) := by decide +kernel
theorem dX9_pairsBy_38 : decode cX9_pairsBy 38 = .ok (.iload_n 3, 1) := by decide +kernel
theorem dX9_pairsBy_39 : decode cX9_pairsBy 39 = .ok (.iaload, 1) := by decide +kernel
theorem dX9_pairsBy_40 : decode cX9_pairsBy 40 = .ok (.aload_n 0, 1) := by decide +kernel
theorem dX9_pairsBy_41 : decode cX9_pairsBy 41 = .ok (.getfield 44, 3) := by decide +kernel
theorem dX9_pairsBy_44 : decode cX9_pairsBy 44 = .ok (.iload 4, 2) := by decide +kernel
theorem dX9_pairsBy_46 : decode cX9_pairsBy 46 = .ok (.iaload, 1) := by decide +kernel
theorem dX9_pairsBy_47 : decode cX9_pairsBy 47 = .ok (.invokevirtual 233, 3) := by decide +kernel
theorem dX9_pairsBy_50 : decode cX9_pairsBy 50 = .ok (.ifCond .eq 7, 3) := by decide +kernel
theorem dX9_pairsBy_53 : decode cX9_pairsBy 53 = .ok (.iconst 1, 1) := by decide +kernel
theorem dX9_pairsBy_54 : decode cX9_pairsBy 54 = .ok (.goto 4, 3) := by decide +kernel
theorem dX9_pairsBy_57 : decode cX9_pairsBy 57 = .ok (.iconst 0, 1) := by decide +kernel
theorem dX9_pairsBy_58 : decode cX9_pairsBy 58 = .ok (.iadd, 1) := by decide +kernel
theorem dX9_pairsBy_59 : decode cX9_pairsBy 59 = .ok (.istore_n 2, 1) := by decide +kernel
theorem dX9_pairsBy_60 : decode cX9_pairsBy 60 = .ok (.iinc 4 1, 3) := by decide +kernel
theorem dX9_pairsBy_63 : decode cX9_pairsBy 63 = .ok (.goto (-46), 3) := by decide +kernel
theorem dX9_pairsBy_66 : decode cX9_pairsBy 66 = .ok (.iinc 3 1, 3) := by decide +kernel
theorem dX9_pairsBy_69 : decode cX9_pairsBy 69 = .ok (.goto (-65), 3) := by decide +kernel
theorem dX9_pairsBy_72 : decode cX9_pairsBy 72 = .ok (.iload_n 2, 1) := by decide +kernel
theorem dX9_pairsBy_73 : decode cX9_pairsBy 73 = .ok (.ireturn, 1) := by decide +kernel
theorem dX9_marked_0 : decode cX9_marked 0 = .ok (.aload_n 0, 1) := by decide +kernel
theorem dX9_marked_1 : decode cX9_marked 1 = .ok (.invokevirtual 190, 3) := by decide +kernel
theorem dX9_marked_4 : decode cX9_marked 4 = .ok (.iconst 0, 1) := by decide +kernel
theorem dX9_marked_5 : decode cX9_marked 5 = .ok (.istore_n 3, 1) := by decide +kernel
theorem dX9_marked_6 : decode cX9_marked 6 = .ok (.iconst 0, 1) := by decide +kernel
theorem dX9_marked_7 : decode cX9_marked 7 = .ok (.istore 4, 2) := by decide +kernel
theorem dX9_marked_9 : decode cX9_marked 9 = .ok (.iconst 0, 1) := by decide +kernel
theorem dX9_marked_10 : decode cX9_marked 10 = .ok (.istore 5, 2) := by decide +kernel
theorem dX9_marked_12 : decode cX9_marked 12 = .ok (.iconst 0, 1) := by decide +kernel
theorem dX9_marked_13 : decode cX9_marked 13 = .ok (.istore 6, 2) := by decide +kernel
theorem dX9_marked_15 : decode cX9_marked 15 = .ok (.iload 6, 2) := by decide +kernel
theorem dX9_marked_17 : decode cX9_marked 17 = .ok (.aload_n 0, 1) := by decide +kernel
theorem dX9_marked_18 : decode cX9_marked 18 = .ok (.getfield 187, 3) := by decide +kernel
theorem dX9_marked_21 : decode cX9_marked 21 = .ok (.if_icmp .ge 68, 3) := by decide +kernel
theorem dX9_marked_24 : decode cX9_marked 24 = .ok (.iload_n 3, 1) := by decide +kernel
theorem dX9_marked_25 : decode cX9_marked 25 = .ok (.aload_n 0, 1) := by decide +kernel
theorem dX9_marked_26 : decode cX9_marked 26 = .ok (.getfield 44, 3) := by decide +kernel
theorem dX9_marked_29 : decode cX9_marked 29 = .ok (.iload 6, 2) := by decide +kernel
theorem dX9_marked_31 : decode cX9_marked 31 = .ok (.iaload, 1) := by decide +kernel
theorem dX9_marked_32 : decode cX9_marked 32 = .ok (.invokestatic 199, 3) := by decide +kernel
theorem dX9_marked_35 : decode cX9_marked 35 = .ok (.invokestatic 193, 3) := by decide +kernel
theorem dX9_marked_38 : decode cX9_marked 38 = .ok (.istore_n 3, 1) := by decide +kernel
theorem dX9_marked_39 : decode cX9_marked 39 = .ok (.iload 4, 2) := by decide +kernel
theorem dX9_marked_41 : decode cX9_marked 41 = .ok (.aload_n 0, 1) := by decide +kernel
theorem dX9_marked_42 : decode cX9_marked 42 = .ok (.aload_n 0, 1) := by decide +kernel
theorem dX9_marked_43 : decode cX9_marked 43 = .ok (.getfield 32, 3) := by decide +kernel
theorem dX9_marked_46 : decode cX9_marked 46 = .ok (.iconst 0, 1) := by decide +kernel
theorem dX9_marked_47 : decode cX9_marked 47 = .ok (.aload_n 0, 1) := by decide +kernel
theorem dX9_marked_48 : decode cX9_marked 48 = .ok (.getfield 44, 3) := by decide +kernel
theorem dX9_marked_51 : decode cX9_marked 51 = .ok (.iload 6, 2) := by decide +kernel
theorem dX9_marked_53 : decode cX9_marked 53 = .ok (.iaload, 1) := by decide +kernel
theorem dX9_marked_54 : decode cX9_marked 54 = .ok (.invokevirtual 202, 3) := by decide +kernel
theorem dX9_marked_57 : decode cX9_marked 57 = .ok (.iadd, 1) := by decide +kernel
theorem dX9_marked_58 : decode cX9_marked 58 = .ok (.istore 4, 2) := by decide +kernel
theorem dX9_marked_60 : decode cX9_marked 60 = .ok (.iload 5, 2) := by decide +kernel
theorem dX9_marked_62 : decode cX9_marked 62 = .ok (.aload_n 0, 1) := by decide +kernel
theorem dX9_marked_63 : decode cX9_marked 63 = .ok (.aload_n 0, 1) := by decide +kernel
theorem dX9_marked_64 : decode cX9_marked 64 = .ok (.getfield 32, 3) := by decide +kernel
theorem dX9_marked_67 : decode cX9_marked 67 = .ok (.iconst 0, 1) := by decide +kernel
theorem dX9_marked_68 : decode cX9_marked 68 = .ok (.aload_n 0, 1) := by decide +kernel
theorem dX9_marked_69 : decode cX9_marked 69 = .ok (.getfield 44, 3) := by decide +kernel
theorem dX9_marked_72 : decode cX9_marked 72 = .ok (.iload 6, 2) := by decide +kernel
theorem dX9_marked_74 : decode cX9_marked 74 = .ok (.iaload, 1) := by decide +kernel
theorem dX9_marked_75 : decode cX9_marked 75 = .ok (.invokevirtual 206, 3) := by decide +kernel
theorem dX9_marked_78 : decode cX9_marked 78 = .ok (.invokestatic 193, 3) := by decide +kernel
theorem dX9_marked_81 : decode cX9_marked 81 = .ok (.istore 5, 2) := by decide +kernel
theorem dX9_marked_83 : decode cX9_marked 83 = .ok (.iinc 6 1, 3) := by decide +kernel
theorem dX9_marked_86 : decode cX9_marked 86 = .ok (.goto (-71), 3) := by decide +kernel
theorem dX9_marked_89 : decode cX9_marked 89 = .ok (.iload_n 2, 1) := by decide +kernel
theorem dX9_marked_90 : decode cX9_marked 90 = .ok (.tableswitch 58 1 4 #[30, 32, 43, 46], 30) := by decide +kernel
theorem dX9_marked_120 : decode cX9_marked 120 = .ok (.iload_n 3, 1) := by decide +kernel
theorem dX9_marked_121 : decode cX9_marked 121 = .ok (.ireturn, 1) := by decide +kernel
theorem dX9_marked_122 : decode cX9_marked 122 = .ok (.aload_n 0, 1) := by decide +kernel
theorem dX9_marked_123 : decode cX9_marked 123 = .ok (.aload_n 0, 1) := by decide +kernel
theorem dX9_marked_124 : decode cX9_marked 124 = .ok (.getfield 38, 3) := by decide +kernel
theorem dX9_marked_127 : decode cX9_marked 127 = .ok (.iload_n 1, 1) := by decide +kernel
theorem dX9_marked_128 : decode cX9_marked 128 = .ok (.iaload, 1) := by decide +kernel
theorem dX9_marked_129 : decode cX9_marked 129 = .ok (.invokevirtual 237, 3) := by decide +kernel
theorem dX9_marked_132 : decode cX9_marked 132 = .ok (.ireturn, 1) := by decide +kernel
theorem dX9_marked_133 : decode cX9_marked 133 = .ok (.iload 4, 2) := by decide +kernel
theorem dX9_marked_135 : decode cX9_marked 135 = .ok (.ireturn, 1) := by decide +kernel
theorem dX9_marked_136 : decode cX9_marked 136 = .ok (.aload_n 0, 1) := by decide +kernel
theorem dX9_marked_137 : decode cX9_marked 137 = .ok (.iconst 4, 1) := by decide +kernel
theorem dX9_marked_138 : decode cX9_marked 138 = .ok (.invokevirtual 237, 3) := by decide +kernel
theorem dX9_marked_141 : decode cX9_marked 141 = .ok (.aload_n 0, 1) := by decide +kernel
theorem dX9_marked_142 : decode cX9_marked 142 = .ok (.iconst 2, 1) := by decide +kernel
theorem dX9_marked_143 : decode cX9_marked 143 = .ok (.invokevirtual 237, 3) := by decide +kernel
theorem dX9_marked_146 : decode cX9_marked 146 = .ok (.isub, 1) := by decide +kernel
theorem dX9_marked_147 : decode cX9_marked 147 = .ok (.ireturn, 1) := by decide +kernel
theorem dX9_marked_148 : decode cX9_marked 148 = .ok (.iload 5, 2) := by decide +kernel
theorem dX9_marked_150 : decode cX9_marked 150 = .ok (.ireturn, 1) := by decide +kernel
theorem dX9_isA_0 : decode cX9_isA 0 = .ok (.aload_n 0, 1) := by decide +kernel
theorem dX9_isA_1 : decode cX9_isA 1 = .ok (.getfield 38, 3) := by decide +kernel
theorem dX9_isA_4 : decode cX9_isA 4 = .ok (.iload_n 1, 1) := by decide +kernel
theorem dX9_isA_5 : decode cX9_isA 5 = .ok (.iaload, 1) := by decide +kernel
theorem dX9_isA_6 : decode cX9_isA 6 = .ok (.istore_n 3, 1) := by decide +kernel
theorem dX9_isA_7 : decode cX9_isA 7 = .ok (.iload_n 3, 1) := by decide +kernel
theorem dX9_isA_8 : decode cX9_isA 8 = .ok (.iload_n 2, 1) := by decide +kernel
theorem dX9_isA_9 : decode cX9_isA 9 = .ok (.if_icmp .eq 38, 3) := by decide +kernel
theorem dX9_isA_12 : decode cX9_isA 12 = .ok (.iload_n 2, 1) := by decide +kernel
theorem dX9_isA_13 : decode cX9_isA 13 = .ok (.iconst 1, 1) := by decide +kernel
theorem dX9_isA_14 : decode cX9_isA 14 = .ok (.if_icmp .ne 13, 3) := by decide +kernel
theorem dX9_isA_17 : decode cX9_isA 17 = .ok (.iload_n 3, 1) := by decide +kernel
theorem dX9_isA_18 : decode cX9_isA 18 = .ok (.iconst 2, 1) := by decide +kernel
theorem dX9_isA_19 : decode cX9_isA 19 = .ok (.if_icmp .eq 28, 3) := by decide +kernel
theorem dX9_isA_22 : decode cX9_isA 22 = .ok (.iload_n 3, 1) := by decide +kernel
theorem dX9_isA_23 : decode cX9_isA 23 = .ok (.iconst 4, 1) := by decide +kernel
theorem dX9_isA_24 : decode cX9_isA 24 = .ok (.if_icmp .eq 23, 3) := by decide +kernel
theorem dX9_isA_27 : decode cX9_isA 27 = .ok (.iload_n 2, 1) := by decide +kernel
theorem dX9_isA_28 : decode cX9_isA 28 = .ok (.iconst 2, 1) := by decide +kernel
theorem dX9_isA_29 : decode cX9_isA 29 = .ok (.if_icmp .ne 8, 3) := by decide +kernel
theorem dX9_isA_32 : decode cX9_isA 32 = .ok (.iload_n 3, 1) := by decide +kernel
theorem dX9_isA_33 : decode cX9_isA 33 = .ok (.iconst 4, 1) := by decide +kernel
theorem dX9_isA_34 : decode cX9_isA 34 = .ok (.if_icmp .eq 13, 3) := by decide +kernel
theorem dX9_isA_37 : decode cX9_isA 37 = .ok (.iload_n 2, 1) := by decide +kernel
theorem dX9_isA_38 : decode cX9_isA 38 = .ok (.iconst 3, 1) := by decide +kernel
theorem dX9_isA_39 : decode cX9_isA 39 = .ok (.if_icmp .ne 12, 3) := by decide +kernel
theorem dX9_isA_42 : decode cX9_isA 42 = .ok (.iload_n 3, 1) := by decide +kernel
theorem dX9_isA_43 : decode cX9_isA 43 = .ok (.iconst 5, 1) := by decide +kernel
theorem dX9_isA_44 : decode cX9_isA 44 = .ok (.if_icmp .ne 7, 3) := by decide +kernel
theorem dX9_isA_47 : decode cX9_isA 47 = .ok (.iconst 1, 1) := by decide +kernel
theorem dX9_isA_48 : decode cX9_isA 48 = .ok (.goto 4, 3) := by decide +kernel
theorem dX9_isA_51 : decode cX9_isA 51 = .ok (.iconst 0, 1) := by decide +kernel
theorem dX9_isA_52 : decode cX9_isA 52 = .ok (.ireturn, 1) := by decide +kernel
theorem dX9_mark_0 : decode cX9_mark 0 = .ok (.aload_n 0, 1) := by decide +kernel
theorem dX9_mark_1 : decode cX9_mark 1 = .ok (.iload_n 1, 1) := by decide +kernel
theorem dX9_mark_2 : decode cX9_mark 2 = .ok (.invokevirtual 218, 3) := by decide +kernel
theorem dX9_mark_5 : decode cX9_mark 5 = .ok (.ifCond .eq 12, 3) := by decide +kernel
theorem dX9_mark_8 : decode cX9_mark 8 = .ok (.iload_n 2, 1) := by decide +kernel
theorem dX9_mark_9 : decode cX9_mark 9 = .ok (.iconst 1, 1) := by decide +kernel
theorem dX9_mark_10 : decode cX9_mark 10 = .ok (.iconst 5, 1) := by decide +kernel
theorem dX9_mark_11 : decode cX9_mark 11 = .ok (.invokestatic 79, 3) := by decide +kernel
theorem dX9_mark_14 : decode cX9_mark 14 = .ok (.ifCond .ne 5, 3) := by decide +kernel
theorem dX9_mark_17 : decode cX9_mark 17 = .ok (.iconst (-1), 1) := by decide +kernel
theorem dX9_mark_18 : decode cX9_mark 18 = .ok (.ireturn, 1) := by decide +kernel
theorem dX9_mark_19 : decode cX9_mark 19 = .ok (.aload_n 0, 1) := by decide +kernel
theorem dX9_mark_20 : decode cX9_mark 20 = .ok (.iload_n 1, 1) := by decide +kernel
theorem dX9_mark_21 : decode cX9_mark 21 = .ok (.iload_n 2, 1) := by decide +kernel
theorem dX9_mark_22 : decode cX9_mark 22 = .ok (.invokevirtual 240, 3) := by decide +kernel
theorem dX9_mark_25 : decode cX9_mark 25 = .ok (.ifCond .eq 12, 3) := by decide +kernel
theorem dX9_mark_28 : decode cX9_mark 28 = .ok (.aload_n 0, 1) := by decide +kernel
theorem dX9_mark_29 : decode cX9_mark 29 = .ok (.iload_n 1, 1) := by decide +kernel
theorem dX9_mark_30 : decode cX9_mark 30 = .ok (.iload_n 2, 1) := by decide +kernel
theorem dX9_mark_31 : decode cX9_mark 31 = .ok (.invokevirtual 243, 3) := by decide +kernel
theorem dX9_mark_34 : decode cX9_mark 34 = .ok (.goto 8, 3) := by decide +kernel
theorem dX9_mark_37 : decode cX9_mark 37 = .ok (.aload_n 0, 1) := by decide +kernel
theorem dX9_mark_38 : decode cX9_mark 38 = .ok (.iconst 3, 1) := by decide +kernel
theorem dX9_mark_39 : decode cX9_mark 39 = .ok (.invokevirtual 87, 3) := by decide +kernel
theorem dX9_mark_42 : decode cX9_mark 42 = .ok (.ireturn, 1) := by decide +kernel
theorem dX9_hole_0 : decode cX9_hole 0 = .ok (.aload_n 0, 1) := by decide +kernel
theorem dX9_hole_1 : decode cX9_hole 1 = .ok (.iload_n 1, 1) := by decide +kernel
theorem dX9_hole_2 : decode cX9_hole 2 = .ok (.invokevirtual 246, 3) := by decide +kernel
theorem dX9_hole_5 : decode cX9_hole 5 = .ok (.ifCond .eq 36, 3) := by decide +kernel
theorem dX9_hole_8 : decode cX9_hole 8 = .ok (.iload_n 2, 1) := by decide +kernel
theorem dX9_hole_9 : decode cX9_hole 9 = .ok (.iconst 0, 1) := by decide +kernel
theorem dX9_hole_10 : decode cX9_hole 10 = .ok (.iconst 4, 1) := by decide +kernel
theorem dX9_hole_11 : decode cX9_hole 11 = .ok (.invokestatic 79, 3) := by decide +kernel
theorem dX9_hole_14 : decode cX9_hole 14 = .ok (.ifCond .eq 27, 3) := by decide +kernel
theorem dX9_hole_17 : decode cX9_hole 17 = .ok (.aload_n 0, 1) := by decide +kernel
theorem dX9_hole_18 : decode cX9_hole 18 = .ok (.aload_n 0, 1) := by decide +kernel
theorem dX9_hole_19 : decode cX9_hole 19 = .ok (.aload_n 0, 1) := by decide +kernel
theorem dX9_hole_20 : decode cX9_hole 20 = .ok (.getfield 32, 3) := by decide +kernel
theorem dX9_hole_23 : decode cX9_hole 23 = .ok (.iconst 0, 1) := by decide +kernel
theorem dX9_hole_24 : decode cX9_hole 24 = .ok (.aload_n 0, 1) := by decide +kernel
theorem dX9_hole_25 : decode cX9_hole 25 = .ok (.getfield 44, 3) := by decide +kernel
theorem dX9_hole_28 : decode cX9_hole 28 = .ok (.iload_n 1, 1) := by decide +kernel
theorem dX9_hole_29 : decode cX9_hole 29 = .ok (.iaload, 1) := by decide +kernel
theorem dX9_hole_30 : decode cX9_hole 30 = .ok (.iload_n 2, 1) := by decide +kernel
theorem dX9_hole_31 : decode cX9_hole 31 = .ok (.invokevirtual 249, 3) := by decide +kernel
theorem dX9_hole_34 : decode cX9_hole 34 = .ok (.iconst 1, 1) := by decide +kernel
theorem dX9_hole_35 : decode cX9_hole 35 = .ok (.invokevirtual 105, 3) := by decide +kernel
theorem dX9_hole_38 : decode cX9_hole 38 = .ok (.goto 4, 3) := by decide +kernel
theorem dX9_hole_41 : decode cX9_hole 41 = .ok (.iconst (-1), 1) := by decide +kernel
theorem dX9_hole_42 : decode cX9_hole 42 = .ok (.ireturn, 1) := by decide +kernel
theorem dX9_write_0 : decode cX9_write 0 = .ok (.iconst 0, 1) := by decide +kernel
theorem dX9_write_1 : decode cX9_write 1 = .ok (.istore_n 3, 1) := by decide +kernel
theorem dX9_write_2 : decode cX9_write 2 = .ok (.iload_n 3, 1) := by decide +kernel
theorem dX9_write_3 : decode cX9_write 3 = .ok (.bipush 16, 2) := by decide +kernel
theorem dX9_write_5 : decode cX9_write 5 = .ok (.if_icmp .ge 20, 3) := by decide +kernel
theorem dX9_write_8 : decode cX9_write 8 = .ok (.aload_n 1, 1) := by decide +kernel
theorem dX9_write_9 : decode cX9_write 9 = .ok (.iload_n 2, 1) := by decide +kernel
theorem dX9_write_10 : decode cX9_write 10 = .ok (.iload_n 3, 1) := by decide +kernel
theorem dX9_write_11 : decode cX9_write 11 = .ok (.iadd, 1) := by decide +kernel
theorem dX9_write_12 : decode cX9_write 12 = .ok (.aload_n 0, 1) := by decide +kernel
theorem dX9_write_13 : decode cX9_write 13 = .ok (.getfield 32, 3) := by decide +kernel
theorem dX9_write_16 : decode cX9_write 16 = .ok (.iload_n 3, 1) := by decide +kernel
theorem dX9_write_17 : decode cX9_write 17 = .ok (.iaload, 1) := by decide +kernel
theorem dX9_write_18 : decode cX9_write 18 = .ok (.iastore, 1) := by decide +kernel
theorem dX9_write_19 : decode cX9_write 19 = .ok (.iinc 3 1, 3) := by decide +kernel
theorem dX9_write_22 : decode cX9_write 22 = .ok (.goto (-20), 3) := by decide +kernel
theorem dX9_write_25 : decode cX9_write 25 = .ok (.aload_n 1, 1) := by decide +kernel
theorem dX9_write_26 : decode cX9_write 26 = .ok (.iload_n 2, 1) := by decide +kernel
theorem dX9_write_27 : decode cX9_write 27 = .ok (.bipush 16, 2) := by decide +kernel
theorem dX9_write_29 : decode cX9_write 29 = .ok (.iadd, 1) := by decide +kernel
theorem dX9_write_30 : decode cX9_write 30 = .ok (.aload_n 0, 1) := by decide +kernel
theorem dX9_write_31 : decode cX9_write 31 = .ok (.getfield 164, 3) := by decide +kernel
theorem dX9_write_34 : decode cX9_write 34 = .ok (.iastore, 1) := by decide +kernel
theorem dX9_write_35 : decode cX9_write 35 = .ok (.return_, 1) := by decide +kernel
theorem dX9_readBack_0 : decode cX9_readBack 0 = .ok (.iconst 0, 1) := by decide +kernel
theorem dX9_readBack_1 : decode cX9_readBack 1 = .ok (.istore_n 3, 1) := by decide +kernel
theorem dX9_readBack_2 : decode cX9_readBack 2 = .ok (.iload_n 3, 1) := by decide +kernel
theorem dX9_readBack_3 : decode cX9_readBack 3 = .ok (.bipush 16, 2) := by decide +kernel
theorem dX9_readBack_5 : decode cX9_readBack 5 = .ok (.if_icmp .ge 20, 3) := by decide +kernel
theorem dX9_readBack_8 : decode cX9_readBack 8 = .ok (.aload_n 0, 1) := by decide +kernel
theorem dX9_readBack_9 : decode cX9_readBack 9 = .ok (.getfield 32, 3) := by decide +kernel
theorem dX9_readBack_12 : decode cX9_readBack 12 = .ok (.iload_n 3, 1) := by decide +kernel
theorem dX9_readBack_13 : decode cX9_readBack 13 = .ok (.aload_n 1, 1) := by decide +kernel
theorem dX9_readBack_14 : decode cX9_readBack 14 = .ok (.iload_n 2, 1) := by decide +kernel
theorem dX9_readBack_15 : decode cX9_readBack 15 = .ok (.iload_n 3, 1) := by decide +kernel
theorem dX9_readBack_16 : decode cX9_readBack 16 = .ok (.iadd, 1) := by decide +kernel
theorem dX9_readBack_17 : decode cX9_readBack 17 = .ok (.iaload, 1) := by decide +kernel
theorem dX9_readBack_18 : decode cX9_readBack 18 = .ok (.iastore, 1) := by decide +kernel
theorem dX9_readBack_19 : decode cX9_readBack 19 = .ok (.iinc 3 1, 3) := by decide +kernel
theorem dX9_readBack_22 : decode cX9_readBack 22 = .ok (.goto (-20), 3) := by decide +kernel
theorem dX9_readBack_25 : decode cX9_readBack 25 = .ok (.aload_n 0, 1) := by decide +kernel
theorem dX9_readBack_26 : decode cX9_readBack 26 = .ok (.aload_n 1, 1) := by decide +kernel
theorem dX9_readBack_27 : decode cX9_readBack 27 = .ok (.iload_n 2, 1) := by decide +kernel
theorem dX9_readBack_28 : decode cX9_readBack 28 = .ok (.bipush 16, 2) := by decide +kernel
theorem dX9_readBack_30 : decode cX9_readBack 30 = .ok (.iadd, 1) := by decide +kernel
theorem dX9_readBack_31 : decode cX9_readBack 31 = .ok (.iaload, 1) := by decide +kernel
theorem dX9_readBack_32 : decode cX9_readBack 32 = .ok (.putfield 164, 3) := by decide +kernel
theorem dX9_readBack_35 : decode cX9_readBack 35 = .ok (.return_, 1) := by decide +kernel
theorem dX9_note_0 : decode cX9_note 0 = .ok (.aload_n 0, 1) := by decide +kernel
theorem dX9_note_1 : decode cX9_note 1 = .ok (.aload_n 0, 1) := by decide +kernel
theorem dX9_note_2 : decode cX9_note 2 = .ok (.getfield 50, 3) := by decide +kernel
theorem dX9_note_5 : decode cX9_note 5 = .ok (.bipush 17, 2) := by decide +kernel
theorem dX9_note_7 : decode cX9_note 7 = .ok (.aload_n 0, 1) := by decide +kernel
theorem dX9_note_8 : decode cX9_note 8 = .ok (.getfield 167, 3) := by decide +kernel
theorem dX9_note_11 : decode cX9_note 11 = .ok (.imul, 1) := by decide +kernel
theorem dX9_note_12 : decode cX9_note 12 = .ok (.invokevirtual 253, 3) := by decide +kernel
theorem dX9_note_15 : decode cX9_note 15 = .ok (.aload_n 0, 1) := by decide +kernel
theorem dX9_note_16 : decode cX9_note 16 = .ok (.dup, 1) := by decide +kernel
theorem dX9_note_17 : decode cX9_note 17 = .ok (.getfield 167, 3) := by decide +kernel
theorem dX9_note_20 : decode cX9_note 20 = .ok (.iconst 1, 1) := by decide +kernel
theorem dX9_note_21 : decode cX9_note 21 = .ok (.iadd, 1) := by decide +kernel
theorem dX9_note_22 : decode cX9_note 22 = .ok (.putfield 167, 3) := by decide +kernel
theorem dX9_note_25 : decode cX9_note 25 = .ok (.return_, 1) := by decide +kernel
theorem dX9_dig_0 : decode cX9_dig 0 = .ok (.aload_n 0, 1) := by decide +kernel
theorem dX9_dig_1 : decode cX9_dig 1 = .ok (.iload_n 1, 1) := by decide +kernel
theorem dX9_dig_2 : decode cX9_dig 2 = .ok (.invokevirtual 212, 3) := by decide +kernel
theorem dX9_dig_5 : decode cX9_dig 5 = .ok (.ifCond .ne 5, 3) := by decide +kernel
theorem dX9_dig_8 : decode cX9_dig 8 = .ok (.iconst (-1), 1) := by decide +kernel
theorem dX9_dig_9 : decode cX9_dig 9 = .ok (.ireturn, 1) := by decide +kernel
theorem dX9_dig_10 : decode cX9_dig 10 = .ok (.aload_n 0, 1) := by decide +kernel
theorem dX9_dig_11 : decode cX9_dig 11 = .ok (.getfield 32, 3) := by decide +kernel
theorem dX9_dig_14 : decode cX9_dig 14 = .ok (.iload_n 1, 1) := by decide +kernel
theorem dX9_dig_15 : decode cX9_dig 15 = .ok (.iaload, 1) := by decide +kernel
theorem dX9_dig_16 : decode cX9_dig 16 = .ok (.iconst 5, 1) := by decide +kernel
theorem dX9_dig_17 : decode cX9_dig 17 = .ok (.if_icmp .ne 6, 3) := by decide +kernel
theorem dX9_dig_20 : decode cX9_dig 20 = .ok (.bipush (-4), 2) := by decide +kernel
theorem dX9_dig_22 : decode cX9_dig 22 = .ok (.ireturn, 1) := by decide +kernel
theorem dX9_dig_23 : decode cX9_dig 23 = .ok (.aload_n 0, 1) := by decide +kernel
theorem dX9_dig_24 : decode cX9_dig 24 = .ok (.getfield 167, 3) := by decide +kernel
theorem dX9_dig_27 : decode cX9_dig 27 = .ok (.bipush 40, 2) := by decide +kernel
theorem dX9_dig_29 : decode cX9_dig 29 = .ok (.if_icmp .ne 6, 3) := by decide +kernel
theorem dX9_dig_32 : decode cX9_dig 32 = .ok (.bipush (-2), 2) := by decide +kernel
theorem dX9_dig_34 : decode cX9_dig 34 = .ok (.ireturn, 1) := by decide +kernel
theorem dX9_dig_35 : decode cX9_dig 35 = .ok (.aload_n 0, 1) := by decide +kernel
theorem dX9_dig_36 : decode cX9_dig 36 = .ok (.invokevirtual 257, 3) := by decide +kernel
theorem dX9_dig_39 : decode cX9_dig 39 = .ok (.aload_n 0, 1) := by decide +kernel
theorem dX9_dig_40 : decode cX9_dig 40 = .ok (.getfield 32, 3) := by decide +kernel
theorem dX9_dig_43 : decode cX9_dig 43 = .ok (.iload_n 1, 1) := by decide +kernel
theorem dX9_dig_44 : decode cX9_dig 44 = .ok (.dup2, 1) := by decide +kernel
theorem dX9_dig_45 : decode cX9_dig 45 = .ok (.iaload, 1) := by decide +kernel
theorem dX9_dig_46 : decode cX9_dig 46 = .ok (.iconst 1, 1) := by decide +kernel
theorem dX9_dig_47 : decode cX9_dig 47 = .ok (.iadd, 1) := by decide +kernel
theorem dX9_dig_48 : decode cX9_dig 48 = .ok (.iastore, 1) := by decide +kernel
theorem dX9_dig_49 : decode cX9_dig 49 = .ok (.aload_n 0, 1) := by decide +kernel
theorem dX9_dig_50 : decode cX9_dig 50 = .ok (.dup, 1) := by decide +kernel
theorem dX9_dig_51 : decode cX9_dig 51 = .ok (.getfield 164, 3) := by decide +kernel
theorem dX9_dig_54 : decode cX9_dig 54 = .ok (.iconst 1, 1) := by decide +kernel
theorem dX9_dig_55 : decode cX9_dig 55 = .ok (.iadd, 1) := by decide +kernel
theorem dX9_dig_56 : decode cX9_dig 56 = .ok (.putfield 164, 3) := by decide +kernel
theorem dX9_dig_59 : decode cX9_dig 59 = .ok (.aload_n 0, 1) := by decide +kernel
theorem dX9_dig_60 : decode cX9_dig 60 = .ok (.getfield 32, 3) := by decide +kernel
theorem dX9_dig_63 : decode cX9_dig 63 = .ok (.iload_n 1, 1) := by decide +kernel
theorem dX9_dig_64 : decode cX9_dig 64 = .ok (.iaload, 1) := by decide +kernel
theorem dX9_dig_65 : decode cX9_dig 65 = .ok (.ireturn, 1) := by decide +kernel
theorem dX9_fill_0 : decode cX9_fill 0 = .ok (.aload_n 0, 1) := by decide +kernel
theorem dX9_fill_1 : decode cX9_fill 1 = .ok (.iload_n 1, 1) := by decide +kernel
theorem dX9_fill_2 : decode cX9_fill 2 = .ok (.invokevirtual 212, 3) := by decide +kernel
theorem dX9_fill_5 : decode cX9_fill 5 = .ok (.ifCond .ne 5, 3) := by decide +kernel
theorem dX9_fill_8 : decode cX9_fill 8 = .ok (.iconst (-1), 1) := by decide +kernel
theorem dX9_fill_9 : decode cX9_fill 9 = .ok (.ireturn, 1) := by decide +kernel
theorem dX9_fill_10 : decode cX9_fill 10 = .ok (.aload_n 0, 1) := by decide +kernel
theorem dX9_fill_11 : decode cX9_fill 11 = .ok (.getfield 32, 3) := by decide +kernel
theorem dX9_fill_14 : decode cX9_fill 14 = .ok (.iload_n 1, 1) := by decide +kernel
theorem dX9_fill_15 : decode cX9_fill 15 = .ok (.iaload, 1) := by decide +kernel
theorem dX9_fill_16 : decode cX9_fill 16 = .ok (.ifCond .eq 10, 3) := by decide +kernel
theorem dX9_fill_19 : decode cX9_fill 19 = .ok (.aload_n 0, 1) := by decide +kernel
theorem dX9_fill_20 : decode cX9_fill 20 = .ok (.getfield 164, 3) := by decide +kernel
theorem dX9_fill_23 : decode cX9_fill 23 = .ok (.ifCond .ne 6, 3) := by decide +kernel
theorem dX9_fill_26 : decode cX9_fill 26 = .ok (.bipush (-4), 2) := by decide +kernel
theorem dX9_fill_28 : decode cX9_fill 28 = .ok (.ireturn, 1) := by decide +kernel
theorem dX9_fill_29 : decode cX9_fill 29 = .ok (.aload_n 0, 1) := by decide +kernel
theorem dX9_fill_30 : decode cX9_fill 30 = .ok (.getfield 167, 3) := by decide +kernel
theorem dX9_fill_33 : decode cX9_fill 33 = .ok (.bipush 40, 2) := by decide +kernel
theorem dX9_fill_35 : decode cX9_fill 35 = .ok (.if_icmp .ne 6, 3) := by decide +kernel
theorem dX9_fill_38 : decode cX9_fill 38 = .ok (.bipush (-2), 2) := by decide +kernel
theorem dX9_fill_40 : decode cX9_fill 40 = .ok (.ireturn, 1) := by decide +kernel
theorem dX9_fill_41 : decode cX9_fill 41 = .ok (.aload_n 0, 1) := by decide +kernel
theorem dX9_fill_42 : decode cX9_fill 42 = .ok (.invokevirtual 257, 3) := by decide +kernel
theorem dX9_fill_45 : decode cX9_fill 45 = .ok (.aload_n 0, 1) := by decide +kernel
theorem dX9_fill_46 : decode cX9_fill 46 = .ok (.getfield 32, 3) := by decide +kernel
theorem dX9_fill_49 : decode cX9_fill 49 = .ok (.iload_n 1, 1) := by decide +kernel
theorem dX9_fill_50 : decode cX9_fill 50 = .ok (.dup2, 1) := by decide +kernel
theorem dX9_fill_51 : decode cX9_fill 51 = .ok (.iaload, 1) := by decide +kernel
theorem dX9_fill_52 : decode cX9_fill 52 = .ok (.iconst 1, 1) := by decide +kernel
theorem dX9_fill_53 : decode cX9_fill 53 = .ok (.isub, 1) := by decide +kernel
theorem dX9_fill_54 : decode cX9_fill 54 = .ok (.iastore, 1) := by decide +kernel
theorem dX9_fill_55 : decode cX9_fill 55 = .ok (.aload_n 0, 1) := by decide +kernel
theorem dX9_fill_56 : decode cX9_fill 56 = .ok (.dup, 1) := by decide +kernel
theorem dX9_fill_57 : decode cX9_fill 57 = .ok (.getfield 164, 3) := by decide +kernel
theorem dX9_fill_60 : decode cX9_fill 60 = .ok (.iconst 1, 1) := by decide +kernel
theorem dX9_fill_61 : decode cX9_fill 61 = .ok (.isub, 1) := by decide +kernel
theorem dX9_fill_62 : decode cX9_fill 62 = .ok (.putfield 164, 3) := by decide +kernel
theorem dX9_fill_65 : decode cX9_fill 65 = .ok (.aload_n 0, 1) := by decide +kernel
theorem dX9_fill_66 : decode cX9_fill 66 = .ok (.getfield 32, 3) := by decide +kernel
theorem dX9_fill_69 : decode cX9_fill 69 = .ok (.iload_n 1, 1) := by decide +kernel
theorem dX9_fill_70 : decode cX9_fill 70 = .ok (.iaload, 1) := by decide +kernel
theorem dX9_fill_71 : decode cX9_fill 71 = .ok (.ireturn, 1) := by decide +kernel
theorem dX9_rain_0 : decode cX9_rain 0 = .ok (.iload_n 1, 1) := by decide +kernel
theorem dX9_rain_1 : decode cX9_rain 1 = .ok (.iconst 0, 1) := by decide +kernel
theorem dX9_rain_2 : decode cX9_rain 2 = .ok (.bipush 12, 2) := by decide +kernel
theorem dX9_rain_4 : decode cX9_rain 4 = .ok (.invokestatic 79, 3) := by decide +kernel
theorem dX9_rain_7 : decode cX9_rain 7 = .ok (.ifCond .eq 14, 3) := by decide +kernel
theorem dX9_rain_10 : decode cX9_rain 10 = .ok (.iload_n 2, 1) := by decide +kernel
theorem dX9_rain_11 : decode cX9_rain 11 = .ok (.iconst 1, 1) := by decide +kernel
theorem dX9_rain_12 : decode cX9_rain 12 = .ok (.ldc_w 260, 3) := by decide +kernel
theorem dX9_rain_15 : decode cX9_rain 15 = .ok (.invokestatic 79, 3) := by decide +kernel
theorem dX9_rain_18 : decode cX9_rain 18 = .ok (.ifCond .ne 5, 3) := by decide +kernel
theorem dX9_rain_21 : decode cX9_rain 21 = .ok (.iconst (-1), 1) := by decide +kernel
theorem dX9_rain_22 : decode cX9_rain 22 = .ok (.ireturn, 1) := by decide +kernel
theorem dX9_rain_23 : decode cX9_rain 23 = .ok (.aload_n 0, 1) := by decide +kernel
theorem dX9_rain_24 : decode cX9_rain 24 = .ok (.getfield 155, 3) := by decide +kernel
theorem dX9_rain_27 : decode cX9_rain 27 = .ok (.ifCond .ne 6, 3) := by decide +kernel
theorem dX9_rain_30 : decode cX9_rain 30 = .ok (.bipush (-4), 2) := by decide +kernel
theorem dX9_rain_32 : decode cX9_rain 32 = .ok (.ireturn, 1) := by decide +kernel
theorem dX9_rain_33 : decode cX9_rain 33 = .ok (.aload_n 0, 1) := by decide +kernel
theorem dX9_rain_34 : decode cX9_rain 34 = .ok (.getfield 167, 3) := by decide +kernel
theorem dX9_rain_37 : decode cX9_rain 37 = .ok (.bipush 40, 2) := by decide +kernel
theorem dX9_rain_39 : decode cX9_rain 39 = .ok (.if_icmp .ne 6, 3) := by decide +kernel
theorem dX9_rain_42 : decode cX9_rain 42 = .ok (.bipush (-2), 2) := by decide +kernel
theorem dX9_rain_44 : decode cX9_rain 44 = .ok (.ireturn, 1) := by decide +kernel
theorem dX9_rain_45 : decode cX9_rain 45 = .ok (.aload_n 0, 1) := by decide +kernel
theorem dX9_rain_46 : decode cX9_rain 46 = .ok (.invokevirtual 257, 3) := by decide +kernel
theorem dX9_rain_49 : decode cX9_rain 49 = .ok (.iload_n 2, 1) := by decide +kernel
theorem dX9_rain_50 : decode cX9_rain 50 = .ok (.i2l, 1) := by decide +kernel
theorem dX9_rain_51 : decode cX9_rain 51 = .ok (.lstore_n 3, 1) := by decide +kernel
theorem dX9_rain_52 : decode cX9_rain 52 = .ok (.iconst 0, 1) := by decide +kernel
theorem dX9_rain_53 : decode cX9_rain 53 = .ok (.istore 5, 2) := by decide +kernel
theorem dX9_rain_55 : decode cX9_rain 55 = .ok (.iload 5, 2) := by decide +kernel
theorem dX9_rain_57 : decode cX9_rain 57 = .ok (.aload_n 0, 1) := by decide +kernel
theorem dX9_rain_58 : decode cX9_rain 58 = .ok (.getfield 155, 3) := by decide +kernel
theorem dX9_rain_61 : decode cX9_rain 61 = .ok (.if_icmp .ge 55, 3) := by decide +kernel
theorem dX9_rain_64 : decode cX9_rain 64 = .ok (.aload_n 0, 1) := by decide +kernel
theorem dX9_rain_65 : decode cX9_rain 65 = .ok (.getfield 32, 3) := by decide +kernel
theorem dX9_rain_68 : decode cX9_rain 68 = .ok (.iload 5, 2) := by decide +kernel
theorem dX9_rain_70 : decode cX9_rain 70 = .ok (.iaload, 1) := by decide +kernel
theorem dX9_rain_71 : decode cX9_rain 71 = .ok (.ifCond .le 39, 3) := by decide +kernel
theorem dX9_rain_74 : decode cX9_rain 74 = .ok (.ldc2_w 261, 3) := by decide +kernel
theorem dX9_rain_77 : decode cX9_rain 77 = .ok (.lload_n 3, 1) := by decide +kernel
theorem dX9_rain_78 : decode cX9_rain 78 = .ok (.lmul, 1) := by decide +kernel
theorem dX9_rain_79 : decode cX9_rain 79 = .ok (.ldc2_w 263, 3) := by decide +kernel
theorem dX9_rain_82 : decode cX9_rain 82 = .ok (.lrem, 1) := by decide +kernel
theorem dX9_rain_83 : decode cX9_rain 83 = .ok (.lstore_n 3, 1) := by decide +kernel
theorem dX9_rain_84 : decode cX9_rain 84 = .ok (.aload_n 0, 1) := by decide +kernel
theorem dX9_rain_85 : decode cX9_rain 85 = .ok (.getfield 32, 3) := by decide +kernel
theorem dX9_rain_88 : decode cX9_rain 88 = .ok (.iload 5, 2) := by decide +kernel
theorem dX9_rain_90 : decode cX9_rain 90 = .ok (.dup2, 1) := by decide +kernel
theorem dX9_rain_91 : decode cX9_rain 91 = .ok (.iaload, 1) := by decide +kernel
theorem dX9_rain_92 : decode cX9_rain 92 = .ok (.lload_n 3, 1) := by decide +kernel
theorem dX9_rain_93 : decode cX9_rain 93 = .ok (.ldc2_w 265, 3) := by decide +kernel
theorem dX9_rain_96 : decode cX9_rain 96 = .ok (.lrem, 1) := by decide +kernel
theorem dX9_rain_97 : decode cX9_rain 97 = .ok (.iload_n 1, 1) := by decide +kernel
theorem dX9_rain_98 : decode cX9_rain 98 = .ok (.i2l, 1) := by decide +kernel
theorem dX9_rain_99 : decode cX9_rain 99 = .ok (.lcmp, 1) := by decide +kernel
theorem dX9_rain_100 : decode cX9_rain 100 = .ok (.ifCond .ge 7, 3) := by decide +kernel
theorem dX9_rain_103 : decode cX9_rain 103 = .ok (.iconst 1, 1) := by decide +kernel
theorem dX9_rain_104 : decode cX9_rain 104 = .ok (.goto 4, 3) := by decide +kernel
theorem dX9_rain_107 : decode cX9_rain 107 = .ok (.iconst 0, 1) := by decide +kernel
theorem dX9_rain_108 : decode cX9_rain 108 = .ok (.isub, 1) := by decide +kernel
theorem dX9_rain_109 : decode cX9_rain 109 = .ok (.iastore, 1) := by decide +kernel
theorem dX9_rain_110 : decode cX9_rain 110 = .ok (.iinc 5 1, 3) := by decide +kernel
theorem dX9_rain_113 : decode cX9_rain 113 = .ok (.goto (-58), 3) := by decide +kernel
theorem dX9_rain_116 : decode cX9_rain 116 = .ok (.aload_n 0, 1) := by decide +kernel
theorem dX9_rain_117 : decode cX9_rain 117 = .ok (.invokevirtual 267, 3) := by decide +kernel
theorem dX9_rain_120 : decode cX9_rain 120 = .ok (.ireturn, 1) := by decide +kernel
theorem dX9_undo_0 : decode cX9_undo 0 = .ok (.iload_n 1, 1) := by decide +kernel
theorem dX9_undo_1 : decode cX9_undo 1 = .ok (.iconst 0, 1) := by decide +kernel
theorem dX9_undo_2 : decode cX9_undo 2 = .ok (.aload_n 0, 1) := by decide +kernel
theorem dX9_undo_3 : decode cX9_undo 3 = .ok (.getfield 167, 3) := by decide +kernel
theorem dX9_undo_6 : decode cX9_undo 6 = .ok (.invokestatic 79, 3) := by decide +kernel
theorem dX9_undo_9 : decode cX9_undo 9 = .ok (.ifCond .ne 5, 3) := by decide +kernel
theorem dX9_undo_12 : decode cX9_undo 12 = .ok (.iconst (-1), 1) := by decide +kernel
theorem dX9_undo_13 : decode cX9_undo 13 = .ok (.ireturn, 1) := by decide +kernel
theorem dX9_undo_14 : decode cX9_undo 14 = .ok (.aload_n 0, 1) := by decide +kernel
theorem dX9_undo_15 : decode cX9_undo 15 = .ok (.getfield 167, 3) := by decide +kernel
theorem dX9_undo_18 : decode cX9_undo 18 = .ok (.iload_n 1, 1) := by decide +kernel
theorem dX9_undo_19 : decode cX9_undo 19 = .ok (.isub, 1) := by decide +kernel
theorem dX9_undo_20 : decode cX9_undo 20 = .ok (.istore_n 2, 1) := by decide +kernel
theorem dX9_undo_21 : decode cX9_undo 21 = .ok (.iload_n 2, 1) := by decide +kernel
theorem dX9_undo_22 : decode cX9_undo 22 = .ok (.ifCond .le 20, 3) := by decide +kernel
theorem dX9_undo_25 : decode cX9_undo 25 = .ok (.aload_n 0, 1) := by decide +kernel
theorem dX9_undo_26 : decode cX9_undo 26 = .ok (.aload_n 0, 1) := by decide +kernel
theorem dX9_undo_27 : decode cX9_undo 27 = .ok (.getfield 50, 3) := by decide +kernel
theorem dX9_undo_30 : decode cX9_undo 30 = .ok (.bipush 17, 2) := by decide +kernel
theorem dX9_undo_32 : decode cX9_undo 32 = .ok (.iload_n 1, 1) := by decide +kernel
theorem dX9_undo_33 : decode cX9_undo 33 = .ok (.imul, 1) := by decide +kernel
theorem dX9_undo_34 : decode cX9_undo 34 = .ok (.invokevirtual 271, 3) := by decide +kernel
theorem dX9_undo_37 : decode cX9_undo 37 = .ok (.aload_n 0, 1) := by decide +kernel
theorem dX9_undo_38 : decode cX9_undo 38 = .ok (.iload_n 1, 1) := by decide +kernel
theorem dX9_undo_39 : decode cX9_undo 39 = .ok (.putfield 167, 3) := by decide +kernel
theorem dX9_undo_42 : decode cX9_undo 42 = .ok (.iload_n 2, 1) := by decide +kernel
theorem dX9_undo_43 : decode cX9_undo 43 = .ok (.ireturn, 1) := by decide +kernel
theorem dX9_isImage_0 : decode cX9_isImage 0 = .ok (.iload_n 0, 1) := by decide +kernel
theorem dX9_isImage_1 : decode cX9_isImage 1 = .ok (.iconst 0, 1) := by decide +kernel
theorem dX9_isImage_2 : decode cX9_isImage 2 = .ok (.iconst 2, 1) := by decide +kernel
theorem dX9_isImage_3 : decode cX9_isImage 3 = .ok (.invokestatic 79, 3) := by decide +kernel
theorem dX9_isImage_6 : decode cX9_isImage 6 = .ok (.ireturn, 1) := by decide +kernel
theorem dX9_image_0 : decode cX9_image 0 = .ok (.iload_n 1, 1) := by decide +kernel
theorem dX9_image_1 : decode cX9_image 1 = .ok (.invokestatic 274, 3) := by decide +kernel
theorem dX9_image_4 : decode cX9_image 4 = .ok (.ifCond .ne 5, 3) := by decide +kernel
theorem dX9_image_7 : decode cX9_image 7 = .ok (.iconst (-1), 1) := by decide +kernel
theorem dX9_image_8 : decode cX9_image 8 = .ok (.ireturn, 1) := by decide +kernel
theorem dX9_image_9 : decode cX9_image 9 = .ok (.aload_n 0, 1) := by decide +kernel
theorem dX9_image_10 : decode cX9_image 10 = .ok (.getfield 155, 3) := by decide +kernel
