theorem d_Mo_init_0 : decode c_Mo_init 0 = .ok (.aload_n 0, 1) := by decide +kernel
theorem d_Mo_init_1 : decode c_Mo_init 1 = .ok (.invokespecial 1, 3) := by decide +kernel
theorem d_Mo_init_4 : decode c_Mo_init 4 = .ok (.aload_n 0, 1) := by decide +kernel
theorem d_Mo_init_5 : decode c_Mo_init 5 = .ok (.sipush 16000, 3) := by decide +kernel
theorem d_Mo_init_8 : decode c_Mo_init 8 = .ok (.newarray .boolean, 2) := by decide +kernel
theorem d_Mo_init_10 : decode c_Mo_init 10 = .ok (.putfield 7, 3) := by decide +kernel
theorem d_Mo_init_13 : decode c_Mo_init 13 = .ok (.aload_n 0, 1) := by decide +kernel
theorem d_Mo_init_14 : decode c_Mo_init 14 = .ok (.bipush 60, 2) := by decide +kernel
theorem d_Mo_init_16 : decode c_Mo_init 16 = .ok (.newarray .int, 2) := by decide +kernel
theorem d_Mo_init_18 : decode c_Mo_init 18 = .ok (.putfield 13, 3) := by decide +kernel
theorem d_Mo_init_21 : decode c_Mo_init 21 = .ok (.aload_n 0, 1) := by decide +kernel
theorem d_Mo_init_22 : decode c_Mo_init 22 = .ok (.bipush 60, 2) := by decide +kernel
theorem d_Mo_init_24 : decode c_Mo_init 24 = .ok (.newarray .int, 2) := by decide +kernel
theorem d_Mo_init_26 : decode c_Mo_init 26 = .ok (.putfield 17, 3) := by decide +kernel
theorem d_Mo_init_29 : decode c_Mo_init 29 = .ok (.aload_n 0, 1) := by decide +kernel
theorem d_Mo_init_30 : decode c_Mo_init 30 = .ok (.bipush 60, 2) := by decide +kernel
theorem d_Mo_init_32 : decode c_Mo_init 32 = .ok (.newarray .int, 2) := by decide +kernel
theorem d_Mo_init_34 : decode c_Mo_init 34 = .ok (.putfield 20, 3) := by decide +kernel
theorem d_Mo_init_37 : decode c_Mo_init 37 = .ok (.aload_n 0, 1) := by decide +kernel
theorem d_Mo_init_38 : decode c_Mo_init 38 = .ok (.bipush 60, 2) := by decide +kernel
theorem d_Mo_init_40 : decode c_Mo_init 40 = .ok (.newarray .int, 2) := by decide +kernel
theorem d_Mo_init_42 : decode c_Mo_init 42 = .ok (.putfield 23, 3) := by decide +kernel
theorem d_Mo_init_45 : decode c_Mo_init 45 = .ok (.aload_n 0, 1) := by decide +kernel
theorem d_Mo_init_46 : decode c_Mo_init 46 = .ok (.bipush 60, 2) := by decide +kernel
theorem d_Mo_init_48 : decode c_Mo_init 48 = .ok (.newarray .int, 2) := by decide +kernel
theorem d_Mo_init_50 : decode c_Mo_init 50 = .ok (.putfield 26, 3) := by decide +kernel
theorem d_Mo_init_53 : decode c_Mo_init 53 = .ok (.aload_n 0, 1) := by decide +kernel
theorem d_Mo_init_54 : decode c_Mo_init 54 = .ok (.bipush 16, 2) := by decide +kernel
theorem d_Mo_init_56 : decode c_Mo_init 56 = .ok (.newarray .int, 2) := by decide +kernel
theorem d_Mo_init_58 : decode c_Mo_init 58 = .ok (.putfield 29, 3) := by decide +kernel
theorem d_Mo_init_61 : decode c_Mo_init 61 = .ok (.aload_n 0, 1) := by decide +kernel
theorem d_Mo_init_62 : decode c_Mo_init 62 = .ok (.bipush 80, 2) := by decide +kernel
theorem d_Mo_init_64 : decode c_Mo_init 64 = .ok (.newarray .int, 2) := by decide +kernel
theorem d_Mo_init_66 : decode c_Mo_init 66 = .ok (.putfield 32, 3) := by decide +kernel
theorem d_Mo_init_69 : decode c_Mo_init 69 = .ok (.aload_n 0, 1) := by decide +kernel
theorem d_Mo_init_70 : decode c_Mo_init 70 = .ok (.bipush 80, 2) := by decide +kernel
theorem d_Mo_init_72 : decode c_Mo_init 72 = .ok (.newarray .int, 2) := by decide +kernel
theorem d_Mo_init_74 : decode c_Mo_init 74 = .ok (.putfield 35, 3) := by decide +kernel
theorem d_Mo_init_77 : decode c_Mo_init 77 = .ok (.aload_n 0, 1) := by decide +kernel
theorem d_Mo_init_78 : decode c_Mo_init 78 = .ok (.bipush 60, 2) := by decide +kernel
theorem d_Mo_init_80 : decode c_Mo_init 80 = .ok (.newarray .int, 2) := by decide +kernel
theorem d_Mo_init_82 : decode c_Mo_init 82 = .ok (.putfield 38, 3) := by decide +kernel
theorem d_Mo_init_85 : decode c_Mo_init 85 = .ok (.aload_n 0, 1) := by decide +kernel
theorem d_Mo_init_86 : decode c_Mo_init 86 = .ok (.bipush 60, 2) := by decide +kernel
theorem d_Mo_init_88 : decode c_Mo_init 88 = .ok (.newarray .int, 2) := by decide +kernel
theorem d_Mo_init_90 : decode c_Mo_init 90 = .ok (.putfield 41, 3) := by decide +kernel
theorem d_Mo_init_93 : decode c_Mo_init 93 = .ok (.aload_n 0, 1) := by decide +kernel
theorem d_Mo_init_94 : decode c_Mo_init 94 = .ok (.bipush 60, 2) := by decide +kernel
theorem d_Mo_init_96 : decode c_Mo_init 96 = .ok (.newarray .int, 2) := by decide +kernel
theorem d_Mo_init_98 : decode c_Mo_init 98 = .ok (.putfield 44, 3) := by decide +kernel
theorem d_Mo_init_101 : decode c_Mo_init 101 = .ok (.aload_n 0, 1) := by decide +kernel
theorem d_Mo_init_102 : decode c_Mo_init 102 = .ok (.bipush 61, 2) := by decide +kernel
theorem d_Mo_init_104 : decode c_Mo_init 104 = .ok (.newarray .int, 2) := by decide +kernel
theorem d_Mo_init_106 : decode c_Mo_init 106 = .ok (.putfield 47, 3) := by decide +kernel
theorem d_Mo_init_109 : decode c_Mo_init 109 = .ok (.aload_n 0, 1) := by decide +kernel
theorem d_Mo_init_110 : decode c_Mo_init 110 = .ok (.ldc 50, 2) := by decide +kernel
theorem d_Mo_init_112 : decode c_Mo_init 112 = .ok (.newarray .long, 2) := by decide +kernel
theorem d_Mo_init_114 : decode c_Mo_init 114 = .ok (.putfield 51, 3) := by decide +kernel
theorem d_Mo_init_117 : decode c_Mo_init 117 = .ok (.aload_n 0, 1) := by decide +kernel
theorem d_Mo_init_118 : decode c_Mo_init 118 = .ok (.bipush 60, 2) := by decide +kernel
theorem d_Mo_init_120 : decode c_Mo_init 120 = .ok (.newarray .int, 2) := by decide +kernel
theorem d_Mo_init_122 : decode c_Mo_init 122 = .ok (.putfield 55, 3) := by decide +kernel
theorem d_Mo_init_125 : decode c_Mo_init 125 = .ok (.aload_n 0, 1) := by decide +kernel
theorem d_Mo_init_126 : decode c_Mo_init 126 = .ok (.sipush 16000, 3) := by decide +kernel
theorem d_Mo_init_129 : decode c_Mo_init 129 = .ok (.newarray .long, 2) := by decide +kernel
theorem d_Mo_init_131 : decode c_Mo_init 131 = .ok (.putfield 58, 3) := by decide +kernel
theorem d_Mo_init_134 : decode c_Mo_init 134 = .ok (.aload_n 0, 1) := by decide +kernel
theorem d_Mo_init_135 : decode c_Mo_init 135 = .ok (.sipush 16000, 3) := by decide +kernel
theorem d_Mo_init_138 : decode c_Mo_init 138 = .ok (.newarray .int, 2) := by decide +kernel
theorem d_Mo_init_140 : decode c_Mo_init 140 = .ok (.putfield 61, 3) := by decide +kernel
theorem d_Mo_init_143 : decode c_Mo_init 143 = .ok (.aload_n 0, 1) := by decide +kernel
theorem d_Mo_init_144 : decode c_Mo_init 144 = .ok (.sipush 1000, 3) := by decide +kernel
theorem d_Mo_init_147 : decode c_Mo_init 147 = .ok (.newarray .long, 2) := by decide +kernel
theorem d_Mo_init_149 : decode c_Mo_init 149 = .ok (.putfield 64, 3) := by decide +kernel
theorem d_Mo_init_152 : decode c_Mo_init 152 = .ok (.aload_n 0, 1) := by decide +kernel
theorem d_Mo_init_153 : decode c_Mo_init 153 = .ok (.iload_n 1, 1) := by decide +kernel
theorem d_Mo_init_154 : decode c_Mo_init 154 = .ok (.iconst 1, 1) := by decide +kernel
theorem d_Mo_init_155 : decode c_Mo_init 155 = .ok (.if_icmp .ge 7, 3) := by decide +kernel
theorem d_Mo_init_158 : decode c_Mo_init 158 = .ok (.iconst 1, 1) := by decide +kernel
theorem d_Mo_init_159 : decode c_Mo_init 159 = .ok (.goto 15, 3) := by decide +kernel
theorem d_Mo_init_162 : decode c_Mo_init 162 = .ok (.iload_n 1, 1) := by decide +kernel
theorem d_Mo_init_163 : decode c_Mo_init 163 = .ok (.bipush 16, 2) := by decide +kernel
theorem d_Mo_init_165 : decode c_Mo_init 165 = .ok (.if_icmp .le 8, 3) := by decide +kernel
theorem d_Mo_init_168 : decode c_Mo_init 168 = .ok (.bipush 16, 2) := by decide +kernel
theorem d_Mo_init_170 : decode c_Mo_init 170 = .ok (.goto 4, 3) := by decide +kernel
theorem d_Mo_init_173 : decode c_Mo_init 173 = .ok (.iload_n 1, 1) := by decide +kernel
theorem d_Mo_init_174 : decode c_Mo_init 174 = .ok (.putfield 67, 3) := by decide +kernel
theorem d_Mo_init_177 : decode c_Mo_init 177 = .ok (.aload_n 0, 1) := by decide +kernel
theorem d_Mo_init_178 : decode c_Mo_init 178 = .ok (.lload_n 2, 1) := by decide +kernel
theorem d_Mo_init_179 : decode c_Mo_init 179 = .ok (.lconst 1, 1) := by decide +kernel
theorem d_Mo_init_180 : decode c_Mo_init 180 = .ok (.lcmp, 1) := by decide +kernel
theorem d_Mo_init_181 : decode c_Mo_init 181 = .ok (.ifCond .ge 7, 3) := by decide +kernel
theorem d_Mo_init_184 : decode c_Mo_init 184 = .ok (.iconst 1, 1) := by decide +kernel
theorem d_Mo_init_185 : decode c_Mo_init 185 = .ok (.goto 19, 3) := by decide +kernel
theorem d_Mo_init_188 : decode c_Mo_init 188 = .ok (.lload_n 2, 1) := by decide +kernel
theorem d_Mo_init_189 : decode c_Mo_init 189 = .ok (.ldc2_w 71, 3) := by decide +kernel
theorem d_Mo_init_192 : decode c_Mo_init 192 = .ok (.lcmp, 1) := by decide +kernel
theorem d_Mo_init_193 : decode c_Mo_init 193 = .ok (.ifCond .le 9, 3) := by decide +kernel
theorem d_Mo_init_196 : decode c_Mo_init 196 = .ok (.sipush 1000, 3) := by decide +kernel
theorem d_Mo_init_199 : decode c_Mo_init 199 = .ok (.goto 5, 3) := by decide +kernel
theorem d_Mo_init_202 : decode c_Mo_init 202 = .ok (.lload_n 2, 1) := by decide +kernel
theorem d_Mo_init_203 : decode c_Mo_init 203 = .ok (.l2i, 1) := by decide +kernel
theorem d_Mo_init_204 : decode c_Mo_init 204 = .ok (.putfield 73, 3) := by decide +kernel
theorem d_Mo_init_207 : decode c_Mo_init 207 = .ok (.return_, 1) := by decide +kernel
theorem d_Mo_thrown_0 : decode c_Mo_thrown 0 = .ok (.aload_n 0, 1) := by decide +kernel
theorem d_Mo_thrown_1 : decode c_Mo_thrown 1 = .ok (.getfield 76, 3) := by decide +kernel
theorem d_Mo_thrown_4 : decode c_Mo_thrown 4 = .ok (.ireturn, 1) := by decide +kernel
theorem d_Mo_isCell_0 : decode c_Mo_isCell 0 = .ok (.iload_n 1, 1) := by decide +kernel
theorem d_Mo_isCell_1 : decode c_Mo_isCell 1 = .ok (.ifCond .lt 15, 3) := by decide +kernel
theorem d_Mo_isCell_4 : decode c_Mo_isCell 4 = .ok (.iload_n 1, 1) := by decide +kernel
theorem d_Mo_isCell_5 : decode c_Mo_isCell 5 = .ok (.aload_n 0, 1) := by decide +kernel
theorem d_Mo_isCell_6 : decode c_Mo_isCell 6 = .ok (.getfield 79, 3) := by decide +kernel
theorem d_Mo_isCell_9 : decode c_Mo_isCell 9 = .ok (.if_icmp .ge 7, 3) := by decide +kernel
theorem d_Mo_isCell_12 : decode c_Mo_isCell 12 = .ok (.iconst 1, 1) := by decide +kernel
theorem d_Mo_isCell_13 : decode c_Mo_isCell 13 = .ok (.goto 4, 3) := by decide +kernel
theorem d_Mo_isCell_16 : decode c_Mo_isCell 16 = .ok (.iconst 0, 1) := by decide +kernel
theorem d_Mo_isCell_17 : decode c_Mo_isCell 17 = .ok (.ireturn, 1) := by decide +kernel
theorem d_Mo_isRow_0 : decode c_Mo_isRow 0 = .ok (.iload_n 1, 1) := by decide +kernel
theorem d_Mo_isRow_1 : decode c_Mo_isRow 1 = .ok (.ifCond .lt 15, 3) := by decide +kernel
theorem d_Mo_isRow_4 : decode c_Mo_isRow 4 = .ok (.iload_n 1, 1) := by decide +kernel
theorem d_Mo_isRow_5 : decode c_Mo_isRow 5 = .ok (.aload_n 0, 1) := by decide +kernel
theorem d_Mo_isRow_6 : decode c_Mo_isRow 6 = .ok (.getfield 67, 3) := by decide +kernel
theorem d_Mo_isRow_9 : decode c_Mo_isRow 9 = .ok (.if_icmp .ge 7, 3) := by decide +kernel
theorem d_Mo_isRow_12 : decode c_Mo_isRow 12 = .ok (.iconst 1, 1) := by decide +kernel
theorem d_Mo_isRow_13 : decode c_Mo_isRow 13 = .ok (.goto 4, 3) := by decide +kernel
theorem d_Mo_isRow_16 : decode c_Mo_isRow 16 = .ok (.iconst 0, 1) := by decide +kernel
theorem d_Mo_isRow_17 : decode c_Mo_isRow 17 = .ok (.ireturn, 1) := by decide +kernel
theorem d_Mo_isKind_0 : decode c_Mo_isKind 0 = .ok (.iload_n 0, 1) := by decide +kernel
theorem d_Mo_isKind_1 : decode c_Mo_isKind 1 = .ok (.ifCond .lt 12, 3) := by decide +kernel
theorem d_Mo_isKind_4 : decode c_Mo_isKind 4 = .ok (.iload_n 0, 1) := by decide +kernel
theorem d_Mo_isKind_5 : decode c_Mo_isKind 5 = .ok (.iconst 4, 1) := by decide +kernel
theorem d_Mo_isKind_6 : decode c_Mo_isKind 6 = .ok (.if_icmp .ge 7, 3) := by decide +kernel
theorem d_Mo_isKind_9 : decode c_Mo_isKind 9 = .ok (.iconst 1, 1) := by decide +kernel
theorem d_Mo_isKind_10 : decode c_Mo_isKind 10 = .ok (.goto 4, 3) := by decide +kernel
theorem d_Mo_isKind_13 : decode c_Mo_isKind 13 = .ok (.iconst 0, 1) := by decide +kernel
theorem d_Mo_isKind_14 : decode c_Mo_isKind 14 = .ok (.ireturn, 1) := by decide +kernel
theorem d_Mo_cell_0 : decode c_Mo_cell 0 = .ok (.aload_n 0, 1) := by decide +kernel
theorem d_Mo_cell_1 : decode c_Mo_cell 1 = .ok (.aload_n 0, 1) := by decide +kernel
theorem d_Mo_cell_2 : decode c_Mo_cell 2 = .ok (.getfield 79, 3) := by decide +kernel
theorem d_Mo_cell_5 : decode c_Mo_cell 5 = .ok (.bipush 60, 2) := by decide +kernel
theorem d_Mo_cell_7 : decode c_Mo_cell 7 = .ok (.if_icmp .ne 7, 3) := by decide +kernel
theorem d_Mo_cell_10 : decode c_Mo_cell 10 = .ok (.iconst 1, 1) := by decide +kernel
theorem d_Mo_cell_11 : decode c_Mo_cell 11 = .ok (.goto 27, 3) := by decide +kernel
theorem d_Mo_cell_14 : decode c_Mo_cell 14 = .ok (.lload_n 1, 1) := by decide +kernel
theorem d_Mo_cell_15 : decode c_Mo_cell 15 = .ok (.lconst 1, 1) := by decide +kernel
theorem d_Mo_cell_16 : decode c_Mo_cell 16 = .ok (.lcmp, 1) := by decide +kernel
theorem d_Mo_cell_17 : decode c_Mo_cell 17 = .ok (.ifCond .lt 16, 3) := by decide +kernel
theorem d_Mo_cell_20 : decode c_Mo_cell 20 = .ok (.lload_n 1, 1) := by decide +kernel
theorem d_Mo_cell_21 : decode c_Mo_cell 21 = .ok (.ldc2_w 82, 3) := by decide +kernel
theorem d_Mo_cell_24 : decode c_Mo_cell 24 = .ok (.lcmp, 1) := by decide +kernel
theorem d_Mo_cell_25 : decode c_Mo_cell 25 = .ok (.ifCond .gt 8, 3) := by decide +kernel
theorem d_Mo_cell_28 : decode c_Mo_cell 28 = .ok (.iload_n 3, 1) := by decide +kernel
theorem d_Mo_cell_29 : decode c_Mo_cell 29 = .ok (.iconst 1, 1) := by decide +kernel
theorem d_Mo_cell_30 : decode c_Mo_cell 30 = .ok (.if_icmp .eq 7, 3) := by decide +kernel
theorem d_Mo_cell_33 : decode c_Mo_cell 33 = .ok (.iconst 2, 1) := by decide +kernel
theorem d_Mo_cell_34 : decode c_Mo_cell 34 = .ok (.goto 4, 3) := by decide +kernel
theorem d_Mo_cell_37 : decode c_Mo_cell 37 = .ok (.iconst 0, 1) := by decide +kernel
theorem d_Mo_cell_38 : decode c_Mo_cell 38 = .ok (.putfield 76, 3) := by decide +kernel
theorem d_Mo_cell_41 : decode c_Mo_cell 41 = .ok (.aload_n 0, 1) := by decide +kernel
theorem d_Mo_cell_42 : decode c_Mo_cell 42 = .ok (.getfield 76, 3) := by decide +kernel
theorem d_Mo_cell_45 : decode c_Mo_cell 45 = .ok (.ifCond .le 5, 3) := by decide +kernel
theorem d_Mo_cell_48 : decode c_Mo_cell 48 = .ok (.iconst 0, 1) := by decide +kernel
theorem d_Mo_cell_49 : decode c_Mo_cell 49 = .ok (.ireturn, 1) := by decide +kernel
theorem d_Mo_cell_50 : decode c_Mo_cell 50 = .ok (.aload_n 0, 1) := by decide +kernel
theorem d_Mo_cell_51 : decode c_Mo_cell 51 = .ok (.getfield 13, 3) := by decide +kernel
theorem d_Mo_cell_54 : decode c_Mo_cell 54 = .ok (.aload_n 0, 1) := by decide +kernel
theorem d_Mo_cell_55 : decode c_Mo_cell 55 = .ok (.getfield 79, 3) := by decide +kernel
theorem d_Mo_cell_58 : decode c_Mo_cell 58 = .ok (.lload_n 1, 1) := by decide +kernel
theorem d_Mo_cell_59 : decode c_Mo_cell 59 = .ok (.l2i, 1) := by decide +kernel
theorem d_Mo_cell_60 : decode c_Mo_cell 60 = .ok (.iastore, 1) := by decide +kernel
theorem d_Mo_cell_61 : decode c_Mo_cell 61 = .ok (.aload_n 0, 1) := by decide +kernel
theorem d_Mo_cell_62 : decode c_Mo_cell 62 = .ok (.dup, 1) := by decide +kernel
theorem d_Mo_cell_63 : decode c_Mo_cell 63 = .ok (.getfield 79, 3) := by decide +kernel
theorem d_Mo_cell_66 : decode c_Mo_cell 66 = .ok (.iconst 1, 1) := by decide +kernel
theorem d_Mo_cell_67 : decode c_Mo_cell 67 = .ok (.iadd, 1) := by decide +kernel
theorem d_Mo_cell_68 : decode c_Mo_cell 68 = .ok (.putfield 79, 3) := by decide +kernel
theorem d_Mo_cell_71 : decode c_Mo_cell 71 = .ok (.aload_n 0, 1) := by decide +kernel
theorem d_Mo_cell_72 : decode c_Mo_cell 72 = .ok (.iconst 0, 1) := by decide +kernel
theorem d_Mo_cell_73 : decode c_Mo_cell 73 = .ok (.putfield 84, 3) := by decide +kernel
theorem d_Mo_cell_76 : decode c_Mo_cell 76 = .ok (.aload_n 0, 1) := by decide +kernel
theorem d_Mo_cell_77 : decode c_Mo_cell 77 = .ok (.getfield 79, 3) := by decide +kernel
theorem d_Mo_cell_80 : decode c_Mo_cell 80 = .ok (.iconst 1, 1) := by decide +kernel
theorem d_Mo_cell_81 : decode c_Mo_cell 81 = .ok (.isub, 1) := by decide +kernel
theorem d_Mo_cell_82 : decode c_Mo_cell 82 = .ok (.ireturn, 1) := by decide +kernel
theorem d_Mo_want_0 : decode c_Mo_want 0 = .ok (.aload_n 0, 1) := by decide +kernel
theorem d_Mo_want_1 : decode c_Mo_want 1 = .ok (.aload_n 0, 1) := by decide +kernel
theorem d_Mo_want_2 : decode c_Mo_want 2 = .ok (.iload_n 1, 1) := by decide +kernel
theorem d_Mo_want_3 : decode c_Mo_want 3 = .ok (.invokevirtual 88, 3) := by decide +kernel
theorem d_Mo_want_6 : decode c_Mo_want 6 = .ok (.ifCond .eq 28, 3) := by decide +kernel
theorem d_Mo_want_9 : decode c_Mo_want 9 = .ok (.lload_n 2, 1) := by decide +kernel
theorem d_Mo_want_10 : decode c_Mo_want 10 = .ok (.lconst 0, 1) := by decide +kernel
theorem d_Mo_want_11 : decode c_Mo_want 11 = .ok (.lcmp, 1) := by decide +kernel
theorem d_Mo_want_12 : decode c_Mo_want 12 = .ok (.ifCond .lt 22, 3) := by decide +kernel
theorem d_Mo_want_15 : decode c_Mo_want 15 = .ok (.lload_n 2, 1) := by decide +kernel
theorem d_Mo_want_16 : decode c_Mo_want 16 = .ok (.aload_n 0, 1) := by decide +kernel
theorem d_Mo_want_17 : decode c_Mo_want 17 = .ok (.getfield 73, 3) := by decide +kernel
theorem d_Mo_want_20 : decode c_Mo_want 20 = .ok (.i2l, 1) := by decide +kernel
theorem d_Mo_want_21 : decode c_Mo_want 21 = .ok (.lcmp, 1) := by decide +kernel
theorem d_Mo_want_22 : decode c_Mo_want 22 = .ok (.ifCond .ge 12, 3) := by decide +kernel
theorem d_Mo_want_25 : decode c_Mo_want 25 = .ok (.aload_n 0, 1) := by decide +kernel
theorem d_Mo_want_26 : decode c_Mo_want 26 = .ok (.iload 4, 2) := by decide +kernel
theorem d_Mo_want_28 : decode c_Mo_want 28 = .ok (.invokevirtual 92, 3) := by decide +kernel
theorem d_Mo_want_31 : decode c_Mo_want 31 = .ok (.ifCond .ne 7, 3) := by decide +kernel
theorem d_Mo_want_34 : decode c_Mo_want 34 = .ok (.iconst 1, 1) := by decide +kernel
theorem d_Mo_want_35 : decode c_Mo_want 35 = .ok (.goto 4, 3) := by decide +kernel
theorem d_Mo_want_38 : decode c_Mo_want 38 = .ok (.iconst 0, 1) := by decide +kernel
theorem d_Mo_want_39 : decode c_Mo_want 39 = .ok (.putfield 76, 3) := by decide +kernel
theorem d_Mo_want_42 : decode c_Mo_want 42 = .ok (.aload_n 0, 1) := by decide +kernel
theorem d_Mo_want_43 : decode c_Mo_want 43 = .ok (.getfield 76, 3) := by decide +kernel
theorem d_Mo_want_46 : decode c_Mo_want 46 = .ok (.ifCond .gt 26, 3) := by decide +kernel
theorem d_Mo_want_49 : decode c_Mo_want 49 = .ok (.aload_n 0, 1) := by decide +kernel
theorem d_Mo_want_50 : decode c_Mo_want 50 = .ok (.getfield 23, 3) := by decide +kernel
theorem d_Mo_want_53 : decode c_Mo_want 53 = .ok (.iload_n 1, 1) := by decide +kernel
theorem d_Mo_want_54 : decode c_Mo_want 54 = .ok (.iaload, 1) := by decide +kernel
theorem d_Mo_want_55 : decode c_Mo_want 55 = .ok (.i2l, 1) := by decide +kernel
theorem d_Mo_want_56 : decode c_Mo_want 56 = .ok (.lload_n 2, 1) := by decide +kernel
theorem d_Mo_want_57 : decode c_Mo_want 57 = .ok (.lcmp, 1) := by decide +kernel
theorem d_Mo_want_58 : decode c_Mo_want 58 = .ok (.ifCond .ne 16, 3) := by decide +kernel
theorem d_Mo_want_61 : decode c_Mo_want 61 = .ok (.aload_n 0, 1) := by decide +kernel
theorem d_Mo_want_62 : decode c_Mo_want 62 = .ok (.getfield 26, 3) := by decide +kernel
theorem d_Mo_want_65 : decode c_Mo_want 65 = .ok (.iload_n 1, 1) := by decide +kernel
theorem d_Mo_want_66 : decode c_Mo_want 66 = .ok (.iaload, 1) := by decide +kernel
theorem d_Mo_want_67 : decode c_Mo_want 67 = .ok (.iload 4, 2) := by decide +kernel
theorem d_Mo_want_69 : decode c_Mo_want 69 = .ok (.if_icmp .ne 5, 3) := by decide +kernel
theorem d_Mo_want_72 : decode c_Mo_want 72 = .ok (.iconst 0, 1) := by decide +kernel
theorem d_Mo_want_73 : decode c_Mo_want 73 = .ok (.ireturn, 1) := by decide +kernel
theorem d_Mo_want_74 : decode c_Mo_want 74 = .ok (.aload_n 0, 1) := by decide +kernel
theorem d_Mo_want_75 : decode c_Mo_want 75 = .ok (.getfield 23, 3) := by decide +kernel
theorem d_Mo_want_78 : decode c_Mo_want 78 = .ok (.iload_n 1, 1) := by decide +kernel
theorem d_Mo_want_79 : decode c_Mo_want 79 = .ok (.lload_n 2, 1) := by decide +kernel
theorem d_Mo_want_80 : decode c_Mo_want 80 = .ok (.l2i, 1) := by decide +kernel
theorem d_Mo_want_81 : decode c_Mo_want 81 = .ok (.iastore, 1) := by decide +kernel
theorem d_Mo_want_82 : decode c_Mo_want 82 = .ok (.aload_n 0, 1) := by decide +kernel
theorem d_Mo_want_83 : decode c_Mo_want 83 = .ok (.getfield 26, 3) := by decide +kernel
theorem d_Mo_want_86 : decode c_Mo_want 86 = .ok (.iload_n 1, 1) := by decide +kernel
theorem d_Mo_want_87 : decode c_Mo_want 87 = .ok (.iload 4, 2) := by decide +kernel
theorem d_Mo_want_89 : decode c_Mo_want 89 = .ok (.iastore, 1) := by decide +kernel
theorem d_Mo_want_90 : decode c_Mo_want 90 = .ok (.aload_n 0, 1) := by decide +kernel
theorem d_Mo_want_91 : decode c_Mo_want 91 = .ok (.iconst 0, 1) := by decide +kernel
theorem d_Mo_want_92 : decode c_Mo_want 92 = .ok (.putfield 84, 3) := by decide +kernel
theorem d_Mo_want_95 : decode c_Mo_want 95 = .ok (.iconst 1, 1) := by decide +kernel
theorem d_Mo_want_96 : decode c_Mo_want 96 = .ok (.ireturn, 1) := by decide +kernel
theorem d_Mo_bar_0 : decode c_Mo_bar 0 = .ok (.aload_n 0, 1) := by decide +kernel
theorem d_Mo_bar_1 : decode c_Mo_bar 1 = .ok (.aload_n 0, 1) := by decide +kernel
theorem d_Mo_bar_2 : decode c_Mo_bar 2 = .ok (.iload_n 1, 1) := by decide +kernel
theorem d_Mo_bar_3 : decode c_Mo_bar 3 = .ok (.invokevirtual 92, 3) := by decide +kernel
theorem d_Mo_bar_6 : decode c_Mo_bar 6 = .ok (.ifCond .eq 37, 3) := by decide +kernel
theorem d_Mo_bar_9 : decode c_Mo_bar 9 = .ok (.lload_n 2, 1) := by decide +kernel
theorem d_Mo_bar_10 : decode c_Mo_bar 10 = .ok (.lconst 0, 1) := by decide +kernel
theorem d_Mo_bar_11 : decode c_Mo_bar 11 = .ok (.lcmp, 1) := by decide +kernel
theorem d_Mo_bar_12 : decode c_Mo_bar 12 = .ok (.ifCond .lt 31, 3) := by decide +kernel
theorem d_Mo_bar_15 : decode c_Mo_bar 15 = .ok (.lload_n 2, 1) := by decide +kernel
theorem d_Mo_bar_16 : decode c_Mo_bar 16 = .ok (.aload_n 0, 1) := by decide +kernel
theorem d_Mo_bar_17 : decode c_Mo_bar 17 = .ok (.getfield 73, 3) := by decide +kernel
theorem d_Mo_bar_20 : decode c_Mo_bar 20 = .ok (.i2l, 1) := by decide +kernel
theorem d_Mo_bar_21 : decode c_Mo_bar 21 = .ok (.lcmp, 1) := by decide +kernel
theorem d_Mo_bar_22 : decode c_Mo_bar 22 = .ok (.ifCond .gt 21, 3) := by decide +kernel
theorem d_Mo_bar_25 : decode c_Mo_bar 25 = .ok (.lload 4, 2) := by decide +kernel
theorem d_Mo_bar_27 : decode c_Mo_bar 27 = .ok (.lload_n 2, 1) := by decide +kernel
theorem d_Mo_bar_28 : decode c_Mo_bar 28 = .ok (.lcmp, 1) := by decide +kernel
theorem d_Mo_bar_29 : decode c_Mo_bar 29 = .ok (.ifCond .lt 14, 3) := by decide +kernel
theorem d_Mo_bar_32 : decode c_Mo_bar 32 = .ok (.lload 4, 2) := by decide +kernel
theorem d_Mo_bar_34 : decode c_Mo_bar 34 = .ok (.aload_n 0, 1) := by decide +kernel
theorem d_Mo_bar_35 : decode c_Mo_bar 35 = .ok (.getfield 73, 3) := by decide +kernel
theorem d_Mo_bar_38 : decode c_Mo_bar 38 = .ok (.i2l, 1) := by decide +kernel
theorem d_Mo_bar_39 : decode c_Mo_bar 39 = .ok (.lcmp, 1) := by decide +kernel
theorem d_Mo_bar_40 : decode c_Mo_bar 40 = .ok (.ifCond .le 7, 3) := by decide +kernel
theorem d_Mo_bar_43 : decode c_Mo_bar 43 = .ok (.iconst 1, 1) := by decide +kernel
theorem d_Mo_bar_44 : decode c_Mo_bar 44 = .ok (.goto 4, 3) := by decide +kernel
theorem d_Mo_bar_47 : decode c_Mo_bar 47 = .ok (.iconst 0, 1) := by decide +kernel
theorem d_Mo_bar_48 : decode c_Mo_bar 48 = .ok (.putfield 76, 3) := by decide +kernel
theorem d_Mo_bar_51 : decode c_Mo_bar 51 = .ok (.aload_n 0, 1) := by decide +kernel
theorem d_Mo_bar_52 : decode c_Mo_bar 52 = .ok (.getfield 76, 3) := by decide +kernel
theorem d_Mo_bar_55 : decode c_Mo_bar 55 = .ok (.ifCond .le 5, 3) := by decide +kernel
theorem d_Mo_bar_58 : decode c_Mo_bar 58 = .ok (.iconst 0, 1) := by decide +kernel
theorem d_Mo_bar_59 : decode c_Mo_bar 59 = .ok (.ireturn, 1) := by decide +kernel
theorem d_Mo_bar_60 : decode c_Mo_bar 60 = .ok (.iconst 0, 1) := by decide +kernel
theorem d_Mo_bar_61 : decode c_Mo_bar 61 = .ok (.istore 6, 2) := by decide +kernel
theorem d_Mo_bar_63 : decode c_Mo_bar 63 = .ok (.lload_n 2, 1) := by decide +kernel
theorem d_Mo_bar_64 : decode c_Mo_bar 64 = .ok (.l2i, 1) := by decide +kernel
theorem d_Mo_bar_65 : decode c_Mo_bar 65 = .ok (.istore 7, 2) := by decide +kernel
theorem d_Mo_bar_67 : decode c_Mo_bar 67 = .ok (.iload 7, 2) := by decide +kernel
theorem d_Mo_bar_69 : decode c_Mo_bar 69 = .ok (.i2l, 1) := by decide +kernel
theorem d_Mo_bar_70 : decode c_Mo_bar 70 = .ok (.lload 4, 2) := by decide +kernel
theorem d_Mo_bar_72 : decode c_Mo_bar 72 = .ok (.lcmp, 1) := by decide +kernel
theorem d_Mo_bar_73 : decode c_Mo_bar 73 = .ok (.ifCond .ge 51, 3) := by decide +kernel
theorem d_Mo_bar_76 : decode c_Mo_bar 76 = .ok (.iload 6, 2) := by decide +kernel
theorem d_Mo_bar_78 : decode c_Mo_bar 78 = .ok (.ifCond .ne 19, 3) := by decide +kernel
theorem d_Mo_bar_81 : decode c_Mo_bar 81 = .ok (.aload_n 0, 1) := by decide +kernel
theorem d_Mo_bar_82 : decode c_Mo_bar 82 = .ok (.getfield 7, 3) := by decide +kernel
theorem d_Mo_bar_85 : decode c_Mo_bar 85 = .ok (.sipush 1000, 3) := by decide +kernel
theorem d_Mo_bar_88 : decode c_Mo_bar 88 = .ok (.iload_n 1, 1) := by decide +kernel
theorem d_Mo_bar_89 : decode c_Mo_bar 89 = .ok (.imul, 1) := by decide +kernel
theorem d_Mo_bar_90 : decode c_Mo_bar 90 = .ok (.iload 7, 2) := by decide +kernel
theorem d_Mo_bar_92 : decode c_Mo_bar 92 = .ok (.iadd, 1) := by decide +kernel
theorem d_Mo_bar_93 : decode c_Mo_bar 93 = .ok (.baload, 1) := by decide +kernel
theorem d_Mo_bar_94 : decode c_Mo_bar 94 = .ok (.ifCond .ne 7, 3) := by decide +kernel
theorem d_Mo_bar_97 : decode c_Mo_bar 97 = .ok (.iconst 1, 1) := by decide +kernel
theorem d_Mo_bar_98 : decode c_Mo_bar 98 = .ok (.goto 4, 3) := by decide +kernel
theorem d_Mo_bar_101 : decode c_Mo_bar 101 = .ok (.iconst 0, 1) := by decide +kernel
theorem d_Mo_bar_102 : decode c_Mo_bar 102 = .ok (.istore 6, 2) := by decide +kernel
theorem d_Mo_bar_104 : decode c_Mo_bar 104 = .ok (.aload_n 0, 1) := by decide +kernel
theorem d_Mo_bar_105 : decode c_Mo_bar 105 = .ok (.getfield 7, 3) := by decide +kernel
theorem d_Mo_bar_108 : decode c_Mo_bar 108 = .ok (.sipush 1000, 3) := by decide +kernel
theorem d_Mo_bar_111 : decode c_Mo_bar 111 = .ok (.iload_n 1, 1) := by decide +kernel
theorem d_Mo_bar_112 : decode c_Mo_bar 112 = .ok (.imul, 1) := by decide +kernel
theorem d_Mo_bar_113 : decode c_Mo_bar 113 = .ok (.iload 7, 2) := by decide +kernel
theorem d_Mo_bar_115 : decode c_Mo_bar 115 = .ok (.iadd, 1) := by decide +kernel
theorem d_Mo_bar_116 : decode c_Mo_bar 116 = .ok (.iconst 1, 1) := by decide +kernel
theorem d_Mo_bar_117 : decode c_Mo_bar 117 = .ok (.bastore, 1) := by decide +kernel
theorem d_Mo_bar_118 : decode c_Mo_bar 118 = .ok (.iinc 7 1, 3) := by decide +kernel
theorem d_Mo_bar_121 : decode c_Mo_bar 121 = .ok (.goto (-54), 3) := by decide +kernel
theorem d_Mo_bar_124 : decode c_Mo_bar 124 = .ok (.aload_n 0, 1) := by decide +kernel
theorem d_Mo_bar_125 : decode c_Mo_bar 125 = .ok (.aload_n 0, 1) := by decide +kernel
theorem d_Mo_bar_126 : decode c_Mo_bar 126 = .ok (.getfield 84, 3) := by decide +kernel
theorem d_Mo_bar_129 : decode c_Mo_bar 129 = .ok (.ifCond .eq 12, 3) := by decide +kernel
theorem d_Mo_bar_132 : decode c_Mo_bar 132 = .ok (.iload 6, 2) := by decide +kernel
theorem d_Mo_bar_134 : decode c_Mo_bar 134 = .ok (.ifCond .ne 7, 3) := by decide +kernel
theorem d_Mo_bar_137 : decode c_Mo_bar 137 = .ok (.iconst 1, 1) := by decide +kernel
theorem d_Mo_bar_138 : decode c_Mo_bar 138 = .ok (.goto 4, 3) := by decide +kernel
theorem d_Mo_bar_141 : decode c_Mo_bar 141 = .ok (.iconst 0, 1) := by decide +kernel
theorem d_Mo_bar_142 : decode c_Mo_bar 142 = .ok (.putfield 84, 3) := by decide +kernel
theorem d_Mo_bar_145 : decode c_Mo_bar 145 = .ok (.iload 6, 2) := by decide +kernel
theorem d_Mo_bar_147 : decode c_Mo_bar 147 = .ok (.ireturn, 1) := by decide +kernel
theorem d_Mo_kind_0 : decode c_Mo_kind 0 = .ok (.aload_n 0, 1) := by decide +kernel
theorem d_Mo_kind_1 : decode c_Mo_kind 1 = .ok (.aload_n 0, 1) := by decide +kernel
theorem d_Mo_kind_2 : decode c_Mo_kind 2 = .ok (.iload_n 1, 1) := by decide +kernel
theorem d_Mo_kind_3 : decode c_Mo_kind 3 = .ok (.invokevirtual 88, 3) := by decide +kernel
theorem d_Mo_kind_6 : decode c_Mo_kind 6 = .ok (.ifCond .ne 7, 3) := by decide +kernel
theorem d_Mo_kind_9 : decode c_Mo_kind 9 = .ok (.iconst 1, 1) := by decide +kernel
theorem d_Mo_kind_10 : decode c_Mo_kind 10 = .ok (.goto 22, 3) := by decide +kernel
theorem d_Mo_kind_13 : decode c_Mo_kind 13 = .ok (.iload_n 2, 1) := by decide +kernel
theorem d_Mo_kind_14 : decode c_Mo_kind 14 = .ok (.invokestatic 95, 3) := by decide +kernel
theorem d_Mo_kind_17 : decode c_Mo_kind 17 = .ok (.ifCond .eq 14, 3) := by decide +kernel
theorem d_Mo_kind_20 : decode c_Mo_kind 20 = .ok (.iload_n 3, 1) := by decide +kernel
theorem d_Mo_kind_21 : decode c_Mo_kind 21 = .ok (.invokestatic 95, 3) := by decide +kernel
theorem d_Mo_kind_24 : decode c_Mo_kind 24 = .ok (.ifCond .eq 7, 3) := by decide +kernel
theorem d_Mo_kind_27 : decode c_Mo_kind 27 = .ok (.iconst 0, 1) := by decide +kernel
theorem d_Mo_kind_28 : decode c_Mo_kind 28 = .ok (.goto 4, 3) := by decide +kernel
theorem d_Mo_kind_31 : decode c_Mo_kind 31 = .ok (.iconst 2, 1) := by decide +kernel
theorem d_Mo_kind_32 : decode c_Mo_kind 32 = .ok (.putfield 76, 3) := by decide +kernel
theorem d_Mo_kind_35 : decode c_Mo_kind 35 = .ok (.aload_n 0, 1) := by decide +kernel
theorem d_Mo_kind_36 : decode c_Mo_kind 36 = .ok (.getfield 76, 3) := by decide +kernel
theorem d_Mo_kind_39 : decode c_Mo_kind 39 = .ok (.ifCond .gt 23, 3) := by decide +kernel
theorem d_Mo_kind_42 : decode c_Mo_kind 42 = .ok (.aload_n 0, 1) := by decide +kernel
theorem d_Mo_kind_43 : decode c_Mo_kind 43 = .ok (.getfield 17, 3) := by decide +kernel
theorem d_Mo_kind_46 : decode c_Mo_kind 46 = .ok (.iload_n 1, 1) := by decide +kernel
theorem d_Mo_kind_47 : decode c_Mo_kind 47 = .ok (.iaload, 1) := by decide +kernel
theorem d_Mo_kind_48 : decode c_Mo_kind 48 = .ok (.iload_n 2, 1) := by decide +kernel
theorem d_Mo_kind_49 : decode c_Mo_kind 49 = .ok (.if_icmp .ne 15, 3) := by decide +kernel
theorem d_Mo_kind_52 : decode c_Mo_kind 52 = .ok (.aload_n 0, 1) := by decide +kernel
theorem d_Mo_kind_53 : decode c_Mo_kind 53 = .ok (.getfield 20, 3) := by decide +kernel
theorem d_Mo_kind_56 : decode c_Mo_kind 56 = .ok (.iload_n 1, 1) := by decide +kernel
theorem d_Mo_kind_57 : decode c_Mo_kind 57 = .ok (.iaload, 1) := by decide +kernel
theorem d_Mo_kind_58 : decode c_Mo_kind 58 = .ok (.iload_n 3, 1) := by decide +kernel
theorem d_Mo_kind_59 : decode c_Mo_kind 59 = .ok (.if_icmp .ne 5, 3) := by decide +kernel
theorem d_Mo_kind_62 : decode c_Mo_kind 62 = .ok (.iconst 0, 1) := by decide +kernel
theorem d_Mo_kind_63 : decode c_Mo_kind 63 = .ok (.ireturn, 1) := by decide +kernel
theorem d_Mo_kind_64 : decode c_Mo_kind 64 = .ok (.aload_n 0, 1) := by decide +kernel
theorem d_Mo_kind_65 : decode c_Mo_kind 65 = .ok (.getfield 17, 3) := by decide +kernel
theorem d_Mo_kind_68 : decode c_Mo_kind 68 = .ok (.iload_n 1, 1) := by decide +kernel
theorem d_Mo_kind_69 : decode c_Mo_kind 69 = .ok (.iload_n 2, 1) := by decide +kernel
theorem d_Mo_kind_70 : decode c_Mo_kind 70 = .ok (.iastore, 1) := by decide +kernel
theorem d_Mo_kind_71 : decode c_Mo_kind 71 = .ok (.aload_n 0, 1) := by decide +kernel
theorem d_Mo_kind_72 : decode c_Mo_kind 72 = .ok (.getfield 20, 3) := by decide +kernel
theorem d_Mo_kind_75 : decode c_Mo_kind 75 = .ok (.iload_n 1, 1) := by decide +kernel
theorem d_Mo_kind_76 : decode c_Mo_kind 76 = .ok (.iload_n 3, 1) := by decide +kernel
theorem d_Mo_kind_77 : decode c_Mo_kind 77 = .ok (.iastore, 1) := by decide +kernel
theorem d_Mo_kind_78 : decode c_Mo_kind 78 = .ok (.aload_n 0, 1) := by decide +kernel
theorem d_Mo_kind_79 : decode c_Mo_kind 79 = .ok (.iconst 0, 1) := by decide +kernel
theorem d_Mo_kind_80 : decode c_Mo_kind 80 = .ok (.putfield 84, 3) := by decide +kernel
theorem d_Mo_kind_83 : decode c_Mo_kind 83 = .ok (.iconst 1, 1) := by decide +kernel
theorem d_Mo_kind_84 : decode c_Mo_kind 84 = .ok (.ireturn, 1) := by decide +kernel
theorem d_Mo_space_0 : decode c_Mo_space 0 = .ok (.aload_n 0, 1) := by decide +kernel
theorem d_Mo_space_1 : decode c_Mo_space 1 = .ok (.iload_n 1, 1) := by decide +kernel
theorem d_Mo_space_2 : decode c_Mo_space 2 = .ok (.invokestatic 95, 3) := by decide +kernel
theorem d_Mo_space_5 : decode c_Mo_space 5 = .ok (.ifCond .eq 24, 3) := by decide +kernel
theorem d_Mo_space_8 : decode c_Mo_space 8 = .ok (.iload_n 2, 1) := by decide +kernel
theorem d_Mo_space_9 : decode c_Mo_space 9 = .ok (.invokestatic 95, 3) := by decide +kernel
theorem d_Mo_space_12 : decode c_Mo_space 12 = .ok (.ifCond .eq 17, 3) := by decide +kernel
theorem d_Mo_space_15 : decode c_Mo_space 15 = .ok (.lload_n 3, 1) := by decide +kernel
theorem d_Mo_space_16 : decode c_Mo_space 16 = .ok (.lconst 0, 1) := by decide +kernel
theorem d_Mo_space_17 : decode c_Mo_space 17 = .ok (.lcmp, 1) := by decide +kernel
theorem d_Mo_space_18 : decode c_Mo_space 18 = .ok (.ifCond .lt 11, 3) := by decide +kernel
theorem d_Mo_space_21 : decode c_Mo_space 21 = .ok (.lload_n 3, 1) := by decide +kernel
theorem d_Mo_space_22 : decode c_Mo_space 22 = .ok (.ldc2_w 98, 3) := by decide +kernel
theorem d_Mo_space_25 : decode c_Mo_space 25 = .ok (.lcmp, 1) := by decide +kernel
theorem d_Mo_space_26 : decode c_Mo_space 26 = .ok (.ifCond .le 7, 3) := by decide +kernel
theorem d_Mo_space_29 : decode c_Mo_space 29 = .ok (.iconst 1, 1) := by decide +kernel
theorem d_Mo_space_30 : decode c_Mo_space 30 = .ok (.goto 4, 3) := by decide +kernel
theorem d_Mo_space_33 : decode c_Mo_space 33 = .ok (.iconst 0, 1) := by decide +kernel
theorem d_Mo_space_34 : decode c_Mo_space 34 = .ok (.putfield 76, 3) := by decide +kernel
theorem d_Mo_space_37 : decode c_Mo_space 37 = .ok (.aload_n 0, 1) := by decide +kernel
theorem d_Mo_space_38 : decode c_Mo_space 38 = .ok (.getfield 76, 3) := by decide +kernel
theorem d_Mo_space_41 : decode c_Mo_space 41 = .ok (.ifCond .gt 19, 3) := by decide +kernel
theorem d_Mo_space_44 : decode c_Mo_space 44 = .ok (.aload_n 0, 1) := by decide +kernel
theorem d_Mo_space_45 : decode c_Mo_space 45 = .ok (.getfield 29, 3) := by decide +kernel
theorem d_Mo_space_48 : decode c_Mo_space 48 = .ok (.iconst 4, 1) := by decide +kernel
theorem d_Mo_space_49 : decode c_Mo_space 49 = .ok (.iload_n 1, 1) := by decide +kernel
theorem d_Mo_space_50 : decode c_Mo_space 50 = .ok (.imul, 1) := by decide +kernel
theorem d_Mo_space_51 : decode c_Mo_space 51 = .ok (.iload_n 2, 1) := by decide +kernel
theorem d_Mo_space_52 : decode c_Mo_space 52 = .ok (.iadd, 1) := by decide +kernel
theorem d_Mo_space_53 : decode c_Mo_space 53 = .ok (.iaload, 1) := by decide +kernel
theorem d_Mo_space_54 : decode c_Mo_space 54 = .ok (.i2l, 1) := by decide +kernel
theorem d_Mo_space_55 : decode c_Mo_space 55 = .ok (.lload_n 3, 1) := by decide +kernel
theorem d_Mo_space_56 : decode c_Mo_space 56 = .ok (.lcmp, 1) := by decide +kernel
theorem d_Mo_space_57 : decode c_Mo_space 57 = .ok (.ifCond .ne 5, 3) := by decide +kernel
theorem d_Mo_space_60 : decode c_Mo_space 60 = .ok (.iconst 0, 1) := by decide +kernel
theorem d_Mo_space_61 : decode c_Mo_space 61 = .ok (.ireturn, 1) := by decide +kernel
theorem d_Mo_space_62 : decode c_Mo_space 62 = .ok (.aload_n 0, 1) := by decide +kernel
theorem d_Mo_space_63 : decode c_Mo_space 63 = .ok (.getfield 29, 3) := by decide +kernel
theorem d_Mo_space_66 : decode c_Mo_space 66 = .ok (.iconst 4, 1) := by decide +kernel
theorem d_Mo_space_67 : decode c_Mo_space 67 = .ok (.iload_n 1, 1) := by decide +kernel
theorem d_Mo_space_68 : decode c_Mo_space 68 = .ok (.imul, 1) := by decide +kernel
theorem d_Mo_space_69 : decode c_Mo_space 69 = .ok (.iload_n 2, 1) := by decide +kernel
theorem d_Mo_space_70 : decode c_Mo_space 70 = .ok (.iadd, 1) := by decide +kernel
theorem d_Mo_space_71 : decode c_Mo_space 71 = .ok (.lload_n 3, 1) := by decide +kernel
theorem d_Mo_space_72 : decode c_Mo_space 72 = .ok (.l2i, 1) := by decide +kernel
theorem d_Mo_space_73 : decode c_Mo_space 73 = .ok (.iastore, 1) := by decide +kernel
theorem d_Mo_space_74 : decode c_Mo_space 74 = .ok (.aload_n 0, 1) := by decide +kernel
theorem d_Mo_space_75 : decode c_Mo_space 75 = .ok (.iconst 0, 1) := by decide +kernel
theorem d_Mo_space_76 : decode c_Mo_space 76 = .ok (.putfield 84, 3) := by decide +kernel
theorem d_Mo_space_79 : decode c_Mo_space 79 = .ok (.iconst 1, 1) := by decide +kernel
theorem d_Mo_space_80 : decode c_Mo_space 80 = .ok (.ireturn, 1) := by decide +kernel
theorem d_Mo_gather_0 : decode c_Mo_gather 0 = .ok (.aload_n 0, 1) := by decide +kernel
theorem d_Mo_gather_1 : decode c_Mo_gather 1 = .ok (.iconst 0, 1) := by decide +kernel
theorem d_Mo_gather_2 : decode c_Mo_gather 2 = .ok (.putfield 100, 3) := by decide +kernel
theorem d_Mo_gather_5 : decode c_Mo_gather 5 = .ok (.iconst 0, 1) := by decide +kernel
theorem d_Mo_gather_6 : decode c_Mo_gather 6 = .ok (.istore_n 3, 1) := by decide +kernel
theorem d_Mo_gather_7 : decode c_Mo_gather 7 = .ok (.iload_n 3, 1) := by decide +kernel
theorem d_Mo_gather_8 : decode c_Mo_gather 8 = .ok (.aload_n 0, 1) := by decide +kernel
theorem d_Mo_gather_9 : decode c_Mo_gather 9 = .ok (.getfield 103, 3) := by decide +kernel
theorem d_Mo_gather_12 : decode c_Mo_gather 12 = .ok (.if_icmp .ge 55, 3) := by decide +kernel
theorem d_Mo_gather_15 : decode c_Mo_gather 15 = .ok (.aload_n 0, 1) := by decide +kernel
theorem d_Mo_gather_16 : decode c_Mo_gather 16 = .ok (.getfield 55, 3) := by decide +kernel
theorem d_Mo_gather_19 : decode c_Mo_gather 19 = .ok (.iload_n 3, 1) := by decide +kernel
theorem d_Mo_gather_20 : decode c_Mo_gather 20 = .ok (.iaload, 1) := by decide +kernel
theorem d_Mo_gather_21 : decode c_Mo_gather 21 = .ok (.istore 4, 2) := by decide +kernel
theorem d_Mo_gather_23 : decode c_Mo_gather 23 = .ok (.aload_n 0, 1) := by decide +kernel
theorem d_Mo_gather_24 : decode c_Mo_gather 24 = .ok (.getfield 44, 3) := by decide +kernel
theorem d_Mo_gather_27 : decode c_Mo_gather 27 = .ok (.iload 4, 2) := by decide +kernel
theorem d_Mo_gather_29 : decode c_Mo_gather 29 = .ok (.iaload, 1) := by decide +kernel
theorem d_Mo_gather_30 : decode c_Mo_gather 30 = .ok (.sipush 1000, 3) := by decide +kernel
theorem d_Mo_gather_33 : decode c_Mo_gather 33 = .ok (.iload_n 1, 1) := by decide +kernel
theorem d_Mo_gather_34 : decode c_Mo_gather 34 = .ok (.imul, 1) := by decide +kernel
theorem d_Mo_gather_35 : decode c_Mo_gather 35 = .ok (.iload_n 2, 1) := by decide +kernel
theorem d_Mo_gather_36 : decode c_Mo_gather 36 = .ok (.iadd, 1) := by decide +kernel
theorem d_Mo_gather_37 : decode c_Mo_gather 37 = .ok (.if_icmp .ne 24, 3) := by decide +kernel
theorem d_Mo_gather_40 : decode c_Mo_gather 40 = .ok (.aload_n 0, 1) := by decide +kernel
theorem d_Mo_gather_41 : decode c_Mo_gather 41 = .ok (.getfield 47, 3) := by decide +kernel
theorem d_Mo_gather_44 : decode c_Mo_gather 44 = .ok (.aload_n 0, 1) := by decide +kernel
theorem d_Mo_gather_45 : decode c_Mo_gather 45 = .ok (.getfield 100, 3) := by decide +kernel
theorem d_Mo_gather_48 : decode c_Mo_gather 48 = .ok (.iload 4, 2) := by decide +kernel
theorem d_Mo_gather_50 : decode c_Mo_gather 50 = .ok (.iastore, 1) := by decide +kernel
theorem d_Mo_gather_51 : decode c_Mo_gather 51 = .ok (.aload_n 0, 1) := by decide +kernel
theorem d_Mo_gather_52 : decode c_Mo_gather 52 = .ok (.dup, 1) := by decide +kernel
theorem d_Mo_gather_53 : decode c_Mo_gather 53 = .ok (.getfield 100, 3) := by decide +kernel
theorem d_Mo_gather_56 : decode c_Mo_gather 56 = .ok (.iconst 1, 1) := by decide +kernel
theorem d_Mo_gather_57 : decode c_Mo_gather 57 = .ok (.iadd, 1) := by decide +kernel
theorem d_Mo_gather_58 : decode c_Mo_gather 58 = .ok (.putfield 100, 3) := by decide +kernel
theorem d_Mo_gather_61 : decode c_Mo_gather 61 = .ok (.iinc 3 1, 3) := by decide +kernel
theorem d_Mo_gather_64 : decode c_Mo_gather 64 = .ok (.goto (-57), 3) := by decide +kernel
theorem d_Mo_gather_67 : decode c_Mo_gather 67 = .ok (.return_, 1) := by decide +kernel
theorem d_Mo_far_0 : decode c_Mo_far 0 = .ok (.iload_n 0, 1) := by decide +kernel
theorem d_Mo_far_1 : decode c_Mo_far 1 = .ok (.iload_n 1, 1) := by decide +kernel
theorem d_Mo_far_2 : decode c_Mo_far 2 = .ok (.if_icmp .le 9, 3) := by decide +kernel
theorem d_Mo_far_5 : decode c_Mo_far 5 = .ok (.iload_n 0, 1) := by decide +kernel
theorem d_Mo_far_6 : decode c_Mo_far 6 = .ok (.iload_n 1, 1) := by decide +kernel
theorem d_Mo_far_7 : decode c_Mo_far 7 = .ok (.isub, 1) := by decide +kernel
theorem d_Mo_far_8 : decode c_Mo_far 8 = .ok (.goto 6, 3) := by decide +kernel
theorem d_Mo_far_11 : decode c_Mo_far 11 = .ok (.iload_n 1, 1) := by decide +kernel
theorem d_Mo_far_12 : decode c_Mo_far 12 = .ok (.iload_n 0, 1) := by decide +kernel
theorem d_Mo_far_13 : decode c_Mo_far 13 = .ok (.isub, 1) := by decide +kernel
theorem d_Mo_far_14 : decode c_Mo_far 14 = .ok (.ireturn, 1) := by decide +kernel
theorem d_Mo_behind_0 : decode c_Mo_behind 0 = .ok (.iload_n 1, 1) := by decide +kernel
theorem d_Mo_behind_1 : decode c_Mo_behind 1 = .ok (.iconst 1, 1) := by decide +kernel
theorem d_Mo_behind_2 : decode c_Mo_behind 2 = .ok (.iadd, 1) := by decide +kernel
theorem d_Mo_behind_3 : decode c_Mo_behind 3 = .ok (.aload_n 0, 1) := by decide +kernel
theorem d_Mo_behind_4 : decode c_Mo_behind 4 = .ok (.getfield 100, 3) := by decide +kernel
theorem d_Mo_behind_7 : decode c_Mo_behind 7 = .ok (.if_icmp .ge 38, 3) := by decide +kernel
theorem d_Mo_behind_10 : decode c_Mo_behind 10 = .ok (.aload_n 0, 1) := by decide +kernel
theorem d_Mo_behind_11 : decode c_Mo_behind 11 = .ok (.getfield 29, 3) := by decide +kernel
theorem d_Mo_behind_14 : decode c_Mo_behind 14 = .ok (.iconst 4, 1) := by decide +kernel
theorem d_Mo_behind_15 : decode c_Mo_behind 15 = .ok (.aload_n 0, 1) := by decide +kernel
theorem d_Mo_behind_16 : decode c_Mo_behind 16 = .ok (.getfield 20, 3) := by decide +kernel
theorem d_Mo_behind_19 : decode c_Mo_behind 19 = .ok (.aload_n 0, 1) := by decide +kernel
theorem d_Mo_behind_20 : decode c_Mo_behind 20 = .ok (.getfield 47, 3) := by decide +kernel
theorem d_Mo_behind_23 : decode c_Mo_behind 23 = .ok (.iload_n 1, 1) := by decide +kernel
theorem d_Mo_behind_24 : decode c_Mo_behind 24 = .ok (.iaload, 1) := by decide +kernel
theorem d_Mo_behind_25 : decode c_Mo_behind 25 = .ok (.iaload, 1) := by decide +kernel
theorem d_Mo_behind_26 : decode c_Mo_behind 26 = .ok (.imul, 1) := by decide +kernel
theorem d_Mo_behind_27 : decode c_Mo_behind 27 = .ok (.aload_n 0, 1) := by decide +kernel
theorem d_Mo_behind_28 : decode c_Mo_behind 28 = .ok (.getfield 17, 3) := by decide +kernel
theorem d_Mo_behind_31 : decode c_Mo_behind 31 = .ok (.aload_n 0, 1) := by decide +kernel
theorem d_Mo_behind_32 : decode c_Mo_behind 32 = .ok (.getfield 47, 3) := by decide +kernel
theorem d_Mo_behind_35 : decode c_Mo_behind 35 = .ok (.iload_n 1, 1) := by decide +kernel
theorem d_Mo_behind_36 : decode c_Mo_behind 36 = .ok (.iconst 1, 1) := by decide +kernel
theorem d_Mo_behind_37 : decode c_Mo_behind 37 = .ok (.iadd, 1) := by decide +kernel
theorem d_Mo_behind_38 : decode c_Mo_behind 38 = .ok (.iaload, 1) := by decide +kernel
theorem d_Mo_behind_39 : decode c_Mo_behind 39 = .ok (.iaload, 1) := by decide +kernel
theorem d_Mo_behind_40 : decode c_Mo_behind 40 = .ok (.iadd, 1) := by decide +kernel
theorem d_Mo_behind_41 : decode c_Mo_behind 41 = .ok (.iaload, 1) := by decide +kernel
theorem d_Mo_behind_42 : decode c_Mo_behind 42 = .ok (.goto 4, 3) := by decide +kernel
theorem d_Mo_behind_45 : decode c_Mo_behind 45 = .ok (.iconst 0, 1) := by decide +kernel
theorem d_Mo_behind_46 : decode c_Mo_behind 46 = .ok (.istore_n 3, 1) := by decide +kernel
theorem d_Mo_behind_47 : decode c_Mo_behind 47 = .ok (.iload_n 2, 1) := by decide +kernel
theorem d_Mo_behind_48 : decode c_Mo_behind 48 = .ok (.aload_n 0, 1) := by decide +kernel
theorem d_Mo_behind_49 : decode c_Mo_behind 49 = .ok (.getfield 13, 3) := by decide +kernel
theorem d_Mo_behind_52 : decode c_Mo_behind 52 = .ok (.aload_n 0, 1) := by decide +kernel
theorem d_Mo_behind_53 : decode c_Mo_behind 53 = .ok (.getfield 47, 3) := by decide +kernel
theorem d_Mo_behind_56 : decode c_Mo_behind 56 = .ok (.iload_n 1, 1) := by decide +kernel
theorem d_Mo_behind_57 : decode c_Mo_behind 57 = .ok (.iaload, 1) := by decide +kernel
theorem d_Mo_behind_58 : decode c_Mo_behind 58 = .ok (.iaload, 1) := by decide +kernel
theorem d_Mo_behind_59 : decode c_Mo_behind 59 = .ok (.iadd, 1) := by decide +kernel
theorem d_Mo_behind_60 : decode c_Mo_behind 60 = .ok (.iload_n 3, 1) := by decide +kernel
theorem d_Mo_behind_61 : decode c_Mo_behind 61 = .ok (.iadd, 1) := by decide +kernel
theorem d_Mo_behind_62 : decode c_Mo_behind 62 = .ok (.ireturn, 1) := by decide +kernel
theorem d_Mo_costAt_0 : decode c_Mo_costAt 0 = .ok (.iload_n 2, 1) := by decide +kernel
theorem d_Mo_costAt_1 : decode c_Mo_costAt 1 = .ok (.aload_n 0, 1) := by decide +kernel
theorem d_Mo_costAt_2 : decode c_Mo_costAt 2 = .ok (.getfield 13, 3) := by decide +kernel
theorem d_Mo_costAt_5 : decode c_Mo_costAt 5 = .ok (.aload_n 0, 1) := by decide +kernel
theorem d_Mo_costAt_6 : decode c_Mo_costAt 6 = .ok (.getfield 47, 3) := by decide +kernel
theorem d_Mo_costAt_9 : decode c_Mo_costAt 9 = .ok (.iload_n 1, 1) := by decide +kernel
theorem d_Mo_costAt_10 : decode c_Mo_costAt 10 = .ok (.iaload, 1) := by decide +kernel
theorem d_Mo_costAt_11 : decode c_Mo_costAt 11 = .ok (.iaload, 1) := by decide +kernel
theorem d_Mo_costAt_12 : decode c_Mo_costAt 12 = .ok (.iadd, 1) := by decide +kernel
theorem d_Mo_costAt_13 : decode c_Mo_costAt 13 = .ok (.aload_n 0, 1) := by decide +kernel
theorem d_Mo_costAt_14 : decode c_Mo_costAt 14 = .ok (.getfield 106, 3) := by decide +kernel
theorem d_Mo_costAt_17 : decode c_Mo_costAt 17 = .ok (.if_icmp .le 7, 3) := by decide +kernel
theorem d_Mo_costAt_20 : decode c_Mo_costAt 20 = .ok (.ldc2_w 109, 3) := by decide +kernel
theorem d_Mo_costAt_23 : decode c_Mo_costAt 23 = .ok (.lreturn, 1) := by decide +kernel
theorem d_Mo_costAt_24 : decode c_Mo_costAt 24 = .ok (.lconst 0, 1) := by decide +kernel
theorem d_Mo_costAt_25 : decode c_Mo_costAt 25 = .ok (.lstore_n 3, 1) := by decide +kernel
theorem d_Mo_costAt_26 : decode c_Mo_costAt 26 = .ok (.iload_n 1, 1) := by decide +kernel
theorem d_Mo_costAt_27 : decode c_Mo_costAt 27 = .ok (.iconst 1, 1) := by decide +kernel
theorem d_Mo_costAt_28 : decode c_Mo_costAt 28 = .ok (.iadd, 1) := by decide +kernel
theorem d_Mo_costAt_29 : decode c_Mo_costAt 29 = .ok (.aload_n 0, 1) := by decide +kernel
theorem d_Mo_costAt_30 : decode c_Mo_costAt 30 = .ok (.getfield 100, 3) := by decide +kernel
theorem d_Mo_costAt_33 : decode c_Mo_costAt 33 = .ok (.if_icmp .ge 42, 3) := by decide +kernel
theorem d_Mo_costAt_36 : decode c_Mo_costAt 36 = .ok (.aload_n 0, 1) := by decide +kernel
theorem d_Mo_costAt_37 : decode c_Mo_costAt 37 = .ok (.iload_n 1, 1) := by decide +kernel
theorem d_Mo_costAt_38 : decode c_Mo_costAt 38 = .ok (.iload_n 2, 1) := by decide +kernel
theorem d_Mo_costAt_39 : decode c_Mo_costAt 39 = .ok (.invokevirtual 111, 3) := by decide +kernel
theorem d_Mo_costAt_42 : decode c_Mo_costAt 42 = .ok (.istore 5, 2) := by decide +kernel
theorem d_Mo_costAt_44 : decode c_Mo_costAt 44 = .ok (.iload 5, 2) := by decide +kernel
theorem d_Mo_costAt_46 : decode c_Mo_costAt 46 = .ok (.aload_n 0, 1) := by decide +kernel
theorem d_Mo_costAt_47 : decode c_Mo_costAt 47 = .ok (.getfield 106, 3) := by decide +kernel
theorem d_Mo_costAt_50 : decode c_Mo_costAt 50 = .ok (.if_icmp .le 9, 3) := by decide +kernel
theorem d_Mo_costAt_53 : decode c_Mo_costAt 53 = .ok (.ldc2_w 109, 3) := by decide +kernel
theorem d_Mo_costAt_56 : decode c_Mo_costAt 56 = .ok (.goto 18, 3) := by decide +kernel
theorem d_Mo_costAt_59 : decode c_Mo_costAt 59 = .ok (.aload_n 0, 1) := by decide +kernel
theorem d_Mo_costAt_60 : decode c_Mo_costAt 60 = .ok (.getfield 51, 3) := by decide +kernel
theorem d_Mo_costAt_63 : decode c_Mo_costAt 63 = .ok (.sipush 1001, 3) := by decide +kernel
theorem d_Mo_costAt_66 : decode c_Mo_costAt 66 = .ok (.iload_n 1, 1) := by decide +kernel
theorem d_Mo_costAt_67 : decode c_Mo_costAt 67 = .ok (.iconst 1, 1) := by decide +kernel
theorem d_Mo_costAt_68 : decode c_Mo_costAt 68 = .ok (.iadd, 1) := by decide +kernel
theorem d_Mo_costAt_69 : decode c_Mo_costAt 69 = .ok (.imul, 1) := by decide +kernel
theorem d_Mo_costAt_70 : decode c_Mo_costAt 70 = .ok (.iload 5, 2) := by decide +kernel
theorem d_Mo_costAt_72 : decode c_Mo_costAt 72 = .ok (.iadd, 1) := by decide +kernel
theorem d_Mo_costAt_73 : decode c_Mo_costAt 73 = .ok (.laload, 1) := by decide +kernel
theorem d_Mo_costAt_74 : decode c_Mo_costAt 74 = .ok (.lstore_n 3, 1) := by decide +kernel
theorem d_Mo_costAt_75 : decode c_Mo_costAt 75 = .ok (.lload_n 3, 1) := by decide +kernel
theorem d_Mo_costAt_76 : decode c_Mo_costAt 76 = .ok (.ldc2_w 109, 3) := by decide +kernel
theorem d_Mo_costAt_79 : decode c_Mo_costAt 79 = .ok (.lcmp, 1) := by decide +kernel
theorem d_Mo_costAt_80 : decode c_Mo_costAt 80 = .ok (.ifCond .lt 9, 3) := by decide +kernel
theorem d_Mo_costAt_83 : decode c_Mo_costAt 83 = .ok (.ldc2_w 109, 3) := by decide +kernel
theorem d_Mo_costAt_86 : decode c_Mo_costAt 86 = .ok (.goto 21, 3) := by decide +kernel
theorem d_Mo_costAt_89 : decode c_Mo_costAt 89 = .ok (.lload_n 3, 1) := by decide +kernel
theorem d_Mo_costAt_90 : decode c_Mo_costAt 90 = .ok (.iload_n 2, 1) := by decide +kernel
theorem d_Mo_costAt_91 : decode c_Mo_costAt 91 = .ok (.aload_n 0, 1) := by decide +kernel
theorem d_Mo_costAt_92 : decode c_Mo_costAt 92 = .ok (.getfield 23, 3) := by decide +kernel
theorem d_Mo_costAt_95 : decode c_Mo_costAt 95 = .ok (.aload_n 0, 1) := by decide +kernel
theorem d_Mo_costAt_96 : decode c_Mo_costAt 96 = .ok (.getfield 47, 3) := by decide +kernel
theorem d_Mo_costAt_99 : decode c_Mo_costAt 99 = .ok (.iload_n 1, 1) := by decide +kernel
theorem d_Mo_costAt_100 : decode c_Mo_costAt 100 = .ok (.iaload, 1) := by decide +kernel
theorem d_Mo_costAt_101 : decode c_Mo_costAt 101 = .ok (.iaload, 1) := by decide +kernel
theorem d_Mo_costAt_102 : decode c_Mo_costAt 102 = .ok (.invokestatic 115, 3) := by decide +kernel
theorem d_Mo_costAt_105 : decode c_Mo_costAt 105 = .ok (.i2l, 1) := by decide +kernel
theorem d_Mo_costAt_106 : decode c_Mo_costAt 106 = .ok (.ladd, 1) := by decide +kernel
theorem d_Mo_costAt_107 : decode c_Mo_costAt 107 = .ok (.lreturn, 1) := by decide +kernel
theorem d_Mo_lay_0 : decode c_Mo_lay 0 = .ok (.aload_n 0, 1) := by decide +kernel
theorem d_Mo_lay_1 : decode c_Mo_lay 1 = .ok (.getfield 100, 3) := by decide +kernel
theorem d_Mo_lay_4 : decode c_Mo_lay 4 = .ok (.iconst 1, 1) := by decide +kernel
theorem d_Mo_lay_5 : decode c_Mo_lay 5 = .ok (.isub, 1) := by decide +kernel
theorem d_Mo_lay_6 : decode c_Mo_lay 6 = .ok (.istore_n 1, 1) := by decide +kernel
theorem d_Mo_lay_7 : decode c_Mo_lay 7 = .ok (.iload_n 1, 1) := by decide +kernel
theorem d_Mo_lay_8 : decode c_Mo_lay 8 = .ok (.ifCond .lt 71, 3) := by decide +kernel
theorem d_Mo_lay_11 : decode c_Mo_lay 11 = .ok (.ldc2_w 109, 3) := by decide +kernel
theorem d_Mo_lay_14 : decode c_Mo_lay 14 = .ok (.lstore_n 2, 1) := by decide +kernel
theorem d_Mo_lay_15 : decode c_Mo_lay 15 = .ok (.aload_n 0, 1) := by decide +kernel
theorem d_Mo_lay_16 : decode c_Mo_lay 16 = .ok (.getfield 106, 3) := by decide +kernel
theorem d_Mo_lay_19 : decode c_Mo_lay 19 = .ok (.istore 4, 2) := by decide +kernel
theorem d_Mo_lay_21 : decode c_Mo_lay 21 = .ok (.iload 4, 2) := by decide +kernel
theorem d_Mo_lay_23 : decode c_Mo_lay 23 = .ok (.aload_n 0, 1) := by decide +kernel
theorem d_Mo_lay_24 : decode c_Mo_lay 24 = .ok (.getfield 118, 3) := by decide +kernel
theorem d_Mo_lay_27 : decode c_Mo_lay 27 = .ok (.if_icmp .lt 46, 3) := by decide +kernel
theorem d_Mo_lay_30 : decode c_Mo_lay 30 = .ok (.aload_n 0, 1) := by decide +kernel
theorem d_Mo_lay_31 : decode c_Mo_lay 31 = .ok (.iload_n 1, 1) := by decide +kernel
theorem d_Mo_lay_32 : decode c_Mo_lay 32 = .ok (.iload 4, 2) := by decide +kernel
theorem d_Mo_lay_34 : decode c_Mo_lay 34 = .ok (.invokevirtual 121, 3) := by decide +kernel
theorem d_Mo_lay_37 : decode c_Mo_lay 37 = .ok (.lstore 5, 2) := by decide +kernel
theorem d_Mo_lay_39 : decode c_Mo_lay 39 = .ok (.lload 5, 2) := by decide +kernel
theorem d_Mo_lay_41 : decode c_Mo_lay 41 = .ok (.lload_n 2, 1) := by decide +kernel
theorem d_Mo_lay_42 : decode c_Mo_lay 42 = .ok (.lcmp, 1) := by decide +kernel
theorem d_Mo_lay_43 : decode c_Mo_lay 43 = .ok (.ifCond .ge 8, 3) := by decide +kernel
theorem d_Mo_lay_46 : decode c_Mo_lay 46 = .ok (.lload 5, 2) := by decide +kernel
theorem d_Mo_lay_48 : decode c_Mo_lay 48 = .ok (.goto 4, 3) := by decide +kernel
theorem d_Mo_lay_51 : decode c_Mo_lay 51 = .ok (.lload_n 2, 1) := by decide +kernel
theorem d_Mo_lay_52 : decode c_Mo_lay 52 = .ok (.lstore_n 2, 1) := by decide +kernel
theorem d_Mo_lay_53 : decode c_Mo_lay 53 = .ok (.aload_n 0, 1) := by decide +kernel
theorem d_Mo_lay_54 : decode c_Mo_lay 54 = .ok (.getfield 51, 3) := by decide +kernel
theorem d_Mo_lay_57 : decode c_Mo_lay 57 = .ok (.sipush 1001, 3) := by decide +kernel
theorem d_Mo_lay_60 : decode c_Mo_lay 60 = .ok (.iload_n 1, 1) := by decide +kernel
theorem d_Mo_lay_61 : decode c_Mo_lay 61 = .ok (.imul, 1) := by decide +kernel
theorem d_Mo_lay_62 : decode c_Mo_lay 62 = .ok (.iload 4, 2) := by decide +kernel
theorem d_Mo_lay_64 : decode c_Mo_lay 64 = .ok (.iadd, 1) := by decide +kernel
theorem d_Mo_lay_65 : decode c_Mo_lay 65 = .ok (.lload_n 2, 1) := by decide +kernel
theorem d_Mo_lay_66 : decode c_Mo_lay 66 = .ok (.lastore, 1) := by decide +kernel
theorem d_Mo_lay_67 : decode c_Mo_lay 67 = .ok (.iinc 4 (-1), 3) := by decide +kernel
theorem d_Mo_lay_70 : decode c_Mo_lay 70 = .ok (.goto (-49), 3) := by decide +kernel
theorem d_Mo_lay_73 : decode c_Mo_lay 73 = .ok (.iinc 1 (-1), 3) := by decide +kernel
theorem d_Mo_lay_76 : decode c_Mo_lay 76 = .ok (.goto (-69), 3) := by decide +kernel
theorem d_Mo_lay_79 : decode c_Mo_lay 79 = .ok (.aload_n 0, 1) := by decide +kernel
theorem d_Mo_lay_80 : decode c_Mo_lay 80 = .ok (.getfield 100, 3) := by decide +kernel
theorem d_Mo_lay_83 : decode c_Mo_lay 83 = .ok (.ifCond .ne 7, 3) := by decide +kernel
theorem d_Mo_lay_86 : decode c_Mo_lay 86 = .ok (.lconst 0, 1) := by decide +kernel
theorem d_Mo_lay_87 : decode c_Mo_lay 87 = .ok (.goto 12, 3) := by decide +kernel
theorem d_Mo_lay_90 : decode c_Mo_lay 90 = .ok (.aload_n 0, 1) := by decide +kernel
theorem d_Mo_lay_91 : decode c_Mo_lay 91 = .ok (.getfield 51, 3) := by decide +kernel
theorem d_Mo_lay_94 : decode c_Mo_lay 94 = .ok (.aload_n 0, 1) := by decide +kernel
theorem d_Mo_lay_95 : decode c_Mo_lay 95 = .ok (.getfield 118, 3) := by decide +kernel
theorem d_Mo_lay_98 : decode c_Mo_lay 98 = .ok (.laload, 1) := by decide +kernel
theorem d_Mo_lay_99 : decode c_Mo_lay 99 = .ok (.lreturn, 1) := by decide +kernel
theorem d_Mo_settle_0 : decode c_Mo_settle 0 = .ok (.aload_n 0, 1) := by decide +kernel
theorem d_Mo_settle_1 : decode c_Mo_settle 1 = .ok (.invokevirtual 125, 3) := by decide +kernel
theorem d_Mo_settle_4 : decode c_Mo_settle 4 = .ok (.pop2, 1) := by decide +kernel
theorem d_Mo_settle_5 : decode c_Mo_settle 5 = .ok (.aload_n 0, 1) := by decide +kernel
theorem d_Mo_settle_6 : decode c_Mo_settle 6 = .ok (.getfield 118, 3) := by decide +kernel
theorem d_Mo_settle_9 : decode c_Mo_settle 9 = .ok (.istore_n 2, 1) := by decide +kernel
theorem d_Mo_settle_10 : decode c_Mo_settle 10 = .ok (.iconst 0, 1) := by decide +kernel
theorem d_Mo_settle_11 : decode c_Mo_settle 11 = .ok (.istore_n 3, 1) := by decide +kernel
theorem d_Mo_settle_12 : decode c_Mo_settle 12 = .ok (.iload_n 3, 1) := by decide +kernel
theorem d_Mo_settle_13 : decode c_Mo_settle 13 = .ok (.aload_n 0, 1) := by decide +kernel
theorem d_Mo_settle_14 : decode c_Mo_settle 14 = .ok (.getfield 100, 3) := by decide +kernel
theorem d_Mo_settle_17 : decode c_Mo_settle 17 = .ok (.if_icmp .ge 72, 3) := by decide +kernel
theorem d_Mo_settle_20 : decode c_Mo_settle 20 = .ok (.aload_n 0, 1) := by decide +kernel
theorem d_Mo_settle_21 : decode c_Mo_settle 21 = .ok (.getfield 51, 3) := by decide +kernel
theorem d_Mo_settle_24 : decode c_Mo_settle 24 = .ok (.sipush 1001, 3) := by decide +kernel
theorem d_Mo_settle_27 : decode c_Mo_settle 27 = .ok (.iload_n 3, 1) := by decide +kernel
theorem d_Mo_settle_28 : decode c_Mo_settle 28 = .ok (.imul, 1) := by decide +kernel
theorem d_Mo_settle_29 : decode c_Mo_settle 29 = .ok (.iload_n 2, 1) := by decide +kernel
theorem d_Mo_settle_30 : decode c_Mo_settle 30 = .ok (.iadd, 1) := by decide +kernel
theorem d_Mo_settle_31 : decode c_Mo_settle 31 = .ok (.laload, 1) := by decide +kernel
theorem d_Mo_settle_32 : decode c_Mo_settle 32 = .ok (.lstore 4, 2) := by decide +kernel
theorem d_Mo_settle_34 : decode c_Mo_settle 34 = .ok (.aload_n 0, 1) := by decide +kernel
theorem d_Mo_settle_35 : decode c_Mo_settle 35 = .ok (.iload_n 3, 1) := by decide +kernel
theorem d_Mo_settle_36 : decode c_Mo_settle 36 = .ok (.iload_n 2, 1) := by decide +kernel
theorem d_Mo_settle_37 : decode c_Mo_settle 37 = .ok (.invokevirtual 121, 3) := by decide +kernel
theorem d_Mo_settle_40 : decode c_Mo_settle 40 = .ok (.lload 4, 2) := by decide +kernel
theorem d_Mo_settle_42 : decode c_Mo_settle 42 = .ok (.lcmp, 1) := by decide +kernel
theorem d_Mo_settle_43 : decode c_Mo_settle 43 = .ok (.ifCond .eq 9, 3) := by decide +kernel
theorem d_Mo_settle_46 : decode c_Mo_settle 46 = .ok (.iinc 2 1, 3) := by decide +kernel
theorem d_Mo_settle_49 : decode c_Mo_settle 49 = .ok (.goto (-15), 3) := by decide +kernel
theorem d_Mo_settle_52 : decode c_Mo_settle 52 = .ok (.aload_n 0, 1) := by decide +kernel
theorem d_Mo_settle_53 : decode c_Mo_settle 53 = .ok (.getfield 38, 3) := by decide +kernel
theorem d_Mo_settle_56 : decode c_Mo_settle 56 = .ok (.aload_n 0, 1) := by decide +kernel
theorem d_Mo_settle_57 : decode c_Mo_settle 57 = .ok (.getfield 47, 3) := by decide +kernel
theorem d_Mo_settle_60 : decode c_Mo_settle 60 = .ok (.iload_n 3, 1) := by decide +kernel
theorem d_Mo_settle_61 : decode c_Mo_settle 61 = .ok (.iaload, 1) := by decide +kernel
theorem d_Mo_settle_62 : decode c_Mo_settle 62 = .ok (.iload_n 2, 1) := by decide +kernel
theorem d_Mo_settle_63 : decode c_Mo_settle 63 = .ok (.iastore, 1) := by decide +kernel
theorem d_Mo_settle_64 : decode c_Mo_settle 64 = .ok (.aload_n 0, 1) := by decide +kernel
theorem d_Mo_settle_65 : decode c_Mo_settle 65 = .ok (.getfield 41, 3) := by decide +kernel
theorem d_Mo_settle_68 : decode c_Mo_settle 68 = .ok (.aload_n 0, 1) := by decide +kernel
theorem d_Mo_settle_69 : decode c_Mo_settle 69 = .ok (.getfield 47, 3) := by decide +kernel
theorem d_Mo_settle_72 : decode c_Mo_settle 72 = .ok (.iload_n 3, 1) := by decide +kernel
theorem d_Mo_settle_73 : decode c_Mo_settle 73 = .ok (.iaload, 1) := by decide +kernel
theorem d_Mo_settle_74 : decode c_Mo_settle 74 = .ok (.iload_n 1, 1) := by decide +kernel
theorem d_Mo_settle_75 : decode c_Mo_settle 75 = .ok (.iastore, 1) := by decide +kernel
theorem d_Mo_settle_76 : decode c_Mo_settle 76 = .ok (.aload_n 0, 1) := by decide +kernel
theorem d_Mo_settle_77 : decode c_Mo_settle 77 = .ok (.iload_n 3, 1) := by decide +kernel
theorem d_Mo_settle_78 : decode c_Mo_settle 78 = .ok (.iload_n 2, 1) := by decide +kernel
theorem d_Mo_settle_79 : decode c_Mo_settle 79 = .ok (.invokevirtual 111, 3) := by decide +kernel
theorem d_Mo_settle_82 : decode c_Mo_settle 82 = .ok (.istore_n 2, 1) := by decide +kernel
theorem d_Mo_settle_83 : decode c_Mo_settle 83 = .ok (.iinc 3 1, 3) := by decide +kernel
theorem d_Mo_settle_86 : decode c_Mo_settle 86 = .ok (.goto (-74), 3) := by decide +kernel
theorem d_Mo_settle_89 : decode c_Mo_settle 89 = .ok (.return_, 1) := by decide +kernel
theorem d_Mo_sort_0 : decode c_Mo_sort 0 = .ok (.iconst 0, 1) := by decide +kernel
theorem d_Mo_sort_1 : decode c_Mo_sort 1 = .ok (.istore_n 1, 1) := by decide +kernel
theorem d_Mo_sort_2 : decode c_Mo_sort 2 = .ok (.iload_n 1, 1) := by decide +kernel
theorem d_Mo_sort_3 : decode c_Mo_sort 3 = .ok (.aload_n 0, 1) := by decide +kernel
theorem d_Mo_sort_4 : decode c_Mo_sort 4 = .ok (.getfield 79, 3) := by decide +kernel
theorem d_Mo_sort_7 : decode c_Mo_sort 7 = .ok (.if_icmp .ge 71, 3) := by decide +kernel
theorem d_Mo_sort_10 : decode c_Mo_sort 10 = .ok (.iload_n 1, 1) := by decide +kernel
theorem d_Mo_sort_11 : decode c_Mo_sort 11 = .ok (.istore_n 2, 1) := by decide +kernel
theorem d_Mo_sort_12 : decode c_Mo_sort 12 = .ok (.iload_n 2, 1) := by decide +kernel
theorem d_Mo_sort_13 : decode c_Mo_sort 13 = .ok (.ifCond .le 45, 3) := by decide +kernel
theorem d_Mo_sort_16 : decode c_Mo_sort 16 = .ok (.aload_n 0, 1) := by decide +kernel
theorem d_Mo_sort_17 : decode c_Mo_sort 17 = .ok (.getfield 23, 3) := by decide +kernel
theorem d_Mo_sort_20 : decode c_Mo_sort 20 = .ok (.aload_n 0, 1) := by decide +kernel
theorem d_Mo_sort_21 : decode c_Mo_sort 21 = .ok (.getfield 55, 3) := by decide +kernel
theorem d_Mo_sort_24 : decode c_Mo_sort 24 = .ok (.iload_n 2, 1) := by decide +kernel
theorem d_Mo_sort_25 : decode c_Mo_sort 25 = .ok (.iconst 1, 1) := by decide +kernel
theorem d_Mo_sort_26 : decode c_Mo_sort 26 = .ok (.isub, 1) := by decide +kernel
theorem d_Mo_sort_27 : decode c_Mo_sort 27 = .ok (.iaload, 1) := by decide +kernel
theorem d_Mo_sort_28 : decode c_Mo_sort 28 = .ok (.iaload, 1) := by decide +kernel
theorem d_Mo_sort_29 : decode c_Mo_sort 29 = .ok (.aload_n 0, 1) := by decide +kernel
theorem d_Mo_sort_30 : decode c_Mo_sort 30 = .ok (.getfield 23, 3) := by decide +kernel
theorem d_Mo_sort_33 : decode c_Mo_sort 33 = .ok (.iload_n 1, 1) := by decide +kernel
theorem d_Mo_sort_34 : decode c_Mo_sort 34 = .ok (.iaload, 1) := by decide +kernel
theorem d_Mo_sort_35 : decode c_Mo_sort 35 = .ok (.if_icmp .le 23, 3) := by decide +kernel
theorem d_Mo_sort_38 : decode c_Mo_sort 38 = .ok (.aload_n 0, 1) := by decide +kernel
theorem d_Mo_sort_39 : decode c_Mo_sort 39 = .ok (.getfield 55, 3) := by decide +kernel
theorem d_Mo_sort_42 : decode c_Mo_sort 42 = .ok (.iload_n 2, 1) := by decide +kernel
theorem d_Mo_sort_43 : decode c_Mo_sort 43 = .ok (.aload_n 0, 1) := by decide +kernel
theorem d_Mo_sort_44 : decode c_Mo_sort 44 = .ok (.getfield 55, 3) := by decide +kernel
theorem d_Mo_sort_47 : decode c_Mo_sort 47 = .ok (.iload_n 2, 1) := by decide +kernel
theorem d_Mo_sort_48 : decode c_Mo_sort 48 = .ok (.iconst 1, 1) := by decide +kernel
theorem d_Mo_sort_49 : decode c_Mo_sort 49 = .ok (.isub, 1) := by decide +kernel
theorem d_Mo_sort_50 : decode c_Mo_sort 50 = .ok (.iaload, 1) := by decide +kernel
theorem d_Mo_sort_51 : decode c_Mo_sort 51 = .ok (.iastore, 1) := by decide +kernel
theorem d_Mo_sort_52 : decode c_Mo_sort 52 = .ok (.iinc 2 (-1), 3) := by decide +kernel
theorem d_Mo_sort_55 : decode c_Mo_sort 55 = .ok (.goto (-43), 3) := by decide +kernel
theorem d_Mo_sort_58 : decode c_Mo_sort 58 = .ok (.aload_n 0, 1) := by decide +kernel
theorem d_Mo_sort_59 : decode c_Mo_sort 59 = .ok (.getfield 55, 3) := by decide +kernel
theorem d_Mo_sort_62 : decode c_Mo_sort 62 = .ok (.iload_n 2, 1) := by decide +kernel
theorem d_Mo_sort_63 : decode c_Mo_sort 63 = .ok (.iload_n 1, 1) := by decide +kernel
theorem d_Mo_sort_64 : decode c_Mo_sort 64 = .ok (.iastore, 1) := by decide +kernel
theorem d_Mo_sort_65 : decode c_Mo_sort 65 = .ok (.aload_n 0, 1) := by decide +kernel
theorem d_Mo_sort_66 : decode c_Mo_sort 66 = .ok (.getfield 44, 3) := by decide +kernel
theorem d_Mo_sort_69 : decode c_Mo_sort 69 = .ok (.iload_n 1, 1) := by decide +kernel
theorem d_Mo_sort_70 : decode c_Mo_sort 70 = .ok (.iconst (-1), 1) := by decide +kernel
theorem d_Mo_sort_71 : decode c_Mo_sort 71 = .ok (.iastore, 1) := by decide +kernel
theorem d_Mo_sort_72 : decode c_Mo_sort 72 = .ok (.iinc 1 1, 3) := by decide +kernel
theorem d_Mo_sort_75 : decode c_Mo_sort 75 = .ok (.goto (-73), 3) := by decide +kernel
theorem d_Mo_sort_78 : decode c_Mo_sort 78 = .ok (.return_, 1) := by decide +kernel
theorem d_Mo_endOf_0 : decode c_Mo_endOf 0 = .ok (.iload_n 2, 1) := by decide +kernel
theorem d_Mo_endOf_1 : decode c_Mo_endOf 1 = .ok (.istore_n 3, 1) := by decide +kernel
theorem d_Mo_endOf_2 : decode c_Mo_endOf 2 = .ok (.iload_n 3, 1) := by decide +kernel
theorem d_Mo_endOf_3 : decode c_Mo_endOf 3 = .ok (.aload_n 0, 1) := by decide +kernel
theorem d_Mo_endOf_4 : decode c_Mo_endOf 4 = .ok (.getfield 73, 3) := by decide +kernel
theorem d_Mo_endOf_7 : decode c_Mo_endOf 7 = .ok (.if_icmp .ge 24, 3) := by decide +kernel
theorem d_Mo_endOf_10 : decode c_Mo_endOf 10 = .ok (.aload_n 0, 1) := by decide +kernel
theorem d_Mo_endOf_11 : decode c_Mo_endOf 11 = .ok (.getfield 7, 3) := by decide +kernel
theorem d_Mo_endOf_14 : decode c_Mo_endOf 14 = .ok (.sipush 1000, 3) := by decide +kernel
theorem d_Mo_endOf_17 : decode c_Mo_endOf 17 = .ok (.iload_n 1, 1) := by decide +kernel
theorem d_Mo_endOf_18 : decode c_Mo_endOf 18 = .ok (.imul, 1) := by decide +kernel
theorem d_Mo_endOf_19 : decode c_Mo_endOf 19 = .ok (.iload_n 3, 1) := by decide +kernel
theorem d_Mo_endOf_20 : decode c_Mo_endOf 20 = .ok (.iadd, 1) := by decide +kernel
theorem d_Mo_endOf_21 : decode c_Mo_endOf 21 = .ok (.baload, 1) := by decide +kernel
theorem d_Mo_endOf_22 : decode c_Mo_endOf 22 = .ok (.ifCond .ne 9, 3) := by decide +kernel
theorem d_Mo_endOf_25 : decode c_Mo_endOf 25 = .ok (.iinc 3 1, 3) := by decide +kernel
theorem d_Mo_endOf_28 : decode c_Mo_endOf 28 = .ok (.goto (-26), 3) := by decide +kernel
theorem d_Mo_endOf_31 : decode c_Mo_endOf 31 = .ok (.iload_n 3, 1) := by decide +kernel
theorem d_Mo_endOf_32 : decode c_Mo_endOf 32 = .ok (.ireturn, 1) := by decide +kernel
theorem d_Mo_isBegin_0 : decode c_Mo_isBegin 0 = .ok (.aload_n 0, 1) := by decide +kernel
theorem d_Mo_isBegin_1 : decode c_Mo_isBegin 1 = .ok (.getfield 7, 3) := by decide +kernel
theorem d_Mo_isBegin_4 : decode c_Mo_isBegin 4 = .ok (.sipush 1000, 3) := by decide +kernel
theorem d_Mo_isBegin_7 : decode c_Mo_isBegin 7 = .ok (.iload_n 1, 1) := by decide +kernel
theorem d_Mo_isBegin_8 : decode c_Mo_isBegin 8 = .ok (.imul, 1) := by decide +kernel
theorem d_Mo_isBegin_9 : decode c_Mo_isBegin 9 = .ok (.iload_n 2, 1) := by decide +kernel
theorem d_Mo_isBegin_10 : decode c_Mo_isBegin 10 = .ok (.iadd, 1) := by decide +kernel
theorem d_Mo_isBegin_11 : decode c_Mo_isBegin 11 = .ok (.baload, 1) := by decide +kernel
theorem d_Mo_isBegin_12 : decode c_Mo_isBegin 12 = .ok (.ifCond .ne 28, 3) := by decide +kernel
theorem d_Mo_isBegin_15 : decode c_Mo_isBegin 15 = .ok (.iload_n 2, 1) := by decide +kernel
theorem d_Mo_isBegin_16 : decode c_Mo_isBegin 16 = .ok (.ifCond .eq 20, 3) := by decide +kernel
theorem d_Mo_isBegin_19 : decode c_Mo_isBegin 19 = .ok (.aload_n 0, 1) := by decide +kernel
theorem d_Mo_isBegin_20 : decode c_Mo_isBegin 20 = .ok (.getfield 7, 3) := by decide +kernel
theorem d_Mo_isBegin_23 : decode c_Mo_isBegin 23 = .ok (.sipush 1000, 3) := by decide +kernel
theorem d_Mo_isBegin_26 : decode c_Mo_isBegin 26 = .ok (.iload_n 1, 1) := by decide +kernel
theorem d_Mo_isBegin_27 : decode c_Mo_isBegin 27 = .ok (.imul, 1) := by decide +kernel
theorem d_Mo_isBegin_28 : decode c_Mo_isBegin 28 = .ok (.iload_n 2, 1) := by decide +kernel
theorem d_Mo_isBegin_29 : decode c_Mo_isBegin 29 = .ok (.iadd, 1) := by decide +kernel
theorem d_Mo_isBegin_30 : decode c_Mo_isBegin 30 = .ok (.iconst 1, 1) := by decide +kernel
theorem d_Mo_isBegin_31 : decode c_Mo_isBegin 31 = .ok (.isub, 1) := by decide +kernel
theorem d_Mo_isBegin_32 : decode c_Mo_isBegin 32 = .ok (.baload, 1) := by decide +kernel
theorem d_Mo_isBegin_33 : decode c_Mo_isBegin 33 = .ok (.ifCond .eq 7, 3) := by decide +kernel
theorem d_Mo_isBegin_36 : decode c_Mo_isBegin 36 = .ok (.iconst 1, 1) := by decide +kernel
theorem d_Mo_isBegin_37 : decode c_Mo_isBegin 37 = .ok (.goto 4, 3) := by decide +kernel
theorem d_Mo_isBegin_40 : decode c_Mo_isBegin 40 = .ok (.iconst 0, 1) := by decide +kernel
theorem d_Mo_isBegin_41 : decode c_Mo_isBegin 41 = .ok (.ireturn, 1) := by decide +kernel
theorem d_Mo_with_0 : decode c_Mo_with 0 = .ok (.aload_n 0, 1) := by decide +kernel
theorem d_Mo_with_1 : decode c_Mo_with 1 = .ok (.getfield 61, 3) := by decide +kernel
theorem d_Mo_with_4 : decode c_Mo_with 4 = .ok (.sipush 1000, 3) := by decide +kernel
theorem d_Mo_with_7 : decode c_Mo_with 7 = .ok (.iload_n 1, 1) := by decide +kernel
theorem d_Mo_with_8 : decode c_Mo_with 8 = .ok (.imul, 1) := by decide +kernel
theorem d_Mo_with_9 : decode c_Mo_with 9 = .ok (.aload_n 0, 1) := by decide +kernel
theorem d_Mo_with_10 : decode c_Mo_with 10 = .ok (.getfield 118, 3) := by decide +kernel
theorem d_Mo_with_13 : decode c_Mo_with 13 = .ok (.iadd, 1) := by decide +kernel
theorem d_Mo_with_14 : decode c_Mo_with 14 = .ok (.iaload, 1) := by decide +kernel
theorem d_Mo_with_15 : decode c_Mo_with 15 = .ok (.istore_n 3, 1) := by decide +kernel
theorem d_Mo_with_16 : decode c_Mo_with 16 = .ok (.iload_n 3, 1) := by decide +kernel
theorem d_Mo_with_17 : decode c_Mo_with 17 = .ok (.iconst (-1), 1) := by decide +kernel
theorem d_Mo_with_18 : decode c_Mo_with 18 = .ok (.if_icmp .ne 7, 3) := by decide +kernel
theorem d_Mo_with_21 : decode c_Mo_with 21 = .ok (.iconst 0, 1) := by decide +kernel
theorem d_Mo_with_22 : decode c_Mo_with 22 = .ok (.goto 30, 3) := by decide +kernel
theorem d_Mo_with_25 : decode c_Mo_with 25 = .ok (.aload_n 0, 1) := by decide +kernel
theorem d_Mo_with_26 : decode c_Mo_with 26 = .ok (.getfield 13, 3) := by decide +kernel
theorem d_Mo_with_29 : decode c_Mo_with 29 = .ok (.iload_n 3, 1) := by decide +kernel
theorem d_Mo_with_30 : decode c_Mo_with 30 = .ok (.iaload, 1) := by decide +kernel
theorem d_Mo_with_31 : decode c_Mo_with 31 = .ok (.aload_n 0, 1) := by decide +kernel
theorem d_Mo_with_32 : decode c_Mo_with 32 = .ok (.getfield 29, 3) := by decide +kernel
theorem d_Mo_with_35 : decode c_Mo_with 35 = .ok (.iconst 4, 1) := by decide +kernel
theorem d_Mo_with_36 : decode c_Mo_with 36 = .ok (.aload_n 0, 1) := by decide +kernel
theorem d_Mo_with_37 : decode c_Mo_with 37 = .ok (.getfield 20, 3) := by decide +kernel
theorem d_Mo_with_40 : decode c_Mo_with 40 = .ok (.iload_n 3, 1) := by decide +kernel
theorem d_Mo_with_41 : decode c_Mo_with 41 = .ok (.iaload, 1) := by decide +kernel
theorem d_Mo_with_42 : decode c_Mo_with 42 = .ok (.imul, 1) := by decide +kernel
theorem d_Mo_with_43 : decode c_Mo_with 43 = .ok (.aload_n 0, 1) := by decide +kernel
theorem d_Mo_with_44 : decode c_Mo_with 44 = .ok (.getfield 17, 3) := by decide +kernel
theorem d_Mo_with_47 : decode c_Mo_with 47 = .ok (.iload_n 2, 1) := by decide +kernel
theorem d_Mo_with_48 : decode c_Mo_with 48 = .ok (.iaload, 1) := by decide +kernel
theorem d_Mo_with_49 : decode c_Mo_with 49 = .ok (.iadd, 1) := by decide +kernel
theorem d_Mo_with_50 : decode c_Mo_with 50 = .ok (.iaload, 1) := by decide +kernel
theorem d_Mo_with_51 : decode c_Mo_with 51 = .ok (.iadd, 1) := by decide +kernel
theorem d_Mo_with_52 : decode c_Mo_with 52 = .ok (.istore 4, 2) := by decide +kernel
theorem d_Mo_with_54 : decode c_Mo_with 54 = .ok (.ldc2_w 109, 3) := by decide +kernel
theorem d_Mo_with_57 : decode c_Mo_with 57 = .ok (.lstore 5, 2) := by decide +kernel
theorem d_Mo_with_59 : decode c_Mo_with 59 = .ok (.aload_n 0, 1) := by decide +kernel
theorem d_Mo_with_60 : decode c_Mo_with 60 = .ok (.getfield 118, 3) := by decide +kernel
theorem d_Mo_with_63 : decode c_Mo_with 63 = .ok (.istore 7, 2) := by decide +kernel
theorem d_Mo_with_65 : decode c_Mo_with 65 = .ok (.iload 7, 2) := by decide +kernel
theorem d_Mo_with_67 : decode c_Mo_with 67 = .ok (.aload_n 0, 1) := by decide +kernel
theorem d_Mo_with_68 : decode c_Mo_with 68 = .ok (.getfield 106, 3) := by decide +kernel
theorem d_Mo_with_71 : decode c_Mo_with 71 = .ok (.if_icmp .ge 133, 3) := by decide +kernel
theorem d_Mo_with_74 : decode c_Mo_with 74 = .ok (.iload_n 3, 1) := by decide +kernel
theorem d_Mo_with_75 : decode c_Mo_with 75 = .ok (.iconst (-1), 1) := by decide +kernel
theorem d_Mo_with_76 : decode c_Mo_with 76 = .ok (.if_icmp .ne 7, 3) := by decide +kernel
theorem d_Mo_with_79 : decode c_Mo_with 79 = .ok (.lconst 0, 1) := by decide +kernel
theorem d_Mo_with_80 : decode c_Mo_with 80 = .ok (.goto 37, 3) := by decide +kernel
theorem d_Mo_with_83 : decode c_Mo_with 83 = .ok (.iload 7, 2) := by decide +kernel
theorem d_Mo_with_85 : decode c_Mo_with 85 = .ok (.iload 4, 2) := by decide +kernel
theorem d_Mo_with_87 : decode c_Mo_with 87 = .ok (.isub, 1) := by decide +kernel
theorem d_Mo_with_88 : decode c_Mo_with 88 = .ok (.aload_n 0, 1) := by decide +kernel
theorem d_Mo_with_89 : decode c_Mo_with 89 = .ok (.getfield 118, 3) := by decide +kernel
theorem d_Mo_with_92 : decode c_Mo_with 92 = .ok (.if_icmp .ge 9, 3) := by decide +kernel
theorem d_Mo_with_95 : decode c_Mo_with 95 = .ok (.ldc2_w 109, 3) := by decide +kernel
theorem d_Mo_with_98 : decode c_Mo_with 98 = .ok (.goto 19, 3) := by decide +kernel
theorem d_Mo_with_101 : decode c_Mo_with 101 = .ok (.aload_n 0, 1) := by decide +kernel
theorem d_Mo_with_102 : decode c_Mo_with 102 = .ok (.getfield 58, 3) := by decide +kernel
theorem d_Mo_with_105 : decode c_Mo_with 105 = .ok (.sipush 1000, 3) := by decide +kernel
theorem d_Mo_with_108 : decode c_Mo_with 108 = .ok (.iload_n 1, 1) := by decide +kernel
theorem d_Mo_with_109 : decode c_Mo_with 109 = .ok (.imul, 1) := by decide +kernel
theorem d_Mo_with_110 : decode c_Mo_with 110 = .ok (.iload 7, 2) := by decide +kernel
theorem d_Mo_with_112 : decode c_Mo_with 112 = .ok (.iadd, 1) := by decide +kernel
theorem d_Mo_with_113 : decode c_Mo_with 113 = .ok (.iload 4, 2) := by decide +kernel
theorem d_Mo_with_115 : decode c_Mo_with 115 = .ok (.isub, 1) := by decide +kernel
theorem d_Mo_with_116 : decode c_Mo_with 116 = .ok (.laload, 1) := by decide +kernel
theorem d_Mo_with_117 : decode c_Mo_with 117 = .ok (.lstore 8, 2) := by decide +kernel
theorem d_Mo_with_119 : decode c_Mo_with 119 = .ok (.iload 7, 2) := by decide +kernel
theorem d_Mo_with_121 : decode c_Mo_with 121 = .ok (.aload_n 0, 1) := by decide +kernel
theorem d_Mo_with_122 : decode c_Mo_with 122 = .ok (.getfield 13, 3) := by decide +kernel
theorem d_Mo_with_125 : decode c_Mo_with 125 = .ok (.iload_n 2, 1) := by decide +kernel
theorem d_Mo_with_126 : decode c_Mo_with 126 = .ok (.iaload, 1) := by decide +kernel
theorem d_Mo_with_127 : decode c_Mo_with 127 = .ok (.iadd, 1) := by decide +kernel
theorem d_Mo_with_128 : decode c_Mo_with 128 = .ok (.aload_n 0, 1) := by decide +kernel
theorem d_Mo_with_129 : decode c_Mo_with 129 = .ok (.getfield 106, 3) := by decide +kernel
theorem d_Mo_with_132 : decode c_Mo_with 132 = .ok (.if_icmp .gt 12, 3) := by decide +kernel
theorem d_Mo_with_135 : decode c_Mo_with 135 = .ok (.lload 8, 2) := by decide +kernel
theorem d_Mo_with_137 : decode c_Mo_with 137 = .ok (.ldc2_w 109, 3) := by decide +kernel
theorem d_Mo_with_140 : decode c_Mo_with 140 = .ok (.lcmp, 1) := by decide +kernel
theorem d_Mo_with_141 : decode c_Mo_with 141 = .ok (.ifCond .lt 9, 3) := by decide +kernel
theorem d_Mo_with_144 : decode c_Mo_with 144 = .ok (.ldc2_w 109, 3) := by decide +kernel
theorem d_Mo_with_147 : decode c_Mo_with 147 = .ok (.goto 18, 3) := by decide +kernel
theorem d_Mo_with_150 : decode c_Mo_with 150 = .ok (.lload 8, 2) := by decide +kernel
theorem d_Mo_with_152 : decode c_Mo_with 152 = .ok (.iload 7, 2) := by decide +kernel
theorem d_Mo_with_154 : decode c_Mo_with 154 = .ok (.aload_n 0, 1) := by decide +kernel
theorem d_Mo_with_155 : decode c_Mo_with 155 = .ok (.getfield 23, 3) := by decide +kernel
theorem d_Mo_with_158 : decode c_Mo_with 158 = .ok (.iload_n 2, 1) := by decide +kernel
theorem d_Mo_with_159 : decode c_Mo_with 159 = .ok (.iaload, 1) := by decide +kernel
theorem d_Mo_with_160 : decode c_Mo_with 160 = .ok (.invokestatic 115, 3) := by decide +kernel
theorem d_Mo_with_163 : decode c_Mo_with 163 = .ok (.i2l, 1) := by decide +kernel
theorem d_Mo_with_164 : decode c_Mo_with 164 = .ok (.ladd, 1) := by decide +kernel
theorem d_Mo_with_165 : decode c_Mo_with 165 = .ok (.lstore 10, 2) := by decide +kernel
theorem d_Mo_with_167 : decode c_Mo_with 167 = .ok (.lload 10, 2) := by decide +kernel
theorem d_Mo_with_169 : decode c_Mo_with 169 = .ok (.lload 5, 2) := by decide +kernel
theorem d_Mo_with_171 : decode c_Mo_with 171 = .ok (.lcmp, 1) := by decide +kernel
theorem d_Mo_with_172 : decode c_Mo_with 172 = .ok (.ifCond .ge 8, 3) := by decide +kernel
theorem d_Mo_with_175 : decode c_Mo_with 175 = .ok (.lload 10, 2) := by decide +kernel
theorem d_Mo_with_177 : decode c_Mo_with 177 = .ok (.goto 5, 3) := by decide +kernel
theorem d_Mo_with_180 : decode c_Mo_with 180 = .ok (.lload 5, 2) := by decide +kernel
theorem d_Mo_with_182 : decode c_Mo_with 182 = .ok (.lstore 5, 2) := by decide +kernel
theorem d_Mo_with_184 : decode c_Mo_with 184 = .ok (.aload_n 0, 1) := by decide +kernel
theorem d_Mo_with_185 : decode c_Mo_with 185 = .ok (.getfield 64, 3) := by decide +kernel
theorem d_Mo_with_188 : decode c_Mo_with 188 = .ok (.iload 7, 2) := by decide +kernel
theorem d_Mo_with_190 : decode c_Mo_with 190 = .ok (.aload_n 0, 1) := by decide +kernel
theorem d_Mo_with_191 : decode c_Mo_with 191 = .ok (.getfield 118, 3) := by decide +kernel
theorem d_Mo_with_194 : decode c_Mo_with 194 = .ok (.isub, 1) := by decide +kernel
theorem d_Mo_with_195 : decode c_Mo_with 195 = .ok (.lload 5, 2) := by decide +kernel
theorem d_Mo_with_197 : decode c_Mo_with 197 = .ok (.lastore, 1) := by decide +kernel
theorem d_Mo_with_198 : decode c_Mo_with 198 = .ok (.iinc 7 1, 3) := by decide +kernel
theorem d_Mo_with_201 : decode c_Mo_with 201 = .ok (.goto (-136), 3) := by decide +kernel
theorem d_Mo_with_204 : decode c_Mo_with 204 = .ok (.lload 5, 2) := by decide +kernel
theorem d_Mo_with_206 : decode c_Mo_with 206 = .ok (.lreturn, 1) := by decide +kernel
theorem d_Mo_without_0 : decode c_Mo_without 0 = .ok (.aload_n 0, 1) := by decide +kernel
theorem d_Mo_without_1 : decode c_Mo_without 1 = .ok (.getfield 61, 3) := by decide +kernel
theorem d_Mo_without_4 : decode c_Mo_without 4 = .ok (.sipush 1000, 3) := by decide +kernel
theorem d_Mo_without_7 : decode c_Mo_without 7 = .ok (.iload_n 1, 1) := by decide +kernel
theorem d_Mo_without_8 : decode c_Mo_without 8 = .ok (.imul, 1) := by decide +kernel
theorem d_Mo_without_9 : decode c_Mo_without 9 = .ok (.aload_n 0, 1) := by decide +kernel
theorem d_Mo_without_10 : decode c_Mo_without 10 = .ok (.getfield 118, 3) := by decide +kernel
theorem d_Mo_without_13 : decode c_Mo_without 13 = .ok (.iadd, 1) := by decide +kernel
theorem d_Mo_without_14 : decode c_Mo_without 14 = .ok (.iaload, 1) := by decide +kernel
theorem d_Mo_without_15 : decode c_Mo_without 15 = .ok (.iconst (-1), 1) := by decide +kernel
theorem d_Mo_without_16 : decode c_Mo_without 16 = .ok (.if_icmp .ne 7, 3) := by decide +kernel
theorem d_Mo_without_19 : decode c_Mo_without 19 = .ok (.lconst 0, 1) := by decide +kernel
theorem d_Mo_without_20 : decode c_Mo_without 20 = .ok (.goto 20, 3) := by decide +kernel
theorem d_Mo_without_23 : decode c_Mo_without 23 = .ok (.aload_n 0, 1) := by decide +kernel
theorem d_Mo_without_24 : decode c_Mo_without 24 = .ok (.getfield 58, 3) := by decide +kernel
theorem d_Mo_without_27 : decode c_Mo_without 27 = .ok (.sipush 1000, 3) := by decide +kernel
theorem d_Mo_without_30 : decode c_Mo_without 30 = .ok (.iload_n 1, 1) := by decide +kernel
theorem d_Mo_without_31 : decode c_Mo_without 31 = .ok (.imul, 1) := by decide +kernel
theorem d_Mo_without_32 : decode c_Mo_without 32 = .ok (.aload_n 0, 1) := by decide +kernel
theorem d_Mo_without_33 : decode c_Mo_without 33 = .ok (.getfield 106, 3) := by decide +kernel
theorem d_Mo_without_36 : decode c_Mo_without 36 = .ok (.iadd, 1) := by decide +kernel
theorem d_Mo_without_37 : decode c_Mo_without 37 = .ok (.iconst 1, 1) := by decide +kernel
theorem d_Mo_without_38 : decode c_Mo_without 38 = .ok (.isub, 1) := by decide +kernel
theorem d_Mo_without_39 : decode c_Mo_without 39 = .ok (.laload, 1) := by decide +kernel
theorem d_Mo_without_40 : decode c_Mo_without 40 = .ok (.lreturn, 1) := by decide +kernel
theorem d_Mo_isTaken_0 : decode c_Mo_isTaken 0 = .ok (.ldc2_w 109, 3) := by decide +kernel
theorem d_Mo_isTaken_3 : decode c_Mo_isTaken 3 = .ok (.lstore_n 2, 1) := by decide +kernel
theorem d_Mo_isTaken_4 : decode c_Mo_isTaken 4 = .ok (.iconst (-1), 1) := by decide +kernel
theorem d_Mo_isTaken_5 : decode c_Mo_isTaken 5 = .ok (.istore 4, 2) := by decide +kernel
theorem d_Mo_isTaken_7 : decode c_Mo_isTaken 7 = .ok (.iconst 0, 1) := by decide +kernel
theorem d_Mo_isTaken_8 : decode c_Mo_isTaken 8 = .ok (.istore 5, 2) := by decide +kernel
theorem d_Mo_isTaken_10 : decode c_Mo_isTaken 10 = .ok (.iload 5, 2) := by decide +kernel
theorem d_Mo_isTaken_12 : decode c_Mo_isTaken 12 = .ok (.aload_n 0, 1) := by decide +kernel
theorem d_Mo_isTaken_13 : decode c_Mo_isTaken 13 = .ok (.getfield 67, 3) := by decide +kernel
theorem d_Mo_isTaken_16 : decode c_Mo_isTaken 16 = .ok (.if_icmp .ge 126, 3) := by decide +kernel
theorem d_Mo_isTaken_19 : decode c_Mo_isTaken 19 = .ok (.iconst 0, 1) := by decide +kernel
theorem d_Mo_isTaken_20 : decode c_Mo_isTaken 20 = .ok (.istore 6, 2) := by decide +kernel
theorem d_Mo_isTaken_22 : decode c_Mo_isTaken 22 = .ok (.iload 6, 2) := by decide +kernel
theorem d_Mo_isTaken_24 : decode c_Mo_isTaken 24 = .ok (.aload_n 0, 1) := by decide +kernel
theorem d_Mo_isTaken_25 : decode c_Mo_isTaken 25 = .ok (.getfield 73, 3) := by decide +kernel
theorem d_Mo_isTaken_28 : decode c_Mo_isTaken 28 = .ok (.if_icmp .ge 108, 3) := by decide +kernel
theorem d_Mo_isTaken_31 : decode c_Mo_isTaken 31 = .ok (.aload_n 0, 1) := by decide +kernel
theorem d_Mo_isTaken_32 : decode c_Mo_isTaken 32 = .ok (.iload 5, 2) := by decide +kernel
theorem d_Mo_isTaken_34 : decode c_Mo_isTaken 34 = .ok (.iload 6, 2) := by decide +kernel
theorem d_Mo_isTaken_36 : decode c_Mo_isTaken 36 = .ok (.invokevirtual 129, 3) := by decide +kernel
theorem d_Mo_isTaken_39 : decode c_Mo_isTaken 39 = .ok (.ifCond .ne 6, 3) := by decide +kernel
theorem d_Mo_isTaken_42 : decode c_Mo_isTaken 42 = .ok (.goto 88, 3) := by decide +kernel
theorem d_Mo_isTaken_45 : decode c_Mo_isTaken 45 = .ok (.aload_n 0, 1) := by decide +kernel
theorem d_Mo_isTaken_46 : decode c_Mo_isTaken 46 = .ok (.iload 6, 2) := by decide +kernel
theorem d_Mo_isTaken_48 : decode c_Mo_isTaken 48 = .ok (.putfield 118, 3) := by decide +kernel
theorem d_Mo_isTaken_51 : decode c_Mo_isTaken 51 = .ok (.aload_n 0, 1) := by decide +kernel
theorem d_Mo_isTaken_52 : decode c_Mo_isTaken 52 = .ok (.aload_n 0, 1) := by decide +kernel
theorem d_Mo_isTaken_53 : decode c_Mo_isTaken 53 = .ok (.iload 5, 2) := by decide +kernel
theorem d_Mo_isTaken_55 : decode c_Mo_isTaken 55 = .ok (.iload 6, 2) := by decide +kernel
theorem d_Mo_isTaken_57 : decode c_Mo_isTaken 57 = .ok (.invokevirtual 133, 3) := by decide +kernel
theorem d_Mo_isTaken_60 : decode c_Mo_isTaken 60 = .ok (.putfield 106, 3) := by decide +kernel
theorem d_Mo_isTaken_63 : decode c_Mo_isTaken 63 = .ok (.aload_n 0, 1) := by decide +kernel
theorem d_Mo_isTaken_64 : decode c_Mo_isTaken 64 = .ok (.iload 5, 2) := by decide +kernel
theorem d_Mo_isTaken_66 : decode c_Mo_isTaken 66 = .ok (.iload_n 1, 1) := by decide +kernel
theorem d_Mo_isTaken_67 : decode c_Mo_isTaken 67 = .ok (.invokevirtual 136, 3) := by decide +kernel
theorem d_Mo_isTaken_70 : decode c_Mo_isTaken 70 = .ok (.lstore 7, 2) := by decide +kernel
theorem d_Mo_isTaken_72 : decode c_Mo_isTaken 72 = .ok (.lload 7, 2) := by decide +kernel
theorem d_Mo_isTaken_74 : decode c_Mo_isTaken 74 = .ok (.aload_n 0, 1) := by decide +kernel
theorem d_Mo_isTaken_75 : decode c_Mo_isTaken 75 = .ok (.iload 5, 2) := by decide +kernel
theorem d_Mo_isTaken_77 : decode c_Mo_isTaken 77 = .ok (.invokevirtual 139, 3) := by decide +kernel
theorem d_Mo_isTaken_80 : decode c_Mo_isTaken 80 = .ok (.lsub, 1) := by decide +kernel
theorem d_Mo_isTaken_81 : decode c_Mo_isTaken 81 = .ok (.ldc2_w 98, 3) := by decide +kernel
theorem d_Mo_isTaken_84 : decode c_Mo_isTaken 84 = .ok (.iload 5, 2) := by decide +kernel
theorem d_Mo_isTaken_86 : decode c_Mo_isTaken 86 = .ok (.aload_n 0, 1) := by decide +kernel
theorem d_Mo_isTaken_87 : decode c_Mo_isTaken 87 = .ok (.getfield 26, 3) := by decide +kernel
theorem d_Mo_isTaken_90 : decode c_Mo_isTaken 90 = .ok (.iload_n 1, 1) := by decide +kernel
theorem d_Mo_isTaken_91 : decode c_Mo_isTaken 91 = .ok (.iaload, 1) := by decide +kernel
theorem d_Mo_isTaken_92 : decode c_Mo_isTaken 92 = .ok (.invokestatic 115, 3) := by decide +kernel
theorem d_Mo_isTaken_95 : decode c_Mo_isTaken 95 = .ok (.i2l, 1) := by decide +kernel
theorem d_Mo_isTaken_96 : decode c_Mo_isTaken 96 = .ok (.lmul, 1) := by decide +kernel
theorem d_Mo_isTaken_97 : decode c_Mo_isTaken 97 = .ok (.ladd, 1) := by decide +kernel
theorem d_Mo_isTaken_98 : decode c_Mo_isTaken 98 = .ok (.lstore 9, 2) := by decide +kernel
theorem d_Mo_isTaken_100 : decode c_Mo_isTaken 100 = .ok (.lload 7, 2) := by decide +kernel
theorem d_Mo_isTaken_102 : decode c_Mo_isTaken 102 = .ok (.ldc2_w 109, 3) := by decide +kernel
theorem d_Mo_isTaken_105 : decode c_Mo_isTaken 105 = .ok (.lcmp, 1) := by decide +kernel
theorem d_Mo_isTaken_106 : decode c_Mo_isTaken 106 = .ok (.ifCond .ge 24, 3) := by decide +kernel
theorem d_Mo_isTaken_109 : decode c_Mo_isTaken 109 = .ok (.lload 9, 2) := by decide +kernel
theorem d_Mo_isTaken_111 : decode c_Mo_isTaken 111 = .ok (.lload_n 2, 1) := by decide +kernel
theorem d_Mo_isTaken_112 : decode c_Mo_isTaken 112 = .ok (.lcmp, 1) := by decide +kernel
theorem d_Mo_isTaken_113 : decode c_Mo_isTaken 113 = .ok (.ifCond .ge 17, 3) := by decide +kernel
theorem d_Mo_isTaken_116 : decode c_Mo_isTaken 116 = .ok (.lload 9, 2) := by decide +kernel
theorem d_Mo_isTaken_118 : decode c_Mo_isTaken 118 = .ok (.lstore_n 2, 1) := by decide +kernel
theorem d_Mo_isTaken_119 : decode c_Mo_isTaken 119 = .ok (.sipush 1000, 3) := by decide +kernel
theorem d_Mo_isTaken_122 : decode c_Mo_isTaken 122 = .ok (.iload 5, 2) := by decide +kernel
theorem d_Mo_isTaken_124 : decode c_Mo_isTaken 124 = .ok (.imul, 1) := by decide +kernel
theorem d_Mo_isTaken_125 : decode c_Mo_isTaken 125 = .ok (.iload 6, 2) := by decide +kernel
theorem d_Mo_isTaken_127 : decode c_Mo_isTaken 127 = .ok (.iadd, 1) := by decide +kernel
theorem d_Mo_isTaken_128 : decode c_Mo_isTaken 128 = .ok (.istore 4, 2) := by decide +kernel
theorem d_Mo_isTaken_130 : decode c_Mo_isTaken 130 = .ok (.iinc 6 1, 3) := by decide +kernel
theorem d_Mo_isTaken_133 : decode c_Mo_isTaken 133 = .ok (.goto (-111), 3) := by decide +kernel
theorem d_Mo_isTaken_136 : decode c_Mo_isTaken 136 = .ok (.iinc 5 1, 3) := by decide +kernel
theorem d_Mo_isTaken_139 : decode c_Mo_isTaken 139 = .ok (.goto (-129), 3) := by decide +kernel
theorem d_Mo_isTaken_142 : decode c_Mo_isTaken 142 = .ok (.aload_n 0, 1) := by decide +kernel
theorem d_Mo_isTaken_143 : decode c_Mo_isTaken 143 = .ok (.getfield 44, 3) := by decide +kernel
theorem d_Mo_isTaken_146 : decode c_Mo_isTaken 146 = .ok (.iload_n 1, 1) := by decide +kernel
theorem d_Mo_isTaken_147 : decode c_Mo_isTaken 147 = .ok (.iload 4, 2) := by decide +kernel
theorem d_Mo_isTaken_149 : decode c_Mo_isTaken 149 = .ok (.iastore, 1) := by decide +kernel
theorem d_Mo_isTaken_150 : decode c_Mo_isTaken 150 = .ok (.iload 4, 2) := by decide +kernel
theorem d_Mo_isTaken_152 : decode c_Mo_isTaken 152 = .ok (.iconst (-1), 1) := by decide +kernel
theorem d_Mo_isTaken_153 : decode c_Mo_isTaken 153 = .ok (.if_icmp .ne 5, 3) := by decide +kernel
theorem d_Mo_isTaken_156 : decode c_Mo_isTaken 156 = .ok (.iconst 0, 1) := by decide +kernel
theorem d_Mo_isTaken_157 : decode c_Mo_isTaken 157 = .ok (.ireturn, 1) := by decide +kernel
theorem d_Mo_isTaken_158 : decode c_Mo_isTaken 158 = .ok (.aload_n 0, 1) := by decide +kernel
theorem d_Mo_isTaken_159 : decode c_Mo_isTaken 159 = .ok (.iload 4, 2) := by decide +kernel
theorem d_Mo_isTaken_161 : decode c_Mo_isTaken 161 = .ok (.sipush 1000, 3) := by decide +kernel
theorem d_Mo_isTaken_164 : decode c_Mo_isTaken 164 = .ok (.irem, 1) := by decide +kernel
theorem d_Mo_isTaken_165 : decode c_Mo_isTaken 165 = .ok (.putfield 118, 3) := by decide +kernel
theorem d_Mo_isTaken_168 : decode c_Mo_isTaken 168 = .ok (.aload_n 0, 1) := by decide +kernel
theorem d_Mo_isTaken_169 : decode c_Mo_isTaken 169 = .ok (.aload_n 0, 1) := by decide +kernel
theorem d_Mo_isTaken_170 : decode c_Mo_isTaken 170 = .ok (.iload 4, 2) := by decide +kernel
theorem d_Mo_isTaken_172 : decode c_Mo_isTaken 172 = .ok (.sipush 1000, 3) := by decide +kernel
theorem d_Mo_isTaken_175 : decode c_Mo_isTaken 175 = .ok (.idiv, 1) := by decide +kernel
theorem d_Mo_isTaken_176 : decode c_Mo_isTaken 176 = .ok (.aload_n 0, 1) := by decide +kernel
theorem d_Mo_isTaken_177 : decode c_Mo_isTaken 177 = .ok (.getfield 118, 3) := by decide +kernel
theorem d_Mo_isTaken_180 : decode c_Mo_isTaken 180 = .ok (.invokevirtual 133, 3) := by decide +kernel
theorem d_Mo_isTaken_183 : decode c_Mo_isTaken 183 = .ok (.putfield 106, 3) := by decide +kernel
theorem d_Mo_isTaken_186 : decode c_Mo_isTaken 186 = .ok (.aload_n 0, 1) := by decide +kernel
theorem d_Mo_isTaken_187 : decode c_Mo_isTaken 187 = .ok (.iload 4, 2) := by decide +kernel
theorem d_Mo_isTaken_189 : decode c_Mo_isTaken 189 = .ok (.sipush 1000, 3) := by decide +kernel
theorem d_Mo_isTaken_192 : decode c_Mo_isTaken 192 = .ok (.idiv, 1) := by decide +kernel
theorem d_Mo_isTaken_193 : decode c_Mo_isTaken 193 = .ok (.iload_n 1, 1) := by decide +kernel
theorem d_Mo_isTaken_194 : decode c_Mo_isTaken 194 = .ok (.invokevirtual 136, 3) := by decide +kernel
theorem d_Mo_isTaken_197 : decode c_Mo_isTaken 197 = .ok (.pop2, 1) := by decide +kernel
theorem d_Mo_isTaken_198 : decode c_Mo_isTaken 198 = .ok (.aload_n 0, 1) := by decide +kernel
theorem d_Mo_isTaken_199 : decode c_Mo_isTaken 199 = .ok (.getfield 118, 3) := by decide +kernel
theorem d_Mo_isTaken_202 : decode c_Mo_isTaken 202 = .ok (.istore 5, 2) := by decide +kernel
theorem d_Mo_isTaken_204 : decode c_Mo_isTaken 204 = .ok (.iload 5, 2) := by decide +kernel
theorem d_Mo_isTaken_206 : decode c_Mo_isTaken 206 = .ok (.aload_n 0, 1) := by decide +kernel
theorem d_Mo_isTaken_207 : decode c_Mo_isTaken 207 = .ok (.getfield 106, 3) := by decide +kernel
theorem d_Mo_isTaken_210 : decode c_Mo_isTaken 210 = .ok (.if_icmp .ge 39, 3) := by decide +kernel
theorem d_Mo_isTaken_213 : decode c_Mo_isTaken 213 = .ok (.aload_n 0, 1) := by decide +kernel
theorem d_Mo_isTaken_214 : decode c_Mo_isTaken 214 = .ok (.getfield 58, 3) := by decide +kernel
theorem d_Mo_isTaken_217 : decode c_Mo_isTaken 217 = .ok (.sipush 1000, 3) := by decide +kernel
theorem d_Mo_isTaken_220 : decode c_Mo_isTaken 220 = .ok (.iload 4, 2) := by decide +kernel
theorem d_Mo_isTaken_222 : decode c_Mo_isTaken 222 = .ok (.sipush 1000, 3) := by decide +kernel
theorem d_Mo_isTaken_225 : decode c_Mo_isTaken 225 = .ok (.idiv, 1) := by decide +kernel
theorem d_Mo_isTaken_226 : decode c_Mo_isTaken 226 = .ok (.imul, 1) := by decide +kernel
theorem d_Mo_isTaken_227 : decode c_Mo_isTaken 227 = .ok (.iload 5, 2) := by decide +kernel
theorem d_Mo_isTaken_229 : decode c_Mo_isTaken 229 = .ok (.iadd, 1) := by decide +kernel
theorem d_Mo_isTaken_230 : decode c_Mo_isTaken 230 = .ok (.aload_n 0, 1) := by decide +kernel
theorem d_Mo_isTaken_231 : decode c_Mo_isTaken 231 = .ok (.getfield 64, 3) := by decide +kernel
theorem d_Mo_isTaken_234 : decode c_Mo_isTaken 234 = .ok (.iload 5, 2) := by decide +kernel
theorem d_Mo_isTaken_236 : decode c_Mo_isTaken 236 = .ok (.aload_n 0, 1) := by decide +kernel
theorem d_Mo_isTaken_237 : decode c_Mo_isTaken 237 = .ok (.getfield 118, 3) := by decide +kernel
theorem d_Mo_isTaken_240 : decode c_Mo_isTaken 240 = .ok (.isub, 1) := by decide +kernel
theorem d_Mo_isTaken_241 : decode c_Mo_isTaken 241 = .ok (.laload, 1) := by decide +kernel
theorem d_Mo_isTaken_242 : decode c_Mo_isTaken 242 = .ok (.lastore, 1) := by decide +kernel
theorem d_Mo_isTaken_243 : decode c_Mo_isTaken 243 = .ok (.iinc 5 1, 3) := by decide +kernel
theorem d_Mo_isTaken_246 : decode c_Mo_isTaken 246 = .ok (.goto (-42), 3) := by decide +kernel
theorem d_Mo_isTaken_249 : decode c_Mo_isTaken 249 = .ok (.aload_n 0, 1) := by decide +kernel
theorem d_Mo_isTaken_250 : decode c_Mo_isTaken 250 = .ok (.getfield 61, 3) := by decide +kernel
theorem d_Mo_isTaken_253 : decode c_Mo_isTaken 253 = .ok (.iload 4, 2) := by decide +kernel
theorem d_Mo_isTaken_255 : decode c_Mo_isTaken 255 = .ok (.iload_n 1, 1) := by decide +kernel
theorem d_Mo_isTaken_256 : decode c_Mo_isTaken 256 = .ok (.iastore, 1) := by decide +kernel
theorem d_Mo_isTaken_257 : decode c_Mo_isTaken 257 = .ok (.iconst 1, 1) := by decide +kernel
theorem d_Mo_isTaken_258 : decode c_Mo_isTaken 258 = .ok (.ireturn, 1) := by decide +kernel
theorem d_Mo_run_0 : decode c_Mo_run 0 = .ok (.aload_n 0, 1) := by decide +kernel
theorem d_Mo_run_1 : decode c_Mo_run 1 = .ok (.iconst 0, 1) := by decide +kernel
theorem d_Mo_run_2 : decode c_Mo_run 2 = .ok (.putfield 76, 3) := by decide +kernel
theorem d_Mo_run_5 : decode c_Mo_run 5 = .ok (.aload_n 0, 1) := by decide +kernel
theorem d_Mo_run_6 : decode c_Mo_run 6 = .ok (.iconst 0, 1) := by decide +kernel
theorem d_Mo_run_7 : decode c_Mo_run 7 = .ok (.putfield 84, 3) := by decide +kernel
theorem d_Mo_run_10 : decode c_Mo_run 10 = .ok (.aload_n 0, 1) := by decide +kernel
theorem d_Mo_run_11 : decode c_Mo_run 11 = .ok (.invokevirtual 143, 3) := by decide +kernel
theorem d_Mo_run_14 : decode c_Mo_run 14 = .ok (.iconst 0, 1) := by decide +kernel
theorem d_Mo_run_15 : decode c_Mo_run 15 = .ok (.istore_n 1, 1) := by decide +kernel
theorem d_Mo_run_16 : decode c_Mo_run 16 = .ok (.iload_n 1, 1) := by decide +kernel
theorem d_Mo_run_17 : decode c_Mo_run 17 = .ok (.sipush 16000, 3) := by decide +kernel
theorem d_Mo_run_20 : decode c_Mo_run 20 = .ok (.if_icmp .ge 16, 3) := by decide +kernel
theorem d_Mo_run_23 : decode c_Mo_run 23 = .ok (.aload_n 0, 1) := by decide +kernel
theorem d_Mo_run_24 : decode c_Mo_run 24 = .ok (.getfield 61, 3) := by decide +kernel
theorem d_Mo_run_27 : decode c_Mo_run 27 = .ok (.iload_n 1, 1) := by decide +kernel
theorem d_Mo_run_28 : decode c_Mo_run 28 = .ok (.iconst (-1), 1) := by decide +kernel
theorem d_Mo_run_29 : decode c_Mo_run 29 = .ok (.iastore, 1) := by decide +kernel
theorem d_Mo_run_30 : decode c_Mo_run 30 = .ok (.iinc 1 1, 3) := by decide +kernel
theorem d_Mo_run_33 : decode c_Mo_run 33 = .ok (.goto (-17), 3) := by decide +kernel
theorem d_Mo_run_36 : decode c_Mo_run 36 = .ok (.aload_n 0, 1) := by decide +kernel
theorem d_Mo_run_37 : decode c_Mo_run 37 = .ok (.iconst 0, 1) := by decide +kernel
theorem d_Mo_run_38 : decode c_Mo_run 38 = .ok (.putfield 103, 3) := by decide +kernel
theorem d_Mo_run_41 : decode c_Mo_run 41 = .ok (.aload_n 0, 1) := by decide +kernel
theorem d_Mo_run_42 : decode c_Mo_run 42 = .ok (.getfield 103, 3) := by decide +kernel
theorem d_Mo_run_45 : decode c_Mo_run 45 = .ok (.aload_n 0, 1) := by decide +kernel
theorem d_Mo_run_46 : decode c_Mo_run 46 = .ok (.getfield 79, 3) := by decide +kernel
theorem d_Mo_run_49 : decode c_Mo_run 49 = .ok (.if_icmp .ge 44, 3) := by decide +kernel
theorem d_Mo_run_52 : decode c_Mo_run 52 = .ok (.aload_n 0, 1) := by decide +kernel
theorem d_Mo_run_53 : decode c_Mo_run 53 = .ok (.aload_n 0, 1) := by decide +kernel
theorem d_Mo_run_54 : decode c_Mo_run 54 = .ok (.getfield 55, 3) := by decide +kernel
theorem d_Mo_run_57 : decode c_Mo_run 57 = .ok (.aload_n 0, 1) := by decide +kernel
theorem d_Mo_run_58 : decode c_Mo_run 58 = .ok (.getfield 103, 3) := by decide +kernel
theorem d_Mo_run_61 : decode c_Mo_run 61 = .ok (.iaload, 1) := by decide +kernel
theorem d_Mo_run_62 : decode c_Mo_run 62 = .ok (.invokevirtual 146, 3) := by decide +kernel
theorem d_Mo_run_65 : decode c_Mo_run 65 = .ok (.ifCond .ne 15, 3) := by decide +kernel
theorem d_Mo_run_68 : decode c_Mo_run 68 = .ok (.iconst 1, 1) := by decide +kernel
theorem d_Mo_run_69 : decode c_Mo_run 69 = .ok (.aload_n 0, 1) := by decide +kernel
theorem d_Mo_run_70 : decode c_Mo_run 70 = .ok (.getfield 55, 3) := by decide +kernel
theorem d_Mo_run_73 : decode c_Mo_run 73 = .ok (.aload_n 0, 1) := by decide +kernel
theorem d_Mo_run_74 : decode c_Mo_run 74 = .ok (.getfield 103, 3) := by decide +kernel
theorem d_Mo_run_77 : decode c_Mo_run 77 = .ok (.iaload, 1) := by decide +kernel
theorem d_Mo_run_78 : decode c_Mo_run 78 = .ok (.iadd, 1) := by decide +kernel
theorem d_Mo_run_79 : decode c_Mo_run 79 = .ok (.ireturn, 1) := by decide +kernel
theorem d_Mo_run_80 : decode c_Mo_run 80 = .ok (.aload_n 0, 1) := by decide +kernel
theorem d_Mo_run_81 : decode c_Mo_run 81 = .ok (.dup, 1) := by decide +kernel
theorem d_Mo_run_82 : decode c_Mo_run 82 = .ok (.getfield 103, 3) := by decide +kernel
theorem d_Mo_run_85 : decode c_Mo_run 85 = .ok (.iconst 1, 1) := by decide +kernel
theorem d_Mo_run_86 : decode c_Mo_run 86 = .ok (.iadd, 1) := by decide +kernel
theorem d_Mo_run_87 : decode c_Mo_run 87 = .ok (.putfield 103, 3) := by decide +kernel
theorem d_Mo_run_90 : decode c_Mo_run 90 = .ok (.goto (-49), 3) := by decide +kernel
theorem d_Mo_run_93 : decode c_Mo_run 93 = .ok (.iconst 0, 1) := by decide +kernel
theorem d_Mo_run_94 : decode c_Mo_run 94 = .ok (.istore_n 1, 1) := by decide +kernel
theorem d_Mo_run_95 : decode c_Mo_run 95 = .ok (.iload_n 1, 1) := by decide +kernel
theorem d_Mo_run_96 : decode c_Mo_run 96 = .ok (.aload_n 0, 1) := by decide +kernel
theorem d_Mo_run_97 : decode c_Mo_run 97 = .ok (.getfield 67, 3) := by decide +kernel
theorem d_Mo_run_100 : decode c_Mo_run 100 = .ok (.if_icmp .ge 60, 3) := by decide +kernel
theorem d_Mo_run_103 : decode c_Mo_run 103 = .ok (.iconst 0, 1) := by decide +kernel
theorem d_Mo_run_104 : decode c_Mo_run 104 = .ok (.istore_n 2, 1) := by decide +kernel
theorem d_Mo_run_105 : decode c_Mo_run 105 = .ok (.iload_n 2, 1) := by decide +kernel
theorem d_Mo_run_106 : decode c_Mo_run 106 = .ok (.aload_n 0, 1) := by decide +kernel
theorem d_Mo_run_107 : decode c_Mo_run 107 = .ok (.getfield 73, 3) := by decide +kernel
theorem d_Mo_run_110 : decode c_Mo_run 110 = .ok (.if_icmp .ge 44, 3) := by decide +kernel
theorem d_Mo_run_113 : decode c_Mo_run 113 = .ok (.aload_n 0, 1) := by decide +kernel
theorem d_Mo_run_114 : decode c_Mo_run 114 = .ok (.iload_n 1, 1) := by decide +kernel
theorem d_Mo_run_115 : decode c_Mo_run 115 = .ok (.iload_n 2, 1) := by decide +kernel
theorem d_Mo_run_116 : decode c_Mo_run 116 = .ok (.invokevirtual 129, 3) := by decide +kernel
theorem d_Mo_run_119 : decode c_Mo_run 119 = .ok (.ifCond .eq 29, 3) := by decide +kernel
theorem d_Mo_run_122 : decode c_Mo_run 122 = .ok (.aload_n 0, 1) := by decide +kernel
theorem d_Mo_run_123 : decode c_Mo_run 123 = .ok (.iload_n 2, 1) := by decide +kernel
theorem d_Mo_run_124 : decode c_Mo_run 124 = .ok (.putfield 118, 3) := by decide +kernel
theorem d_Mo_run_127 : decode c_Mo_run 127 = .ok (.aload_n 0, 1) := by decide +kernel
theorem d_Mo_run_128 : decode c_Mo_run 128 = .ok (.aload_n 0, 1) := by decide +kernel
theorem d_Mo_run_129 : decode c_Mo_run 129 = .ok (.iload_n 1, 1) := by decide +kernel
theorem d_Mo_run_130 : decode c_Mo_run 130 = .ok (.iload_n 2, 1) := by decide +kernel
theorem d_Mo_run_131 : decode c_Mo_run 131 = .ok (.invokevirtual 133, 3) := by decide +kernel
theorem d_Mo_run_134 : decode c_Mo_run 134 = .ok (.putfield 106, 3) := by decide +kernel
theorem d_Mo_run_137 : decode c_Mo_run 137 = .ok (.aload_n 0, 1) := by decide +kernel
theorem d_Mo_run_138 : decode c_Mo_run 138 = .ok (.iload_n 1, 1) := by decide +kernel
theorem d_Mo_run_139 : decode c_Mo_run 139 = .ok (.iload_n 2, 1) := by decide +kernel
theorem d_Mo_run_140 : decode c_Mo_run 140 = .ok (.invokevirtual 149, 3) := by decide +kernel
theorem d_Mo_run_143 : decode c_Mo_run 143 = .ok (.aload_n 0, 1) := by decide +kernel
theorem d_Mo_run_144 : decode c_Mo_run 144 = .ok (.iload_n 1, 1) := by decide +kernel
theorem d_Mo_run_145 : decode c_Mo_run 145 = .ok (.invokevirtual 153, 3) := by decide +kernel
theorem d_Mo_run_148 : decode c_Mo_run 148 = .ok (.iinc 2 1, 3) := by decide +kernel
theorem d_Mo_run_151 : decode c_Mo_run 151 = .ok (.goto (-46), 3) := by decide +kernel
theorem d_Mo_run_154 : decode c_Mo_run 154 = .ok (.iinc 1 1, 3) := by decide +kernel
theorem d_Mo_run_157 : decode c_Mo_run 157 = .ok (.goto (-62), 3) := by decide +kernel
theorem d_Mo_run_160 : decode c_Mo_run 160 = .ok (.aload_n 0, 1) := by decide +kernel
theorem d_Mo_run_161 : decode c_Mo_run 161 = .ok (.iconst 1, 1) := by decide +kernel
theorem d_Mo_run_162 : decode c_Mo_run 162 = .ok (.putfield 84, 3) := by decide +kernel
theorem d_Mo_run_165 : decode c_Mo_run 165 = .ok (.iconst 0, 1) := by decide +kernel
theorem d_Mo_run_166 : decode c_Mo_run 166 = .ok (.ireturn, 1) := by decide +kernel
theorem d_Mo_faultOf_0 : decode c_Mo_faultOf 0 = .ok (.aload_n 0, 1) := by decide +kernel
theorem d_Mo_faultOf_1 : decode c_Mo_faultOf 1 = .ok (.iload_n 1, 1) := by decide +kernel
theorem d_Mo_faultOf_2 : decode c_Mo_faultOf 2 = .ok (.invokevirtual 88, 3) := by decide +kernel
theorem d_Mo_faultOf_5 : decode c_Mo_faultOf 5 = .ok (.ifCond .ne 7, 3) := by decide +kernel
theorem d_Mo_faultOf_8 : decode c_Mo_faultOf 8 = .ok (.iconst 1, 1) := by decide +kernel
theorem d_Mo_faultOf_9 : decode c_Mo_faultOf 9 = .ok (.goto 15, 3) := by decide +kernel
theorem d_Mo_faultOf_12 : decode c_Mo_faultOf 12 = .ok (.aload_n 0, 1) := by decide +kernel
theorem d_Mo_faultOf_13 : decode c_Mo_faultOf 13 = .ok (.getfield 84, 3) := by decide +kernel
theorem d_Mo_faultOf_16 : decode c_Mo_faultOf 16 = .ok (.ifCond .eq 7, 3) := by decide +kernel
theorem d_Mo_faultOf_19 : decode c_Mo_faultOf 19 = .ok (.iconst 0, 1) := by decide +kernel
theorem d_Mo_faultOf_20 : decode c_Mo_faultOf 20 = .ok (.goto 4, 3) := by decide +kernel
theorem d_Mo_faultOf_23 : decode c_Mo_faultOf 23 = .ok (.iconst 2, 1) := by decide +kernel
theorem d_Mo_faultOf_24 : decode c_Mo_faultOf 24 = .ok (.ireturn, 1) := by decide +kernel
theorem d_Mo_at_0 : decode c_Mo_at 0 = .ok (.aload_n 0, 1) := by decide +kernel
theorem d_Mo_at_1 : decode c_Mo_at 1 = .ok (.aload_n 0, 1) := by decide +kernel
theorem d_Mo_at_2 : decode c_Mo_at 2 = .ok (.iload_n 1, 1) := by decide +kernel
theorem d_Mo_at_3 : decode c_Mo_at 3 = .ok (.invokevirtual 157, 3) := by decide +kernel
theorem d_Mo_at_6 : decode c_Mo_at 6 = .ok (.putfield 76, 3) := by decide +kernel
theorem d_Mo_at_9 : decode c_Mo_at 9 = .ok (.aload_n 0, 1) := by decide +kernel
theorem d_Mo_at_10 : decode c_Mo_at 10 = .ok (.getfield 76, 3) := by decide +kernel
theorem d_Mo_at_13 : decode c_Mo_at 13 = .ok (.ifCond .le 7, 3) := by decide +kernel
theorem d_Mo_at_16 : decode c_Mo_at 16 = .ok (.lconst 0, 1) := by decide +kernel
theorem d_Mo_at_17 : decode c_Mo_at 17 = .ok (.goto 10, 3) := by decide +kernel
theorem d_Mo_at_20 : decode c_Mo_at 20 = .ok (.aload_n 0, 1) := by decide +kernel
theorem d_Mo_at_21 : decode c_Mo_at 21 = .ok (.getfield 38, 3) := by decide +kernel
theorem d_Mo_at_24 : decode c_Mo_at 24 = .ok (.iload_n 1, 1) := by decide +kernel
theorem d_Mo_at_25 : decode c_Mo_at 25 = .ok (.iaload, 1) := by decide +kernel
theorem d_Mo_at_26 : decode c_Mo_at 26 = .ok (.i2l, 1) := by decide +kernel
theorem d_Mo_at_27 : decode c_Mo_at 27 = .ok (.lreturn, 1) := by decide +kernel
theorem d_Mo_rowOf_0 : decode c_Mo_rowOf 0 = .ok (.aload_n 0, 1) := by decide +kernel
theorem d_Mo_rowOf_1 : decode c_Mo_rowOf 1 = .ok (.aload_n 0, 1) := by decide +kernel
theorem d_Mo_rowOf_2 : decode c_Mo_rowOf 2 = .ok (.iload_n 1, 1) := by decide +kernel
theorem d_Mo_rowOf_3 : decode c_Mo_rowOf 3 = .ok (.invokevirtual 157, 3) := by decide +kernel
theorem d_Mo_rowOf_6 : decode c_Mo_rowOf 6 = .ok (.putfield 76, 3) := by decide +kernel
theorem d_Mo_rowOf_9 : decode c_Mo_rowOf 9 = .ok (.aload_n 0, 1) := by decide +kernel
theorem d_Mo_rowOf_10 : decode c_Mo_rowOf 10 = .ok (.getfield 76, 3) := by decide +kernel
theorem d_Mo_rowOf_13 : decode c_Mo_rowOf 13 = .ok (.ifCond .le 7, 3) := by decide +kernel
theorem d_Mo_rowOf_16 : decode c_Mo_rowOf 16 = .ok (.iconst 0, 1) := by decide +kernel
theorem d_Mo_rowOf_17 : decode c_Mo_rowOf 17 = .ok (.goto 9, 3) := by decide +kernel
theorem d_Mo_rowOf_20 : decode c_Mo_rowOf 20 = .ok (.aload_n 0, 1) := by decide +kernel
theorem d_Mo_rowOf_21 : decode c_Mo_rowOf 21 = .ok (.getfield 41, 3) := by decide +kernel
theorem d_Mo_rowOf_24 : decode c_Mo_rowOf 24 = .ok (.iload_n 1, 1) := by decide +kernel
theorem d_Mo_rowOf_25 : decode c_Mo_rowOf 25 = .ok (.iaload, 1) := by decide +kernel
theorem d_Mo_rowOf_26 : decode c_Mo_rowOf 26 = .ok (.ireturn, 1) := by decide +kernel
theorem d_Mo_mirrored_0 : decode c_Mo_mirrored 0 = .ok (.aload_n 0, 1) := by decide +kernel
theorem d_Mo_mirrored_1 : decode c_Mo_mirrored 1 = .ok (.aload_n 0, 1) := by decide +kernel
theorem d_Mo_mirrored_2 : decode c_Mo_mirrored 2 = .ok (.iload_n 1, 1) := by decide +kernel
theorem d_Mo_mirrored_3 : decode c_Mo_mirrored 3 = .ok (.invokevirtual 157, 3) := by decide +kernel
theorem d_Mo_mirrored_6 : decode c_Mo_mirrored 6 = .ok (.putfield 76, 3) := by decide +kernel
theorem d_Mo_mirrored_9 : decode c_Mo_mirrored 9 = .ok (.aload_n 0, 1) := by decide +kernel
theorem d_Mo_mirrored_10 : decode c_Mo_mirrored 10 = .ok (.getfield 76, 3) := by decide +kernel
theorem d_Mo_mirrored_13 : decode c_Mo_mirrored 13 = .ok (.ifCond .ne 19, 3) := by decide +kernel
theorem d_Mo_mirrored_16 : decode c_Mo_mirrored 16 = .ok (.aload_n 0, 1) := by decide +kernel
theorem d_Mo_mirrored_17 : decode c_Mo_mirrored 17 = .ok (.getfield 41, 3) := by decide +kernel
theorem d_Mo_mirrored_20 : decode c_Mo_mirrored 20 = .ok (.iload_n 1, 1) := by decide +kernel
theorem d_Mo_mirrored_21 : decode c_Mo_mirrored 21 = .ok (.iaload, 1) := by decide +kernel
theorem d_Mo_mirrored_22 : decode c_Mo_mirrored 22 = .ok (.iconst 2, 1) := by decide +kernel
theorem d_Mo_mirrored_23 : decode c_Mo_mirrored 23 = .ok (.irem, 1) := by decide +kernel
theorem d_Mo_mirrored_24 : decode c_Mo_mirrored 24 = .ok (.iconst 1, 1) := by decide +kernel
theorem d_Mo_mirrored_25 : decode c_Mo_mirrored 25 = .ok (.if_icmp .ne 7, 3) := by decide +kernel
theorem d_Mo_mirrored_28 : decode c_Mo_mirrored 28 = .ok (.iconst 1, 1) := by decide +kernel
theorem d_Mo_mirrored_29 : decode c_Mo_mirrored 29 = .ok (.goto 4, 3) := by decide +kernel
theorem d_Mo_mirrored_32 : decode c_Mo_mirrored 32 = .ok (.iconst 0, 1) := by decide +kernel
theorem d_Mo_mirrored_33 : decode c_Mo_mirrored 33 = .ok (.ireturn, 1) := by decide +kernel
theorem d_Mo_moved_0 : decode c_Mo_moved 0 = .ok (.aload_n 0, 1) := by decide +kernel
theorem d_Mo_moved_1 : decode c_Mo_moved 1 = .ok (.aload_n 0, 1) := by decide +kernel
theorem d_Mo_moved_2 : decode c_Mo_moved 2 = .ok (.getfield 84, 3) := by decide +kernel
theorem d_Mo_moved_5 : decode c_Mo_moved 5 = .ok (.ifCond .eq 7, 3) := by decide +kernel
theorem d_Mo_moved_8 : decode c_Mo_moved 8 = .ok (.iconst 0, 1) := by decide +kernel
theorem d_Mo_moved_9 : decode c_Mo_moved 9 = .ok (.goto 4, 3) := by decide +kernel
theorem d_Mo_moved_12 : decode c_Mo_moved 12 = .ok (.iconst 1, 1) := by decide +kernel
theorem d_Mo_moved_13 : decode c_Mo_moved 13 = .ok (.putfield 76, 3) := by decide +kernel
theorem d_Mo_moved_16 : decode c_Mo_moved 16 = .ok (.lconst 0, 1) := by decide +kernel
theorem d_Mo_moved_17 : decode c_Mo_moved 17 = .ok (.lstore_n 1, 1) := by decide +kernel
theorem d_Mo_moved_18 : decode c_Mo_moved 18 = .ok (.iconst 0, 1) := by decide +kernel
theorem d_Mo_moved_19 : decode c_Mo_moved 19 = .ok (.istore_n 3, 1) := by decide +kernel
theorem d_Mo_moved_20 : decode c_Mo_moved 20 = .ok (.iload_n 3, 1) := by decide +kernel
theorem d_Mo_moved_21 : decode c_Mo_moved 21 = .ok (.aload_n 0, 1) := by decide +kernel
theorem d_Mo_moved_22 : decode c_Mo_moved 22 = .ok (.getfield 79, 3) := by decide +kernel
theorem d_Mo_moved_25 : decode c_Mo_moved 25 = .ok (.if_icmp .ge 56, 3) := by decide +kernel
theorem d_Mo_moved_28 : decode c_Mo_moved 28 = .ok (.aload_n 0, 1) := by decide +kernel
theorem d_Mo_moved_29 : decode c_Mo_moved 29 = .ok (.getfield 76, 3) := by decide +kernel
theorem d_Mo_moved_32 : decode c_Mo_moved 32 = .ok (.ifCond .ne 49, 3) := by decide +kernel
theorem d_Mo_moved_35 : decode c_Mo_moved 35 = .ok (.lload_n 1, 1) := by decide +kernel
theorem d_Mo_moved_36 : decode c_Mo_moved 36 = .ok (.aload_n 0, 1) := by decide +kernel
theorem d_Mo_moved_37 : decode c_Mo_moved 37 = .ok (.getfield 38, 3) := by decide +kernel
theorem d_Mo_moved_40 : decode c_Mo_moved 40 = .ok (.iload_n 3, 1) := by decide +kernel
theorem d_Mo_moved_41 : decode c_Mo_moved 41 = .ok (.iaload, 1) := by decide +kernel
theorem d_Mo_moved_42 : decode c_Mo_moved 42 = .ok (.aload_n 0, 1) := by decide +kernel
theorem d_Mo_moved_43 : decode c_Mo_moved 43 = .ok (.getfield 23, 3) := by decide +kernel
theorem d_Mo_moved_46 : decode c_Mo_moved 46 = .ok (.iload_n 3, 1) := by decide +kernel
theorem d_Mo_moved_47 : decode c_Mo_moved 47 = .ok (.iaload, 1) := by decide +kernel
theorem d_Mo_moved_48 : decode c_Mo_moved 48 = .ok (.invokestatic 115, 3) := by decide +kernel
theorem d_Mo_moved_51 : decode c_Mo_moved 51 = .ok (.i2l, 1) := by decide +kernel
theorem d_Mo_moved_52 : decode c_Mo_moved 52 = .ok (.ldc2_w 98, 3) := by decide +kernel
theorem d_Mo_moved_55 : decode c_Mo_moved 55 = .ok (.aload_n 0, 1) := by decide +kernel
theorem d_Mo_moved_56 : decode c_Mo_moved 56 = .ok (.getfield 41, 3) := by decide +kernel
theorem d_Mo_moved_59 : decode c_Mo_moved 59 = .ok (.iload_n 3, 1) := by decide +kernel
theorem d_Mo_moved_60 : decode c_Mo_moved 60 = .ok (.iaload, 1) := by decide +kernel
theorem d_Mo_moved_61 : decode c_Mo_moved 61 = .ok (.aload_n 0, 1) := by decide +kernel
theorem d_Mo_moved_62 : decode c_Mo_moved 62 = .ok (.getfield 26, 3) := by decide +kernel
theorem d_Mo_moved_65 : decode c_Mo_moved 65 = .ok (.iload_n 3, 1) := by decide +kernel
theorem d_Mo_moved_66 : decode c_Mo_moved 66 = .ok (.iaload, 1) := by decide +kernel
theorem d_Mo_moved_67 : decode c_Mo_moved 67 = .ok (.invokestatic 115, 3) := by decide +kernel
theorem d_Mo_moved_70 : decode c_Mo_moved 70 = .ok (.i2l, 1) := by decide +kernel
theorem d_Mo_moved_71 : decode c_Mo_moved 71 = .ok (.lmul, 1) := by decide +kernel
theorem d_Mo_moved_72 : decode c_Mo_moved 72 = .ok (.ladd, 1) := by decide +kernel
theorem d_Mo_moved_73 : decode c_Mo_moved 73 = .ok (.ladd, 1) := by decide +kernel
theorem d_Mo_moved_74 : decode c_Mo_moved 74 = .ok (.lstore_n 1, 1) := by decide +kernel
theorem d_Mo_moved_75 : decode c_Mo_moved 75 = .ok (.iinc 3 1, 3) := by decide +kernel
theorem d_Mo_moved_78 : decode c_Mo_moved 78 = .ok (.goto (-58), 3) := by decide +kernel
theorem d_Mo_moved_81 : decode c_Mo_moved 81 = .ok (.lload_n 1, 1) := by decide +kernel
theorem d_Mo_moved_82 : decode c_Mo_moved 82 = .ok (.lreturn, 1) := by decide +kernel
theorem d_Mo_wireOf_0 : decode c_Mo_wireOf 0 = .ok (.lconst 0, 1) := by decide +kernel
theorem d_Mo_wireOf_1 : decode c_Mo_wireOf 1 = .ok (.lstore_n 1, 1) := by decide +kernel
theorem d_Mo_wireOf_2 : decode c_Mo_wireOf 2 = .ok (.iconst 0, 1) := by decide +kernel
theorem d_Mo_wireOf_3 : decode c_Mo_wireOf 3 = .ok (.istore_n 3, 1) := by decide +kernel
theorem d_Mo_wireOf_4 : decode c_Mo_wireOf 4 = .ok (.iload_n 3, 1) := by decide +kernel
theorem d_Mo_wireOf_5 : decode c_Mo_wireOf 5 = .ok (.aload_n 0, 1) := by decide +kernel
theorem d_Mo_wireOf_6 : decode c_Mo_wireOf 6 = .ok (.getfield 161, 3) := by decide +kernel
theorem d_Mo_wireOf_9 : decode c_Mo_wireOf 9 = .ok (.if_icmp .ge 89, 3) := by decide +kernel
theorem d_Mo_wireOf_12 : decode c_Mo_wireOf 12 = .ok (.aload_n 0, 1) := by decide +kernel
theorem d_Mo_wireOf_13 : decode c_Mo_wireOf 13 = .ok (.getfield 32, 3) := by decide +kernel
theorem d_Mo_wireOf_16 : decode c_Mo_wireOf 16 = .ok (.iload_n 3, 1) := by decide +kernel
theorem d_Mo_wireOf_17 : decode c_Mo_wireOf 17 = .ok (.iaload, 1) := by decide +kernel
theorem d_Mo_wireOf_18 : decode c_Mo_wireOf 18 = .ok (.istore 4, 2) := by decide +kernel
theorem d_Mo_wireOf_20 : decode c_Mo_wireOf 20 = .ok (.aload_n 0, 1) := by decide +kernel
theorem d_Mo_wireOf_21 : decode c_Mo_wireOf 21 = .ok (.getfield 35, 3) := by decide +kernel
theorem d_Mo_wireOf_24 : decode c_Mo_wireOf 24 = .ok (.iload_n 3, 1) := by decide +kernel
theorem d_Mo_wireOf_25 : decode c_Mo_wireOf 25 = .ok (.iaload, 1) := by decide +kernel
theorem d_Mo_wireOf_26 : decode c_Mo_wireOf 26 = .ok (.istore 5, 2) := by decide +kernel
theorem d_Mo_wireOf_28 : decode c_Mo_wireOf 28 = .ok (.lload_n 1, 1) := by decide +kernel
theorem d_Mo_wireOf_29 : decode c_Mo_wireOf 29 = .ok (.iconst 2, 1) := by decide +kernel
theorem d_Mo_wireOf_30 : decode c_Mo_wireOf 30 = .ok (.aload_n 0, 1) := by decide +kernel
theorem d_Mo_wireOf_31 : decode c_Mo_wireOf 31 = .ok (.getfield 38, 3) := by decide +kernel
theorem d_Mo_wireOf_34 : decode c_Mo_wireOf 34 = .ok (.iload 4, 2) := by decide +kernel
theorem d_Mo_wireOf_36 : decode c_Mo_wireOf 36 = .ok (.iaload, 1) := by decide +kernel
theorem d_Mo_wireOf_37 : decode c_Mo_wireOf 37 = .ok (.imul, 1) := by decide +kernel
theorem d_Mo_wireOf_38 : decode c_Mo_wireOf 38 = .ok (.aload_n 0, 1) := by decide +kernel
theorem d_Mo_wireOf_39 : decode c_Mo_wireOf 39 = .ok (.getfield 13, 3) := by decide +kernel
theorem d_Mo_wireOf_42 : decode c_Mo_wireOf 42 = .ok (.iload 4, 2) := by decide +kernel
theorem d_Mo_wireOf_44 : decode c_Mo_wireOf 44 = .ok (.iaload, 1) := by decide +kernel
theorem d_Mo_wireOf_45 : decode c_Mo_wireOf 45 = .ok (.iadd, 1) := by decide +kernel
theorem d_Mo_wireOf_46 : decode c_Mo_wireOf 46 = .ok (.iconst 2, 1) := by decide +kernel
theorem d_Mo_wireOf_47 : decode c_Mo_wireOf 47 = .ok (.aload_n 0, 1) := by decide +kernel
theorem d_Mo_wireOf_48 : decode c_Mo_wireOf 48 = .ok (.getfield 38, 3) := by decide +kernel
theorem d_Mo_wireOf_51 : decode c_Mo_wireOf 51 = .ok (.iload 5, 2) := by decide +kernel
theorem d_Mo_wireOf_53 : decode c_Mo_wireOf 53 = .ok (.iaload, 1) := by decide +kernel
theorem d_Mo_wireOf_54 : decode c_Mo_wireOf 54 = .ok (.imul, 1) := by decide +kernel
theorem d_Mo_wireOf_55 : decode c_Mo_wireOf 55 = .ok (.aload_n 0, 1) := by decide +kernel
theorem d_Mo_wireOf_56 : decode c_Mo_wireOf 56 = .ok (.getfield 13, 3) := by decide +kernel
theorem d_Mo_wireOf_59 : decode c_Mo_wireOf 59 = .ok (.iload 5, 2) := by decide +kernel
theorem d_Mo_wireOf_61 : decode c_Mo_wireOf 61 = .ok (.iaload, 1) := by decide +kernel
theorem d_Mo_wireOf_62 : decode c_Mo_wireOf 62 = .ok (.iadd, 1) := by decide +kernel
theorem d_Mo_wireOf_63 : decode c_Mo_wireOf 63 = .ok (.invokestatic 115, 3) := by decide +kernel
theorem d_Mo_wireOf_66 : decode c_Mo_wireOf 66 = .ok (.i2l, 1) := by decide +kernel
theorem d_Mo_wireOf_67 : decode c_Mo_wireOf 67 = .ok (.ldc2_w 82, 3) := by decide +kernel
theorem d_Mo_wireOf_70 : decode c_Mo_wireOf 70 = .ok (.aload_n 0, 1) := by decide +kernel
theorem d_Mo_wireOf_71 : decode c_Mo_wireOf 71 = .ok (.getfield 41, 3) := by decide +kernel
theorem d_Mo_wireOf_74 : decode c_Mo_wireOf 74 = .ok (.iload 4, 2) := by decide +kernel
theorem d_Mo_wireOf_76 : decode c_Mo_wireOf 76 = .ok (.iaload, 1) := by decide +kernel
theorem d_Mo_wireOf_77 : decode c_Mo_wireOf 77 = .ok (.aload_n 0, 1) := by decide +kernel
theorem d_Mo_wireOf_78 : decode c_Mo_wireOf 78 = .ok (.getfield 41, 3) := by decide +kernel
theorem d_Mo_wireOf_81 : decode c_Mo_wireOf 81 = .ok (.iload 5, 2) := by decide +kernel
theorem d_Mo_wireOf_83 : decode c_Mo_wireOf 83 = .ok (.iaload, 1) := by decide +kernel
theorem d_Mo_wireOf_84 : decode c_Mo_wireOf 84 = .ok (.invokestatic 115, 3) := by decide +kernel
theorem d_Mo_wireOf_87 : decode c_Mo_wireOf 87 = .ok (.i2l, 1) := by decide +kernel
theorem d_Mo_wireOf_88 : decode c_Mo_wireOf 88 = .ok (.lmul, 1) := by decide +kernel
theorem d_Mo_wireOf_89 : decode c_Mo_wireOf 89 = .ok (.ladd, 1) := by decide +kernel
theorem d_Mo_wireOf_90 : decode c_Mo_wireOf 90 = .ok (.ladd, 1) := by decide +kernel
theorem d_Mo_wireOf_91 : decode c_Mo_wireOf 91 = .ok (.lstore_n 1, 1) := by decide +kernel
theorem d_Mo_wireOf_92 : decode c_Mo_wireOf 92 = .ok (.iinc 3 1, 3) := by decide +kernel
theorem d_Mo_wireOf_95 : decode c_Mo_wireOf 95 = .ok (.goto (-91), 3) := by decide +kernel
theorem d_Mo_wireOf_98 : decode c_Mo_wireOf 98 = .ok (.lload_n 1, 1) := by decide +kernel
theorem d_Mo_wireOf_99 : decode c_Mo_wireOf 99 = .ok (.lreturn, 1) := by decide +kernel
theorem d_Mo_exchange_0 : decode c_Mo_exchange 0 = .ok (.aload_n 0, 1) := by decide +kernel
theorem d_Mo_exchange_1 : decode c_Mo_exchange 1 = .ok (.getfield 38, 3) := by decide +kernel
theorem d_Mo_exchange_4 : decode c_Mo_exchange 4 = .ok (.iload_n 1, 1) := by decide +kernel
theorem d_Mo_exchange_5 : decode c_Mo_exchange 5 = .ok (.iaload, 1) := by decide +kernel
theorem d_Mo_exchange_6 : decode c_Mo_exchange 6 = .ok (.istore_n 3, 1) := by decide +kernel
theorem d_Mo_exchange_7 : decode c_Mo_exchange 7 = .ok (.aload_n 0, 1) := by decide +kernel
theorem d_Mo_exchange_8 : decode c_Mo_exchange 8 = .ok (.getfield 41, 3) := by decide +kernel
theorem d_Mo_exchange_11 : decode c_Mo_exchange 11 = .ok (.iload_n 1, 1) := by decide +kernel
theorem d_Mo_exchange_12 : decode c_Mo_exchange 12 = .ok (.iaload, 1) := by decide +kernel
theorem d_Mo_exchange_13 : decode c_Mo_exchange 13 = .ok (.istore 4, 2) := by decide +kernel
theorem d_Mo_exchange_15 : decode c_Mo_exchange 15 = .ok (.aload_n 0, 1) := by decide +kernel
theorem d_Mo_exchange_16 : decode c_Mo_exchange 16 = .ok (.getfield 38, 3) := by decide +kernel
theorem d_Mo_exchange_19 : decode c_Mo_exchange 19 = .ok (.iload_n 1, 1) := by decide +kernel
theorem d_Mo_exchange_20 : decode c_Mo_exchange 20 = .ok (.aload_n 0, 1) := by decide +kernel
theorem d_Mo_exchange_21 : decode c_Mo_exchange 21 = .ok (.getfield 38, 3) := by decide +kernel
theorem d_Mo_exchange_24 : decode c_Mo_exchange 24 = .ok (.iload_n 2, 1) := by decide +kernel
theorem d_Mo_exchange_25 : decode c_Mo_exchange 25 = .ok (.iaload, 1) := by decide +kernel
theorem d_Mo_exchange_26 : decode c_Mo_exchange 26 = .ok (.iastore, 1) := by decide +kernel
theorem d_Mo_exchange_27 : decode c_Mo_exchange 27 = .ok (.aload_n 0, 1) := by decide +kernel
theorem d_Mo_exchange_28 : decode c_Mo_exchange 28 = .ok (.getfield 41, 3) := by decide +kernel
theorem d_Mo_exchange_31 : decode c_Mo_exchange 31 = .ok (.iload_n 1, 1) := by decide +kernel
theorem d_Mo_exchange_32 : decode c_Mo_exchange 32 = .ok (.aload_n 0, 1) := by decide +kernel
theorem d_Mo_exchange_33 : decode c_Mo_exchange 33 = .ok (.getfield 41, 3) := by decide +kernel
theorem d_Mo_exchange_36 : decode c_Mo_exchange 36 = .ok (.iload_n 2, 1) := by decide +kernel
theorem d_Mo_exchange_37 : decode c_Mo_exchange 37 = .ok (.iaload, 1) := by decide +kernel
theorem d_Mo_exchange_38 : decode c_Mo_exchange 38 = .ok (.iastore, 1) := by decide +kernel
theorem d_Mo_exchange_39 : decode c_Mo_exchange 39 = .ok (.aload_n 0, 1) := by decide +kernel
theorem d_Mo_exchange_40 : decode c_Mo_exchange 40 = .ok (.getfield 38, 3) := by decide +kernel
theorem d_Mo_exchange_43 : decode c_Mo_exchange 43 = .ok (.iload_n 2, 1) := by decide +kernel
theorem d_Mo_exchange_44 : decode c_Mo_exchange 44 = .ok (.iload_n 3, 1) := by decide +kernel
theorem d_Mo_exchange_45 : decode c_Mo_exchange 45 = .ok (.iastore, 1) := by decide +kernel
theorem d_Mo_exchange_46 : decode c_Mo_exchange 46 = .ok (.aload_n 0, 1) := by decide +kernel
theorem d_Mo_exchange_47 : decode c_Mo_exchange 47 = .ok (.getfield 41, 3) := by decide +kernel
theorem d_Mo_exchange_50 : decode c_Mo_exchange 50 = .ok (.iload_n 2, 1) := by decide +kernel
theorem d_Mo_exchange_51 : decode c_Mo_exchange 51 = .ok (.iload 4, 2) := by decide +kernel
theorem d_Mo_exchange_53 : decode c_Mo_exchange 53 = .ok (.iastore, 1) := by decide +kernel
theorem d_Mo_exchange_54 : decode c_Mo_exchange 54 = .ok (.return_, 1) := by decide +kernel
theorem d_Mo_isExchanged_0 : decode c_Mo_isExchanged 0 = .ok (.aload_n 0, 1) := by decide +kernel
theorem d_Mo_isExchanged_1 : decode c_Mo_isExchanged 1 = .ok (.invokevirtual 164, 3) := by decide +kernel
theorem d_Mo_isExchanged_4 : decode c_Mo_isExchanged 4 = .ok (.lstore_n 1, 1) := by decide +kernel
theorem d_Mo_isExchanged_5 : decode c_Mo_isExchanged 5 = .ok (.iconst 0, 1) := by decide +kernel
theorem d_Mo_isExchanged_6 : decode c_Mo_isExchanged 6 = .ok (.istore_n 3, 1) := by decide +kernel
theorem d_Mo_isExchanged_7 : decode c_Mo_isExchanged 7 = .ok (.iload_n 3, 1) := by decide +kernel
theorem d_Mo_isExchanged_8 : decode c_Mo_isExchanged 8 = .ok (.aload_n 0, 1) := by decide +kernel
theorem d_Mo_isExchanged_9 : decode c_Mo_isExchanged 9 = .ok (.getfield 79, 3) := by decide +kernel
theorem d_Mo_isExchanged_12 : decode c_Mo_isExchanged 12 = .ok (.if_icmp .ge 105, 3) := by decide +kernel
theorem d_Mo_isExchanged_15 : decode c_Mo_isExchanged 15 = .ok (.iload_n 3, 1) := by decide +kernel
theorem d_Mo_isExchanged_16 : decode c_Mo_isExchanged 16 = .ok (.iconst 1, 1) := by decide +kernel
theorem d_Mo_isExchanged_17 : decode c_Mo_isExchanged 17 = .ok (.iadd, 1) := by decide +kernel
theorem d_Mo_isExchanged_18 : decode c_Mo_isExchanged 18 = .ok (.istore 4, 2) := by decide +kernel
theorem d_Mo_isExchanged_20 : decode c_Mo_isExchanged 20 = .ok (.iload 4, 2) := by decide +kernel
theorem d_Mo_isExchanged_22 : decode c_Mo_isExchanged 22 = .ok (.aload_n 0, 1) := by decide +kernel
theorem d_Mo_isExchanged_23 : decode c_Mo_isExchanged 23 = .ok (.getfield 79, 3) := by decide +kernel
theorem d_Mo_isExchanged_26 : decode c_Mo_isExchanged 26 = .ok (.if_icmp .ge 85, 3) := by decide +kernel
theorem d_Mo_isExchanged_29 : decode c_Mo_isExchanged 29 = .ok (.aload_n 0, 1) := by decide +kernel
theorem d_Mo_isExchanged_30 : decode c_Mo_isExchanged 30 = .ok (.getfield 13, 3) := by decide +kernel
theorem d_Mo_isExchanged_33 : decode c_Mo_isExchanged 33 = .ok (.iload_n 3, 1) := by decide +kernel
theorem d_Mo_isExchanged_34 : decode c_Mo_isExchanged 34 = .ok (.iaload, 1) := by decide +kernel
theorem d_Mo_isExchanged_35 : decode c_Mo_isExchanged 35 = .ok (.aload_n 0, 1) := by decide +kernel
theorem d_Mo_isExchanged_36 : decode c_Mo_isExchanged 36 = .ok (.getfield 13, 3) := by decide +kernel
theorem d_Mo_isExchanged_39 : decode c_Mo_isExchanged 39 = .ok (.iload 4, 2) := by decide +kernel
theorem d_Mo_isExchanged_41 : decode c_Mo_isExchanged 41 = .ok (.iaload, 1) := by decide +kernel
theorem d_Mo_isExchanged_42 : decode c_Mo_isExchanged 42 = .ok (.if_icmp .ne 63, 3) := by decide +kernel
theorem d_Mo_isExchanged_45 : decode c_Mo_isExchanged 45 = .ok (.aload_n 0, 1) := by decide +kernel
theorem d_Mo_isExchanged_46 : decode c_Mo_isExchanged 46 = .ok (.getfield 17, 3) := by decide +kernel
theorem d_Mo_isExchanged_49 : decode c_Mo_isExchanged 49 = .ok (.iload_n 3, 1) := by decide +kernel
theorem d_Mo_isExchanged_50 : decode c_Mo_isExchanged 50 = .ok (.iaload, 1) := by decide +kernel
theorem d_Mo_isExchanged_51 : decode c_Mo_isExchanged 51 = .ok (.aload_n 0, 1) := by decide +kernel
theorem d_Mo_isExchanged_52 : decode c_Mo_isExchanged 52 = .ok (.getfield 17, 3) := by decide +kernel
theorem d_Mo_isExchanged_55 : decode c_Mo_isExchanged 55 = .ok (.iload 4, 2) := by decide +kernel
theorem d_Mo_isExchanged_57 : decode c_Mo_isExchanged 57 = .ok (.iaload, 1) := by decide +kernel
theorem d_Mo_isExchanged_58 : decode c_Mo_isExchanged 58 = .ok (.if_icmp .ne 47, 3) := by decide +kernel
theorem d_Mo_isExchanged_61 : decode c_Mo_isExchanged 61 = .ok (.aload_n 0, 1) := by decide +kernel
theorem d_Mo_isExchanged_62 : decode c_Mo_isExchanged 62 = .ok (.getfield 20, 3) := by decide +kernel
theorem d_Mo_isExchanged_65 : decode c_Mo_isExchanged 65 = .ok (.iload_n 3, 1) := by decide +kernel
theorem d_Mo_isExchanged_66 : decode c_Mo_isExchanged 66 = .ok (.iaload, 1) := by decide +kernel
theorem d_Mo_isExchanged_67 : decode c_Mo_isExchanged 67 = .ok (.aload_n 0, 1) := by decide +kernel
theorem d_Mo_isExchanged_68 : decode c_Mo_isExchanged 68 = .ok (.getfield 20, 3) := by decide +kernel
theorem d_Mo_isExchanged_71 : decode c_Mo_isExchanged 71 = .ok (.iload 4, 2) := by decide +kernel
theorem d_Mo_isExchanged_73 : decode c_Mo_isExchanged 73 = .ok (.iaload, 1) := by decide +kernel
theorem d_Mo_isExchanged_74 : decode c_Mo_isExchanged 74 = .ok (.if_icmp .eq 6, 3) := by decide +kernel
theorem d_Mo_isExchanged_77 : decode c_Mo_isExchanged 77 = .ok (.goto 28, 3) := by decide +kernel
theorem d_Mo_isExchanged_80 : decode c_Mo_isExchanged 80 = .ok (.aload_n 0, 1) := by decide +kernel
theorem d_Mo_isExchanged_81 : decode c_Mo_isExchanged 81 = .ok (.iload_n 3, 1) := by decide +kernel
theorem d_Mo_isExchanged_82 : decode c_Mo_isExchanged 82 = .ok (.iload 4, 2) := by decide +kernel
theorem d_Mo_isExchanged_84 : decode c_Mo_isExchanged 84 = .ok (.invokevirtual 167, 3) := by decide +kernel
theorem d_Mo_isExchanged_87 : decode c_Mo_isExchanged 87 = .ok (.aload_n 0, 1) := by decide +kernel
theorem d_Mo_isExchanged_88 : decode c_Mo_isExchanged 88 = .ok (.invokevirtual 164, 3) := by decide +kernel
theorem d_Mo_isExchanged_91 : decode c_Mo_isExchanged 91 = .ok (.lload_n 1, 1) := by decide +kernel
theorem d_Mo_isExchanged_92 : decode c_Mo_isExchanged 92 = .ok (.lcmp, 1) := by decide +kernel
theorem d_Mo_isExchanged_93 : decode c_Mo_isExchanged 93 = .ok (.ifCond .ge 5, 3) := by decide +kernel
theorem d_Mo_isExchanged_96 : decode c_Mo_isExchanged 96 = .ok (.iconst 1, 1) := by decide +kernel
theorem d_Mo_isExchanged_97 : decode c_Mo_isExchanged 97 = .ok (.ireturn, 1) := by decide +kernel
theorem d_Mo_isExchanged_98 : decode c_Mo_isExchanged 98 = .ok (.aload_n 0, 1) := by decide +kernel
theorem d_Mo_isExchanged_99 : decode c_Mo_isExchanged 99 = .ok (.iload_n 3, 1) := by decide +kernel
theorem d_Mo_isExchanged_100 : decode c_Mo_isExchanged 100 = .ok (.iload 4, 2) := by decide +kernel
theorem d_Mo_isExchanged_102 : decode c_Mo_isExchanged 102 = .ok (.invokevirtual 167, 3) := by decide +kernel
theorem d_Mo_isExchanged_105 : decode c_Mo_isExchanged 105 = .ok (.iinc 4 1, 3) := by decide +kernel
theorem d_Mo_isExchanged_108 : decode c_Mo_isExchanged 108 = .ok (.goto (-88), 3) := by decide +kernel
theorem d_Mo_isExchanged_111 : decode c_Mo_isExchanged 111 = .ok (.iinc 3 1, 3) := by decide +kernel
theorem d_Mo_isExchanged_114 : decode c_Mo_isExchanged 114 = .ok (.goto (-107), 3) := by decide +kernel
theorem d_Mo_isExchanged_117 : decode c_Mo_isExchanged 117 = .ok (.iconst 0, 1) := by decide +kernel
theorem d_Mo_isExchanged_118 : decode c_Mo_isExchanged 118 = .ok (.ireturn, 1) := by decide +kernel
theorem d_Mo_improve_0 : decode c_Mo_improve 0 = .ok (.aload_n 0, 1) := by decide +kernel
theorem d_Mo_improve_1 : decode c_Mo_improve 1 = .ok (.aload_n 0, 1) := by decide +kernel
theorem d_Mo_improve_2 : decode c_Mo_improve 2 = .ok (.getfield 84, 3) := by decide +kernel
theorem d_Mo_improve_5 : decode c_Mo_improve 5 = .ok (.ifCond .ne 7, 3) := by decide +kernel
theorem d_Mo_improve_8 : decode c_Mo_improve 8 = .ok (.iconst 1, 1) := by decide +kernel
theorem d_Mo_improve_9 : decode c_Mo_improve 9 = .ok (.goto 12, 3) := by decide +kernel
theorem d_Mo_improve_12 : decode c_Mo_improve 12 = .ok (.iload_n 1, 1) := by decide +kernel
theorem d_Mo_improve_13 : decode c_Mo_improve 13 = .ok (.ifCond .ge 7, 3) := by decide +kernel
theorem d_Mo_improve_16 : decode c_Mo_improve 16 = .ok (.iconst 2, 1) := by decide +kernel
theorem d_Mo_improve_17 : decode c_Mo_improve 17 = .ok (.goto 4, 3) := by decide +kernel
theorem d_Mo_improve_20 : decode c_Mo_improve 20 = .ok (.iconst 0, 1) := by decide +kernel
theorem d_Mo_improve_21 : decode c_Mo_improve 21 = .ok (.putfield 76, 3) := by decide +kernel
theorem d_Mo_improve_24 : decode c_Mo_improve 24 = .ok (.iconst 0, 1) := by decide +kernel
theorem d_Mo_improve_25 : decode c_Mo_improve 25 = .ok (.istore_n 2, 1) := by decide +kernel
theorem d_Mo_improve_26 : decode c_Mo_improve 26 = .ok (.aload_n 0, 1) := by decide +kernel
theorem d_Mo_improve_27 : decode c_Mo_improve 27 = .ok (.getfield 76, 3) := by decide +kernel
theorem d_Mo_improve_30 : decode c_Mo_improve 30 = .ok (.ifCond .ne 21, 3) := by decide +kernel
theorem d_Mo_improve_33 : decode c_Mo_improve 33 = .ok (.iload_n 2, 1) := by decide +kernel
theorem d_Mo_improve_34 : decode c_Mo_improve 34 = .ok (.iload_n 1, 1) := by decide +kernel
theorem d_Mo_improve_35 : decode c_Mo_improve 35 = .ok (.if_icmp .ge 16, 3) := by decide +kernel
theorem d_Mo_improve_38 : decode c_Mo_improve 38 = .ok (.aload_n 0, 1) := by decide +kernel
theorem d_Mo_improve_39 : decode c_Mo_improve 39 = .ok (.invokevirtual 170, 3) := by decide +kernel
theorem d_Mo_improve_42 : decode c_Mo_improve 42 = .ok (.ifCond .eq 9, 3) := by decide +kernel
theorem d_Mo_improve_45 : decode c_Mo_improve 45 = .ok (.iinc 2 1, 3) := by decide +kernel
theorem d_Mo_improve_48 : decode c_Mo_improve 48 = .ok (.goto (-22), 3) := by decide +kernel
theorem d_Mo_improve_51 : decode c_Mo_improve 51 = .ok (.iload_n 2, 1) := by decide +kernel
theorem d_Mo_improve_52 : decode c_Mo_improve 52 = .ok (.ireturn, 1) := by decide +kernel
theorem d_Mo_net_0 : decode c_Mo_net 0 = .ok (.aload_n 0, 1) := by decide +kernel
theorem d_Mo_net_1 : decode c_Mo_net 1 = .ok (.aload_n 0, 1) := by decide +kernel
theorem d_Mo_net_2 : decode c_Mo_net 2 = .ok (.iload_n 1, 1) := by decide +kernel
theorem d_Mo_net_3 : decode c_Mo_net 3 = .ok (.invokevirtual 88, 3) := by decide +kernel
theorem d_Mo_net_6 : decode c_Mo_net 6 = .ok (.ifCond .eq 11, 3) := by decide +kernel
theorem d_Mo_net_9 : decode c_Mo_net 9 = .ok (.aload_n 0, 1) := by decide +kernel
theorem d_Mo_net_10 : decode c_Mo_net 10 = .ok (.iload_n 2, 1) := by decide +kernel
theorem d_Mo_net_11 : decode c_Mo_net 11 = .ok (.invokevirtual 88, 3) := by decide +kernel
theorem d_Mo_net_14 : decode c_Mo_net 14 = .ok (.ifCond .ne 7, 3) := by decide +kernel
theorem d_Mo_net_17 : decode c_Mo_net 17 = .ok (.iconst 1, 1) := by decide +kernel
theorem d_Mo_net_18 : decode c_Mo_net 18 = .ok (.goto 26, 3) := by decide +kernel
theorem d_Mo_net_21 : decode c_Mo_net 21 = .ok (.aload_n 0, 1) := by decide +kernel
theorem d_Mo_net_22 : decode c_Mo_net 22 = .ok (.getfield 161, 3) := by decide +kernel
theorem d_Mo_net_25 : decode c_Mo_net 25 = .ok (.bipush 80, 2) := by decide +kernel
theorem d_Mo_net_27 : decode c_Mo_net 27 = .ok (.if_icmp .ne 7, 3) := by decide +kernel
theorem d_Mo_net_30 : decode c_Mo_net 30 = .ok (.iconst 2, 1) := by decide +kernel
theorem d_Mo_net_31 : decode c_Mo_net 31 = .ok (.goto 13, 3) := by decide +kernel
theorem d_Mo_net_34 : decode c_Mo_net 34 = .ok (.iload_n 1, 1) := by decide +kernel
theorem d_Mo_net_35 : decode c_Mo_net 35 = .ok (.iload_n 2, 1) := by decide +kernel
theorem d_Mo_net_36 : decode c_Mo_net 36 = .ok (.if_icmp .ne 7, 3) := by decide +kernel
theorem d_Mo_net_39 : decode c_Mo_net 39 = .ok (.iconst 3, 1) := by decide +kernel
theorem d_Mo_net_40 : decode c_Mo_net 40 = .ok (.goto 4, 3) := by decide +kernel
theorem d_Mo_net_43 : decode c_Mo_net 43 = .ok (.iconst 0, 1) := by decide +kernel
theorem d_Mo_net_44 : decode c_Mo_net 44 = .ok (.putfield 76, 3) := by decide +kernel
theorem d_Mo_net_47 : decode c_Mo_net 47 = .ok (.aload_n 0, 1) := by decide +kernel
theorem d_Mo_net_48 : decode c_Mo_net 48 = .ok (.getfield 76, 3) := by decide +kernel
theorem d_Mo_net_51 : decode c_Mo_net 51 = .ok (.ifCond .le 5, 3) := by decide +kernel
theorem d_Mo_net_54 : decode c_Mo_net 54 = .ok (.iconst 0, 1) := by decide +kernel
theorem d_Mo_net_55 : decode c_Mo_net 55 = .ok (.ireturn, 1) := by decide +kernel
theorem d_Mo_net_56 : decode c_Mo_net 56 = .ok (.aload_n 0, 1) := by decide +kernel
theorem d_Mo_net_57 : decode c_Mo_net 57 = .ok (.getfield 32, 3) := by decide +kernel
theorem d_Mo_net_60 : decode c_Mo_net 60 = .ok (.aload_n 0, 1) := by decide +kernel
theorem d_Mo_net_61 : decode c_Mo_net 61 = .ok (.getfield 161, 3) := by decide +kernel
theorem d_Mo_net_64 : decode c_Mo_net 64 = .ok (.iload_n 1, 1) := by decide +kernel
theorem d_Mo_net_65 : decode c_Mo_net 65 = .ok (.iastore, 1) := by decide +kernel
theorem d_Mo_net_66 : decode c_Mo_net 66 = .ok (.aload_n 0, 1) := by decide +kernel
theorem d_Mo_net_67 : decode c_Mo_net 67 = .ok (.getfield 35, 3) := by decide +kernel
theorem d_Mo_net_70 : decode c_Mo_net 70 = .ok (.aload_n 0, 1) := by decide +kernel
theorem d_Mo_net_71 : decode c_Mo_net 71 = .ok (.getfield 161, 3) := by decide +kernel
theorem d_Mo_net_74 : decode c_Mo_net 74 = .ok (.iload_n 2, 1) := by decide +kernel
theorem d_Mo_net_75 : decode c_Mo_net 75 = .ok (.iastore, 1) := by decide +kernel
theorem d_Mo_net_76 : decode c_Mo_net 76 = .ok (.aload_n 0, 1) := by decide +kernel
theorem d_Mo_net_77 : decode c_Mo_net 77 = .ok (.dup, 1) := by decide +kernel
theorem d_Mo_net_78 : decode c_Mo_net 78 = .ok (.getfield 161, 3) := by decide +kernel
theorem d_Mo_net_81 : decode c_Mo_net 81 = .ok (.iconst 1, 1) := by decide +kernel
theorem d_Mo_net_82 : decode c_Mo_net 82 = .ok (.iadd, 1) := by decide +kernel
theorem d_Mo_net_83 : decode c_Mo_net 83 = .ok (.putfield 161, 3) := by decide +kernel
theorem d_Mo_net_86 : decode c_Mo_net 86 = .ok (.aload_n 0, 1) := by decide +kernel
theorem d_Mo_net_87 : decode c_Mo_net 87 = .ok (.getfield 161, 3) := by decide +kernel
theorem d_Mo_net_90 : decode c_Mo_net 90 = .ok (.iconst 1, 1) := by decide +kernel
theorem d_Mo_net_91 : decode c_Mo_net 91 = .ok (.isub, 1) := by decide +kernel
theorem d_Mo_net_92 : decode c_Mo_net 92 = .ok (.ireturn, 1) := by decide +kernel
theorem d_Mo_wire_0 : decode c_Mo_wire 0 = .ok (.aload_n 0, 1) := by decide +kernel
theorem d_Mo_wire_1 : decode c_Mo_wire 1 = .ok (.aload_n 0, 1) := by decide +kernel
theorem d_Mo_wire_2 : decode c_Mo_wire 2 = .ok (.getfield 84, 3) := by decide +kernel
theorem d_Mo_wire_5 : decode c_Mo_wire 5 = .ok (.ifCond .eq 7, 3) := by decide +kernel
theorem d_Mo_wire_8 : decode c_Mo_wire 8 = .ok (.iconst 0, 1) := by decide +kernel
theorem d_Mo_wire_9 : decode c_Mo_wire 9 = .ok (.goto 4, 3) := by decide +kernel
theorem d_Mo_wire_12 : decode c_Mo_wire 12 = .ok (.iconst 1, 1) := by decide +kernel
theorem d_Mo_wire_13 : decode c_Mo_wire 13 = .ok (.putfield 76, 3) := by decide +kernel
theorem d_Mo_wire_16 : decode c_Mo_wire 16 = .ok (.aload_n 0, 1) := by decide +kernel
theorem d_Mo_wire_17 : decode c_Mo_wire 17 = .ok (.getfield 76, 3) := by decide +kernel
theorem d_Mo_wire_20 : decode c_Mo_wire 20 = .ok (.ifCond .le 7, 3) := by decide +kernel
theorem d_Mo_wire_23 : decode c_Mo_wire 23 = .ok (.lconst 0, 1) := by decide +kernel
theorem d_Mo_wire_24 : decode c_Mo_wire 24 = .ok (.goto 7, 3) := by decide +kernel
theorem d_Mo_wire_27 : decode c_Mo_wire 27 = .ok (.aload_n 0, 1) := by decide +kernel
theorem d_Mo_wire_28 : decode c_Mo_wire 28 = .ok (.invokevirtual 164, 3) := by decide +kernel
theorem d_Mo_wire_31 : decode c_Mo_wire 31 = .ok (.lreturn, 1) := by decide +kernel
theorem d_Mo_overlap_0 : decode c_Mo_overlap 0 = .ok (.aload_n 0, 1) := by decide +kernel
theorem d_Mo_overlap_1 : decode c_Mo_overlap 1 = .ok (.aload_n 0, 1) := by decide +kernel
theorem d_Mo_overlap_2 : decode c_Mo_overlap 2 = .ok (.getfield 84, 3) := by decide +kernel
theorem d_Mo_overlap_5 : decode c_Mo_overlap 5 = .ok (.ifCond .eq 7, 3) := by decide +kernel
theorem d_Mo_overlap_8 : decode c_Mo_overlap 8 = .ok (.iconst 0, 1) := by decide +kernel
theorem d_Mo_overlap_9 : decode c_Mo_overlap 9 = .ok (.goto 4, 3) := by decide +kernel
theorem d_Mo_overlap_12 : decode c_Mo_overlap 12 = .ok (.iconst 1, 1) := by decide +kernel
theorem d_Mo_overlap_13 : decode c_Mo_overlap 13 = .ok (.putfield 76, 3) := by decide +kernel
theorem d_Mo_overlap_16 : decode c_Mo_overlap 16 = .ok (.iconst 0, 1) := by decide +kernel
theorem d_Mo_overlap_17 : decode c_Mo_overlap 17 = .ok (.istore_n 1, 1) := by decide +kernel
theorem d_Mo_overlap_18 : decode c_Mo_overlap 18 = .ok (.iconst 0, 1) := by decide +kernel
theorem d_Mo_overlap_19 : decode c_Mo_overlap 19 = .ok (.istore_n 2, 1) := by decide +kernel
theorem d_Mo_overlap_20 : decode c_Mo_overlap 20 = .ok (.iload_n 2, 1) := by decide +kernel
theorem d_Mo_overlap_21 : decode c_Mo_overlap 21 = .ok (.aload_n 0, 1) := by decide +kernel
theorem d_Mo_overlap_22 : decode c_Mo_overlap 22 = .ok (.getfield 79, 3) := by decide +kernel
theorem d_Mo_overlap_25 : decode c_Mo_overlap 25 = .ok (.if_icmp .ge 158, 3) := by decide +kernel
theorem d_Mo_overlap_28 : decode c_Mo_overlap 28 = .ok (.aload_n 0, 1) := by decide +kernel
theorem d_Mo_overlap_29 : decode c_Mo_overlap 29 = .ok (.getfield 76, 3) := by decide +kernel
theorem d_Mo_overlap_32 : decode c_Mo_overlap 32 = .ok (.ifCond .ne 151, 3) := by decide +kernel
theorem d_Mo_overlap_35 : decode c_Mo_overlap 35 = .ok (.aload_n 0, 1) := by decide +kernel
theorem d_Mo_overlap_36 : decode c_Mo_overlap 36 = .ok (.getfield 38, 3) := by decide +kernel
theorem d_Mo_overlap_39 : decode c_Mo_overlap 39 = .ok (.iload_n 2, 1) := by decide +kernel
theorem d_Mo_overlap_40 : decode c_Mo_overlap 40 = .ok (.iaload, 1) := by decide +kernel
theorem d_Mo_overlap_41 : decode c_Mo_overlap 41 = .ok (.istore_n 3, 1) := by decide +kernel
theorem d_Mo_overlap_42 : decode c_Mo_overlap 42 = .ok (.iload_n 3, 1) := by decide +kernel
theorem d_Mo_overlap_43 : decode c_Mo_overlap 43 = .ok (.aload_n 0, 1) := by decide +kernel
theorem d_Mo_overlap_44 : decode c_Mo_overlap 44 = .ok (.getfield 38, 3) := by decide +kernel
theorem d_Mo_overlap_47 : decode c_Mo_overlap 47 = .ok (.iload_n 2, 1) := by decide +kernel
theorem d_Mo_overlap_48 : decode c_Mo_overlap 48 = .ok (.iaload, 1) := by decide +kernel
theorem d_Mo_overlap_49 : decode c_Mo_overlap 49 = .ok (.aload_n 0, 1) := by decide +kernel
theorem d_Mo_overlap_50 : decode c_Mo_overlap 50 = .ok (.getfield 13, 3) := by decide +kernel
theorem d_Mo_overlap_53 : decode c_Mo_overlap 53 = .ok (.iload_n 2, 1) := by decide +kernel
theorem d_Mo_overlap_54 : decode c_Mo_overlap 54 = .ok (.iaload, 1) := by decide +kernel
theorem d_Mo_overlap_55 : decode c_Mo_overlap 55 = .ok (.iadd, 1) := by decide +kernel
theorem d_Mo_overlap_56 : decode c_Mo_overlap 56 = .ok (.if_icmp .ge 39, 3) := by decide +kernel
theorem d_Mo_overlap_59 : decode c_Mo_overlap 59 = .ok (.iload_n 1, 1) := by decide +kernel
theorem d_Mo_overlap_60 : decode c_Mo_overlap 60 = .ok (.ifCond .ne 23, 3) := by decide +kernel
theorem d_Mo_overlap_63 : decode c_Mo_overlap 63 = .ok (.aload_n 0, 1) := by decide +kernel
theorem d_Mo_overlap_64 : decode c_Mo_overlap 64 = .ok (.getfield 7, 3) := by decide +kernel
theorem d_Mo_overlap_67 : decode c_Mo_overlap 67 = .ok (.sipush 1000, 3) := by decide +kernel
theorem d_Mo_overlap_70 : decode c_Mo_overlap 70 = .ok (.aload_n 0, 1) := by decide +kernel
theorem d_Mo_overlap_71 : decode c_Mo_overlap 71 = .ok (.getfield 41, 3) := by decide +kernel
theorem d_Mo_overlap_74 : decode c_Mo_overlap 74 = .ok (.iload_n 2, 1) := by decide +kernel
theorem d_Mo_overlap_75 : decode c_Mo_overlap 75 = .ok (.iaload, 1) := by decide +kernel
theorem d_Mo_overlap_76 : decode c_Mo_overlap 76 = .ok (.imul, 1) := by decide +kernel
theorem d_Mo_overlap_77 : decode c_Mo_overlap 77 = .ok (.iload_n 3, 1) := by decide +kernel
theorem d_Mo_overlap_78 : decode c_Mo_overlap 78 = .ok (.iadd, 1) := by decide +kernel
theorem d_Mo_overlap_79 : decode c_Mo_overlap 79 = .ok (.baload, 1) := by decide +kernel
theorem d_Mo_overlap_80 : decode c_Mo_overlap 80 = .ok (.ifCond .eq 7, 3) := by decide +kernel
theorem d_Mo_overlap_83 : decode c_Mo_overlap 83 = .ok (.iconst 1, 1) := by decide +kernel
theorem d_Mo_overlap_84 : decode c_Mo_overlap 84 = .ok (.goto 4, 3) := by decide +kernel
theorem d_Mo_overlap_87 : decode c_Mo_overlap 87 = .ok (.iconst 0, 1) := by decide +kernel
theorem d_Mo_overlap_88 : decode c_Mo_overlap 88 = .ok (.istore_n 1, 1) := by decide +kernel
theorem d_Mo_overlap_89 : decode c_Mo_overlap 89 = .ok (.iinc 3 1, 3) := by decide +kernel
theorem d_Mo_overlap_92 : decode c_Mo_overlap 92 = .ok (.goto (-50), 3) := by decide +kernel
theorem d_Mo_overlap_95 : decode c_Mo_overlap 95 = .ok (.iconst 0, 1) := by decide +kernel
theorem d_Mo_overlap_96 : decode c_Mo_overlap 96 = .ok (.istore_n 3, 1) := by decide +kernel
theorem d_Mo_overlap_97 : decode c_Mo_overlap 97 = .ok (.iload_n 3, 1) := by decide +kernel
theorem d_Mo_overlap_98 : decode c_Mo_overlap 98 = .ok (.iload_n 2, 1) := by decide +kernel
theorem d_Mo_overlap_99 : decode c_Mo_overlap 99 = .ok (.if_icmp .ge 78, 3) := by decide +kernel
theorem d_Mo_overlap_102 : decode c_Mo_overlap 102 = .ok (.iload_n 1, 1) := by decide +kernel
theorem d_Mo_overlap_103 : decode c_Mo_overlap 103 = .ok (.ifCond .ne 62, 3) := by decide +kernel
theorem d_Mo_overlap_106 : decode c_Mo_overlap 106 = .ok (.aload_n 0, 1) := by decide +kernel
theorem d_Mo_overlap_107 : decode c_Mo_overlap 107 = .ok (.getfield 41, 3) := by decide +kernel
theorem d_Mo_overlap_110 : decode c_Mo_overlap 110 = .ok (.iload_n 2, 1) := by decide +kernel
theorem d_Mo_overlap_111 : decode c_Mo_overlap 111 = .ok (.iaload, 1) := by decide +kernel
theorem d_Mo_overlap_112 : decode c_Mo_overlap 112 = .ok (.aload_n 0, 1) := by decide +kernel
theorem d_Mo_overlap_113 : decode c_Mo_overlap 113 = .ok (.getfield 41, 3) := by decide +kernel
theorem d_Mo_overlap_116 : decode c_Mo_overlap 116 = .ok (.iload_n 3, 1) := by decide +kernel
theorem d_Mo_overlap_117 : decode c_Mo_overlap 117 = .ok (.iaload, 1) := by decide +kernel
theorem d_Mo_overlap_118 : decode c_Mo_overlap 118 = .ok (.if_icmp .ne 51, 3) := by decide +kernel
theorem d_Mo_overlap_121 : decode c_Mo_overlap 121 = .ok (.aload_n 0, 1) := by decide +kernel
theorem d_Mo_overlap_122 : decode c_Mo_overlap 122 = .ok (.getfield 38, 3) := by decide +kernel
theorem d_Mo_overlap_125 : decode c_Mo_overlap 125 = .ok (.iload_n 2, 1) := by decide +kernel
theorem d_Mo_overlap_126 : decode c_Mo_overlap 126 = .ok (.iaload, 1) := by decide +kernel
theorem d_Mo_overlap_127 : decode c_Mo_overlap 127 = .ok (.aload_n 0, 1) := by decide +kernel
theorem d_Mo_overlap_128 : decode c_Mo_overlap 128 = .ok (.getfield 38, 3) := by decide +kernel
theorem d_Mo_overlap_131 : decode c_Mo_overlap 131 = .ok (.iload_n 3, 1) := by decide +kernel
theorem d_Mo_overlap_132 : decode c_Mo_overlap 132 = .ok (.iaload, 1) := by decide +kernel
theorem d_Mo_overlap_133 : decode c_Mo_overlap 133 = .ok (.aload_n 0, 1) := by decide +kernel
theorem d_Mo_overlap_134 : decode c_Mo_overlap 134 = .ok (.getfield 13, 3) := by decide +kernel
theorem d_Mo_overlap_137 : decode c_Mo_overlap 137 = .ok (.iload_n 3, 1) := by decide +kernel
theorem d_Mo_overlap_138 : decode c_Mo_overlap 138 = .ok (.iaload, 1) := by decide +kernel
theorem d_Mo_overlap_139 : decode c_Mo_overlap 139 = .ok (.iadd, 1) := by decide +kernel
theorem d_Mo_overlap_140 : decode c_Mo_overlap 140 = .ok (.if_icmp .ge 29, 3) := by decide +kernel
theorem d_Mo_overlap_143 : decode c_Mo_overlap 143 = .ok (.aload_n 0, 1) := by decide +kernel
theorem d_Mo_overlap_144 : decode c_Mo_overlap 144 = .ok (.getfield 38, 3) := by decide +kernel
theorem d_Mo_overlap_147 : decode c_Mo_overlap 147 = .ok (.iload_n 3, 1) := by decide +kernel
theorem d_Mo_overlap_148 : decode c_Mo_overlap 148 = .ok (.iaload, 1) := by decide +kernel
theorem d_Mo_overlap_149 : decode c_Mo_overlap 149 = .ok (.aload_n 0, 1) := by decide +kernel
theorem d_Mo_overlap_150 : decode c_Mo_overlap 150 = .ok (.getfield 38, 3) := by decide +kernel
theorem d_Mo_overlap_153 : decode c_Mo_overlap 153 = .ok (.iload_n 2, 1) := by decide +kernel
theorem d_Mo_overlap_154 : decode c_Mo_overlap 154 = .ok (.iaload, 1) := by decide +kernel
theorem d_Mo_overlap_155 : decode c_Mo_overlap 155 = .ok (.aload_n 0, 1) := by decide +kernel
theorem d_Mo_overlap_156 : decode c_Mo_overlap 156 = .ok (.getfield 13, 3) := by decide +kernel
theorem d_Mo_overlap_159 : decode c_Mo_overlap 159 = .ok (.iload_n 2, 1) := by decide +kernel
theorem d_Mo_overlap_160 : decode c_Mo_overlap 160 = .ok (.iaload, 1) := by decide +kernel
theorem d_Mo_overlap_161 : decode c_Mo_overlap 161 = .ok (.iadd, 1) := by decide +kernel
theorem d_Mo_overlap_162 : decode c_Mo_overlap 162 = .ok (.if_icmp .ge 7, 3) := by decide +kernel
theorem d_Mo_overlap_165 : decode c_Mo_overlap 165 = .ok (.iconst 1, 1) := by decide +kernel
theorem d_Mo_overlap_166 : decode c_Mo_overlap 166 = .ok (.goto 4, 3) := by decide +kernel
theorem d_Mo_overlap_169 : decode c_Mo_overlap 169 = .ok (.iconst 0, 1) := by decide +kernel
theorem d_Mo_overlap_170 : decode c_Mo_overlap 170 = .ok (.istore_n 1, 1) := by decide +kernel
theorem d_Mo_overlap_171 : decode c_Mo_overlap 171 = .ok (.iinc 3 1, 3) := by decide +kernel
theorem d_Mo_overlap_174 : decode c_Mo_overlap 174 = .ok (.goto (-77), 3) := by decide +kernel
theorem d_Mo_overlap_177 : decode c_Mo_overlap 177 = .ok (.iinc 2 1, 3) := by decide +kernel
theorem d_Mo_overlap_180 : decode c_Mo_overlap 180 = .ok (.goto (-160), 3) := by decide +kernel
theorem d_Mo_overlap_183 : decode c_Mo_overlap 183 = .ok (.iload_n 1, 1) := by decide +kernel
theorem d_Mo_overlap_184 : decode c_Mo_overlap 184 = .ok (.ireturn, 1) := by decide +kernel
