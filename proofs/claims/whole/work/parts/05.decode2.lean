theorem d_Mod_compare_45 : decode b_Mod_compare 45 = .ok (.istore 6, 2) := by decide +kernel
theorem d_Mod_compare_47 : decode b_Mod_compare 47 = .ok (.bipush 64, 2) := by decide +kernel
theorem d_Mod_compare_49 : decode b_Mod_compare 49 = .ok (.iload 6, 2) := by decide +kernel
theorem d_Mod_compare_51 : decode b_Mod_compare 51 = .ok (.imul, 1) := by decide +kernel
theorem d_Mod_compare_52 : decode b_Mod_compare 52 = .ok (.istore 7, 2) := by decide +kernel
theorem d_Mod_compare_54 : decode b_Mod_compare 54 = .ok (.iload 7, 2) := by decide +kernel
theorem d_Mod_compare_56 : decode b_Mod_compare 56 = .ok (.bipush 64, 2) := by decide +kernel
theorem d_Mod_compare_58 : decode b_Mod_compare 58 = .ok (.iload 6, 2) := by decide +kernel
theorem d_Mod_compare_60 : decode b_Mod_compare 60 = .ok (.imul, 1) := by decide +kernel
theorem d_Mod_compare_61 : decode b_Mod_compare 61 = .ok (.aload_n 0, 1) := by decide +kernel
theorem d_Mod_compare_62 : decode b_Mod_compare 62 = .ok (.getfield 7, 3) := by decide +kernel
theorem d_Mod_compare_65 : decode b_Mod_compare 65 = .ok (.iload 6, 2) := by decide +kernel
theorem d_Mod_compare_67 : decode b_Mod_compare 67 = .ok (.iaload, 1) := by decide +kernel
theorem d_Mod_compare_68 : decode b_Mod_compare 68 = .ok (.iadd, 1) := by decide +kernel
theorem d_Mod_compare_69 : decode b_Mod_compare 69 = .ok (.if_icmp .ge 89, 3) := by decide +kernel
theorem d_Mod_compare_72 : decode b_Mod_compare 72 = .ok (.aload_n 0, 1) := by decide +kernel
theorem d_Mod_compare_73 : decode b_Mod_compare 73 = .ok (.iload_n 1, 1) := by decide +kernel
theorem d_Mod_compare_74 : decode b_Mod_compare 74 = .ok (.aload_n 0, 1) := by decide +kernel
theorem d_Mod_compare_75 : decode b_Mod_compare 75 = .ok (.getfield 13, 3) := by decide +kernel
theorem d_Mod_compare_78 : decode b_Mod_compare 78 = .ok (.iload 7, 2) := by decide +kernel
theorem d_Mod_compare_80 : decode b_Mod_compare 80 = .ok (.iaload, 1) := by decide +kernel
theorem d_Mod_compare_81 : decode b_Mod_compare 81 = .ok (.aload_n 0, 1) := by decide +kernel
theorem d_Mod_compare_82 : decode b_Mod_compare 82 = .ok (.getfield 16, 3) := by decide +kernel
theorem d_Mod_compare_85 : decode b_Mod_compare 85 = .ok (.iload 7, 2) := by decide +kernel
theorem d_Mod_compare_87 : decode b_Mod_compare 87 = .ok (.laload, 1) := by decide +kernel
theorem d_Mod_compare_88 : decode b_Mod_compare 88 = .ok (.invokevirtual 63, 3) := by decide +kernel
theorem d_Mod_compare_91 : decode b_Mod_compare 91 = .ok (.lstore 8, 2) := by decide +kernel
theorem d_Mod_compare_93 : decode b_Mod_compare 93 = .ok (.aload_n 0, 1) := by decide +kernel
theorem d_Mod_compare_94 : decode b_Mod_compare 94 = .ok (.iload_n 2, 1) := by decide +kernel
theorem d_Mod_compare_95 : decode b_Mod_compare 95 = .ok (.aload_n 0, 1) := by decide +kernel
theorem d_Mod_compare_96 : decode b_Mod_compare 96 = .ok (.getfield 13, 3) := by decide +kernel
theorem d_Mod_compare_99 : decode b_Mod_compare 99 = .ok (.iload 7, 2) := by decide +kernel
theorem d_Mod_compare_101 : decode b_Mod_compare 101 = .ok (.iaload, 1) := by decide +kernel
theorem d_Mod_compare_102 : decode b_Mod_compare 102 = .ok (.aload_n 0, 1) := by decide +kernel
theorem d_Mod_compare_103 : decode b_Mod_compare 103 = .ok (.getfield 16, 3) := by decide +kernel
theorem d_Mod_compare_106 : decode b_Mod_compare 106 = .ok (.iload 7, 2) := by decide +kernel
theorem d_Mod_compare_108 : decode b_Mod_compare 108 = .ok (.laload, 1) := by decide +kernel
theorem d_Mod_compare_109 : decode b_Mod_compare 109 = .ok (.invokevirtual 63, 3) := by decide +kernel
theorem d_Mod_compare_112 : decode b_Mod_compare 112 = .ok (.lstore 10, 2) := by decide +kernel
theorem d_Mod_compare_114 : decode b_Mod_compare 114 = .ok (.iload_n 3, 1) := by decide +kernel
theorem d_Mod_compare_115 : decode b_Mod_compare 115 = .ok (.ifCond .ne 11, 3) := by decide +kernel
theorem d_Mod_compare_118 : decode b_Mod_compare 118 = .ok (.lload 8, 2) := by decide +kernel
theorem d_Mod_compare_120 : decode b_Mod_compare 120 = .ok (.lload 10, 2) := by decide +kernel
theorem d_Mod_compare_122 : decode b_Mod_compare 122 = .ok (.lcmp, 1) := by decide +kernel
theorem d_Mod_compare_123 : decode b_Mod_compare 123 = .ok (.ifCond .le 7, 3) := by decide +kernel
theorem d_Mod_compare_126 : decode b_Mod_compare 126 = .ok (.iconst 1, 1) := by decide +kernel
theorem d_Mod_compare_127 : decode b_Mod_compare 127 = .ok (.goto 4, 3) := by decide +kernel
theorem d_Mod_compare_130 : decode b_Mod_compare 130 = .ok (.iconst 0, 1) := by decide +kernel
theorem d_Mod_compare_131 : decode b_Mod_compare 131 = .ok (.istore_n 3, 1) := by decide +kernel
theorem d_Mod_compare_132 : decode b_Mod_compare 132 = .ok (.iload 4, 2) := by decide +kernel
theorem d_Mod_compare_134 : decode b_Mod_compare 134 = .ok (.ifCond .ne 11, 3) := by decide +kernel
theorem d_Mod_compare_137 : decode b_Mod_compare 137 = .ok (.lload 8, 2) := by decide +kernel
theorem d_Mod_compare_139 : decode b_Mod_compare 139 = .ok (.lload 10, 2) := by decide +kernel
theorem d_Mod_compare_141 : decode b_Mod_compare 141 = .ok (.lcmp, 1) := by decide +kernel
theorem d_Mod_compare_142 : decode b_Mod_compare 142 = .ok (.ifCond .ge 7, 3) := by decide +kernel
theorem d_Mod_compare_145 : decode b_Mod_compare 145 = .ok (.iconst 1, 1) := by decide +kernel
theorem d_Mod_compare_146 : decode b_Mod_compare 146 = .ok (.goto 4, 3) := by decide +kernel
theorem d_Mod_compare_149 : decode b_Mod_compare 149 = .ok (.iconst 0, 1) := by decide +kernel
theorem d_Mod_compare_150 : decode b_Mod_compare 150 = .ok (.istore 4, 2) := by decide +kernel
theorem d_Mod_compare_152 : decode b_Mod_compare 152 = .ok (.iinc 7 1, 3) := by decide +kernel
theorem d_Mod_compare_155 : decode b_Mod_compare 155 = .ok (.goto (-101), 3) := by decide +kernel
theorem d_Mod_compare_158 : decode b_Mod_compare 158 = .ok (.iinc 5 1, 3) := by decide +kernel
theorem d_Mod_compare_161 : decode b_Mod_compare 161 = .ok (.goto (-132), 3) := by decide +kernel
theorem d_Mod_compare_164 : decode b_Mod_compare 164 = .ok (.iload_n 3, 1) := by decide +kernel
theorem d_Mod_compare_165 : decode b_Mod_compare 165 = .ok (.ifCond .eq 16, 3) := by decide +kernel
theorem d_Mod_compare_168 : decode b_Mod_compare 168 = .ok (.iload 4, 2) := by decide +kernel
theorem d_Mod_compare_170 : decode b_Mod_compare 170 = .ok (.ifCond .eq 7, 3) := by decide +kernel
theorem d_Mod_compare_173 : decode b_Mod_compare 173 = .ok (.iconst 3, 1) := by decide +kernel
theorem d_Mod_compare_174 : decode b_Mod_compare 174 = .ok (.goto 17, 3) := by decide +kernel
theorem d_Mod_compare_177 : decode b_Mod_compare 177 = .ok (.iconst 1, 1) := by decide +kernel
theorem d_Mod_compare_178 : decode b_Mod_compare 178 = .ok (.goto 13, 3) := by decide +kernel
theorem d_Mod_compare_181 : decode b_Mod_compare 181 = .ok (.iload 4, 2) := by decide +kernel
theorem d_Mod_compare_183 : decode b_Mod_compare 183 = .ok (.ifCond .eq 7, 3) := by decide +kernel
theorem d_Mod_compare_186 : decode b_Mod_compare 186 = .ok (.iconst 2, 1) := by decide +kernel
theorem d_Mod_compare_187 : decode b_Mod_compare 187 = .ok (.goto 4, 3) := by decide +kernel
theorem d_Mod_compare_190 : decode b_Mod_compare 190 = .ok (.iconst 0, 1) := by decide +kernel
theorem d_Mod_compare_191 : decode b_Mod_compare 191 = .ok (.ireturn, 1) := by decide +kernel
theorem d_Mod_into_0 : decode b_Mod_into 0 = .ok (.aload_n 0, 1) := by decide +kernel
theorem d_Mod_into_1 : decode b_Mod_into 1 = .ok (.aload_n 0, 1) := by decide +kernel
theorem d_Mod_into_2 : decode b_Mod_into 2 = .ok (.iload_n 1, 1) := by decide +kernel
theorem d_Mod_into_3 : decode b_Mod_into 3 = .ok (.iload_n 2, 1) := by decide +kernel
theorem d_Mod_into_4 : decode b_Mod_into 4 = .ok (.iconst 0, 1) := by decide +kernel
theorem d_Mod_into_5 : decode b_Mod_into 5 = .ok (.iconst 0, 1) := by decide +kernel
theorem d_Mod_into_6 : decode b_Mod_into 6 = .ok (.invokevirtual 85, 3) := by decide +kernel
theorem d_Mod_into_9 : decode b_Mod_into 9 = .ok (.putfield 32, 3) := by decide +kernel
theorem d_Mod_into_12 : decode b_Mod_into 12 = .ok (.aload_n 0, 1) := by decide +kernel
theorem d_Mod_into_13 : decode b_Mod_into 13 = .ok (.getfield 32, 3) := by decide +kernel
theorem d_Mod_into_16 : decode b_Mod_into 16 = .ok (.ifCond .le 5, 3) := by decide +kernel
theorem d_Mod_into_19 : decode b_Mod_into 19 = .ok (.lconst 0, 1) := by decide +kernel
theorem d_Mod_into_20 : decode b_Mod_into 20 = .ok (.lreturn, 1) := by decide +kernel
theorem d_Mod_into_21 : decode b_Mod_into 21 = .ok (.lconst 0, 1) := by decide +kernel
theorem d_Mod_into_22 : decode b_Mod_into 22 = .ok (.lstore_n 3, 1) := by decide +kernel
theorem d_Mod_into_23 : decode b_Mod_into 23 = .ok (.ldc2_w 58, 3) := by decide +kernel
theorem d_Mod_into_26 : decode b_Mod_into 26 = .ok (.lstore 5, 2) := by decide +kernel
theorem d_Mod_into_28 : decode b_Mod_into 28 = .ok (.iconst 1, 1) := by decide +kernel
theorem d_Mod_into_29 : decode b_Mod_into 29 = .ok (.istore 7, 2) := by decide +kernel
theorem d_Mod_into_31 : decode b_Mod_into 31 = .ok (.iconst 0, 1) := by decide +kernel
theorem d_Mod_into_32 : decode b_Mod_into 32 = .ok (.istore 8, 2) := by decide +kernel
theorem d_Mod_into_34 : decode b_Mod_into 34 = .ok (.iload 8, 2) := by decide +kernel
theorem d_Mod_into_36 : decode b_Mod_into 36 = .ok (.iconst 2, 1) := by decide +kernel
theorem d_Mod_into_37 : decode b_Mod_into 37 = .ok (.if_icmp .ge 255, 3) := by decide +kernel
theorem d_Mod_into_40 : decode b_Mod_into 40 = .ok (.iload 8, 2) := by decide +kernel
theorem d_Mod_into_42 : decode b_Mod_into 42 = .ok (.ifCond .ne 7, 3) := by decide +kernel
theorem d_Mod_into_45 : decode b_Mod_into 45 = .ok (.iload_n 1, 1) := by decide +kernel
theorem d_Mod_into_46 : decode b_Mod_into 46 = .ok (.goto 4, 3) := by decide +kernel
theorem d_Mod_into_49 : decode b_Mod_into 49 = .ok (.iload_n 2, 1) := by decide +kernel
theorem d_Mod_into_50 : decode b_Mod_into 50 = .ok (.istore 9, 2) := by decide +kernel
theorem d_Mod_into_52 : decode b_Mod_into 52 = .ok (.bipush 64, 2) := by decide +kernel
theorem d_Mod_into_54 : decode b_Mod_into 54 = .ok (.iload 9, 2) := by decide +kernel
theorem d_Mod_into_56 : decode b_Mod_into 56 = .ok (.imul, 1) := by decide +kernel
theorem d_Mod_into_57 : decode b_Mod_into 57 = .ok (.istore 10, 2) := by decide +kernel
theorem d_Mod_into_59 : decode b_Mod_into 59 = .ok (.iload 10, 2) := by decide +kernel
theorem d_Mod_into_61 : decode b_Mod_into 61 = .ok (.bipush 64, 2) := by decide +kernel
theorem d_Mod_into_63 : decode b_Mod_into 63 = .ok (.iload 9, 2) := by decide +kernel
theorem d_Mod_into_65 : decode b_Mod_into 65 = .ok (.imul, 1) := by decide +kernel
theorem d_Mod_into_66 : decode b_Mod_into 66 = .ok (.aload_n 0, 1) := by decide +kernel
theorem d_Mod_into_67 : decode b_Mod_into 67 = .ok (.getfield 7, 3) := by decide +kernel
theorem d_Mod_into_70 : decode b_Mod_into 70 = .ok (.iload 9, 2) := by decide +kernel
theorem d_Mod_into_72 : decode b_Mod_into 72 = .ok (.iaload, 1) := by decide +kernel
theorem d_Mod_into_73 : decode b_Mod_into 73 = .ok (.iadd, 1) := by decide +kernel
theorem d_Mod_into_74 : decode b_Mod_into 74 = .ok (.if_icmp .ge 212, 3) := by decide +kernel
theorem d_Mod_into_77 : decode b_Mod_into 77 = .ok (.aload_n 0, 1) := by decide +kernel
theorem d_Mod_into_78 : decode b_Mod_into 78 = .ok (.iload_n 1, 1) := by decide +kernel
theorem d_Mod_into_79 : decode b_Mod_into 79 = .ok (.aload_n 0, 1) := by decide +kernel
theorem d_Mod_into_80 : decode b_Mod_into 80 = .ok (.getfield 13, 3) := by decide +kernel
theorem d_Mod_into_83 : decode b_Mod_into 83 = .ok (.iload 10, 2) := by decide +kernel
theorem d_Mod_into_85 : decode b_Mod_into 85 = .ok (.iaload, 1) := by decide +kernel
theorem d_Mod_into_86 : decode b_Mod_into 86 = .ok (.aload_n 0, 1) := by decide +kernel
theorem d_Mod_into_87 : decode b_Mod_into 87 = .ok (.getfield 16, 3) := by decide +kernel
theorem d_Mod_into_90 : decode b_Mod_into 90 = .ok (.iload 10, 2) := by decide +kernel
theorem d_Mod_into_92 : decode b_Mod_into 92 = .ok (.laload, 1) := by decide +kernel
theorem d_Mod_into_93 : decode b_Mod_into 93 = .ok (.invokevirtual 63, 3) := by decide +kernel
theorem d_Mod_into_96 : decode b_Mod_into 96 = .ok (.lstore 11, 2) := by decide +kernel
theorem d_Mod_into_98 : decode b_Mod_into 98 = .ok (.aload_n 0, 1) := by decide +kernel
theorem d_Mod_into_99 : decode b_Mod_into 99 = .ok (.iload_n 2, 1) := by decide +kernel
theorem d_Mod_into_100 : decode b_Mod_into 100 = .ok (.aload_n 0, 1) := by decide +kernel
theorem d_Mod_into_101 : decode b_Mod_into 101 = .ok (.getfield 13, 3) := by decide +kernel
theorem d_Mod_into_104 : decode b_Mod_into 104 = .ok (.iload 10, 2) := by decide +kernel
theorem d_Mod_into_106 : decode b_Mod_into 106 = .ok (.iaload, 1) := by decide +kernel
theorem d_Mod_into_107 : decode b_Mod_into 107 = .ok (.aload_n 0, 1) := by decide +kernel
theorem d_Mod_into_108 : decode b_Mod_into 108 = .ok (.getfield 16, 3) := by decide +kernel
theorem d_Mod_into_111 : decode b_Mod_into 111 = .ok (.iload 10, 2) := by decide +kernel
theorem d_Mod_into_113 : decode b_Mod_into 113 = .ok (.laload, 1) := by decide +kernel
theorem d_Mod_into_114 : decode b_Mod_into 114 = .ok (.invokevirtual 63, 3) := by decide +kernel
theorem d_Mod_into_117 : decode b_Mod_into 117 = .ok (.lstore 13, 2) := by decide +kernel
theorem d_Mod_into_119 : decode b_Mod_into 119 = .ok (.lload 13, 2) := by decide +kernel
theorem d_Mod_into_121 : decode b_Mod_into 121 = .ok (.lconst 0, 1) := by decide +kernel
theorem d_Mod_into_122 : decode b_Mod_into 122 = .ok (.lcmp, 1) := by decide +kernel
theorem d_Mod_into_123 : decode b_Mod_into 123 = .ok (.ifCond .lt 62, 3) := by decide +kernel
theorem d_Mod_into_126 : decode b_Mod_into 126 = .ok (.iload 7, 2) := by decide +kernel
theorem d_Mod_into_128 : decode b_Mod_into 128 = .ok (.ifCond .eq 14, 3) := by decide +kernel
theorem d_Mod_into_131 : decode b_Mod_into 131 = .ok (.lload 11, 2) := by decide +kernel
theorem d_Mod_into_133 : decode b_Mod_into 133 = .ok (.lconst 0, 1) := by decide +kernel
theorem d_Mod_into_134 : decode b_Mod_into 134 = .ok (.lcmp, 1) := by decide +kernel
theorem d_Mod_into_135 : decode b_Mod_into 135 = .ok (.ifCond .lt 7, 3) := by decide +kernel
theorem d_Mod_into_138 : decode b_Mod_into 138 = .ok (.iconst 1, 1) := by decide +kernel
theorem d_Mod_into_139 : decode b_Mod_into 139 = .ok (.goto 4, 3) := by decide +kernel
theorem d_Mod_into_142 : decode b_Mod_into 142 = .ok (.iconst 0, 1) := by decide +kernel
theorem d_Mod_into_143 : decode b_Mod_into 143 = .ok (.istore 7, 2) := by decide +kernel
theorem d_Mod_into_145 : decode b_Mod_into 145 = .ok (.lload 13, 2) := by decide +kernel
theorem d_Mod_into_147 : decode b_Mod_into 147 = .ok (.lconst 0, 1) := by decide +kernel
theorem d_Mod_into_148 : decode b_Mod_into 148 = .ok (.lcmp, 1) := by decide +kernel
theorem d_Mod_into_149 : decode b_Mod_into 149 = .ok (.ifCond .le 29, 3) := by decide +kernel
theorem d_Mod_into_152 : decode b_Mod_into 152 = .ok (.lload 5, 2) := by decide +kernel
theorem d_Mod_into_154 : decode b_Mod_into 154 = .ok (.lconst 0, 1) := by decide +kernel
theorem d_Mod_into_155 : decode b_Mod_into 155 = .ok (.lcmp, 1) := by decide +kernel
theorem d_Mod_into_156 : decode b_Mod_into 156 = .ok (.ifCond .lt 14, 3) := by decide +kernel
theorem d_Mod_into_159 : decode b_Mod_into 159 = .ok (.lload 11, 2) := by decide +kernel
theorem d_Mod_into_161 : decode b_Mod_into 161 = .ok (.lload 13, 2) := by decide +kernel
theorem d_Mod_into_163 : decode b_Mod_into 163 = .ok (.ldiv, 1) := by decide +kernel
theorem d_Mod_into_164 : decode b_Mod_into 164 = .ok (.lload 5, 2) := by decide +kernel
theorem d_Mod_into_166 : decode b_Mod_into 166 = .ok (.lcmp, 1) := by decide +kernel
theorem d_Mod_into_167 : decode b_Mod_into 167 = .ok (.ifCond .ge 11, 3) := by decide +kernel
theorem d_Mod_into_170 : decode b_Mod_into 170 = .ok (.lload 11, 2) := by decide +kernel
theorem d_Mod_into_172 : decode b_Mod_into 172 = .ok (.lload 13, 2) := by decide +kernel
theorem d_Mod_into_174 : decode b_Mod_into 174 = .ok (.ldiv, 1) := by decide +kernel
theorem d_Mod_into_175 : decode b_Mod_into 175 = .ok (.goto 5, 3) := by decide +kernel
theorem d_Mod_into_178 : decode b_Mod_into 178 = .ok (.lload 5, 2) := by decide +kernel
theorem d_Mod_into_180 : decode b_Mod_into 180 = .ok (.lstore 5, 2) := by decide +kernel
theorem d_Mod_into_182 : decode b_Mod_into 182 = .ok (.goto 98, 3) := by decide +kernel
theorem d_Mod_into_185 : decode b_Mod_into 185 = .ok (.lload 11, 2) := by decide +kernel
theorem d_Mod_into_187 : decode b_Mod_into 187 = .ok (.lconst 0, 1) := by decide +kernel
theorem d_Mod_into_188 : decode b_Mod_into 188 = .ok (.lcmp, 1) := by decide +kernel
theorem d_Mod_into_189 : decode b_Mod_into 189 = .ok (.ifCond .ge 91, 3) := by decide +kernel
theorem d_Mod_into_192 : decode b_Mod_into 192 = .ok (.lload 11, 2) := by decide +kernel
theorem d_Mod_into_194 : decode b_Mod_into 194 = .ok (.ldc2_w 43, 3) := by decide +kernel
theorem d_Mod_into_197 : decode b_Mod_into 197 = .ok (.lcmp, 1) := by decide +kernel
theorem d_Mod_into_198 : decode b_Mod_into 198 = .ok (.ifCond .ne 16, 3) := by decide +kernel
theorem d_Mod_into_201 : decode b_Mod_into 201 = .ok (.lload 13, 2) := by decide +kernel
theorem d_Mod_into_203 : decode b_Mod_into 203 = .ok (.ldc2_w 58, 3) := by decide +kernel
theorem d_Mod_into_206 : decode b_Mod_into 206 = .ok (.lcmp, 1) := by decide +kernel
theorem d_Mod_into_207 : decode b_Mod_into 207 = .ok (.ifCond .ne 7, 3) := by decide +kernel
theorem d_Mod_into_210 : decode b_Mod_into 210 = .ok (.iconst 1, 1) := by decide +kernel
theorem d_Mod_into_211 : decode b_Mod_into 211 = .ok (.goto 4, 3) := by decide +kernel
theorem d_Mod_into_214 : decode b_Mod_into 214 = .ok (.iconst 0, 1) := by decide +kernel
theorem d_Mod_into_215 : decode b_Mod_into 215 = .ok (.istore 15, 2) := by decide +kernel
theorem d_Mod_into_217 : decode b_Mod_into 217 = .ok (.iload 7, 2) := by decide +kernel
theorem d_Mod_into_219 : decode b_Mod_into 219 = .ok (.ifCond .eq 12, 3) := by decide +kernel
theorem d_Mod_into_222 : decode b_Mod_into 222 = .ok (.iload 15, 2) := by decide +kernel
theorem d_Mod_into_224 : decode b_Mod_into 224 = .ok (.ifCond .ne 7, 3) := by decide +kernel
theorem d_Mod_into_227 : decode b_Mod_into 227 = .ok (.iconst 1, 1) := by decide +kernel
theorem d_Mod_into_228 : decode b_Mod_into 228 = .ok (.goto 4, 3) := by decide +kernel
theorem d_Mod_into_231 : decode b_Mod_into 231 = .ok (.iconst 0, 1) := by decide +kernel
theorem d_Mod_into_232 : decode b_Mod_into 232 = .ok (.istore 7, 2) := by decide +kernel
theorem d_Mod_into_234 : decode b_Mod_into 234 = .ok (.iload 15, 2) := by decide +kernel
theorem d_Mod_into_236 : decode b_Mod_into 236 = .ok (.ifCond .eq 7, 3) := by decide +kernel
theorem d_Mod_into_239 : decode b_Mod_into 239 = .ok (.lconst 0, 1) := by decide +kernel
theorem d_Mod_into_240 : decode b_Mod_into 240 = .ok (.goto 24, 3) := by decide +kernel
theorem d_Mod_into_243 : decode b_Mod_into 243 = .ok (.lload 11, 2) := by decide +kernel
theorem d_Mod_into_245 : decode b_Mod_into 245 = .ok (.lload 13, 2) := by decide +kernel
theorem d_Mod_into_247 : decode b_Mod_into 247 = .ok (.ldiv, 1) := by decide +kernel
theorem d_Mod_into_248 : decode b_Mod_into 248 = .ok (.lload 11, 2) := by decide +kernel
theorem d_Mod_into_250 : decode b_Mod_into 250 = .ok (.lload 13, 2) := by decide +kernel
theorem d_Mod_into_252 : decode b_Mod_into 252 = .ok (.lrem, 1) := by decide +kernel
theorem d_Mod_into_253 : decode b_Mod_into 253 = .ok (.lconst 0, 1) := by decide +kernel
theorem d_Mod_into_254 : decode b_Mod_into 254 = .ok (.lcmp, 1) := by decide +kernel
theorem d_Mod_into_255 : decode b_Mod_into 255 = .ok (.ifCond .eq 7, 3) := by decide +kernel
theorem d_Mod_into_258 : decode b_Mod_into 258 = .ok (.lconst 1, 1) := by decide +kernel
theorem d_Mod_into_259 : decode b_Mod_into 259 = .ok (.goto 4, 3) := by decide +kernel
theorem d_Mod_into_262 : decode b_Mod_into 262 = .ok (.lconst 0, 1) := by decide +kernel
theorem d_Mod_into_263 : decode b_Mod_into 263 = .ok (.ladd, 1) := by decide +kernel
theorem d_Mod_into_264 : decode b_Mod_into 264 = .ok (.lstore 16, 2) := by decide +kernel
theorem d_Mod_into_266 : decode b_Mod_into 266 = .ok (.lload 16, 2) := by decide +kernel
theorem d_Mod_into_268 : decode b_Mod_into 268 = .ok (.lload_n 3, 1) := by decide +kernel
theorem d_Mod_into_269 : decode b_Mod_into 269 = .ok (.lcmp, 1) := by decide +kernel
theorem d_Mod_into_270 : decode b_Mod_into 270 = .ok (.ifCond .le 8, 3) := by decide +kernel
theorem d_Mod_into_273 : decode b_Mod_into 273 = .ok (.lload 16, 2) := by decide +kernel
theorem d_Mod_into_275 : decode b_Mod_into 275 = .ok (.goto 4, 3) := by decide +kernel
theorem d_Mod_into_278 : decode b_Mod_into 278 = .ok (.lload_n 3, 1) := by decide +kernel
theorem d_Mod_into_279 : decode b_Mod_into 279 = .ok (.lstore_n 3, 1) := by decide +kernel
theorem d_Mod_into_280 : decode b_Mod_into 280 = .ok (.iinc 10 1, 3) := by decide +kernel
theorem d_Mod_into_283 : decode b_Mod_into 283 = .ok (.goto (-224), 3) := by decide +kernel
theorem d_Mod_into_286 : decode b_Mod_into 286 = .ok (.iinc 8 1, 3) := by decide +kernel
theorem d_Mod_into_289 : decode b_Mod_into 289 = .ok (.goto (-255), 3) := by decide +kernel
theorem d_Mod_into_292 : decode b_Mod_into 292 = .ok (.iload 7, 2) := by decide +kernel
theorem d_Mod_into_294 : decode b_Mod_into 294 = .ok (.ifCond .eq 15, 3) := by decide +kernel
theorem d_Mod_into_297 : decode b_Mod_into 297 = .ok (.lload 5, 2) := by decide +kernel
theorem d_Mod_into_299 : decode b_Mod_into 299 = .ok (.lload_n 3, 1) := by decide +kernel
theorem d_Mod_into_300 : decode b_Mod_into 300 = .ok (.lcmp, 1) := by decide +kernel
theorem d_Mod_into_301 : decode b_Mod_into 301 = .ok (.ifCond .lt 8, 3) := by decide +kernel
theorem d_Mod_into_304 : decode b_Mod_into 304 = .ok (.lload 5, 2) := by decide +kernel
theorem d_Mod_into_306 : decode b_Mod_into 306 = .ok (.goto 6, 3) := by decide +kernel
theorem d_Mod_into_309 : decode b_Mod_into 309 = .ok (.ldc2_w 58, 3) := by decide +kernel
theorem d_Mod_into_312 : decode b_Mod_into 312 = .ok (.lreturn, 1) := by decide +kernel
theorem d_Mod_look_0 : decode b_Mod_look 0 = .ok (.aload_n 0, 1) := by decide +kernel
theorem d_Mod_look_1 : decode b_Mod_look 1 = .ok (.iload_n 1, 1) := by decide +kernel
theorem d_Mod_look_2 : decode b_Mod_look 2 = .ok (.invokestatic 78, 3) := by decide +kernel
theorem d_Mod_look_5 : decode b_Mod_look 5 = .ok (.ifCond .eq 7, 3) := by decide +kernel
theorem d_Mod_look_8 : decode b_Mod_look 8 = .ok (.iconst 0, 1) := by decide +kernel
theorem d_Mod_look_9 : decode b_Mod_look 9 = .ok (.goto 4, 3) := by decide +kernel
theorem d_Mod_look_12 : decode b_Mod_look 12 = .ok (.iconst 1, 1) := by decide +kernel
theorem d_Mod_look_13 : decode b_Mod_look 13 = .ok (.putfield 32, 3) := by decide +kernel
theorem d_Mod_look_16 : decode b_Mod_look 16 = .ok (.aload_n 0, 1) := by decide +kernel
theorem d_Mod_look_17 : decode b_Mod_look 17 = .ok (.getfield 32, 3) := by decide +kernel
theorem d_Mod_look_20 : decode b_Mod_look 20 = .ok (.ifCond .le 5, 3) := by decide +kernel
theorem d_Mod_look_23 : decode b_Mod_look 23 = .ok (.iconst 0, 1) := by decide +kernel
theorem d_Mod_look_24 : decode b_Mod_look 24 = .ok (.ireturn, 1) := by decide +kernel
theorem d_Mod_look_25 : decode b_Mod_look 25 = .ok (.iconst 0, 1) := by decide +kernel
theorem d_Mod_look_26 : decode b_Mod_look 26 = .ok (.istore_n 3, 1) := by decide +kernel
theorem d_Mod_look_27 : decode b_Mod_look 27 = .ok (.iconst 0, 1) := by decide +kernel
theorem d_Mod_look_28 : decode b_Mod_look 28 = .ok (.istore 4, 2) := by decide +kernel
theorem d_Mod_look_30 : decode b_Mod_look 30 = .ok (.iconst (-1), 1) := by decide +kernel
theorem d_Mod_look_31 : decode b_Mod_look 31 = .ok (.istore 5, 2) := by decide +kernel
theorem d_Mod_look_33 : decode b_Mod_look 33 = .ok (.iconst 0, 1) := by decide +kernel
theorem d_Mod_look_34 : decode b_Mod_look 34 = .ok (.istore 6, 2) := by decide +kernel
theorem d_Mod_look_36 : decode b_Mod_look 36 = .ok (.iload 6, 2) := by decide +kernel
theorem d_Mod_look_38 : decode b_Mod_look 38 = .ok (.aload_n 0, 1) := by decide +kernel
theorem d_Mod_look_39 : decode b_Mod_look 39 = .ok (.getfield 7, 3) := by decide +kernel
theorem d_Mod_look_42 : decode b_Mod_look 42 = .ok (.iload_n 1, 1) := by decide +kernel
theorem d_Mod_look_43 : decode b_Mod_look 43 = .ok (.iaload, 1) := by decide +kernel
theorem d_Mod_look_44 : decode b_Mod_look 44 = .ok (.if_icmp .ge 151, 3) := by decide +kernel
theorem d_Mod_look_47 : decode b_Mod_look 47 = .ok (.bipush 64, 2) := by decide +kernel
theorem d_Mod_look_49 : decode b_Mod_look 49 = .ok (.iload_n 1, 1) := by decide +kernel
theorem d_Mod_look_50 : decode b_Mod_look 50 = .ok (.imul, 1) := by decide +kernel
theorem d_Mod_look_51 : decode b_Mod_look 51 = .ok (.aload_n 0, 1) := by decide +kernel
theorem d_Mod_look_52 : decode b_Mod_look 52 = .ok (.iload_n 1, 1) := by decide +kernel
theorem d_Mod_look_53 : decode b_Mod_look 53 = .ok (.iload 6, 2) := by decide +kernel
theorem d_Mod_look_55 : decode b_Mod_look 55 = .ok (.invokevirtual 103, 3) := by decide +kernel
theorem d_Mod_look_58 : decode b_Mod_look 58 = .ok (.iadd, 1) := by decide +kernel
theorem d_Mod_look_59 : decode b_Mod_look 59 = .ok (.istore 7, 2) := by decide +kernel
theorem d_Mod_look_61 : decode b_Mod_look 61 = .ok (.iload 6, 2) := by decide +kernel
theorem d_Mod_look_63 : decode b_Mod_look 63 = .ok (.ifCond .ne 7, 3) := by decide +kernel
theorem d_Mod_look_66 : decode b_Mod_look 66 = .ok (.iconst 0, 1) := by decide +kernel
theorem d_Mod_look_67 : decode b_Mod_look 67 = .ok (.goto 17, 3) := by decide +kernel
theorem d_Mod_look_70 : decode b_Mod_look 70 = .ok (.bipush 64, 2) := by decide +kernel
theorem d_Mod_look_72 : decode b_Mod_look 72 = .ok (.iload_n 1, 1) := by decide +kernel
theorem d_Mod_look_73 : decode b_Mod_look 73 = .ok (.imul, 1) := by decide +kernel
theorem d_Mod_look_74 : decode b_Mod_look 74 = .ok (.aload_n 0, 1) := by decide +kernel
theorem d_Mod_look_75 : decode b_Mod_look 75 = .ok (.iload_n 1, 1) := by decide +kernel
theorem d_Mod_look_76 : decode b_Mod_look 76 = .ok (.iload 6, 2) := by decide +kernel
theorem d_Mod_look_78 : decode b_Mod_look 78 = .ok (.iconst 1, 1) := by decide +kernel
theorem d_Mod_look_79 : decode b_Mod_look 79 = .ok (.isub, 1) := by decide +kernel
theorem d_Mod_look_80 : decode b_Mod_look 80 = .ok (.invokevirtual 103, 3) := by decide +kernel
theorem d_Mod_look_83 : decode b_Mod_look 83 = .ok (.iadd, 1) := by decide +kernel
theorem d_Mod_look_84 : decode b_Mod_look 84 = .ok (.istore 8, 2) := by decide +kernel
theorem d_Mod_look_86 : decode b_Mod_look 86 = .ok (.iload_n 3, 1) := by decide +kernel
theorem d_Mod_look_87 : decode b_Mod_look 87 = .ok (.iload 6, 2) := by decide +kernel
theorem d_Mod_look_89 : decode b_Mod_look 89 = .ok (.ifCond .eq 20, 3) := by decide +kernel
theorem d_Mod_look_92 : decode b_Mod_look 92 = .ok (.aload_n 0, 1) := by decide +kernel
theorem d_Mod_look_93 : decode b_Mod_look 93 = .ok (.getfield 13, 3) := by decide +kernel
theorem d_Mod_look_96 : decode b_Mod_look 96 = .ok (.iload 8, 2) := by decide +kernel
theorem d_Mod_look_98 : decode b_Mod_look 98 = .ok (.iaload, 1) := by decide +kernel
theorem d_Mod_look_99 : decode b_Mod_look 99 = .ok (.aload_n 0, 1) := by decide +kernel
theorem d_Mod_look_100 : decode b_Mod_look 100 = .ok (.getfield 13, 3) := by decide +kernel
theorem d_Mod_look_103 : decode b_Mod_look 103 = .ok (.iload 7, 2) := by decide +kernel
theorem d_Mod_look_105 : decode b_Mod_look 105 = .ok (.iaload, 1) := by decide +kernel
theorem d_Mod_look_106 : decode b_Mod_look 106 = .ok (.if_icmp .eq 7, 3) := by decide +kernel
theorem d_Mod_look_109 : decode b_Mod_look 109 = .ok (.iconst 1, 1) := by decide +kernel
theorem d_Mod_look_110 : decode b_Mod_look 110 = .ok (.goto 4, 3) := by decide +kernel
theorem d_Mod_look_113 : decode b_Mod_look 113 = .ok (.iconst 0, 1) := by decide +kernel
theorem d_Mod_look_114 : decode b_Mod_look 114 = .ok (.iadd, 1) := by decide +kernel
theorem d_Mod_look_115 : decode b_Mod_look 115 = .ok (.istore_n 3, 1) := by decide +kernel
theorem d_Mod_look_116 : decode b_Mod_look 116 = .ok (.iload 4, 2) := by decide +kernel
theorem d_Mod_look_118 : decode b_Mod_look 118 = .ok (.aload_n 0, 1) := by decide +kernel
theorem d_Mod_look_119 : decode b_Mod_look 119 = .ok (.getfield 20, 3) := by decide +kernel
theorem d_Mod_look_122 : decode b_Mod_look 122 = .ok (.iload 7, 2) := by decide +kernel
theorem d_Mod_look_124 : decode b_Mod_look 124 = .ok (.laload, 1) := by decide +kernel
theorem d_Mod_look_125 : decode b_Mod_look 125 = .ok (.lconst 0, 1) := by decide +kernel
theorem d_Mod_look_126 : decode b_Mod_look 126 = .ok (.lcmp, 1) := by decide +kernel
theorem d_Mod_look_127 : decode b_Mod_look 127 = .ok (.ifCond .ge 7, 3) := by decide +kernel
theorem d_Mod_look_130 : decode b_Mod_look 130 = .ok (.iconst 1, 1) := by decide +kernel
theorem d_Mod_look_131 : decode b_Mod_look 131 = .ok (.goto 4, 3) := by decide +kernel
theorem d_Mod_look_134 : decode b_Mod_look 134 = .ok (.iconst 0, 1) := by decide +kernel
theorem d_Mod_look_135 : decode b_Mod_look 135 = .ok (.iadd, 1) := by decide +kernel
theorem d_Mod_look_136 : decode b_Mod_look 136 = .ok (.istore 4, 2) := by decide +kernel
theorem d_Mod_look_138 : decode b_Mod_look 138 = .ok (.iload 5, 2) := by decide +kernel
theorem d_Mod_look_140 : decode b_Mod_look 140 = .ok (.ifCond .lt 40, 3) := by decide +kernel
theorem d_Mod_look_143 : decode b_Mod_look 143 = .ok (.aload_n 0, 1) := by decide +kernel
theorem d_Mod_look_144 : decode b_Mod_look 144 = .ok (.getfield 20, 3) := by decide +kernel
theorem d_Mod_look_147 : decode b_Mod_look 147 = .ok (.iload 7, 2) := by decide +kernel
theorem d_Mod_look_149 : decode b_Mod_look 149 = .ok (.laload, 1) := by decide +kernel
theorem d_Mod_look_150 : decode b_Mod_look 150 = .ok (.aload_n 0, 1) := by decide +kernel
theorem d_Mod_look_151 : decode b_Mod_look 151 = .ok (.getfield 20, 3) := by decide +kernel
theorem d_Mod_look_154 : decode b_Mod_look 154 = .ok (.bipush 64, 2) := by decide +kernel
theorem d_Mod_look_156 : decode b_Mod_look 156 = .ok (.iload_n 1, 1) := by decide +kernel
theorem d_Mod_look_157 : decode b_Mod_look 157 = .ok (.imul, 1) := by decide +kernel
theorem d_Mod_look_158 : decode b_Mod_look 158 = .ok (.aload_n 0, 1) := by decide +kernel
theorem d_Mod_look_159 : decode b_Mod_look 159 = .ok (.iload_n 1, 1) := by decide +kernel
theorem d_Mod_look_160 : decode b_Mod_look 160 = .ok (.iload 5, 2) := by decide +kernel
theorem d_Mod_look_162 : decode b_Mod_look 162 = .ok (.ifCond .ge 7, 3) := by decide +kernel
theorem d_Mod_look_165 : decode b_Mod_look 165 = .ok (.iconst 0, 1) := by decide +kernel
theorem d_Mod_look_166 : decode b_Mod_look 166 = .ok (.goto 5, 3) := by decide +kernel
theorem d_Mod_look_169 : decode b_Mod_look 169 = .ok (.iload 5, 2) := by decide +kernel
theorem d_Mod_look_171 : decode b_Mod_look 171 = .ok (.invokevirtual 103, 3) := by decide +kernel
theorem d_Mod_look_174 : decode b_Mod_look 174 = .ok (.iadd, 1) := by decide +kernel
theorem d_Mod_look_175 : decode b_Mod_look 175 = .ok (.laload, 1) := by decide +kernel
theorem d_Mod_look_176 : decode b_Mod_look 176 = .ok (.lcmp, 1) := by decide +kernel
theorem d_Mod_look_177 : decode b_Mod_look 177 = .ok (.ifCond .le 8, 3) := by decide +kernel
theorem d_Mod_look_180 : decode b_Mod_look 180 = .ok (.iload 6, 2) := by decide +kernel
theorem d_Mod_look_182 : decode b_Mod_look 182 = .ok (.goto 5, 3) := by decide +kernel
theorem d_Mod_look_185 : decode b_Mod_look 185 = .ok (.iload 5, 2) := by decide +kernel
theorem d_Mod_look_187 : decode b_Mod_look 187 = .ok (.istore 5, 2) := by decide +kernel
theorem d_Mod_look_189 : decode b_Mod_look 189 = .ok (.iinc 6 1, 3) := by decide +kernel
theorem d_Mod_look_192 : decode b_Mod_look 192 = .ok (.goto (-156), 3) := by decide +kernel
theorem d_Mod_look_195 : decode b_Mod_look 195 = .ok (.iload_n 2, 1) := by decide +kernel
theorem d_Mod_look_196 : decode b_Mod_look 196 = .ok (.ifCond .ne 7, 3) := by decide +kernel
theorem d_Mod_look_199 : decode b_Mod_look 199 = .ok (.iload_n 3, 1) := by decide +kernel
theorem d_Mod_look_200 : decode b_Mod_look 200 = .ok (.goto 24, 3) := by decide +kernel
theorem d_Mod_look_203 : decode b_Mod_look 203 = .ok (.iload_n 2, 1) := by decide +kernel
theorem d_Mod_look_204 : decode b_Mod_look 204 = .ok (.iconst 1, 1) := by decide +kernel
theorem d_Mod_look_205 : decode b_Mod_look 205 = .ok (.if_icmp .ne 8, 3) := by decide +kernel
theorem d_Mod_look_208 : decode b_Mod_look 208 = .ok (.iload 4, 2) := by decide +kernel
theorem d_Mod_look_210 : decode b_Mod_look 210 = .ok (.goto 14, 3) := by decide +kernel
theorem d_Mod_look_213 : decode b_Mod_look 213 = .ok (.iload_n 2, 1) := by decide +kernel
theorem d_Mod_look_214 : decode b_Mod_look 214 = .ok (.iconst 2, 1) := by decide +kernel
theorem d_Mod_look_215 : decode b_Mod_look 215 = .ok (.if_icmp .ne 8, 3) := by decide +kernel
theorem d_Mod_look_218 : decode b_Mod_look 218 = .ok (.iload 5, 2) := by decide +kernel
theorem d_Mod_look_220 : decode b_Mod_look 220 = .ok (.goto 4, 3) := by decide +kernel
theorem d_Mod_look_223 : decode b_Mod_look 223 = .ok (.iconst (-1), 1) := by decide +kernel
theorem d_Mod_look_224 : decode b_Mod_look 224 = .ok (.ireturn, 1) := by decide +kernel
theorem d_Law_law_0 : decode code 0 = .ok (.new 8, 3) := by decide +kernel
theorem d_Law_law_3 : decode code 3 = .ok (.dup, 1) := by decide +kernel
theorem d_Law_law_4 : decode code 4 = .ok (.invokespecial 68, 3) := by decide +kernel
theorem d_Law_law_7 : decode code 7 = .ok (.astore_n 1, 1) := by decide +kernel
theorem d_Law_law_8 : decode code 8 = .ok (.new 69, 3) := by decide +kernel
theorem d_Law_law_11 : decode code 11 = .ok (.dup, 1) := by decide +kernel
theorem d_Law_law_12 : decode code 12 = .ok (.invokespecial 71, 3) := by decide +kernel
theorem d_Law_law_15 : decode code 15 = .ok (.astore_n 2, 1) := by decide +kernel
theorem d_Law_law_16 : decode code 16 = .ok (.iconst 1, 1) := by decide +kernel
theorem d_Law_law_17 : decode code 17 = .ok (.newarray .long, 2) := by decide +kernel
theorem d_Law_law_19 : decode code 19 = .ok (.astore_n 3, 1) := by decide +kernel
theorem d_Law_law_20 : decode code 20 = .ok (.iconst 0, 1) := by decide +kernel
theorem d_Law_law_21 : decode code 21 = .ok (.istore 4, 2) := by decide +kernel
theorem d_Law_law_23 : decode code 23 = .ok (.iload 4, 2) := by decide +kernel
theorem d_Law_law_25 : decode code 25 = .ok (.aload_n 0, 1) := by decide +kernel
theorem d_Law_law_26 : decode code 26 = .ok (.arraylength, 1) := by decide +kernel
theorem d_Law_law_27 : decode code 27 = .ok (.bipush 7, 2) := by decide +kernel
theorem d_Law_law_29 : decode code 29 = .ok (.isub, 1) := by decide +kernel
theorem d_Law_law_30 : decode code 30 = .ok (.if_icmp .gt 1462, 3) := by decide +kernel
theorem d_Law_law_33 : decode code 33 = .ok (.aload_n 0, 1) := by decide +kernel
theorem d_Law_law_34 : decode code 34 = .ok (.iload 4, 2) := by decide +kernel
theorem d_Law_law_36 : decode code 36 = .ok (.iaload, 1) := by decide +kernel
theorem d_Law_law_37 : decode code 37 = .ok (.bipush 15, 2) := by decide +kernel
theorem d_Law_law_39 : decode code 39 = .ok (.iand, 1) := by decide +kernel
theorem d_Law_law_40 : decode code 40 = .ok (.tableswitch 1446 0 14 #[76, 241, 406, 493, 580, 699, 787, 874, 910, 1021, 1077, 1156, 1224, 1311, 1378], 76) := by decide +kernel
theorem d_Law_law_116 : decode code 116 = .ok (.aload_n 1, 1) := by decide +kernel
theorem d_Law_law_117 : decode code 117 = .ok (.aload_n 0, 1) := by decide +kernel
theorem d_Law_law_118 : decode code 118 = .ok (.iload 4, 2) := by decide +kernel
theorem d_Law_law_120 : decode code 120 = .ok (.iconst 1, 1) := by decide +kernel
theorem d_Law_law_121 : decode code 121 = .ok (.iadd, 1) := by decide +kernel
theorem d_Law_law_122 : decode code 122 = .ok (.iaload, 1) := by decide +kernel
theorem d_Law_law_123 : decode code 123 = .ok (.aload_n 0, 1) := by decide +kernel
theorem d_Law_law_124 : decode code 124 = .ok (.iload 4, 2) := by decide +kernel
theorem d_Law_law_126 : decode code 126 = .ok (.iconst 2, 1) := by decide +kernel
theorem d_Law_law_127 : decode code 127 = .ok (.iadd, 1) := by decide +kernel
theorem d_Law_law_128 : decode code 128 = .ok (.iaload, 1) := by decide +kernel
theorem d_Law_law_129 : decode code 129 = .ok (.aload_n 0, 1) := by decide +kernel
theorem d_Law_law_130 : decode code 130 = .ok (.iload 4, 2) := by decide +kernel
theorem d_Law_law_132 : decode code 132 = .ok (.iconst 3, 1) := by decide +kernel
theorem d_Law_law_133 : decode code 133 = .ok (.iadd, 1) := by decide +kernel
theorem d_Law_law_134 : decode code 134 = .ok (.iaload, 1) := by decide +kernel
theorem d_Law_law_135 : decode code 135 = .ok (.i2l, 1) := by decide +kernel
theorem d_Law_law_136 : decode code 136 = .ok (.bipush 32, 2) := by decide +kernel
theorem d_Law_law_138 : decode code 138 = .ok (.lshl, 1) := by decide +kernel
theorem d_Law_law_139 : decode code 139 = .ok (.aload_n 0, 1) := by decide +kernel
theorem d_Law_law_140 : decode code 140 = .ok (.iload 4, 2) := by decide +kernel
theorem d_Law_law_142 : decode code 142 = .ok (.iconst 4, 1) := by decide +kernel
theorem d_Law_law_143 : decode code 143 = .ok (.iadd, 1) := by decide +kernel
theorem d_Law_law_144 : decode code 144 = .ok (.iaload, 1) := by decide +kernel
theorem d_Law_law_145 : decode code 145 = .ok (.i2l, 1) := by decide +kernel
theorem d_Law_law_146 : decode code 146 = .ok (.ldc2_w 72, 3) := by decide +kernel
theorem d_Law_law_149 : decode code 149 = .ok (.land, 1) := by decide +kernel
theorem d_Law_law_150 : decode code 150 = .ok (.lor, 1) := by decide +kernel
theorem d_Law_law_151 : decode code 151 = .ok (.aload_n 0, 1) := by decide +kernel
theorem d_Law_law_152 : decode code 152 = .ok (.iload 4, 2) := by decide +kernel
theorem d_Law_law_154 : decode code 154 = .ok (.iconst 5, 1) := by decide +kernel
theorem d_Law_law_155 : decode code 155 = .ok (.iadd, 1) := by decide +kernel
theorem d_Law_law_156 : decode code 156 = .ok (.iaload, 1) := by decide +kernel
theorem d_Law_law_157 : decode code 157 = .ok (.i2l, 1) := by decide +kernel
theorem d_Law_law_158 : decode code 158 = .ok (.bipush 32, 2) := by decide +kernel
theorem d_Law_law_160 : decode code 160 = .ok (.lshl, 1) := by decide +kernel
theorem d_Law_law_161 : decode code 161 = .ok (.aload_n 0, 1) := by decide +kernel
theorem d_Law_law_162 : decode code 162 = .ok (.iload 4, 2) := by decide +kernel
theorem d_Law_law_164 : decode code 164 = .ok (.bipush 6, 2) := by decide +kernel
theorem d_Law_law_166 : decode code 166 = .ok (.iadd, 1) := by decide +kernel
theorem d_Law_law_167 : decode code 167 = .ok (.iaload, 1) := by decide +kernel
theorem d_Law_law_168 : decode code 168 = .ok (.i2l, 1) := by decide +kernel
theorem d_Law_law_169 : decode code 169 = .ok (.ldc2_w 72, 3) := by decide +kernel
theorem d_Law_law_172 : decode code 172 = .ok (.land, 1) := by decide +kernel
theorem d_Law_law_173 : decode code 173 = .ok (.lor, 1) := by decide +kernel
theorem d_Law_law_174 : decode code 174 = .ok (.aload_n 3, 1) := by decide +kernel
theorem d_Law_law_175 : decode code 175 = .ok (.invokestatic 74, 3) := by decide +kernel
theorem d_Law_law_178 : decode code 178 = .ok (.istore 5, 2) := by decide +kernel
theorem d_Law_law_180 : decode code 180 = .ok (.aload_n 2, 1) := by decide +kernel
theorem d_Law_law_181 : decode code 181 = .ok (.aload_n 0, 1) := by decide +kernel
theorem d_Law_law_182 : decode code 182 = .ok (.iload 4, 2) := by decide +kernel
theorem d_Law_law_184 : decode code 184 = .ok (.iconst 1, 1) := by decide +kernel
theorem d_Law_law_185 : decode code 185 = .ok (.iadd, 1) := by decide +kernel
theorem d_Law_law_186 : decode code 186 = .ok (.iaload, 1) := by decide +kernel
theorem d_Law_law_187 : decode code 187 = .ok (.aload_n 0, 1) := by decide +kernel
theorem d_Law_law_188 : decode code 188 = .ok (.iload 4, 2) := by decide +kernel
theorem d_Law_law_190 : decode code 190 = .ok (.iconst 2, 1) := by decide +kernel
theorem d_Law_law_191 : decode code 191 = .ok (.iadd, 1) := by decide +kernel
theorem d_Law_law_192 : decode code 192 = .ok (.iaload, 1) := by decide +kernel
theorem d_Law_law_193 : decode code 193 = .ok (.aload_n 0, 1) := by decide +kernel
theorem d_Law_law_194 : decode code 194 = .ok (.iload 4, 2) := by decide +kernel
theorem d_Law_law_196 : decode code 196 = .ok (.iconst 3, 1) := by decide +kernel
theorem d_Law_law_197 : decode code 197 = .ok (.iadd, 1) := by decide +kernel
theorem d_Law_law_198 : decode code 198 = .ok (.iaload, 1) := by decide +kernel
theorem d_Law_law_199 : decode code 199 = .ok (.i2l, 1) := by decide +kernel
theorem d_Law_law_200 : decode code 200 = .ok (.bipush 32, 2) := by decide +kernel
theorem d_Law_law_202 : decode code 202 = .ok (.lshl, 1) := by decide +kernel
theorem d_Law_law_203 : decode code 203 = .ok (.aload_n 0, 1) := by decide +kernel
theorem d_Law_law_204 : decode code 204 = .ok (.iload 4, 2) := by decide +kernel
theorem d_Law_law_206 : decode code 206 = .ok (.iconst 4, 1) := by decide +kernel
theorem d_Law_law_207 : decode code 207 = .ok (.iadd, 1) := by decide +kernel
theorem d_Law_law_208 : decode code 208 = .ok (.iaload, 1) := by decide +kernel
theorem d_Law_law_209 : decode code 209 = .ok (.i2l, 1) := by decide +kernel
theorem d_Law_law_210 : decode code 210 = .ok (.ldc2_w 72, 3) := by decide +kernel
theorem d_Law_law_213 : decode code 213 = .ok (.land, 1) := by decide +kernel
theorem d_Law_law_214 : decode code 214 = .ok (.lor, 1) := by decide +kernel
theorem d_Law_law_215 : decode code 215 = .ok (.aload_n 0, 1) := by decide +kernel
theorem d_Law_law_216 : decode code 216 = .ok (.iload 4, 2) := by decide +kernel
theorem d_Law_law_218 : decode code 218 = .ok (.iconst 5, 1) := by decide +kernel
theorem d_Law_law_219 : decode code 219 = .ok (.iadd, 1) := by decide +kernel
theorem d_Law_law_220 : decode code 220 = .ok (.iaload, 1) := by decide +kernel
theorem d_Law_law_221 : decode code 221 = .ok (.i2l, 1) := by decide +kernel
theorem d_Law_law_222 : decode code 222 = .ok (.bipush 32, 2) := by decide +kernel
theorem d_Law_law_224 : decode code 224 = .ok (.lshl, 1) := by decide +kernel
theorem d_Law_law_225 : decode code 225 = .ok (.aload_n 0, 1) := by decide +kernel
theorem d_Law_law_226 : decode code 226 = .ok (.iload 4, 2) := by decide +kernel
theorem d_Law_law_228 : decode code 228 = .ok (.bipush 6, 2) := by decide +kernel
theorem d_Law_law_230 : decode code 230 = .ok (.iadd, 1) := by decide +kernel
theorem d_Law_law_231 : decode code 231 = .ok (.iaload, 1) := by decide +kernel
theorem d_Law_law_232 : decode code 232 = .ok (.i2l, 1) := by decide +kernel
theorem d_Law_law_233 : decode code 233 = .ok (.ldc2_w 72, 3) := by decide +kernel
theorem d_Law_law_236 : decode code 236 = .ok (.land, 1) := by decide +kernel
theorem d_Law_law_237 : decode code 237 = .ok (.lor, 1) := by decide +kernel
theorem d_Law_law_238 : decode code 238 = .ok (.invokevirtual 79, 3) := by decide +kernel
theorem d_Law_law_241 : decode code 241 = .ok (.istore 6, 2) := by decide +kernel
theorem d_Law_law_243 : decode code 243 = .ok (.aload_n 2, 1) := by decide +kernel
theorem d_Law_law_244 : decode code 244 = .ok (.invokevirtual 80, 3) := by decide +kernel
theorem d_Law_law_247 : decode code 247 = .ok (.iload 5, 2) := by decide +kernel
theorem d_Law_law_249 : decode code 249 = .ok (.if_icmp .eq 5, 3) := by decide +kernel
theorem d_Law_law_252 : decode code 252 = .ok (.iconst 0, 1) := by decide +kernel
theorem d_Law_law_253 : decode code 253 = .ok (.ireturn, 1) := by decide +kernel
theorem d_Law_law_254 : decode code 254 = .ok (.iload 5, 2) := by decide +kernel
theorem d_Law_law_256 : decode code 256 = .ok (.ifCond .ne 22, 3) := by decide +kernel
theorem d_Law_law_259 : decode code 259 = .ok (.aload_n 3, 1) := by decide +kernel
theorem d_Law_law_260 : decode code 260 = .ok (.iconst 0, 1) := by decide +kernel
theorem d_Law_law_261 : decode code 261 = .ok (.laload, 1) := by decide +kernel
theorem d_Law_law_262 : decode code 262 = .ok (.iload 6, 2) := by decide +kernel
theorem d_Law_law_264 : decode code 264 = .ok (.ifCond .eq 7, 3) := by decide +kernel
theorem d_Law_law_267 : decode code 267 = .ok (.lconst 1, 1) := by decide +kernel
theorem d_Law_law_268 : decode code 268 = .ok (.goto 4, 3) := by decide +kernel
theorem d_Law_law_271 : decode code 271 = .ok (.lconst 0, 1) := by decide +kernel
theorem d_Law_law_272 : decode code 272 = .ok (.lcmp, 1) := by decide +kernel
theorem d_Law_law_273 : decode code 273 = .ok (.ifCond .eq 5, 3) := by decide +kernel
theorem d_Law_law_276 : decode code 276 = .ok (.iconst 0, 1) := by decide +kernel
theorem d_Law_law_277 : decode code 277 = .ok (.ireturn, 1) := by decide +kernel
theorem d_Law_law_278 : decode code 278 = .ok (.goto 1208, 3) := by decide +kernel
theorem d_Law_law_281 : decode code 281 = .ok (.aload_n 1, 1) := by decide +kernel
theorem d_Law_law_282 : decode code 282 = .ok (.aload_n 0, 1) := by decide +kernel
theorem d_Law_law_283 : decode code 283 = .ok (.iload 4, 2) := by decide +kernel
theorem d_Law_law_285 : decode code 285 = .ok (.iconst 1, 1) := by decide +kernel
theorem d_Law_law_286 : decode code 286 = .ok (.iadd, 1) := by decide +kernel
theorem d_Law_law_287 : decode code 287 = .ok (.iaload, 1) := by decide +kernel
theorem d_Law_law_288 : decode code 288 = .ok (.aload_n 0, 1) := by decide +kernel
theorem d_Law_law_289 : decode code 289 = .ok (.iload 4, 2) := by decide +kernel
theorem d_Law_law_291 : decode code 291 = .ok (.iconst 2, 1) := by decide +kernel
theorem d_Law_law_292 : decode code 292 = .ok (.iadd, 1) := by decide +kernel
theorem d_Law_law_293 : decode code 293 = .ok (.iaload, 1) := by decide +kernel
theorem d_Law_law_294 : decode code 294 = .ok (.aload_n 0, 1) := by decide +kernel
theorem d_Law_law_295 : decode code 295 = .ok (.iload 4, 2) := by decide +kernel
theorem d_Law_law_297 : decode code 297 = .ok (.iconst 3, 1) := by decide +kernel
theorem d_Law_law_298 : decode code 298 = .ok (.iadd, 1) := by decide +kernel
theorem d_Law_law_299 : decode code 299 = .ok (.iaload, 1) := by decide +kernel
theorem d_Law_law_300 : decode code 300 = .ok (.i2l, 1) := by decide +kernel
theorem d_Law_law_301 : decode code 301 = .ok (.bipush 32, 2) := by decide +kernel
theorem d_Law_law_303 : decode code 303 = .ok (.lshl, 1) := by decide +kernel
theorem d_Law_law_304 : decode code 304 = .ok (.aload_n 0, 1) := by decide +kernel
theorem d_Law_law_305 : decode code 305 = .ok (.iload 4, 2) := by decide +kernel
theorem d_Law_law_307 : decode code 307 = .ok (.iconst 4, 1) := by decide +kernel
theorem d_Law_law_308 : decode code 308 = .ok (.iadd, 1) := by decide +kernel
theorem d_Law_law_309 : decode code 309 = .ok (.iaload, 1) := by decide +kernel
theorem d_Law_law_310 : decode code 310 = .ok (.i2l, 1) := by decide +kernel
theorem d_Law_law_311 : decode code 311 = .ok (.ldc2_w 72, 3) := by decide +kernel
theorem d_Law_law_314 : decode code 314 = .ok (.land, 1) := by decide +kernel
theorem d_Law_law_315 : decode code 315 = .ok (.lor, 1) := by decide +kernel
theorem d_Law_law_316 : decode code 316 = .ok (.aload_n 0, 1) := by decide +kernel
theorem d_Law_law_317 : decode code 317 = .ok (.iload 4, 2) := by decide +kernel
theorem d_Law_law_319 : decode code 319 = .ok (.iconst 5, 1) := by decide +kernel
theorem d_Law_law_320 : decode code 320 = .ok (.iadd, 1) := by decide +kernel
theorem d_Law_law_321 : decode code 321 = .ok (.iaload, 1) := by decide +kernel
theorem d_Law_law_322 : decode code 322 = .ok (.i2l, 1) := by decide +kernel
theorem d_Law_law_323 : decode code 323 = .ok (.bipush 32, 2) := by decide +kernel
theorem d_Law_law_325 : decode code 325 = .ok (.lshl, 1) := by decide +kernel
theorem d_Law_law_326 : decode code 326 = .ok (.aload_n 0, 1) := by decide +kernel
theorem d_Law_law_327 : decode code 327 = .ok (.iload 4, 2) := by decide +kernel
theorem d_Law_law_329 : decode code 329 = .ok (.bipush 6, 2) := by decide +kernel
theorem d_Law_law_331 : decode code 331 = .ok (.iadd, 1) := by decide +kernel
theorem d_Law_law_332 : decode code 332 = .ok (.iaload, 1) := by decide +kernel
theorem d_Law_law_333 : decode code 333 = .ok (.i2l, 1) := by decide +kernel
theorem d_Law_law_334 : decode code 334 = .ok (.ldc2_w 72, 3) := by decide +kernel
theorem d_Law_law_337 : decode code 337 = .ok (.land, 1) := by decide +kernel
theorem d_Law_law_338 : decode code 338 = .ok (.lor, 1) := by decide +kernel
theorem d_Law_law_339 : decode code 339 = .ok (.aload_n 3, 1) := by decide +kernel
theorem d_Law_law_340 : decode code 340 = .ok (.invokestatic 84, 3) := by decide +kernel
theorem d_Law_law_343 : decode code 343 = .ok (.istore 5, 2) := by decide +kernel
theorem d_Law_law_345 : decode code 345 = .ok (.aload_n 2, 1) := by decide +kernel
theorem d_Law_law_346 : decode code 346 = .ok (.aload_n 0, 1) := by decide +kernel
theorem d_Law_law_347 : decode code 347 = .ok (.iload 4, 2) := by decide +kernel
theorem d_Law_law_349 : decode code 349 = .ok (.iconst 1, 1) := by decide +kernel
theorem d_Law_law_350 : decode code 350 = .ok (.iadd, 1) := by decide +kernel
theorem d_Law_law_351 : decode code 351 = .ok (.iaload, 1) := by decide +kernel
theorem d_Law_law_352 : decode code 352 = .ok (.aload_n 0, 1) := by decide +kernel
theorem d_Law_law_353 : decode code 353 = .ok (.iload 4, 2) := by decide +kernel
theorem d_Law_law_355 : decode code 355 = .ok (.iconst 2, 1) := by decide +kernel
theorem d_Law_law_356 : decode code 356 = .ok (.iadd, 1) := by decide +kernel
theorem d_Law_law_357 : decode code 357 = .ok (.iaload, 1) := by decide +kernel
theorem d_Law_law_358 : decode code 358 = .ok (.aload_n 0, 1) := by decide +kernel
theorem d_Law_law_359 : decode code 359 = .ok (.iload 4, 2) := by decide +kernel
theorem d_Law_law_361 : decode code 361 = .ok (.iconst 3, 1) := by decide +kernel
theorem d_Law_law_362 : decode code 362 = .ok (.iadd, 1) := by decide +kernel
theorem d_Law_law_363 : decode code 363 = .ok (.iaload, 1) := by decide +kernel
theorem d_Law_law_364 : decode code 364 = .ok (.i2l, 1) := by decide +kernel
theorem d_Law_law_365 : decode code 365 = .ok (.bipush 32, 2) := by decide +kernel
theorem d_Law_law_367 : decode code 367 = .ok (.lshl, 1) := by decide +kernel
theorem d_Law_law_368 : decode code 368 = .ok (.aload_n 0, 1) := by decide +kernel
theorem d_Law_law_369 : decode code 369 = .ok (.iload 4, 2) := by decide +kernel
theorem d_Law_law_371 : decode code 371 = .ok (.iconst 4, 1) := by decide +kernel
theorem d_Law_law_372 : decode code 372 = .ok (.iadd, 1) := by decide +kernel
theorem d_Law_law_373 : decode code 373 = .ok (.iaload, 1) := by decide +kernel
theorem d_Law_law_374 : decode code 374 = .ok (.i2l, 1) := by decide +kernel
theorem d_Law_law_375 : decode code 375 = .ok (.ldc2_w 72, 3) := by decide +kernel
theorem d_Law_law_378 : decode code 378 = .ok (.land, 1) := by decide +kernel
theorem d_Law_law_379 : decode code 379 = .ok (.lor, 1) := by decide +kernel
theorem d_Law_law_380 : decode code 380 = .ok (.aload_n 0, 1) := by decide +kernel
theorem d_Law_law_381 : decode code 381 = .ok (.iload 4, 2) := by decide +kernel
theorem d_Law_law_383 : decode code 383 = .ok (.iconst 5, 1) := by decide +kernel
theorem d_Law_law_384 : decode code 384 = .ok (.iadd, 1) := by decide +kernel
theorem d_Law_law_385 : decode code 385 = .ok (.iaload, 1) := by decide +kernel
theorem d_Law_law_386 : decode code 386 = .ok (.i2l, 1) := by decide +kernel
theorem d_Law_law_387 : decode code 387 = .ok (.bipush 32, 2) := by decide +kernel
theorem d_Law_law_389 : decode code 389 = .ok (.lshl, 1) := by decide +kernel
theorem d_Law_law_390 : decode code 390 = .ok (.aload_n 0, 1) := by decide +kernel
theorem d_Law_law_391 : decode code 391 = .ok (.iload 4, 2) := by decide +kernel
theorem d_Law_law_393 : decode code 393 = .ok (.bipush 6, 2) := by decide +kernel
theorem d_Law_law_395 : decode code 395 = .ok (.iadd, 1) := by decide +kernel
theorem d_Law_law_396 : decode code 396 = .ok (.iaload, 1) := by decide +kernel
theorem d_Law_law_397 : decode code 397 = .ok (.i2l, 1) := by decide +kernel
theorem d_Law_law_398 : decode code 398 = .ok (.ldc2_w 72, 3) := by decide +kernel
theorem d_Law_law_401 : decode code 401 = .ok (.land, 1) := by decide +kernel
theorem d_Law_law_402 : decode code 402 = .ok (.lor, 1) := by decide +kernel
theorem d_Law_law_403 : decode code 403 = .ok (.invokevirtual 86, 3) := by decide +kernel
theorem d_Law_law_406 : decode code 406 = .ok (.istore 6, 2) := by decide +kernel
theorem d_Law_law_408 : decode code 408 = .ok (.aload_n 2, 1) := by decide +kernel
theorem d_Law_law_409 : decode code 409 = .ok (.invokevirtual 80, 3) := by decide +kernel
theorem d_Law_law_412 : decode code 412 = .ok (.iload 5, 2) := by decide +kernel
theorem d_Law_law_414 : decode code 414 = .ok (.if_icmp .eq 5, 3) := by decide +kernel
theorem d_Law_law_417 : decode code 417 = .ok (.iconst 0, 1) := by decide +kernel
theorem d_Law_law_418 : decode code 418 = .ok (.ireturn, 1) := by decide +kernel
theorem d_Law_law_419 : decode code 419 = .ok (.iload 5, 2) := by decide +kernel
theorem d_Law_law_421 : decode code 421 = .ok (.ifCond .ne 22, 3) := by decide +kernel
theorem d_Law_law_424 : decode code 424 = .ok (.aload_n 3, 1) := by decide +kernel
theorem d_Law_law_425 : decode code 425 = .ok (.iconst 0, 1) := by decide +kernel
theorem d_Law_law_426 : decode code 426 = .ok (.laload, 1) := by decide +kernel
theorem d_Law_law_427 : decode code 427 = .ok (.iload 6, 2) := by decide +kernel
theorem d_Law_law_429 : decode code 429 = .ok (.ifCond .eq 7, 3) := by decide +kernel
theorem d_Law_law_432 : decode code 432 = .ok (.lconst 1, 1) := by decide +kernel
theorem d_Law_law_433 : decode code 433 = .ok (.goto 4, 3) := by decide +kernel
theorem d_Law_law_436 : decode code 436 = .ok (.lconst 0, 1) := by decide +kernel
theorem d_Law_law_437 : decode code 437 = .ok (.lcmp, 1) := by decide +kernel
theorem d_Law_law_438 : decode code 438 = .ok (.ifCond .eq 5, 3) := by decide +kernel
theorem d_Law_law_441 : decode code 441 = .ok (.iconst 0, 1) := by decide +kernel
theorem d_Law_law_442 : decode code 442 = .ok (.ireturn, 1) := by decide +kernel
theorem d_Law_law_443 : decode code 443 = .ok (.goto 1043, 3) := by decide +kernel
theorem d_Law_law_446 : decode code 446 = .ok (.aload_n 1, 1) := by decide +kernel
theorem d_Law_law_447 : decode code 447 = .ok (.aload_n 0, 1) := by decide +kernel
theorem d_Law_law_448 : decode code 448 = .ok (.iload 4, 2) := by decide +kernel
theorem d_Law_law_450 : decode code 450 = .ok (.iconst 1, 1) := by decide +kernel
theorem d_Law_law_451 : decode code 451 = .ok (.iadd, 1) := by decide +kernel
theorem d_Law_law_452 : decode code 452 = .ok (.iaload, 1) := by decide +kernel
theorem d_Law_law_453 : decode code 453 = .ok (.aload_n 0, 1) := by decide +kernel
theorem d_Law_law_454 : decode code 454 = .ok (.iload 4, 2) := by decide +kernel
theorem d_Law_law_456 : decode code 456 = .ok (.iconst 2, 1) := by decide +kernel
theorem d_Law_law_457 : decode code 457 = .ok (.iadd, 1) := by decide +kernel
theorem d_Law_law_458 : decode code 458 = .ok (.iaload, 1) := by decide +kernel
theorem d_Law_law_459 : decode code 459 = .ok (.aload_n 0, 1) := by decide +kernel
theorem d_Law_law_460 : decode code 460 = .ok (.iload 4, 2) := by decide +kernel
theorem d_Law_law_462 : decode code 462 = .ok (.iconst 3, 1) := by decide +kernel
theorem d_Law_law_463 : decode code 463 = .ok (.iadd, 1) := by decide +kernel
theorem d_Law_law_464 : decode code 464 = .ok (.iaload, 1) := by decide +kernel
theorem d_Law_law_465 : decode code 465 = .ok (.aload_n 3, 1) := by decide +kernel
theorem d_Law_law_466 : decode code 466 = .ok (.invokestatic 87, 3) := by decide +kernel
theorem d_Law_law_469 : decode code 469 = .ok (.istore 5, 2) := by decide +kernel
theorem d_Law_law_471 : decode code 471 = .ok (.aload_n 2, 1) := by decide +kernel
theorem d_Law_law_472 : decode code 472 = .ok (.aload_n 0, 1) := by decide +kernel
theorem d_Law_law_473 : decode code 473 = .ok (.iload 4, 2) := by decide +kernel
theorem d_Law_law_475 : decode code 475 = .ok (.iconst 1, 1) := by decide +kernel
theorem d_Law_law_476 : decode code 476 = .ok (.iadd, 1) := by decide +kernel
theorem d_Law_law_477 : decode code 477 = .ok (.iaload, 1) := by decide +kernel
theorem d_Law_law_478 : decode code 478 = .ok (.aload_n 0, 1) := by decide +kernel
theorem d_Law_law_479 : decode code 479 = .ok (.iload 4, 2) := by decide +kernel
theorem d_Law_law_481 : decode code 481 = .ok (.iconst 2, 1) := by decide +kernel
theorem d_Law_law_482 : decode code 482 = .ok (.iadd, 1) := by decide +kernel
theorem d_Law_law_483 : decode code 483 = .ok (.iaload, 1) := by decide +kernel
theorem d_Law_law_484 : decode code 484 = .ok (.aload_n 0, 1) := by decide +kernel
theorem d_Law_law_485 : decode code 485 = .ok (.iload 4, 2) := by decide +kernel
theorem d_Law_law_487 : decode code 487 = .ok (.iconst 3, 1) := by decide +kernel
theorem d_Law_law_488 : decode code 488 = .ok (.iadd, 1) := by decide +kernel
theorem d_Law_law_489 : decode code 489 = .ok (.iaload, 1) := by decide +kernel
theorem d_Law_law_490 : decode code 490 = .ok (.invokevirtual 90, 3) := by decide +kernel
theorem d_Law_law_493 : decode code 493 = .ok (.istore 6, 2) := by decide +kernel
theorem d_Law_law_495 : decode code 495 = .ok (.aload_n 2, 1) := by decide +kernel
theorem d_Law_law_496 : decode code 496 = .ok (.invokevirtual 80, 3) := by decide +kernel
theorem d_Law_law_499 : decode code 499 = .ok (.iload 5, 2) := by decide +kernel
theorem d_Law_law_501 : decode code 501 = .ok (.if_icmp .eq 5, 3) := by decide +kernel
theorem d_Law_law_504 : decode code 504 = .ok (.iconst 0, 1) := by decide +kernel
theorem d_Law_law_505 : decode code 505 = .ok (.ireturn, 1) := by decide +kernel
theorem d_Law_law_506 : decode code 506 = .ok (.iload 5, 2) := by decide +kernel
theorem d_Law_law_508 : decode code 508 = .ok (.ifCond .ne 22, 3) := by decide +kernel
theorem d_Law_law_511 : decode code 511 = .ok (.aload_n 3, 1) := by decide +kernel
theorem d_Law_law_512 : decode code 512 = .ok (.iconst 0, 1) := by decide +kernel
theorem d_Law_law_513 : decode code 513 = .ok (.laload, 1) := by decide +kernel
theorem d_Law_law_514 : decode code 514 = .ok (.iload 6, 2) := by decide +kernel
theorem d_Law_law_516 : decode code 516 = .ok (.ifCond .eq 7, 3) := by decide +kernel
theorem d_Law_law_519 : decode code 519 = .ok (.lconst 1, 1) := by decide +kernel
theorem d_Law_law_520 : decode code 520 = .ok (.goto 4, 3) := by decide +kernel
theorem d_Law_law_523 : decode code 523 = .ok (.lconst 0, 1) := by decide +kernel
theorem d_Law_law_524 : decode code 524 = .ok (.lcmp, 1) := by decide +kernel
theorem d_Law_law_525 : decode code 525 = .ok (.ifCond .eq 5, 3) := by decide +kernel
theorem d_Law_law_528 : decode code 528 = .ok (.iconst 0, 1) := by decide +kernel
theorem d_Law_law_529 : decode code 529 = .ok (.ireturn, 1) := by decide +kernel
theorem d_Law_law_530 : decode code 530 = .ok (.goto 956, 3) := by decide +kernel
theorem d_Law_law_533 : decode code 533 = .ok (.aload_n 1, 1) := by decide +kernel
theorem d_Law_law_534 : decode code 534 = .ok (.aload_n 0, 1) := by decide +kernel
theorem d_Law_law_535 : decode code 535 = .ok (.iload 4, 2) := by decide +kernel
theorem d_Law_law_537 : decode code 537 = .ok (.iconst 1, 1) := by decide +kernel
theorem d_Law_law_538 : decode code 538 = .ok (.iadd, 1) := by decide +kernel
theorem d_Law_law_539 : decode code 539 = .ok (.iaload, 1) := by decide +kernel
theorem d_Law_law_540 : decode code 540 = .ok (.aload_n 0, 1) := by decide +kernel
theorem d_Law_law_541 : decode code 541 = .ok (.iload 4, 2) := by decide +kernel
theorem d_Law_law_543 : decode code 543 = .ok (.iconst 2, 1) := by decide +kernel
theorem d_Law_law_544 : decode code 544 = .ok (.iadd, 1) := by decide +kernel
theorem d_Law_law_545 : decode code 545 = .ok (.iaload, 1) := by decide +kernel
theorem d_Law_law_546 : decode code 546 = .ok (.aload_n 0, 1) := by decide +kernel
theorem d_Law_law_547 : decode code 547 = .ok (.iload 4, 2) := by decide +kernel
theorem d_Law_law_549 : decode code 549 = .ok (.iconst 3, 1) := by decide +kernel
theorem d_Law_law_550 : decode code 550 = .ok (.iadd, 1) := by decide +kernel
theorem d_Law_law_551 : decode code 551 = .ok (.iaload, 1) := by decide +kernel
theorem d_Law_law_552 : decode code 552 = .ok (.aload_n 3, 1) := by decide +kernel
theorem d_Law_law_553 : decode code 553 = .ok (.invokestatic 91, 3) := by decide +kernel
theorem d_Law_law_556 : decode code 556 = .ok (.istore 5, 2) := by decide +kernel
theorem d_Law_law_558 : decode code 558 = .ok (.aload_n 2, 1) := by decide +kernel
theorem d_Law_law_559 : decode code 559 = .ok (.aload_n 0, 1) := by decide +kernel
theorem d_Law_law_560 : decode code 560 = .ok (.iload 4, 2) := by decide +kernel
theorem d_Law_law_562 : decode code 562 = .ok (.iconst 1, 1) := by decide +kernel
theorem d_Law_law_563 : decode code 563 = .ok (.iadd, 1) := by decide +kernel
theorem d_Law_law_564 : decode code 564 = .ok (.iaload, 1) := by decide +kernel
theorem d_Law_law_565 : decode code 565 = .ok (.aload_n 0, 1) := by decide +kernel
theorem d_Law_law_566 : decode code 566 = .ok (.iload 4, 2) := by decide +kernel
theorem d_Law_law_568 : decode code 568 = .ok (.iconst 2, 1) := by decide +kernel
theorem d_Law_law_569 : decode code 569 = .ok (.iadd, 1) := by decide +kernel
theorem d_Law_law_570 : decode code 570 = .ok (.iaload, 1) := by decide +kernel
theorem d_Law_law_571 : decode code 571 = .ok (.aload_n 0, 1) := by decide +kernel
theorem d_Law_law_572 : decode code 572 = .ok (.iload 4, 2) := by decide +kernel
theorem d_Law_law_574 : decode code 574 = .ok (.iconst 3, 1) := by decide +kernel
theorem d_Law_law_575 : decode code 575 = .ok (.iadd, 1) := by decide +kernel
theorem d_Law_law_576 : decode code 576 = .ok (.iaload, 1) := by decide +kernel
theorem d_Law_law_577 : decode code 577 = .ok (.invokevirtual 93, 3) := by decide +kernel
theorem d_Law_law_580 : decode code 580 = .ok (.istore 6, 2) := by decide +kernel
theorem d_Law_law_582 : decode code 582 = .ok (.aload_n 2, 1) := by decide +kernel
theorem d_Law_law_583 : decode code 583 = .ok (.invokevirtual 80, 3) := by decide +kernel
theorem d_Law_law_586 : decode code 586 = .ok (.iload 5, 2) := by decide +kernel
theorem d_Law_law_588 : decode code 588 = .ok (.if_icmp .eq 5, 3) := by decide +kernel
theorem d_Law_law_591 : decode code 591 = .ok (.iconst 0, 1) := by decide +kernel
theorem d_Law_law_592 : decode code 592 = .ok (.ireturn, 1) := by decide +kernel
theorem d_Law_law_593 : decode code 593 = .ok (.iload 5, 2) := by decide +kernel
theorem d_Law_law_595 : decode code 595 = .ok (.ifCond .ne 22, 3) := by decide +kernel
theorem d_Law_law_598 : decode code 598 = .ok (.aload_n 3, 1) := by decide +kernel
theorem d_Law_law_599 : decode code 599 = .ok (.iconst 0, 1) := by decide +kernel
theorem d_Law_law_600 : decode code 600 = .ok (.laload, 1) := by decide +kernel
theorem d_Law_law_601 : decode code 601 = .ok (.iload 6, 2) := by decide +kernel
theorem d_Law_law_603 : decode code 603 = .ok (.ifCond .eq 7, 3) := by decide +kernel
theorem d_Law_law_606 : decode code 606 = .ok (.lconst 1, 1) := by decide +kernel
theorem d_Law_law_607 : decode code 607 = .ok (.goto 4, 3) := by decide +kernel
theorem d_Law_law_610 : decode code 610 = .ok (.lconst 0, 1) := by decide +kernel
theorem d_Law_law_611 : decode code 611 = .ok (.lcmp, 1) := by decide +kernel
theorem d_Law_law_612 : decode code 612 = .ok (.ifCond .eq 5, 3) := by decide +kernel
theorem d_Law_law_615 : decode code 615 = .ok (.iconst 0, 1) := by decide +kernel
theorem d_Law_law_616 : decode code 616 = .ok (.ireturn, 1) := by decide +kernel
theorem d_Law_law_617 : decode code 617 = .ok (.goto 869, 3) := by decide +kernel
theorem d_Law_law_620 : decode code 620 = .ok (.aload_n 1, 1) := by decide +kernel
theorem d_Law_law_621 : decode code 621 = .ok (.aload_n 0, 1) := by decide +kernel
theorem d_Law_law_622 : decode code 622 = .ok (.iload 4, 2) := by decide +kernel
theorem d_Law_law_624 : decode code 624 = .ok (.iconst 1, 1) := by decide +kernel
theorem d_Law_law_625 : decode code 625 = .ok (.iadd, 1) := by decide +kernel
theorem d_Law_law_626 : decode code 626 = .ok (.iaload, 1) := by decide +kernel
theorem d_Law_law_627 : decode code 627 = .ok (.aload_n 0, 1) := by decide +kernel
theorem d_Law_law_628 : decode code 628 = .ok (.iload 4, 2) := by decide +kernel
theorem d_Law_law_630 : decode code 630 = .ok (.iconst 2, 1) := by decide +kernel
theorem d_Law_law_631 : decode code 631 = .ok (.iadd, 1) := by decide +kernel
theorem d_Law_law_632 : decode code 632 = .ok (.iaload, 1) := by decide +kernel
theorem d_Law_law_633 : decode code 633 = .ok (.i2l, 1) := by decide +kernel
theorem d_Law_law_634 : decode code 634 = .ok (.bipush 32, 2) := by decide +kernel
theorem d_Law_law_636 : decode code 636 = .ok (.lshl, 1) := by decide +kernel
theorem d_Law_law_637 : decode code 637 = .ok (.aload_n 0, 1) := by decide +kernel
theorem d_Law_law_638 : decode code 638 = .ok (.iload 4, 2) := by decide +kernel
theorem d_Law_law_640 : decode code 640 = .ok (.iconst 3, 1) := by decide +kernel
theorem d_Law_law_641 : decode code 641 = .ok (.iadd, 1) := by decide +kernel
theorem d_Law_law_642 : decode code 642 = .ok (.iaload, 1) := by decide +kernel
theorem d_Law_law_643 : decode code 643 = .ok (.i2l, 1) := by decide +kernel
theorem d_Law_law_644 : decode code 644 = .ok (.ldc2_w 72, 3) := by decide +kernel
theorem d_Law_law_647 : decode code 647 = .ok (.land, 1) := by decide +kernel
theorem d_Law_law_648 : decode code 648 = .ok (.lor, 1) := by decide +kernel
theorem d_Law_law_649 : decode code 649 = .ok (.aload_n 0, 1) := by decide +kernel
theorem d_Law_law_650 : decode code 650 = .ok (.iload 4, 2) := by decide +kernel
theorem d_Law_law_652 : decode code 652 = .ok (.iconst 4, 1) := by decide +kernel
theorem d_Law_law_653 : decode code 653 = .ok (.iadd, 1) := by decide +kernel
theorem d_Law_law_654 : decode code 654 = .ok (.iaload, 1) := by decide +kernel
theorem d_Law_law_655 : decode code 655 = .ok (.aload_n 3, 1) := by decide +kernel
theorem d_Law_law_656 : decode code 656 = .ok (.invokestatic 94, 3) := by decide +kernel
theorem d_Law_law_659 : decode code 659 = .ok (.istore 5, 2) := by decide +kernel
theorem d_Law_law_661 : decode code 661 = .ok (.aload_n 2, 1) := by decide +kernel
theorem d_Law_law_662 : decode code 662 = .ok (.aload_n 0, 1) := by decide +kernel
theorem d_Law_law_663 : decode code 663 = .ok (.iload 4, 2) := by decide +kernel
theorem d_Law_law_665 : decode code 665 = .ok (.iconst 1, 1) := by decide +kernel
theorem d_Law_law_666 : decode code 666 = .ok (.iadd, 1) := by decide +kernel
theorem d_Law_law_667 : decode code 667 = .ok (.iaload, 1) := by decide +kernel
theorem d_Law_law_668 : decode code 668 = .ok (.aload_n 0, 1) := by decide +kernel
theorem d_Law_law_669 : decode code 669 = .ok (.iload 4, 2) := by decide +kernel
theorem d_Law_law_671 : decode code 671 = .ok (.iconst 2, 1) := by decide +kernel
theorem d_Law_law_672 : decode code 672 = .ok (.iadd, 1) := by decide +kernel
theorem d_Law_law_673 : decode code 673 = .ok (.iaload, 1) := by decide +kernel
theorem d_Law_law_674 : decode code 674 = .ok (.i2l, 1) := by decide +kernel
theorem d_Law_law_675 : decode code 675 = .ok (.bipush 32, 2) := by decide +kernel
theorem d_Law_law_677 : decode code 677 = .ok (.lshl, 1) := by decide +kernel
theorem d_Law_law_678 : decode code 678 = .ok (.aload_n 0, 1) := by decide +kernel
theorem d_Law_law_679 : decode code 679 = .ok (.iload 4, 2) := by decide +kernel
theorem d_Law_law_681 : decode code 681 = .ok (.iconst 3, 1) := by decide +kernel
theorem d_Law_law_682 : decode code 682 = .ok (.iadd, 1) := by decide +kernel
theorem d_Law_law_683 : decode code 683 = .ok (.iaload, 1) := by decide +kernel
theorem d_Law_law_684 : decode code 684 = .ok (.i2l, 1) := by decide +kernel
theorem d_Law_law_685 : decode code 685 = .ok (.ldc2_w 72, 3) := by decide +kernel
theorem d_Law_law_688 : decode code 688 = .ok (.land, 1) := by decide +kernel
theorem d_Law_law_689 : decode code 689 = .ok (.lor, 1) := by decide +kernel
theorem d_Law_law_690 : decode code 690 = .ok (.aload_n 0, 1) := by decide +kernel
theorem d_Law_law_691 : decode code 691 = .ok (.iload 4, 2) := by decide +kernel
theorem d_Law_law_693 : decode code 693 = .ok (.iconst 4, 1) := by decide +kernel
theorem d_Law_law_694 : decode code 694 = .ok (.iadd, 1) := by decide +kernel
theorem d_Law_law_695 : decode code 695 = .ok (.iaload, 1) := by decide +kernel
theorem d_Law_law_696 : decode code 696 = .ok (.invokevirtual 97, 3) := by decide +kernel
theorem d_Law_law_699 : decode code 699 = .ok (.istore 6, 2) := by decide +kernel
theorem d_Law_law_701 : decode code 701 = .ok (.aload_n 2, 1) := by decide +kernel
theorem d_Law_law_702 : decode code 702 = .ok (.invokevirtual 80, 3) := by decide +kernel
theorem d_Law_law_705 : decode code 705 = .ok (.iload 5, 2) := by decide +kernel
theorem d_Law_law_707 : decode code 707 = .ok (.if_icmp .eq 5, 3) := by decide +kernel
theorem d_Law_law_710 : decode code 710 = .ok (.iconst 0, 1) := by decide +kernel
theorem d_Law_law_711 : decode code 711 = .ok (.ireturn, 1) := by decide +kernel
theorem d_Law_law_712 : decode code 712 = .ok (.iload 5, 2) := by decide +kernel
theorem d_Law_law_714 : decode code 714 = .ok (.ifCond .ne 22, 3) := by decide +kernel
theorem d_Law_law_717 : decode code 717 = .ok (.aload_n 3, 1) := by decide +kernel
theorem d_Law_law_718 : decode code 718 = .ok (.iconst 0, 1) := by decide +kernel
theorem d_Law_law_719 : decode code 719 = .ok (.laload, 1) := by decide +kernel
theorem d_Law_law_720 : decode code 720 = .ok (.iload 6, 2) := by decide +kernel
theorem d_Law_law_722 : decode code 722 = .ok (.ifCond .eq 7, 3) := by decide +kernel
theorem d_Law_law_725 : decode code 725 = .ok (.lconst 1, 1) := by decide +kernel
theorem d_Law_law_726 : decode code 726 = .ok (.goto 4, 3) := by decide +kernel
theorem d_Law_law_729 : decode code 729 = .ok (.lconst 0, 1) := by decide +kernel
theorem d_Law_law_730 : decode code 730 = .ok (.lcmp, 1) := by decide +kernel
theorem d_Law_law_731 : decode code 731 = .ok (.ifCond .eq 5, 3) := by decide +kernel
theorem d_Law_law_734 : decode code 734 = .ok (.iconst 0, 1) := by decide +kernel
theorem d_Law_law_735 : decode code 735 = .ok (.ireturn, 1) := by decide +kernel
theorem d_Law_law_736 : decode code 736 = .ok (.goto 750, 3) := by decide +kernel
theorem d_Law_law_739 : decode code 739 = .ok (.aload_n 1, 1) := by decide +kernel
theorem d_Law_law_740 : decode code 740 = .ok (.aload_n 0, 1) := by decide +kernel
theorem d_Law_law_741 : decode code 741 = .ok (.iload 4, 2) := by decide +kernel
theorem d_Law_law_743 : decode code 743 = .ok (.iconst 1, 1) := by decide +kernel
theorem d_Law_law_744 : decode code 744 = .ok (.iadd, 1) := by decide +kernel
theorem d_Law_law_745 : decode code 745 = .ok (.iaload, 1) := by decide +kernel
theorem d_Law_law_746 : decode code 746 = .ok (.aload_n 0, 1) := by decide +kernel
theorem d_Law_law_747 : decode code 747 = .ok (.iload 4, 2) := by decide +kernel
theorem d_Law_law_749 : decode code 749 = .ok (.iconst 2, 1) := by decide +kernel
theorem d_Law_law_750 : decode code 750 = .ok (.iadd, 1) := by decide +kernel
theorem d_Law_law_751 : decode code 751 = .ok (.iaload, 1) := by decide +kernel
theorem d_Law_law_752 : decode code 752 = .ok (.aload_n 0, 1) := by decide +kernel
theorem d_Law_law_753 : decode code 753 = .ok (.iload 4, 2) := by decide +kernel
theorem d_Law_law_755 : decode code 755 = .ok (.iconst 3, 1) := by decide +kernel
theorem d_Law_law_756 : decode code 756 = .ok (.iadd, 1) := by decide +kernel
theorem d_Law_law_757 : decode code 757 = .ok (.iaload, 1) := by decide +kernel
theorem d_Law_law_758 : decode code 758 = .ok (.ifCond .eq 7, 3) := by decide +kernel
theorem d_Law_law_761 : decode code 761 = .ok (.iconst 1, 1) := by decide +kernel
theorem d_Law_law_762 : decode code 762 = .ok (.goto 4, 3) := by decide +kernel
theorem d_Law_law_765 : decode code 765 = .ok (.iconst 0, 1) := by decide +kernel
theorem d_Law_law_766 : decode code 766 = .ok (.aload_n 0, 1) := by decide +kernel
theorem d_Law_law_767 : decode code 767 = .ok (.iload 4, 2) := by decide +kernel
theorem d_Law_law_769 : decode code 769 = .ok (.iconst 4, 1) := by decide +kernel
theorem d_Law_law_770 : decode code 770 = .ok (.iadd, 1) := by decide +kernel
theorem d_Law_law_771 : decode code 771 = .ok (.iaload, 1) := by decide +kernel
theorem d_Law_law_772 : decode code 772 = .ok (.invokestatic 98, 3) := by decide +kernel
theorem d_Law_law_775 : decode code 775 = .ok (.istore 5, 2) := by decide +kernel
theorem d_Law_law_777 : decode code 777 = .ok (.aload_n 2, 1) := by decide +kernel
theorem d_Law_law_778 : decode code 778 = .ok (.aload_n 0, 1) := by decide +kernel
theorem d_Law_law_779 : decode code 779 = .ok (.iload 4, 2) := by decide +kernel
theorem d_Law_law_781 : decode code 781 = .ok (.iconst 1, 1) := by decide +kernel
theorem d_Law_law_782 : decode code 782 = .ok (.iadd, 1) := by decide +kernel
theorem d_Law_law_783 : decode code 783 = .ok (.iaload, 1) := by decide +kernel
theorem d_Law_law_784 : decode code 784 = .ok (.aload_n 0, 1) := by decide +kernel
theorem d_Law_law_785 : decode code 785 = .ok (.iload 4, 2) := by decide +kernel
theorem d_Law_law_787 : decode code 787 = .ok (.iconst 2, 1) := by decide +kernel
theorem d_Law_law_788 : decode code 788 = .ok (.iadd, 1) := by decide +kernel
theorem d_Law_law_789 : decode code 789 = .ok (.iaload, 1) := by decide +kernel
theorem d_Law_law_790 : decode code 790 = .ok (.aload_n 0, 1) := by decide +kernel
theorem d_Law_law_791 : decode code 791 = .ok (.iload 4, 2) := by decide +kernel
theorem d_Law_law_793 : decode code 793 = .ok (.iconst 3, 1) := by decide +kernel
theorem d_Law_law_794 : decode code 794 = .ok (.iadd, 1) := by decide +kernel
theorem d_Law_law_795 : decode code 795 = .ok (.iaload, 1) := by decide +kernel
theorem d_Law_law_796 : decode code 796 = .ok (.ifCond .eq 7, 3) := by decide +kernel
theorem d_Law_law_799 : decode code 799 = .ok (.iconst 1, 1) := by decide +kernel
theorem d_Law_law_800 : decode code 800 = .ok (.goto 4, 3) := by decide +kernel
theorem d_Law_law_803 : decode code 803 = .ok (.iconst 0, 1) := by decide +kernel
theorem d_Law_law_804 : decode code 804 = .ok (.aload_n 0, 1) := by decide +kernel
theorem d_Law_law_805 : decode code 805 = .ok (.iload 4, 2) := by decide +kernel
theorem d_Law_law_807 : decode code 807 = .ok (.iconst 4, 1) := by decide +kernel
theorem d_Law_law_808 : decode code 808 = .ok (.iadd, 1) := by decide +kernel
theorem d_Law_law_809 : decode code 809 = .ok (.iaload, 1) := by decide +kernel
theorem d_Law_law_810 : decode code 810 = .ok (.invokevirtual 101, 3) := by decide +kernel
theorem d_Law_law_813 : decode code 813 = .ok (.aload_n 2, 1) := by decide +kernel
theorem d_Law_law_814 : decode code 814 = .ok (.invokevirtual 80, 3) := by decide +kernel
theorem d_Law_law_817 : decode code 817 = .ok (.iload 5, 2) := by decide +kernel
theorem d_Law_law_819 : decode code 819 = .ok (.if_icmp .eq 5, 3) := by decide +kernel
theorem d_Law_law_822 : decode code 822 = .ok (.iconst 0, 1) := by decide +kernel
theorem d_Law_law_823 : decode code 823 = .ok (.ireturn, 1) := by decide +kernel
theorem d_Law_law_824 : decode code 824 = .ok (.goto 662, 3) := by decide +kernel
theorem d_Law_law_827 : decode code 827 = .ok (.aload_n 1, 1) := by decide +kernel
theorem d_Law_law_828 : decode code 828 = .ok (.aload_n 0, 1) := by decide +kernel
theorem d_Law_law_829 : decode code 829 = .ok (.iload 4, 2) := by decide +kernel
theorem d_Law_law_831 : decode code 831 = .ok (.iconst 1, 1) := by decide +kernel
theorem d_Law_law_832 : decode code 832 = .ok (.iadd, 1) := by decide +kernel
theorem d_Law_law_833 : decode code 833 = .ok (.iaload, 1) := by decide +kernel
theorem d_Law_law_834 : decode code 834 = .ok (.aload_n 0, 1) := by decide +kernel
theorem d_Law_law_835 : decode code 835 = .ok (.iload 4, 2) := by decide +kernel
theorem d_Law_law_837 : decode code 837 = .ok (.iconst 2, 1) := by decide +kernel
theorem d_Law_law_838 : decode code 838 = .ok (.iadd, 1) := by decide +kernel
theorem d_Law_law_839 : decode code 839 = .ok (.iaload, 1) := by decide +kernel
theorem d_Law_law_840 : decode code 840 = .ok (.aload_n 0, 1) := by decide +kernel
theorem d_Law_law_841 : decode code 841 = .ok (.iload 4, 2) := by decide +kernel
theorem d_Law_law_843 : decode code 843 = .ok (.iconst 3, 1) := by decide +kernel
theorem d_Law_law_844 : decode code 844 = .ok (.iadd, 1) := by decide +kernel
theorem d_Law_law_845 : decode code 845 = .ok (.iaload, 1) := by decide +kernel
theorem d_Law_law_846 : decode code 846 = .ok (.aload_n 3, 1) := by decide +kernel
theorem d_Law_law_847 : decode code 847 = .ok (.invokestatic 102, 3) := by decide +kernel
theorem d_Law_law_850 : decode code 850 = .ok (.istore 5, 2) := by decide +kernel
theorem d_Law_law_852 : decode code 852 = .ok (.aload_n 2, 1) := by decide +kernel
theorem d_Law_law_853 : decode code 853 = .ok (.aload_n 0, 1) := by decide +kernel
theorem d_Law_law_854 : decode code 854 = .ok (.iload 4, 2) := by decide +kernel
theorem d_Law_law_856 : decode code 856 = .ok (.iconst 1, 1) := by decide +kernel
theorem d_Law_law_857 : decode code 857 = .ok (.iadd, 1) := by decide +kernel
theorem d_Law_law_858 : decode code 858 = .ok (.iaload, 1) := by decide +kernel
theorem d_Law_law_859 : decode code 859 = .ok (.aload_n 0, 1) := by decide +kernel
theorem d_Law_law_860 : decode code 860 = .ok (.iload 4, 2) := by decide +kernel
theorem d_Law_law_862 : decode code 862 = .ok (.iconst 2, 1) := by decide +kernel
theorem d_Law_law_863 : decode code 863 = .ok (.iadd, 1) := by decide +kernel
theorem d_Law_law_864 : decode code 864 = .ok (.iaload, 1) := by decide +kernel
theorem d_Law_law_865 : decode code 865 = .ok (.aload_n 0, 1) := by decide +kernel
theorem d_Law_law_866 : decode code 866 = .ok (.iload 4, 2) := by decide +kernel
theorem d_Law_law_868 : decode code 868 = .ok (.iconst 3, 1) := by decide +kernel
theorem d_Law_law_869 : decode code 869 = .ok (.iadd, 1) := by decide +kernel
theorem d_Law_law_870 : decode code 870 = .ok (.iaload, 1) := by decide +kernel
theorem d_Law_law_871 : decode code 871 = .ok (.invokevirtual 104, 3) := by decide +kernel
theorem d_Law_law_874 : decode code 874 = .ok (.istore 6, 2) := by decide +kernel
theorem d_Law_law_876 : decode code 876 = .ok (.aload_n 2, 1) := by decide +kernel
theorem d_Law_law_877 : decode code 877 = .ok (.invokevirtual 80, 3) := by decide +kernel
theorem d_Law_law_880 : decode code 880 = .ok (.iload 5, 2) := by decide +kernel
theorem d_Law_law_882 : decode code 882 = .ok (.if_icmp .eq 5, 3) := by decide +kernel
theorem d_Law_law_885 : decode code 885 = .ok (.iconst 0, 1) := by decide +kernel
theorem d_Law_law_886 : decode code 886 = .ok (.ireturn, 1) := by decide +kernel
theorem d_Law_law_887 : decode code 887 = .ok (.iload 5, 2) := by decide +kernel
theorem d_Law_law_889 : decode code 889 = .ok (.ifCond .ne 22, 3) := by decide +kernel
theorem d_Law_law_892 : decode code 892 = .ok (.aload_n 3, 1) := by decide +kernel
theorem d_Law_law_893 : decode code 893 = .ok (.iconst 0, 1) := by decide +kernel
theorem d_Law_law_894 : decode code 894 = .ok (.laload, 1) := by decide +kernel
theorem d_Law_law_895 : decode code 895 = .ok (.iload 6, 2) := by decide +kernel
theorem d_Law_law_897 : decode code 897 = .ok (.ifCond .eq 7, 3) := by decide +kernel
theorem d_Law_law_900 : decode code 900 = .ok (.lconst 1, 1) := by decide +kernel
theorem d_Law_law_901 : decode code 901 = .ok (.goto 4, 3) := by decide +kernel
theorem d_Law_law_904 : decode code 904 = .ok (.lconst 0, 1) := by decide +kernel
theorem d_Law_law_905 : decode code 905 = .ok (.lcmp, 1) := by decide +kernel
theorem d_Law_law_906 : decode code 906 = .ok (.ifCond .eq 5, 3) := by decide +kernel
theorem d_Law_law_909 : decode code 909 = .ok (.iconst 0, 1) := by decide +kernel
theorem d_Law_law_910 : decode code 910 = .ok (.ireturn, 1) := by decide +kernel
theorem d_Law_law_911 : decode code 911 = .ok (.goto 575, 3) := by decide +kernel
theorem d_Law_law_914 : decode code 914 = .ok (.aload_n 1, 1) := by decide +kernel
theorem d_Law_law_915 : decode code 915 = .ok (.aload_n 0, 1) := by decide +kernel
theorem d_Law_law_916 : decode code 916 = .ok (.iload 4, 2) := by decide +kernel
theorem d_Law_law_918 : decode code 918 = .ok (.iconst 1, 1) := by decide +kernel
theorem d_Law_law_919 : decode code 919 = .ok (.iadd, 1) := by decide +kernel
theorem d_Law_law_920 : decode code 920 = .ok (.iaload, 1) := by decide +kernel
theorem d_Law_law_921 : decode code 921 = .ok (.invokestatic 105, 3) := by decide +kernel
theorem d_Law_law_924 : decode code 924 = .ok (.istore 5, 2) := by decide +kernel
theorem d_Law_law_926 : decode code 926 = .ok (.aload_n 2, 1) := by decide +kernel
theorem d_Law_law_927 : decode code 927 = .ok (.aload_n 0, 1) := by decide +kernel
theorem d_Law_law_928 : decode code 928 = .ok (.iload 4, 2) := by decide +kernel
theorem d_Law_law_930 : decode code 930 = .ok (.iconst 1, 1) := by decide +kernel
theorem d_Law_law_931 : decode code 931 = .ok (.iadd, 1) := by decide +kernel
theorem d_Law_law_932 : decode code 932 = .ok (.iaload, 1) := by decide +kernel
theorem d_Law_law_933 : decode code 933 = .ok (.invokevirtual 108, 3) := by decide +kernel
theorem d_Law_law_936 : decode code 936 = .ok (.aload_n 2, 1) := by decide +kernel
theorem d_Law_law_937 : decode code 937 = .ok (.invokevirtual 80, 3) := by decide +kernel
theorem d_Law_law_940 : decode code 940 = .ok (.iload 5, 2) := by decide +kernel
theorem d_Law_law_942 : decode code 942 = .ok (.if_icmp .eq 5, 3) := by decide +kernel
theorem d_Law_law_945 : decode code 945 = .ok (.iconst 0, 1) := by decide +kernel
theorem d_Law_law_946 : decode code 946 = .ok (.ireturn, 1) := by decide +kernel
theorem d_Law_law_947 : decode code 947 = .ok (.goto 539, 3) := by decide +kernel
theorem d_Law_law_950 : decode code 950 = .ok (.aload_n 1, 1) := by decide +kernel
theorem d_Law_law_951 : decode code 951 = .ok (.aload_n 0, 1) := by decide +kernel
theorem d_Law_law_952 : decode code 952 = .ok (.iload 4, 2) := by decide +kernel
theorem d_Law_law_954 : decode code 954 = .ok (.iconst 1, 1) := by decide +kernel
theorem d_Law_law_955 : decode code 955 = .ok (.iadd, 1) := by decide +kernel
theorem d_Law_law_956 : decode code 956 = .ok (.iaload, 1) := by decide +kernel
theorem d_Law_law_957 : decode code 957 = .ok (.aload_n 0, 1) := by decide +kernel
theorem d_Law_law_958 : decode code 958 = .ok (.iload 4, 2) := by decide +kernel
theorem d_Law_law_960 : decode code 960 = .ok (.iconst 2, 1) := by decide +kernel
theorem d_Law_law_961 : decode code 961 = .ok (.iadd, 1) := by decide +kernel
theorem d_Law_law_962 : decode code 962 = .ok (.iaload, 1) := by decide +kernel
theorem d_Law_law_963 : decode code 963 = .ok (.aload_n 0, 1) := by decide +kernel
theorem d_Law_law_964 : decode code 964 = .ok (.iload 4, 2) := by decide +kernel
theorem d_Law_law_966 : decode code 966 = .ok (.iconst 3, 1) := by decide +kernel
theorem d_Law_law_967 : decode code 967 = .ok (.iadd, 1) := by decide +kernel
theorem d_Law_law_968 : decode code 968 = .ok (.iaload, 1) := by decide +kernel
theorem d_Law_law_969 : decode code 969 = .ok (.i2l, 1) := by decide +kernel
theorem d_Law_law_970 : decode code 970 = .ok (.bipush 32, 2) := by decide +kernel
theorem d_Law_law_972 : decode code 972 = .ok (.lshl, 1) := by decide +kernel
theorem d_Law_law_973 : decode code 973 = .ok (.aload_n 0, 1) := by decide +kernel
theorem d_Law_law_974 : decode code 974 = .ok (.iload 4, 2) := by decide +kernel
theorem d_Law_law_976 : decode code 976 = .ok (.iconst 4, 1) := by decide +kernel
theorem d_Law_law_977 : decode code 977 = .ok (.iadd, 1) := by decide +kernel
theorem d_Law_law_978 : decode code 978 = .ok (.iaload, 1) := by decide +kernel
theorem d_Law_law_979 : decode code 979 = .ok (.i2l, 1) := by decide +kernel
theorem d_Law_law_980 : decode code 980 = .ok (.ldc2_w 72, 3) := by decide +kernel
theorem d_Law_law_983 : decode code 983 = .ok (.land, 1) := by decide +kernel
theorem d_Law_law_984 : decode code 984 = .ok (.lor, 1) := by decide +kernel
theorem d_Law_law_985 : decode code 985 = .ok (.aload_n 3, 1) := by decide +kernel
theorem d_Law_law_986 : decode code 986 = .ok (.invokestatic 109, 3) := by decide +kernel
theorem d_Law_law_989 : decode code 989 = .ok (.istore 5, 2) := by decide +kernel
theorem d_Law_law_991 : decode code 991 = .ok (.aload_n 2, 1) := by decide +kernel
theorem d_Law_law_992 : decode code 992 = .ok (.aload_n 0, 1) := by decide +kernel
theorem d_Law_law_993 : decode code 993 = .ok (.iload 4, 2) := by decide +kernel
theorem d_Law_law_995 : decode code 995 = .ok (.iconst 1, 1) := by decide +kernel
theorem d_Law_law_996 : decode code 996 = .ok (.iadd, 1) := by decide +kernel
theorem d_Law_law_997 : decode code 997 = .ok (.iaload, 1) := by decide +kernel
theorem d_Law_law_998 : decode code 998 = .ok (.aload_n 0, 1) := by decide +kernel
theorem d_Law_law_999 : decode code 999 = .ok (.iload 4, 2) := by decide +kernel
theorem d_Law_law_1001 : decode code 1001 = .ok (.iconst 2, 1) := by decide +kernel
theorem d_Law_law_1002 : decode code 1002 = .ok (.iadd, 1) := by decide +kernel
theorem d_Law_law_1003 : decode code 1003 = .ok (.iaload, 1) := by decide +kernel
theorem d_Law_law_1004 : decode code 1004 = .ok (.aload_n 0, 1) := by decide +kernel
theorem d_Law_law_1005 : decode code 1005 = .ok (.iload 4, 2) := by decide +kernel
theorem d_Law_law_1007 : decode code 1007 = .ok (.iconst 3, 1) := by decide +kernel
theorem d_Law_law_1008 : decode code 1008 = .ok (.iadd, 1) := by decide +kernel
theorem d_Law_law_1009 : decode code 1009 = .ok (.iaload, 1) := by decide +kernel
theorem d_Law_law_1010 : decode code 1010 = .ok (.i2l, 1) := by decide +kernel
theorem d_Law_law_1011 : decode code 1011 = .ok (.bipush 32, 2) := by decide +kernel
theorem d_Law_law_1013 : decode code 1013 = .ok (.lshl, 1) := by decide +kernel
theorem d_Law_law_1014 : decode code 1014 = .ok (.aload_n 0, 1) := by decide +kernel
theorem d_Law_law_1015 : decode code 1015 = .ok (.iload 4, 2) := by decide +kernel
theorem d_Law_law_1017 : decode code 1017 = .ok (.iconst 4, 1) := by decide +kernel
theorem d_Law_law_1018 : decode code 1018 = .ok (.iadd, 1) := by decide +kernel
theorem d_Law_law_1019 : decode code 1019 = .ok (.iaload, 1) := by decide +kernel
theorem d_Law_law_1020 : decode code 1020 = .ok (.i2l, 1) := by decide +kernel
theorem d_Law_law_1021 : decode code 1021 = .ok (.ldc2_w 72, 3) := by decide +kernel
theorem d_Law_law_1024 : decode code 1024 = .ok (.land, 1) := by decide +kernel
theorem d_Law_law_1025 : decode code 1025 = .ok (.lor, 1) := by decide +kernel
theorem d_Law_law_1026 : decode code 1026 = .ok (.invokevirtual 112, 3) := by decide +kernel
theorem d_Law_law_1029 : decode code 1029 = .ok (.lstore 6, 2) := by decide +kernel
theorem d_Law_law_1031 : decode code 1031 = .ok (.aload_n 2, 1) := by decide +kernel
theorem d_Law_law_1032 : decode code 1032 = .ok (.invokevirtual 80, 3) := by decide +kernel
theorem d_Law_law_1035 : decode code 1035 = .ok (.iload 5, 2) := by decide +kernel
theorem d_Law_law_1037 : decode code 1037 = .ok (.if_icmp .eq 5, 3) := by decide +kernel
theorem d_Law_law_1040 : decode code 1040 = .ok (.iconst 0, 1) := by decide +kernel
theorem d_Law_law_1041 : decode code 1041 = .ok (.ireturn, 1) := by decide +kernel
theorem d_Law_law_1042 : decode code 1042 = .ok (.iload 5, 2) := by decide +kernel
theorem d_Law_law_1044 : decode code 1044 = .ok (.ifCond .ne 14, 3) := by decide +kernel
theorem d_Law_law_1047 : decode code 1047 = .ok (.aload_n 3, 1) := by decide +kernel
theorem d_Law_law_1048 : decode code 1048 = .ok (.iconst 0, 1) := by decide +kernel
theorem d_Law_law_1049 : decode code 1049 = .ok (.laload, 1) := by decide +kernel
theorem d_Law_law_1050 : decode code 1050 = .ok (.lload 6, 2) := by decide +kernel
theorem d_Law_law_1052 : decode code 1052 = .ok (.lcmp, 1) := by decide +kernel
theorem d_Law_law_1053 : decode code 1053 = .ok (.ifCond .eq 5, 3) := by decide +kernel
theorem d_Law_law_1056 : decode code 1056 = .ok (.iconst 0, 1) := by decide +kernel
theorem d_Law_law_1057 : decode code 1057 = .ok (.ireturn, 1) := by decide +kernel
theorem d_Law_law_1058 : decode code 1058 = .ok (.goto 428, 3) := by decide +kernel
theorem d_Law_law_1061 : decode code 1061 = .ok (.aload_n 1, 1) := by decide +kernel
theorem d_Law_law_1062 : decode code 1062 = .ok (.aload_n 0, 1) := by decide +kernel
theorem d_Law_law_1063 : decode code 1063 = .ok (.iload 4, 2) := by decide +kernel
theorem d_Law_law_1065 : decode code 1065 = .ok (.iconst 1, 1) := by decide +kernel
theorem d_Law_law_1066 : decode code 1066 = .ok (.iadd, 1) := by decide +kernel
theorem d_Law_law_1067 : decode code 1067 = .ok (.iaload, 1) := by decide +kernel
theorem d_Law_law_1068 : decode code 1068 = .ok (.aload_n 3, 1) := by decide +kernel
theorem d_Law_law_1069 : decode code 1069 = .ok (.invokestatic 113, 3) := by decide +kernel
theorem d_Law_law_1072 : decode code 1072 = .ok (.istore 5, 2) := by decide +kernel
theorem d_Law_law_1074 : decode code 1074 = .ok (.aload_n 2, 1) := by decide +kernel
theorem d_Law_law_1075 : decode code 1075 = .ok (.aload_n 0, 1) := by decide +kernel
theorem d_Law_law_1076 : decode code 1076 = .ok (.iload 4, 2) := by decide +kernel
theorem d_Law_law_1078 : decode code 1078 = .ok (.iconst 1, 1) := by decide +kernel
theorem d_Law_law_1079 : decode code 1079 = .ok (.iadd, 1) := by decide +kernel
theorem d_Law_law_1080 : decode code 1080 = .ok (.iaload, 1) := by decide +kernel
theorem d_Law_law_1081 : decode code 1081 = .ok (.invokevirtual 116, 3) := by decide +kernel
theorem d_Law_law_1084 : decode code 1084 = .ok (.istore 6, 2) := by decide +kernel
theorem d_Law_law_1086 : decode code 1086 = .ok (.aload_n 2, 1) := by decide +kernel
theorem d_Law_law_1087 : decode code 1087 = .ok (.invokevirtual 80, 3) := by decide +kernel
theorem d_Law_law_1090 : decode code 1090 = .ok (.iload 5, 2) := by decide +kernel
theorem d_Law_law_1092 : decode code 1092 = .ok (.if_icmp .eq 5, 3) := by decide +kernel
theorem d_Law_law_1095 : decode code 1095 = .ok (.iconst 0, 1) := by decide +kernel
theorem d_Law_law_1096 : decode code 1096 = .ok (.ireturn, 1) := by decide +kernel
theorem d_Law_law_1097 : decode code 1097 = .ok (.iload 5, 2) := by decide +kernel
theorem d_Law_law_1099 : decode code 1099 = .ok (.ifCond .ne 15, 3) := by decide +kernel
theorem d_Law_law_1102 : decode code 1102 = .ok (.aload_n 3, 1) := by decide +kernel
theorem d_Law_law_1103 : decode code 1103 = .ok (.iconst 0, 1) := by decide +kernel
theorem d_Law_law_1104 : decode code 1104 = .ok (.laload, 1) := by decide +kernel
theorem d_Law_law_1105 : decode code 1105 = .ok (.iload 6, 2) := by decide +kernel
theorem d_Law_law_1107 : decode code 1107 = .ok (.i2l, 1) := by decide +kernel
theorem d_Law_law_1108 : decode code 1108 = .ok (.lcmp, 1) := by decide +kernel
theorem d_Law_law_1109 : decode code 1109 = .ok (.ifCond .eq 5, 3) := by decide +kernel
theorem d_Law_law_1112 : decode code 1112 = .ok (.iconst 0, 1) := by decide +kernel
theorem d_Law_law_1113 : decode code 1113 = .ok (.ireturn, 1) := by decide +kernel
theorem d_Law_law_1114 : decode code 1114 = .ok (.goto 372, 3) := by decide +kernel
theorem d_Law_law_1117 : decode code 1117 = .ok (.aload_n 1, 1) := by decide +kernel
theorem d_Law_law_1118 : decode code 1118 = .ok (.aload_n 0, 1) := by decide +kernel
theorem d_Law_law_1119 : decode code 1119 = .ok (.iload 4, 2) := by decide +kernel
theorem d_Law_law_1121 : decode code 1121 = .ok (.iconst 1, 1) := by decide +kernel
theorem d_Law_law_1122 : decode code 1122 = .ok (.iadd, 1) := by decide +kernel
theorem d_Law_law_1123 : decode code 1123 = .ok (.iaload, 1) := by decide +kernel
theorem d_Law_law_1124 : decode code 1124 = .ok (.aload_n 0, 1) := by decide +kernel
theorem d_Law_law_1125 : decode code 1125 = .ok (.iload 4, 2) := by decide +kernel
theorem d_Law_law_1127 : decode code 1127 = .ok (.iconst 2, 1) := by decide +kernel
theorem d_Law_law_1128 : decode code 1128 = .ok (.iadd, 1) := by decide +kernel
theorem d_Law_law_1129 : decode code 1129 = .ok (.iaload, 1) := by decide +kernel
theorem d_Law_law_1130 : decode code 1130 = .ok (.aload_n 0, 1) := by decide +kernel
theorem d_Law_law_1131 : decode code 1131 = .ok (.iload 4, 2) := by decide +kernel
theorem d_Law_law_1133 : decode code 1133 = .ok (.iconst 3, 1) := by decide +kernel
theorem d_Law_law_1134 : decode code 1134 = .ok (.iadd, 1) := by decide +kernel
theorem d_Law_law_1135 : decode code 1135 = .ok (.iaload, 1) := by decide +kernel
theorem d_Law_law_1136 : decode code 1136 = .ok (.aload_n 3, 1) := by decide +kernel
theorem d_Law_law_1137 : decode code 1137 = .ok (.invokestatic 117, 3) := by decide +kernel
theorem d_Law_law_1140 : decode code 1140 = .ok (.istore 5, 2) := by decide +kernel
theorem d_Law_law_1142 : decode code 1142 = .ok (.aload_n 2, 1) := by decide +kernel
theorem d_Law_law_1143 : decode code 1143 = .ok (.aload_n 0, 1) := by decide +kernel
theorem d_Law_law_1144 : decode code 1144 = .ok (.iload 4, 2) := by decide +kernel
theorem d_Law_law_1146 : decode code 1146 = .ok (.iconst 1, 1) := by decide +kernel
theorem d_Law_law_1147 : decode code 1147 = .ok (.iadd, 1) := by decide +kernel
theorem d_Law_law_1148 : decode code 1148 = .ok (.iaload, 1) := by decide +kernel
theorem d_Law_law_1149 : decode code 1149 = .ok (.aload_n 0, 1) := by decide +kernel
theorem d_Law_law_1150 : decode code 1150 = .ok (.iload 4, 2) := by decide +kernel
theorem d_Law_law_1152 : decode code 1152 = .ok (.iconst 2, 1) := by decide +kernel
theorem d_Law_law_1153 : decode code 1153 = .ok (.iadd, 1) := by decide +kernel
theorem d_Law_law_1154 : decode code 1154 = .ok (.iaload, 1) := by decide +kernel
theorem d_Law_law_1155 : decode code 1155 = .ok (.aload_n 0, 1) := by decide +kernel
theorem d_Law_law_1156 : decode code 1156 = .ok (.iload 4, 2) := by decide +kernel
theorem d_Law_law_1158 : decode code 1158 = .ok (.iconst 3, 1) := by decide +kernel
theorem d_Law_law_1159 : decode code 1159 = .ok (.iadd, 1) := by decide +kernel
theorem d_Law_law_1160 : decode code 1160 = .ok (.iaload, 1) := by decide +kernel
theorem d_Law_law_1161 : decode code 1161 = .ok (.invokevirtual 119, 3) := by decide +kernel
theorem d_Law_law_1164 : decode code 1164 = .ok (.lstore 6, 2) := by decide +kernel
theorem d_Law_law_1166 : decode code 1166 = .ok (.aload_n 2, 1) := by decide +kernel
theorem d_Law_law_1167 : decode code 1167 = .ok (.invokevirtual 80, 3) := by decide +kernel
theorem d_Law_law_1170 : decode code 1170 = .ok (.iload 5, 2) := by decide +kernel
theorem d_Law_law_1172 : decode code 1172 = .ok (.if_icmp .eq 5, 3) := by decide +kernel
theorem d_Law_law_1175 : decode code 1175 = .ok (.iconst 0, 1) := by decide +kernel
theorem d_Law_law_1176 : decode code 1176 = .ok (.ireturn, 1) := by decide +kernel
theorem d_Law_law_1177 : decode code 1177 = .ok (.iload 5, 2) := by decide +kernel
theorem d_Law_law_1179 : decode code 1179 = .ok (.ifCond .ne 14, 3) := by decide +kernel
theorem d_Law_law_1182 : decode code 1182 = .ok (.aload_n 3, 1) := by decide +kernel
theorem d_Law_law_1183 : decode code 1183 = .ok (.iconst 0, 1) := by decide +kernel
theorem d_Law_law_1184 : decode code 1184 = .ok (.laload, 1) := by decide +kernel
theorem d_Law_law_1185 : decode code 1185 = .ok (.lload 6, 2) := by decide +kernel
theorem d_Law_law_1187 : decode code 1187 = .ok (.lcmp, 1) := by decide +kernel
theorem d_Law_law_1188 : decode code 1188 = .ok (.ifCond .eq 5, 3) := by decide +kernel
theorem d_Law_law_1191 : decode code 1191 = .ok (.iconst 0, 1) := by decide +kernel
theorem d_Law_law_1192 : decode code 1192 = .ok (.ireturn, 1) := by decide +kernel
theorem d_Law_law_1193 : decode code 1193 = .ok (.goto 293, 3) := by decide +kernel
theorem d_Law_law_1196 : decode code 1196 = .ok (.aload_n 1, 1) := by decide +kernel
theorem d_Law_law_1197 : decode code 1197 = .ok (.aload_n 0, 1) := by decide +kernel
theorem d_Law_law_1198 : decode code 1198 = .ok (.iload 4, 2) := by decide +kernel
theorem d_Law_law_1200 : decode code 1200 = .ok (.iconst 1, 1) := by decide +kernel
theorem d_Law_law_1201 : decode code 1201 = .ok (.iadd, 1) := by decide +kernel
theorem d_Law_law_1202 : decode code 1202 = .ok (.iaload, 1) := by decide +kernel
theorem d_Law_law_1203 : decode code 1203 = .ok (.aload_n 0, 1) := by decide +kernel
theorem d_Law_law_1204 : decode code 1204 = .ok (.iload 4, 2) := by decide +kernel
theorem d_Law_law_1206 : decode code 1206 = .ok (.iconst 2, 1) := by decide +kernel
theorem d_Law_law_1207 : decode code 1207 = .ok (.iadd, 1) := by decide +kernel
theorem d_Law_law_1208 : decode code 1208 = .ok (.iaload, 1) := by decide +kernel
theorem d_Law_law_1209 : decode code 1209 = .ok (.aload_n 3, 1) := by decide +kernel
theorem d_Law_law_1210 : decode code 1210 = .ok (.invokestatic 120, 3) := by decide +kernel
theorem d_Law_law_1213 : decode code 1213 = .ok (.istore 5, 2) := by decide +kernel
theorem d_Law_law_1215 : decode code 1215 = .ok (.aload_n 2, 1) := by decide +kernel
theorem d_Law_law_1216 : decode code 1216 = .ok (.aload_n 0, 1) := by decide +kernel
theorem d_Law_law_1217 : decode code 1217 = .ok (.iload 4, 2) := by decide +kernel
theorem d_Law_law_1219 : decode code 1219 = .ok (.iconst 1, 1) := by decide +kernel
theorem d_Law_law_1220 : decode code 1220 = .ok (.iadd, 1) := by decide +kernel
theorem d_Law_law_1221 : decode code 1221 = .ok (.iaload, 1) := by decide +kernel
theorem d_Law_law_1222 : decode code 1222 = .ok (.aload_n 0, 1) := by decide +kernel
theorem d_Law_law_1223 : decode code 1223 = .ok (.iload 4, 2) := by decide +kernel
theorem d_Law_law_1225 : decode code 1225 = .ok (.iconst 2, 1) := by decide +kernel
theorem d_Law_law_1226 : decode code 1226 = .ok (.iadd, 1) := by decide +kernel
theorem d_Law_law_1227 : decode code 1227 = .ok (.iaload, 1) := by decide +kernel
theorem d_Law_law_1228 : decode code 1228 = .ok (.invokevirtual 123, 3) := by decide +kernel
theorem d_Law_law_1231 : decode code 1231 = .ok (.istore 6, 2) := by decide +kernel
theorem d_Law_law_1233 : decode code 1233 = .ok (.aload_n 2, 1) := by decide +kernel
theorem d_Law_law_1234 : decode code 1234 = .ok (.invokevirtual 80, 3) := by decide +kernel
theorem d_Law_law_1237 : decode code 1237 = .ok (.iload 5, 2) := by decide +kernel
theorem d_Law_law_1239 : decode code 1239 = .ok (.if_icmp .eq 5, 3) := by decide +kernel
theorem d_Law_law_1242 : decode code 1242 = .ok (.iconst 0, 1) := by decide +kernel
theorem d_Law_law_1243 : decode code 1243 = .ok (.ireturn, 1) := by decide +kernel
theorem d_Law_law_1244 : decode code 1244 = .ok (.iload 5, 2) := by decide +kernel
theorem d_Law_law_1246 : decode code 1246 = .ok (.ifCond .ne 15, 3) := by decide +kernel
theorem d_Law_law_1249 : decode code 1249 = .ok (.aload_n 3, 1) := by decide +kernel
theorem d_Law_law_1250 : decode code 1250 = .ok (.iconst 0, 1) := by decide +kernel
theorem d_Law_law_1251 : decode code 1251 = .ok (.laload, 1) := by decide +kernel
theorem d_Law_law_1252 : decode code 1252 = .ok (.iload 6, 2) := by decide +kernel
theorem d_Law_law_1254 : decode code 1254 = .ok (.i2l, 1) := by decide +kernel
theorem d_Law_law_1255 : decode code 1255 = .ok (.lcmp, 1) := by decide +kernel
theorem d_Law_law_1256 : decode code 1256 = .ok (.ifCond .eq 5, 3) := by decide +kernel
theorem d_Law_law_1259 : decode code 1259 = .ok (.iconst 0, 1) := by decide +kernel
theorem d_Law_law_1260 : decode code 1260 = .ok (.ireturn, 1) := by decide +kernel
theorem d_Law_law_1261 : decode code 1261 = .ok (.goto 225, 3) := by decide +kernel
theorem d_Law_law_1264 : decode code 1264 = .ok (.aload_n 1, 1) := by decide +kernel
theorem d_Law_law_1265 : decode code 1265 = .ok (.aload_n 0, 1) := by decide +kernel
theorem d_Law_law_1266 : decode code 1266 = .ok (.iload 4, 2) := by decide +kernel
theorem d_Law_law_1268 : decode code 1268 = .ok (.iconst 1, 1) := by decide +kernel
theorem d_Law_law_1269 : decode code 1269 = .ok (.iadd, 1) := by decide +kernel
theorem d_Law_law_1270 : decode code 1270 = .ok (.iaload, 1) := by decide +kernel
theorem d_Law_law_1271 : decode code 1271 = .ok (.aload_n 0, 1) := by decide +kernel
theorem d_Law_law_1272 : decode code 1272 = .ok (.iload 4, 2) := by decide +kernel
theorem d_Law_law_1274 : decode code 1274 = .ok (.iconst 2, 1) := by decide +kernel
theorem d_Law_law_1275 : decode code 1275 = .ok (.iadd, 1) := by decide +kernel
theorem d_Law_law_1276 : decode code 1276 = .ok (.iaload, 1) := by decide +kernel
theorem d_Law_law_1277 : decode code 1277 = .ok (.aload_n 0, 1) := by decide +kernel
theorem d_Law_law_1278 : decode code 1278 = .ok (.iload 4, 2) := by decide +kernel
theorem d_Law_law_1280 : decode code 1280 = .ok (.iconst 3, 1) := by decide +kernel
theorem d_Law_law_1281 : decode code 1281 = .ok (.iadd, 1) := by decide +kernel
theorem d_Law_law_1282 : decode code 1282 = .ok (.iaload, 1) := by decide +kernel
theorem d_Law_law_1283 : decode code 1283 = .ok (.aload_n 3, 1) := by decide +kernel
theorem d_Law_law_1284 : decode code 1284 = .ok (.invokestatic 124, 3) := by decide +kernel
theorem d_Law_law_1287 : decode code 1287 = .ok (.istore 5, 2) := by decide +kernel
theorem d_Law_law_1289 : decode code 1289 = .ok (.aload_n 2, 1) := by decide +kernel
theorem d_Law_law_1290 : decode code 1290 = .ok (.aload_n 0, 1) := by decide +kernel
theorem d_Law_law_1291 : decode code 1291 = .ok (.iload 4, 2) := by decide +kernel
theorem d_Law_law_1293 : decode code 1293 = .ok (.iconst 1, 1) := by decide +kernel
theorem d_Law_law_1294 : decode code 1294 = .ok (.iadd, 1) := by decide +kernel
theorem d_Law_law_1295 : decode code 1295 = .ok (.iaload, 1) := by decide +kernel
theorem d_Law_law_1296 : decode code 1296 = .ok (.aload_n 0, 1) := by decide +kernel
theorem d_Law_law_1297 : decode code 1297 = .ok (.iload 4, 2) := by decide +kernel
theorem d_Law_law_1299 : decode code 1299 = .ok (.iconst 2, 1) := by decide +kernel
theorem d_Law_law_1300 : decode code 1300 = .ok (.iadd, 1) := by decide +kernel
theorem d_Law_law_1301 : decode code 1301 = .ok (.iaload, 1) := by decide +kernel
theorem d_Law_law_1302 : decode code 1302 = .ok (.aload_n 0, 1) := by decide +kernel
theorem d_Law_law_1303 : decode code 1303 = .ok (.iload 4, 2) := by decide +kernel
theorem d_Law_law_1305 : decode code 1305 = .ok (.iconst 3, 1) := by decide +kernel
theorem d_Law_law_1306 : decode code 1306 = .ok (.iadd, 1) := by decide +kernel
theorem d_Law_law_1307 : decode code 1307 = .ok (.iaload, 1) := by decide +kernel
theorem d_Law_law_1308 : decode code 1308 = .ok (.invokevirtual 126, 3) := by decide +kernel
theorem d_Law_law_1311 : decode code 1311 = .ok (.istore 6, 2) := by decide +kernel
theorem d_Law_law_1313 : decode code 1313 = .ok (.aload_n 2, 1) := by decide +kernel
theorem d_Law_law_1314 : decode code 1314 = .ok (.invokevirtual 80, 3) := by decide +kernel
theorem d_Law_law_1317 : decode code 1317 = .ok (.iload 5, 2) := by decide +kernel
theorem d_Law_law_1319 : decode code 1319 = .ok (.if_icmp .eq 5, 3) := by decide +kernel
theorem d_Law_law_1322 : decode code 1322 = .ok (.iconst 0, 1) := by decide +kernel
theorem d_Law_law_1323 : decode code 1323 = .ok (.ireturn, 1) := by decide +kernel
theorem d_Law_law_1324 : decode code 1324 = .ok (.iload 5, 2) := by decide +kernel
theorem d_Law_law_1326 : decode code 1326 = .ok (.ifCond .ne 22, 3) := by decide +kernel
theorem d_Law_law_1329 : decode code 1329 = .ok (.aload_n 3, 1) := by decide +kernel
theorem d_Law_law_1330 : decode code 1330 = .ok (.iconst 0, 1) := by decide +kernel
theorem d_Law_law_1331 : decode code 1331 = .ok (.laload, 1) := by decide +kernel
theorem d_Law_law_1332 : decode code 1332 = .ok (.iload 6, 2) := by decide +kernel
theorem d_Law_law_1334 : decode code 1334 = .ok (.ifCond .eq 7, 3) := by decide +kernel
theorem d_Law_law_1337 : decode code 1337 = .ok (.lconst 1, 1) := by decide +kernel
theorem d_Law_law_1338 : decode code 1338 = .ok (.goto 4, 3) := by decide +kernel
theorem d_Law_law_1341 : decode code 1341 = .ok (.lconst 0, 1) := by decide +kernel
theorem d_Law_law_1342 : decode code 1342 = .ok (.lcmp, 1) := by decide +kernel
theorem d_Law_law_1343 : decode code 1343 = .ok (.ifCond .eq 5, 3) := by decide +kernel
theorem d_Law_law_1346 : decode code 1346 = .ok (.iconst 0, 1) := by decide +kernel
theorem d_Law_law_1347 : decode code 1347 = .ok (.ireturn, 1) := by decide +kernel
theorem d_Law_law_1348 : decode code 1348 = .ok (.goto 138, 3) := by decide +kernel
theorem d_Law_law_1351 : decode code 1351 = .ok (.aload_n 1, 1) := by decide +kernel
theorem d_Law_law_1352 : decode code 1352 = .ok (.aload_n 0, 1) := by decide +kernel
theorem d_Law_law_1353 : decode code 1353 = .ok (.iload 4, 2) := by decide +kernel
theorem d_Law_law_1355 : decode code 1355 = .ok (.iconst 1, 1) := by decide +kernel
theorem d_Law_law_1356 : decode code 1356 = .ok (.iadd, 1) := by decide +kernel
theorem d_Law_law_1357 : decode code 1357 = .ok (.iaload, 1) := by decide +kernel
theorem d_Law_law_1358 : decode code 1358 = .ok (.aload_n 0, 1) := by decide +kernel
theorem d_Law_law_1359 : decode code 1359 = .ok (.iload 4, 2) := by decide +kernel
theorem d_Law_law_1361 : decode code 1361 = .ok (.iconst 2, 1) := by decide +kernel
theorem d_Law_law_1362 : decode code 1362 = .ok (.iadd, 1) := by decide +kernel
theorem d_Law_law_1363 : decode code 1363 = .ok (.iaload, 1) := by decide +kernel
theorem d_Law_law_1364 : decode code 1364 = .ok (.aload_n 3, 1) := by decide +kernel
theorem d_Law_law_1365 : decode code 1365 = .ok (.invokestatic 127, 3) := by decide +kernel
theorem d_Law_law_1368 : decode code 1368 = .ok (.istore 5, 2) := by decide +kernel
theorem d_Law_law_1370 : decode code 1370 = .ok (.aload_n 2, 1) := by decide +kernel
theorem d_Law_law_1371 : decode code 1371 = .ok (.aload_n 0, 1) := by decide +kernel
theorem d_Law_law_1372 : decode code 1372 = .ok (.iload 4, 2) := by decide +kernel
theorem d_Law_law_1374 : decode code 1374 = .ok (.iconst 1, 1) := by decide +kernel
theorem d_Law_law_1375 : decode code 1375 = .ok (.iadd, 1) := by decide +kernel
theorem d_Law_law_1376 : decode code 1376 = .ok (.iaload, 1) := by decide +kernel
theorem d_Law_law_1377 : decode code 1377 = .ok (.aload_n 0, 1) := by decide +kernel
theorem d_Law_law_1378 : decode code 1378 = .ok (.iload 4, 2) := by decide +kernel
theorem d_Law_law_1380 : decode code 1380 = .ok (.iconst 2, 1) := by decide +kernel
theorem d_Law_law_1381 : decode code 1381 = .ok (.iadd, 1) := by decide +kernel
theorem d_Law_law_1382 : decode code 1382 = .ok (.iaload, 1) := by decide +kernel
theorem d_Law_law_1383 : decode code 1383 = .ok (.invokevirtual 129, 3) := by decide +kernel
theorem d_Law_law_1386 : decode code 1386 = .ok (.lstore 6, 2) := by decide +kernel
theorem d_Law_law_1388 : decode code 1388 = .ok (.aload_n 2, 1) := by decide +kernel
theorem d_Law_law_1389 : decode code 1389 = .ok (.invokevirtual 80, 3) := by decide +kernel
theorem d_Law_law_1392 : decode code 1392 = .ok (.iload 5, 2) := by decide +kernel
theorem d_Law_law_1394 : decode code 1394 = .ok (.if_icmp .eq 5, 3) := by decide +kernel
theorem d_Law_law_1397 : decode code 1397 = .ok (.iconst 0, 1) := by decide +kernel
theorem d_Law_law_1398 : decode code 1398 = .ok (.ireturn, 1) := by decide +kernel
theorem d_Law_law_1399 : decode code 1399 = .ok (.iload 5, 2) := by decide +kernel
theorem d_Law_law_1401 : decode code 1401 = .ok (.ifCond .ne 14, 3) := by decide +kernel
theorem d_Law_law_1404 : decode code 1404 = .ok (.aload_n 3, 1) := by decide +kernel
theorem d_Law_law_1405 : decode code 1405 = .ok (.iconst 0, 1) := by decide +kernel
theorem d_Law_law_1406 : decode code 1406 = .ok (.laload, 1) := by decide +kernel
theorem d_Law_law_1407 : decode code 1407 = .ok (.lload 6, 2) := by decide +kernel
theorem d_Law_law_1409 : decode code 1409 = .ok (.lcmp, 1) := by decide +kernel
theorem d_Law_law_1410 : decode code 1410 = .ok (.ifCond .eq 5, 3) := by decide +kernel
theorem d_Law_law_1413 : decode code 1413 = .ok (.iconst 0, 1) := by decide +kernel
theorem d_Law_law_1414 : decode code 1414 = .ok (.ireturn, 1) := by decide +kernel
theorem d_Law_law_1415 : decode code 1415 = .ok (.goto 71, 3) := by decide +kernel
theorem d_Law_law_1418 : decode code 1418 = .ok (.aload_n 1, 1) := by decide +kernel
theorem d_Law_law_1419 : decode code 1419 = .ok (.aload_n 0, 1) := by decide +kernel
theorem d_Law_law_1420 : decode code 1420 = .ok (.iload 4, 2) := by decide +kernel
theorem d_Law_law_1422 : decode code 1422 = .ok (.iconst 1, 1) := by decide +kernel
theorem d_Law_law_1423 : decode code 1423 = .ok (.iadd, 1) := by decide +kernel
theorem d_Law_law_1424 : decode code 1424 = .ok (.iaload, 1) := by decide +kernel
theorem d_Law_law_1425 : decode code 1425 = .ok (.aload_n 0, 1) := by decide +kernel
theorem d_Law_law_1426 : decode code 1426 = .ok (.iload 4, 2) := by decide +kernel
theorem d_Law_law_1428 : decode code 1428 = .ok (.iconst 2, 1) := by decide +kernel
theorem d_Law_law_1429 : decode code 1429 = .ok (.iadd, 1) := by decide +kernel
theorem d_Law_law_1430 : decode code 1430 = .ok (.iaload, 1) := by decide +kernel
theorem d_Law_law_1431 : decode code 1431 = .ok (.aload_n 3, 1) := by decide +kernel
theorem d_Law_law_1432 : decode code 1432 = .ok (.invokestatic 130, 3) := by decide +kernel
theorem d_Law_law_1435 : decode code 1435 = .ok (.istore 5, 2) := by decide +kernel
theorem d_Law_law_1437 : decode code 1437 = .ok (.aload_n 2, 1) := by decide +kernel
theorem d_Law_law_1438 : decode code 1438 = .ok (.aload_n 0, 1) := by decide +kernel
theorem d_Law_law_1439 : decode code 1439 = .ok (.iload 4, 2) := by decide +kernel
theorem d_Law_law_1441 : decode code 1441 = .ok (.iconst 1, 1) := by decide +kernel
theorem d_Law_law_1442 : decode code 1442 = .ok (.iadd, 1) := by decide +kernel
theorem d_Law_law_1443 : decode code 1443 = .ok (.iaload, 1) := by decide +kernel
theorem d_Law_law_1444 : decode code 1444 = .ok (.aload_n 0, 1) := by decide +kernel
theorem d_Law_law_1445 : decode code 1445 = .ok (.iload 4, 2) := by decide +kernel
theorem d_Law_law_1447 : decode code 1447 = .ok (.iconst 2, 1) := by decide +kernel
theorem d_Law_law_1448 : decode code 1448 = .ok (.iadd, 1) := by decide +kernel
theorem d_Law_law_1449 : decode code 1449 = .ok (.iaload, 1) := by decide +kernel
theorem d_Law_law_1450 : decode code 1450 = .ok (.invokevirtual 132, 3) := by decide +kernel
theorem d_Law_law_1453 : decode code 1453 = .ok (.istore 6, 2) := by decide +kernel
theorem d_Law_law_1455 : decode code 1455 = .ok (.aload_n 2, 1) := by decide +kernel
theorem d_Law_law_1456 : decode code 1456 = .ok (.invokevirtual 80, 3) := by decide +kernel
theorem d_Law_law_1459 : decode code 1459 = .ok (.iload 5, 2) := by decide +kernel
theorem d_Law_law_1461 : decode code 1461 = .ok (.if_icmp .eq 5, 3) := by decide +kernel
theorem d_Law_law_1464 : decode code 1464 = .ok (.iconst 0, 1) := by decide +kernel
theorem d_Law_law_1465 : decode code 1465 = .ok (.ireturn, 1) := by decide +kernel
theorem d_Law_law_1466 : decode code 1466 = .ok (.iload 5, 2) := by decide +kernel
theorem d_Law_law_1468 : decode code 1468 = .ok (.ifCond .ne 15, 3) := by decide +kernel
theorem d_Law_law_1471 : decode code 1471 = .ok (.aload_n 3, 1) := by decide +kernel
theorem d_Law_law_1472 : decode code 1472 = .ok (.iconst 0, 1) := by decide +kernel
theorem d_Law_law_1473 : decode code 1473 = .ok (.laload, 1) := by decide +kernel
theorem d_Law_law_1474 : decode code 1474 = .ok (.iload 6, 2) := by decide +kernel
theorem d_Law_law_1476 : decode code 1476 = .ok (.i2l, 1) := by decide +kernel
theorem d_Law_law_1477 : decode code 1477 = .ok (.lcmp, 1) := by decide +kernel
theorem d_Law_law_1478 : decode code 1478 = .ok (.ifCond .eq 5, 3) := by decide +kernel
theorem d_Law_law_1481 : decode code 1481 = .ok (.iconst 0, 1) := by decide +kernel
theorem d_Law_law_1482 : decode code 1482 = .ok (.ireturn, 1) := by decide +kernel
theorem d_Law_law_1483 : decode code 1483 = .ok (.goto 3, 3) := by decide +kernel
theorem d_Law_law_1486 : decode code 1486 = .ok (.iinc 4 7, 3) := by decide +kernel
theorem d_Law_law_1489 : decode code 1489 = .ok (.goto (-1466), 3) := by decide +kernel
theorem d_Law_law_1492 : decode code 1492 = .ok (.iconst 1, 1) := by decide +kernel
theorem d_Law_law_1493 : decode code 1493 = .ok (.ireturn, 1) := by decide +kernel
