/-! instructions, printed by wip/whole/emit.py -/
theorem dX12_ask_14 : decode cX12_ask 14 = .ok (.invokestatic 175, 3) := by decide +kernel
theorem dX12_ask_17 : decode cX12_ask 17 = .ok (.ifCond .ne 6, 3) := by decide +kernel
theorem dX12_ask_20 : decode cX12_ask 20 = .ok (.bipush (-2), 2) := by decide +kernel
theorem dX12_ask_22 : decode cX12_ask 22 = .ok (.ireturn, 1) := by decide +kernel
theorem dX12_ask_23 : decode cX12_ask 23 = .ok (.aload_n 0, 1) := by decide +kernel
theorem dX12_ask_24 : decode cX12_ask 24 = .ok (.iload_n 1, 1) := by decide +kernel
theorem dX12_ask_25 : decode cX12_ask 25 = .ok (.iconst (-1), 1) := by decide +kernel
theorem dX12_ask_26 : decode cX12_ask 26 = .ok (.invokevirtual 378, 3) := by decide +kernel
theorem dX12_ask_29 : decode cX12_ask 29 = .ok (.ifCond .ne 6, 3) := by decide +kernel
theorem dX12_ask_32 : decode cX12_ask 32 = .ok (.bipush (-6), 2) := by decide +kernel
theorem dX12_ask_34 : decode cX12_ask 34 = .ok (.ireturn, 1) := by decide +kernel
theorem dX12_ask_35 : decode cX12_ask 35 = .ok (.iconst (-1), 1) := by decide +kernel
theorem dX12_ask_36 : decode cX12_ask 36 = .ok (.istore_n 3, 1) := by decide +kernel
theorem dX12_ask_37 : decode cX12_ask 37 = .ok (.iconst 0, 1) := by decide +kernel
theorem dX12_ask_38 : decode cX12_ask 38 = .ok (.istore 4, 2) := by decide +kernel
theorem dX12_ask_40 : decode cX12_ask 40 = .ok (.iconst 0, 1) := by decide +kernel
theorem dX12_ask_41 : decode cX12_ask 41 = .ok (.istore 5, 2) := by decide +kernel
theorem dX12_ask_43 : decode cX12_ask 43 = .ok (.iload 5, 2) := by decide +kernel
theorem dX12_ask_45 : decode cX12_ask 45 = .ok (.aload_n 0, 1) := by decide +kernel
theorem dX12_ask_46 : decode cX12_ask 46 = .ok (.getfield 335, 3) := by decide +kernel
theorem dX12_ask_49 : decode cX12_ask 49 = .ok (.if_icmp .ge 66, 3) := by decide +kernel
theorem dX12_ask_52 : decode cX12_ask 52 = .ok (.iconst 0, 1) := by decide +kernel
theorem dX12_ask_53 : decode cX12_ask 53 = .ok (.istore 6, 2) := by decide +kernel
theorem dX12_ask_55 : decode cX12_ask 55 = .ok (.iconst 0, 1) := by decide +kernel
theorem dX12_ask_56 : decode cX12_ask 56 = .ok (.istore 7, 2) := by decide +kernel
theorem dX12_ask_58 : decode cX12_ask 58 = .ok (.iload 7, 2) := by decide +kernel
theorem dX12_ask_60 : decode cX12_ask 60 = .ok (.bipush 64, 2) := by decide +kernel
theorem dX12_ask_62 : decode cX12_ask 62 = .ok (.if_icmp .ge 29, 3) := by decide +kernel
theorem dX12_ask_65 : decode cX12_ask 65 = .ok (.iload 6, 2) := by decide +kernel
theorem dX12_ask_67 : decode cX12_ask 67 = .ok (.aload_n 0, 1) := by decide +kernel
theorem dX12_ask_68 : decode cX12_ask 68 = .ok (.getfield 99, 3) := by decide +kernel
theorem dX12_ask_71 : decode cX12_ask 71 = .ok (.bipush 64, 2) := by decide +kernel
theorem dX12_ask_73 : decode cX12_ask 73 = .ok (.iload 5, 2) := by decide +kernel
theorem dX12_ask_75 : decode cX12_ask 75 = .ok (.imul, 1) := by decide +kernel
theorem dX12_ask_76 : decode cX12_ask 76 = .ok (.iload 7, 2) := by decide +kernel
theorem dX12_ask_78 : decode cX12_ask 78 = .ok (.iadd, 1) := by decide +kernel
theorem dX12_ask_79 : decode cX12_ask 79 = .ok (.iaload, 1) := by decide +kernel
theorem dX12_ask_80 : decode cX12_ask 80 = .ok (.invokestatic 391, 3) := by decide +kernel
theorem dX12_ask_83 : decode cX12_ask 83 = .ok (.istore 6, 2) := by decide +kernel
theorem dX12_ask_85 : decode cX12_ask 85 = .ok (.iinc 7 1, 3) := by decide +kernel
theorem dX12_ask_88 : decode cX12_ask 88 = .ok (.goto (-30), 3) := by decide +kernel
theorem dX12_ask_91 : decode cX12_ask 91 = .ok (.iload_n 3, 1) := by decide +kernel
theorem dX12_ask_92 : decode cX12_ask 92 = .ok (.ifCond .lt 10, 3) := by decide +kernel
theorem dX12_ask_95 : decode cX12_ask 95 = .ok (.iload 6, 2) := by decide +kernel
theorem dX12_ask_97 : decode cX12_ask 97 = .ok (.iload 4, 2) := by decide +kernel
theorem dX12_ask_99 : decode cX12_ask 99 = .ok (.if_icmp .ge 10, 3) := by decide +kernel
theorem dX12_ask_102 : decode cX12_ask 102 = .ok (.iload 5, 2) := by decide +kernel
theorem dX12_ask_104 : decode cX12_ask 104 = .ok (.istore_n 3, 1) := by decide +kernel
theorem dX12_ask_105 : decode cX12_ask 105 = .ok (.iload 6, 2) := by decide +kernel
theorem dX12_ask_107 : decode cX12_ask 107 = .ok (.istore 4, 2) := by decide +kernel
theorem dX12_ask_109 : decode cX12_ask 109 = .ok (.iinc 5 1, 3) := by decide +kernel
theorem dX12_ask_112 : decode cX12_ask 112 = .ok (.goto (-69), 3) := by decide +kernel
theorem dX12_ask_115 : decode cX12_ask 115 = .ok (.iload_n 2, 1) := by decide +kernel
theorem dX12_ask_116 : decode cX12_ask 116 = .ok (.ifCond .ne 12, 3) := by decide +kernel
theorem dX12_ask_119 : decode cX12_ask 119 = .ok (.aload_n 0, 1) := by decide +kernel
theorem dX12_ask_120 : decode cX12_ask 120 = .ok (.getfield 90, 3) := by decide +kernel
theorem dX12_ask_123 : decode cX12_ask 123 = .ok (.iload_n 3, 1) := by decide +kernel
theorem dX12_ask_124 : decode cX12_ask 124 = .ok (.iaload, 1) := by decide +kernel
theorem dX12_ask_125 : decode cX12_ask 125 = .ok (.goto 5, 3) := by decide +kernel
theorem dX12_ask_128 : decode cX12_ask 128 = .ok (.iload 4, 2) := by decide +kernel
theorem dX12_ask_130 : decode cX12_ask 130 = .ok (.ireturn, 1) := by decide +kernel
theorem dX12_back_0 : decode cX12_back 0 = .ok (.iload_n 1, 1) := by decide +kernel
theorem dX12_back_1 : decode cX12_back 1 = .ok (.i2l, 1) := by decide +kernel
theorem dX12_back_2 : decode cX12_back 2 = .ok (.lconst 0, 1) := by decide +kernel
theorem dX12_back_3 : decode cX12_back 3 = .ok (.lconst 1, 1) := by decide +kernel
theorem dX12_back_4 : decode cX12_back 4 = .ok (.invokestatic 175, 3) := by decide +kernel
theorem dX12_back_7 : decode cX12_back 7 = .ok (.ifCond .ne 5, 3) := by decide +kernel
theorem dX12_back_10 : decode cX12_back 10 = .ok (.iconst (-1), 1) := by decide +kernel
theorem dX12_back_11 : decode cX12_back 11 = .ok (.ireturn, 1) := by decide +kernel
theorem dX12_back_12 : decode cX12_back 12 = .ok (.aload_n 0, 1) := by decide +kernel
theorem dX12_back_13 : decode cX12_back 13 = .ok (.getfield 120, 3) := by decide +kernel
theorem dX12_back_16 : decode cX12_back 16 = .ok (.iload_n 1, 1) := by decide +kernel
theorem dX12_back_17 : decode cX12_back 17 = .ok (.baload, 1) := by decide +kernel
theorem dX12_back_18 : decode cX12_back 18 = .ok (.ifCond .ne 6, 3) := by decide +kernel
theorem dX12_back_21 : decode cX12_back 21 = .ok (.bipush (-3), 2) := by decide +kernel
theorem dX12_back_23 : decode cX12_back 23 = .ok (.ireturn, 1) := by decide +kernel
theorem dX12_back_24 : decode cX12_back 24 = .ok (.sipush 800, 3) := by decide +kernel
theorem dX12_back_27 : decode cX12_back 27 = .ok (.iload_n 1, 1) := by decide +kernel
theorem dX12_back_28 : decode cX12_back 28 = .ok (.imul, 1) := by decide +kernel
theorem dX12_back_29 : decode cX12_back 29 = .ok (.istore_n 2, 1) := by decide +kernel
theorem dX12_back_30 : decode cX12_back 30 = .ok (.aload_n 0, 1) := by decide +kernel
theorem dX12_back_31 : decode cX12_back 31 = .ok (.aload_n 0, 1) := by decide +kernel
theorem dX12_back_32 : decode cX12_back 32 = .ok (.getfield 123, 3) := by decide +kernel
theorem dX12_back_35 : decode cX12_back 35 = .ok (.iload_n 2, 1) := by decide +kernel
theorem dX12_back_36 : decode cX12_back 36 = .ok (.iaload, 1) := by decide +kernel
theorem dX12_back_37 : decode cX12_back 37 = .ok (.putfield 153, 3) := by decide +kernel
theorem dX12_back_40 : decode cX12_back 40 = .ok (.aload_n 0, 1) := by decide +kernel
theorem dX12_back_41 : decode cX12_back 41 = .ok (.aload_n 0, 1) := by decide +kernel
theorem dX12_back_42 : decode cX12_back 42 = .ok (.getfield 123, 3) := by decide +kernel
theorem dX12_back_45 : decode cX12_back 45 = .ok (.iload_n 2, 1) := by decide +kernel
theorem dX12_back_46 : decode cX12_back 46 = .ok (.iconst 1, 1) := by decide +kernel
theorem dX12_back_47 : decode cX12_back 47 = .ok (.iadd, 1) := by decide +kernel
theorem dX12_back_48 : decode cX12_back 48 = .ok (.iaload, 1) := by decide +kernel
theorem dX12_back_49 : decode cX12_back 49 = .ok (.putfield 157, 3) := by decide +kernel
theorem dX12_back_52 : decode cX12_back 52 = .ok (.aload_n 0, 1) := by decide +kernel
theorem dX12_back_53 : decode cX12_back 53 = .ok (.aload_n 0, 1) := by decide +kernel
theorem dX12_back_54 : decode cX12_back 54 = .ok (.getfield 123, 3) := by decide +kernel
theorem dX12_back_57 : decode cX12_back 57 = .ok (.iload_n 2, 1) := by decide +kernel
theorem dX12_back_58 : decode cX12_back 58 = .ok (.iconst 2, 1) := by decide +kernel
theorem dX12_back_59 : decode cX12_back 59 = .ok (.iadd, 1) := by decide +kernel
theorem dX12_back_60 : decode cX12_back 60 = .ok (.iaload, 1) := by decide +kernel
theorem dX12_back_61 : decode cX12_back 61 = .ok (.putfield 183, 3) := by decide +kernel
theorem dX12_back_64 : decode cX12_back 64 = .ok (.aload_n 0, 1) := by decide +kernel
theorem dX12_back_65 : decode cX12_back 65 = .ok (.aload_n 0, 1) := by decide +kernel
theorem dX12_back_66 : decode cX12_back 66 = .ok (.getfield 123, 3) := by decide +kernel
theorem dX12_back_69 : decode cX12_back 69 = .ok (.iload_n 2, 1) := by decide +kernel
theorem dX12_back_70 : decode cX12_back 70 = .ok (.iconst 3, 1) := by decide +kernel
theorem dX12_back_71 : decode cX12_back 71 = .ok (.iadd, 1) := by decide +kernel
theorem dX12_back_72 : decode cX12_back 72 = .ok (.iaload, 1) := by decide +kernel
theorem dX12_back_73 : decode cX12_back 73 = .ok (.putfield 186, 3) := by decide +kernel
theorem dX12_back_76 : decode cX12_back 76 = .ok (.aload_n 0, 1) := by decide +kernel
theorem dX12_back_77 : decode cX12_back 77 = .ok (.aload_n 0, 1) := by decide +kernel
theorem dX12_back_78 : decode cX12_back 78 = .ok (.getfield 123, 3) := by decide +kernel
theorem dX12_back_81 : decode cX12_back 81 = .ok (.iload_n 2, 1) := by decide +kernel
theorem dX12_back_82 : decode cX12_back 82 = .ok (.iconst 4, 1) := by decide +kernel
theorem dX12_back_83 : decode cX12_back 83 = .ok (.iadd, 1) := by decide +kernel
theorem dX12_back_84 : decode cX12_back 84 = .ok (.iaload, 1) := by decide +kernel
theorem dX12_back_85 : decode cX12_back 85 = .ok (.putfield 204, 3) := by decide +kernel
theorem dX12_back_88 : decode cX12_back 88 = .ok (.aload_n 0, 1) := by decide +kernel
theorem dX12_back_89 : decode cX12_back 89 = .ok (.aload_n 0, 1) := by decide +kernel
theorem dX12_back_90 : decode cX12_back 90 = .ok (.getfield 123, 3) := by decide +kernel
theorem dX12_back_93 : decode cX12_back 93 = .ok (.iload_n 2, 1) := by decide +kernel
theorem dX12_back_94 : decode cX12_back 94 = .ok (.iconst 5, 1) := by decide +kernel
theorem dX12_back_95 : decode cX12_back 95 = .ok (.iadd, 1) := by decide +kernel
theorem dX12_back_96 : decode cX12_back 96 = .ok (.iaload, 1) := by decide +kernel
theorem dX12_back_97 : decode cX12_back 97 = .ok (.iconst 1, 1) := by decide +kernel
theorem dX12_back_98 : decode cX12_back 98 = .ok (.if_icmp .ne 7, 3) := by decide +kernel
theorem dX12_back_101 : decode cX12_back 101 = .ok (.iconst 1, 1) := by decide +kernel
theorem dX12_back_102 : decode cX12_back 102 = .ok (.goto 4, 3) := by decide +kernel
theorem dX12_back_105 : decode cX12_back 105 = .ok (.iconst 0, 1) := by decide +kernel
theorem dX12_back_106 : decode cX12_back 106 = .ok (.putfield 207, 3) := by decide +kernel
theorem dX12_back_109 : decode cX12_back 109 = .ok (.iconst 0, 1) := by decide +kernel
theorem dX12_back_110 : decode cX12_back 110 = .ok (.istore_n 3, 1) := by decide +kernel
theorem dX12_back_111 : decode cX12_back 111 = .ok (.iload_n 3, 1) := by decide +kernel
theorem dX12_back_112 : decode cX12_back 112 = .ok (.bipush 64, 2) := by decide +kernel
theorem dX12_back_114 : decode cX12_back 114 = .ok (.if_icmp .ge 35, 3) := by decide +kernel
theorem dX12_back_117 : decode cX12_back 117 = .ok (.aload_n 0, 1) := by decide +kernel
theorem dX12_back_118 : decode cX12_back 118 = .ok (.getfield 7, 3) := by decide +kernel
theorem dX12_back_121 : decode cX12_back 121 = .ok (.iload_n 3, 1) := by decide +kernel
theorem dX12_back_122 : decode cX12_back 122 = .ok (.aload_n 0, 1) := by decide +kernel
theorem dX12_back_123 : decode cX12_back 123 = .ok (.getfield 123, 3) := by decide +kernel
theorem dX12_back_126 : decode cX12_back 126 = .ok (.iload_n 2, 1) := by decide +kernel
theorem dX12_back_127 : decode cX12_back 127 = .ok (.bipush 6, 2) := by decide +kernel
theorem dX12_back_129 : decode cX12_back 129 = .ok (.iadd, 1) := by decide +kernel
theorem dX12_back_130 : decode cX12_back 130 = .ok (.iload_n 3, 1) := by decide +kernel
theorem dX12_back_131 : decode cX12_back 131 = .ok (.iadd, 1) := by decide +kernel
theorem dX12_back_132 : decode cX12_back 132 = .ok (.iaload, 1) := by decide +kernel
theorem dX12_back_133 : decode cX12_back 133 = .ok (.iconst 1, 1) := by decide +kernel
theorem dX12_back_134 : decode cX12_back 134 = .ok (.if_icmp .ne 7, 3) := by decide +kernel
theorem dX12_back_137 : decode cX12_back 137 = .ok (.iconst 1, 1) := by decide +kernel
theorem dX12_back_138 : decode cX12_back 138 = .ok (.goto 4, 3) := by decide +kernel
theorem dX12_back_141 : decode cX12_back 141 = .ok (.iconst 0, 1) := by decide +kernel
theorem dX12_back_142 : decode cX12_back 142 = .ok (.bastore, 1) := by decide +kernel
theorem dX12_back_143 : decode cX12_back 143 = .ok (.iinc 3 1, 3) := by decide +kernel
theorem dX12_back_146 : decode cX12_back 146 = .ok (.goto (-35), 3) := by decide +kernel
theorem dX12_back_149 : decode cX12_back 149 = .ok (.iconst 0, 1) := by decide +kernel
theorem dX12_back_150 : decode cX12_back 150 = .ok (.istore_n 3, 1) := by decide +kernel
theorem dX12_back_151 : decode cX12_back 151 = .ok (.iload_n 3, 1) := by decide +kernel
theorem dX12_back_152 : decode cX12_back 152 = .ok (.bipush 24, 2) := by decide +kernel
theorem dX12_back_154 : decode cX12_back 154 = .ok (.if_icmp .ge 159, 3) := by decide +kernel
theorem dX12_back_157 : decode cX12_back 157 = .ok (.iload_n 2, 1) := by decide +kernel
theorem dX12_back_158 : decode cX12_back 158 = .ok (.bipush 70, 2) := by decide +kernel
theorem dX12_back_160 : decode cX12_back 160 = .ok (.iadd, 1) := by decide +kernel
theorem dX12_back_161 : decode cX12_back 161 = .ok (.bipush 10, 2) := by decide +kernel
theorem dX12_back_163 : decode cX12_back 163 = .ok (.iload_n 3, 1) := by decide +kernel
theorem dX12_back_164 : decode cX12_back 164 = .ok (.imul, 1) := by decide +kernel
theorem dX12_back_165 : decode cX12_back 165 = .ok (.iadd, 1) := by decide +kernel
theorem dX12_back_166 : decode cX12_back 166 = .ok (.istore 4, 2) := by decide +kernel
theorem dX12_back_168 : decode cX12_back 168 = .ok (.aload_n 0, 1) := by decide +kernel
theorem dX12_back_169 : decode cX12_back 169 = .ok (.getfield 13, 3) := by decide +kernel
theorem dX12_back_172 : decode cX12_back 172 = .ok (.iload_n 3, 1) := by decide +kernel
theorem dX12_back_173 : decode cX12_back 173 = .ok (.aload_n 0, 1) := by decide +kernel
theorem dX12_back_174 : decode cX12_back 174 = .ok (.getfield 123, 3) := by decide +kernel
theorem dX12_back_177 : decode cX12_back 177 = .ok (.iload 4, 2) := by decide +kernel
theorem dX12_back_179 : decode cX12_back 179 = .ok (.iaload, 1) := by decide +kernel
theorem dX12_back_180 : decode cX12_back 180 = .ok (.iastore, 1) := by decide +kernel
theorem dX12_back_181 : decode cX12_back 181 = .ok (.aload_n 0, 1) := by decide +kernel
theorem dX12_back_182 : decode cX12_back 182 = .ok (.getfield 17, 3) := by decide +kernel
theorem dX12_back_185 : decode cX12_back 185 = .ok (.iload_n 3, 1) := by decide +kernel
theorem dX12_back_186 : decode cX12_back 186 = .ok (.aload_n 0, 1) := by decide +kernel
theorem dX12_back_187 : decode cX12_back 187 = .ok (.getfield 123, 3) := by decide +kernel
theorem dX12_back_190 : decode cX12_back 190 = .ok (.iload 4, 2) := by decide +kernel
theorem dX12_back_192 : decode cX12_back 192 = .ok (.iconst 1, 1) := by decide +kernel
theorem dX12_back_193 : decode cX12_back 193 = .ok (.iadd, 1) := by decide +kernel
theorem dX12_back_194 : decode cX12_back 194 = .ok (.iaload, 1) := by decide +kernel
theorem dX12_back_195 : decode cX12_back 195 = .ok (.iastore, 1) := by decide +kernel
theorem dX12_back_196 : decode cX12_back 196 = .ok (.iconst 0, 1) := by decide +kernel
theorem dX12_back_197 : decode cX12_back 197 = .ok (.istore 5, 2) := by decide +kernel
theorem dX12_back_199 : decode cX12_back 199 = .ok (.iload 5, 2) := by decide +kernel
theorem dX12_back_201 : decode cX12_back 201 = .ok (.iconst 4, 1) := by decide +kernel
theorem dX12_back_202 : decode cX12_back 202 = .ok (.if_icmp .ge 32, 3) := by decide +kernel
theorem dX12_back_205 : decode cX12_back 205 = .ok (.aload_n 0, 1) := by decide +kernel
theorem dX12_back_206 : decode cX12_back 206 = .ok (.getfield 20, 3) := by decide +kernel
theorem dX12_back_209 : decode cX12_back 209 = .ok (.iconst 4, 1) := by decide +kernel
theorem dX12_back_210 : decode cX12_back 210 = .ok (.iload_n 3, 1) := by decide +kernel
theorem dX12_back_211 : decode cX12_back 211 = .ok (.imul, 1) := by decide +kernel
theorem dX12_back_212 : decode cX12_back 212 = .ok (.iload 5, 2) := by decide +kernel
theorem dX12_back_214 : decode cX12_back 214 = .ok (.iadd, 1) := by decide +kernel
theorem dX12_back_215 : decode cX12_back 215 = .ok (.aload_n 0, 1) := by decide +kernel
theorem dX12_back_216 : decode cX12_back 216 = .ok (.getfield 123, 3) := by decide +kernel
theorem dX12_back_219 : decode cX12_back 219 = .ok (.iload 4, 2) := by decide +kernel
theorem dX12_back_221 : decode cX12_back 221 = .ok (.iconst 2, 1) := by decide +kernel
theorem dX12_back_222 : decode cX12_back 222 = .ok (.iadd, 1) := by decide +kernel
theorem dX12_back_223 : decode cX12_back 223 = .ok (.iload 5, 2) := by decide +kernel
theorem dX12_back_225 : decode cX12_back 225 = .ok (.iadd, 1) := by decide +kernel
theorem dX12_back_226 : decode cX12_back 226 = .ok (.iaload, 1) := by decide +kernel
theorem dX12_back_227 : decode cX12_back 227 = .ok (.iastore, 1) := by decide +kernel
theorem dX12_back_228 : decode cX12_back 228 = .ok (.iinc 5 1, 3) := by decide +kernel
theorem dX12_back_231 : decode cX12_back 231 = .ok (.goto (-32), 3) := by decide +kernel
theorem dX12_back_234 : decode cX12_back 234 = .ok (.aload_n 0, 1) := by decide +kernel
theorem dX12_back_235 : decode cX12_back 235 = .ok (.getfield 23, 3) := by decide +kernel
theorem dX12_back_238 : decode cX12_back 238 = .ok (.iload_n 3, 1) := by decide +kernel
theorem dX12_back_239 : decode cX12_back 239 = .ok (.aload_n 0, 1) := by decide +kernel
theorem dX12_back_240 : decode cX12_back 240 = .ok (.getfield 123, 3) := by decide +kernel
theorem dX12_back_243 : decode cX12_back 243 = .ok (.iload 4, 2) := by decide +kernel
theorem dX12_back_245 : decode cX12_back 245 = .ok (.bipush 6, 2) := by decide +kernel
theorem dX12_back_247 : decode cX12_back 247 = .ok (.iadd, 1) := by decide +kernel
theorem dX12_back_248 : decode cX12_back 248 = .ok (.iaload, 1) := by decide +kernel
theorem dX12_back_249 : decode cX12_back 249 = .ok (.iconst 1, 1) := by decide +kernel
theorem dX12_back_250 : decode cX12_back 250 = .ok (.if_icmp .ne 7, 3) := by decide +kernel
theorem dX12_back_253 : decode cX12_back 253 = .ok (.iconst 1, 1) := by decide +kernel
theorem dX12_back_254 : decode cX12_back 254 = .ok (.goto 4, 3) := by decide +kernel
theorem dX12_back_257 : decode cX12_back 257 = .ok (.iconst 0, 1) := by decide +kernel
theorem dX12_back_258 : decode cX12_back 258 = .ok (.bastore, 1) := by decide +kernel
theorem dX12_back_259 : decode cX12_back 259 = .ok (.aload_n 0, 1) := by decide +kernel
theorem dX12_back_260 : decode cX12_back 260 = .ok (.getfield 26, 3) := by decide +kernel
theorem dX12_back_263 : decode cX12_back 263 = .ok (.iload_n 3, 1) := by decide +kernel
theorem dX12_back_264 : decode cX12_back 264 = .ok (.aload_n 0, 1) := by decide +kernel
theorem dX12_back_265 : decode cX12_back 265 = .ok (.getfield 123, 3) := by decide +kernel
theorem dX12_back_268 : decode cX12_back 268 = .ok (.iload 4, 2) := by decide +kernel
theorem dX12_back_270 : decode cX12_back 270 = .ok (.bipush 7, 2) := by decide +kernel
theorem dX12_back_272 : decode cX12_back 272 = .ok (.iadd, 1) := by decide +kernel
theorem dX12_back_273 : decode cX12_back 273 = .ok (.iaload, 1) := by decide +kernel
theorem dX12_back_274 : decode cX12_back 274 = .ok (.iastore, 1) := by decide +kernel
theorem dX12_back_275 : decode cX12_back 275 = .ok (.aload_n 0, 1) := by decide +kernel
theorem dX12_back_276 : decode cX12_back 276 = .ok (.getfield 29, 3) := by decide +kernel
theorem dX12_back_279 : decode cX12_back 279 = .ok (.iload_n 3, 1) := by decide +kernel
theorem dX12_back_280 : decode cX12_back 280 = .ok (.aload_n 0, 1) := by decide +kernel
theorem dX12_back_281 : decode cX12_back 281 = .ok (.getfield 123, 3) := by decide +kernel
theorem dX12_back_284 : decode cX12_back 284 = .ok (.iload 4, 2) := by decide +kernel
theorem dX12_back_286 : decode cX12_back 286 = .ok (.bipush 8, 2) := by decide +kernel
theorem dX12_back_288 : decode cX12_back 288 = .ok (.iadd, 1) := by decide +kernel
theorem dX12_back_289 : decode cX12_back 289 = .ok (.iaload, 1) := by decide +kernel
theorem dX12_back_290 : decode cX12_back 290 = .ok (.iastore, 1) := by decide +kernel
theorem dX12_back_291 : decode cX12_back 291 = .ok (.aload_n 0, 1) := by decide +kernel
theorem dX12_back_292 : decode cX12_back 292 = .ok (.getfield 32, 3) := by decide +kernel
theorem dX12_back_295 : decode cX12_back 295 = .ok (.iload_n 3, 1) := by decide +kernel
theorem dX12_back_296 : decode cX12_back 296 = .ok (.aload_n 0, 1) := by decide +kernel
theorem dX12_back_297 : decode cX12_back 297 = .ok (.getfield 123, 3) := by decide +kernel
theorem dX12_back_300 : decode cX12_back 300 = .ok (.iload 4, 2) := by decide +kernel
theorem dX12_back_302 : decode cX12_back 302 = .ok (.bipush 9, 2) := by decide +kernel
theorem dX12_back_304 : decode cX12_back 304 = .ok (.iadd, 1) := by decide +kernel
theorem dX12_back_305 : decode cX12_back 305 = .ok (.iaload, 1) := by decide +kernel
theorem dX12_back_306 : decode cX12_back 306 = .ok (.iastore, 1) := by decide +kernel
theorem dX12_back_307 : decode cX12_back 307 = .ok (.iinc 3 1, 3) := by decide +kernel
theorem dX12_back_310 : decode cX12_back 310 = .ok (.goto (-159), 3) := by decide +kernel
theorem dX12_back_313 : decode cX12_back 313 = .ok (.iconst 0, 1) := by decide +kernel
theorem dX12_back_314 : decode cX12_back 314 = .ok (.istore_n 3, 1) := by decide +kernel
theorem dX12_back_315 : decode cX12_back 315 = .ok (.iload_n 3, 1) := by decide +kernel
theorem dX12_back_316 : decode cX12_back 316 = .ok (.bipush 60, 2) := by decide +kernel
theorem dX12_back_318 : decode cX12_back 318 = .ok (.if_icmp .ge 118, 3) := by decide +kernel
theorem dX12_back_321 : decode cX12_back 321 = .ok (.iload_n 2, 1) := by decide +kernel
theorem dX12_back_322 : decode cX12_back 322 = .ok (.sipush 310, 3) := by decide +kernel
theorem dX12_back_325 : decode cX12_back 325 = .ok (.iadd, 1) := by decide +kernel
theorem dX12_back_326 : decode cX12_back 326 = .ok (.bipush 6, 2) := by decide +kernel
theorem dX12_back_328 : decode cX12_back 328 = .ok (.iload_n 3, 1) := by decide +kernel
theorem dX12_back_329 : decode cX12_back 329 = .ok (.imul, 1) := by decide +kernel
theorem dX12_back_330 : decode cX12_back 330 = .ok (.iadd, 1) := by decide +kernel
theorem dX12_back_331 : decode cX12_back 331 = .ok (.istore 4, 2) := by decide +kernel
theorem dX12_back_333 : decode cX12_back 333 = .ok (.aload_n 0, 1) := by decide +kernel
theorem dX12_back_334 : decode cX12_back 334 = .ok (.getfield 35, 3) := by decide +kernel
theorem dX12_back_337 : decode cX12_back 337 = .ok (.iload_n 3, 1) := by decide +kernel
theorem dX12_back_338 : decode cX12_back 338 = .ok (.aload_n 0, 1) := by decide +kernel
theorem dX12_back_339 : decode cX12_back 339 = .ok (.getfield 123, 3) := by decide +kernel
theorem dX12_back_342 : decode cX12_back 342 = .ok (.iload 4, 2) := by decide +kernel
theorem dX12_back_344 : decode cX12_back 344 = .ok (.iaload, 1) := by decide +kernel
theorem dX12_back_345 : decode cX12_back 345 = .ok (.iastore, 1) := by decide +kernel
theorem dX12_back_346 : decode cX12_back 346 = .ok (.aload_n 0, 1) := by decide +kernel
theorem dX12_back_347 : decode cX12_back 347 = .ok (.getfield 38, 3) := by decide +kernel
theorem dX12_back_350 : decode cX12_back 350 = .ok (.iload_n 3, 1) := by decide +kernel
theorem dX12_back_351 : decode cX12_back 351 = .ok (.aload_n 0, 1) := by decide +kernel
theorem dX12_back_352 : decode cX12_back 352 = .ok (.getfield 123, 3) := by decide +kernel
theorem dX12_back_355 : decode cX12_back 355 = .ok (.iload 4, 2) := by decide +kernel
theorem dX12_back_357 : decode cX12_back 357 = .ok (.iconst 1, 1) := by decide +kernel
theorem dX12_back_358 : decode cX12_back 358 = .ok (.iadd, 1) := by decide +kernel
theorem dX12_back_359 : decode cX12_back 359 = .ok (.iaload, 1) := by decide +kernel
theorem dX12_back_360 : decode cX12_back 360 = .ok (.iastore, 1) := by decide +kernel
theorem dX12_back_361 : decode cX12_back 361 = .ok (.aload_n 0, 1) := by decide +kernel
theorem dX12_back_362 : decode cX12_back 362 = .ok (.getfield 41, 3) := by decide +kernel
theorem dX12_back_365 : decode cX12_back 365 = .ok (.iload_n 3, 1) := by decide +kernel
theorem dX12_back_366 : decode cX12_back 366 = .ok (.aload_n 0, 1) := by decide +kernel
theorem dX12_back_367 : decode cX12_back 367 = .ok (.getfield 123, 3) := by decide +kernel
theorem dX12_back_370 : decode cX12_back 370 = .ok (.iload 4, 2) := by decide +kernel
theorem dX12_back_372 : decode cX12_back 372 = .ok (.iconst 2, 1) := by decide +kernel
theorem dX12_back_373 : decode cX12_back 373 = .ok (.iadd, 1) := by decide +kernel
theorem dX12_back_374 : decode cX12_back 374 = .ok (.iaload, 1) := by decide +kernel
theorem dX12_back_375 : decode cX12_back 375 = .ok (.iastore, 1) := by decide +kernel
theorem dX12_back_376 : decode cX12_back 376 = .ok (.aload_n 0, 1) := by decide +kernel
theorem dX12_back_377 : decode cX12_back 377 = .ok (.getfield 44, 3) := by decide +kernel
theorem dX12_back_380 : decode cX12_back 380 = .ok (.iload_n 3, 1) := by decide +kernel
theorem dX12_back_381 : decode cX12_back 381 = .ok (.aload_n 0, 1) := by decide +kernel
theorem dX12_back_382 : decode cX12_back 382 = .ok (.getfield 123, 3) := by decide +kernel
theorem dX12_back_385 : decode cX12_back 385 = .ok (.iload 4, 2) := by decide +kernel
theorem dX12_back_387 : decode cX12_back 387 = .ok (.iconst 3, 1) := by decide +kernel
theorem dX12_back_388 : decode cX12_back 388 = .ok (.iadd, 1) := by decide +kernel
theorem dX12_back_389 : decode cX12_back 389 = .ok (.iaload, 1) := by decide +kernel
theorem dX12_back_390 : decode cX12_back 390 = .ok (.iastore, 1) := by decide +kernel
theorem dX12_back_391 : decode cX12_back 391 = .ok (.aload_n 0, 1) := by decide +kernel
theorem dX12_back_392 : decode cX12_back 392 = .ok (.getfield 47, 3) := by decide +kernel
theorem dX12_back_395 : decode cX12_back 395 = .ok (.iload_n 3, 1) := by decide +kernel
theorem dX12_back_396 : decode cX12_back 396 = .ok (.aload_n 0, 1) := by decide +kernel
theorem dX12_back_397 : decode cX12_back 397 = .ok (.getfield 123, 3) := by decide +kernel
theorem dX12_back_400 : decode cX12_back 400 = .ok (.iload 4, 2) := by decide +kernel
theorem dX12_back_402 : decode cX12_back 402 = .ok (.iconst 4, 1) := by decide +kernel
theorem dX12_back_403 : decode cX12_back 403 = .ok (.iadd, 1) := by decide +kernel
theorem dX12_back_404 : decode cX12_back 404 = .ok (.iaload, 1) := by decide +kernel
theorem dX12_back_405 : decode cX12_back 405 = .ok (.iastore, 1) := by decide +kernel
theorem dX12_back_406 : decode cX12_back 406 = .ok (.aload_n 0, 1) := by decide +kernel
theorem dX12_back_407 : decode cX12_back 407 = .ok (.getfield 50, 3) := by decide +kernel
theorem dX12_back_410 : decode cX12_back 410 = .ok (.iload_n 3, 1) := by decide +kernel
theorem dX12_back_411 : decode cX12_back 411 = .ok (.aload_n 0, 1) := by decide +kernel
theorem dX12_back_412 : decode cX12_back 412 = .ok (.getfield 123, 3) := by decide +kernel
theorem dX12_back_415 : decode cX12_back 415 = .ok (.iload 4, 2) := by decide +kernel
theorem dX12_back_417 : decode cX12_back 417 = .ok (.iconst 5, 1) := by decide +kernel
theorem dX12_back_418 : decode cX12_back 418 = .ok (.iadd, 1) := by decide +kernel
theorem dX12_back_419 : decode cX12_back 419 = .ok (.iaload, 1) := by decide +kernel
theorem dX12_back_420 : decode cX12_back 420 = .ok (.iconst 1, 1) := by decide +kernel
theorem dX12_back_421 : decode cX12_back 421 = .ok (.if_icmp .ne 7, 3) := by decide +kernel
theorem dX12_back_424 : decode cX12_back 424 = .ok (.iconst 1, 1) := by decide +kernel
theorem dX12_back_425 : decode cX12_back 425 = .ok (.goto 4, 3) := by decide +kernel
theorem dX12_back_428 : decode cX12_back 428 = .ok (.iconst 0, 1) := by decide +kernel
theorem dX12_back_429 : decode cX12_back 429 = .ok (.bastore, 1) := by decide +kernel
theorem dX12_back_430 : decode cX12_back 430 = .ok (.iinc 3 1, 3) := by decide +kernel
theorem dX12_back_433 : decode cX12_back 433 = .ok (.goto (-118), 3) := by decide +kernel
theorem dX12_back_436 : decode cX12_back 436 = .ok (.iconst 0, 1) := by decide +kernel
theorem dX12_back_437 : decode cX12_back 437 = .ok (.istore_n 3, 1) := by decide +kernel
theorem dX12_back_438 : decode cX12_back 438 = .ok (.iload_n 3, 1) := by decide +kernel
theorem dX12_back_439 : decode cX12_back 439 = .ok (.iconst 3, 1) := by decide +kernel
theorem dX12_back_440 : decode cX12_back 440 = .ok (.if_icmp .ge 69, 3) := by decide +kernel
theorem dX12_back_443 : decode cX12_back 443 = .ok (.aload_n 0, 1) := by decide +kernel
theorem dX12_back_444 : decode cX12_back 444 = .ok (.getfield 53, 3) := by decide +kernel
theorem dX12_back_447 : decode cX12_back 447 = .ok (.iload_n 3, 1) := by decide +kernel
theorem dX12_back_448 : decode cX12_back 448 = .ok (.aload_n 0, 1) := by decide +kernel
theorem dX12_back_449 : decode cX12_back 449 = .ok (.getfield 123, 3) := by decide +kernel
theorem dX12_back_452 : decode cX12_back 452 = .ok (.iload_n 2, 1) := by decide +kernel
theorem dX12_back_453 : decode cX12_back 453 = .ok (.sipush 670, 3) := by decide +kernel
theorem dX12_back_456 : decode cX12_back 456 = .ok (.iadd, 1) := by decide +kernel
theorem dX12_back_457 : decode cX12_back 457 = .ok (.iconst 3, 1) := by decide +kernel
theorem dX12_back_458 : decode cX12_back 458 = .ok (.iload_n 3, 1) := by decide +kernel
theorem dX12_back_459 : decode cX12_back 459 = .ok (.imul, 1) := by decide +kernel
theorem dX12_back_460 : decode cX12_back 460 = .ok (.iadd, 1) := by decide +kernel
theorem dX12_back_461 : decode cX12_back 461 = .ok (.iaload, 1) := by decide +kernel
theorem dX12_back_462 : decode cX12_back 462 = .ok (.iastore, 1) := by decide +kernel
theorem dX12_back_463 : decode cX12_back 463 = .ok (.aload_n 0, 1) := by decide +kernel
theorem dX12_back_464 : decode cX12_back 464 = .ok (.getfield 56, 3) := by decide +kernel
theorem dX12_back_467 : decode cX12_back 467 = .ok (.iload_n 3, 1) := by decide +kernel
theorem dX12_back_468 : decode cX12_back 468 = .ok (.aload_n 0, 1) := by decide +kernel
theorem dX12_back_469 : decode cX12_back 469 = .ok (.getfield 123, 3) := by decide +kernel
theorem dX12_back_472 : decode cX12_back 472 = .ok (.iload_n 2, 1) := by decide +kernel
theorem dX12_back_473 : decode cX12_back 473 = .ok (.sipush 671, 3) := by decide +kernel
theorem dX12_back_476 : decode cX12_back 476 = .ok (.iadd, 1) := by decide +kernel
theorem dX12_back_477 : decode cX12_back 477 = .ok (.iconst 3, 1) := by decide +kernel
theorem dX12_back_478 : decode cX12_back 478 = .ok (.iload_n 3, 1) := by decide +kernel
theorem dX12_back_479 : decode cX12_back 479 = .ok (.imul, 1) := by decide +kernel
theorem dX12_back_480 : decode cX12_back 480 = .ok (.iadd, 1) := by decide +kernel
theorem dX12_back_481 : decode cX12_back 481 = .ok (.iaload, 1) := by decide +kernel
theorem dX12_back_482 : decode cX12_back 482 = .ok (.iastore, 1) := by decide +kernel
theorem dX12_back_483 : decode cX12_back 483 = .ok (.aload_n 0, 1) := by decide +kernel
theorem dX12_back_484 : decode cX12_back 484 = .ok (.getfield 59, 3) := by decide +kernel
theorem dX12_back_487 : decode cX12_back 487 = .ok (.iload_n 3, 1) := by decide +kernel
theorem dX12_back_488 : decode cX12_back 488 = .ok (.aload_n 0, 1) := by decide +kernel
theorem dX12_back_489 : decode cX12_back 489 = .ok (.getfield 123, 3) := by decide +kernel
theorem dX12_back_492 : decode cX12_back 492 = .ok (.iload_n 2, 1) := by decide +kernel
theorem dX12_back_493 : decode cX12_back 493 = .ok (.sipush 672, 3) := by decide +kernel
theorem dX12_back_496 : decode cX12_back 496 = .ok (.iadd, 1) := by decide +kernel
theorem dX12_back_497 : decode cX12_back 497 = .ok (.iconst 3, 1) := by decide +kernel
theorem dX12_back_498 : decode cX12_back 498 = .ok (.iload_n 3, 1) := by decide +kernel
theorem dX12_back_499 : decode cX12_back 499 = .ok (.imul, 1) := by decide +kernel
theorem dX12_back_500 : decode cX12_back 500 = .ok (.iadd, 1) := by decide +kernel
theorem dX12_back_501 : decode cX12_back 501 = .ok (.iaload, 1) := by decide +kernel
theorem dX12_back_502 : decode cX12_back 502 = .ok (.iastore, 1) := by decide +kernel
theorem dX12_back_503 : decode cX12_back 503 = .ok (.iinc 3 1, 3) := by decide +kernel
theorem dX12_back_506 : decode cX12_back 506 = .ok (.goto (-68), 3) := by decide +kernel
theorem dX12_back_509 : decode cX12_back 509 = .ok (.aload_n 0, 1) := by decide +kernel
theorem dX12_back_510 : decode cX12_back 510 = .ok (.invokevirtual 210, 3) := by decide +kernel
theorem dX12_back_513 : decode cX12_back 513 = .ok (.iconst 1, 1) := by decide +kernel
theorem dX12_back_514 : decode cX12_back 514 = .ok (.ireturn, 1) := by decide +kernel
theorem dX12_between_0 : decode cX12_between 0 = .ok (.aload_n 0, 1) := by decide +kernel
theorem dX12_between_1 : decode cX12_between 1 = .ok (.iload_n 1, 1) := by decide +kernel
theorem dX12_between_2 : decode cX12_between 2 = .ok (.invokevirtual 245, 3) := by decide +kernel
theorem dX12_between_5 : decode cX12_between 5 = .ok (.ifCond .eq 5, 3) := by decide +kernel
theorem dX12_between_8 : decode cX12_between 8 = .ok (.iconst (-1), 1) := by decide +kernel
theorem dX12_between_9 : decode cX12_between 9 = .ok (.ireturn, 1) := by decide +kernel
theorem dX12_between_10 : decode cX12_between 10 = .ok (.iload_n 2, 1) := by decide +kernel
theorem dX12_between_11 : decode cX12_between 11 = .ok (.i2l, 1) := by decide +kernel
theorem dX12_between_12 : decode cX12_between 12 = .ok (.lconst 0, 1) := by decide +kernel
theorem dX12_between_13 : decode cX12_between 13 = .ok (.ldc2_w 239, 3) := by decide +kernel
theorem dX12_between_16 : decode cX12_between 16 = .ok (.invokestatic 175, 3) := by decide +kernel
theorem dX12_between_19 : decode cX12_between 19 = .ok (.ifCond .ne 6, 3) := by decide +kernel
theorem dX12_between_22 : decode cX12_between 22 = .ok (.bipush (-2), 2) := by decide +kernel
theorem dX12_between_24 : decode cX12_between 24 = .ok (.ireturn, 1) := by decide +kernel
theorem dX12_between_25 : decode cX12_between 25 = .ok (.aload_n 0, 1) := by decide +kernel
theorem dX12_between_26 : decode cX12_between 26 = .ok (.iload_n 1, 1) := by decide +kernel
theorem dX12_between_27 : decode cX12_between 27 = .ok (.iconst (-1), 1) := by decide +kernel
theorem dX12_between_28 : decode cX12_between 28 = .ok (.invokevirtual 378, 3) := by decide +kernel
theorem dX12_between_31 : decode cX12_between 31 = .ok (.ifCond .ne 6, 3) := by decide +kernel
theorem dX12_between_34 : decode cX12_between 34 = .ok (.bipush (-6), 2) := by decide +kernel
theorem dX12_between_36 : decode cX12_between 36 = .ok (.ireturn, 1) := by decide +kernel
theorem dX12_between_37 : decode cX12_between 37 = .ok (.aload_n 0, 1) := by decide +kernel
theorem dX12_between_38 : decode cX12_between 38 = .ok (.getfield 335, 3) := by decide +kernel
theorem dX12_between_41 : decode cX12_between 41 = .ok (.iconst 1, 1) := by decide +kernel
theorem dX12_between_42 : decode cX12_between 42 = .ok (.if_icmp .ne 6, 3) := by decide +kernel
theorem dX12_between_45 : decode cX12_between 45 = .ok (.bipush (-9), 2) := by decide +kernel
theorem dX12_between_47 : decode cX12_between 47 = .ok (.ireturn, 1) := by decide +kernel
theorem dX12_between_48 : decode cX12_between 48 = .ok (.iconst (-1), 1) := by decide +kernel
theorem dX12_between_49 : decode cX12_between 49 = .ok (.istore_n 3, 1) := by decide +kernel
theorem dX12_between_50 : decode cX12_between 50 = .ok (.iconst 0, 1) := by decide +kernel
theorem dX12_between_51 : decode cX12_between 51 = .ok (.istore 4, 2) := by decide +kernel
theorem dX12_between_53 : decode cX12_between 53 = .ok (.iconst 0, 1) := by decide +kernel
theorem dX12_between_54 : decode cX12_between 54 = .ok (.istore 5, 2) := by decide +kernel
theorem dX12_between_56 : decode cX12_between 56 = .ok (.iload 5, 2) := by decide +kernel
theorem dX12_between_58 : decode cX12_between 58 = .ok (.aload_n 0, 1) := by decide +kernel
theorem dX12_between_59 : decode cX12_between 59 = .ok (.getfield 335, 3) := by decide +kernel
theorem dX12_between_62 : decode cX12_between 62 = .ok (.if_icmp .ge 99, 3) := by decide +kernel
theorem dX12_between_65 : decode cX12_between 65 = .ok (.iload 5, 2) := by decide +kernel
theorem dX12_between_67 : decode cX12_between 67 = .ok (.iconst 1, 1) := by decide +kernel
theorem dX12_between_68 : decode cX12_between 68 = .ok (.iadd, 1) := by decide +kernel
theorem dX12_between_69 : decode cX12_between 69 = .ok (.istore 6, 2) := by decide +kernel
theorem dX12_between_71 : decode cX12_between 71 = .ok (.iload 6, 2) := by decide +kernel
theorem dX12_between_73 : decode cX12_between 73 = .ok (.aload_n 0, 1) := by decide +kernel
theorem dX12_between_74 : decode cX12_between 74 = .ok (.getfield 335, 3) := by decide +kernel
theorem dX12_between_77 : decode cX12_between 77 = .ok (.if_icmp .ge 78, 3) := by decide +kernel
theorem dX12_between_80 : decode cX12_between 80 = .ok (.iconst 0, 1) := by decide +kernel
theorem dX12_between_81 : decode cX12_between 81 = .ok (.istore 7, 2) := by decide +kernel
theorem dX12_between_83 : decode cX12_between 83 = .ok (.iconst 0, 1) := by decide +kernel
theorem dX12_between_84 : decode cX12_between 84 = .ok (.istore 8, 2) := by decide +kernel
theorem dX12_between_86 : decode cX12_between 86 = .ok (.iload 8, 2) := by decide +kernel
theorem dX12_between_88 : decode cX12_between 88 = .ok (.bipush 99, 2) := by decide +kernel
theorem dX12_between_90 : decode cX12_between 90 = .ok (.if_icmp .ge 35, 3) := by decide +kernel
theorem dX12_between_93 : decode cX12_between 93 = .ok (.iload 7, 2) := by decide +kernel
theorem dX12_between_95 : decode cX12_between 95 = .ok (.aload_n 0, 1) := by decide +kernel
theorem dX12_between_96 : decode cX12_between 96 = .ok (.getfield 102, 3) := by decide +kernel
theorem dX12_between_99 : decode cX12_between 99 = .ok (.bipush 99, 2) := by decide +kernel
theorem dX12_between_101 : decode cX12_between 101 = .ok (.bipush 9, 2) := by decide +kernel
theorem dX12_between_103 : decode cX12_between 103 = .ok (.iload 5, 2) := by decide +kernel
theorem dX12_between_105 : decode cX12_between 105 = .ok (.imul, 1) := by decide +kernel
theorem dX12_between_106 : decode cX12_between 106 = .ok (.iload 6, 2) := by decide +kernel
theorem dX12_between_108 : decode cX12_between 108 = .ok (.iadd, 1) := by decide +kernel
theorem dX12_between_109 : decode cX12_between 109 = .ok (.imul, 1) := by decide +kernel
theorem dX12_between_110 : decode cX12_between 110 = .ok (.iload 8, 2) := by decide +kernel
theorem dX12_between_112 : decode cX12_between 112 = .ok (.iadd, 1) := by decide +kernel
theorem dX12_between_113 : decode cX12_between 113 = .ok (.iaload, 1) := by decide +kernel
theorem dX12_between_114 : decode cX12_between 114 = .ok (.invokestatic 391, 3) := by decide +kernel
theorem dX12_between_117 : decode cX12_between 117 = .ok (.istore 7, 2) := by decide +kernel
theorem dX12_between_119 : decode cX12_between 119 = .ok (.iinc 8 1, 3) := by decide +kernel
theorem dX12_between_122 : decode cX12_between 122 = .ok (.goto (-36), 3) := by decide +kernel
theorem dX12_between_125 : decode cX12_between 125 = .ok (.iload_n 3, 1) := by decide +kernel
theorem dX12_between_126 : decode cX12_between 126 = .ok (.ifCond .lt 10, 3) := by decide +kernel
theorem dX12_between_129 : decode cX12_between 129 = .ok (.iload 7, 2) := by decide +kernel
theorem dX12_between_131 : decode cX12_between 131 = .ok (.iload 4, 2) := by decide +kernel
theorem dX12_between_133 : decode cX12_between 133 = .ok (.if_icmp .ge 16, 3) := by decide +kernel
theorem dX12_between_136 : decode cX12_between 136 = .ok (.bipush 9, 2) := by decide +kernel
theorem dX12_between_138 : decode cX12_between 138 = .ok (.iload 5, 2) := by decide +kernel
theorem dX12_between_140 : decode cX12_between 140 = .ok (.imul, 1) := by decide +kernel
theorem dX12_between_141 : decode cX12_between 141 = .ok (.iload 6, 2) := by decide +kernel
theorem dX12_between_143 : decode cX12_between 143 = .ok (.iadd, 1) := by decide +kernel
theorem dX12_between_144 : decode cX12_between 144 = .ok (.istore_n 3, 1) := by decide +kernel
theorem dX12_between_145 : decode cX12_between 145 = .ok (.iload 7, 2) := by decide +kernel
theorem dX12_between_147 : decode cX12_between 147 = .ok (.istore 4, 2) := by decide +kernel
theorem dX12_between_149 : decode cX12_between 149 = .ok (.iinc 6 1, 3) := by decide +kernel
theorem dX12_between_152 : decode cX12_between 152 = .ok (.goto (-81), 3) := by decide +kernel
theorem dX12_between_155 : decode cX12_between 155 = .ok (.iinc 5 1, 3) := by decide +kernel
theorem dX12_between_158 : decode cX12_between 158 = .ok (.goto (-102), 3) := by decide +kernel
theorem dX12_between_161 : decode cX12_between 161 = .ok (.iload_n 2, 1) := by decide +kernel
theorem dX12_between_162 : decode cX12_between 162 = .ok (.ifCond .ne 15, 3) := by decide +kernel
theorem dX12_between_165 : decode cX12_between 165 = .ok (.aload_n 0, 1) := by decide +kernel
theorem dX12_between_166 : decode cX12_between 166 = .ok (.getfield 90, 3) := by decide +kernel
theorem dX12_between_169 : decode cX12_between 169 = .ok (.iload_n 3, 1) := by decide +kernel
theorem dX12_between_170 : decode cX12_between 170 = .ok (.bipush 9, 2) := by decide +kernel
theorem dX12_between_172 : decode cX12_between 172 = .ok (.idiv, 1) := by decide +kernel
theorem dX12_between_173 : decode cX12_between 173 = .ok (.iaload, 1) := by decide +kernel
theorem dX12_between_174 : decode cX12_between 174 = .ok (.goto 22, 3) := by decide +kernel
theorem dX12_between_177 : decode cX12_between 177 = .ok (.iload_n 2, 1) := by decide +kernel
theorem dX12_between_178 : decode cX12_between 178 = .ok (.iconst 1, 1) := by decide +kernel
theorem dX12_between_179 : decode cX12_between 179 = .ok (.if_icmp .ne 15, 3) := by decide +kernel
theorem dX12_between_182 : decode cX12_between 182 = .ok (.aload_n 0, 1) := by decide +kernel
theorem dX12_between_183 : decode cX12_between 183 = .ok (.getfield 90, 3) := by decide +kernel
theorem dX12_between_186 : decode cX12_between 186 = .ok (.iload_n 3, 1) := by decide +kernel
theorem dX12_between_187 : decode cX12_between 187 = .ok (.bipush 9, 2) := by decide +kernel
theorem dX12_between_189 : decode cX12_between 189 = .ok (.irem, 1) := by decide +kernel
theorem dX12_between_190 : decode cX12_between 190 = .ok (.iaload, 1) := by decide +kernel
theorem dX12_between_191 : decode cX12_between 191 = .ok (.goto 5, 3) := by decide +kernel
theorem dX12_between_194 : decode cX12_between 194 = .ok (.iload 4, 2) := by decide +kernel
theorem dX12_between_196 : decode cX12_between 196 = .ok (.ireturn, 1) := by decide +kernel
theorem dX12_box_0 : decode cX12_box 0 = .ok (.aload_n 0, 1) := by decide +kernel
theorem dX12_box_1 : decode cX12_box 1 = .ok (.iload_n 1, 1) := by decide +kernel
theorem dX12_box_2 : decode cX12_box 2 = .ok (.invokevirtual 245, 3) := by decide +kernel
theorem dX12_box_5 : decode cX12_box 5 = .ok (.ifCond .eq 5, 3) := by decide +kernel
theorem dX12_box_8 : decode cX12_box 8 = .ok (.iconst (-1), 1) := by decide +kernel
theorem dX12_box_9 : decode cX12_box 9 = .ok (.ireturn, 1) := by decide +kernel
theorem dX12_box_10 : decode cX12_box 10 = .ok (.aload_n 0, 1) := by decide +kernel
theorem dX12_box_11 : decode cX12_box 11 = .ok (.getfield 13, 3) := by decide +kernel
theorem dX12_box_14 : decode cX12_box 14 = .ok (.iload_n 1, 1) := by decide +kernel
theorem dX12_box_15 : decode cX12_box 15 = .ok (.iaload, 1) := by decide +kernel
theorem dX12_box_16 : decode cX12_box 16 = .ok (.ifCond .le 6, 3) := by decide +kernel
theorem dX12_box_19 : decode cX12_box 19 = .ok (.bipush (-3), 2) := by decide +kernel
theorem dX12_box_21 : decode cX12_box 21 = .ok (.ireturn, 1) := by decide +kernel
theorem dX12_box_22 : decode cX12_box 22 = .ok (.iload_n 2, 1) := by decide +kernel
theorem dX12_box_23 : decode cX12_box 23 = .ok (.i2l, 1) := by decide +kernel
theorem dX12_box_24 : decode cX12_box 24 = .ok (.lconst 0, 1) := by decide +kernel
theorem dX12_box_25 : decode cX12_box 25 = .ok (.ldc2_w 248, 3) := by decide +kernel
theorem dX12_box_28 : decode cX12_box 28 = .ok (.invokestatic 175, 3) := by decide +kernel
theorem dX12_box_31 : decode cX12_box 31 = .ok (.ifCond .eq 43, 3) := by decide +kernel
theorem dX12_box_34 : decode cX12_box 34 = .ok (.iload_n 3, 1) := by decide +kernel
theorem dX12_box_35 : decode cX12_box 35 = .ok (.i2l, 1) := by decide +kernel
theorem dX12_box_36 : decode cX12_box 36 = .ok (.lconst 0, 1) := by decide +kernel
theorem dX12_box_37 : decode cX12_box 37 = .ok (.ldc2_w 248, 3) := by decide +kernel
theorem dX12_box_40 : decode cX12_box 40 = .ok (.invokestatic 175, 3) := by decide +kernel
theorem dX12_box_43 : decode cX12_box 43 = .ok (.ifCond .eq 31, 3) := by decide +kernel
theorem dX12_box_46 : decode cX12_box 46 = .ok (.iload 4, 2) := by decide +kernel
theorem dX12_box_48 : decode cX12_box 48 = .ok (.i2l, 1) := by decide +kernel
theorem dX12_box_49 : decode cX12_box 49 = .ok (.iload_n 2, 1) := by decide +kernel
theorem dX12_box_50 : decode cX12_box 50 = .ok (.i2l, 1) := by decide +kernel
theorem dX12_box_51 : decode cX12_box 51 = .ok (.ldc2_w 248, 3) := by decide +kernel
theorem dX12_box_54 : decode cX12_box 54 = .ok (.invokestatic 175, 3) := by decide +kernel
theorem dX12_box_57 : decode cX12_box 57 = .ok (.ifCond .eq 17, 3) := by decide +kernel
theorem dX12_box_60 : decode cX12_box 60 = .ok (.iload 5, 2) := by decide +kernel
theorem dX12_box_62 : decode cX12_box 62 = .ok (.i2l, 1) := by decide +kernel
theorem dX12_box_63 : decode cX12_box 63 = .ok (.iload_n 3, 1) := by decide +kernel
theorem dX12_box_64 : decode cX12_box 64 = .ok (.i2l, 1) := by decide +kernel
theorem dX12_box_65 : decode cX12_box 65 = .ok (.ldc2_w 248, 3) := by decide +kernel
theorem dX12_box_68 : decode cX12_box 68 = .ok (.invokestatic 175, 3) := by decide +kernel
theorem dX12_box_71 : decode cX12_box 71 = .ok (.ifCond .ne 6, 3) := by decide +kernel
theorem dX12_box_74 : decode cX12_box 74 = .ok (.bipush (-2), 2) := by decide +kernel
theorem dX12_box_76 : decode cX12_box 76 = .ok (.ireturn, 1) := by decide +kernel
theorem dX12_box_77 : decode cX12_box 77 = .ok (.aload_n 0, 1) := by decide +kernel
theorem dX12_box_78 : decode cX12_box 78 = .ok (.getfield 20, 3) := by decide +kernel
theorem dX12_box_81 : decode cX12_box 81 = .ok (.iconst 4, 1) := by decide +kernel
theorem dX12_box_82 : decode cX12_box 82 = .ok (.iload_n 1, 1) := by decide +kernel
theorem dX12_box_83 : decode cX12_box 83 = .ok (.imul, 1) := by decide +kernel
theorem dX12_box_84 : decode cX12_box 84 = .ok (.iload_n 2, 1) := by decide +kernel
theorem dX12_box_85 : decode cX12_box 85 = .ok (.iastore, 1) := by decide +kernel
theorem dX12_box_86 : decode cX12_box 86 = .ok (.aload_n 0, 1) := by decide +kernel
theorem dX12_box_87 : decode cX12_box 87 = .ok (.getfield 20, 3) := by decide +kernel
theorem dX12_box_90 : decode cX12_box 90 = .ok (.iconst 4, 1) := by decide +kernel
theorem dX12_box_91 : decode cX12_box 91 = .ok (.iload_n 1, 1) := by decide +kernel
theorem dX12_box_92 : decode cX12_box 92 = .ok (.imul, 1) := by decide +kernel
theorem dX12_box_93 : decode cX12_box 93 = .ok (.iconst 1, 1) := by decide +kernel
theorem dX12_box_94 : decode cX12_box 94 = .ok (.iadd, 1) := by decide +kernel
theorem dX12_box_95 : decode cX12_box 95 = .ok (.iload_n 3, 1) := by decide +kernel
theorem dX12_box_96 : decode cX12_box 96 = .ok (.iastore, 1) := by decide +kernel
theorem dX12_box_97 : decode cX12_box 97 = .ok (.aload_n 0, 1) := by decide +kernel
theorem dX12_box_98 : decode cX12_box 98 = .ok (.getfield 20, 3) := by decide +kernel
theorem dX12_box_101 : decode cX12_box 101 = .ok (.iconst 4, 1) := by decide +kernel
theorem dX12_box_102 : decode cX12_box 102 = .ok (.iload_n 1, 1) := by decide +kernel
theorem dX12_box_103 : decode cX12_box 103 = .ok (.imul, 1) := by decide +kernel
theorem dX12_box_104 : decode cX12_box 104 = .ok (.iconst 2, 1) := by decide +kernel
theorem dX12_box_105 : decode cX12_box 105 = .ok (.iadd, 1) := by decide +kernel
theorem dX12_box_106 : decode cX12_box 106 = .ok (.iload 4, 2) := by decide +kernel
theorem dX12_box_108 : decode cX12_box 108 = .ok (.iastore, 1) := by decide +kernel
theorem dX12_box_109 : decode cX12_box 109 = .ok (.aload_n 0, 1) := by decide +kernel
theorem dX12_box_110 : decode cX12_box 110 = .ok (.getfield 20, 3) := by decide +kernel
theorem dX12_box_113 : decode cX12_box 113 = .ok (.iconst 4, 1) := by decide +kernel
theorem dX12_box_114 : decode cX12_box 114 = .ok (.iload_n 1, 1) := by decide +kernel
theorem dX12_box_115 : decode cX12_box 115 = .ok (.imul, 1) := by decide +kernel
theorem dX12_box_116 : decode cX12_box 116 = .ok (.iconst 3, 1) := by decide +kernel
theorem dX12_box_117 : decode cX12_box 117 = .ok (.iadd, 1) := by decide +kernel
theorem dX12_box_118 : decode cX12_box 118 = .ok (.iload 5, 2) := by decide +kernel
theorem dX12_box_120 : decode cX12_box 120 = .ok (.iastore, 1) := by decide +kernel
theorem dX12_box_121 : decode cX12_box 121 = .ok (.aload_n 0, 1) := by decide +kernel
theorem dX12_box_122 : decode cX12_box 122 = .ok (.invokevirtual 199, 3) := by decide +kernel
theorem dX12_box_125 : decode cX12_box 125 = .ok (.aload_n 0, 1) := by decide +kernel
theorem dX12_box_126 : decode cX12_box 126 = .ok (.iload_n 1, 1) := by decide +kernel
theorem dX12_box_127 : decode cX12_box 127 = .ok (.invokevirtual 250, 3) := by decide +kernel
theorem dX12_box_130 : decode cX12_box 130 = .ok (.invokestatic 254, 3) := by decide +kernel
theorem dX12_box_133 : decode cX12_box 133 = .ok (.ireturn, 1) := by decide +kernel
theorem dX12_can_0 : decode cX12_can 0 = .ok (.aload_n 0, 1) := by decide +kernel
theorem dX12_can_1 : decode cX12_can 1 = .ok (.iload_n 1, 1) := by decide +kernel
theorem dX12_can_2 : decode cX12_can 2 = .ok (.invokevirtual 245, 3) := by decide +kernel
theorem dX12_can_5 : decode cX12_can 5 = .ok (.ifCond .ne 11, 3) := by decide +kernel
theorem dX12_can_8 : decode cX12_can 8 = .ok (.aload_n 0, 1) := by decide +kernel
theorem dX12_can_9 : decode cX12_can 9 = .ok (.iload_n 2, 1) := by decide +kernel
theorem dX12_can_10 : decode cX12_can 10 = .ok (.invokevirtual 179, 3) := by decide +kernel
theorem dX12_can_13 : decode cX12_can 13 = .ok (.ifCond .ne 5, 3) := by decide +kernel
theorem dX12_can_16 : decode cX12_can 16 = .ok (.iconst (-1), 1) := by decide +kernel
theorem dX12_can_17 : decode cX12_can 17 = .ok (.ireturn, 1) := by decide +kernel
theorem dX12_can_18 : decode cX12_can 18 = .ok (.iload_n 3, 1) := by decide +kernel
theorem dX12_can_19 : decode cX12_can 19 = .ok (.i2l, 1) := by decide +kernel
theorem dX12_can_20 : decode cX12_can 20 = .ok (.lconst 0, 1) := by decide +kernel
theorem dX12_can_21 : decode cX12_can 21 = .ok (.lconst 1, 1) := by decide +kernel
theorem dX12_can_22 : decode cX12_can 22 = .ok (.invokestatic 175, 3) := by decide +kernel
theorem dX12_can_25 : decode cX12_can 25 = .ok (.ifCond .ne 6, 3) := by decide +kernel
theorem dX12_can_28 : decode cX12_can 28 = .ok (.bipush (-2), 2) := by decide +kernel
theorem dX12_can_30 : decode cX12_can 30 = .ok (.ireturn, 1) := by decide +kernel
theorem dX12_can_31 : decode cX12_can 31 = .ok (.aload_n 0, 1) := by decide +kernel
theorem dX12_can_32 : decode cX12_can 32 = .ok (.invokevirtual 258, 3) := by decide +kernel
theorem dX12_can_35 : decode cX12_can 35 = .ok (.iload_n 3, 1) := by decide +kernel
theorem dX12_can_36 : decode cX12_can 36 = .ok (.ifCond .ne 11, 3) := by decide +kernel
theorem dX12_can_39 : decode cX12_can 39 = .ok (.aload_n 0, 1) := by decide +kernel
theorem dX12_can_40 : decode cX12_can 40 = .ok (.iload_n 1, 1) := by decide +kernel
theorem dX12_can_41 : decode cX12_can 41 = .ok (.invokevirtual 250, 3) := by decide +kernel
theorem dX12_can_44 : decode cX12_can 44 = .ok (.goto 9, 3) := by decide +kernel
theorem dX12_can_47 : decode cX12_can 47 = .ok (.aload_n 0, 1) := by decide +kernel
theorem dX12_can_48 : decode cX12_can 48 = .ok (.getfield 84, 3) := by decide +kernel
theorem dX12_can_51 : decode cX12_can 51 = .ok (.iload_n 1, 1) := by decide +kernel
theorem dX12_can_52 : decode cX12_can 52 = .ok (.laload, 1) := by decide +kernel
theorem dX12_can_53 : decode cX12_can 53 = .ok (.iload_n 2, 1) := by decide +kernel
theorem dX12_can_54 : decode cX12_can 54 = .ok (.invokestatic 162, 3) := by decide +kernel
theorem dX12_can_57 : decode cX12_can 57 = .ok (.ifCond .eq 7, 3) := by decide +kernel
theorem dX12_can_60 : decode cX12_can 60 = .ok (.iconst 1, 1) := by decide +kernel
theorem dX12_can_61 : decode cX12_can 61 = .ok (.goto 4, 3) := by decide +kernel
theorem dX12_can_64 : decode cX12_can 64 = .ok (.iconst 0, 1) := by decide +kernel
theorem dX12_can_65 : decode cX12_can 65 = .ok (.ireturn, 1) := by decide +kernel
theorem dX12_cell_0 : decode cX12_cell 0 = .ok (.aload_n 0, 1) := by decide +kernel
theorem dX12_cell_1 : decode cX12_cell 1 = .ok (.iconst 0, 1) := by decide +kernel
theorem dX12_cell_2 : decode cX12_cell 2 = .ok (.putfield 166, 3) := by decide +kernel
theorem dX12_cell_5 : decode cX12_cell 5 = .ok (.iload_n 1, 1) := by decide +kernel
theorem dX12_cell_6 : decode cX12_cell 6 = .ok (.invokestatic 219, 3) := by decide +kernel
theorem dX12_cell_9 : decode cX12_cell 9 = .ok (.ifCond .ne 15, 3) := by decide +kernel
theorem dX12_cell_12 : decode cX12_cell 12 = .ok (.iload_n 3, 1) := by decide +kernel
theorem dX12_cell_13 : decode cX12_cell 13 = .ok (.i2l, 1) := by decide +kernel
theorem dX12_cell_14 : decode cX12_cell 14 = .ok (.lconst 0, 1) := by decide +kernel
theorem dX12_cell_15 : decode cX12_cell 15 = .ok (.ldc2_w 226, 3) := by decide +kernel
theorem dX12_cell_18 : decode cX12_cell 18 = .ok (.invokestatic 175, 3) := by decide +kernel
theorem dX12_cell_21 : decode cX12_cell 21 = .ok (.ifCond .ne 7, 3) := by decide +kernel
theorem dX12_cell_24 : decode cX12_cell 24 = .ok (.invokestatic 169, 3) := by decide +kernel
theorem dX12_cell_27 : decode cX12_cell 27 = .ok (.lreturn, 1) := by decide +kernel
theorem dX12_cell_28 : decode cX12_cell 28 = .ok (.aload_n 0, 1) := by decide +kernel
theorem dX12_cell_29 : decode cX12_cell 29 = .ok (.getfield 141, 3) := by decide +kernel
theorem dX12_cell_32 : decode cX12_cell 32 = .ok (.iload_n 1, 1) := by decide +kernel
theorem dX12_cell_33 : decode cX12_cell 33 = .ok (.iaload, 1) := by decide +kernel
theorem dX12_cell_34 : decode cX12_cell 34 = .ok (.ifCond .lt 19, 3) := by decide +kernel
theorem dX12_cell_37 : decode cX12_cell 37 = .ok (.aload_n 0, 1) := by decide +kernel
theorem dX12_cell_38 : decode cX12_cell 38 = .ok (.getfield 144, 3) := by decide +kernel
theorem dX12_cell_41 : decode cX12_cell 41 = .ok (.iload_n 1, 1) := by decide +kernel
theorem dX12_cell_42 : decode cX12_cell 42 = .ok (.iaload, 1) := by decide +kernel
theorem dX12_cell_43 : decode cX12_cell 43 = .ok (.iload_n 3, 1) := by decide +kernel
theorem dX12_cell_44 : decode cX12_cell 44 = .ok (.if_icmp .eq 9, 3) := by decide +kernel
theorem dX12_cell_47 : decode cX12_cell 47 = .ok (.aload_n 0, 1) := by decide +kernel
theorem dX12_cell_48 : decode cX12_cell 48 = .ok (.iconst 2, 1) := by decide +kernel
theorem dX12_cell_49 : decode cX12_cell 49 = .ok (.invokevirtual 530, 3) := by decide +kernel
theorem dX12_cell_52 : decode cX12_cell 52 = .ok (.lreturn, 1) := by decide +kernel
theorem dX12_cell_53 : decode cX12_cell 53 = .ok (.aload_n 0, 1) := by decide +kernel
theorem dX12_cell_54 : decode cX12_cell 54 = .ok (.iload_n 1, 1) := by decide +kernel
theorem dX12_cell_55 : decode cX12_cell 55 = .ok (.iload_n 2, 1) := by decide +kernel
theorem dX12_cell_56 : decode cX12_cell 56 = .ok (.invokevirtual 527, 3) := by decide +kernel
theorem dX12_cell_59 : decode cX12_cell 59 = .ok (.ifCond .le 16, 3) := by decide +kernel
theorem dX12_cell_62 : decode cX12_cell 62 = .ok (.aload_n 0, 1) := by decide +kernel
theorem dX12_cell_63 : decode cX12_cell 63 = .ok (.aload_n 0, 1) := by decide +kernel
theorem dX12_cell_64 : decode cX12_cell 64 = .ok (.iload_n 1, 1) := by decide +kernel
theorem dX12_cell_65 : decode cX12_cell 65 = .ok (.iload_n 2, 1) := by decide +kernel
theorem dX12_cell_66 : decode cX12_cell 66 = .ok (.invokevirtual 527, 3) := by decide +kernel
theorem dX12_cell_69 : decode cX12_cell 69 = .ok (.invokevirtual 530, 3) := by decide +kernel
theorem dX12_cell_72 : decode cX12_cell 72 = .ok (.goto 14, 3) := by decide +kernel
theorem dX12_cell_75 : decode cX12_cell 75 = .ok (.aload_n 0, 1) := by decide +kernel
theorem dX12_cell_76 : decode cX12_cell 76 = .ok (.getfield 147, 3) := by decide +kernel
theorem dX12_cell_79 : decode cX12_cell 79 = .ok (.bipush 64, 2) := by decide +kernel
theorem dX12_cell_81 : decode cX12_cell 81 = .ok (.iload_n 1, 1) := by decide +kernel
theorem dX12_cell_82 : decode cX12_cell 82 = .ok (.imul, 1) := by decide +kernel
theorem dX12_cell_83 : decode cX12_cell 83 = .ok (.iload_n 2, 1) := by decide +kernel
theorem dX12_cell_84 : decode cX12_cell 84 = .ok (.iadd, 1) := by decide +kernel
theorem dX12_cell_85 : decode cX12_cell 85 = .ok (.laload, 1) := by decide +kernel
theorem dX12_cell_86 : decode cX12_cell 86 = .ok (.lreturn, 1) := by decide +kernel
theorem dX12_cellThen_0 : decode cX12_cellThen 0 = .ok (.aload_n 0, 1) := by decide +kernel
theorem dX12_cellThen_1 : decode cX12_cellThen 1 = .ok (.getfield 406, 3) := by decide +kernel
theorem dX12_cellThen_4 : decode cX12_cellThen 4 = .ok (.i2l, 1) := by decide +kernel
theorem dX12_cellThen_5 : decode cX12_cellThen 5 = .ok (.iload_n 1, 1) := by decide +kernel
theorem dX12_cellThen_6 : decode cX12_cellThen 6 = .ok (.invokestatic 162, 3) := by decide +kernel
theorem dX12_cellThen_9 : decode cX12_cellThen 9 = .ok (.ifCond .eq 12, 3) := by decide +kernel
theorem dX12_cellThen_12 : decode cX12_cellThen 12 = .ok (.aload_n 0, 1) := by decide +kernel
theorem dX12_cellThen_13 : decode cX12_cellThen 13 = .ok (.getfield 108, 3) := by decide +kernel
theorem dX12_cellThen_16 : decode cX12_cellThen 16 = .ok (.iload_n 1, 1) := by decide +kernel
theorem dX12_cellThen_17 : decode cX12_cellThen 17 = .ok (.iaload, 1) := by decide +kernel
theorem dX12_cellThen_18 : decode cX12_cellThen 18 = .ok (.goto 9, 3) := by decide +kernel
theorem dX12_cellThen_21 : decode cX12_cellThen 21 = .ok (.aload_n 0, 1) := by decide +kernel
theorem dX12_cellThen_22 : decode cX12_cellThen 22 = .ok (.getfield 32, 3) := by decide +kernel
theorem dX12_cellThen_25 : decode cX12_cellThen 25 = .ok (.iload_n 1, 1) := by decide +kernel
theorem dX12_cellThen_26 : decode cX12_cellThen 26 = .ok (.iaload, 1) := by decide +kernel
theorem dX12_cellThen_27 : decode cX12_cellThen 27 = .ok (.ireturn, 1) := by decide +kernel
theorem dX12_cells_0 : decode cX12_cells 0 = .ok (.aload_n 0, 1) := by decide +kernel
theorem dX12_cells_1 : decode cX12_cells 1 = .ok (.iload_n 1, 1) := by decide +kernel
theorem dX12_cells_2 : decode cX12_cells 2 = .ok (.invokevirtual 245, 3) := by decide +kernel
theorem dX12_cells_5 : decode cX12_cells 5 = .ok (.ifCond .eq 5, 3) := by decide +kernel
theorem dX12_cells_8 : decode cX12_cells 8 = .ok (.lconst 0, 1) := by decide +kernel
theorem dX12_cells_9 : decode cX12_cells 9 = .ok (.lreturn, 1) := by decide +kernel
theorem dX12_cells_10 : decode cX12_cells 10 = .ok (.aload_n 0, 1) := by decide +kernel
theorem dX12_cells_11 : decode cX12_cells 11 = .ok (.invokevirtual 258, 3) := by decide +kernel
theorem dX12_cells_14 : decode cX12_cells 14 = .ok (.aload_n 0, 1) := by decide +kernel
theorem dX12_cells_15 : decode cX12_cells 15 = .ok (.getfield 84, 3) := by decide +kernel
theorem dX12_cells_18 : decode cX12_cells 18 = .ok (.iload_n 1, 1) := by decide +kernel
theorem dX12_cells_19 : decode cX12_cells 19 = .ok (.laload, 1) := by decide +kernel
theorem dX12_cells_20 : decode cX12_cells 20 = .ok (.lreturn, 1) := by decide +kernel
theorem dX12_cellsHad_0 : decode cX12_cellsHad 0 = .ok (.iconst 0, 1) := by decide +kernel
theorem dX12_cellsHad_1 : decode cX12_cellsHad 1 = .ok (.istore_n 2, 1) := by decide +kernel
theorem dX12_cellsHad_2 : decode cX12_cellsHad 2 = .ok (.iconst 0, 1) := by decide +kernel
theorem dX12_cellsHad_3 : decode cX12_cellsHad 3 = .ok (.istore_n 3, 1) := by decide +kernel
theorem dX12_cellsHad_4 : decode cX12_cellsHad 4 = .ok (.iload_n 3, 1) := by decide +kernel
theorem dX12_cellsHad_5 : decode cX12_cellsHad 5 = .ok (.bipush 64, 2) := by decide +kernel
theorem dX12_cellsHad_7 : decode cX12_cellsHad 7 = .ok (.if_icmp .ge 31, 3) := by decide +kernel
theorem dX12_cellsHad_10 : decode cX12_cellsHad 10 = .ok (.iload_n 2, 1) := by decide +kernel
theorem dX12_cellsHad_11 : decode cX12_cellsHad 11 = .ok (.aload_n 0, 1) := by decide +kernel
theorem dX12_cellsHad_12 : decode cX12_cellsHad 12 = .ok (.getfield 99, 3) := by decide +kernel
theorem dX12_cellsHad_15 : decode cX12_cellsHad 15 = .ok (.bipush 64, 2) := by decide +kernel
theorem dX12_cellsHad_17 : decode cX12_cellsHad 17 = .ok (.iload_n 1, 1) := by decide +kernel
theorem dX12_cellsHad_18 : decode cX12_cellsHad 18 = .ok (.imul, 1) := by decide +kernel
theorem dX12_cellsHad_19 : decode cX12_cellsHad 19 = .ok (.iload_n 3, 1) := by decide +kernel
theorem dX12_cellsHad_20 : decode cX12_cellsHad 20 = .ok (.iadd, 1) := by decide +kernel
theorem dX12_cellsHad_21 : decode cX12_cellsHad 21 = .ok (.iaload, 1) := by decide +kernel
theorem dX12_cellsHad_22 : decode cX12_cellsHad 22 = .ok (.ifCond .le 7, 3) := by decide +kernel
theorem dX12_cellsHad_25 : decode cX12_cellsHad 25 = .ok (.iconst 1, 1) := by decide +kernel
theorem dX12_cellsHad_26 : decode cX12_cellsHad 26 = .ok (.goto 4, 3) := by decide +kernel
theorem dX12_cellsHad_29 : decode cX12_cellsHad 29 = .ok (.iconst 0, 1) := by decide +kernel
theorem dX12_cellsHad_30 : decode cX12_cellsHad 30 = .ok (.iadd, 1) := by decide +kernel
theorem dX12_cellsHad_31 : decode cX12_cellsHad 31 = .ok (.istore_n 2, 1) := by decide +kernel
theorem dX12_cellsHad_32 : decode cX12_cellsHad 32 = .ok (.iinc 3 1, 3) := by decide +kernel
theorem dX12_cellsHad_35 : decode cX12_cellsHad 35 = .ok (.goto (-31), 3) := by decide +kernel
theorem dX12_cellsHad_38 : decode cX12_cellsHad 38 = .ok (.iload_n 2, 1) := by decide +kernel
theorem dX12_cellsHad_39 : decode cX12_cellsHad 39 = .ok (.ireturn, 1) := by decide +kernel
theorem dX12_check_0 : decode cX12_check 0 = .ok (.aload_n 0, 1) := by decide +kernel
theorem dX12_check_1 : decode cX12_check 1 = .ok (.invokevirtual 311, 3) := by decide +kernel
theorem dX12_check_4 : decode cX12_check 4 = .ok (.iconst 0, 1) := by decide +kernel
theorem dX12_check_5 : decode cX12_check 5 = .ok (.istore_n 1, 1) := by decide +kernel
theorem dX12_check_6 : decode cX12_check 6 = .ok (.iload_n 1, 1) := by decide +kernel
theorem dX12_check_7 : decode cX12_check 7 = .ok (.aload_n 0, 1) := by decide +kernel
theorem dX12_check_8 : decode cX12_check 8 = .ok (.getfield 183, 3) := by decide +kernel
theorem dX12_check_11 : decode cX12_check 11 = .ok (.if_icmp .ge 40, 3) := by decide +kernel
theorem dX12_check_14 : decode cX12_check 14 = .ok (.aload_n 0, 1) := by decide +kernel
theorem dX12_check_15 : decode cX12_check 15 = .ok (.getfield 32, 3) := by decide +kernel
theorem dX12_check_18 : decode cX12_check 18 = .ok (.iload_n 1, 1) := by decide +kernel
theorem dX12_check_19 : decode cX12_check 19 = .ok (.iaload, 1) := by decide +kernel
theorem dX12_check_20 : decode cX12_check 20 = .ok (.ifCond .lt 25, 3) := by decide +kernel
theorem dX12_check_23 : decode cX12_check 23 = .ok (.aload_n 0, 1) := by decide +kernel
theorem dX12_check_24 : decode cX12_check 24 = .ok (.iload_n 1, 1) := by decide +kernel
theorem dX12_check_25 : decode cX12_check 25 = .ok (.invokevirtual 250, 3) := by decide +kernel
theorem dX12_check_28 : decode cX12_check 28 = .ok (.aload_n 0, 1) := by decide +kernel
theorem dX12_check_29 : decode cX12_check 29 = .ok (.getfield 32, 3) := by decide +kernel
theorem dX12_check_32 : decode cX12_check 32 = .ok (.iload_n 1, 1) := by decide +kernel
theorem dX12_check_33 : decode cX12_check 33 = .ok (.iaload, 1) := by decide +kernel
theorem dX12_check_34 : decode cX12_check 34 = .ok (.invokestatic 162, 3) := by decide +kernel
theorem dX12_check_37 : decode cX12_check 37 = .ok (.ifCond .ne 8, 3) := by decide +kernel
theorem dX12_check_40 : decode cX12_check 40 = .ok (.bipush (-100), 2) := by decide +kernel
theorem dX12_check_42 : decode cX12_check 42 = .ok (.iload_n 1, 1) := by decide +kernel
theorem dX12_check_43 : decode cX12_check 43 = .ok (.isub, 1) := by decide +kernel
theorem dX12_check_44 : decode cX12_check 44 = .ok (.ireturn, 1) := by decide +kernel
theorem dX12_check_45 : decode cX12_check 45 = .ok (.iinc 1 1, 3) := by decide +kernel
theorem dX12_check_48 : decode cX12_check 48 = .ok (.goto (-42), 3) := by decide +kernel
theorem dX12_check_51 : decode cX12_check 51 = .ok (.iconst 0, 1) := by decide +kernel
theorem dX12_check_52 : decode cX12_check 52 = .ok (.istore_n 1, 1) := by decide +kernel
theorem dX12_check_53 : decode cX12_check 53 = .ok (.iload_n 1, 1) := by decide +kernel
theorem dX12_check_54 : decode cX12_check 54 = .ok (.aload_n 0, 1) := by decide +kernel
theorem dX12_check_55 : decode cX12_check 55 = .ok (.getfield 183, 3) := by decide +kernel
theorem dX12_check_58 : decode cX12_check 58 = .ok (.if_icmp .ge 39, 3) := by decide +kernel
theorem dX12_check_61 : decode cX12_check 61 = .ok (.aload_n 0, 1) := by decide +kernel
theorem dX12_check_62 : decode cX12_check 62 = .ok (.getfield 207, 3) := by decide +kernel
theorem dX12_check_65 : decode cX12_check 65 = .ok (.ifCond .eq 32, 3) := by decide +kernel
theorem dX12_check_68 : decode cX12_check 68 = .ok (.aload_n 0, 1) := by decide +kernel
theorem dX12_check_69 : decode cX12_check 69 = .ok (.getfield 32, 3) := by decide +kernel
theorem dX12_check_72 : decode cX12_check 72 = .ok (.iload_n 1, 1) := by decide +kernel
theorem dX12_check_73 : decode cX12_check 73 = .ok (.iaload, 1) := by decide +kernel
theorem dX12_check_74 : decode cX12_check 74 = .ok (.ifCond .lt 17, 3) := by decide +kernel
theorem dX12_check_77 : decode cX12_check 77 = .ok (.aload_n 0, 1) := by decide +kernel
theorem dX12_check_78 : decode cX12_check 78 = .ok (.iload_n 1, 1) := by decide +kernel
theorem dX12_check_79 : decode cX12_check 79 = .ok (.invokevirtual 394, 3) := by decide +kernel
theorem dX12_check_82 : decode cX12_check 82 = .ok (.ifCond .eq 9, 3) := by decide +kernel
theorem dX12_check_85 : decode cX12_check 85 = .ok (.sipush (-200), 3) := by decide +kernel
theorem dX12_check_88 : decode cX12_check 88 = .ok (.iload_n 1, 1) := by decide +kernel
theorem dX12_check_89 : decode cX12_check 89 = .ok (.isub, 1) := by decide +kernel
theorem dX12_check_90 : decode cX12_check 90 = .ok (.ireturn, 1) := by decide +kernel
theorem dX12_check_91 : decode cX12_check 91 = .ok (.iinc 1 1, 3) := by decide +kernel
theorem dX12_check_94 : decode cX12_check 94 = .ok (.goto (-41), 3) := by decide +kernel
theorem dX12_check_97 : decode cX12_check 97 = .ok (.iconst 0, 1) := by decide +kernel
theorem dX12_check_98 : decode cX12_check 98 = .ok (.istore_n 1, 1) := by decide +kernel
theorem dX12_check_99 : decode cX12_check 99 = .ok (.iload_n 1, 1) := by decide +kernel
theorem dX12_check_100 : decode cX12_check 100 = .ok (.aload_n 0, 1) := by decide +kernel
theorem dX12_check_101 : decode cX12_check 101 = .ok (.getfield 186, 3) := by decide +kernel
theorem dX12_check_104 : decode cX12_check 104 = .ok (.if_icmp .ge 99, 3) := by decide +kernel
theorem dX12_check_107 : decode cX12_check 107 = .ok (.aload_n 0, 1) := by decide +kernel
theorem dX12_check_108 : decode cX12_check 108 = .ok (.getfield 50, 3) := by decide +kernel
theorem dX12_check_111 : decode cX12_check 111 = .ok (.iload_n 1, 1) := by decide +kernel
theorem dX12_check_112 : decode cX12_check 112 = .ok (.baload, 1) := by decide +kernel
theorem dX12_check_113 : decode cX12_check 113 = .ok (.ifCond .eq 35, 3) := by decide +kernel
theorem dX12_check_116 : decode cX12_check 116 = .ok (.aload_n 0, 1) := by decide +kernel
theorem dX12_check_117 : decode cX12_check 117 = .ok (.getfield 32, 3) := by decide +kernel
theorem dX12_check_120 : decode cX12_check 120 = .ok (.aload_n 0, 1) := by decide +kernel
theorem dX12_check_121 : decode cX12_check 121 = .ok (.getfield 38, 3) := by decide +kernel
theorem dX12_check_124 : decode cX12_check 124 = .ok (.iload_n 1, 1) := by decide +kernel
theorem dX12_check_125 : decode cX12_check 125 = .ok (.iaload, 1) := by decide +kernel
theorem dX12_check_126 : decode cX12_check 126 = .ok (.iaload, 1) := by decide +kernel
theorem dX12_check_127 : decode cX12_check 127 = .ok (.ifCond .lt 21, 3) := by decide +kernel
theorem dX12_check_130 : decode cX12_check 130 = .ok (.aload_n 0, 1) := by decide +kernel
theorem dX12_check_131 : decode cX12_check 131 = .ok (.getfield 32, 3) := by decide +kernel
theorem dX12_check_134 : decode cX12_check 134 = .ok (.aload_n 0, 1) := by decide +kernel
theorem dX12_check_135 : decode cX12_check 135 = .ok (.getfield 41, 3) := by decide +kernel
theorem dX12_check_138 : decode cX12_check 138 = .ok (.iload_n 1, 1) := by decide +kernel
theorem dX12_check_139 : decode cX12_check 139 = .ok (.iaload, 1) := by decide +kernel
theorem dX12_check_140 : decode cX12_check 140 = .ok (.iaload, 1) := by decide +kernel
theorem dX12_check_141 : decode cX12_check 141 = .ok (.ifCond .lt 7, 3) := by decide +kernel
theorem dX12_check_144 : decode cX12_check 144 = .ok (.iconst 1, 1) := by decide +kernel
theorem dX12_check_145 : decode cX12_check 145 = .ok (.goto 4, 3) := by decide +kernel
theorem dX12_check_148 : decode cX12_check 148 = .ok (.iconst 0, 1) := by decide +kernel
theorem dX12_check_149 : decode cX12_check 149 = .ok (.istore_n 2, 1) := by decide +kernel
theorem dX12_check_150 : decode cX12_check 150 = .ok (.iload_n 2, 1) := by decide +kernel
theorem dX12_check_151 : decode cX12_check 151 = .ok (.ifCond .eq 46, 3) := by decide +kernel
theorem dX12_check_154 : decode cX12_check 154 = .ok (.aload_n 0, 1) := by decide +kernel
theorem dX12_check_155 : decode cX12_check 155 = .ok (.getfield 71, 3) := by decide +kernel
theorem dX12_check_158 : decode cX12_check 158 = .ok (.bipush 64, 2) := by decide +kernel
theorem dX12_check_160 : decode cX12_check 160 = .ok (.iload_n 1, 1) := by decide +kernel
theorem dX12_check_161 : decode cX12_check 161 = .ok (.imul, 1) := by decide +kernel
theorem dX12_check_162 : decode cX12_check 162 = .ok (.aload_n 0, 1) := by decide +kernel
theorem dX12_check_163 : decode cX12_check 163 = .ok (.getfield 32, 3) := by decide +kernel
theorem dX12_check_166 : decode cX12_check 166 = .ok (.aload_n 0, 1) := by decide +kernel
theorem dX12_check_167 : decode cX12_check 167 = .ok (.getfield 38, 3) := by decide +kernel
theorem dX12_check_170 : decode cX12_check 170 = .ok (.iload_n 1, 1) := by decide +kernel
theorem dX12_check_171 : decode cX12_check 171 = .ok (.iaload, 1) := by decide +kernel
theorem dX12_check_172 : decode cX12_check 172 = .ok (.iaload, 1) := by decide +kernel
theorem dX12_check_173 : decode cX12_check 173 = .ok (.iadd, 1) := by decide +kernel
theorem dX12_check_174 : decode cX12_check 174 = .ok (.laload, 1) := by decide +kernel
theorem dX12_check_175 : decode cX12_check 175 = .ok (.aload_n 0, 1) := by decide +kernel
theorem dX12_check_176 : decode cX12_check 176 = .ok (.getfield 32, 3) := by decide +kernel
theorem dX12_check_179 : decode cX12_check 179 = .ok (.aload_n 0, 1) := by decide +kernel
theorem dX12_check_180 : decode cX12_check 180 = .ok (.getfield 41, 3) := by decide +kernel
theorem dX12_check_183 : decode cX12_check 183 = .ok (.iload_n 1, 1) := by decide +kernel
theorem dX12_check_184 : decode cX12_check 184 = .ok (.iaload, 1) := by decide +kernel
theorem dX12_check_185 : decode cX12_check 185 = .ok (.iaload, 1) := by decide +kernel
theorem dX12_check_186 : decode cX12_check 186 = .ok (.invokestatic 162, 3) := by decide +kernel
theorem dX12_check_189 : decode cX12_check 189 = .ok (.ifCond .ne 8, 3) := by decide +kernel
theorem dX12_check_192 : decode cX12_check 192 = .ok (.bipush (-20), 2) := by decide +kernel
theorem dX12_check_194 : decode cX12_check 194 = .ok (.iload_n 1, 1) := by decide +kernel
theorem dX12_check_195 : decode cX12_check 195 = .ok (.isub, 1) := by decide +kernel
theorem dX12_check_196 : decode cX12_check 196 = .ok (.ireturn, 1) := by decide +kernel
theorem dX12_check_197 : decode cX12_check 197 = .ok (.iinc 1 1, 3) := by decide +kernel
theorem dX12_check_200 : decode cX12_check 200 = .ok (.goto (-101), 3) := by decide +kernel
theorem dX12_check_203 : decode cX12_check 203 = .ok (.iconst 1, 1) := by decide +kernel
theorem dX12_check_204 : decode cX12_check 204 = .ok (.ireturn, 1) := by decide +kernel
theorem dX12_copy_0 : decode cX12_copy 0 = .ok (.iload_n 1, 1) := by decide +kernel
theorem dX12_copy_1 : decode cX12_copy 1 = .ok (.invokestatic 219, 3) := by decide +kernel
theorem dX12_copy_4 : decode cX12_copy 4 = .ok (.ifCond .ne 10, 3) := by decide +kernel
theorem dX12_copy_7 : decode cX12_copy 7 = .ok (.iload_n 3, 1) := by decide +kernel
theorem dX12_copy_8 : decode cX12_copy 8 = .ok (.invokestatic 219, 3) := by decide +kernel
theorem dX12_copy_11 : decode cX12_copy 11 = .ok (.ifCond .eq 9, 3) := by decide +kernel
theorem dX12_copy_14 : decode cX12_copy 14 = .ok (.aload_n 0, 1) := by decide +kernel
theorem dX12_copy_15 : decode cX12_copy 15 = .ok (.iconst (-1), 1) := by decide +kernel
theorem dX12_copy_16 : decode cX12_copy 16 = .ok (.invokevirtual 222, 3) := by decide +kernel
theorem dX12_copy_19 : decode cX12_copy 19 = .ok (.ireturn, 1) := by decide +kernel
theorem dX12_copy_20 : decode cX12_copy 20 = .ok (.aload_n 0, 1) := by decide +kernel
theorem dX12_copy_21 : decode cX12_copy 21 = .ok (.getfield 141, 3) := by decide +kernel
theorem dX12_copy_24 : decode cX12_copy 24 = .ok (.iload_n 1, 1) := by decide +kernel
theorem dX12_copy_25 : decode cX12_copy 25 = .ok (.iaload, 1) := by decide +kernel
theorem dX12_copy_26 : decode cX12_copy 26 = .ok (.ifCond .lt 12, 3) := by decide +kernel
theorem dX12_copy_29 : decode cX12_copy 29 = .ok (.aload_n 0, 1) := by decide +kernel
theorem dX12_copy_30 : decode cX12_copy 30 = .ok (.getfield 141, 3) := by decide +kernel
theorem dX12_copy_33 : decode cX12_copy 33 = .ok (.iload_n 3, 1) := by decide +kernel
theorem dX12_copy_34 : decode cX12_copy 34 = .ok (.iaload, 1) := by decide +kernel
theorem dX12_copy_35 : decode cX12_copy 35 = .ok (.ifCond .ge 9, 3) := by decide +kernel
theorem dX12_copy_38 : decode cX12_copy 38 = .ok (.aload_n 0, 1) := by decide +kernel
theorem dX12_copy_39 : decode cX12_copy 39 = .ok (.iconst 1, 1) := by decide +kernel
theorem dX12_copy_40 : decode cX12_copy 40 = .ok (.invokevirtual 228, 3) := by decide +kernel
theorem dX12_copy_43 : decode cX12_copy 43 = .ok (.ireturn, 1) := by decide +kernel
theorem dX12_copy_44 : decode cX12_copy 44 = .ok (.aload_n 0, 1) := by decide +kernel
theorem dX12_copy_45 : decode cX12_copy 45 = .ok (.getfield 144, 3) := by decide +kernel
theorem dX12_copy_48 : decode cX12_copy 48 = .ok (.iload_n 1, 1) := by decide +kernel
theorem dX12_copy_49 : decode cX12_copy 49 = .ok (.iaload, 1) := by decide +kernel
theorem dX12_copy_50 : decode cX12_copy 50 = .ok (.aload_n 0, 1) := by decide +kernel
theorem dX12_copy_51 : decode cX12_copy 51 = .ok (.getfield 144, 3) := by decide +kernel
theorem dX12_copy_54 : decode cX12_copy 54 = .ok (.iload_n 3, 1) := by decide +kernel
theorem dX12_copy_55 : decode cX12_copy 55 = .ok (.iaload, 1) := by decide +kernel
theorem dX12_copy_56 : decode cX12_copy 56 = .ok (.if_icmp .eq 9, 3) := by decide +kernel
theorem dX12_copy_59 : decode cX12_copy 59 = .ok (.aload_n 0, 1) := by decide +kernel
theorem dX12_copy_60 : decode cX12_copy 60 = .ok (.iconst 2, 1) := by decide +kernel
theorem dX12_copy_61 : decode cX12_copy 61 = .ok (.invokevirtual 228, 3) := by decide +kernel
theorem dX12_copy_64 : decode cX12_copy 64 = .ok (.ireturn, 1) := by decide +kernel
theorem dX12_copy_65 : decode cX12_copy 65 = .ok (.iload_n 2, 1) := by decide +kernel
theorem dX12_copy_66 : decode cX12_copy 66 = .ok (.iload 5, 2) := by decide +kernel
theorem dX12_copy_68 : decode cX12_copy 68 = .ok (.i2l, 1) := by decide +kernel
theorem dX12_copy_69 : decode cX12_copy 69 = .ok (.aload_n 0, 1) := by decide +kernel
theorem dX12_copy_70 : decode cX12_copy 70 = .ok (.getfield 141, 3) := by decide +kernel
theorem dX12_copy_73 : decode cX12_copy 73 = .ok (.iload_n 1, 1) := by decide +kernel
theorem dX12_copy_74 : decode cX12_copy 74 = .ok (.iaload, 1) := by decide +kernel
theorem dX12_copy_75 : decode cX12_copy 75 = .ok (.invokestatic 231, 3) := by decide +kernel
theorem dX12_copy_78 : decode cX12_copy 78 = .ok (.ifCond .ne 20, 3) := by decide +kernel
theorem dX12_copy_81 : decode cX12_copy 81 = .ok (.iload 4, 2) := by decide +kernel
theorem dX12_copy_83 : decode cX12_copy 83 = .ok (.iload 5, 2) := by decide +kernel
theorem dX12_copy_85 : decode cX12_copy 85 = .ok (.i2l, 1) := by decide +kernel
theorem dX12_copy_86 : decode cX12_copy 86 = .ok (.aload_n 0, 1) := by decide +kernel
theorem dX12_copy_87 : decode cX12_copy 87 = .ok (.getfield 141, 3) := by decide +kernel
theorem dX12_copy_90 : decode cX12_copy 90 = .ok (.iload_n 3, 1) := by decide +kernel
theorem dX12_copy_91 : decode cX12_copy 91 = .ok (.iaload, 1) := by decide +kernel
theorem dX12_copy_92 : decode cX12_copy 92 = .ok (.invokestatic 231, 3) := by decide +kernel
theorem dX12_copy_95 : decode cX12_copy 95 = .ok (.ifCond .eq 9, 3) := by decide +kernel
theorem dX12_copy_98 : decode cX12_copy 98 = .ok (.aload_n 0, 1) := by decide +kernel
theorem dX12_copy_99 : decode cX12_copy 99 = .ok (.iconst 3, 1) := by decide +kernel
theorem dX12_copy_100 : decode cX12_copy 100 = .ok (.invokevirtual 228, 3) := by decide +kernel
theorem dX12_copy_103 : decode cX12_copy 103 = .ok (.ireturn, 1) := by decide +kernel
theorem dX12_copy_104 : decode cX12_copy 104 = .ok (.iconst 0, 1) := by decide +kernel
theorem dX12_copy_105 : decode cX12_copy 105 = .ok (.istore 6, 2) := by decide +kernel
theorem dX12_copy_107 : decode cX12_copy 107 = .ok (.iload 6, 2) := by decide +kernel
theorem dX12_copy_109 : decode cX12_copy 109 = .ok (.iload 5, 2) := by decide +kernel
theorem dX12_copy_111 : decode cX12_copy 111 = .ok (.if_icmp .ge 30, 3) := by decide +kernel
theorem dX12_copy_114 : decode cX12_copy 114 = .ok (.aload_n 0, 1) := by decide +kernel
theorem dX12_copy_115 : decode cX12_copy 115 = .ok (.getfield 150, 3) := by decide +kernel
theorem dX12_copy_118 : decode cX12_copy 118 = .ok (.iload 6, 2) := by decide +kernel
theorem dX12_copy_120 : decode cX12_copy 120 = .ok (.aload_n 0, 1) := by decide +kernel
theorem dX12_copy_121 : decode cX12_copy 121 = .ok (.getfield 147, 3) := by decide +kernel
theorem dX12_copy_124 : decode cX12_copy 124 = .ok (.bipush 64, 2) := by decide +kernel
theorem dX12_copy_126 : decode cX12_copy 126 = .ok (.iload_n 1, 1) := by decide +kernel
theorem dX12_copy_127 : decode cX12_copy 127 = .ok (.imul, 1) := by decide +kernel
theorem dX12_copy_128 : decode cX12_copy 128 = .ok (.iload_n 2, 1) := by decide +kernel
theorem dX12_copy_129 : decode cX12_copy 129 = .ok (.iadd, 1) := by decide +kernel
theorem dX12_copy_130 : decode cX12_copy 130 = .ok (.iload 6, 2) := by decide +kernel
theorem dX12_copy_132 : decode cX12_copy 132 = .ok (.iadd, 1) := by decide +kernel
theorem dX12_copy_133 : decode cX12_copy 133 = .ok (.laload, 1) := by decide +kernel
theorem dX12_copy_134 : decode cX12_copy 134 = .ok (.lastore, 1) := by decide +kernel
theorem dX12_copy_135 : decode cX12_copy 135 = .ok (.iinc 6 1, 3) := by decide +kernel
theorem dX12_copy_138 : decode cX12_copy 138 = .ok (.goto (-31), 3) := by decide +kernel
theorem dX12_copy_141 : decode cX12_copy 141 = .ok (.iconst 0, 1) := by decide +kernel
theorem dX12_copy_142 : decode cX12_copy 142 = .ok (.istore 6, 2) := by decide +kernel
theorem dX12_copy_144 : decode cX12_copy 144 = .ok (.iload 6, 2) := by decide +kernel
theorem dX12_copy_146 : decode cX12_copy 146 = .ok (.iload 5, 2) := by decide +kernel
theorem dX12_copy_148 : decode cX12_copy 148 = .ok (.if_icmp .ge 31, 3) := by decide +kernel
theorem dX12_copy_151 : decode cX12_copy 151 = .ok (.aload_n 0, 1) := by decide +kernel
theorem dX12_copy_152 : decode cX12_copy 152 = .ok (.getfield 147, 3) := by decide +kernel
theorem dX12_copy_155 : decode cX12_copy 155 = .ok (.bipush 64, 2) := by decide +kernel
theorem dX12_copy_157 : decode cX12_copy 157 = .ok (.iload_n 3, 1) := by decide +kernel
theorem dX12_copy_158 : decode cX12_copy 158 = .ok (.imul, 1) := by decide +kernel
theorem dX12_copy_159 : decode cX12_copy 159 = .ok (.iload 4, 2) := by decide +kernel
theorem dX12_copy_161 : decode cX12_copy 161 = .ok (.iadd, 1) := by decide +kernel
theorem dX12_copy_162 : decode cX12_copy 162 = .ok (.iload 6, 2) := by decide +kernel
theorem dX12_copy_164 : decode cX12_copy 164 = .ok (.iadd, 1) := by decide +kernel
theorem dX12_copy_165 : decode cX12_copy 165 = .ok (.aload_n 0, 1) := by decide +kernel
theorem dX12_copy_166 : decode cX12_copy 166 = .ok (.getfield 150, 3) := by decide +kernel
theorem dX12_copy_169 : decode cX12_copy 169 = .ok (.iload 6, 2) := by decide +kernel
theorem dX12_copy_171 : decode cX12_copy 171 = .ok (.laload, 1) := by decide +kernel
theorem dX12_copy_172 : decode cX12_copy 172 = .ok (.lastore, 1) := by decide +kernel
theorem dX12_copy_173 : decode cX12_copy 173 = .ok (.iinc 6 1, 3) := by decide +kernel
theorem dX12_copy_176 : decode cX12_copy 176 = .ok (.goto (-32), 3) := by decide +kernel
theorem dX12_copy_179 : decode cX12_copy 179 = .ok (.aload_n 0, 1) := by decide +kernel
theorem dX12_copy_180 : decode cX12_copy 180 = .ok (.iload 5, 2) := by decide +kernel
theorem dX12_copy_182 : decode cX12_copy 182 = .ok (.invokevirtual 222, 3) := by decide +kernel
theorem dX12_copy_185 : decode cX12_copy 185 = .ok (.ireturn, 1) := by decide +kernel
theorem dX12_could_0 : decode cX12_could 0 = .ok (.aload_n 0, 1) := by decide +kernel
theorem dX12_could_1 : decode cX12_could 1 = .ok (.iload_n 1, 1) := by decide +kernel
theorem dX12_could_2 : decode cX12_could 2 = .ok (.invokevirtual 245, 3) := by decide +kernel
theorem dX12_could_5 : decode cX12_could 5 = .ok (.ifCond .eq 5, 3) := by decide +kernel
theorem dX12_could_8 : decode cX12_could 8 = .ok (.iconst (-1), 1) := by decide +kernel
theorem dX12_could_9 : decode cX12_could 9 = .ok (.ireturn, 1) := by decide +kernel
theorem dX12_could_10 : decode cX12_could 10 = .ok (.aload_n 0, 1) := by decide +kernel
theorem dX12_could_11 : decode cX12_could 11 = .ok (.iload_n 1, 1) := by decide +kernel
theorem dX12_could_12 : decode cX12_could 12 = .ok (.iconst (-1), 1) := by decide +kernel
theorem dX12_could_13 : decode cX12_could 13 = .ok (.invokevirtual 378, 3) := by decide +kernel
theorem dX12_could_16 : decode cX12_could 16 = .ok (.ifCond .eq 15, 3) := by decide +kernel
theorem dX12_could_19 : decode cX12_could 19 = .ok (.aload_n 0, 1) := by decide +kernel
theorem dX12_could_20 : decode cX12_could 20 = .ok (.aload_n 0, 1) := by decide +kernel
theorem dX12_could_21 : decode cX12_could 21 = .ok (.iload_n 1, 1) := by decide +kernel
theorem dX12_could_22 : decode cX12_could 22 = .ok (.invokevirtual 385, 3) := by decide +kernel
theorem dX12_could_25 : decode cX12_could 25 = .ok (.invokevirtual 388, 3) := by decide +kernel
theorem dX12_could_28 : decode cX12_could 28 = .ok (.goto 5, 3) := by decide +kernel
theorem dX12_could_31 : decode cX12_could 31 = .ok (.bipush (-6), 2) := by decide +kernel
theorem dX12_could_33 : decode cX12_could 33 = .ok (.ireturn, 1) := by decide +kernel
theorem dX12_count_0 : decode cX12_count 0 = .ok (.iconst 0, 1) := by decide +kernel
theorem dX12_count_1 : decode cX12_count 1 = .ok (.istore_n 2, 1) := by decide +kernel
theorem dX12_count_2 : decode cX12_count 2 = .ok (.iconst 0, 1) := by decide +kernel
theorem dX12_count_3 : decode cX12_count 3 = .ok (.istore_n 3, 1) := by decide +kernel
theorem dX12_count_4 : decode cX12_count 4 = .ok (.iload_n 3, 1) := by decide +kernel
theorem dX12_count_5 : decode cX12_count 5 = .ok (.bipush 64, 2) := by decide +kernel
theorem dX12_count_7 : decode cX12_count 7 = .ok (.if_icmp .ge 18, 3) := by decide +kernel
theorem dX12_count_10 : decode cX12_count 10 = .ok (.iload_n 2, 1) := by decide +kernel
theorem dX12_count_11 : decode cX12_count 11 = .ok (.lload_n 0, 1) := by decide +kernel
theorem dX12_count_12 : decode cX12_count 12 = .ok (.iload_n 3, 1) := by decide +kernel
theorem dX12_count_13 : decode cX12_count 13 = .ok (.lushr, 1) := by decide +kernel
theorem dX12_count_14 : decode cX12_count 14 = .ok (.lconst 1, 1) := by decide +kernel
theorem dX12_count_15 : decode cX12_count 15 = .ok (.land, 1) := by decide +kernel
theorem dX12_count_16 : decode cX12_count 16 = .ok (.l2i, 1) := by decide +kernel
theorem dX12_count_17 : decode cX12_count 17 = .ok (.iadd, 1) := by decide +kernel
theorem dX12_count_18 : decode cX12_count 18 = .ok (.istore_n 2, 1) := by decide +kernel
theorem dX12_count_19 : decode cX12_count 19 = .ok (.iinc 3 1, 3) := by decide +kernel
theorem dX12_count_22 : decode cX12_count 22 = .ok (.goto (-18), 3) := by decide +kernel
theorem dX12_count_25 : decode cX12_count 25 = .ok (.iload_n 2, 1) := by decide +kernel
theorem dX12_count_26 : decode cX12_count 26 = .ok (.ireturn, 1) := by decide +kernel
theorem dX12_countSet_0 : decode cX12_countSet 0 = .ok (.aload_n 0, 1) := by decide +kernel
theorem dX12_countSet_1 : decode cX12_countSet 1 = .ok (.dup, 1) := by decide +kernel
theorem dX12_countSet_2 : decode cX12_countSet 2 = .ok (.getfield 478, 3) := by decide +kernel
theorem dX12_countSet_5 : decode cX12_countSet 5 = .ok (.iconst 1, 1) := by decide +kernel
theorem dX12_countSet_6 : decode cX12_countSet 6 = .ok (.iadd, 1) := by decide +kernel
theorem dX12_countSet_7 : decode cX12_countSet 7 = .ok (.putfield 478, 3) := by decide +kernel
theorem dX12_countSet_10 : decode cX12_countSet 10 = .ok (.iload_n 1, 1) := by decide +kernel
theorem dX12_countSet_11 : decode cX12_countSet 11 = .ok (.ifCond .lt 13, 3) := by decide +kernel
theorem dX12_countSet_14 : decode cX12_countSet 14 = .ok (.aload_n 0, 1) := by decide +kernel
theorem dX12_countSet_15 : decode cX12_countSet 15 = .ok (.getfield 117, 3) := by decide +kernel
theorem dX12_countSet_18 : decode cX12_countSet 18 = .ok (.iload_n 1, 1) := by decide +kernel
theorem dX12_countSet_19 : decode cX12_countSet 19 = .ok (.dup2, 1) := by decide +kernel
theorem dX12_countSet_20 : decode cX12_countSet 20 = .ok (.iaload, 1) := by decide +kernel
theorem dX12_countSet_21 : decode cX12_countSet 21 = .ok (.iconst 1, 1) := by decide +kernel
theorem dX12_countSet_22 : decode cX12_countSet 22 = .ok (.iadd, 1) := by decide +kernel
theorem dX12_countSet_23 : decode cX12_countSet 23 = .ok (.iastore, 1) := by decide +kernel
theorem dX12_countSet_24 : decode cX12_countSet 24 = .ok (.iload_n 2, 1) := by decide +kernel
theorem dX12_countSet_25 : decode cX12_countSet 25 = .ok (.ifCond .lt 13, 3) := by decide +kernel
theorem dX12_countSet_28 : decode cX12_countSet 28 = .ok (.aload_n 0, 1) := by decide +kernel
theorem dX12_countSet_29 : decode cX12_countSet 29 = .ok (.getfield 117, 3) := by decide +kernel
theorem dX12_countSet_32 : decode cX12_countSet 32 = .ok (.iload_n 2, 1) := by decide +kernel
theorem dX12_countSet_33 : decode cX12_countSet 33 = .ok (.dup2, 1) := by decide +kernel
theorem dX12_countSet_34 : decode cX12_countSet 34 = .ok (.iaload, 1) := by decide +kernel
theorem dX12_countSet_35 : decode cX12_countSet 35 = .ok (.iconst 1, 1) := by decide +kernel
theorem dX12_countSet_36 : decode cX12_countSet 36 = .ok (.iadd, 1) := by decide +kernel
theorem dX12_countSet_37 : decode cX12_countSet 37 = .ok (.iastore, 1) := by decide +kernel
theorem dX12_countSet_38 : decode cX12_countSet 38 = .ok (.return_, 1) := by decide +kernel
theorem dX12_counted_0 : decode cX12_counted 0 = .ok (.aload_n 0, 1) := by decide +kernel
theorem dX12_counted_1 : decode cX12_counted 1 = .ok (.invokevirtual 258, 3) := by decide +kernel
theorem dX12_counted_4 : decode cX12_counted 4 = .ok (.iconst 0, 1) := by decide +kernel
theorem dX12_counted_5 : decode cX12_counted 5 = .ok (.istore_n 2, 1) := by decide +kernel
theorem dX12_counted_6 : decode cX12_counted 6 = .ok (.iconst 0, 1) := by decide +kernel
theorem dX12_counted_7 : decode cX12_counted 7 = .ok (.istore_n 3, 1) := by decide +kernel
theorem dX12_counted_8 : decode cX12_counted 8 = .ok (.iload_n 3, 1) := by decide +kernel
theorem dX12_counted_9 : decode cX12_counted 9 = .ok (.aload_n 0, 1) := by decide +kernel
theorem dX12_counted_10 : decode cX12_counted 10 = .ok (.getfield 186, 3) := by decide +kernel
theorem dX12_counted_13 : decode cX12_counted 13 = .ok (.if_icmp .ge 31, 3) := by decide +kernel
theorem dX12_counted_16 : decode cX12_counted 16 = .ok (.iload_n 2, 1) := by decide +kernel
theorem dX12_counted_17 : decode cX12_counted 17 = .ok (.iload_n 1, 1) := by decide +kernel
theorem dX12_counted_18 : decode cX12_counted 18 = .ok (.iconst 3, 1) := by decide +kernel
theorem dX12_counted_19 : decode cX12_counted 19 = .ok (.if_icmp .ne 16, 3) := by decide +kernel
theorem dX12_counted_22 : decode cX12_counted 22 = .ok (.aload_n 0, 1) := by decide +kernel
theorem dX12_counted_23 : decode cX12_counted 23 = .ok (.getfield 50, 3) := by decide +kernel
theorem dX12_counted_26 : decode cX12_counted 26 = .ok (.iload_n 3, 1) := by decide +kernel
theorem dX12_counted_27 : decode cX12_counted 27 = .ok (.baload, 1) := by decide +kernel
theorem dX12_counted_28 : decode cX12_counted 28 = .ok (.ifCond .eq 7, 3) := by decide +kernel
theorem dX12_counted_31 : decode cX12_counted 31 = .ok (.iconst 1, 1) := by decide +kernel
theorem dX12_counted_32 : decode cX12_counted 32 = .ok (.goto 4, 3) := by decide +kernel
theorem dX12_counted_35 : decode cX12_counted 35 = .ok (.iconst 0, 1) := by decide +kernel
theorem dX12_counted_36 : decode cX12_counted 36 = .ok (.iadd, 1) := by decide +kernel
theorem dX12_counted_37 : decode cX12_counted 37 = .ok (.istore_n 2, 1) := by decide +kernel
theorem dX12_counted_38 : decode cX12_counted 38 = .ok (.iinc 3 1, 3) := by decide +kernel
theorem dX12_counted_41 : decode cX12_counted 41 = .ok (.goto (-33), 3) := by decide +kernel
theorem dX12_counted_44 : decode cX12_counted 44 = .ok (.iconst 0, 1) := by decide +kernel
theorem dX12_counted_45 : decode cX12_counted 45 = .ok (.istore_n 3, 1) := by decide +kernel
theorem dX12_counted_46 : decode cX12_counted 46 = .ok (.iload_n 3, 1) := by decide +kernel
theorem dX12_counted_47 : decode cX12_counted 47 = .ok (.aload_n 0, 1) := by decide +kernel
theorem dX12_counted_48 : decode cX12_counted 48 = .ok (.getfield 183, 3) := by decide +kernel
theorem dX12_counted_51 : decode cX12_counted 51 = .ok (.if_icmp .ge 65, 3) := by decide +kernel
theorem dX12_counted_54 : decode cX12_counted 54 = .ok (.aload_n 0, 1) := by decide +kernel
theorem dX12_counted_55 : decode cX12_counted 55 = .ok (.getfield 84, 3) := by decide +kernel
theorem dX12_counted_58 : decode cX12_counted 58 = .ok (.iload_n 3, 1) := by decide +kernel
theorem dX12_counted_59 : decode cX12_counted 59 = .ok (.laload, 1) := by decide +kernel
theorem dX12_counted_60 : decode cX12_counted 60 = .ok (.invokestatic 254, 3) := by decide +kernel
theorem dX12_counted_63 : decode cX12_counted 63 = .ok (.istore 4, 2) := by decide +kernel
theorem dX12_counted_65 : decode cX12_counted 65 = .ok (.iload_n 2, 1) := by decide +kernel
theorem dX12_counted_66 : decode cX12_counted 66 = .ok (.iload_n 1, 1) := by decide +kernel
theorem dX12_counted_67 : decode cX12_counted 67 = .ok (.iconst 5, 1) := by decide +kernel
theorem dX12_counted_68 : decode cX12_counted 68 = .ok (.if_icmp .ne 9, 3) := by decide +kernel
theorem dX12_counted_71 : decode cX12_counted 71 = .ok (.iload 4, 2) := by decide +kernel
theorem dX12_counted_73 : decode cX12_counted 73 = .ok (.iconst 1, 1) := by decide +kernel
theorem dX12_counted_74 : decode cX12_counted 74 = .ok (.if_icmp .eq 18, 3) := by decide +kernel
theorem dX12_counted_77 : decode cX12_counted 77 = .ok (.iload_n 1, 1) := by decide +kernel
theorem dX12_counted_78 : decode cX12_counted 78 = .ok (.bipush 7, 2) := by decide +kernel
theorem dX12_counted_80 : decode cX12_counted 80 = .ok (.if_icmp .ne 16, 3) := by decide +kernel
theorem dX12_counted_83 : decode cX12_counted 83 = .ok (.aload_n 0, 1) := by decide +kernel
theorem dX12_counted_84 : decode cX12_counted 84 = .ok (.getfield 32, 3) := by decide +kernel
theorem dX12_counted_87 : decode cX12_counted 87 = .ok (.iload_n 3, 1) := by decide +kernel
theorem dX12_counted_88 : decode cX12_counted 88 = .ok (.iaload, 1) := by decide +kernel
theorem dX12_counted_89 : decode cX12_counted 89 = .ok (.ifCond .lt 7, 3) := by decide +kernel
theorem dX12_counted_92 : decode cX12_counted 92 = .ok (.iconst 1, 1) := by decide +kernel
theorem dX12_counted_93 : decode cX12_counted 93 = .ok (.goto 15, 3) := by decide +kernel
theorem dX12_counted_96 : decode cX12_counted 96 = .ok (.iload_n 1, 1) := by decide +kernel
theorem dX12_counted_97 : decode cX12_counted 97 = .ok (.bipush 6, 2) := by decide +kernel
theorem dX12_counted_99 : decode cX12_counted 99 = .ok (.if_icmp .ne 8, 3) := by decide +kernel
theorem dX12_counted_102 : decode cX12_counted 102 = .ok (.iload 4, 2) := by decide +kernel
theorem dX12_counted_104 : decode cX12_counted 104 = .ok (.goto 4, 3) := by decide +kernel
theorem dX12_counted_107 : decode cX12_counted 107 = .ok (.iconst 0, 1) := by decide +kernel
theorem dX12_counted_108 : decode cX12_counted 108 = .ok (.iadd, 1) := by decide +kernel
theorem dX12_counted_109 : decode cX12_counted 109 = .ok (.istore_n 2, 1) := by decide +kernel
theorem dX12_counted_110 : decode cX12_counted 110 = .ok (.iinc 3 1, 3) := by decide +kernel
theorem dX12_counted_113 : decode cX12_counted 113 = .ok (.goto (-67), 3) := by decide +kernel
theorem dX12_counted_116 : decode cX12_counted 116 = .ok (.iconst 0, 1) := by decide +kernel
theorem dX12_counted_117 : decode cX12_counted 117 = .ok (.istore_n 3, 1) := by decide +kernel
theorem dX12_counted_118 : decode cX12_counted 118 = .ok (.iload_n 3, 1) := by decide +kernel
theorem dX12_counted_119 : decode cX12_counted 119 = .ok (.bipush 8, 2) := by decide +kernel
theorem dX12_counted_121 : decode cX12_counted 121 = .ok (.if_icmp .ge 32, 3) := by decide +kernel
theorem dX12_counted_124 : decode cX12_counted 124 = .ok (.iload_n 2, 1) := by decide +kernel
theorem dX12_counted_125 : decode cX12_counted 125 = .ok (.iload_n 1, 1) := by decide +kernel
theorem dX12_counted_126 : decode cX12_counted 126 = .ok (.bipush 8, 2) := by decide +kernel
theorem dX12_counted_128 : decode cX12_counted 128 = .ok (.if_icmp .ne 16, 3) := by decide +kernel
theorem dX12_counted_131 : decode cX12_counted 131 = .ok (.aload_n 0, 1) := by decide +kernel
theorem dX12_counted_132 : decode cX12_counted 132 = .ok (.getfield 126, 3) := by decide +kernel
theorem dX12_counted_135 : decode cX12_counted 135 = .ok (.iload_n 3, 1) := by decide +kernel
theorem dX12_counted_136 : decode cX12_counted 136 = .ok (.iaload, 1) := by decide +kernel
theorem dX12_counted_137 : decode cX12_counted 137 = .ok (.ifCond .lt 7, 3) := by decide +kernel
theorem dX12_counted_140 : decode cX12_counted 140 = .ok (.iconst 1, 1) := by decide +kernel
theorem dX12_counted_141 : decode cX12_counted 141 = .ok (.goto 4, 3) := by decide +kernel
theorem dX12_counted_144 : decode cX12_counted 144 = .ok (.iconst 0, 1) := by decide +kernel
theorem dX12_counted_145 : decode cX12_counted 145 = .ok (.iadd, 1) := by decide +kernel
theorem dX12_counted_146 : decode cX12_counted 146 = .ok (.istore_n 2, 1) := by decide +kernel
theorem dX12_counted_147 : decode cX12_counted 147 = .ok (.iinc 3 1, 3) := by decide +kernel
theorem dX12_counted_150 : decode cX12_counted 150 = .ok (.goto (-32), 3) := by decide +kernel
theorem dX12_counted_153 : decode cX12_counted 153 = .ok (.iload_n 2, 1) := by decide +kernel
theorem dX12_counted_154 : decode cX12_counted 154 = .ok (.ireturn, 1) := by decide +kernel
theorem dX12_differs_0 : decode cX12_differs 0 = .ok (.lload_n 0, 1) := by decide +kernel
theorem dX12_differs_1 : decode cX12_differs 1 = .ok (.lload_n 2, 1) := by decide +kernel
theorem dX12_differs_2 : decode cX12_differs 2 = .ok (.lcmp, 1) := by decide +kernel
theorem dX12_differs_3 : decode cX12_differs 3 = .ok (.ifCond .eq 7, 3) := by decide +kernel
theorem dX12_differs_6 : decode cX12_differs 6 = .ok (.iconst 1, 1) := by decide +kernel
theorem dX12_differs_7 : decode cX12_differs 7 = .ok (.goto 4, 3) := by decide +kernel
theorem dX12_differs_10 : decode cX12_differs 10 = .ok (.iconst 0, 1) := by decide +kernel
theorem dX12_differs_11 : decode cX12_differs 11 = .ok (.ireturn, 1) := by decide +kernel
theorem dX12_distance_0 : decode cX12_distance 0 = .ok (.iload_n 0, 1) := by decide +kernel
theorem dX12_distance_1 : decode cX12_distance 1 = .ok (.bipush 8, 2) := by decide +kernel
theorem dX12_distance_3 : decode cX12_distance 3 = .ok (.irem, 1) := by decide +kernel
theorem dX12_distance_4 : decode cX12_distance 4 = .ok (.iload_n 1, 1) := by decide +kernel
theorem dX12_distance_5 : decode cX12_distance 5 = .ok (.bipush 8, 2) := by decide +kernel
theorem dX12_distance_7 : decode cX12_distance 7 = .ok (.irem, 1) := by decide +kernel
theorem dX12_distance_8 : decode cX12_distance 8 = .ok (.isub, 1) := by decide +kernel
theorem dX12_distance_9 : decode cX12_distance 9 = .ok (.istore_n 2, 1) := by decide +kernel
theorem dX12_distance_10 : decode cX12_distance 10 = .ok (.iload_n 0, 1) := by decide +kernel
theorem dX12_distance_11 : decode cX12_distance 11 = .ok (.bipush 8, 2) := by decide +kernel
theorem dX12_distance_13 : decode cX12_distance 13 = .ok (.idiv, 1) := by decide +kernel
theorem dX12_distance_14 : decode cX12_distance 14 = .ok (.iload_n 1, 1) := by decide +kernel
theorem dX12_distance_15 : decode cX12_distance 15 = .ok (.bipush 8, 2) := by decide +kernel
theorem dX12_distance_17 : decode cX12_distance 17 = .ok (.idiv, 1) := by decide +kernel
theorem dX12_distance_18 : decode cX12_distance 18 = .ok (.isub, 1) := by decide +kernel
theorem dX12_distance_19 : decode cX12_distance 19 = .ok (.istore_n 3, 1) := by decide +kernel
theorem dX12_distance_20 : decode cX12_distance 20 = .ok (.iload_n 2, 1) := by decide +kernel
theorem dX12_distance_21 : decode cX12_distance 21 = .ok (.iload_n 2, 1) := by decide +kernel
theorem dX12_distance_22 : decode cX12_distance 22 = .ok (.imul, 1) := by decide +kernel
theorem dX12_distance_23 : decode cX12_distance 23 = .ok (.iload_n 3, 1) := by decide +kernel
theorem dX12_distance_24 : decode cX12_distance 24 = .ok (.iload_n 3, 1) := by decide +kernel
theorem dX12_distance_25 : decode cX12_distance 25 = .ok (.imul, 1) := by decide +kernel
theorem dX12_distance_26 : decode cX12_distance 26 = .ok (.iadd, 1) := by decide +kernel
theorem dX12_distance_27 : decode cX12_distance 27 = .ok (.ireturn, 1) := by decide +kernel
theorem dX12_failed_0 : decode cX12_failed 0 = .ok (.aload_n 0, 1) := by decide +kernel
theorem dX12_failed_1 : decode cX12_failed 1 = .ok (.iload_n 1, 1) := by decide +kernel
theorem dX12_failed_2 : decode cX12_failed 2 = .ok (.putfield 166, 3) := by decide +kernel
theorem dX12_failed_5 : decode cX12_failed 5 = .ok (.bipush (-10), 2) := by decide +kernel
theorem dX12_failed_7 : decode cX12_failed 7 = .ok (.iload_n 1, 1) := by decide +kernel
theorem dX12_failed_8 : decode cX12_failed 8 = .ok (.isub, 1) := by decide +kernel
theorem dX12_failed_9 : decode cX12_failed 9 = .ok (.ireturn, 1) := by decide +kernel
theorem dX12_failedLong_0 : decode cX12_failedLong 0 = .ok (.aload_n 0, 1) := by decide +kernel
theorem dX12_failedLong_1 : decode cX12_failedLong 1 = .ok (.iload_n 1, 1) := by decide +kernel
theorem dX12_failedLong_2 : decode cX12_failedLong 2 = .ok (.putfield 166, 3) := by decide +kernel
theorem dX12_failedLong_5 : decode cX12_failedLong 5 = .ok (.invokestatic 169, 3) := by decide +kernel
theorem dX12_failedLong_8 : decode cX12_failedLong 8 = .ok (.lreturn, 1) := by decide +kernel
theorem dX12_fault_0 : decode cX12_fault 0 = .ok (.aload_n 0, 1) := by decide +kernel
theorem dX12_fault_1 : decode cX12_fault 1 = .ok (.getfield 166, 3) := by decide +kernel
theorem dX12_fault_4 : decode cX12_fault 4 = .ok (.ireturn, 1) := by decide +kernel
theorem dX12_faultOf_0 : decode cX12_faultOf 0 = .ok (.aload_n 0, 1) := by decide +kernel
theorem dX12_faultOf_1 : decode cX12_faultOf 1 = .ok (.getfield 126, 3) := by decide +kernel
theorem dX12_faultOf_4 : decode cX12_faultOf 4 = .ok (.iload_n 1, 1) := by decide +kernel
theorem dX12_faultOf_5 : decode cX12_faultOf 5 = .ok (.iaload, 1) := by decide +kernel
theorem dX12_faultOf_6 : decode cX12_faultOf 6 = .ok (.ifCond .ge 7, 3) := by decide +kernel
theorem dX12_faultOf_9 : decode cX12_faultOf 9 = .ok (.iconst 1, 1) := by decide +kernel
theorem dX12_faultOf_10 : decode cX12_faultOf 10 = .ok (.goto 18, 3) := by decide +kernel
theorem dX12_faultOf_13 : decode cX12_faultOf 13 = .ok (.aload_n 0, 1) := by decide +kernel
theorem dX12_faultOf_14 : decode cX12_faultOf 14 = .ok (.getfield 126, 3) := by decide +kernel
theorem dX12_faultOf_17 : decode cX12_faultOf 17 = .ok (.iload_n 1, 1) := by decide +kernel
theorem dX12_faultOf_18 : decode cX12_faultOf 18 = .ok (.iaload, 1) := by decide +kernel
theorem dX12_faultOf_19 : decode cX12_faultOf 19 = .ok (.iload_n 2, 1) := by decide +kernel
theorem dX12_faultOf_20 : decode cX12_faultOf 20 = .ok (.if_icmp .ne 7, 3) := by decide +kernel
theorem dX12_faultOf_23 : decode cX12_faultOf 23 = .ok (.iconst 0, 1) := by decide +kernel
theorem dX12_faultOf_24 : decode cX12_faultOf 24 = .ok (.goto 4, 3) := by decide +kernel
theorem dX12_faultOf_27 : decode cX12_faultOf 27 = .ok (.iconst 2, 1) := by decide +kernel
theorem dX12_faultOf_28 : decode cX12_faultOf 28 = .ok (.ireturn, 1) := by decide +kernel
theorem dX12_field_0 : decode cX12_field 0 = .ok (.iload_n 1, 1) := by decide +kernel
theorem dX12_field_1 : decode cX12_field 1 = .ok (.i2l, 1) := by decide +kernel
theorem dX12_field_2 : decode cX12_field 2 = .ok (.lconst 1, 1) := by decide +kernel
theorem dX12_field_3 : decode cX12_field 3 = .ok (.ldc2_w 202, 3) := by decide +kernel
theorem dX12_field_6 : decode cX12_field 6 = .ok (.invokestatic 175, 3) := by decide +kernel
theorem dX12_field_9 : decode cX12_field 9 = .ok (.ifCond .eq 15, 3) := by decide +kernel
theorem dX12_field_12 : decode cX12_field 12 = .ok (.iload_n 2, 1) := by decide +kernel
theorem dX12_field_13 : decode cX12_field 13 = .ok (.i2l, 1) := by decide +kernel
theorem dX12_field_14 : decode cX12_field 14 = .ok (.lconst 1, 1) := by decide +kernel
theorem dX12_field_15 : decode cX12_field 15 = .ok (.ldc2_w 202, 3) := by decide +kernel
theorem dX12_field_18 : decode cX12_field 18 = .ok (.invokestatic 175, 3) := by decide +kernel
theorem dX12_field_21 : decode cX12_field 21 = .ok (.ifCond .ne 6, 3) := by decide +kernel
theorem dX12_field_24 : decode cX12_field 24 = .ok (.bipush (-2), 2) := by decide +kernel
theorem dX12_field_26 : decode cX12_field 26 = .ok (.ireturn, 1) := by decide +kernel
theorem dX12_field_27 : decode cX12_field 27 = .ok (.aload_n 0, 1) := by decide +kernel
theorem dX12_field_28 : decode cX12_field 28 = .ok (.iload_n 1, 1) := by decide +kernel
theorem dX12_field_29 : decode cX12_field 29 = .ok (.putfield 153, 3) := by decide +kernel
theorem dX12_field_32 : decode cX12_field 32 = .ok (.aload_n 0, 1) := by decide +kernel
theorem dX12_field_33 : decode cX12_field 33 = .ok (.iload_n 2, 1) := by decide +kernel
theorem dX12_field_34 : decode cX12_field 34 = .ok (.putfield 157, 3) := by decide +kernel
theorem dX12_field_37 : decode cX12_field 37 = .ok (.iconst 0, 1) := by decide +kernel
theorem dX12_field_38 : decode cX12_field 38 = .ok (.istore_n 3, 1) := by decide +kernel
theorem dX12_field_39 : decode cX12_field 39 = .ok (.iload_n 3, 1) := by decide +kernel
theorem dX12_field_40 : decode cX12_field 40 = .ok (.bipush 64, 2) := by decide +kernel
theorem dX12_field_42 : decode cX12_field 42 = .ok (.if_icmp .ge 16, 3) := by decide +kernel
theorem dX12_field_45 : decode cX12_field 45 = .ok (.aload_n 0, 1) := by decide +kernel
theorem dX12_field_46 : decode cX12_field 46 = .ok (.getfield 7, 3) := by decide +kernel
theorem dX12_field_49 : decode cX12_field 49 = .ok (.iload_n 3, 1) := by decide +kernel
theorem dX12_field_50 : decode cX12_field 50 = .ok (.iconst 0, 1) := by decide +kernel
theorem dX12_field_51 : decode cX12_field 51 = .ok (.bastore, 1) := by decide +kernel
theorem dX12_field_52 : decode cX12_field 52 = .ok (.iinc 3 1, 3) := by decide +kernel
theorem dX12_field_55 : decode cX12_field 55 = .ok (.goto (-16), 3) := by decide +kernel
theorem dX12_field_58 : decode cX12_field 58 = .ok (.aload_n 0, 1) := by decide +kernel
theorem dX12_field_59 : decode cX12_field 59 = .ok (.iconst 0, 1) := by decide +kernel
theorem dX12_field_60 : decode cX12_field 60 = .ok (.putfield 183, 3) := by decide +kernel
theorem dX12_field_63 : decode cX12_field 63 = .ok (.aload_n 0, 1) := by decide +kernel
theorem dX12_field_64 : decode cX12_field 64 = .ok (.iconst 0, 1) := by decide +kernel
theorem dX12_field_65 : decode cX12_field 65 = .ok (.putfield 186, 3) := by decide +kernel
theorem dX12_field_68 : decode cX12_field 68 = .ok (.aload_n 0, 1) := by decide +kernel
theorem dX12_field_69 : decode cX12_field 69 = .ok (.iconst 0, 1) := by decide +kernel
theorem dX12_field_70 : decode cX12_field 70 = .ok (.putfield 204, 3) := by decide +kernel
theorem dX12_field_73 : decode cX12_field 73 = .ok (.aload_n 0, 1) := by decide +kernel
theorem dX12_field_74 : decode cX12_field 74 = .ok (.iconst 0, 1) := by decide +kernel
theorem dX12_field_75 : decode cX12_field 75 = .ok (.putfield 207, 3) := by decide +kernel
theorem dX12_field_78 : decode cX12_field 78 = .ok (.iconst 0, 1) := by decide +kernel
theorem dX12_field_79 : decode cX12_field 79 = .ok (.istore_n 3, 1) := by decide +kernel
theorem dX12_field_80 : decode cX12_field 80 = .ok (.iload_n 3, 1) := by decide +kernel
theorem dX12_field_81 : decode cX12_field 81 = .ok (.bipush 24, 2) := by decide +kernel
theorem dX12_field_83 : decode cX12_field 83 = .ok (.if_icmp .ge 24, 3) := by decide +kernel
theorem dX12_field_86 : decode cX12_field 86 = .ok (.aload_n 0, 1) := by decide +kernel
theorem dX12_field_87 : decode cX12_field 87 = .ok (.getfield 32, 3) := by decide +kernel
theorem dX12_field_90 : decode cX12_field 90 = .ok (.iload_n 3, 1) := by decide +kernel
theorem dX12_field_91 : decode cX12_field 91 = .ok (.bipush (-9), 2) := by decide +kernel
theorem dX12_field_93 : decode cX12_field 93 = .ok (.iastore, 1) := by decide +kernel
theorem dX12_field_94 : decode cX12_field 94 = .ok (.aload_n 0, 1) := by decide +kernel
theorem dX12_field_95 : decode cX12_field 95 = .ok (.getfield 23, 3) := by decide +kernel
theorem dX12_field_98 : decode cX12_field 98 = .ok (.iload_n 3, 1) := by decide +kernel
theorem dX12_field_99 : decode cX12_field 99 = .ok (.iconst 0, 1) := by decide +kernel
theorem dX12_field_100 : decode cX12_field 100 = .ok (.bastore, 1) := by decide +kernel
theorem dX12_field_101 : decode cX12_field 101 = .ok (.iinc 3 1, 3) := by decide +kernel
theorem dX12_field_104 : decode cX12_field 104 = .ok (.goto (-24), 3) := by decide +kernel
theorem dX12_field_107 : decode cX12_field 107 = .ok (.aload_n 0, 1) := by decide +kernel
theorem dX12_field_108 : decode cX12_field 108 = .ok (.invokevirtual 210, 3) := by decide +kernel
theorem dX12_field_111 : decode cX12_field 111 = .ok (.iload_n 1, 1) := by decide +kernel
theorem dX12_field_112 : decode cX12_field 112 = .ok (.iload_n 2, 1) := by decide +kernel
theorem dX12_field_113 : decode cX12_field 113 = .ok (.imul, 1) := by decide +kernel
theorem dX12_field_114 : decode cX12_field 114 = .ok (.ireturn, 1) := by decide +kernel
theorem dX12_findNarrowed_0 : decode cX12_findNarrowed 0 = .ok (.aload_n 0, 1) := by decide +kernel
theorem dX12_findNarrowed_1 : decode cX12_findNarrowed 1 = .ok (.getfield 189, 3) := by decide +kernel
theorem dX12_findNarrowed_4 : decode cX12_findNarrowed 4 = .ok (.ifCond .eq 4, 3) := by decide +kernel
theorem dX12_findNarrowed_7 : decode cX12_findNarrowed 7 = .ok (.return_, 1) := by decide +kernel
theorem dX12_findNarrowed_8 : decode cX12_findNarrowed 8 = .ok (.aload_n 0, 1) := by decide +kernel
theorem dX12_findNarrowed_9 : decode cX12_findNarrowed 9 = .ok (.iconst 1, 1) := by decide +kernel
theorem dX12_findNarrowed_10 : decode cX12_findNarrowed 10 = .ok (.putfield 189, 3) := by decide +kernel
theorem dX12_findNarrowed_13 : decode cX12_findNarrowed 13 = .ok (.aload_n 0, 1) := by decide +kernel
theorem dX12_findNarrowed_14 : decode cX12_findNarrowed 14 = .ok (.invokevirtual 317, 3) := by decide +kernel
theorem dX12_findNarrowed_17 : decode cX12_findNarrowed 17 = .ok (.aload_n 0, 1) := by decide +kernel
theorem dX12_findNarrowed_18 : decode cX12_findNarrowed 18 = .ok (.invokevirtual 320, 3) := by decide +kernel
theorem dX12_findNarrowed_21 : decode cX12_findNarrowed 21 = .ok (.pop, 1) := by decide +kernel
theorem dX12_findNarrowed_22 : decode cX12_findNarrowed 22 = .ok (.iconst 0, 1) := by decide +kernel
theorem dX12_findNarrowed_23 : decode cX12_findNarrowed 23 = .ok (.istore_n 1, 1) := by decide +kernel
theorem dX12_findNarrowed_24 : decode cX12_findNarrowed 24 = .ok (.iload_n 1, 1) := by decide +kernel
theorem dX12_findNarrowed_25 : decode cX12_findNarrowed 25 = .ok (.aload_n 0, 1) := by decide +kernel
theorem dX12_findNarrowed_26 : decode cX12_findNarrowed 26 = .ok (.getfield 183, 3) := by decide +kernel
theorem dX12_findNarrowed_29 : decode cX12_findNarrowed 29 = .ok (.if_icmp .ge 21, 3) := by decide +kernel
theorem dX12_findNarrowed_32 : decode cX12_findNarrowed 32 = .ok (.aload_n 0, 1) := by decide +kernel
theorem dX12_findNarrowed_33 : decode cX12_findNarrowed 33 = .ok (.getfield 84, 3) := by decide +kernel
theorem dX12_findNarrowed_36 : decode cX12_findNarrowed 36 = .ok (.iload_n 1, 1) := by decide +kernel
theorem dX12_findNarrowed_37 : decode cX12_findNarrowed 37 = .ok (.aload_n 0, 1) := by decide +kernel
theorem dX12_findNarrowed_38 : decode cX12_findNarrowed 38 = .ok (.getfield 81, 3) := by decide +kernel
theorem dX12_findNarrowed_41 : decode cX12_findNarrowed 41 = .ok (.iload_n 1, 1) := by decide +kernel
theorem dX12_findNarrowed_42 : decode cX12_findNarrowed 42 = .ok (.laload, 1) := by decide +kernel
theorem dX12_findNarrowed_43 : decode cX12_findNarrowed 43 = .ok (.lastore, 1) := by decide +kernel
theorem dX12_findNarrowed_44 : decode cX12_findNarrowed 44 = .ok (.iinc 1 1, 3) := by decide +kernel
theorem dX12_findNarrowed_47 : decode cX12_findNarrowed 47 = .ok (.goto (-23), 3) := by decide +kernel
theorem dX12_findNarrowed_50 : decode cX12_findNarrowed 50 = .ok (.return_, 1) := by decide +kernel
theorem dX12_firstOf_0 : decode cX12_firstOf 0 = .ok (.iconst 0, 1) := by decide +kernel
theorem dX12_firstOf_1 : decode cX12_firstOf 1 = .ok (.istore_n 2, 1) := by decide +kernel
theorem dX12_firstOf_2 : decode cX12_firstOf 2 = .ok (.iload_n 2, 1) := by decide +kernel
theorem dX12_firstOf_3 : decode cX12_firstOf 3 = .ok (.bipush 64, 2) := by decide +kernel
theorem dX12_firstOf_5 : decode cX12_firstOf 5 = .ok (.if_icmp .ge 19, 3) := by decide +kernel
theorem dX12_firstOf_8 : decode cX12_firstOf 8 = .ok (.lload_n 0, 1) := by decide +kernel
theorem dX12_firstOf_9 : decode cX12_firstOf 9 = .ok (.iload_n 2, 1) := by decide +kernel
theorem dX12_firstOf_10 : decode cX12_firstOf 10 = .ok (.invokestatic 162, 3) := by decide +kernel
theorem dX12_firstOf_13 : decode cX12_firstOf 13 = .ok (.ifCond .eq 5, 3) := by decide +kernel
theorem dX12_firstOf_16 : decode cX12_firstOf 16 = .ok (.iload_n 2, 1) := by decide +kernel
theorem dX12_firstOf_17 : decode cX12_firstOf 17 = .ok (.ireturn, 1) := by decide +kernel
theorem dX12_firstOf_18 : decode cX12_firstOf 18 = .ok (.iinc 2 1, 3) := by decide +kernel
theorem dX12_firstOf_21 : decode cX12_firstOf 21 = .ok (.goto (-19), 3) := by decide +kernel
theorem dX12_firstOf_24 : decode cX12_firstOf 24 = .ok (.bipush (-9), 2) := by decide +kernel
theorem dX12_firstOf_26 : decode cX12_firstOf 26 = .ok (.ireturn, 1) := by decide +kernel
theorem dX12_flip_0 : decode cX12_flip 0 = .ok (.aload_n 0, 1) := by decide +kernel
theorem dX12_flip_1 : decode cX12_flip 1 = .ok (.iload_n 1, 1) := by decide +kernel
theorem dX12_flip_2 : decode cX12_flip 2 = .ok (.iload_n 2, 1) := by decide +kernel
theorem dX12_flip_3 : decode cX12_flip 3 = .ok (.invokevirtual 466, 3) := by decide +kernel
theorem dX12_flip_6 : decode cX12_flip 6 = .ok (.istore 4, 2) := by decide +kernel
theorem dX12_flip_8 : decode cX12_flip 8 = .ok (.iload 4, 2) := by decide +kernel
theorem dX12_flip_10 : decode cX12_flip 10 = .ok (.ifCond .ge 6, 3) := by decide +kernel
theorem dX12_flip_13 : decode cX12_flip 13 = .ok (.iload 4, 2) := by decide +kernel
theorem dX12_flip_15 : decode cX12_flip 15 = .ok (.ireturn, 1) := by decide +kernel
theorem dX12_flip_16 : decode cX12_flip 16 = .ok (.iload_n 3, 1) := by decide +kernel
theorem dX12_flip_17 : decode cX12_flip 17 = .ok (.tableswitch 51 0 3 #[31, 36, 41, 46], 31) := by decide +kernel
theorem dX12_flip_48 : decode cX12_flip 48 = .ok (.aload_n 0, 1) := by decide +kernel
theorem dX12_flip_49 : decode cX12_flip 49 = .ok (.getfield 439, 3) := by decide +kernel
theorem dX12_flip_52 : decode cX12_flip 52 = .ok (.ireturn, 1) := by decide +kernel
theorem dX12_flip_53 : decode cX12_flip 53 = .ok (.aload_n 0, 1) := by decide +kernel
theorem dX12_flip_54 : decode cX12_flip 54 = .ok (.getfield 442, 3) := by decide +kernel
theorem dX12_flip_57 : decode cX12_flip 57 = .ok (.ireturn, 1) := by decide +kernel
theorem dX12_flip_58 : decode cX12_flip 58 = .ok (.aload_n 0, 1) := by decide +kernel
theorem dX12_flip_59 : decode cX12_flip 59 = .ok (.getfield 448, 3) := by decide +kernel
theorem dX12_flip_62 : decode cX12_flip 62 = .ok (.ireturn, 1) := by decide +kernel
theorem dX12_flip_63 : decode cX12_flip 63 = .ok (.aload_n 0, 1) := by decide +kernel
theorem dX12_flip_64 : decode cX12_flip 64 = .ok (.getfield 445, 3) := by decide +kernel
theorem dX12_flip_67 : decode cX12_flip 67 = .ok (.ireturn, 1) := by decide +kernel
theorem dX12_flip_68 : decode cX12_flip 68 = .ok (.bipush (-2), 2) := by decide +kernel
theorem dX12_flip_70 : decode cX12_flip 70 = .ok (.ireturn, 1) := by decide +kernel
theorem dX12_flipped_0 : decode cX12_flipped 0 = .ok (.aload_n 0, 1) := by decide +kernel
theorem dX12_flipped_1 : decode cX12_flipped 1 = .ok (.iload_n 1, 1) := by decide +kernel
theorem dX12_flipped_2 : decode cX12_flipped 2 = .ok (.iload_n 2, 1) := by decide +kernel
theorem dX12_flipped_3 : decode cX12_flipped 3 = .ok (.invokevirtual 466, 3) := by decide +kernel
theorem dX12_flipped_6 : decode cX12_flipped 6 = .ok (.istore_n 3, 1) := by decide +kernel
theorem dX12_flipped_7 : decode cX12_flipped 7 = .ok (.iload_n 3, 1) := by decide +kernel
theorem dX12_flipped_8 : decode cX12_flipped 8 = .ok (.ifCond .ge 5, 3) := by decide +kernel
theorem dX12_flipped_11 : decode cX12_flipped 11 = .ok (.iload_n 3, 1) := by decide +kernel
theorem dX12_flipped_12 : decode cX12_flipped 12 = .ok (.ireturn, 1) := by decide +kernel
theorem dX12_flipped_13 : decode cX12_flipped 13 = .ok (.iconst 0, 1) := by decide +kernel
theorem dX12_flipped_14 : decode cX12_flipped 14 = .ok (.istore 4, 2) := by decide +kernel
theorem dX12_flipped_16 : decode cX12_flipped 16 = .ok (.iload 4, 2) := by decide +kernel
theorem dX12_flipped_18 : decode cX12_flipped 18 = .ok (.aload_n 0, 1) := by decide +kernel
theorem dX12_flipped_19 : decode cX12_flipped 19 = .ok (.getfield 183, 3) := by decide +kernel
theorem dX12_flipped_22 : decode cX12_flipped 22 = .ok (.if_icmp .ge 46, 3) := by decide +kernel
theorem dX12_flipped_25 : decode cX12_flipped 25 = .ok (.aload_n 0, 1) := by decide +kernel
theorem dX12_flipped_26 : decode cX12_flipped 26 = .ok (.getfield 32, 3) := by decide +kernel
theorem dX12_flipped_29 : decode cX12_flipped 29 = .ok (.iload 4, 2) := by decide +kernel
theorem dX12_flipped_31 : decode cX12_flipped 31 = .ok (.aload_n 0, 1) := by decide +kernel
theorem dX12_flipped_32 : decode cX12_flipped 32 = .ok (.getfield 445, 3) := by decide +kernel
theorem dX12_flipped_35 : decode cX12_flipped 35 = .ok (.i2l, 1) := by decide +kernel
theorem dX12_flipped_36 : decode cX12_flipped 36 = .ok (.iload 4, 2) := by decide +kernel
theorem dX12_flipped_38 : decode cX12_flipped 38 = .ok (.invokestatic 162, 3) := by decide +kernel
theorem dX12_flipped_41 : decode cX12_flipped 41 = .ok (.ifCond .eq 13, 3) := by decide +kernel
theorem dX12_flipped_44 : decode cX12_flipped 44 = .ok (.aload_n 0, 1) := by decide +kernel
theorem dX12_flipped_45 : decode cX12_flipped 45 = .ok (.getfield 111, 3) := by decide +kernel
theorem dX12_flipped_48 : decode cX12_flipped 48 = .ok (.iload 4, 2) := by decide +kernel
theorem dX12_flipped_50 : decode cX12_flipped 50 = .ok (.iaload, 1) := by decide +kernel
theorem dX12_flipped_51 : decode cX12_flipped 51 = .ok (.goto 10, 3) := by decide +kernel
theorem dX12_flipped_54 : decode cX12_flipped 54 = .ok (.aload_n 0, 1) := by decide +kernel
theorem dX12_flipped_55 : decode cX12_flipped 55 = .ok (.getfield 32, 3) := by decide +kernel
theorem dX12_flipped_58 : decode cX12_flipped 58 = .ok (.iload 4, 2) := by decide +kernel
theorem dX12_flipped_60 : decode cX12_flipped 60 = .ok (.iaload, 1) := by decide +kernel
theorem dX12_flipped_61 : decode cX12_flipped 61 = .ok (.iastore, 1) := by decide +kernel
theorem dX12_flipped_62 : decode cX12_flipped 62 = .ok (.iinc 4 1, 3) := by decide +kernel
theorem dX12_flipped_65 : decode cX12_flipped 65 = .ok (.goto (-49), 3) := by decide +kernel
theorem dX12_flipped_68 : decode cX12_flipped 68 = .ok (.aload_n 0, 1) := by decide +kernel
theorem dX12_flipped_69 : decode cX12_flipped 69 = .ok (.getfield 451, 3) := by decide +kernel
theorem dX12_flipped_72 : decode cX12_flipped 72 = .ok (.ireturn, 1) := by decide +kernel
theorem dX12_flips_0 : decode cX12_flips 0 = .ok (.aload_n 0, 1) := by decide +kernel
theorem dX12_flips_1 : decode cX12_flips 1 = .ok (.iload_n 1, 1) := by decide +kernel
theorem dX12_flips_2 : decode cX12_flips 2 = .ok (.invokevirtual 245, 3) := by decide +kernel
theorem dX12_flips_5 : decode cX12_flips 5 = .ok (.ifCond .eq 5, 3) := by decide +kernel
theorem dX12_flips_8 : decode cX12_flips 8 = .ok (.iconst (-1), 1) := by decide +kernel
theorem dX12_flips_9 : decode cX12_flips 9 = .ok (.ireturn, 1) := by decide +kernel
theorem dX12_flips_10 : decode cX12_flips 10 = .ok (.aload_n 0, 1) := by decide +kernel
theorem dX12_flips_11 : decode cX12_flips 11 = .ok (.iload_n 1, 1) := by decide +kernel
theorem dX12_flips_12 : decode cX12_flips 12 = .ok (.invokevirtual 460, 3) := by decide +kernel
theorem dX12_flips_15 : decode cX12_flips 15 = .ok (.ifCond .ne 6, 3) := by decide +kernel
theorem dX12_flips_18 : decode cX12_flips 18 = .ok (.bipush (-3), 2) := by decide +kernel
theorem dX12_flips_20 : decode cX12_flips 20 = .ok (.ireturn, 1) := by decide +kernel
theorem dX12_flips_21 : decode cX12_flips 21 = .ok (.aload_n 0, 1) := by decide +kernel
theorem dX12_flips_22 : decode cX12_flips 22 = .ok (.iload_n 1, 1) := by decide +kernel
theorem dX12_flips_23 : decode cX12_flips 23 = .ok (.iconst (-1), 1) := by decide +kernel
theorem dX12_flips_24 : decode cX12_flips 24 = .ok (.invokevirtual 463, 3) := by decide +kernel
theorem dX12_flips_27 : decode cX12_flips 27 = .ok (.aload_n 0, 1) := by decide +kernel
theorem dX12_flips_28 : decode cX12_flips 28 = .ok (.getfield 430, 3) := by decide +kernel
theorem dX12_flips_31 : decode cX12_flips 31 = .ok (.ireturn, 1) := by decide +kernel
theorem dX12_freeCells_0 : decode cX12_freeCells 0 = .ok (.iconst 0, 1) := by decide +kernel
theorem dX12_freeCells_1 : decode cX12_freeCells 1 = .ok (.istore_n 1, 1) := by decide +kernel
theorem dX12_freeCells_2 : decode cX12_freeCells 2 = .ok (.iconst 0, 1) := by decide +kernel
theorem dX12_freeCells_3 : decode cX12_freeCells 3 = .ok (.istore_n 2, 1) := by decide +kernel
theorem dX12_freeCells_4 : decode cX12_freeCells 4 = .ok (.iload_n 2, 1) := by decide +kernel
theorem dX12_freeCells_5 : decode cX12_freeCells 5 = .ok (.bipush 64, 2) := by decide +kernel
theorem dX12_freeCells_7 : decode cX12_freeCells 7 = .ok (.if_icmp .ge 25, 3) := by decide +kernel
theorem dX12_freeCells_10 : decode cX12_freeCells 10 = .ok (.iload_n 1, 1) := by decide +kernel
theorem dX12_freeCells_11 : decode cX12_freeCells 11 = .ok (.aload_n 0, 1) := by decide +kernel
theorem dX12_freeCells_12 : decode cX12_freeCells 12 = .ok (.iload_n 2, 1) := by decide +kernel
theorem dX12_freeCells_13 : decode cX12_freeCells 13 = .ok (.invokevirtual 216, 3) := by decide +kernel
theorem dX12_freeCells_16 : decode cX12_freeCells 16 = .ok (.ifCond .eq 7, 3) := by decide +kernel
theorem dX12_freeCells_19 : decode cX12_freeCells 19 = .ok (.iconst 1, 1) := by decide +kernel
theorem dX12_freeCells_20 : decode cX12_freeCells 20 = .ok (.goto 4, 3) := by decide +kernel
theorem dX12_freeCells_23 : decode cX12_freeCells 23 = .ok (.iconst 0, 1) := by decide +kernel
theorem dX12_freeCells_24 : decode cX12_freeCells 24 = .ok (.iadd, 1) := by decide +kernel
theorem dX12_freeCells_25 : decode cX12_freeCells 25 = .ok (.istore_n 1, 1) := by decide +kernel
theorem dX12_freeCells_26 : decode cX12_freeCells 26 = .ok (.iinc 2 1, 3) := by decide +kernel
theorem dX12_freeCells_29 : decode cX12_freeCells 29 = .ok (.goto (-25), 3) := by decide +kernel
theorem dX12_freeCells_32 : decode cX12_freeCells 32 = .ok (.iload_n 1, 1) := by decide +kernel
theorem dX12_freeCells_33 : decode cX12_freeCells 33 = .ok (.ireturn, 1) := by decide +kernel
theorem dX12_goThroughFlips_0 : decode cX12_goThroughFlips 0 = .ok (.aload_n 0, 1) := by decide +kernel
theorem dX12_goThroughFlips_1 : decode cX12_goThroughFlips 1 = .ok (.invokevirtual 311, 3) := by decide +kernel
theorem dX12_goThroughFlips_4 : decode cX12_goThroughFlips 4 = .ok (.aload_n 0, 1) := by decide +kernel
theorem dX12_goThroughFlips_5 : decode cX12_goThroughFlips 5 = .ok (.aload_n 0, 1) := by decide +kernel
theorem dX12_goThroughFlips_6 : decode cX12_goThroughFlips 6 = .ok (.iload_n 1, 1) := by decide +kernel
theorem dX12_goThroughFlips_7 : decode cX12_goThroughFlips 7 = .ok (.invokevirtual 330, 3) := by decide +kernel
theorem dX12_goThroughFlips_10 : decode cX12_goThroughFlips 10 = .ok (.putfield 403, 3) := by decide +kernel
theorem dX12_goThroughFlips_13 : decode cX12_goThroughFlips 13 = .ok (.aload_n 0, 1) := by decide +kernel
theorem dX12_goThroughFlips_14 : decode cX12_goThroughFlips 14 = .ok (.iconst 0, 1) := by decide +kernel
theorem dX12_goThroughFlips_15 : decode cX12_goThroughFlips 15 = .ok (.putfield 430, 3) := by decide +kernel
theorem dX12_goThroughFlips_18 : decode cX12_goThroughFlips 18 = .ok (.aload_n 0, 1) := by decide +kernel
theorem dX12_goThroughFlips_19 : decode cX12_goThroughFlips 19 = .ok (.iload_n 2, 1) := by decide +kernel
theorem dX12_goThroughFlips_20 : decode cX12_goThroughFlips 20 = .ok (.putfield 433, 3) := by decide +kernel
theorem dX12_goThroughFlips_23 : decode cX12_goThroughFlips 23 = .ok (.aload_n 0, 1) := by decide +kernel
theorem dX12_goThroughFlips_24 : decode cX12_goThroughFlips 24 = .ok (.iconst 0, 1) := by decide +kernel
theorem dX12_goThroughFlips_25 : decode cX12_goThroughFlips 25 = .ok (.putfield 397, 3) := by decide +kernel
theorem dX12_goThroughFlips_28 : decode cX12_goThroughFlips 28 = .ok (.aload_n 0, 1) := by decide +kernel
theorem dX12_goThroughFlips_29 : decode cX12_goThroughFlips 29 = .ok (.getfield 397, 3) := by decide +kernel
theorem dX12_goThroughFlips_32 : decode cX12_goThroughFlips 32 = .ok (.aload_n 0, 1) := by decide +kernel
theorem dX12_goThroughFlips_33 : decode cX12_goThroughFlips 33 = .ok (.getfield 183, 3) := by decide +kernel
theorem dX12_goThroughFlips_36 : decode cX12_goThroughFlips 36 = .ok (.if_icmp .ge 36, 3) := by decide +kernel
theorem dX12_goThroughFlips_39 : decode cX12_goThroughFlips 39 = .ok (.aload_n 0, 1) := by decide +kernel
theorem dX12_goThroughFlips_40 : decode cX12_goThroughFlips 40 = .ok (.iconst (-1), 1) := by decide +kernel
theorem dX12_goThroughFlips_41 : decode cX12_goThroughFlips 41 = .ok (.putfield 400, 3) := by decide +kernel
theorem dX12_goThroughFlips_44 : decode cX12_goThroughFlips 44 = .ok (.aload_n 0, 1) := by decide +kernel
theorem dX12_goThroughFlips_45 : decode cX12_goThroughFlips 45 = .ok (.aload_n 0, 1) := by decide +kernel
theorem dX12_goThroughFlips_46 : decode cX12_goThroughFlips 46 = .ok (.getfield 397, 3) := by decide +kernel
theorem dX12_goThroughFlips_49 : decode cX12_goThroughFlips 49 = .ok (.invokevirtual 454, 3) := by decide +kernel
theorem dX12_goThroughFlips_52 : decode cX12_goThroughFlips 52 = .ok (.ifCond .eq 7, 3) := by decide +kernel
theorem dX12_goThroughFlips_55 : decode cX12_goThroughFlips 55 = .ok (.aload_n 0, 1) := by decide +kernel
theorem dX12_goThroughFlips_56 : decode cX12_goThroughFlips 56 = .ok (.invokevirtual 457, 3) := by decide +kernel
theorem dX12_goThroughFlips_59 : decode cX12_goThroughFlips 59 = .ok (.aload_n 0, 1) := by decide +kernel
theorem dX12_goThroughFlips_60 : decode cX12_goThroughFlips 60 = .ok (.dup, 1) := by decide +kernel
theorem dX12_goThroughFlips_61 : decode cX12_goThroughFlips 61 = .ok (.getfield 397, 3) := by decide +kernel
theorem dX12_goThroughFlips_64 : decode cX12_goThroughFlips 64 = .ok (.iconst 1, 1) := by decide +kernel
theorem dX12_goThroughFlips_65 : decode cX12_goThroughFlips 65 = .ok (.iadd, 1) := by decide +kernel
theorem dX12_goThroughFlips_66 : decode cX12_goThroughFlips 66 = .ok (.putfield 397, 3) := by decide +kernel
theorem dX12_goThroughFlips_69 : decode cX12_goThroughFlips 69 = .ok (.goto (-41), 3) := by decide +kernel
theorem dX12_goThroughFlips_72 : decode cX12_goThroughFlips 72 = .ok (.aload_n 0, 1) := by decide +kernel
theorem dX12_goThroughFlips_73 : decode cX12_goThroughFlips 73 = .ok (.iconst 0, 1) := by decide +kernel
theorem dX12_goThroughFlips_74 : decode cX12_goThroughFlips 74 = .ok (.putfield 397, 3) := by decide +kernel
theorem dX12_goThroughFlips_77 : decode cX12_goThroughFlips 77 = .ok (.aload_n 0, 1) := by decide +kernel
theorem dX12_goThroughFlips_78 : decode cX12_goThroughFlips 78 = .ok (.getfield 397, 3) := by decide +kernel
theorem dX12_goThroughFlips_81 : decode cX12_goThroughFlips 81 = .ok (.aload_n 0, 1) := by decide +kernel
theorem dX12_goThroughFlips_82 : decode cX12_goThroughFlips 82 = .ok (.getfield 183, 3) := by decide +kernel
theorem dX12_goThroughFlips_85 : decode cX12_goThroughFlips 85 = .ok (.if_icmp .ge 76, 3) := by decide +kernel
theorem dX12_goThroughFlips_88 : decode cX12_goThroughFlips 88 = .ok (.aload_n 0, 1) := by decide +kernel
theorem dX12_goThroughFlips_89 : decode cX12_goThroughFlips 89 = .ok (.aload_n 0, 1) := by decide +kernel
theorem dX12_goThroughFlips_90 : decode cX12_goThroughFlips 90 = .ok (.getfield 397, 3) := by decide +kernel
theorem dX12_goThroughFlips_93 : decode cX12_goThroughFlips 93 = .ok (.iconst 1, 1) := by decide +kernel
theorem dX12_goThroughFlips_94 : decode cX12_goThroughFlips 94 = .ok (.iadd, 1) := by decide +kernel
theorem dX12_goThroughFlips_95 : decode cX12_goThroughFlips 95 = .ok (.putfield 400, 3) := by decide +kernel
theorem dX12_goThroughFlips_98 : decode cX12_goThroughFlips 98 = .ok (.aload_n 0, 1) := by decide +kernel
theorem dX12_goThroughFlips_99 : decode cX12_goThroughFlips 99 = .ok (.getfield 400, 3) := by decide +kernel
theorem dX12_goThroughFlips_102 : decode cX12_goThroughFlips 102 = .ok (.aload_n 0, 1) := by decide +kernel
theorem dX12_goThroughFlips_103 : decode cX12_goThroughFlips 103 = .ok (.getfield 183, 3) := by decide +kernel
theorem dX12_goThroughFlips_106 : decode cX12_goThroughFlips 106 = .ok (.if_icmp .ge 42, 3) := by decide +kernel
theorem dX12_goThroughFlips_109 : decode cX12_goThroughFlips 109 = .ok (.aload_n 0, 1) := by decide +kernel
theorem dX12_goThroughFlips_110 : decode cX12_goThroughFlips 110 = .ok (.aload_n 0, 1) := by decide +kernel
theorem dX12_goThroughFlips_111 : decode cX12_goThroughFlips 111 = .ok (.getfield 397, 3) := by decide +kernel
theorem dX12_goThroughFlips_114 : decode cX12_goThroughFlips 114 = .ok (.invokevirtual 454, 3) := by decide +kernel
theorem dX12_goThroughFlips_117 : decode cX12_goThroughFlips 117 = .ok (.ifCond .eq 18, 3) := by decide +kernel
theorem dX12_goThroughFlips_120 : decode cX12_goThroughFlips 120 = .ok (.aload_n 0, 1) := by decide +kernel
theorem dX12_goThroughFlips_121 : decode cX12_goThroughFlips 121 = .ok (.aload_n 0, 1) := by decide +kernel
theorem dX12_goThroughFlips_122 : decode cX12_goThroughFlips 122 = .ok (.getfield 400, 3) := by decide +kernel
theorem dX12_goThroughFlips_125 : decode cX12_goThroughFlips 125 = .ok (.invokevirtual 454, 3) := by decide +kernel
theorem dX12_goThroughFlips_128 : decode cX12_goThroughFlips 128 = .ok (.ifCond .eq 7, 3) := by decide +kernel
theorem dX12_goThroughFlips_131 : decode cX12_goThroughFlips 131 = .ok (.aload_n 0, 1) := by decide +kernel
theorem dX12_goThroughFlips_132 : decode cX12_goThroughFlips 132 = .ok (.invokevirtual 457, 3) := by decide +kernel
theorem dX12_goThroughFlips_135 : decode cX12_goThroughFlips 135 = .ok (.aload_n 0, 1) := by decide +kernel
theorem dX12_goThroughFlips_136 : decode cX12_goThroughFlips 136 = .ok (.dup, 1) := by decide +kernel
theorem dX12_goThroughFlips_137 : decode cX12_goThroughFlips 137 = .ok (.getfield 400, 3) := by decide +kernel
theorem dX12_goThroughFlips_140 : decode cX12_goThroughFlips 140 = .ok (.iconst 1, 1) := by decide +kernel
theorem dX12_goThroughFlips_141 : decode cX12_goThroughFlips 141 = .ok (.iadd, 1) := by decide +kernel
theorem dX12_goThroughFlips_142 : decode cX12_goThroughFlips 142 = .ok (.putfield 400, 3) := by decide +kernel
theorem dX12_goThroughFlips_145 : decode cX12_goThroughFlips 145 = .ok (.goto (-47), 3) := by decide +kernel
theorem dX12_goThroughFlips_148 : decode cX12_goThroughFlips 148 = .ok (.aload_n 0, 1) := by decide +kernel
theorem dX12_goThroughFlips_149 : decode cX12_goThroughFlips 149 = .ok (.dup, 1) := by decide +kernel
theorem dX12_goThroughFlips_150 : decode cX12_goThroughFlips 150 = .ok (.getfield 397, 3) := by decide +kernel
theorem dX12_goThroughFlips_153 : decode cX12_goThroughFlips 153 = .ok (.iconst 1, 1) := by decide +kernel
theorem dX12_goThroughFlips_154 : decode cX12_goThroughFlips 154 = .ok (.iadd, 1) := by decide +kernel
theorem dX12_goThroughFlips_155 : decode cX12_goThroughFlips 155 = .ok (.putfield 397, 3) := by decide +kernel
theorem dX12_goThroughFlips_158 : decode cX12_goThroughFlips 158 = .ok (.goto (-81), 3) := by decide +kernel
theorem dX12_goThroughFlips_161 : decode cX12_goThroughFlips 161 = .ok (.return_, 1) := by decide +kernel
theorem dX12_greater_0 : decode cX12_greater 0 = .ok (.iload_n 0, 1) := by decide +kernel
theorem dX12_greater_1 : decode cX12_greater 1 = .ok (.iload_n 1, 1) := by decide +kernel
theorem dX12_greater_2 : decode cX12_greater 2 = .ok (.if_icmp .le 7, 3) := by decide +kernel
theorem dX12_greater_5 : decode cX12_greater 5 = .ok (.iload_n 0, 1) := by decide +kernel
theorem dX12_greater_6 : decode cX12_greater 6 = .ok (.goto 4, 3) := by decide +kernel
theorem dX12_greater_9 : decode cX12_greater 9 = .ok (.iload_n 1, 1) := by decide +kernel
theorem dX12_greater_10 : decode cX12_greater 10 = .ok (.ireturn, 1) := by decide +kernel
theorem dX12_greet_0 : decode cX12_greet 0 = .ok (.iload_n 1, 1) := by decide +kernel
theorem dX12_greet_1 : decode cX12_greet 1 = .ok (.invokestatic 500, 3) := by decide +kernel
theorem dX12_greet_4 : decode cX12_greet 4 = .ok (.ifCond .eq 9, 3) := by decide +kernel
theorem dX12_greet_7 : decode cX12_greet 7 = .ok (.aload_n 0, 1) := by decide +kernel
theorem dX12_greet_8 : decode cX12_greet 8 = .ok (.iconst (-1), 1) := by decide +kernel
theorem dX12_greet_9 : decode cX12_greet 9 = .ok (.invokevirtual 222, 3) := by decide +kernel
theorem dX12_greet_12 : decode cX12_greet 12 = .ok (.ireturn, 1) := by decide +kernel
theorem dX12_greet_13 : decode cX12_greet 13 = .ok (.iload_n 2, 1) := by decide +kernel
theorem dX12_greet_14 : decode cX12_greet 14 = .ok (.i2l, 1) := by decide +kernel
theorem dX12_greet_15 : decode cX12_greet 15 = .ok (.lconst 0, 1) := by decide +kernel
theorem dX12_greet_16 : decode cX12_greet 16 = .ok (.lconst 1, 1) := by decide +kernel
theorem dX12_greet_17 : decode cX12_greet 17 = .ok (.invokestatic 175, 3) := by decide +kernel
theorem dX12_greet_20 : decode cX12_greet 20 = .ok (.ifCond .ne 10, 3) := by decide +kernel
theorem dX12_greet_23 : decode cX12_greet 23 = .ok (.aload_n 0, 1) := by decide +kernel
theorem dX12_greet_24 : decode cX12_greet 24 = .ok (.bipush (-2), 2) := by decide +kernel
theorem dX12_greet_26 : decode cX12_greet 26 = .ok (.invokevirtual 222, 3) := by decide +kernel
theorem dX12_greet_29 : decode cX12_greet 29 = .ok (.ireturn, 1) := by decide +kernel
theorem dX12_greet_30 : decode cX12_greet 30 = .ok (.aload_n 0, 1) := by decide +kernel
theorem dX12_greet_31 : decode cX12_greet 31 = .ok (.iload_n 1, 1) := by decide +kernel
theorem dX12_greet_32 : decode cX12_greet 32 = .ok (.iload_n 2, 1) := by decide +kernel
theorem dX12_greet_33 : decode cX12_greet 33 = .ok (.invokevirtual 512, 3) := by decide +kernel
theorem dX12_greet_36 : decode cX12_greet 36 = .ok (.ifCond .le 14, 3) := by decide +kernel
theorem dX12_greet_39 : decode cX12_greet 39 = .ok (.aload_n 0, 1) := by decide +kernel
theorem dX12_greet_40 : decode cX12_greet 40 = .ok (.aload_n 0, 1) := by decide +kernel
theorem dX12_greet_41 : decode cX12_greet 41 = .ok (.iload_n 1, 1) := by decide +kernel
theorem dX12_greet_42 : decode cX12_greet 42 = .ok (.iload_n 2, 1) := by decide +kernel
theorem dX12_greet_43 : decode cX12_greet 43 = .ok (.invokevirtual 512, 3) := by decide +kernel
theorem dX12_greet_46 : decode cX12_greet 46 = .ok (.invokevirtual 228, 3) := by decide +kernel
theorem dX12_greet_49 : decode cX12_greet 49 = .ok (.ireturn, 1) := by decide +kernel
theorem dX12_greet_50 : decode cX12_greet 50 = .ok (.aload_n 0, 1) := by decide +kernel
theorem dX12_greet_51 : decode cX12_greet 51 = .ok (.iload_n 2, 1) := by decide +kernel
theorem dX12_greet_52 : decode cX12_greet 52 = .ok (.ifCond .ne 11, 3) := by decide +kernel
theorem dX12_greet_55 : decode cX12_greet 55 = .ok (.aload_n 0, 1) := by decide +kernel
theorem dX12_greet_56 : decode cX12_greet 56 = .ok (.iload_n 1, 1) := by decide +kernel
theorem dX12_greet_57 : decode cX12_greet 57 = .ok (.invokevirtual 521, 3) := by decide +kernel
theorem dX12_greet_60 : decode cX12_greet 60 = .ok (.goto 8, 3) := by decide +kernel
theorem dX12_greet_63 : decode cX12_greet 63 = .ok (.aload_n 0, 1) := by decide +kernel
theorem dX12_greet_64 : decode cX12_greet 64 = .ok (.iload_n 1, 1) := by decide +kernel
theorem dX12_greet_65 : decode cX12_greet 65 = .ok (.invokevirtual 524, 3) := by decide +kernel
theorem dX12_greet_68 : decode cX12_greet 68 = .ok (.invokevirtual 222, 3) := by decide +kernel
theorem dX12_greet_71 : decode cX12_greet 71 = .ok (.ireturn, 1) := by decide +kernel
theorem dX12_greetThing_0 : decode cX12_greetThing 0 = .ok (.aload_n 0, 1) := by decide +kernel
theorem dX12_greetThing_1 : decode cX12_greetThing 1 = .ok (.getfield 132, 3) := by decide +kernel
theorem dX12_greetThing_4 : decode cX12_greetThing 4 = .ok (.iload_n 1, 1) := by decide +kernel
theorem dX12_greetThing_5 : decode cX12_greetThing 5 = .ok (.iaload, 1) := by decide +kernel
theorem dX12_greetThing_6 : decode cX12_greetThing 6 = .ok (.iconst 2, 1) := by decide +kernel
theorem dX12_greetThing_7 : decode cX12_greetThing 7 = .ok (.if_icmp .ne 9, 3) := by decide +kernel
theorem dX12_greetThing_10 : decode cX12_greetThing 10 = .ok (.aload_n 0, 1) := by decide +kernel
theorem dX12_greetThing_11 : decode cX12_greetThing 11 = .ok (.bipush 10, 2) := by decide +kernel
theorem dX12_greetThing_13 : decode cX12_greetThing 13 = .ok (.invokevirtual 509, 3) := by decide +kernel
theorem dX12_greetThing_16 : decode cX12_greetThing 16 = .ok (.aload_n 0, 1) := by decide +kernel
theorem dX12_greetThing_17 : decode cX12_greetThing 17 = .ok (.bipush 9, 2) := by decide +kernel
theorem dX12_greetThing_19 : decode cX12_greetThing 19 = .ok (.invokevirtual 509, 3) := by decide +kernel
theorem dX12_greetThing_22 : decode cX12_greetThing 22 = .ok (.aload_n 0, 1) := by decide +kernel
theorem dX12_greetThing_23 : decode cX12_greetThing 23 = .ok (.getfield 129, 3) := by decide +kernel
theorem dX12_greetThing_26 : decode cX12_greetThing 26 = .ok (.iload_n 1, 1) := by decide +kernel
theorem dX12_greetThing_27 : decode cX12_greetThing 27 = .ok (.iaload, 1) := by decide +kernel
theorem dX12_greetThing_28 : decode cX12_greetThing 28 = .ok (.aload_n 0, 1) := by decide +kernel
theorem dX12_greetThing_29 : decode cX12_greetThing 29 = .ok (.getfield 132, 3) := by decide +kernel
theorem dX12_greetThing_32 : decode cX12_greetThing 32 = .ok (.iload_n 1, 1) := by decide +kernel
theorem dX12_greetThing_33 : decode cX12_greetThing 33 = .ok (.iaload, 1) := by decide +kernel
theorem dX12_greetThing_34 : decode cX12_greetThing 34 = .ok (.iconst 2, 1) := by decide +kernel
theorem dX12_greetThing_35 : decode cX12_greetThing 35 = .ok (.if_icmp .ne 9, 3) := by decide +kernel
theorem dX12_greetThing_38 : decode cX12_greetThing 38 = .ok (.sipush 500, 3) := by decide +kernel
theorem dX12_greetThing_41 : decode cX12_greetThing 41 = .ok (.goto 4, 3) := by decide +kernel
theorem dX12_greetThing_44 : decode cX12_greetThing 44 = .ok (.iconst 0, 1) := by decide +kernel
theorem dX12_greetThing_45 : decode cX12_greetThing 45 = .ok (.iadd, 1) := by decide +kernel
theorem dX12_greetThing_46 : decode cX12_greetThing 46 = .ok (.ireturn, 1) := by decide +kernel
theorem dX12_group_0 : decode cX12_group 0 = .ok (.aload_n 0, 1) := by decide +kernel
theorem dX12_group_1 : decode cX12_group 1 = .ok (.iload_n 1, 1) := by decide +kernel
theorem dX12_group_2 : decode cX12_group 2 = .ok (.invokevirtual 245, 3) := by decide +kernel
theorem dX12_group_5 : decode cX12_group 5 = .ok (.ifCond .eq 7, 3) := by decide +kernel
theorem dX12_group_8 : decode cX12_group 8 = .ok (.iconst 0, 1) := by decide +kernel
theorem dX12_group_9 : decode cX12_group 9 = .ok (.goto 8, 3) := by decide +kernel
theorem dX12_group_12 : decode cX12_group 12 = .ok (.aload_n 0, 1) := by decide +kernel
theorem dX12_group_13 : decode cX12_group 13 = .ok (.iload_n 1, 1) := by decide +kernel
theorem dX12_group_14 : decode cX12_group 14 = .ok (.invokevirtual 330, 3) := by decide +kernel
theorem dX12_group_17 : decode cX12_group 17 = .ok (.ireturn, 1) := by decide +kernel
theorem dX12_groupOf_0 : decode cX12_groupOf 0 = .ok (.aload_n 0, 1) := by decide +kernel
theorem dX12_groupOf_1 : decode cX12_groupOf 1 = .ok (.getfield 13, 3) := by decide +kernel
theorem dX12_groupOf_4 : decode cX12_groupOf 4 = .ok (.iload_n 1, 1) := by decide +kernel
theorem dX12_groupOf_5 : decode cX12_groupOf 5 = .ok (.iaload, 1) := by decide +kernel
theorem dX12_groupOf_6 : decode cX12_groupOf 6 = .ok (.ifCond .le 7, 3) := by decide +kernel
theorem dX12_groupOf_9 : decode cX12_groupOf 9 = .ok (.iconst 1, 1) := by decide +kernel
theorem dX12_groupOf_10 : decode cX12_groupOf 10 = .ok (.iload_n 1, 1) := by decide +kernel
theorem dX12_groupOf_11 : decode cX12_groupOf 11 = .ok (.ishl, 1) := by decide +kernel
theorem dX12_groupOf_12 : decode cX12_groupOf 12 = .ok (.ireturn, 1) := by decide +kernel
theorem dX12_groupOf_13 : decode cX12_groupOf 13 = .ok (.iconst 1, 1) := by decide +kernel
theorem dX12_groupOf_14 : decode cX12_groupOf 14 = .ok (.iload_n 1, 1) := by decide +kernel
theorem dX12_groupOf_15 : decode cX12_groupOf 15 = .ok (.ishl, 1) := by decide +kernel
theorem dX12_groupOf_16 : decode cX12_groupOf 16 = .ok (.istore_n 2, 1) := by decide +kernel
theorem dX12_groupOf_17 : decode cX12_groupOf 17 = .ok (.iconst 0, 1) := by decide +kernel
theorem dX12_groupOf_18 : decode cX12_groupOf 18 = .ok (.istore_n 3, 1) := by decide +kernel
theorem dX12_groupOf_19 : decode cX12_groupOf 19 = .ok (.iload_n 3, 1) := by decide +kernel
theorem dX12_groupOf_20 : decode cX12_groupOf 20 = .ok (.iload_n 2, 1) := by decide +kernel
theorem dX12_groupOf_21 : decode cX12_groupOf 21 = .ok (.if_icmp .eq 130, 3) := by decide +kernel
theorem dX12_groupOf_24 : decode cX12_groupOf 24 = .ok (.iload_n 2, 1) := by decide +kernel
theorem dX12_groupOf_25 : decode cX12_groupOf 25 = .ok (.istore_n 3, 1) := by decide +kernel
theorem dX12_groupOf_26 : decode cX12_groupOf 26 = .ok (.iconst 0, 1) := by decide +kernel
theorem dX12_groupOf_27 : decode cX12_groupOf 27 = .ok (.istore 4, 2) := by decide +kernel
theorem dX12_groupOf_29 : decode cX12_groupOf 29 = .ok (.iload 4, 2) := by decide +kernel
theorem dX12_groupOf_31 : decode cX12_groupOf 31 = .ok (.aload_n 0, 1) := by decide +kernel
theorem dX12_groupOf_32 : decode cX12_groupOf 32 = .ok (.getfield 186, 3) := by decide +kernel
theorem dX12_groupOf_35 : decode cX12_groupOf 35 = .ok (.if_icmp .ge 113, 3) := by decide +kernel
theorem dX12_groupOf_38 : decode cX12_groupOf 38 = .ok (.aload_n 0, 1) := by decide +kernel
theorem dX12_groupOf_39 : decode cX12_groupOf 39 = .ok (.getfield 50, 3) := by decide +kernel
theorem dX12_groupOf_42 : decode cX12_groupOf 42 = .ok (.iload 4, 2) := by decide +kernel
theorem dX12_groupOf_44 : decode cX12_groupOf 44 = .ok (.baload, 1) := by decide +kernel
theorem dX12_groupOf_45 : decode cX12_groupOf 45 = .ok (.ifCond .eq 37, 3) := by decide +kernel
theorem dX12_groupOf_48 : decode cX12_groupOf 48 = .ok (.aload_n 0, 1) := by decide +kernel
theorem dX12_groupOf_49 : decode cX12_groupOf 49 = .ok (.getfield 13, 3) := by decide +kernel
theorem dX12_groupOf_52 : decode cX12_groupOf 52 = .ok (.aload_n 0, 1) := by decide +kernel
theorem dX12_groupOf_53 : decode cX12_groupOf 53 = .ok (.getfield 38, 3) := by decide +kernel
theorem dX12_groupOf_56 : decode cX12_groupOf 56 = .ok (.iload 4, 2) := by decide +kernel
theorem dX12_groupOf_58 : decode cX12_groupOf 58 = .ok (.iaload, 1) := by decide +kernel
theorem dX12_groupOf_59 : decode cX12_groupOf 59 = .ok (.iaload, 1) := by decide +kernel
theorem dX12_groupOf_60 : decode cX12_groupOf 60 = .ok (.ifCond .ne 22, 3) := by decide +kernel
theorem dX12_groupOf_63 : decode cX12_groupOf 63 = .ok (.aload_n 0, 1) := by decide +kernel
theorem dX12_groupOf_64 : decode cX12_groupOf 64 = .ok (.getfield 13, 3) := by decide +kernel
theorem dX12_groupOf_67 : decode cX12_groupOf 67 = .ok (.aload_n 0, 1) := by decide +kernel
theorem dX12_groupOf_68 : decode cX12_groupOf 68 = .ok (.getfield 41, 3) := by decide +kernel
theorem dX12_groupOf_71 : decode cX12_groupOf 71 = .ok (.iload 4, 2) := by decide +kernel
theorem dX12_groupOf_73 : decode cX12_groupOf 73 = .ok (.iaload, 1) := by decide +kernel
theorem dX12_groupOf_74 : decode cX12_groupOf 74 = .ok (.iaload, 1) := by decide +kernel
theorem dX12_groupOf_75 : decode cX12_groupOf 75 = .ok (.ifCond .ne 7, 3) := by decide +kernel
theorem dX12_groupOf_78 : decode cX12_groupOf 78 = .ok (.iconst 1, 1) := by decide +kernel
theorem dX12_groupOf_79 : decode cX12_groupOf 79 = .ok (.goto 4, 3) := by decide +kernel
theorem dX12_groupOf_82 : decode cX12_groupOf 82 = .ok (.iconst 0, 1) := by decide +kernel
theorem dX12_groupOf_83 : decode cX12_groupOf 83 = .ok (.istore 5, 2) := by decide +kernel
theorem dX12_groupOf_85 : decode cX12_groupOf 85 = .ok (.iload 5, 2) := by decide +kernel
theorem dX12_groupOf_87 : decode cX12_groupOf 87 = .ok (.ifCond .eq 55, 3) := by decide +kernel
theorem dX12_groupOf_90 : decode cX12_groupOf 90 = .ok (.iload_n 2, 1) := by decide +kernel
theorem dX12_groupOf_91 : decode cX12_groupOf 91 = .ok (.i2l, 1) := by decide +kernel
theorem dX12_groupOf_92 : decode cX12_groupOf 92 = .ok (.aload_n 0, 1) := by decide +kernel
theorem dX12_groupOf_93 : decode cX12_groupOf 93 = .ok (.getfield 38, 3) := by decide +kernel
theorem dX12_groupOf_96 : decode cX12_groupOf 96 = .ok (.iload 4, 2) := by decide +kernel
theorem dX12_groupOf_98 : decode cX12_groupOf 98 = .ok (.iaload, 1) := by decide +kernel
theorem dX12_groupOf_99 : decode cX12_groupOf 99 = .ok (.invokestatic 162, 3) := by decide +kernel
theorem dX12_groupOf_102 : decode cX12_groupOf 102 = .ok (.ifCond .ne 18, 3) := by decide +kernel
theorem dX12_groupOf_105 : decode cX12_groupOf 105 = .ok (.iload_n 2, 1) := by decide +kernel
theorem dX12_groupOf_106 : decode cX12_groupOf 106 = .ok (.i2l, 1) := by decide +kernel
theorem dX12_groupOf_107 : decode cX12_groupOf 107 = .ok (.aload_n 0, 1) := by decide +kernel
theorem dX12_groupOf_108 : decode cX12_groupOf 108 = .ok (.getfield 41, 3) := by decide +kernel
theorem dX12_groupOf_111 : decode cX12_groupOf 111 = .ok (.iload 4, 2) := by decide +kernel
theorem dX12_groupOf_113 : decode cX12_groupOf 113 = .ok (.iaload, 1) := by decide +kernel
theorem dX12_groupOf_114 : decode cX12_groupOf 114 = .ok (.invokestatic 162, 3) := by decide +kernel
theorem dX12_groupOf_117 : decode cX12_groupOf 117 = .ok (.ifCond .eq 25, 3) := by decide +kernel
theorem dX12_groupOf_120 : decode cX12_groupOf 120 = .ok (.iload_n 2, 1) := by decide +kernel
theorem dX12_groupOf_121 : decode cX12_groupOf 121 = .ok (.iconst 1, 1) := by decide +kernel
theorem dX12_groupOf_122 : decode cX12_groupOf 122 = .ok (.aload_n 0, 1) := by decide +kernel
theorem dX12_groupOf_123 : decode cX12_groupOf 123 = .ok (.getfield 38, 3) := by decide +kernel
theorem dX12_groupOf_126 : decode cX12_groupOf 126 = .ok (.iload 4, 2) := by decide +kernel
theorem dX12_groupOf_128 : decode cX12_groupOf 128 = .ok (.iaload, 1) := by decide +kernel
theorem dX12_groupOf_129 : decode cX12_groupOf 129 = .ok (.ishl, 1) := by decide +kernel
theorem dX12_groupOf_130 : decode cX12_groupOf 130 = .ok (.iconst 1, 1) := by decide +kernel
theorem dX12_groupOf_131 : decode cX12_groupOf 131 = .ok (.aload_n 0, 1) := by decide +kernel
theorem dX12_groupOf_132 : decode cX12_groupOf 132 = .ok (.getfield 41, 3) := by decide +kernel
theorem dX12_groupOf_135 : decode cX12_groupOf 135 = .ok (.iload 4, 2) := by decide +kernel
theorem dX12_groupOf_137 : decode cX12_groupOf 137 = .ok (.iaload, 1) := by decide +kernel
theorem dX12_groupOf_138 : decode cX12_groupOf 138 = .ok (.ishl, 1) := by decide +kernel
theorem dX12_groupOf_139 : decode cX12_groupOf 139 = .ok (.ior, 1) := by decide +kernel
theorem dX12_groupOf_140 : decode cX12_groupOf 140 = .ok (.ior, 1) := by decide +kernel
theorem dX12_groupOf_141 : decode cX12_groupOf 141 = .ok (.istore_n 2, 1) := by decide +kernel
theorem dX12_groupOf_142 : decode cX12_groupOf 142 = .ok (.iinc 4 1, 3) := by decide +kernel
theorem dX12_groupOf_145 : decode cX12_groupOf 145 = .ok (.goto (-116), 3) := by decide +kernel
theorem dX12_groupOf_148 : decode cX12_groupOf 148 = .ok (.goto (-129), 3) := by decide +kernel
theorem dX12_groupOf_151 : decode cX12_groupOf 151 = .ok (.iload_n 2, 1) := by decide +kernel
theorem dX12_groupOf_152 : decode cX12_groupOf 152 = .ok (.ireturn, 1) := by decide +kernel
theorem dX12_hasBit_0 : decode cX12_hasBit 0 = .ok (.lload_n 0, 1) := by decide +kernel
theorem dX12_hasBit_1 : decode cX12_hasBit 1 = .ok (.iload_n 2, 1) := by decide +kernel
theorem dX12_hasBit_2 : decode cX12_hasBit 2 = .ok (.lushr, 1) := by decide +kernel
theorem dX12_hasBit_3 : decode cX12_hasBit 3 = .ok (.lconst 1, 1) := by decide +kernel
theorem dX12_hasBit_4 : decode cX12_hasBit 4 = .ok (.land, 1) := by decide +kernel
theorem dX12_hasBit_5 : decode cX12_hasBit 5 = .ok (.lconst 1, 1) := by decide +kernel
theorem dX12_hasBit_6 : decode cX12_hasBit 6 = .ok (.lcmp, 1) := by decide +kernel
theorem dX12_hasBit_7 : decode cX12_hasBit 7 = .ok (.ifCond .ne 7, 3) := by decide +kernel
theorem dX12_hasBit_10 : decode cX12_hasBit 10 = .ok (.iconst 1, 1) := by decide +kernel
theorem dX12_hasBit_11 : decode cX12_hasBit 11 = .ok (.goto 4, 3) := by decide +kernel
theorem dX12_hasBit_14 : decode cX12_hasBit 14 = .ok (.iconst 0, 1) := by decide +kernel
theorem dX12_hasBit_15 : decode cX12_hasBit 15 = .ok (.ireturn, 1) := by decide +kernel
theorem dX12_hasLesserThere_0 : decode cX12_hasLesserThere 0 = .ok (.iconst 0, 1) := by decide +kernel
theorem dX12_hasLesserThere_1 : decode cX12_hasLesserThere 1 = .ok (.istore_n 2, 1) := by decide +kernel
theorem dX12_hasLesserThere_2 : decode cX12_hasLesserThere 2 = .ok (.iconst 0, 1) := by decide +kernel
theorem dX12_hasLesserThere_3 : decode cX12_hasLesserThere 3 = .ok (.istore_n 3, 1) := by decide +kernel
theorem dX12_hasLesserThere_4 : decode cX12_hasLesserThere 4 = .ok (.iload_n 3, 1) := by decide +kernel
theorem dX12_hasLesserThere_5 : decode cX12_hasLesserThere 5 = .ok (.iload_n 1, 1) := by decide +kernel
theorem dX12_hasLesserThere_6 : decode cX12_hasLesserThere 6 = .ok (.if_icmp .ge 43, 3) := by decide +kernel
theorem dX12_hasLesserThere_9 : decode cX12_hasLesserThere 9 = .ok (.iload_n 2, 1) := by decide +kernel
theorem dX12_hasLesserThere_10 : decode cX12_hasLesserThere 10 = .ok (.ifCond .ne 27, 3) := by decide +kernel
theorem dX12_hasLesserThere_13 : decode cX12_hasLesserThere 13 = .ok (.aload_n 0, 1) := by decide +kernel
theorem dX12_hasLesserThere_14 : decode cX12_hasLesserThere 14 = .ok (.getfield 32, 3) := by decide +kernel
theorem dX12_hasLesserThere_17 : decode cX12_hasLesserThere 17 = .ok (.iload_n 3, 1) := by decide +kernel
theorem dX12_hasLesserThere_18 : decode cX12_hasLesserThere 18 = .ok (.iaload, 1) := by decide +kernel
theorem dX12_hasLesserThere_19 : decode cX12_hasLesserThere 19 = .ok (.ifCond .lt 22, 3) := by decide +kernel
theorem dX12_hasLesserThere_22 : decode cX12_hasLesserThere 22 = .ok (.aload_n 0, 1) := by decide +kernel
theorem dX12_hasLesserThere_23 : decode cX12_hasLesserThere 23 = .ok (.getfield 32, 3) := by decide +kernel
theorem dX12_hasLesserThere_26 : decode cX12_hasLesserThere 26 = .ok (.iload_n 3, 1) := by decide +kernel
theorem dX12_hasLesserThere_27 : decode cX12_hasLesserThere 27 = .ok (.iaload, 1) := by decide +kernel
theorem dX12_hasLesserThere_28 : decode cX12_hasLesserThere 28 = .ok (.aload_n 0, 1) := by decide +kernel
theorem dX12_hasLesserThere_29 : decode cX12_hasLesserThere 29 = .ok (.getfield 32, 3) := by decide +kernel
theorem dX12_hasLesserThere_32 : decode cX12_hasLesserThere 32 = .ok (.iload_n 1, 1) := by decide +kernel
theorem dX12_hasLesserThere_33 : decode cX12_hasLesserThere 33 = .ok (.iaload, 1) := by decide +kernel
theorem dX12_hasLesserThere_34 : decode cX12_hasLesserThere 34 = .ok (.if_icmp .ne 7, 3) := by decide +kernel
theorem dX12_hasLesserThere_37 : decode cX12_hasLesserThere 37 = .ok (.iconst 1, 1) := by decide +kernel
theorem dX12_hasLesserThere_38 : decode cX12_hasLesserThere 38 = .ok (.goto 4, 3) := by decide +kernel
theorem dX12_hasLesserThere_41 : decode cX12_hasLesserThere 41 = .ok (.iconst 0, 1) := by decide +kernel
theorem dX12_hasLesserThere_42 : decode cX12_hasLesserThere 42 = .ok (.istore_n 2, 1) := by decide +kernel
theorem dX12_hasLesserThere_43 : decode cX12_hasLesserThere 43 = .ok (.iinc 3 1, 3) := by decide +kernel
theorem dX12_hasLesserThere_46 : decode cX12_hasLesserThere 46 = .ok (.goto (-42), 3) := by decide +kernel
theorem dX12_hasLesserThere_49 : decode cX12_hasLesserThere 49 = .ok (.iload_n 2, 1) := by decide +kernel
theorem dX12_hasLesserThere_50 : decode cX12_hasLesserThere 50 = .ok (.ireturn, 1) := by decide +kernel
theorem dX12_hold_0 : decode cX12_hold 0 = .ok (.iload_n 1, 1) := by decide +kernel
theorem dX12_hold_1 : decode cX12_hold 1 = .ok (.invokestatic 500, 3) := by decide +kernel
theorem dX12_hold_4 : decode cX12_hold 4 = .ok (.ifCond .eq 5, 3) := by decide +kernel
theorem dX12_hold_7 : decode cX12_hold 7 = .ok (.iconst (-1), 1) := by decide +kernel
theorem dX12_hold_8 : decode cX12_hold 8 = .ok (.ireturn, 1) := by decide +kernel
theorem dX12_hold_9 : decode cX12_hold 9 = .ok (.iload_n 2, 1) := by decide +kernel
theorem dX12_hold_10 : decode cX12_hold 10 = .ok (.i2l, 1) := by decide +kernel
theorem dX12_hold_11 : decode cX12_hold 11 = .ok (.lconst 0, 1) := by decide +kernel
theorem dX12_hold_12 : decode cX12_hold 12 = .ok (.lconst 1, 1) := by decide +kernel
theorem dX12_hold_13 : decode cX12_hold 13 = .ok (.invokestatic 175, 3) := by decide +kernel
theorem dX12_hold_16 : decode cX12_hold 16 = .ok (.ifCond .ne 6, 3) := by decide +kernel
theorem dX12_hold_19 : decode cX12_hold 19 = .ok (.bipush (-2), 2) := by decide +kernel
theorem dX12_hold_21 : decode cX12_hold 21 = .ok (.ireturn, 1) := by decide +kernel
theorem dX12_hold_22 : decode cX12_hold 22 = .ok (.iload_n 2, 1) := by decide +kernel
theorem dX12_hold_23 : decode cX12_hold 23 = .ok (.ifCond .ne 14, 3) := by decide +kernel
theorem dX12_hold_26 : decode cX12_hold 26 = .ok (.aload_n 0, 1) := by decide +kernel
theorem dX12_hold_27 : decode cX12_hold 27 = .ok (.iload_n 3, 1) := by decide +kernel
theorem dX12_hold_28 : decode cX12_hold 28 = .ok (.invokevirtual 245, 3) := by decide +kernel
theorem dX12_hold_31 : decode cX12_hold 31 = .ok (.ifCond .eq 16, 3) := by decide +kernel
theorem dX12_hold_34 : decode cX12_hold 34 = .ok (.goto 11, 3) := by decide +kernel
theorem dX12_hold_37 : decode cX12_hold 37 = .ok (.aload_n 0, 1) := by decide +kernel
theorem dX12_hold_38 : decode cX12_hold 38 = .ok (.iload_n 3, 1) := by decide +kernel
theorem dX12_hold_39 : decode cX12_hold 39 = .ok (.invokevirtual 304, 3) := by decide +kernel
theorem dX12_hold_42 : decode cX12_hold 42 = .ok (.ifCond .eq 5, 3) := by decide +kernel
theorem dX12_hold_45 : decode cX12_hold 45 = .ok (.iconst (-1), 1) := by decide +kernel
theorem dX12_hold_46 : decode cX12_hold 46 = .ok (.ireturn, 1) := by decide +kernel
theorem dX12_hold_47 : decode cX12_hold 47 = .ok (.aload_n 0, 1) := by decide +kernel
theorem dX12_hold_48 : decode cX12_hold 48 = .ok (.getfield 126, 3) := by decide +kernel
theorem dX12_hold_51 : decode cX12_hold 51 = .ok (.iload_n 1, 1) := by decide +kernel
theorem dX12_hold_52 : decode cX12_hold 52 = .ok (.iload_n 2, 1) := by decide +kernel
theorem dX12_hold_53 : decode cX12_hold 53 = .ok (.iastore, 1) := by decide +kernel
theorem dX12_hold_54 : decode cX12_hold 54 = .ok (.aload_n 0, 1) := by decide +kernel
theorem dX12_hold_55 : decode cX12_hold 55 = .ok (.getfield 129, 3) := by decide +kernel
theorem dX12_hold_58 : decode cX12_hold 58 = .ok (.iload_n 1, 1) := by decide +kernel
theorem dX12_hold_59 : decode cX12_hold 59 = .ok (.iload_n 3, 1) := by decide +kernel
theorem dX12_hold_60 : decode cX12_hold 60 = .ok (.iastore, 1) := by decide +kernel
theorem dX12_hold_61 : decode cX12_hold 61 = .ok (.aload_n 0, 1) := by decide +kernel
theorem dX12_hold_62 : decode cX12_hold 62 = .ok (.getfield 132, 3) := by decide +kernel
theorem dX12_hold_65 : decode cX12_hold 65 = .ok (.iload_n 1, 1) := by decide +kernel
theorem dX12_hold_66 : decode cX12_hold 66 = .ok (.iload_n 2, 1) := by decide +kernel
theorem dX12_hold_67 : decode cX12_hold 67 = .ok (.ifCond .ne 12, 3) := by decide +kernel
theorem dX12_hold_70 : decode cX12_hold 70 = .ok (.aload_n 0, 1) := by decide +kernel
theorem dX12_hold_71 : decode cX12_hold 71 = .ok (.getfield 13, 3) := by decide +kernel
theorem dX12_hold_74 : decode cX12_hold 74 = .ok (.iload_n 3, 1) := by decide +kernel
theorem dX12_hold_75 : decode cX12_hold 75 = .ok (.iaload, 1) := by decide +kernel
theorem dX12_hold_76 : decode cX12_hold 76 = .ok (.goto 9, 3) := by decide +kernel
theorem dX12_hold_79 : decode cX12_hold 79 = .ok (.aload_n 0, 1) := by decide +kernel
theorem dX12_hold_80 : decode cX12_hold 80 = .ok (.getfield 35, 3) := by decide +kernel
theorem dX12_hold_83 : decode cX12_hold 83 = .ok (.iload_n 3, 1) := by decide +kernel
theorem dX12_hold_84 : decode cX12_hold 84 = .ok (.iaload, 1) := by decide +kernel
theorem dX12_hold_85 : decode cX12_hold 85 = .ok (.iastore, 1) := by decide +kernel
theorem dX12_hold_86 : decode cX12_hold 86 = .ok (.aload_n 0, 1) := by decide +kernel
theorem dX12_hold_87 : decode cX12_hold 87 = .ok (.getfield 135, 3) := by decide +kernel
theorem dX12_hold_90 : decode cX12_hold 90 = .ok (.iload_n 1, 1) := by decide +kernel
theorem dX12_hold_91 : decode cX12_hold 91 = .ok (.iload_n 2, 1) := by decide +kernel
theorem dX12_hold_92 : decode cX12_hold 92 = .ok (.ifCond .ne 9, 3) := by decide +kernel
theorem dX12_hold_95 : decode cX12_hold 95 = .ok (.iconst 3, 1) := by decide +kernel
theorem dX12_hold_96 : decode cX12_hold 96 = .ok (.iload_n 3, 1) := by decide +kernel
theorem dX12_hold_97 : decode cX12_hold 97 = .ok (.imul, 1) := by decide +kernel
theorem dX12_hold_98 : decode cX12_hold 98 = .ok (.goto 16, 3) := by decide +kernel
theorem dX12_hold_101 : decode cX12_hold 101 = .ok (.aload_n 0, 1) := by decide +kernel
theorem dX12_hold_102 : decode cX12_hold 102 = .ok (.getfield 38, 3) := by decide +kernel
theorem dX12_hold_105 : decode cX12_hold 105 = .ok (.iload_n 3, 1) := by decide +kernel
theorem dX12_hold_106 : decode cX12_hold 106 = .ok (.iaload, 1) := by decide +kernel
theorem dX12_hold_107 : decode cX12_hold 107 = .ok (.aload_n 0, 1) := by decide +kernel
theorem dX12_hold_108 : decode cX12_hold 108 = .ok (.getfield 41, 3) := by decide +kernel
theorem dX12_hold_111 : decode cX12_hold 111 = .ok (.iload_n 3, 1) := by decide +kernel
theorem dX12_hold_112 : decode cX12_hold 112 = .ok (.iaload, 1) := by decide +kernel
theorem dX12_hold_113 : decode cX12_hold 113 = .ok (.iadd, 1) := by decide +kernel
theorem dX12_hold_114 : decode cX12_hold 114 = .ok (.iastore, 1) := by decide +kernel
theorem dX12_hold_115 : decode cX12_hold 115 = .ok (.aload_n 0, 1) := by decide +kernel
theorem dX12_hold_116 : decode cX12_hold 116 = .ok (.getfield 138, 3) := by decide +kernel
theorem dX12_hold_119 : decode cX12_hold 119 = .ok (.iload_n 1, 1) := by decide +kernel
theorem dX12_hold_120 : decode cX12_hold 120 = .ok (.iload_n 2, 1) := by decide +kernel
theorem dX12_hold_121 : decode cX12_hold 121 = .ok (.ifCond .ne 12, 3) := by decide +kernel
theorem dX12_hold_124 : decode cX12_hold 124 = .ok (.aload_n 0, 1) := by decide +kernel
theorem dX12_hold_125 : decode cX12_hold 125 = .ok (.getfield 17, 3) := by decide +kernel
theorem dX12_hold_128 : decode cX12_hold 128 = .ok (.iload_n 3, 1) := by decide +kernel
theorem dX12_hold_129 : decode cX12_hold 129 = .ok (.iaload, 1) := by decide +kernel
theorem dX12_hold_130 : decode cX12_hold 130 = .ok (.goto 16, 3) := by decide +kernel
theorem dX12_hold_133 : decode cX12_hold 133 = .ok (.aload_n 0, 1) := by decide +kernel
theorem dX12_hold_134 : decode cX12_hold 134 = .ok (.getfield 44, 3) := by decide +kernel
theorem dX12_hold_137 : decode cX12_hold 137 = .ok (.iload_n 3, 1) := by decide +kernel
theorem dX12_hold_138 : decode cX12_hold 138 = .ok (.iaload, 1) := by decide +kernel
theorem dX12_hold_139 : decode cX12_hold 139 = .ok (.aload_n 0, 1) := by decide +kernel
theorem dX12_hold_140 : decode cX12_hold 140 = .ok (.getfield 47, 3) := by decide +kernel
theorem dX12_hold_143 : decode cX12_hold 143 = .ok (.iload_n 3, 1) := by decide +kernel
theorem dX12_hold_144 : decode cX12_hold 144 = .ok (.iaload, 1) := by decide +kernel
theorem dX12_hold_145 : decode cX12_hold 145 = .ok (.iadd, 1) := by decide +kernel
theorem dX12_hold_146 : decode cX12_hold 146 = .ok (.iastore, 1) := by decide +kernel
theorem dX12_hold_147 : decode cX12_hold 147 = .ok (.iconst 1, 1) := by decide +kernel
theorem dX12_hold_148 : decode cX12_hold 148 = .ok (.ireturn, 1) := by decide +kernel
theorem dX12_hopFrom_0 : decode cX12_hopFrom 0 = .ok (.iconst 0, 1) := by decide +kernel
theorem dX12_hopFrom_1 : decode cX12_hopFrom 1 = .ok (.istore_n 3, 1) := by decide +kernel
theorem dX12_hopFrom_2 : decode cX12_hopFrom 2 = .ok (.iload_n 3, 1) := by decide +kernel
theorem dX12_hopFrom_3 : decode cX12_hopFrom 3 = .ok (.bipush 64, 2) := by decide +kernel
theorem dX12_hopFrom_5 : decode cX12_hopFrom 5 = .ok (.if_icmp .ge 16, 3) := by decide +kernel
theorem dX12_hopFrom_8 : decode cX12_hopFrom 8 = .ok (.aload_n 0, 1) := by decide +kernel
theorem dX12_hopFrom_9 : decode cX12_hopFrom 9 = .ok (.getfield 65, 3) := by decide +kernel
theorem dX12_hopFrom_12 : decode cX12_hopFrom 12 = .ok (.iload_n 3, 1) := by decide +kernel
theorem dX12_hopFrom_13 : decode cX12_hopFrom 13 = .ok (.iconst (-1), 1) := by decide +kernel
theorem dX12_hopFrom_14 : decode cX12_hopFrom 14 = .ok (.iastore, 1) := by decide +kernel
theorem dX12_hopFrom_15 : decode cX12_hopFrom 15 = .ok (.iinc 3 1, 3) := by decide +kernel
theorem dX12_hopFrom_18 : decode cX12_hopFrom 18 = .ok (.goto (-16), 3) := by decide +kernel
theorem dX12_hopFrom_21 : decode cX12_hopFrom 21 = .ok (.aload_n 0, 1) := by decide +kernel
theorem dX12_hopFrom_22 : decode cX12_hopFrom 22 = .ok (.getfield 65, 3) := by decide +kernel
theorem dX12_hopFrom_25 : decode cX12_hopFrom 25 = .ok (.iload_n 1, 1) := by decide +kernel
theorem dX12_hopFrom_26 : decode cX12_hopFrom 26 = .ok (.iconst 0, 1) := by decide +kernel
theorem dX12_hopFrom_27 : decode cX12_hopFrom 27 = .ok (.iastore, 1) := by decide +kernel
theorem dX12_hopFrom_28 : decode cX12_hopFrom 28 = .ok (.aload_n 0, 1) := by decide +kernel
theorem dX12_hopFrom_29 : decode cX12_hopFrom 29 = .ok (.getfield 68, 3) := by decide +kernel
theorem dX12_hopFrom_32 : decode cX12_hopFrom 32 = .ok (.iconst 0, 1) := by decide +kernel
theorem dX12_hopFrom_33 : decode cX12_hopFrom 33 = .ok (.iload_n 1, 1) := by decide +kernel
theorem dX12_hopFrom_34 : decode cX12_hopFrom 34 = .ok (.iastore, 1) := by decide +kernel
theorem dX12_hopFrom_35 : decode cX12_hopFrom 35 = .ok (.iconst 1, 1) := by decide +kernel
theorem dX12_hopFrom_36 : decode cX12_hopFrom 36 = .ok (.istore_n 3, 1) := by decide +kernel
theorem dX12_hopFrom_37 : decode cX12_hopFrom 37 = .ok (.iconst 0, 1) := by decide +kernel
theorem dX12_hopFrom_38 : decode cX12_hopFrom 38 = .ok (.istore 4, 2) := by decide +kernel
theorem dX12_hopFrom_40 : decode cX12_hopFrom 40 = .ok (.iload 4, 2) := by decide +kernel
theorem dX12_hopFrom_42 : decode cX12_hopFrom 42 = .ok (.iload_n 3, 1) := by decide +kernel
theorem dX12_hopFrom_43 : decode cX12_hopFrom 43 = .ok (.if_icmp .ge 92, 3) := by decide +kernel
theorem dX12_hopFrom_46 : decode cX12_hopFrom 46 = .ok (.iconst 0, 1) := by decide +kernel
theorem dX12_hopFrom_47 : decode cX12_hopFrom 47 = .ok (.istore 5, 2) := by decide +kernel
theorem dX12_hopFrom_49 : decode cX12_hopFrom 49 = .ok (.iload 5, 2) := by decide +kernel
theorem dX12_hopFrom_51 : decode cX12_hopFrom 51 = .ok (.bipush 64, 2) := by decide +kernel
theorem dX12_hopFrom_53 : decode cX12_hopFrom 53 = .ok (.if_icmp .ge 76, 3) := by decide +kernel
theorem dX12_hopFrom_56 : decode cX12_hopFrom 56 = .ok (.aload_n 0, 1) := by decide +kernel
theorem dX12_hopFrom_57 : decode cX12_hopFrom 57 = .ok (.iload 5, 2) := by decide +kernel
theorem dX12_hopFrom_59 : decode cX12_hopFrom 59 = .ok (.invokevirtual 216, 3) := by decide +kernel
theorem dX12_hopFrom_62 : decode cX12_hopFrom 62 = .ok (.ifCond .eq 61, 3) := by decide +kernel
theorem dX12_hopFrom_65 : decode cX12_hopFrom 65 = .ok (.aload_n 0, 1) := by decide +kernel
theorem dX12_hopFrom_66 : decode cX12_hopFrom 66 = .ok (.getfield 65, 3) := by decide +kernel
theorem dX12_hopFrom_69 : decode cX12_hopFrom 69 = .ok (.iload 5, 2) := by decide +kernel
theorem dX12_hopFrom_71 : decode cX12_hopFrom 71 = .ok (.iaload, 1) := by decide +kernel
theorem dX12_hopFrom_72 : decode cX12_hopFrom 72 = .ok (.ifCond .ge 51, 3) := by decide +kernel
theorem dX12_hopFrom_75 : decode cX12_hopFrom 75 = .ok (.aload_n 0, 1) := by decide +kernel
theorem dX12_hopFrom_76 : decode cX12_hopFrom 76 = .ok (.getfield 68, 3) := by decide +kernel
theorem dX12_hopFrom_79 : decode cX12_hopFrom 79 = .ok (.iload 4, 2) := by decide +kernel
theorem dX12_hopFrom_81 : decode cX12_hopFrom 81 = .ok (.iaload, 1) := by decide +kernel
theorem dX12_hopFrom_82 : decode cX12_hopFrom 82 = .ok (.iload 5, 2) := by decide +kernel
theorem dX12_hopFrom_84 : decode cX12_hopFrom 84 = .ok (.invokestatic 267, 3) := by decide +kernel
theorem dX12_hopFrom_87 : decode cX12_hopFrom 87 = .ok (.iload_n 2, 1) := by decide +kernel
theorem dX12_hopFrom_88 : decode cX12_hopFrom 88 = .ok (.if_icmp .gt 35, 3) := by decide +kernel
theorem dX12_hopFrom_91 : decode cX12_hopFrom 91 = .ok (.aload_n 0, 1) := by decide +kernel
theorem dX12_hopFrom_92 : decode cX12_hopFrom 92 = .ok (.getfield 65, 3) := by decide +kernel
theorem dX12_hopFrom_95 : decode cX12_hopFrom 95 = .ok (.iload 5, 2) := by decide +kernel
theorem dX12_hopFrom_97 : decode cX12_hopFrom 97 = .ok (.aload_n 0, 1) := by decide +kernel
theorem dX12_hopFrom_98 : decode cX12_hopFrom 98 = .ok (.getfield 65, 3) := by decide +kernel
theorem dX12_hopFrom_101 : decode cX12_hopFrom 101 = .ok (.aload_n 0, 1) := by decide +kernel
theorem dX12_hopFrom_102 : decode cX12_hopFrom 102 = .ok (.getfield 68, 3) := by decide +kernel
theorem dX12_hopFrom_105 : decode cX12_hopFrom 105 = .ok (.iload 4, 2) := by decide +kernel
theorem dX12_hopFrom_107 : decode cX12_hopFrom 107 = .ok (.iaload, 1) := by decide +kernel
theorem dX12_hopFrom_108 : decode cX12_hopFrom 108 = .ok (.iaload, 1) := by decide +kernel
theorem dX12_hopFrom_109 : decode cX12_hopFrom 109 = .ok (.iconst 1, 1) := by decide +kernel
theorem dX12_hopFrom_110 : decode cX12_hopFrom 110 = .ok (.iadd, 1) := by decide +kernel
theorem dX12_hopFrom_111 : decode cX12_hopFrom 111 = .ok (.iastore, 1) := by decide +kernel
theorem dX12_hopFrom_112 : decode cX12_hopFrom 112 = .ok (.aload_n 0, 1) := by decide +kernel
theorem dX12_hopFrom_113 : decode cX12_hopFrom 113 = .ok (.getfield 68, 3) := by decide +kernel
theorem dX12_hopFrom_116 : decode cX12_hopFrom 116 = .ok (.iload_n 3, 1) := by decide +kernel
theorem dX12_hopFrom_117 : decode cX12_hopFrom 117 = .ok (.iload 5, 2) := by decide +kernel
theorem dX12_hopFrom_119 : decode cX12_hopFrom 119 = .ok (.iastore, 1) := by decide +kernel
theorem dX12_hopFrom_120 : decode cX12_hopFrom 120 = .ok (.iinc 3 1, 3) := by decide +kernel
theorem dX12_hopFrom_123 : decode cX12_hopFrom 123 = .ok (.iinc 5 1, 3) := by decide +kernel
theorem dX12_hopFrom_126 : decode cX12_hopFrom 126 = .ok (.goto (-77), 3) := by decide +kernel
theorem dX12_hopFrom_129 : decode cX12_hopFrom 129 = .ok (.iinc 4 1, 3) := by decide +kernel
theorem dX12_hopFrom_132 : decode cX12_hopFrom 132 = .ok (.goto (-92), 3) := by decide +kernel
theorem dX12_hopFrom_135 : decode cX12_hopFrom 135 = .ok (.return_, 1) := by decide +kernel
theorem dX12_hops_0 : decode cX12_hops 0 = .ok (.aload_n 0, 1) := by decide +kernel
theorem dX12_hops_1 : decode cX12_hops 1 = .ok (.iload_n 1, 1) := by decide +kernel
theorem dX12_hops_2 : decode cX12_hops 2 = .ok (.invokevirtual 179, 3) := by decide +kernel
theorem dX12_hops_5 : decode cX12_hops 5 = .ok (.ifCond .eq 11, 3) := by decide +kernel
theorem dX12_hops_8 : decode cX12_hops 8 = .ok (.aload_n 0, 1) := by decide +kernel
theorem dX12_hops_9 : decode cX12_hops 9 = .ok (.iload_n 2, 1) := by decide +kernel
theorem dX12_hops_10 : decode cX12_hops 10 = .ok (.invokevirtual 179, 3) := by decide +kernel
theorem dX12_hops_13 : decode cX12_hops 13 = .ok (.ifCond .ne 5, 3) := by decide +kernel
theorem dX12_hops_16 : decode cX12_hops 16 = .ok (.iconst (-1), 1) := by decide +kernel
theorem dX12_hops_17 : decode cX12_hops 17 = .ok (.ireturn, 1) := by decide +kernel
theorem dX12_hops_18 : decode cX12_hops 18 = .ok (.iload_n 3, 1) := by decide +kernel
theorem dX12_hops_19 : decode cX12_hops 19 = .ok (.i2l, 1) := by decide +kernel
theorem dX12_hops_20 : decode cX12_hops 20 = .ok (.lconst 0, 1) := by decide +kernel
theorem dX12_hops_21 : decode cX12_hops 21 = .ok (.ldc2_w 271, 3) := by decide +kernel
theorem dX12_hops_24 : decode cX12_hops 24 = .ok (.invokestatic 175, 3) := by decide +kernel
theorem dX12_hops_27 : decode cX12_hops 27 = .ok (.ifCond .ne 6, 3) := by decide +kernel
theorem dX12_hops_30 : decode cX12_hops 30 = .ok (.bipush (-2), 2) := by decide +kernel
theorem dX12_hops_32 : decode cX12_hops 32 = .ok (.ireturn, 1) := by decide +kernel
theorem dX12_hops_33 : decode cX12_hops 33 = .ok (.aload_n 0, 1) := by decide +kernel
theorem dX12_hops_34 : decode cX12_hops 34 = .ok (.getfield 7, 3) := by decide +kernel
theorem dX12_hops_37 : decode cX12_hops 37 = .ok (.iload_n 1, 1) := by decide +kernel
theorem dX12_hops_38 : decode cX12_hops 38 = .ok (.baload, 1) := by decide +kernel
theorem dX12_hops_39 : decode cX12_hops 39 = .ok (.ifCond .ne 12, 3) := by decide +kernel
theorem dX12_hops_42 : decode cX12_hops 42 = .ok (.aload_n 0, 1) := by decide +kernel
theorem dX12_hops_43 : decode cX12_hops 43 = .ok (.getfield 7, 3) := by decide +kernel
theorem dX12_hops_46 : decode cX12_hops 46 = .ok (.iload_n 2, 1) := by decide +kernel
theorem dX12_hops_47 : decode cX12_hops 47 = .ok (.baload, 1) := by decide +kernel
theorem dX12_hops_48 : decode cX12_hops 48 = .ok (.ifCond .eq 6, 3) := by decide +kernel
theorem dX12_hops_51 : decode cX12_hops 51 = .ok (.bipush (-3), 2) := by decide +kernel
theorem dX12_hops_53 : decode cX12_hops 53 = .ok (.ireturn, 1) := by decide +kernel
theorem dX12_hops_54 : decode cX12_hops 54 = .ok (.aload_n 0, 1) := by decide +kernel
theorem dX12_hops_55 : decode cX12_hops 55 = .ok (.iload_n 1, 1) := by decide +kernel
theorem dX12_hops_56 : decode cX12_hops 56 = .ok (.iload_n 3, 1) := by decide +kernel
theorem dX12_hops_57 : decode cX12_hops 57 = .ok (.invokevirtual 273, 3) := by decide +kernel
theorem dX12_hops_60 : decode cX12_hops 60 = .ok (.aload_n 0, 1) := by decide +kernel
theorem dX12_hops_61 : decode cX12_hops 61 = .ok (.getfield 65, 3) := by decide +kernel
theorem dX12_hops_64 : decode cX12_hops 64 = .ok (.iload_n 2, 1) := by decide +kernel
theorem dX12_hops_65 : decode cX12_hops 65 = .ok (.iaload, 1) := by decide +kernel
theorem dX12_hops_66 : decode cX12_hops 66 = .ok (.ireturn, 1) := by decide +kernel
theorem dX12_in_0 : decode cX12_in 0 = .ok (.lload_n 0, 1) := by decide +kernel
theorem dX12_in_1 : decode cX12_in 1 = .ok (.lload_n 2, 1) := by decide +kernel
theorem dX12_in_2 : decode cX12_in 2 = .ok (.lcmp, 1) := by decide +kernel
theorem dX12_in_3 : decode cX12_in 3 = .ok (.ifCond .lt 14, 3) := by decide +kernel
theorem dX12_in_6 : decode cX12_in 6 = .ok (.lload_n 0, 1) := by decide +kernel
theorem dX12_in_7 : decode cX12_in 7 = .ok (.lload 4, 2) := by decide +kernel
theorem dX12_in_9 : decode cX12_in 9 = .ok (.lcmp, 1) := by decide +kernel
theorem dX12_in_10 : decode cX12_in 10 = .ok (.ifCond .gt 7, 3) := by decide +kernel
theorem dX12_in_13 : decode cX12_in 13 = .ok (.iconst 1, 1) := by decide +kernel
theorem dX12_in_14 : decode cX12_in 14 = .ok (.goto 4, 3) := by decide +kernel
theorem dX12_in_17 : decode cX12_in 17 = .ok (.iconst 0, 1) := by decide +kernel
theorem dX12_in_18 : decode cX12_in 18 = .ok (.ireturn, 1) := by decide +kernel
theorem dX12_init_0 : decode cX12_init 0 = .ok (.aload_n 0, 1) := by decide +kernel
theorem dX12_init_1 : decode cX12_init 1 = .ok (.invokespecial 1, 3) := by decide +kernel
theorem dX12_init_4 : decode cX12_init 4 = .ok (.aload_n 0, 1) := by decide +kernel
theorem dX12_init_5 : decode cX12_init 5 = .ok (.bipush 64, 2) := by decide +kernel
theorem dX12_init_7 : decode cX12_init 7 = .ok (.newarray .boolean, 2) := by decide +kernel
theorem dX12_init_9 : decode cX12_init 9 = .ok (.putfield 7, 3) := by decide +kernel
theorem dX12_init_12 : decode cX12_init 12 = .ok (.aload_n 0, 1) := by decide +kernel
theorem dX12_init_13 : decode cX12_init 13 = .ok (.bipush 24, 2) := by decide +kernel
theorem dX12_init_15 : decode cX12_init 15 = .ok (.newarray .int, 2) := by decide +kernel
theorem dX12_init_17 : decode cX12_init 17 = .ok (.putfield 13, 3) := by decide +kernel
theorem dX12_init_20 : decode cX12_init 20 = .ok (.aload_n 0, 1) := by decide +kernel
theorem dX12_init_21 : decode cX12_init 21 = .ok (.bipush 24, 2) := by decide +kernel
theorem dX12_init_23 : decode cX12_init 23 = .ok (.newarray .int, 2) := by decide +kernel
theorem dX12_init_25 : decode cX12_init 25 = .ok (.putfield 17, 3) := by decide +kernel
theorem dX12_init_28 : decode cX12_init 28 = .ok (.aload_n 0, 1) := by decide +kernel
theorem dX12_init_29 : decode cX12_init 29 = .ok (.bipush 96, 2) := by decide +kernel
theorem dX12_init_31 : decode cX12_init 31 = .ok (.newarray .int, 2) := by decide +kernel
theorem dX12_init_33 : decode cX12_init 33 = .ok (.putfield 20, 3) := by decide +kernel
theorem dX12_init_36 : decode cX12_init 36 = .ok (.aload_n 0, 1) := by decide +kernel
theorem dX12_init_37 : decode cX12_init 37 = .ok (.bipush 24, 2) := by decide +kernel
theorem dX12_init_39 : decode cX12_init 39 = .ok (.newarray .boolean, 2) := by decide +kernel
theorem dX12_init_41 : decode cX12_init 41 = .ok (.putfield 23, 3) := by decide +kernel
theorem dX12_init_44 : decode cX12_init 44 = .ok (.aload_n 0, 1) := by decide +kernel
theorem dX12_init_45 : decode cX12_init 45 = .ok (.bipush 24, 2) := by decide +kernel
theorem dX12_init_47 : decode cX12_init 47 = .ok (.newarray .int, 2) := by decide +kernel
theorem dX12_init_49 : decode cX12_init 49 = .ok (.putfield 26, 3) := by decide +kernel
theorem dX12_init_52 : decode cX12_init 52 = .ok (.aload_n 0, 1) := by decide +kernel
theorem dX12_init_53 : decode cX12_init 53 = .ok (.bipush 24, 2) := by decide +kernel
theorem dX12_init_55 : decode cX12_init 55 = .ok (.newarray .int, 2) := by decide +kernel
theorem dX12_init_57 : decode cX12_init 57 = .ok (.putfield 29, 3) := by decide +kernel
theorem dX12_init_60 : decode cX12_init 60 = .ok (.aload_n 0, 1) := by decide +kernel
theorem dX12_init_61 : decode cX12_init 61 = .ok (.bipush 24, 2) := by decide +kernel
theorem dX12_init_63 : decode cX12_init 63 = .ok (.newarray .int, 2) := by decide +kernel
theorem dX12_init_65 : decode cX12_init 65 = .ok (.putfield 32, 3) := by decide +kernel
theorem dX12_init_68 : decode cX12_init 68 = .ok (.aload_n 0, 1) := by decide +kernel
theorem dX12_init_69 : decode cX12_init 69 = .ok (.bipush 60, 2) := by decide +kernel
theorem dX12_init_71 : decode cX12_init 71 = .ok (.newarray .int, 2) := by decide +kernel
theorem dX12_init_73 : decode cX12_init 73 = .ok (.putfield 35, 3) := by decide +kernel
theorem dX12_init_76 : decode cX12_init 76 = .ok (.aload_n 0, 1) := by decide +kernel
theorem dX12_init_77 : decode cX12_init 77 = .ok (.bipush 60, 2) := by decide +kernel
theorem dX12_init_79 : decode cX12_init 79 = .ok (.newarray .int, 2) := by decide +kernel
theorem dX12_init_81 : decode cX12_init 81 = .ok (.putfield 38, 3) := by decide +kernel
theorem dX12_init_84 : decode cX12_init 84 = .ok (.aload_n 0, 1) := by decide +kernel
theorem dX12_init_85 : decode cX12_init 85 = .ok (.bipush 60, 2) := by decide +kernel
theorem dX12_init_87 : decode cX12_init 87 = .ok (.newarray .int, 2) := by decide +kernel
theorem dX12_init_89 : decode cX12_init 89 = .ok (.putfield 41, 3) := by decide +kernel
theorem dX12_init_92 : decode cX12_init 92 = .ok (.aload_n 0, 1) := by decide +kernel
theorem dX12_init_93 : decode cX12_init 93 = .ok (.bipush 60, 2) := by decide +kernel
theorem dX12_init_95 : decode cX12_init 95 = .ok (.newarray .int, 2) := by decide +kernel
theorem dX12_init_97 : decode cX12_init 97 = .ok (.putfield 44, 3) := by decide +kernel
theorem dX12_init_100 : decode cX12_init 100 = .ok (.aload_n 0, 1) := by decide +kernel
theorem dX12_init_101 : decode cX12_init 101 = .ok (.bipush 60, 2) := by decide +kernel
theorem dX12_init_103 : decode cX12_init 103 = .ok (.newarray .int, 2) := by decide +kernel
theorem dX12_init_105 : decode cX12_init 105 = .ok (.putfield 47, 3) := by decide +kernel
theorem dX12_init_108 : decode cX12_init 108 = .ok (.aload_n 0, 1) := by decide +kernel
theorem dX12_init_109 : decode cX12_init 109 = .ok (.bipush 60, 2) := by decide +kernel
theorem dX12_init_111 : decode cX12_init 111 = .ok (.newarray .boolean, 2) := by decide +kernel
theorem dX12_init_113 : decode cX12_init 113 = .ok (.putfield 50, 3) := by decide +kernel
theorem dX12_init_116 : decode cX12_init 116 = .ok (.aload_n 0, 1) := by decide +kernel
theorem dX12_init_117 : decode cX12_init 117 = .ok (.iconst 3, 1) := by decide +kernel
theorem dX12_init_118 : decode cX12_init 118 = .ok (.newarray .int, 2) := by decide +kernel
theorem dX12_init_120 : decode cX12_init 120 = .ok (.putfield 53, 3) := by decide +kernel
theorem dX12_init_123 : decode cX12_init 123 = .ok (.aload_n 0, 1) := by decide +kernel
theorem dX12_init_124 : decode cX12_init 124 = .ok (.iconst 3, 1) := by decide +kernel
theorem dX12_init_125 : decode cX12_init 125 = .ok (.newarray .int, 2) := by decide +kernel
theorem dX12_init_127 : decode cX12_init 127 = .ok (.putfield 56, 3) := by decide +kernel
theorem dX12_init_130 : decode cX12_init 130 = .ok (.aload_n 0, 1) := by decide +kernel
theorem dX12_init_131 : decode cX12_init 131 = .ok (.iconst 3, 1) := by decide +kernel
theorem dX12_init_132 : decode cX12_init 132 = .ok (.newarray .int, 2) := by decide +kernel
theorem dX12_init_134 : decode cX12_init 134 = .ok (.putfield 59, 3) := by decide +kernel
theorem dX12_init_137 : decode cX12_init 137 = .ok (.aload_n 0, 1) := by decide +kernel
theorem dX12_init_138 : decode cX12_init 138 = .ok (.bipush 60, 2) := by decide +kernel
theorem dX12_init_140 : decode cX12_init 140 = .ok (.newarray .boolean, 2) := by decide +kernel
theorem dX12_init_142 : decode cX12_init 142 = .ok (.putfield 62, 3) := by decide +kernel
theorem dX12_init_145 : decode cX12_init 145 = .ok (.aload_n 0, 1) := by decide +kernel
theorem dX12_init_146 : decode cX12_init 146 = .ok (.bipush 64, 2) := by decide +kernel
theorem dX12_init_148 : decode cX12_init 148 = .ok (.newarray .int, 2) := by decide +kernel
theorem dX12_init_150 : decode cX12_init 150 = .ok (.putfield 65, 3) := by decide +kernel
theorem dX12_init_153 : decode cX12_init 153 = .ok (.aload_n 0, 1) := by decide +kernel
theorem dX12_init_154 : decode cX12_init 154 = .ok (.bipush 64, 2) := by decide +kernel
theorem dX12_init_156 : decode cX12_init 156 = .ok (.newarray .int, 2) := by decide +kernel
theorem dX12_init_158 : decode cX12_init 158 = .ok (.putfield 68, 3) := by decide +kernel
theorem dX12_init_161 : decode cX12_init 161 = .ok (.aload_n 0, 1) := by decide +kernel
theorem dX12_init_162 : decode cX12_init 162 = .ok (.sipush 3840, 3) := by decide +kernel
theorem dX12_init_165 : decode cX12_init 165 = .ok (.newarray .long, 2) := by decide +kernel
theorem dX12_init_167 : decode cX12_init 167 = .ok (.putfield 71, 3) := by decide +kernel
theorem dX12_init_170 : decode cX12_init 170 = .ok (.aload_n 0, 1) := by decide +kernel
theorem dX12_init_171 : decode cX12_init 171 = .ok (.sipush 3840, 3) := by decide +kernel
theorem dX12_init_174 : decode cX12_init 174 = .ok (.newarray .long, 2) := by decide +kernel
theorem dX12_init_176 : decode cX12_init 176 = .ok (.putfield 75, 3) := by decide +kernel
theorem dX12_init_179 : decode cX12_init 179 = .ok (.aload_n 0, 1) := by decide +kernel
theorem dX12_init_180 : decode cX12_init 180 = .ok (.bipush 60, 2) := by decide +kernel
theorem dX12_init_182 : decode cX12_init 182 = .ok (.newarray .boolean, 2) := by decide +kernel
theorem dX12_init_184 : decode cX12_init 184 = .ok (.putfield 78, 3) := by decide +kernel
theorem dX12_init_187 : decode cX12_init 187 = .ok (.aload_n 0, 1) := by decide +kernel
theorem dX12_init_188 : decode cX12_init 188 = .ok (.bipush 24, 2) := by decide +kernel
theorem dX12_init_190 : decode cX12_init 190 = .ok (.newarray .long, 2) := by decide +kernel
theorem dX12_init_192 : decode cX12_init 192 = .ok (.putfield 81, 3) := by decide +kernel
theorem dX12_init_195 : decode cX12_init 195 = .ok (.aload_n 0, 1) := by decide +kernel
theorem dX12_init_196 : decode cX12_init 196 = .ok (.bipush 24, 2) := by decide +kernel
theorem dX12_init_198 : decode cX12_init 198 = .ok (.newarray .long, 2) := by decide +kernel
theorem dX12_init_200 : decode cX12_init 200 = .ok (.putfield 84, 3) := by decide +kernel
theorem dX12_init_203 : decode cX12_init 203 = .ok (.aload_n 0, 1) := by decide +kernel
theorem dX12_init_204 : decode cX12_init 204 = .ok (.bipush 60, 2) := by decide +kernel
theorem dX12_init_206 : decode cX12_init 206 = .ok (.newarray .boolean, 2) := by decide +kernel
theorem dX12_init_208 : decode cX12_init 208 = .ok (.putfield 87, 3) := by decide +kernel
theorem dX12_init_211 : decode cX12_init 211 = .ok (.aload_n 0, 1) := by decide +kernel
theorem dX12_init_212 : decode cX12_init 212 = .ok (.bipush 24, 2) := by decide +kernel
theorem dX12_init_214 : decode cX12_init 214 = .ok (.newarray .int, 2) := by decide +kernel
theorem dX12_init_216 : decode cX12_init 216 = .ok (.putfield 90, 3) := by decide +kernel
theorem dX12_init_219 : decode cX12_init 219 = .ok (.aload_n 0, 1) := by decide +kernel
theorem dX12_init_220 : decode cX12_init 220 = .ok (.bipush 24, 2) := by decide +kernel
theorem dX12_init_222 : decode cX12_init 222 = .ok (.newarray .int, 2) := by decide +kernel
theorem dX12_init_224 : decode cX12_init 224 = .ok (.putfield 93, 3) := by decide +kernel
theorem dX12_init_227 : decode cX12_init 227 = .ok (.aload_n 0, 1) := by decide +kernel
theorem dX12_init_228 : decode cX12_init 228 = .ok (.sipush 5184, 3) := by decide +kernel
theorem dX12_init_231 : decode cX12_init 231 = .ok (.newarray .long, 2) := by decide +kernel
theorem dX12_init_233 : decode cX12_init 233 = .ok (.putfield 96, 3) := by decide +kernel
theorem dX12_init_236 : decode cX12_init 236 = .ok (.aload_n 0, 1) := by decide +kernel
theorem dX12_init_237 : decode cX12_init 237 = .ok (.sipush 576, 3) := by decide +kernel
theorem dX12_init_240 : decode cX12_init 240 = .ok (.newarray .int, 2) := by decide +kernel
theorem dX12_init_242 : decode cX12_init 242 = .ok (.putfield 99, 3) := by decide +kernel
theorem dX12_init_245 : decode cX12_init 245 = .ok (.aload_n 0, 1) := by decide +kernel
theorem dX12_init_246 : decode cX12_init 246 = .ok (.sipush 8019, 3) := by decide +kernel
theorem dX12_init_249 : decode cX12_init 249 = .ok (.newarray .int, 2) := by decide +kernel
theorem dX12_init_251 : decode cX12_init 251 = .ok (.putfield 102, 3) := by decide +kernel
theorem dX12_init_254 : decode cX12_init 254 = .ok (.aload_n 0, 1) := by decide +kernel
theorem dX12_init_255 : decode cX12_init 255 = .ok (.bipush 9, 2) := by decide +kernel
theorem dX12_init_257 : decode cX12_init 257 = .ok (.newarray .int, 2) := by decide +kernel
theorem dX12_init_259 : decode cX12_init 259 = .ok (.putfield 105, 3) := by decide +kernel
theorem dX12_init_262 : decode cX12_init 262 = .ok (.aload_n 0, 1) := by decide +kernel
theorem dX12_init_263 : decode cX12_init 263 = .ok (.bipush 24, 2) := by decide +kernel
theorem dX12_init_265 : decode cX12_init 265 = .ok (.newarray .int, 2) := by decide +kernel
theorem dX12_init_267 : decode cX12_init 267 = .ok (.putfield 108, 3) := by decide +kernel
theorem dX12_init_270 : decode cX12_init 270 = .ok (.aload_n 0, 1) := by decide +kernel
theorem dX12_init_271 : decode cX12_init 271 = .ok (.bipush 24, 2) := by decide +kernel
theorem dX12_init_273 : decode cX12_init 273 = .ok (.newarray .int, 2) := by decide +kernel
theorem dX12_init_275 : decode cX12_init 275 = .ok (.putfield 111, 3) := by decide +kernel
theorem dX12_init_278 : decode cX12_init 278 = .ok (.aload_n 0, 1) := by decide +kernel
theorem dX12_init_279 : decode cX12_init 279 = .ok (.sipush 512, 3) := by decide +kernel
theorem dX12_init_282 : decode cX12_init 282 = .ok (.newarray .long, 2) := by decide +kernel
theorem dX12_init_284 : decode cX12_init 284 = .ok (.putfield 114, 3) := by decide +kernel
theorem dX12_init_287 : decode cX12_init 287 = .ok (.aload_n 0, 1) := by decide +kernel
theorem dX12_init_288 : decode cX12_init 288 = .ok (.bipush 24, 2) := by decide +kernel
theorem dX12_init_290 : decode cX12_init 290 = .ok (.newarray .int, 2) := by decide +kernel
theorem dX12_init_292 : decode cX12_init 292 = .ok (.putfield 117, 3) := by decide +kernel
theorem dX12_init_295 : decode cX12_init 295 = .ok (.aload_n 0, 1) := by decide +kernel
theorem dX12_init_296 : decode cX12_init 296 = .ok (.iconst 2, 1) := by decide +kernel
theorem dX12_init_297 : decode cX12_init 297 = .ok (.newarray .boolean, 2) := by decide +kernel
theorem dX12_init_299 : decode cX12_init 299 = .ok (.putfield 120, 3) := by decide +kernel
theorem dX12_init_302 : decode cX12_init 302 = .ok (.aload_n 0, 1) := by decide +kernel
theorem dX12_init_303 : decode cX12_init 303 = .ok (.sipush 1600, 3) := by decide +kernel
theorem dX12_init_306 : decode cX12_init 306 = .ok (.newarray .int, 2) := by decide +kernel
theorem dX12_init_308 : decode cX12_init 308 = .ok (.putfield 123, 3) := by decide +kernel
theorem dX12_init_311 : decode cX12_init 311 = .ok (.aload_n 0, 1) := by decide +kernel
theorem dX12_init_312 : decode cX12_init 312 = .ok (.bipush 8, 2) := by decide +kernel
theorem dX12_init_314 : decode cX12_init 314 = .ok (.newarray .int, 2) := by decide +kernel
theorem dX12_init_316 : decode cX12_init 316 = .ok (.putfield 126, 3) := by decide +kernel
theorem dX12_init_319 : decode cX12_init 319 = .ok (.aload_n 0, 1) := by decide +kernel
theorem dX12_init_320 : decode cX12_init 320 = .ok (.bipush 8, 2) := by decide +kernel
theorem dX12_init_322 : decode cX12_init 322 = .ok (.newarray .int, 2) := by decide +kernel
theorem dX12_init_324 : decode cX12_init 324 = .ok (.putfield 129, 3) := by decide +kernel
theorem dX12_init_327 : decode cX12_init 327 = .ok (.aload_n 0, 1) := by decide +kernel
theorem dX12_init_328 : decode cX12_init 328 = .ok (.bipush 8, 2) := by decide +kernel
theorem dX12_init_330 : decode cX12_init 330 = .ok (.newarray .int, 2) := by decide +kernel
theorem dX12_init_332 : decode cX12_init 332 = .ok (.putfield 132, 3) := by decide +kernel
theorem dX12_init_335 : decode cX12_init 335 = .ok (.aload_n 0, 1) := by decide +kernel
theorem dX12_init_336 : decode cX12_init 336 = .ok (.bipush 8, 2) := by decide +kernel
theorem dX12_init_338 : decode cX12_init 338 = .ok (.newarray .int, 2) := by decide +kernel
theorem dX12_init_340 : decode cX12_init 340 = .ok (.putfield 135, 3) := by decide +kernel
theorem dX12_init_343 : decode cX12_init 343 = .ok (.aload_n 0, 1) := by decide +kernel
theorem dX12_init_344 : decode cX12_init 344 = .ok (.bipush 8, 2) := by decide +kernel
theorem dX12_init_346 : decode cX12_init 346 = .ok (.newarray .int, 2) := by decide +kernel
theorem dX12_init_348 : decode cX12_init 348 = .ok (.putfield 138, 3) := by decide +kernel
theorem dX12_init_351 : decode cX12_init 351 = .ok (.aload_n 0, 1) := by decide +kernel
theorem dX12_init_352 : decode cX12_init 352 = .ok (.iconst 4, 1) := by decide +kernel
theorem dX12_init_353 : decode cX12_init 353 = .ok (.newarray .int, 2) := by decide +kernel
theorem dX12_init_355 : decode cX12_init 355 = .ok (.putfield 141, 3) := by decide +kernel
theorem dX12_init_358 : decode cX12_init 358 = .ok (.aload_n 0, 1) := by decide +kernel
theorem dX12_init_359 : decode cX12_init 359 = .ok (.iconst 4, 1) := by decide +kernel
theorem dX12_init_360 : decode cX12_init 360 = .ok (.newarray .int, 2) := by decide +kernel
theorem dX12_init_362 : decode cX12_init 362 = .ok (.putfield 144, 3) := by decide +kernel
theorem dX12_init_365 : decode cX12_init 365 = .ok (.aload_n 0, 1) := by decide +kernel
theorem dX12_init_366 : decode cX12_init 366 = .ok (.sipush 256, 3) := by decide +kernel
theorem dX12_init_369 : decode cX12_init 369 = .ok (.newarray .long, 2) := by decide +kernel
theorem dX12_init_371 : decode cX12_init 371 = .ok (.putfield 147, 3) := by decide +kernel
theorem dX12_init_374 : decode cX12_init 374 = .ok (.aload_n 0, 1) := by decide +kernel
theorem dX12_init_375 : decode cX12_init 375 = .ok (.bipush 64, 2) := by decide +kernel
theorem dX12_init_377 : decode cX12_init 377 = .ok (.newarray .long, 2) := by decide +kernel
theorem dX12_init_379 : decode cX12_init 379 = .ok (.putfield 150, 3) := by decide +kernel
theorem dX12_init_382 : decode cX12_init 382 = .ok (.aload_n 0, 1) := by decide +kernel
theorem dX12_init_383 : decode cX12_init 383 = .ok (.bipush 8, 2) := by decide +kernel
theorem dX12_init_385 : decode cX12_init 385 = .ok (.putfield 153, 3) := by decide +kernel
theorem dX12_init_388 : decode cX12_init 388 = .ok (.aload_n 0, 1) := by decide +kernel
theorem dX12_init_389 : decode cX12_init 389 = .ok (.bipush 8, 2) := by decide +kernel
theorem dX12_init_391 : decode cX12_init 391 = .ok (.putfield 157, 3) := by decide +kernel
theorem dX12_init_394 : decode cX12_init 394 = .ok (.iconst 0, 1) := by decide +kernel
theorem dX12_init_395 : decode cX12_init 395 = .ok (.istore_n 1, 1) := by decide +kernel
theorem dX12_init_396 : decode cX12_init 396 = .ok (.iload_n 1, 1) := by decide +kernel
theorem dX12_init_397 : decode cX12_init 397 = .ok (.bipush 24, 2) := by decide +kernel
theorem dX12_init_399 : decode cX12_init 399 = .ok (.if_icmp .ge 17, 3) := by decide +kernel
theorem dX12_init_402 : decode cX12_init 402 = .ok (.aload_n 0, 1) := by decide +kernel
theorem dX12_init_403 : decode cX12_init 403 = .ok (.getfield 32, 3) := by decide +kernel
theorem dX12_init_406 : decode cX12_init 406 = .ok (.iload_n 1, 1) := by decide +kernel
theorem dX12_init_407 : decode cX12_init 407 = .ok (.bipush (-9), 2) := by decide +kernel
theorem dX12_init_409 : decode cX12_init 409 = .ok (.iastore, 1) := by decide +kernel
theorem dX12_init_410 : decode cX12_init 410 = .ok (.iinc 1 1, 3) := by decide +kernel
theorem dX12_init_413 : decode cX12_init 413 = .ok (.goto (-17), 3) := by decide +kernel
theorem dX12_init_416 : decode cX12_init 416 = .ok (.iconst 0, 1) := by decide +kernel
theorem dX12_init_417 : decode cX12_init 417 = .ok (.istore_n 1, 1) := by decide +kernel
theorem dX12_init_418 : decode cX12_init 418 = .ok (.iload_n 1, 1) := by decide +kernel
theorem dX12_init_419 : decode cX12_init 419 = .ok (.iconst 4, 1) := by decide +kernel
theorem dX12_init_420 : decode cX12_init 420 = .ok (.if_icmp .ge 16, 3) := by decide +kernel
theorem dX12_init_423 : decode cX12_init 423 = .ok (.aload_n 0, 1) := by decide +kernel
theorem dX12_init_424 : decode cX12_init 424 = .ok (.getfield 141, 3) := by decide +kernel
theorem dX12_init_427 : decode cX12_init 427 = .ok (.iload_n 1, 1) := by decide +kernel
theorem dX12_init_428 : decode cX12_init 428 = .ok (.iconst (-1), 1) := by decide +kernel
theorem dX12_init_429 : decode cX12_init 429 = .ok (.iastore, 1) := by decide +kernel
theorem dX12_init_430 : decode cX12_init 430 = .ok (.iinc 1 1, 3) := by decide +kernel
theorem dX12_init_433 : decode cX12_init 433 = .ok (.goto (-15), 3) := by decide +kernel
theorem dX12_init_436 : decode cX12_init 436 = .ok (.iconst 0, 1) := by decide +kernel
theorem dX12_init_437 : decode cX12_init 437 = .ok (.istore_n 1, 1) := by decide +kernel
theorem dX12_init_438 : decode cX12_init 438 = .ok (.iload_n 1, 1) := by decide +kernel
theorem dX12_init_439 : decode cX12_init 439 = .ok (.bipush 8, 2) := by decide +kernel
theorem dX12_init_441 : decode cX12_init 441 = .ok (.if_icmp .ge 17, 3) := by decide +kernel
theorem dX12_init_444 : decode cX12_init 444 = .ok (.aload_n 0, 1) := by decide +kernel
theorem dX12_init_445 : decode cX12_init 445 = .ok (.getfield 126, 3) := by decide +kernel
theorem dX12_init_448 : decode cX12_init 448 = .ok (.iload_n 1, 1) := by decide +kernel
theorem dX12_init_449 : decode cX12_init 449 = .ok (.bipush (-9), 2) := by decide +kernel
theorem dX12_init_451 : decode cX12_init 451 = .ok (.iastore, 1) := by decide +kernel
theorem dX12_init_452 : decode cX12_init 452 = .ok (.iinc 1 1, 3) := by decide +kernel
theorem dX12_init_455 : decode cX12_init 455 = .ok (.goto (-17), 3) := by decide +kernel
theorem dX12_init_458 : decode cX12_init 458 = .ok (.return_, 1) := by decide +kernel
theorem dX12_isAnchorAt_0 : decode cX12_isAnchorAt 0 = .ok (.iconst 0, 1) := by decide +kernel
theorem dX12_isAnchorAt_1 : decode cX12_isAnchorAt 1 = .ok (.istore_n 2, 1) := by decide +kernel
theorem dX12_isAnchorAt_2 : decode cX12_isAnchorAt 2 = .ok (.iconst 0, 1) := by decide +kernel
theorem dX12_isAnchorAt_3 : decode cX12_isAnchorAt 3 = .ok (.istore_n 3, 1) := by decide +kernel
theorem dX12_isAnchorAt_4 : decode cX12_isAnchorAt 4 = .ok (.iload_n 3, 1) := by decide +kernel
theorem dX12_isAnchorAt_5 : decode cX12_isAnchorAt 5 = .ok (.aload_n 0, 1) := by decide +kernel
theorem dX12_isAnchorAt_6 : decode cX12_isAnchorAt 6 = .ok (.getfield 183, 3) := by decide +kernel
theorem dX12_isAnchorAt_9 : decode cX12_isAnchorAt 9 = .ok (.if_icmp .ge 38, 3) := by decide +kernel
theorem dX12_isAnchorAt_12 : decode cX12_isAnchorAt 12 = .ok (.iload_n 2, 1) := by decide +kernel
theorem dX12_isAnchorAt_13 : decode cX12_isAnchorAt 13 = .ok (.ifCond .ne 22, 3) := by decide +kernel
theorem dX12_isAnchorAt_16 : decode cX12_isAnchorAt 16 = .ok (.aload_n 0, 1) := by decide +kernel
theorem dX12_isAnchorAt_17 : decode cX12_isAnchorAt 17 = .ok (.getfield 13, 3) := by decide +kernel
theorem dX12_isAnchorAt_20 : decode cX12_isAnchorAt 20 = .ok (.iload_n 3, 1) := by decide +kernel
theorem dX12_isAnchorAt_21 : decode cX12_isAnchorAt 21 = .ok (.iaload, 1) := by decide +kernel
theorem dX12_isAnchorAt_22 : decode cX12_isAnchorAt 22 = .ok (.ifCond .le 17, 3) := by decide +kernel
theorem dX12_isAnchorAt_25 : decode cX12_isAnchorAt 25 = .ok (.aload_n 0, 1) := by decide +kernel
theorem dX12_isAnchorAt_26 : decode cX12_isAnchorAt 26 = .ok (.getfield 17, 3) := by decide +kernel
theorem dX12_isAnchorAt_29 : decode cX12_isAnchorAt 29 = .ok (.iload_n 3, 1) := by decide +kernel
theorem dX12_isAnchorAt_30 : decode cX12_isAnchorAt 30 = .ok (.iaload, 1) := by decide +kernel
theorem dX12_isAnchorAt_31 : decode cX12_isAnchorAt 31 = .ok (.iload_n 1, 1) := by decide +kernel
theorem dX12_isAnchorAt_32 : decode cX12_isAnchorAt 32 = .ok (.if_icmp .ne 7, 3) := by decide +kernel
theorem dX12_isAnchorAt_35 : decode cX12_isAnchorAt 35 = .ok (.iconst 1, 1) := by decide +kernel
theorem dX12_isAnchorAt_36 : decode cX12_isAnchorAt 36 = .ok (.goto 4, 3) := by decide +kernel
theorem dX12_isAnchorAt_39 : decode cX12_isAnchorAt 39 = .ok (.iconst 0, 1) := by decide +kernel
theorem dX12_isAnchorAt_40 : decode cX12_isAnchorAt 40 = .ok (.istore_n 2, 1) := by decide +kernel
theorem dX12_isAnchorAt_41 : decode cX12_isAnchorAt 41 = .ok (.iinc 3 1, 3) := by decide +kernel
theorem dX12_isAnchorAt_44 : decode cX12_isAnchorAt 44 = .ok (.goto (-40), 3) := by decide +kernel
theorem dX12_isAnchorAt_47 : decode cX12_isAnchorAt 47 = .ok (.iload_n 2, 1) := by decide +kernel
theorem dX12_isAnchorAt_48 : decode cX12_isAnchorAt 48 = .ok (.ireturn, 1) := by decide +kernel
theorem dX12_isBeyond_0 : decode cX12_isBeyond 0 = .ok (.iload_n 0, 1) := by decide +kernel
theorem dX12_isBeyond_1 : decode cX12_isBeyond 1 = .ok (.ifCond .lt 19, 3) := by decide +kernel
theorem dX12_isBeyond_4 : decode cX12_isBeyond 4 = .ok (.lload_n 1, 1) := by decide +kernel
theorem dX12_isBeyond_5 : decode cX12_isBeyond 5 = .ok (.lconst 0, 1) := by decide +kernel
theorem dX12_isBeyond_6 : decode cX12_isBeyond 6 = .ok (.lcmp, 1) := by decide +kernel
theorem dX12_isBeyond_7 : decode cX12_isBeyond 7 = .ok (.ifCond .lt 13, 3) := by decide +kernel
theorem dX12_isBeyond_10 : decode cX12_isBeyond 10 = .ok (.iload_n 0, 1) := by decide +kernel
theorem dX12_isBeyond_11 : decode cX12_isBeyond 11 = .ok (.i2l, 1) := by decide +kernel
theorem dX12_isBeyond_12 : decode cX12_isBeyond 12 = .ok (.lload_n 1, 1) := by decide +kernel
theorem dX12_isBeyond_13 : decode cX12_isBeyond 13 = .ok (.ladd, 1) := by decide +kernel
theorem dX12_isBeyond_14 : decode cX12_isBeyond 14 = .ok (.iload_n 3, 1) := by decide +kernel
theorem dX12_isBeyond_15 : decode cX12_isBeyond 15 = .ok (.i2l, 1) := by decide +kernel
theorem dX12_isBeyond_16 : decode cX12_isBeyond 16 = .ok (.lcmp, 1) := by decide +kernel
theorem dX12_isBeyond_17 : decode cX12_isBeyond 17 = .ok (.ifCond .le 7, 3) := by decide +kernel
theorem dX12_isBeyond_20 : decode cX12_isBeyond 20 = .ok (.iconst 1, 1) := by decide +kernel
theorem dX12_isBeyond_21 : decode cX12_isBeyond 21 = .ok (.goto 4, 3) := by decide +kernel
theorem dX12_isBeyond_24 : decode cX12_isBeyond 24 = .ok (.iconst 0, 1) := by decide +kernel
theorem dX12_isBeyond_25 : decode cX12_isBeyond 25 = .ok (.ireturn, 1) := by decide +kernel
theorem dX12_isCell_0 : decode cX12_isCell 0 = .ok (.iload_n 1, 1) := by decide +kernel
theorem dX12_isCell_1 : decode cX12_isCell 1 = .ok (.i2l, 1) := by decide +kernel
theorem dX12_isCell_2 : decode cX12_isCell 2 = .ok (.lconst 0, 1) := by decide +kernel
theorem dX12_isCell_3 : decode cX12_isCell 3 = .ok (.ldc2_w 173, 3) := by decide +kernel
theorem dX12_isCell_6 : decode cX12_isCell 6 = .ok (.invokestatic 175, 3) := by decide +kernel
theorem dX12_isCell_9 : decode cX12_isCell 9 = .ok (.ifCond .eq 29, 3) := by decide +kernel
theorem dX12_isCell_12 : decode cX12_isCell 12 = .ok (.iload_n 1, 1) := by decide +kernel
theorem dX12_isCell_13 : decode cX12_isCell 13 = .ok (.bipush 8, 2) := by decide +kernel
theorem dX12_isCell_15 : decode cX12_isCell 15 = .ok (.irem, 1) := by decide +kernel
theorem dX12_isCell_16 : decode cX12_isCell 16 = .ok (.aload_n 0, 1) := by decide +kernel
theorem dX12_isCell_17 : decode cX12_isCell 17 = .ok (.getfield 153, 3) := by decide +kernel
theorem dX12_isCell_20 : decode cX12_isCell 20 = .ok (.if_icmp .ge 18, 3) := by decide +kernel
theorem dX12_isCell_23 : decode cX12_isCell 23 = .ok (.iload_n 1, 1) := by decide +kernel
theorem dX12_isCell_24 : decode cX12_isCell 24 = .ok (.bipush 8, 2) := by decide +kernel
theorem dX12_isCell_26 : decode cX12_isCell 26 = .ok (.idiv, 1) := by decide +kernel
theorem dX12_isCell_27 : decode cX12_isCell 27 = .ok (.aload_n 0, 1) := by decide +kernel
theorem dX12_isCell_28 : decode cX12_isCell 28 = .ok (.getfield 157, 3) := by decide +kernel
theorem dX12_isCell_31 : decode cX12_isCell 31 = .ok (.if_icmp .ge 7, 3) := by decide +kernel
theorem dX12_isCell_34 : decode cX12_isCell 34 = .ok (.iconst 1, 1) := by decide +kernel
theorem dX12_isCell_35 : decode cX12_isCell 35 = .ok (.goto 4, 3) := by decide +kernel
theorem dX12_isCell_38 : decode cX12_isCell 38 = .ok (.iconst 0, 1) := by decide +kernel
theorem dX12_isCell_39 : decode cX12_isCell 39 = .ok (.ireturn, 1) := by decide +kernel
theorem dX12_isFree_0 : decode cX12_isFree 0 = .ok (.aload_n 0, 1) := by decide +kernel
theorem dX12_isFree_1 : decode cX12_isFree 1 = .ok (.iload_n 1, 1) := by decide +kernel
theorem dX12_isFree_2 : decode cX12_isFree 2 = .ok (.invokevirtual 179, 3) := by decide +kernel
theorem dX12_isFree_5 : decode cX12_isFree 5 = .ok (.ifCond .eq 16, 3) := by decide +kernel
theorem dX12_isFree_8 : decode cX12_isFree 8 = .ok (.aload_n 0, 1) := by decide +kernel
theorem dX12_isFree_9 : decode cX12_isFree 9 = .ok (.getfield 7, 3) := by decide +kernel
theorem dX12_isFree_12 : decode cX12_isFree 12 = .ok (.iload_n 1, 1) := by decide +kernel
theorem dX12_isFree_13 : decode cX12_isFree 13 = .ok (.baload, 1) := by decide +kernel
theorem dX12_isFree_14 : decode cX12_isFree 14 = .ok (.ifCond .ne 7, 3) := by decide +kernel
theorem dX12_isFree_17 : decode cX12_isFree 17 = .ok (.iconst 1, 1) := by decide +kernel
theorem dX12_isFree_18 : decode cX12_isFree 18 = .ok (.goto 4, 3) := by decide +kernel
theorem dX12_isFree_21 : decode cX12_isFree 21 = .ok (.iconst 0, 1) := by decide +kernel
theorem dX12_isFree_22 : decode cX12_isFree 22 = .ok (.ireturn, 1) := by decide +kernel
theorem dX12_isHinged_0 : decode cX12_isHinged 0 = .ok (.iconst 1, 1) := by decide +kernel
theorem dX12_isHinged_1 : decode cX12_isHinged 1 = .ok (.istore_n 1, 1) := by decide +kernel
theorem dX12_isHinged_2 : decode cX12_isHinged 2 = .ok (.iconst 0, 1) := by decide +kernel
theorem dX12_isHinged_3 : decode cX12_isHinged 3 = .ok (.istore_n 2, 1) := by decide +kernel
theorem dX12_isHinged_4 : decode cX12_isHinged 4 = .ok (.aload_n 0, 1) := by decide +kernel
theorem dX12_isHinged_5 : decode cX12_isHinged 5 = .ok (.getfield 400, 3) := by decide +kernel
theorem dX12_isHinged_8 : decode cX12_isHinged 8 = .ok (.ifCond .ge 7, 3) := by decide +kernel
theorem dX12_isHinged_11 : decode cX12_isHinged 11 = .ok (.iconst 1, 1) := by decide +kernel
theorem dX12_isHinged_12 : decode cX12_isHinged 12 = .ok (.goto 4, 3) := by decide +kernel
theorem dX12_isHinged_15 : decode cX12_isHinged 15 = .ok (.iconst 0, 1) := by decide +kernel
theorem dX12_isHinged_16 : decode cX12_isHinged 16 = .ok (.istore_n 3, 1) := by decide +kernel
theorem dX12_isHinged_17 : decode cX12_isHinged 17 = .ok (.iconst 0, 1) := by decide +kernel
theorem dX12_isHinged_18 : decode cX12_isHinged 18 = .ok (.istore 4, 2) := by decide +kernel
theorem dX12_isHinged_20 : decode cX12_isHinged 20 = .ok (.iload 4, 2) := by decide +kernel
theorem dX12_isHinged_22 : decode cX12_isHinged 22 = .ok (.aload_n 0, 1) := by decide +kernel
theorem dX12_isHinged_23 : decode cX12_isHinged 23 = .ok (.getfield 186, 3) := by decide +kernel
theorem dX12_isHinged_26 : decode cX12_isHinged 26 = .ok (.if_icmp .ge 141, 3) := by decide +kernel
theorem dX12_isHinged_29 : decode cX12_isHinged 29 = .ok (.aload_n 0, 1) := by decide +kernel
theorem dX12_isHinged_30 : decode cX12_isHinged 30 = .ok (.getfield 406, 3) := by decide +kernel
theorem dX12_isHinged_33 : decode cX12_isHinged 33 = .ok (.i2l, 1) := by decide +kernel
theorem dX12_isHinged_34 : decode cX12_isHinged 34 = .ok (.aload_n 0, 1) := by decide +kernel
theorem dX12_isHinged_35 : decode cX12_isHinged 35 = .ok (.getfield 38, 3) := by decide +kernel
theorem dX12_isHinged_38 : decode cX12_isHinged 38 = .ok (.iload 4, 2) := by decide +kernel
theorem dX12_isHinged_40 : decode cX12_isHinged 40 = .ok (.iaload, 1) := by decide +kernel
theorem dX12_isHinged_41 : decode cX12_isHinged 41 = .ok (.invokestatic 162, 3) := by decide +kernel
theorem dX12_isHinged_44 : decode cX12_isHinged 44 = .ok (.istore 5, 2) := by decide +kernel
theorem dX12_isHinged_46 : decode cX12_isHinged 46 = .ok (.aload_n 0, 1) := by decide +kernel
theorem dX12_isHinged_47 : decode cX12_isHinged 47 = .ok (.getfield 406, 3) := by decide +kernel
theorem dX12_isHinged_50 : decode cX12_isHinged 50 = .ok (.i2l, 1) := by decide +kernel
theorem dX12_isHinged_51 : decode cX12_isHinged 51 = .ok (.aload_n 0, 1) := by decide +kernel
theorem dX12_isHinged_52 : decode cX12_isHinged 52 = .ok (.getfield 41, 3) := by decide +kernel
theorem dX12_isHinged_55 : decode cX12_isHinged 55 = .ok (.iload 4, 2) := by decide +kernel
theorem dX12_isHinged_57 : decode cX12_isHinged 57 = .ok (.iaload, 1) := by decide +kernel
theorem dX12_isHinged_58 : decode cX12_isHinged 58 = .ok (.invokestatic 162, 3) := by decide +kernel
theorem dX12_isHinged_61 : decode cX12_isHinged 61 = .ok (.istore 6, 2) := by decide +kernel
theorem dX12_isHinged_63 : decode cX12_isHinged 63 = .ok (.aload_n 0, 1) := by decide +kernel
theorem dX12_isHinged_64 : decode cX12_isHinged 64 = .ok (.getfield 50, 3) := by decide +kernel
theorem dX12_isHinged_67 : decode cX12_isHinged 67 = .ok (.iload 4, 2) := by decide +kernel
theorem dX12_isHinged_69 : decode cX12_isHinged 69 = .ok (.baload, 1) := by decide +kernel
theorem dX12_isHinged_70 : decode cX12_isHinged 70 = .ok (.ifCond .eq 91, 3) := by decide +kernel
theorem dX12_isHinged_73 : decode cX12_isHinged 73 = .ok (.iload 5, 2) := by decide +kernel
theorem dX12_isHinged_75 : decode cX12_isHinged 75 = .ok (.iload 6, 2) := by decide +kernel
theorem dX12_isHinged_77 : decode cX12_isHinged 77 = .ok (.if_icmp .eq 84, 3) := by decide +kernel
theorem dX12_isHinged_80 : decode cX12_isHinged 80 = .ok (.iload 5, 2) := by decide +kernel
theorem dX12_isHinged_82 : decode cX12_isHinged 82 = .ok (.ifCond .eq 13, 3) := by decide +kernel
theorem dX12_isHinged_85 : decode cX12_isHinged 85 = .ok (.aload_n 0, 1) := by decide +kernel
theorem dX12_isHinged_86 : decode cX12_isHinged 86 = .ok (.getfield 41, 3) := by decide +kernel
theorem dX12_isHinged_89 : decode cX12_isHinged 89 = .ok (.iload 4, 2) := by decide +kernel
theorem dX12_isHinged_91 : decode cX12_isHinged 91 = .ok (.iaload, 1) := by decide +kernel
theorem dX12_isHinged_92 : decode cX12_isHinged 92 = .ok (.goto 10, 3) := by decide +kernel
theorem dX12_isHinged_95 : decode cX12_isHinged 95 = .ok (.aload_n 0, 1) := by decide +kernel
theorem dX12_isHinged_96 : decode cX12_isHinged 96 = .ok (.getfield 38, 3) := by decide +kernel
theorem dX12_isHinged_99 : decode cX12_isHinged 99 = .ok (.iload 4, 2) := by decide +kernel
theorem dX12_isHinged_101 : decode cX12_isHinged 101 = .ok (.iaload, 1) := by decide +kernel
theorem dX12_isHinged_102 : decode cX12_isHinged 102 = .ok (.istore 7, 2) := by decide +kernel
theorem dX12_isHinged_104 : decode cX12_isHinged 104 = .ok (.iload_n 1, 1) := by decide +kernel
theorem dX12_isHinged_105 : decode cX12_isHinged 105 = .ok (.ifCond .eq 16, 3) := by decide +kernel
theorem dX12_isHinged_108 : decode cX12_isHinged 108 = .ok (.aload_n 0, 1) := by decide +kernel
theorem dX12_isHinged_109 : decode cX12_isHinged 109 = .ok (.iload 7, 2) := by decide +kernel
theorem dX12_isHinged_111 : decode cX12_isHinged 111 = .ok (.invokevirtual 409, 3) := by decide +kernel
theorem dX12_isHinged_114 : decode cX12_isHinged 114 = .ok (.ifCond .eq 7, 3) := by decide +kernel
theorem dX12_isHinged_117 : decode cX12_isHinged 117 = .ok (.iconst 1, 1) := by decide +kernel
theorem dX12_isHinged_118 : decode cX12_isHinged 118 = .ok (.goto 4, 3) := by decide +kernel
theorem dX12_isHinged_121 : decode cX12_isHinged 121 = .ok (.iconst 0, 1) := by decide +kernel
theorem dX12_isHinged_122 : decode cX12_isHinged 122 = .ok (.istore_n 1, 1) := by decide +kernel
theorem dX12_isHinged_123 : decode cX12_isHinged 123 = .ok (.iload_n 2, 1) := by decide +kernel
theorem dX12_isHinged_124 : decode cX12_isHinged 124 = .ok (.ifCond .ne 12, 3) := by decide +kernel
theorem dX12_isHinged_127 : decode cX12_isHinged 127 = .ok (.iload 7, 2) := by decide +kernel
theorem dX12_isHinged_129 : decode cX12_isHinged 129 = .ok (.aload_n 0, 1) := by decide +kernel
theorem dX12_isHinged_130 : decode cX12_isHinged 130 = .ok (.getfield 397, 3) := by decide +kernel
theorem dX12_isHinged_133 : decode cX12_isHinged 133 = .ok (.if_icmp .ne 7, 3) := by decide +kernel
theorem dX12_isHinged_136 : decode cX12_isHinged 136 = .ok (.iconst 1, 1) := by decide +kernel
theorem dX12_isHinged_137 : decode cX12_isHinged 137 = .ok (.goto 4, 3) := by decide +kernel
theorem dX12_isHinged_140 : decode cX12_isHinged 140 = .ok (.iconst 0, 1) := by decide +kernel
theorem dX12_isHinged_141 : decode cX12_isHinged 141 = .ok (.istore_n 2, 1) := by decide +kernel
theorem dX12_isHinged_142 : decode cX12_isHinged 142 = .ok (.iload_n 3, 1) := by decide +kernel
theorem dX12_isHinged_143 : decode cX12_isHinged 143 = .ok (.ifCond .ne 12, 3) := by decide +kernel
theorem dX12_isHinged_146 : decode cX12_isHinged 146 = .ok (.iload 7, 2) := by decide +kernel
theorem dX12_isHinged_148 : decode cX12_isHinged 148 = .ok (.aload_n 0, 1) := by decide +kernel
theorem dX12_isHinged_149 : decode cX12_isHinged 149 = .ok (.getfield 400, 3) := by decide +kernel
theorem dX12_isHinged_152 : decode cX12_isHinged 152 = .ok (.if_icmp .ne 7, 3) := by decide +kernel
theorem dX12_isHinged_155 : decode cX12_isHinged 155 = .ok (.iconst 1, 1) := by decide +kernel
theorem dX12_isHinged_156 : decode cX12_isHinged 156 = .ok (.goto 4, 3) := by decide +kernel
theorem dX12_isHinged_159 : decode cX12_isHinged 159 = .ok (.iconst 0, 1) := by decide +kernel
theorem dX12_isHinged_160 : decode cX12_isHinged 160 = .ok (.istore_n 3, 1) := by decide +kernel
theorem dX12_isHinged_161 : decode cX12_isHinged 161 = .ok (.iinc 4 1, 3) := by decide +kernel
theorem dX12_isHinged_164 : decode cX12_isHinged 164 = .ok (.goto (-144), 3) := by decide +kernel
theorem dX12_isHinged_167 : decode cX12_isHinged 167 = .ok (.iload_n 1, 1) := by decide +kernel
theorem dX12_isHinged_168 : decode cX12_isHinged 168 = .ok (.ifCond .eq 15, 3) := by decide +kernel
theorem dX12_isHinged_171 : decode cX12_isHinged 171 = .ok (.iload_n 2, 1) := by decide +kernel
theorem dX12_isHinged_172 : decode cX12_isHinged 172 = .ok (.ifCond .eq 11, 3) := by decide +kernel
theorem dX12_isHinged_175 : decode cX12_isHinged 175 = .ok (.iload_n 3, 1) := by decide +kernel
theorem dX12_isHinged_176 : decode cX12_isHinged 176 = .ok (.ifCond .eq 7, 3) := by decide +kernel
theorem dX12_isHinged_179 : decode cX12_isHinged 179 = .ok (.iconst 1, 1) := by decide +kernel
theorem dX12_isHinged_180 : decode cX12_isHinged 180 = .ok (.goto 4, 3) := by decide +kernel
theorem dX12_isHinged_183 : decode cX12_isHinged 183 = .ok (.iconst 0, 1) := by decide +kernel
theorem dX12_isHinged_184 : decode cX12_isHinged 184 = .ok (.ireturn, 1) := by decide +kernel
theorem dX12_isJoint_0 : decode cX12_isJoint 0 = .ok (.iload_n 1, 1) := by decide +kernel
theorem dX12_isJoint_1 : decode cX12_isJoint 1 = .ok (.aload_n 0, 1) := by decide +kernel
theorem dX12_isJoint_2 : decode cX12_isJoint 2 = .ok (.getfield 397, 3) := by decide +kernel
theorem dX12_isJoint_5 : decode cX12_isJoint 5 = .ok (.if_icmp .eq 11, 3) := by decide +kernel
theorem dX12_isJoint_8 : decode cX12_isJoint 8 = .ok (.iload_n 1, 1) := by decide +kernel
theorem dX12_isJoint_9 : decode cX12_isJoint 9 = .ok (.aload_n 0, 1) := by decide +kernel
theorem dX12_isJoint_10 : decode cX12_isJoint 10 = .ok (.getfield 400, 3) := by decide +kernel
theorem dX12_isJoint_13 : decode cX12_isJoint 13 = .ok (.if_icmp .ne 7, 3) := by decide +kernel
theorem dX12_isJoint_16 : decode cX12_isJoint 16 = .ok (.iconst 1, 1) := by decide +kernel
theorem dX12_isJoint_17 : decode cX12_isJoint 17 = .ok (.goto 4, 3) := by decide +kernel
theorem dX12_isJoint_20 : decode cX12_isJoint 20 = .ok (.iconst 0, 1) := by decide +kernel
theorem dX12_isJoint_21 : decode cX12_isJoint 21 = .ok (.ireturn, 1) := by decide +kernel
theorem dX12_isKept_0 : decode cX12_isKept 0 = .ok (.iload_n 2, 1) := by decide +kernel
theorem dX12_isKept_1 : decode cX12_isKept 1 = .ok (.iload_n 3, 1) := by decide +kernel
theorem dX12_isKept_2 : decode cX12_isKept 2 = .ok (.invokestatic 267, 3) := by decide +kernel
theorem dX12_isKept_5 : decode cX12_isKept 5 = .ok (.istore 4, 2) := by decide +kernel
theorem dX12_isKept_7 : decode cX12_isKept 7 = .ok (.aload_n 0, 1) := by decide +kernel
theorem dX12_isKept_8 : decode cX12_isKept 8 = .ok (.getfield 35, 3) := by decide +kernel
theorem dX12_isKept_11 : decode cX12_isKept 11 = .ok (.iload_n 1, 1) := by decide +kernel
theorem dX12_isKept_12 : decode cX12_isKept 12 = .ok (.iaload, 1) := by decide +kernel
theorem dX12_isKept_13 : decode cX12_isKept 13 = .ok (.tableswitch 98 0 3 #[31, 52, 69, 86], 31) := by decide +kernel
theorem dX12_isKept_44 : decode cX12_isKept 44 = .ok (.iload 4, 2) := by decide +kernel
theorem dX12_isKept_46 : decode cX12_isKept 46 = .ok (.i2l, 1) := by decide +kernel
theorem dX12_isKept_47 : decode cX12_isKept 47 = .ok (.aload_n 0, 1) := by decide +kernel
theorem dX12_isKept_48 : decode cX12_isKept 48 = .ok (.getfield 44, 3) := by decide +kernel
theorem dX12_isKept_51 : decode cX12_isKept 51 = .ok (.iload_n 1, 1) := by decide +kernel
theorem dX12_isKept_52 : decode cX12_isKept 52 = .ok (.iaload, 1) := by decide +kernel
theorem dX12_isKept_53 : decode cX12_isKept 53 = .ok (.i2l, 1) := by decide +kernel
theorem dX12_isKept_54 : decode cX12_isKept 54 = .ok (.aload_n 0, 1) := by decide +kernel
theorem dX12_isKept_55 : decode cX12_isKept 55 = .ok (.getfield 47, 3) := by decide +kernel
theorem dX12_isKept_58 : decode cX12_isKept 58 = .ok (.iload_n 1, 1) := by decide +kernel
theorem dX12_isKept_59 : decode cX12_isKept 59 = .ok (.iaload, 1) := by decide +kernel
theorem dX12_isKept_60 : decode cX12_isKept 60 = .ok (.i2l, 1) := by decide +kernel
theorem dX12_isKept_61 : decode cX12_isKept 61 = .ok (.invokestatic 175, 3) := by decide +kernel
theorem dX12_isKept_64 : decode cX12_isKept 64 = .ok (.ireturn, 1) := by decide +kernel
theorem dX12_isKept_65 : decode cX12_isKept 65 = .ok (.iload 4, 2) := by decide +kernel
theorem dX12_isKept_67 : decode cX12_isKept 67 = .ok (.aload_n 0, 1) := by decide +kernel
theorem dX12_isKept_68 : decode cX12_isKept 68 = .ok (.getfield 47, 3) := by decide +kernel
theorem dX12_isKept_71 : decode cX12_isKept 71 = .ok (.iload_n 1, 1) := by decide +kernel
theorem dX12_isKept_72 : decode cX12_isKept 72 = .ok (.iaload, 1) := by decide +kernel
theorem dX12_isKept_73 : decode cX12_isKept 73 = .ok (.if_icmp .gt 7, 3) := by decide +kernel
theorem dX12_isKept_76 : decode cX12_isKept 76 = .ok (.iconst 1, 1) := by decide +kernel
theorem dX12_isKept_77 : decode cX12_isKept 77 = .ok (.goto 4, 3) := by decide +kernel
theorem dX12_isKept_80 : decode cX12_isKept 80 = .ok (.iconst 0, 1) := by decide +kernel
theorem dX12_isKept_81 : decode cX12_isKept 81 = .ok (.ireturn, 1) := by decide +kernel
theorem dX12_isKept_82 : decode cX12_isKept 82 = .ok (.iload 4, 2) := by decide +kernel
theorem dX12_isKept_84 : decode cX12_isKept 84 = .ok (.aload_n 0, 1) := by decide +kernel
theorem dX12_isKept_85 : decode cX12_isKept 85 = .ok (.getfield 47, 3) := by decide +kernel
theorem dX12_isKept_88 : decode cX12_isKept 88 = .ok (.iload_n 1, 1) := by decide +kernel
theorem dX12_isKept_89 : decode cX12_isKept 89 = .ok (.iaload, 1) := by decide +kernel
theorem dX12_isKept_90 : decode cX12_isKept 90 = .ok (.if_icmp .le 7, 3) := by decide +kernel
theorem dX12_isKept_93 : decode cX12_isKept 93 = .ok (.iconst 1, 1) := by decide +kernel
theorem dX12_isKept_94 : decode cX12_isKept 94 = .ok (.goto 4, 3) := by decide +kernel
theorem dX12_isKept_97 : decode cX12_isKept 97 = .ok (.iconst 0, 1) := by decide +kernel
theorem dX12_isKept_98 : decode cX12_isKept 98 = .ok (.ireturn, 1) := by decide +kernel
theorem dX12_isKept_99 : decode cX12_isKept 99 = .ok (.iload_n 2, 1) := by decide +kernel
theorem dX12_isKept_100 : decode cX12_isKept 100 = .ok (.iload_n 3, 1) := by decide +kernel
theorem dX12_isKept_101 : decode cX12_isKept 101 = .ok (.aload_n 0, 1) := by decide +kernel
theorem dX12_isKept_102 : decode cX12_isKept 102 = .ok (.getfield 44, 3) := by decide +kernel
theorem dX12_isKept_105 : decode cX12_isKept 105 = .ok (.iload_n 1, 1) := by decide +kernel
theorem dX12_isKept_106 : decode cX12_isKept 106 = .ok (.iaload, 1) := by decide +kernel
theorem dX12_isKept_107 : decode cX12_isKept 107 = .ok (.invokestatic 280, 3) := by decide +kernel
theorem dX12_isKept_110 : decode cX12_isKept 110 = .ok (.ireturn, 1) := by decide +kernel
theorem dX12_isKept_111 : decode cX12_isKept 111 = .ok (.aload_n 0, 1) := by decide +kernel
theorem dX12_isKept_112 : decode cX12_isKept 112 = .ok (.iload_n 2, 1) := by decide +kernel
theorem dX12_isKept_113 : decode cX12_isKept 113 = .ok (.invokevirtual 216, 3) := by decide +kernel
theorem dX12_isKept_116 : decode cX12_isKept 116 = .ok (.ifCond .eq 30, 3) := by decide +kernel
theorem dX12_isKept_119 : decode cX12_isKept 119 = .ok (.aload_n 0, 1) := by decide +kernel
theorem dX12_isKept_120 : decode cX12_isKept 120 = .ok (.iload_n 3, 1) := by decide +kernel
theorem dX12_isKept_121 : decode cX12_isKept 121 = .ok (.invokevirtual 216, 3) := by decide +kernel
theorem dX12_isKept_124 : decode cX12_isKept 124 = .ok (.ifCond .eq 22, 3) := by decide +kernel
theorem dX12_isKept_127 : decode cX12_isKept 127 = .ok (.aload_n 0, 1) := by decide +kernel
theorem dX12_isKept_128 : decode cX12_isKept 128 = .ok (.getfield 65, 3) := by decide +kernel
theorem dX12_isKept_131 : decode cX12_isKept 131 = .ok (.iload_n 3, 1) := by decide +kernel
theorem dX12_isKept_132 : decode cX12_isKept 132 = .ok (.iaload, 1) := by decide +kernel
theorem dX12_isKept_133 : decode cX12_isKept 133 = .ok (.aload_n 0, 1) := by decide +kernel
theorem dX12_isKept_134 : decode cX12_isKept 134 = .ok (.getfield 44, 3) := by decide +kernel
theorem dX12_isKept_137 : decode cX12_isKept 137 = .ok (.iload_n 1, 1) := by decide +kernel
theorem dX12_isKept_138 : decode cX12_isKept 138 = .ok (.iaload, 1) := by decide +kernel
theorem dX12_isKept_139 : decode cX12_isKept 139 = .ok (.if_icmp .ne 7, 3) := by decide +kernel
theorem dX12_isKept_142 : decode cX12_isKept 142 = .ok (.iconst 1, 1) := by decide +kernel
theorem dX12_isKept_143 : decode cX12_isKept 143 = .ok (.goto 4, 3) := by decide +kernel
theorem dX12_isKept_146 : decode cX12_isKept 146 = .ok (.iconst 0, 1) := by decide +kernel
theorem dX12_isKept_147 : decode cX12_isKept 147 = .ok (.ireturn, 1) := by decide +kernel
theorem dX12_isMeasure_0 : decode cX12_isMeasure 0 = .ok (.iload_n 0, 1) := by decide +kernel
theorem dX12_isMeasure_1 : decode cX12_isMeasure 1 = .ok (.tableswitch 116 0 4 #[35, 66, 66, 76, 86], 35) := by decide +kernel
theorem dX12_isMeasure_36 : decode cX12_isMeasure 36 = .ok (.iload_n 1, 1) := by decide +kernel
theorem dX12_isMeasure_37 : decode cX12_isMeasure 37 = .ok (.i2l, 1) := by decide +kernel
theorem dX12_isMeasure_38 : decode cX12_isMeasure 38 = .ok (.lconst 0, 1) := by decide +kernel
theorem dX12_isMeasure_39 : decode cX12_isMeasure 39 = .ok (.ldc2_w 271, 3) := by decide +kernel
theorem dX12_isMeasure_42 : decode cX12_isMeasure 42 = .ok (.invokestatic 175, 3) := by decide +kernel
theorem dX12_isMeasure_45 : decode cX12_isMeasure 45 = .ok (.ifCond .eq 20, 3) := by decide +kernel
theorem dX12_isMeasure_48 : decode cX12_isMeasure 48 = .ok (.iload_n 2, 1) := by decide +kernel
theorem dX12_isMeasure_49 : decode cX12_isMeasure 49 = .ok (.i2l, 1) := by decide +kernel
theorem dX12_isMeasure_50 : decode cX12_isMeasure 50 = .ok (.iload_n 1, 1) := by decide +kernel
theorem dX12_isMeasure_51 : decode cX12_isMeasure 51 = .ok (.i2l, 1) := by decide +kernel
theorem dX12_isMeasure_52 : decode cX12_isMeasure 52 = .ok (.ldc2_w 271, 3) := by decide +kernel
theorem dX12_isMeasure_55 : decode cX12_isMeasure 55 = .ok (.invokestatic 175, 3) := by decide +kernel
theorem dX12_isMeasure_58 : decode cX12_isMeasure 58 = .ok (.ifCond .eq 7, 3) := by decide +kernel
theorem dX12_isMeasure_61 : decode cX12_isMeasure 61 = .ok (.iconst 1, 1) := by decide +kernel
theorem dX12_isMeasure_62 : decode cX12_isMeasure 62 = .ok (.goto 4, 3) := by decide +kernel
theorem dX12_isMeasure_65 : decode cX12_isMeasure 65 = .ok (.iconst 0, 1) := by decide +kernel
theorem dX12_isMeasure_66 : decode cX12_isMeasure 66 = .ok (.ireturn, 1) := by decide +kernel
theorem dX12_isMeasure_67 : decode cX12_isMeasure 67 = .ok (.iload_n 2, 1) := by decide +kernel
theorem dX12_isMeasure_68 : decode cX12_isMeasure 68 = .ok (.i2l, 1) := by decide +kernel
theorem dX12_isMeasure_69 : decode cX12_isMeasure 69 = .ok (.lconst 0, 1) := by decide +kernel
theorem dX12_isMeasure_70 : decode cX12_isMeasure 70 = .ok (.ldc2_w 271, 3) := by decide +kernel
theorem dX12_isMeasure_73 : decode cX12_isMeasure 73 = .ok (.invokestatic 175, 3) := by decide +kernel
theorem dX12_isMeasure_76 : decode cX12_isMeasure 76 = .ok (.ireturn, 1) := by decide +kernel
theorem dX12_isMeasure_77 : decode cX12_isMeasure 77 = .ok (.iload_n 1, 1) := by decide +kernel
theorem dX12_isMeasure_78 : decode cX12_isMeasure 78 = .ok (.i2l, 1) := by decide +kernel
theorem dX12_isMeasure_79 : decode cX12_isMeasure 79 = .ok (.lconst 0, 1) := by decide +kernel
theorem dX12_isMeasure_80 : decode cX12_isMeasure 80 = .ok (.ldc2_w 226, 3) := by decide +kernel
theorem dX12_isMeasure_83 : decode cX12_isMeasure 83 = .ok (.invokestatic 175, 3) := by decide +kernel
theorem dX12_isMeasure_86 : decode cX12_isMeasure 86 = .ok (.ireturn, 1) := by decide +kernel
theorem dX12_isMeasure_87 : decode cX12_isMeasure 87 = .ok (.iload_n 1, 1) := by decide +kernel
theorem dX12_isMeasure_88 : decode cX12_isMeasure 88 = .ok (.i2l, 1) := by decide +kernel
theorem dX12_isMeasure_89 : decode cX12_isMeasure 89 = .ok (.lconst 0, 1) := by decide +kernel
theorem dX12_isMeasure_90 : decode cX12_isMeasure 90 = .ok (.ldc2_w 290, 3) := by decide +kernel
theorem dX12_isMeasure_93 : decode cX12_isMeasure 93 = .ok (.invokestatic 175, 3) := by decide +kernel
theorem dX12_isMeasure_96 : decode cX12_isMeasure 96 = .ok (.ifCond .eq 19, 3) := by decide +kernel
theorem dX12_isMeasure_99 : decode cX12_isMeasure 99 = .ok (.iload_n 2, 1) := by decide +kernel
theorem dX12_isMeasure_100 : decode cX12_isMeasure 100 = .ok (.i2l, 1) := by decide +kernel
theorem dX12_isMeasure_101 : decode cX12_isMeasure 101 = .ok (.lconst 1, 1) := by decide +kernel
theorem dX12_isMeasure_102 : decode cX12_isMeasure 102 = .ok (.ldc2_w 271, 3) := by decide +kernel
theorem dX12_isMeasure_105 : decode cX12_isMeasure 105 = .ok (.invokestatic 175, 3) := by decide +kernel
theorem dX12_isMeasure_108 : decode cX12_isMeasure 108 = .ok (.ifCond .eq 7, 3) := by decide +kernel
theorem dX12_isMeasure_111 : decode cX12_isMeasure 111 = .ok (.iconst 1, 1) := by decide +kernel
theorem dX12_isMeasure_112 : decode cX12_isMeasure 112 = .ok (.goto 4, 3) := by decide +kernel
theorem dX12_isMeasure_115 : decode cX12_isMeasure 115 = .ok (.iconst 0, 1) := by decide +kernel
theorem dX12_isMeasure_116 : decode cX12_isMeasure 116 = .ok (.ireturn, 1) := by decide +kernel
theorem dX12_isMeasure_117 : decode cX12_isMeasure 117 = .ok (.iconst 0, 1) := by decide +kernel
theorem dX12_isMeasure_118 : decode cX12_isMeasure 118 = .ok (.ireturn, 1) := by decide +kernel
theorem dX12_isOnSide_0 : decode cX12_isOnSide 0 = .ok (.iload_n 1, 1) := by decide +kernel
theorem dX12_isOnSide_1 : decode cX12_isOnSide 1 = .ok (.bipush 8, 2) := by decide +kernel
theorem dX12_isOnSide_3 : decode cX12_isOnSide 3 = .ok (.irem, 1) := by decide +kernel
theorem dX12_isOnSide_4 : decode cX12_isOnSide 4 = .ok (.iload_n 0, 1) := by decide +kernel
theorem dX12_isOnSide_5 : decode cX12_isOnSide 5 = .ok (.bipush 8, 2) := by decide +kernel
theorem dX12_isOnSide_7 : decode cX12_isOnSide 7 = .ok (.irem, 1) := by decide +kernel
theorem dX12_isOnSide_8 : decode cX12_isOnSide 8 = .ok (.isub, 1) := by decide +kernel
theorem dX12_isOnSide_9 : decode cX12_isOnSide 9 = .ok (.istore_n 3, 1) := by decide +kernel
theorem dX12_isOnSide_10 : decode cX12_isOnSide 10 = .ok (.iload_n 1, 1) := by decide +kernel
theorem dX12_isOnSide_11 : decode cX12_isOnSide 11 = .ok (.bipush 8, 2) := by decide +kernel
theorem dX12_isOnSide_13 : decode cX12_isOnSide 13 = .ok (.idiv, 1) := by decide +kernel
theorem dX12_isOnSide_14 : decode cX12_isOnSide 14 = .ok (.iload_n 0, 1) := by decide +kernel
theorem dX12_isOnSide_15 : decode cX12_isOnSide 15 = .ok (.bipush 8, 2) := by decide +kernel
theorem dX12_isOnSide_17 : decode cX12_isOnSide 17 = .ok (.idiv, 1) := by decide +kernel
theorem dX12_isOnSide_18 : decode cX12_isOnSide 18 = .ok (.isub, 1) := by decide +kernel
theorem dX12_isOnSide_19 : decode cX12_isOnSide 19 = .ok (.istore 4, 2) := by decide +kernel
theorem dX12_isOnSide_21 : decode cX12_isOnSide 21 = .ok (.iload_n 2, 1) := by decide +kernel
theorem dX12_isOnSide_22 : decode cX12_isOnSide 22 = .ok (.ifCond .ne 7, 3) := by decide +kernel
theorem dX12_isOnSide_25 : decode cX12_isOnSide 25 = .ok (.iload_n 3, 1) := by decide +kernel
theorem dX12_isOnSide_26 : decode cX12_isOnSide 26 = .ok (.goto 26, 3) := by decide +kernel
theorem dX12_isOnSide_29 : decode cX12_isOnSide 29 = .ok (.iload_n 2, 1) := by decide +kernel
theorem dX12_isOnSide_30 : decode cX12_isOnSide 30 = .ok (.iconst 1, 1) := by decide +kernel
theorem dX12_isOnSide_31 : decode cX12_isOnSide 31 = .ok (.if_icmp .ne 8, 3) := by decide +kernel
theorem dX12_isOnSide_34 : decode cX12_isOnSide 34 = .ok (.iload 4, 2) := by decide +kernel
theorem dX12_isOnSide_36 : decode cX12_isOnSide 36 = .ok (.goto 16, 3) := by decide +kernel
theorem dX12_isOnSide_39 : decode cX12_isOnSide 39 = .ok (.iload_n 2, 1) := by decide +kernel
theorem dX12_isOnSide_40 : decode cX12_isOnSide 40 = .ok (.iconst 2, 1) := by decide +kernel
theorem dX12_isOnSide_41 : decode cX12_isOnSide 41 = .ok (.if_icmp .ne 8, 3) := by decide +kernel
theorem dX12_isOnSide_44 : decode cX12_isOnSide 44 = .ok (.iload_n 3, 1) := by decide +kernel
theorem dX12_isOnSide_45 : decode cX12_isOnSide 45 = .ok (.ineg, 1) := by decide +kernel
theorem dX12_isOnSide_46 : decode cX12_isOnSide 46 = .ok (.goto 6, 3) := by decide +kernel
theorem dX12_isOnSide_49 : decode cX12_isOnSide 49 = .ok (.iload 4, 2) := by decide +kernel
theorem dX12_isOnSide_51 : decode cX12_isOnSide 51 = .ok (.ineg, 1) := by decide +kernel
theorem dX12_isOnSide_52 : decode cX12_isOnSide 52 = .ok (.istore 5, 2) := by decide +kernel
theorem dX12_isOnSide_54 : decode cX12_isOnSide 54 = .ok (.iload_n 2, 1) := by decide +kernel
theorem dX12_isOnSide_55 : decode cX12_isOnSide 55 = .ok (.iconst 2, 1) := by decide +kernel
theorem dX12_isOnSide_56 : decode cX12_isOnSide 56 = .ok (.irem, 1) := by decide +kernel
theorem dX12_isOnSide_57 : decode cX12_isOnSide 57 = .ok (.ifCond .ne 8, 3) := by decide +kernel
theorem dX12_isOnSide_60 : decode cX12_isOnSide 60 = .ok (.iload 4, 2) := by decide +kernel
theorem dX12_isOnSide_62 : decode cX12_isOnSide 62 = .ok (.goto 4, 3) := by decide +kernel
theorem dX12_isOnSide_65 : decode cX12_isOnSide 65 = .ok (.iload_n 3, 1) := by decide +kernel
theorem dX12_isOnSide_66 : decode cX12_isOnSide 66 = .ok (.invokestatic 277, 3) := by decide +kernel
theorem dX12_isOnSide_69 : decode cX12_isOnSide 69 = .ok (.istore 6, 2) := by decide +kernel
theorem dX12_isOnSide_71 : decode cX12_isOnSide 71 = .ok (.iload 5, 2) := by decide +kernel
theorem dX12_isOnSide_73 : decode cX12_isOnSide 73 = .ok (.ifCond .le 14, 3) := by decide +kernel
theorem dX12_isOnSide_76 : decode cX12_isOnSide 76 = .ok (.iload 6, 2) := by decide +kernel
theorem dX12_isOnSide_78 : decode cX12_isOnSide 78 = .ok (.iload 5, 2) := by decide +kernel
theorem dX12_isOnSide_80 : decode cX12_isOnSide 80 = .ok (.if_icmp .gt 7, 3) := by decide +kernel
theorem dX12_isOnSide_83 : decode cX12_isOnSide 83 = .ok (.iconst 1, 1) := by decide +kernel
theorem dX12_isOnSide_84 : decode cX12_isOnSide 84 = .ok (.goto 4, 3) := by decide +kernel
theorem dX12_isOnSide_87 : decode cX12_isOnSide 87 = .ok (.iconst 0, 1) := by decide +kernel
theorem dX12_isOnSide_88 : decode cX12_isOnSide 88 = .ok (.ireturn, 1) := by decide +kernel
theorem dX12_isOtherAnchorAt_0 : decode cX12_isOtherAnchorAt 0 = .ok (.iconst 0, 1) := by decide +kernel
theorem dX12_isOtherAnchorAt_1 : decode cX12_isOtherAnchorAt 1 = .ok (.istore_n 2, 1) := by decide +kernel
theorem dX12_isOtherAnchorAt_2 : decode cX12_isOtherAnchorAt 2 = .ok (.iconst 0, 1) := by decide +kernel
theorem dX12_isOtherAnchorAt_3 : decode cX12_isOtherAnchorAt 3 = .ok (.istore_n 3, 1) := by decide +kernel
theorem dX12_isOtherAnchorAt_4 : decode cX12_isOtherAnchorAt 4 = .ok (.iload_n 3, 1) := by decide +kernel
theorem dX12_isOtherAnchorAt_5 : decode cX12_isOtherAnchorAt 5 = .ok (.aload_n 0, 1) := by decide +kernel
theorem dX12_isOtherAnchorAt_6 : decode cX12_isOtherAnchorAt 6 = .ok (.getfield 183, 3) := by decide +kernel
theorem dX12_isOtherAnchorAt_9 : decode cX12_isOtherAnchorAt 9 = .ok (.if_icmp .ge 56, 3) := by decide +kernel
theorem dX12_isOtherAnchorAt_12 : decode cX12_isOtherAnchorAt 12 = .ok (.iload_n 2, 1) := by decide +kernel
theorem dX12_isOtherAnchorAt_13 : decode cX12_isOtherAnchorAt 13 = .ok (.ifCond .ne 40, 3) := by decide +kernel
theorem dX12_isOtherAnchorAt_16 : decode cX12_isOtherAnchorAt 16 = .ok (.aload_n 0, 1) := by decide +kernel
theorem dX12_isOtherAnchorAt_17 : decode cX12_isOtherAnchorAt 17 = .ok (.getfield 13, 3) := by decide +kernel
theorem dX12_isOtherAnchorAt_20 : decode cX12_isOtherAnchorAt 20 = .ok (.iload_n 3, 1) := by decide +kernel
theorem dX12_isOtherAnchorAt_21 : decode cX12_isOtherAnchorAt 21 = .ok (.iaload, 1) := by decide +kernel
theorem dX12_isOtherAnchorAt_22 : decode cX12_isOtherAnchorAt 22 = .ok (.ifCond .le 35, 3) := by decide +kernel
theorem dX12_isOtherAnchorAt_25 : decode cX12_isOtherAnchorAt 25 = .ok (.aload_n 0, 1) := by decide +kernel
theorem dX12_isOtherAnchorAt_26 : decode cX12_isOtherAnchorAt 26 = .ok (.getfield 17, 3) := by decide +kernel
theorem dX12_isOtherAnchorAt_29 : decode cX12_isOtherAnchorAt 29 = .ok (.iload_n 3, 1) := by decide +kernel
theorem dX12_isOtherAnchorAt_30 : decode cX12_isOtherAnchorAt 30 = .ok (.iaload, 1) := by decide +kernel
theorem dX12_isOtherAnchorAt_31 : decode cX12_isOtherAnchorAt 31 = .ok (.iload_n 1, 1) := by decide +kernel
theorem dX12_isOtherAnchorAt_32 : decode cX12_isOtherAnchorAt 32 = .ok (.if_icmp .ne 25, 3) := by decide +kernel
theorem dX12_isOtherAnchorAt_35 : decode cX12_isOtherAnchorAt 35 = .ok (.aload_n 0, 1) := by decide +kernel
theorem dX12_isOtherAnchorAt_36 : decode cX12_isOtherAnchorAt 36 = .ok (.getfield 335, 3) := by decide +kernel
theorem dX12_isOtherAnchorAt_39 : decode cX12_isOtherAnchorAt 39 = .ok (.iconst 1, 1) := by decide +kernel
theorem dX12_isOtherAnchorAt_40 : decode cX12_isOtherAnchorAt 40 = .ok (.if_icmp .gt 13, 3) := by decide +kernel
theorem dX12_isOtherAnchorAt_43 : decode cX12_isOtherAnchorAt 43 = .ok (.aload_n 0, 1) := by decide +kernel
theorem dX12_isOtherAnchorAt_44 : decode cX12_isOtherAnchorAt 44 = .ok (.getfield 90, 3) := by decide +kernel
theorem dX12_isOtherAnchorAt_47 : decode cX12_isOtherAnchorAt 47 = .ok (.iconst 0, 1) := by decide +kernel
theorem dX12_isOtherAnchorAt_48 : decode cX12_isOtherAnchorAt 48 = .ok (.iaload, 1) := by decide +kernel
theorem dX12_isOtherAnchorAt_49 : decode cX12_isOtherAnchorAt 49 = .ok (.iload_n 3, 1) := by decide +kernel
theorem dX12_isOtherAnchorAt_50 : decode cX12_isOtherAnchorAt 50 = .ok (.if_icmp .eq 7, 3) := by decide +kernel
theorem dX12_isOtherAnchorAt_53 : decode cX12_isOtherAnchorAt 53 = .ok (.iconst 1, 1) := by decide +kernel
theorem dX12_isOtherAnchorAt_54 : decode cX12_isOtherAnchorAt 54 = .ok (.goto 4, 3) := by decide +kernel
theorem dX12_isOtherAnchorAt_57 : decode cX12_isOtherAnchorAt 57 = .ok (.iconst 0, 1) := by decide +kernel
theorem dX12_isOtherAnchorAt_58 : decode cX12_isOtherAnchorAt 58 = .ok (.istore_n 2, 1) := by decide +kernel
theorem dX12_isOtherAnchorAt_59 : decode cX12_isOtherAnchorAt 59 = .ok (.iinc 3 1, 3) := by decide +kernel
theorem dX12_isOtherAnchorAt_62 : decode cX12_isOtherAnchorAt 62 = .ok (.goto (-58), 3) := by decide +kernel
theorem dX12_isOtherAnchorAt_65 : decode cX12_isOtherAnchorAt 65 = .ok (.iload_n 2, 1) := by decide +kernel
theorem dX12_isOtherAnchorAt_66 : decode cX12_isOtherAnchorAt 66 = .ok (.ireturn, 1) := by decide +kernel
theorem dX12_isPlaced_0 : decode cX12_isPlaced 0 = .ok (.aload_n 0, 1) := by decide +kernel
theorem dX12_isPlaced_1 : decode cX12_isPlaced 1 = .ok (.iload_n 1, 1) := by decide +kernel
theorem dX12_isPlaced_2 : decode cX12_isPlaced 2 = .ok (.invokevirtual 330, 3) := by decide +kernel
theorem dX12_isPlaced_5 : decode cX12_isPlaced 5 = .ok (.istore_n 2, 1) := by decide +kernel
theorem dX12_isPlaced_6 : decode cX12_isPlaced 6 = .ok (.iconst 1, 1) := by decide +kernel
theorem dX12_isPlaced_7 : decode cX12_isPlaced 7 = .ok (.istore_n 3, 1) := by decide +kernel
theorem dX12_isPlaced_8 : decode cX12_isPlaced 8 = .ok (.iconst 0, 1) := by decide +kernel
theorem dX12_isPlaced_9 : decode cX12_isPlaced 9 = .ok (.istore 4, 2) := by decide +kernel
theorem dX12_isPlaced_11 : decode cX12_isPlaced 11 = .ok (.iload 4, 2) := by decide +kernel
theorem dX12_isPlaced_13 : decode cX12_isPlaced 13 = .ok (.aload_n 0, 1) := by decide +kernel
theorem dX12_isPlaced_14 : decode cX12_isPlaced 14 = .ok (.getfield 183, 3) := by decide +kernel
theorem dX12_isPlaced_17 : decode cX12_isPlaced 17 = .ok (.if_icmp .ge 39, 3) := by decide +kernel
theorem dX12_isPlaced_20 : decode cX12_isPlaced 20 = .ok (.iload_n 3, 1) := by decide +kernel
theorem dX12_isPlaced_21 : decode cX12_isPlaced 21 = .ok (.ifCond .eq 27, 3) := by decide +kernel
theorem dX12_isPlaced_24 : decode cX12_isPlaced 24 = .ok (.iload_n 2, 1) := by decide +kernel
theorem dX12_isPlaced_25 : decode cX12_isPlaced 25 = .ok (.i2l, 1) := by decide +kernel
theorem dX12_isPlaced_26 : decode cX12_isPlaced 26 = .ok (.iload 4, 2) := by decide +kernel
theorem dX12_isPlaced_28 : decode cX12_isPlaced 28 = .ok (.invokestatic 162, 3) := by decide +kernel
theorem dX12_isPlaced_31 : decode cX12_isPlaced 31 = .ok (.ifCond .eq 13, 3) := by decide +kernel
theorem dX12_isPlaced_34 : decode cX12_isPlaced 34 = .ok (.aload_n 0, 1) := by decide +kernel
theorem dX12_isPlaced_35 : decode cX12_isPlaced 35 = .ok (.getfield 32, 3) := by decide +kernel
theorem dX12_isPlaced_38 : decode cX12_isPlaced 38 = .ok (.iload 4, 2) := by decide +kernel
theorem dX12_isPlaced_40 : decode cX12_isPlaced 40 = .ok (.iaload, 1) := by decide +kernel
theorem dX12_isPlaced_41 : decode cX12_isPlaced 41 = .ok (.ifCond .lt 7, 3) := by decide +kernel
theorem dX12_isPlaced_44 : decode cX12_isPlaced 44 = .ok (.iconst 1, 1) := by decide +kernel
theorem dX12_isPlaced_45 : decode cX12_isPlaced 45 = .ok (.goto 4, 3) := by decide +kernel
theorem dX12_isPlaced_48 : decode cX12_isPlaced 48 = .ok (.iconst 0, 1) := by decide +kernel
theorem dX12_isPlaced_49 : decode cX12_isPlaced 49 = .ok (.istore_n 3, 1) := by decide +kernel
theorem dX12_isPlaced_50 : decode cX12_isPlaced 50 = .ok (.iinc 4 1, 3) := by decide +kernel
theorem dX12_isPlaced_53 : decode cX12_isPlaced 53 = .ok (.goto (-42), 3) := by decide +kernel
theorem dX12_isPlaced_56 : decode cX12_isPlaced 56 = .ok (.iload_n 3, 1) := by decide +kernel
theorem dX12_isPlaced_57 : decode cX12_isPlaced 57 = .ok (.ireturn, 1) := by decide +kernel
theorem dX12_isQuietWithout_0 : decode cX12_isQuietWithout 0 = .ok (.iconst 0, 1) := by decide +kernel
theorem dX12_isQuietWithout_1 : decode cX12_isQuietWithout 1 = .ok (.istore_n 3, 1) := by decide +kernel
theorem dX12_isQuietWithout_2 : decode cX12_isQuietWithout 2 = .ok (.iload_n 3, 1) := by decide +kernel
theorem dX12_isQuietWithout_3 : decode cX12_isQuietWithout 3 = .ok (.aload_n 0, 1) := by decide +kernel
theorem dX12_isQuietWithout_4 : decode cX12_isQuietWithout 4 = .ok (.getfield 186, 3) := by decide +kernel
theorem dX12_isQuietWithout_7 : decode cX12_isQuietWithout 7 = .ok (.if_icmp .ge 69, 3) := by decide +kernel
theorem dX12_isQuietWithout_10 : decode cX12_isQuietWithout 10 = .ok (.aload_n 0, 1) := by decide +kernel
theorem dX12_isQuietWithout_11 : decode cX12_isQuietWithout 11 = .ok (.getfield 78, 3) := by decide +kernel
theorem dX12_isQuietWithout_14 : decode cX12_isQuietWithout 14 = .ok (.iload_n 3, 1) := by decide +kernel
theorem dX12_isQuietWithout_15 : decode cX12_isQuietWithout 15 = .ok (.aload_n 0, 1) := by decide +kernel
theorem dX12_isQuietWithout_16 : decode cX12_isQuietWithout 16 = .ok (.getfield 50, 3) := by decide +kernel
theorem dX12_isQuietWithout_19 : decode cX12_isQuietWithout 19 = .ok (.iload_n 3, 1) := by decide +kernel
theorem dX12_isQuietWithout_20 : decode cX12_isQuietWithout 20 = .ok (.baload, 1) := by decide +kernel
theorem dX12_isQuietWithout_21 : decode cX12_isQuietWithout 21 = .ok (.ifCond .eq 47, 3) := by decide +kernel
theorem dX12_isQuietWithout_24 : decode cX12_isQuietWithout 24 = .ok (.aload_n 0, 1) := by decide +kernel
theorem dX12_isQuietWithout_25 : decode cX12_isQuietWithout 25 = .ok (.getfield 38, 3) := by decide +kernel
theorem dX12_isQuietWithout_28 : decode cX12_isQuietWithout 28 = .ok (.iload_n 3, 1) := by decide +kernel
theorem dX12_isQuietWithout_29 : decode cX12_isQuietWithout 29 = .ok (.iaload, 1) := by decide +kernel
theorem dX12_isQuietWithout_30 : decode cX12_isQuietWithout 30 = .ok (.iload_n 1, 1) := by decide +kernel
theorem dX12_isQuietWithout_31 : decode cX12_isQuietWithout 31 = .ok (.if_icmp .eq 37, 3) := by decide +kernel
theorem dX12_isQuietWithout_34 : decode cX12_isQuietWithout 34 = .ok (.aload_n 0, 1) := by decide +kernel
theorem dX12_isQuietWithout_35 : decode cX12_isQuietWithout 35 = .ok (.getfield 41, 3) := by decide +kernel
theorem dX12_isQuietWithout_38 : decode cX12_isQuietWithout 38 = .ok (.iload_n 3, 1) := by decide +kernel
theorem dX12_isQuietWithout_39 : decode cX12_isQuietWithout 39 = .ok (.iaload, 1) := by decide +kernel
theorem dX12_isQuietWithout_40 : decode cX12_isQuietWithout 40 = .ok (.iload_n 1, 1) := by decide +kernel
theorem dX12_isQuietWithout_41 : decode cX12_isQuietWithout 41 = .ok (.if_icmp .eq 27, 3) := by decide +kernel
theorem dX12_isQuietWithout_44 : decode cX12_isQuietWithout 44 = .ok (.aload_n 0, 1) := by decide +kernel
theorem dX12_isQuietWithout_45 : decode cX12_isQuietWithout 45 = .ok (.getfield 38, 3) := by decide +kernel
theorem dX12_isQuietWithout_48 : decode cX12_isQuietWithout 48 = .ok (.iload_n 3, 1) := by decide +kernel
theorem dX12_isQuietWithout_49 : decode cX12_isQuietWithout 49 = .ok (.iaload, 1) := by decide +kernel
theorem dX12_isQuietWithout_50 : decode cX12_isQuietWithout 50 = .ok (.iload_n 2, 1) := by decide +kernel
theorem dX12_isQuietWithout_51 : decode cX12_isQuietWithout 51 = .ok (.if_icmp .eq 17, 3) := by decide +kernel
theorem dX12_isQuietWithout_54 : decode cX12_isQuietWithout 54 = .ok (.aload_n 0, 1) := by decide +kernel
theorem dX12_isQuietWithout_55 : decode cX12_isQuietWithout 55 = .ok (.getfield 41, 3) := by decide +kernel
theorem dX12_isQuietWithout_58 : decode cX12_isQuietWithout 58 = .ok (.iload_n 3, 1) := by decide +kernel
theorem dX12_isQuietWithout_59 : decode cX12_isQuietWithout 59 = .ok (.iaload, 1) := by decide +kernel
theorem dX12_isQuietWithout_60 : decode cX12_isQuietWithout 60 = .ok (.iload_n 2, 1) := by decide +kernel
theorem dX12_isQuietWithout_61 : decode cX12_isQuietWithout 61 = .ok (.if_icmp .eq 7, 3) := by decide +kernel
theorem dX12_isQuietWithout_64 : decode cX12_isQuietWithout 64 = .ok (.iconst 1, 1) := by decide +kernel
theorem dX12_isQuietWithout_65 : decode cX12_isQuietWithout 65 = .ok (.goto 4, 3) := by decide +kernel
theorem dX12_isQuietWithout_68 : decode cX12_isQuietWithout 68 = .ok (.iconst 0, 1) := by decide +kernel
theorem dX12_isQuietWithout_69 : decode cX12_isQuietWithout 69 = .ok (.bastore, 1) := by decide +kernel
theorem dX12_isQuietWithout_70 : decode cX12_isQuietWithout 70 = .ok (.iinc 3 1, 3) := by decide +kernel
theorem dX12_isQuietWithout_73 : decode cX12_isQuietWithout 73 = .ok (.goto (-71), 3) := by decide +kernel
theorem dX12_isQuietWithout_76 : decode cX12_isQuietWithout 76 = .ok (.aload_n 0, 1) := by decide +kernel
theorem dX12_isQuietWithout_77 : decode cX12_isQuietWithout 77 = .ok (.invokevirtual 320, 3) := by decide +kernel
theorem dX12_isQuietWithout_80 : decode cX12_isQuietWithout 80 = .ok (.ifCond .ne 7, 3) := by decide +kernel
theorem dX12_isQuietWithout_83 : decode cX12_isQuietWithout 83 = .ok (.iconst 1, 1) := by decide +kernel
theorem dX12_isQuietWithout_84 : decode cX12_isQuietWithout 84 = .ok (.goto 4, 3) := by decide +kernel
theorem dX12_isQuietWithout_87 : decode cX12_isQuietWithout 87 = .ok (.iconst 0, 1) := by decide +kernel
theorem dX12_isQuietWithout_88 : decode cX12_isQuietWithout 88 = .ok (.ireturn, 1) := by decide +kernel
theorem dX12_isTaken_0 : decode cX12_isTaken 0 = .ok (.aload_n 0, 1) := by decide +kernel
theorem dX12_isTaken_1 : decode cX12_isTaken 1 = .ok (.getfield 132, 3) := by decide +kernel
theorem dX12_isTaken_4 : decode cX12_isTaken 4 = .ok (.iload_n 1, 1) := by decide +kernel
theorem dX12_isTaken_5 : decode cX12_isTaken 5 = .ok (.iaload, 1) := by decide +kernel
theorem dX12_isTaken_6 : decode cX12_isTaken 6 = .ok (.istore_n 3, 1) := by decide +kernel
theorem dX12_isTaken_7 : decode cX12_isTaken 7 = .ok (.iload_n 2, 1) := by decide +kernel
theorem dX12_isTaken_8 : decode cX12_isTaken 8 = .ok (.iconst 3, 1) := by decide +kernel
theorem dX12_isTaken_9 : decode cX12_isTaken 9 = .ok (.if_icmp .ge 23, 3) := by decide +kernel
theorem dX12_isTaken_12 : decode cX12_isTaken 12 = .ok (.aload_n 0, 1) := by decide +kernel
theorem dX12_isTaken_13 : decode cX12_isTaken 13 = .ok (.getfield 126, 3) := by decide +kernel
theorem dX12_isTaken_16 : decode cX12_isTaken 16 = .ok (.iload_n 1, 1) := by decide +kernel
theorem dX12_isTaken_17 : decode cX12_isTaken 17 = .ok (.iaload, 1) := by decide +kernel
theorem dX12_isTaken_18 : decode cX12_isTaken 18 = .ok (.ifCond .ne 12, 3) := by decide +kernel
theorem dX12_isTaken_21 : decode cX12_isTaken 21 = .ok (.iload_n 3, 1) := by decide +kernel
theorem dX12_isTaken_22 : decode cX12_isTaken 22 = .ok (.iload_n 2, 1) := by decide +kernel
theorem dX12_isTaken_23 : decode cX12_isTaken 23 = .ok (.if_icmp .lt 7, 3) := by decide +kernel
theorem dX12_isTaken_26 : decode cX12_isTaken 26 = .ok (.iconst 1, 1) := by decide +kernel
theorem dX12_isTaken_27 : decode cX12_isTaken 27 = .ok (.goto 4, 3) := by decide +kernel
theorem dX12_isTaken_30 : decode cX12_isTaken 30 = .ok (.iconst 0, 1) := by decide +kernel
theorem dX12_isTaken_31 : decode cX12_isTaken 31 = .ok (.ireturn, 1) := by decide +kernel
theorem dX12_isTaken_32 : decode cX12_isTaken 32 = .ok (.aload_n 0, 1) := by decide +kernel
theorem dX12_isTaken_33 : decode cX12_isTaken 33 = .ok (.getfield 126, 3) := by decide +kernel
theorem dX12_isTaken_36 : decode cX12_isTaken 36 = .ok (.iload_n 1, 1) := by decide +kernel
theorem dX12_isTaken_37 : decode cX12_isTaken 37 = .ok (.iaload, 1) := by decide +kernel
theorem dX12_isTaken_38 : decode cX12_isTaken 38 = .ok (.ifCond .ne 5, 3) := by decide +kernel
theorem dX12_isTaken_41 : decode cX12_isTaken 41 = .ok (.iconst 0, 1) := by decide +kernel
theorem dX12_isTaken_42 : decode cX12_isTaken 42 = .ok (.ireturn, 1) := by decide +kernel
theorem dX12_isTaken_43 : decode cX12_isTaken 43 = .ok (.iload_n 2, 1) := by decide +kernel
theorem dX12_isTaken_44 : decode cX12_isTaken 44 = .ok (.tableswitch 92 3 7 #[36, 38, 49, 70, 81], 36) := by decide +kernel
theorem dX12_isTaken_80 : decode cX12_isTaken 80 = .ok (.iconst 1, 1) := by decide +kernel
theorem dX12_isTaken_81 : decode cX12_isTaken 81 = .ok (.ireturn, 1) := by decide +kernel
theorem dX12_isTaken_82 : decode cX12_isTaken 82 = .ok (.iload_n 3, 1) := by decide +kernel
theorem dX12_isTaken_83 : decode cX12_isTaken 83 = .ok (.iconst 3, 1) := by decide +kernel
theorem dX12_isTaken_84 : decode cX12_isTaken 84 = .ok (.if_icmp .eq 7, 3) := by decide +kernel
theorem dX12_isTaken_87 : decode cX12_isTaken 87 = .ok (.iconst 1, 1) := by decide +kernel
theorem dX12_isTaken_88 : decode cX12_isTaken 88 = .ok (.goto 4, 3) := by decide +kernel
theorem dX12_isTaken_91 : decode cX12_isTaken 91 = .ok (.iconst 0, 1) := by decide +kernel
theorem dX12_isTaken_92 : decode cX12_isTaken 92 = .ok (.ireturn, 1) := by decide +kernel
theorem dX12_isTaken_93 : decode cX12_isTaken 93 = .ok (.iload_n 3, 1) := by decide +kernel
theorem dX12_isTaken_94 : decode cX12_isTaken 94 = .ok (.iconst 1, 1) := by decide +kernel
theorem dX12_isTaken_95 : decode cX12_isTaken 95 = .ok (.if_icmp .eq 13, 3) := by decide +kernel
theorem dX12_isTaken_98 : decode cX12_isTaken 98 = .ok (.iload_n 3, 1) := by decide +kernel
theorem dX12_isTaken_99 : decode cX12_isTaken 99 = .ok (.iconst 2, 1) := by decide +kernel
theorem dX12_isTaken_100 : decode cX12_isTaken 100 = .ok (.if_icmp .eq 8, 3) := by decide +kernel
theorem dX12_isTaken_103 : decode cX12_isTaken 103 = .ok (.iload_n 3, 1) := by decide +kernel
theorem dX12_isTaken_104 : decode cX12_isTaken 104 = .ok (.iconst 4, 1) := by decide +kernel
theorem dX12_isTaken_105 : decode cX12_isTaken 105 = .ok (.if_icmp .ne 7, 3) := by decide +kernel
theorem dX12_isTaken_108 : decode cX12_isTaken 108 = .ok (.iconst 1, 1) := by decide +kernel
theorem dX12_isTaken_109 : decode cX12_isTaken 109 = .ok (.goto 4, 3) := by decide +kernel
theorem dX12_isTaken_112 : decode cX12_isTaken 112 = .ok (.iconst 0, 1) := by decide +kernel
theorem dX12_isTaken_113 : decode cX12_isTaken 113 = .ok (.ireturn, 1) := by decide +kernel
theorem dX12_isTaken_114 : decode cX12_isTaken 114 = .ok (.iload_n 3, 1) := by decide +kernel
theorem dX12_isTaken_115 : decode cX12_isTaken 115 = .ok (.iconst 2, 1) := by decide +kernel
theorem dX12_isTaken_116 : decode cX12_isTaken 116 = .ok (.if_icmp .ne 7, 3) := by decide +kernel
theorem dX12_isTaken_119 : decode cX12_isTaken 119 = .ok (.iconst 1, 1) := by decide +kernel
theorem dX12_isTaken_120 : decode cX12_isTaken 120 = .ok (.goto 4, 3) := by decide +kernel
theorem dX12_isTaken_123 : decode cX12_isTaken 123 = .ok (.iconst 0, 1) := by decide +kernel
theorem dX12_isTaken_124 : decode cX12_isTaken 124 = .ok (.ireturn, 1) := by decide +kernel
theorem dX12_isTaken_125 : decode cX12_isTaken 125 = .ok (.iload_n 3, 1) := by decide +kernel
theorem dX12_isTaken_126 : decode cX12_isTaken 126 = .ok (.iconst 3, 1) := by decide +kernel
theorem dX12_isTaken_127 : decode cX12_isTaken 127 = .ok (.if_icmp .ne 7, 3) := by decide +kernel
theorem dX12_isTaken_130 : decode cX12_isTaken 130 = .ok (.iconst 1, 1) := by decide +kernel
theorem dX12_isTaken_131 : decode cX12_isTaken 131 = .ok (.goto 4, 3) := by decide +kernel
theorem dX12_isTaken_134 : decode cX12_isTaken 134 = .ok (.iconst 0, 1) := by decide +kernel
theorem dX12_isTaken_135 : decode cX12_isTaken 135 = .ok (.ireturn, 1) := by decide +kernel
theorem dX12_isTaken_136 : decode cX12_isTaken 136 = .ok (.iload_n 3, 1) := by decide +kernel
theorem dX12_isTaken_137 : decode cX12_isTaken 137 = .ok (.iconst 4, 1) := by decide +kernel
theorem dX12_isTaken_138 : decode cX12_isTaken 138 = .ok (.if_icmp .ne 7, 3) := by decide +kernel
theorem dX12_isTaken_141 : decode cX12_isTaken 141 = .ok (.iconst 1, 1) := by decide +kernel
theorem dX12_isTaken_142 : decode cX12_isTaken 142 = .ok (.goto 4, 3) := by decide +kernel
theorem dX12_isTaken_145 : decode cX12_isTaken 145 = .ok (.iconst 0, 1) := by decide +kernel
theorem dX12_isTaken_146 : decode cX12_isTaken 146 = .ok (.ireturn, 1) := by decide +kernel
theorem dX12_judge_0 : decode cX12_judge 0 = .ok (.aload_n 0, 1) := by decide +kernel
theorem dX12_judge_1 : decode cX12_judge 1 = .ok (.getfield 193, 3) := by decide +kernel
theorem dX12_judge_4 : decode cX12_judge 4 = .ok (.ifCond .eq 4, 3) := by decide +kernel
theorem dX12_judge_7 : decode cX12_judge 7 = .ok (.return_, 1) := by decide +kernel
theorem dX12_judge_8 : decode cX12_judge 8 = .ok (.aload_n 0, 1) := by decide +kernel
theorem dX12_judge_9 : decode cX12_judge 9 = .ok (.iconst 1, 1) := by decide +kernel
theorem dX12_judge_10 : decode cX12_judge 10 = .ok (.putfield 193, 3) := by decide +kernel
theorem dX12_judge_13 : decode cX12_judge 13 = .ok (.aload_n 0, 1) := by decide +kernel
theorem dX12_judge_14 : decode cX12_judge 14 = .ok (.invokevirtual 317, 3) := by decide +kernel
theorem dX12_judge_17 : decode cX12_judge 17 = .ok (.aload_n 0, 1) := by decide +kernel
theorem dX12_judge_18 : decode cX12_judge 18 = .ok (.invokevirtual 320, 3) := by decide +kernel
theorem dX12_judge_21 : decode cX12_judge 21 = .ok (.istore_n 1, 1) := by decide +kernel
theorem dX12_judge_22 : decode cX12_judge 22 = .ok (.aload_n 0, 1) := by decide +kernel
theorem dX12_judge_23 : decode cX12_judge 23 = .ok (.iload_n 1, 1) := by decide +kernel
theorem dX12_judge_24 : decode cX12_judge 24 = .ok (.ifCond .eq 7, 3) := by decide +kernel
theorem dX12_judge_27 : decode cX12_judge 27 = .ok (.iconst 0, 1) := by decide +kernel
theorem dX12_judge_28 : decode cX12_judge 28 = .ok (.goto 5, 3) := by decide +kernel
theorem dX12_judge_31 : decode cX12_judge 31 = .ok (.bipush (-9), 2) := by decide +kernel
theorem dX12_judge_33 : decode cX12_judge 33 = .ok (.putfield 324, 3) := by decide +kernel
theorem dX12_judge_36 : decode cX12_judge 36 = .ok (.iconst 0, 1) := by decide +kernel
theorem dX12_judge_37 : decode cX12_judge 37 = .ok (.istore_n 2, 1) := by decide +kernel
theorem dX12_judge_38 : decode cX12_judge 38 = .ok (.iload_n 2, 1) := by decide +kernel
theorem dX12_judge_39 : decode cX12_judge 39 = .ok (.aload_n 0, 1) := by decide +kernel
theorem dX12_judge_40 : decode cX12_judge 40 = .ok (.getfield 186, 3) := by decide +kernel
theorem dX12_judge_43 : decode cX12_judge 43 = .ok (.if_icmp .ge 89, 3) := by decide +kernel
theorem dX12_judge_46 : decode cX12_judge 46 = .ok (.aload_n 0, 1) := by decide +kernel
theorem dX12_judge_47 : decode cX12_judge 47 = .ok (.getfield 87, 3) := by decide +kernel
theorem dX12_judge_50 : decode cX12_judge 50 = .ok (.iload_n 2, 1) := by decide +kernel
theorem dX12_judge_51 : decode cX12_judge 51 = .ok (.iconst 0, 1) := by decide +kernel
theorem dX12_judge_52 : decode cX12_judge 52 = .ok (.bastore, 1) := by decide +kernel
theorem dX12_judge_53 : decode cX12_judge 53 = .ok (.iload_n 1, 1) := by decide +kernel
theorem dX12_judge_54 : decode cX12_judge 54 = .ok (.ifCond .eq 72, 3) := by decide +kernel
theorem dX12_judge_57 : decode cX12_judge 57 = .ok (.aload_n 0, 1) := by decide +kernel
theorem dX12_judge_58 : decode cX12_judge 58 = .ok (.getfield 50, 3) := by decide +kernel
theorem dX12_judge_61 : decode cX12_judge 61 = .ok (.iload_n 2, 1) := by decide +kernel
theorem dX12_judge_62 : decode cX12_judge 62 = .ok (.baload, 1) := by decide +kernel
theorem dX12_judge_63 : decode cX12_judge 63 = .ok (.ifCond .eq 63, 3) := by decide +kernel
theorem dX12_judge_66 : decode cX12_judge 66 = .ok (.aload_n 0, 1) := by decide +kernel
theorem dX12_judge_67 : decode cX12_judge 67 = .ok (.getfield 78, 3) := by decide +kernel
theorem dX12_judge_70 : decode cX12_judge 70 = .ok (.iload_n 2, 1) := by decide +kernel
theorem dX12_judge_71 : decode cX12_judge 71 = .ok (.iconst 0, 1) := by decide +kernel
theorem dX12_judge_72 : decode cX12_judge 72 = .ok (.bastore, 1) := by decide +kernel
theorem dX12_judge_73 : decode cX12_judge 73 = .ok (.aload_n 0, 1) := by decide +kernel
theorem dX12_judge_74 : decode cX12_judge 74 = .ok (.getfield 87, 3) := by decide +kernel
theorem dX12_judge_77 : decode cX12_judge 77 = .ok (.iload_n 2, 1) := by decide +kernel
theorem dX12_judge_78 : decode cX12_judge 78 = .ok (.aload_n 0, 1) := by decide +kernel
theorem dX12_judge_79 : decode cX12_judge 79 = .ok (.invokevirtual 320, 3) := by decide +kernel
theorem dX12_judge_82 : decode cX12_judge 82 = .ok (.ifCond .ne 7, 3) := by decide +kernel
theorem dX12_judge_85 : decode cX12_judge 85 = .ok (.iconst 1, 1) := by decide +kernel
theorem dX12_judge_86 : decode cX12_judge 86 = .ok (.goto 4, 3) := by decide +kernel
theorem dX12_judge_89 : decode cX12_judge 89 = .ok (.iconst 0, 1) := by decide +kernel
theorem dX12_judge_90 : decode cX12_judge 90 = .ok (.bastore, 1) := by decide +kernel
theorem dX12_judge_91 : decode cX12_judge 91 = .ok (.aload_n 0, 1) := by decide +kernel
theorem dX12_judge_92 : decode cX12_judge 92 = .ok (.getfield 78, 3) := by decide +kernel
theorem dX12_judge_95 : decode cX12_judge 95 = .ok (.iload_n 2, 1) := by decide +kernel
theorem dX12_judge_96 : decode cX12_judge 96 = .ok (.aload_n 0, 1) := by decide +kernel
theorem dX12_judge_97 : decode cX12_judge 97 = .ok (.getfield 87, 3) := by decide +kernel
theorem dX12_judge_100 : decode cX12_judge 100 = .ok (.iload_n 2, 1) := by decide +kernel
theorem dX12_judge_101 : decode cX12_judge 101 = .ok (.baload, 1) := by decide +kernel
theorem dX12_judge_102 : decode cX12_judge 102 = .ok (.bastore, 1) := by decide +kernel
theorem dX12_judge_103 : decode cX12_judge 103 = .ok (.aload_n 0, 1) := by decide +kernel
theorem dX12_judge_104 : decode cX12_judge 104 = .ok (.dup, 1) := by decide +kernel
theorem dX12_judge_105 : decode cX12_judge 105 = .ok (.getfield 324, 3) := by decide +kernel
theorem dX12_judge_108 : decode cX12_judge 108 = .ok (.aload_n 0, 1) := by decide +kernel
theorem dX12_judge_109 : decode cX12_judge 109 = .ok (.getfield 87, 3) := by decide +kernel
theorem dX12_judge_112 : decode cX12_judge 112 = .ok (.iload_n 2, 1) := by decide +kernel
theorem dX12_judge_113 : decode cX12_judge 113 = .ok (.baload, 1) := by decide +kernel
theorem dX12_judge_114 : decode cX12_judge 114 = .ok (.ifCond .eq 7, 3) := by decide +kernel
theorem dX12_judge_117 : decode cX12_judge 117 = .ok (.iconst 1, 1) := by decide +kernel
theorem dX12_judge_118 : decode cX12_judge 118 = .ok (.goto 4, 3) := by decide +kernel
theorem dX12_judge_121 : decode cX12_judge 121 = .ok (.iconst 0, 1) := by decide +kernel
theorem dX12_judge_122 : decode cX12_judge 122 = .ok (.iadd, 1) := by decide +kernel
theorem dX12_judge_123 : decode cX12_judge 123 = .ok (.putfield 324, 3) := by decide +kernel
theorem dX12_judge_126 : decode cX12_judge 126 = .ok (.iinc 2 1, 3) := by decide +kernel
theorem dX12_judge_129 : decode cX12_judge 129 = .ok (.goto (-91), 3) := by decide +kernel
theorem dX12_judge_132 : decode cX12_judge 132 = .ok (.return_, 1) := by decide +kernel
theorem dX12_keep_0 : decode cX12_keep 0 = .ok (.iload_n 1, 1) := by decide +kernel
theorem dX12_keep_1 : decode cX12_keep 1 = .ok (.i2l, 1) := by decide +kernel
theorem dX12_keep_2 : decode cX12_keep 2 = .ok (.lconst 0, 1) := by decide +kernel
theorem dX12_keep_3 : decode cX12_keep 3 = .ok (.lconst 1, 1) := by decide +kernel
theorem dX12_keep_4 : decode cX12_keep 4 = .ok (.invokestatic 175, 3) := by decide +kernel
theorem dX12_keep_7 : decode cX12_keep 7 = .ok (.ifCond .ne 5, 3) := by decide +kernel
theorem dX12_keep_10 : decode cX12_keep 10 = .ok (.iconst (-1), 1) := by decide +kernel
theorem dX12_keep_11 : decode cX12_keep 11 = .ok (.ireturn, 1) := by decide +kernel
theorem dX12_keep_12 : decode cX12_keep 12 = .ok (.aload_n 0, 1) := by decide +kernel
theorem dX12_keep_13 : decode cX12_keep 13 = .ok (.getfield 120, 3) := by decide +kernel
theorem dX12_keep_16 : decode cX12_keep 16 = .ok (.iload_n 1, 1) := by decide +kernel
theorem dX12_keep_17 : decode cX12_keep 17 = .ok (.iconst 1, 1) := by decide +kernel
theorem dX12_keep_18 : decode cX12_keep 18 = .ok (.bastore, 1) := by decide +kernel
theorem dX12_keep_19 : decode cX12_keep 19 = .ok (.sipush 800, 3) := by decide +kernel
theorem dX12_keep_22 : decode cX12_keep 22 = .ok (.iload_n 1, 1) := by decide +kernel
theorem dX12_keep_23 : decode cX12_keep 23 = .ok (.imul, 1) := by decide +kernel
theorem dX12_keep_24 : decode cX12_keep 24 = .ok (.istore_n 2, 1) := by decide +kernel
theorem dX12_keep_25 : decode cX12_keep 25 = .ok (.aload_n 0, 1) := by decide +kernel
theorem dX12_keep_26 : decode cX12_keep 26 = .ok (.getfield 123, 3) := by decide +kernel
theorem dX12_keep_29 : decode cX12_keep 29 = .ok (.iload_n 2, 1) := by decide +kernel
theorem dX12_keep_30 : decode cX12_keep 30 = .ok (.aload_n 0, 1) := by decide +kernel
theorem dX12_keep_31 : decode cX12_keep 31 = .ok (.getfield 153, 3) := by decide +kernel
theorem dX12_keep_34 : decode cX12_keep 34 = .ok (.iastore, 1) := by decide +kernel
theorem dX12_keep_35 : decode cX12_keep 35 = .ok (.aload_n 0, 1) := by decide +kernel
theorem dX12_keep_36 : decode cX12_keep 36 = .ok (.getfield 123, 3) := by decide +kernel
theorem dX12_keep_39 : decode cX12_keep 39 = .ok (.iload_n 2, 1) := by decide +kernel
theorem dX12_keep_40 : decode cX12_keep 40 = .ok (.iconst 1, 1) := by decide +kernel
theorem dX12_keep_41 : decode cX12_keep 41 = .ok (.iadd, 1) := by decide +kernel
theorem dX12_keep_42 : decode cX12_keep 42 = .ok (.aload_n 0, 1) := by decide +kernel
theorem dX12_keep_43 : decode cX12_keep 43 = .ok (.getfield 157, 3) := by decide +kernel
theorem dX12_keep_46 : decode cX12_keep 46 = .ok (.iastore, 1) := by decide +kernel
theorem dX12_keep_47 : decode cX12_keep 47 = .ok (.aload_n 0, 1) := by decide +kernel
theorem dX12_keep_48 : decode cX12_keep 48 = .ok (.getfield 123, 3) := by decide +kernel
theorem dX12_keep_51 : decode cX12_keep 51 = .ok (.iload_n 2, 1) := by decide +kernel
theorem dX12_keep_52 : decode cX12_keep 52 = .ok (.iconst 2, 1) := by decide +kernel
theorem dX12_keep_53 : decode cX12_keep 53 = .ok (.iadd, 1) := by decide +kernel
theorem dX12_keep_54 : decode cX12_keep 54 = .ok (.aload_n 0, 1) := by decide +kernel
theorem dX12_keep_55 : decode cX12_keep 55 = .ok (.getfield 183, 3) := by decide +kernel
theorem dX12_keep_58 : decode cX12_keep 58 = .ok (.iastore, 1) := by decide +kernel
theorem dX12_keep_59 : decode cX12_keep 59 = .ok (.aload_n 0, 1) := by decide +kernel
theorem dX12_keep_60 : decode cX12_keep 60 = .ok (.getfield 123, 3) := by decide +kernel
theorem dX12_keep_63 : decode cX12_keep 63 = .ok (.iload_n 2, 1) := by decide +kernel
theorem dX12_keep_64 : decode cX12_keep 64 = .ok (.iconst 3, 1) := by decide +kernel
theorem dX12_keep_65 : decode cX12_keep 65 = .ok (.iadd, 1) := by decide +kernel
theorem dX12_keep_66 : decode cX12_keep 66 = .ok (.aload_n 0, 1) := by decide +kernel
theorem dX12_keep_67 : decode cX12_keep 67 = .ok (.getfield 186, 3) := by decide +kernel
theorem dX12_keep_70 : decode cX12_keep 70 = .ok (.iastore, 1) := by decide +kernel
theorem dX12_keep_71 : decode cX12_keep 71 = .ok (.aload_n 0, 1) := by decide +kernel
theorem dX12_keep_72 : decode cX12_keep 72 = .ok (.getfield 123, 3) := by decide +kernel
theorem dX12_keep_75 : decode cX12_keep 75 = .ok (.iload_n 2, 1) := by decide +kernel
theorem dX12_keep_76 : decode cX12_keep 76 = .ok (.iconst 4, 1) := by decide +kernel
theorem dX12_keep_77 : decode cX12_keep 77 = .ok (.iadd, 1) := by decide +kernel
theorem dX12_keep_78 : decode cX12_keep 78 = .ok (.aload_n 0, 1) := by decide +kernel
theorem dX12_keep_79 : decode cX12_keep 79 = .ok (.getfield 204, 3) := by decide +kernel
theorem dX12_keep_82 : decode cX12_keep 82 = .ok (.iastore, 1) := by decide +kernel
theorem dX12_keep_83 : decode cX12_keep 83 = .ok (.aload_n 0, 1) := by decide +kernel
theorem dX12_keep_84 : decode cX12_keep 84 = .ok (.getfield 123, 3) := by decide +kernel
theorem dX12_keep_87 : decode cX12_keep 87 = .ok (.iload_n 2, 1) := by decide +kernel
theorem dX12_keep_88 : decode cX12_keep 88 = .ok (.iconst 5, 1) := by decide +kernel
theorem dX12_keep_89 : decode cX12_keep 89 = .ok (.iadd, 1) := by decide +kernel
theorem dX12_keep_90 : decode cX12_keep 90 = .ok (.aload_n 0, 1) := by decide +kernel
theorem dX12_keep_91 : decode cX12_keep 91 = .ok (.getfield 207, 3) := by decide +kernel
theorem dX12_keep_94 : decode cX12_keep 94 = .ok (.invokestatic 496, 3) := by decide +kernel
theorem dX12_keep_97 : decode cX12_keep 97 = .ok (.iastore, 1) := by decide +kernel
theorem dX12_keep_98 : decode cX12_keep 98 = .ok (.iconst 0, 1) := by decide +kernel
theorem dX12_keep_99 : decode cX12_keep 99 = .ok (.istore_n 3, 1) := by decide +kernel
theorem dX12_keep_100 : decode cX12_keep 100 = .ok (.iload_n 3, 1) := by decide +kernel
theorem dX12_keep_101 : decode cX12_keep 101 = .ok (.bipush 64, 2) := by decide +kernel
theorem dX12_keep_103 : decode cX12_keep 103 = .ok (.if_icmp .ge 29, 3) := by decide +kernel
theorem dX12_keep_106 : decode cX12_keep 106 = .ok (.aload_n 0, 1) := by decide +kernel
theorem dX12_keep_107 : decode cX12_keep 107 = .ok (.getfield 123, 3) := by decide +kernel
theorem dX12_keep_110 : decode cX12_keep 110 = .ok (.iload_n 2, 1) := by decide +kernel
theorem dX12_keep_111 : decode cX12_keep 111 = .ok (.bipush 6, 2) := by decide +kernel
theorem dX12_keep_113 : decode cX12_keep 113 = .ok (.iadd, 1) := by decide +kernel
theorem dX12_keep_114 : decode cX12_keep 114 = .ok (.iload_n 3, 1) := by decide +kernel
theorem dX12_keep_115 : decode cX12_keep 115 = .ok (.iadd, 1) := by decide +kernel
theorem dX12_keep_116 : decode cX12_keep 116 = .ok (.aload_n 0, 1) := by decide +kernel
theorem dX12_keep_117 : decode cX12_keep 117 = .ok (.getfield 7, 3) := by decide +kernel
theorem dX12_keep_120 : decode cX12_keep 120 = .ok (.iload_n 3, 1) := by decide +kernel
theorem dX12_keep_121 : decode cX12_keep 121 = .ok (.baload, 1) := by decide +kernel
theorem dX12_keep_122 : decode cX12_keep 122 = .ok (.invokestatic 496, 3) := by decide +kernel
theorem dX12_keep_125 : decode cX12_keep 125 = .ok (.iastore, 1) := by decide +kernel
theorem dX12_keep_126 : decode cX12_keep 126 = .ok (.iinc 3 1, 3) := by decide +kernel
theorem dX12_keep_129 : decode cX12_keep 129 = .ok (.goto (-29), 3) := by decide +kernel
theorem dX12_keep_132 : decode cX12_keep 132 = .ok (.iconst 0, 1) := by decide +kernel
theorem dX12_keep_133 : decode cX12_keep 133 = .ok (.istore_n 3, 1) := by decide +kernel
theorem dX12_keep_134 : decode cX12_keep 134 = .ok (.iload_n 3, 1) := by decide +kernel
theorem dX12_keep_135 : decode cX12_keep 135 = .ok (.bipush 24, 2) := by decide +kernel
theorem dX12_keep_137 : decode cX12_keep 137 = .ok (.if_icmp .ge 153, 3) := by decide +kernel
theorem dX12_keep_140 : decode cX12_keep 140 = .ok (.iload_n 2, 1) := by decide +kernel
theorem dX12_keep_141 : decode cX12_keep 141 = .ok (.bipush 70, 2) := by decide +kernel
theorem dX12_keep_143 : decode cX12_keep 143 = .ok (.iadd, 1) := by decide +kernel
theorem dX12_keep_144 : decode cX12_keep 144 = .ok (.bipush 10, 2) := by decide +kernel
theorem dX12_keep_146 : decode cX12_keep 146 = .ok (.iload_n 3, 1) := by decide +kernel
theorem dX12_keep_147 : decode cX12_keep 147 = .ok (.imul, 1) := by decide +kernel
theorem dX12_keep_148 : decode cX12_keep 148 = .ok (.iadd, 1) := by decide +kernel
theorem dX12_keep_149 : decode cX12_keep 149 = .ok (.istore 4, 2) := by decide +kernel
theorem dX12_keep_151 : decode cX12_keep 151 = .ok (.aload_n 0, 1) := by decide +kernel
theorem dX12_keep_152 : decode cX12_keep 152 = .ok (.getfield 123, 3) := by decide +kernel
theorem dX12_keep_155 : decode cX12_keep 155 = .ok (.iload 4, 2) := by decide +kernel
theorem dX12_keep_157 : decode cX12_keep 157 = .ok (.aload_n 0, 1) := by decide +kernel
theorem dX12_keep_158 : decode cX12_keep 158 = .ok (.getfield 13, 3) := by decide +kernel
theorem dX12_keep_161 : decode cX12_keep 161 = .ok (.iload_n 3, 1) := by decide +kernel
theorem dX12_keep_162 : decode cX12_keep 162 = .ok (.iaload, 1) := by decide +kernel
theorem dX12_keep_163 : decode cX12_keep 163 = .ok (.iastore, 1) := by decide +kernel
theorem dX12_keep_164 : decode cX12_keep 164 = .ok (.aload_n 0, 1) := by decide +kernel
theorem dX12_keep_165 : decode cX12_keep 165 = .ok (.getfield 123, 3) := by decide +kernel
theorem dX12_keep_168 : decode cX12_keep 168 = .ok (.iload 4, 2) := by decide +kernel
theorem dX12_keep_170 : decode cX12_keep 170 = .ok (.iconst 1, 1) := by decide +kernel
theorem dX12_keep_171 : decode cX12_keep 171 = .ok (.iadd, 1) := by decide +kernel
theorem dX12_keep_172 : decode cX12_keep 172 = .ok (.aload_n 0, 1) := by decide +kernel
theorem dX12_keep_173 : decode cX12_keep 173 = .ok (.getfield 17, 3) := by decide +kernel
theorem dX12_keep_176 : decode cX12_keep 176 = .ok (.iload_n 3, 1) := by decide +kernel
theorem dX12_keep_177 : decode cX12_keep 177 = .ok (.iaload, 1) := by decide +kernel
theorem dX12_keep_178 : decode cX12_keep 178 = .ok (.iastore, 1) := by decide +kernel
theorem dX12_keep_179 : decode cX12_keep 179 = .ok (.iconst 0, 1) := by decide +kernel
theorem dX12_keep_180 : decode cX12_keep 180 = .ok (.istore 5, 2) := by decide +kernel
theorem dX12_keep_182 : decode cX12_keep 182 = .ok (.iload 5, 2) := by decide +kernel
theorem dX12_keep_184 : decode cX12_keep 184 = .ok (.iconst 4, 1) := by decide +kernel
theorem dX12_keep_185 : decode cX12_keep 185 = .ok (.if_icmp .ge 32, 3) := by decide +kernel
theorem dX12_keep_188 : decode cX12_keep 188 = .ok (.aload_n 0, 1) := by decide +kernel
theorem dX12_keep_189 : decode cX12_keep 189 = .ok (.getfield 123, 3) := by decide +kernel
theorem dX12_keep_192 : decode cX12_keep 192 = .ok (.iload 4, 2) := by decide +kernel
theorem dX12_keep_194 : decode cX12_keep 194 = .ok (.iconst 2, 1) := by decide +kernel
theorem dX12_keep_195 : decode cX12_keep 195 = .ok (.iadd, 1) := by decide +kernel
theorem dX12_keep_196 : decode cX12_keep 196 = .ok (.iload 5, 2) := by decide +kernel
theorem dX12_keep_198 : decode cX12_keep 198 = .ok (.iadd, 1) := by decide +kernel
theorem dX12_keep_199 : decode cX12_keep 199 = .ok (.aload_n 0, 1) := by decide +kernel
theorem dX12_keep_200 : decode cX12_keep 200 = .ok (.getfield 20, 3) := by decide +kernel
theorem dX12_keep_203 : decode cX12_keep 203 = .ok (.iconst 4, 1) := by decide +kernel
theorem dX12_keep_204 : decode cX12_keep 204 = .ok (.iload_n 3, 1) := by decide +kernel
theorem dX12_keep_205 : decode cX12_keep 205 = .ok (.imul, 1) := by decide +kernel
theorem dX12_keep_206 : decode cX12_keep 206 = .ok (.iload 5, 2) := by decide +kernel
theorem dX12_keep_208 : decode cX12_keep 208 = .ok (.iadd, 1) := by decide +kernel
theorem dX12_keep_209 : decode cX12_keep 209 = .ok (.iaload, 1) := by decide +kernel
theorem dX12_keep_210 : decode cX12_keep 210 = .ok (.iastore, 1) := by decide +kernel
theorem dX12_keep_211 : decode cX12_keep 211 = .ok (.iinc 5 1, 3) := by decide +kernel
theorem dX12_keep_214 : decode cX12_keep 214 = .ok (.goto (-32), 3) := by decide +kernel
theorem dX12_keep_217 : decode cX12_keep 217 = .ok (.aload_n 0, 1) := by decide +kernel
theorem dX12_keep_218 : decode cX12_keep 218 = .ok (.getfield 123, 3) := by decide +kernel
theorem dX12_keep_221 : decode cX12_keep 221 = .ok (.iload 4, 2) := by decide +kernel
theorem dX12_keep_223 : decode cX12_keep 223 = .ok (.bipush 6, 2) := by decide +kernel
theorem dX12_keep_225 : decode cX12_keep 225 = .ok (.iadd, 1) := by decide +kernel
theorem dX12_keep_226 : decode cX12_keep 226 = .ok (.aload_n 0, 1) := by decide +kernel
theorem dX12_keep_227 : decode cX12_keep 227 = .ok (.getfield 23, 3) := by decide +kernel
theorem dX12_keep_230 : decode cX12_keep 230 = .ok (.iload_n 3, 1) := by decide +kernel
theorem dX12_keep_231 : decode cX12_keep 231 = .ok (.baload, 1) := by decide +kernel
theorem dX12_keep_232 : decode cX12_keep 232 = .ok (.invokestatic 496, 3) := by decide +kernel
theorem dX12_keep_235 : decode cX12_keep 235 = .ok (.iastore, 1) := by decide +kernel
theorem dX12_keep_236 : decode cX12_keep 236 = .ok (.aload_n 0, 1) := by decide +kernel
theorem dX12_keep_237 : decode cX12_keep 237 = .ok (.getfield 123, 3) := by decide +kernel
theorem dX12_keep_240 : decode cX12_keep 240 = .ok (.iload 4, 2) := by decide +kernel
theorem dX12_keep_242 : decode cX12_keep 242 = .ok (.bipush 7, 2) := by decide +kernel
theorem dX12_keep_244 : decode cX12_keep 244 = .ok (.iadd, 1) := by decide +kernel
theorem dX12_keep_245 : decode cX12_keep 245 = .ok (.aload_n 0, 1) := by decide +kernel
theorem dX12_keep_246 : decode cX12_keep 246 = .ok (.getfield 26, 3) := by decide +kernel
theorem dX12_keep_249 : decode cX12_keep 249 = .ok (.iload_n 3, 1) := by decide +kernel
theorem dX12_keep_250 : decode cX12_keep 250 = .ok (.iaload, 1) := by decide +kernel
theorem dX12_keep_251 : decode cX12_keep 251 = .ok (.iastore, 1) := by decide +kernel
theorem dX12_keep_252 : decode cX12_keep 252 = .ok (.aload_n 0, 1) := by decide +kernel
theorem dX12_keep_253 : decode cX12_keep 253 = .ok (.getfield 123, 3) := by decide +kernel
theorem dX12_keep_256 : decode cX12_keep 256 = .ok (.iload 4, 2) := by decide +kernel
theorem dX12_keep_258 : decode cX12_keep 258 = .ok (.bipush 8, 2) := by decide +kernel
theorem dX12_keep_260 : decode cX12_keep 260 = .ok (.iadd, 1) := by decide +kernel
theorem dX12_keep_261 : decode cX12_keep 261 = .ok (.aload_n 0, 1) := by decide +kernel
theorem dX12_keep_262 : decode cX12_keep 262 = .ok (.getfield 29, 3) := by decide +kernel
theorem dX12_keep_265 : decode cX12_keep 265 = .ok (.iload_n 3, 1) := by decide +kernel
theorem dX12_keep_266 : decode cX12_keep 266 = .ok (.iaload, 1) := by decide +kernel
theorem dX12_keep_267 : decode cX12_keep 267 = .ok (.iastore, 1) := by decide +kernel
theorem dX12_keep_268 : decode cX12_keep 268 = .ok (.aload_n 0, 1) := by decide +kernel
theorem dX12_keep_269 : decode cX12_keep 269 = .ok (.getfield 123, 3) := by decide +kernel
theorem dX12_keep_272 : decode cX12_keep 272 = .ok (.iload 4, 2) := by decide +kernel
theorem dX12_keep_274 : decode cX12_keep 274 = .ok (.bipush 9, 2) := by decide +kernel
theorem dX12_keep_276 : decode cX12_keep 276 = .ok (.iadd, 1) := by decide +kernel
theorem dX12_keep_277 : decode cX12_keep 277 = .ok (.aload_n 0, 1) := by decide +kernel
theorem dX12_keep_278 : decode cX12_keep 278 = .ok (.getfield 32, 3) := by decide +kernel
theorem dX12_keep_281 : decode cX12_keep 281 = .ok (.iload_n 3, 1) := by decide +kernel
theorem dX12_keep_282 : decode cX12_keep 282 = .ok (.iaload, 1) := by decide +kernel
theorem dX12_keep_283 : decode cX12_keep 283 = .ok (.iastore, 1) := by decide +kernel
theorem dX12_keep_284 : decode cX12_keep 284 = .ok (.iinc 3 1, 3) := by decide +kernel
theorem dX12_keep_287 : decode cX12_keep 287 = .ok (.goto (-153), 3) := by decide +kernel
theorem dX12_keep_290 : decode cX12_keep 290 = .ok (.iconst 0, 1) := by decide +kernel
theorem dX12_keep_291 : decode cX12_keep 291 = .ok (.istore_n 3, 1) := by decide +kernel
theorem dX12_keep_292 : decode cX12_keep 292 = .ok (.iload_n 3, 1) := by decide +kernel
theorem dX12_keep_293 : decode cX12_keep 293 = .ok (.bipush 60, 2) := by decide +kernel
theorem dX12_keep_295 : decode cX12_keep 295 = .ok (.if_icmp .ge 112, 3) := by decide +kernel
theorem dX12_keep_298 : decode cX12_keep 298 = .ok (.iload_n 2, 1) := by decide +kernel
theorem dX12_keep_299 : decode cX12_keep 299 = .ok (.sipush 310, 3) := by decide +kernel
theorem dX12_keep_302 : decode cX12_keep 302 = .ok (.iadd, 1) := by decide +kernel
theorem dX12_keep_303 : decode cX12_keep 303 = .ok (.bipush 6, 2) := by decide +kernel
theorem dX12_keep_305 : decode cX12_keep 305 = .ok (.iload_n 3, 1) := by decide +kernel
theorem dX12_keep_306 : decode cX12_keep 306 = .ok (.imul, 1) := by decide +kernel
theorem dX12_keep_307 : decode cX12_keep 307 = .ok (.iadd, 1) := by decide +kernel
theorem dX12_keep_308 : decode cX12_keep 308 = .ok (.istore 4, 2) := by decide +kernel
theorem dX12_keep_310 : decode cX12_keep 310 = .ok (.aload_n 0, 1) := by decide +kernel
theorem dX12_keep_311 : decode cX12_keep 311 = .ok (.getfield 123, 3) := by decide +kernel
theorem dX12_keep_314 : decode cX12_keep 314 = .ok (.iload 4, 2) := by decide +kernel
theorem dX12_keep_316 : decode cX12_keep 316 = .ok (.aload_n 0, 1) := by decide +kernel
theorem dX12_keep_317 : decode cX12_keep 317 = .ok (.getfield 35, 3) := by decide +kernel
theorem dX12_keep_320 : decode cX12_keep 320 = .ok (.iload_n 3, 1) := by decide +kernel
theorem dX12_keep_321 : decode cX12_keep 321 = .ok (.iaload, 1) := by decide +kernel
theorem dX12_keep_322 : decode cX12_keep 322 = .ok (.iastore, 1) := by decide +kernel
theorem dX12_keep_323 : decode cX12_keep 323 = .ok (.aload_n 0, 1) := by decide +kernel
theorem dX12_keep_324 : decode cX12_keep 324 = .ok (.getfield 123, 3) := by decide +kernel
theorem dX12_keep_327 : decode cX12_keep 327 = .ok (.iload 4, 2) := by decide +kernel
theorem dX12_keep_329 : decode cX12_keep 329 = .ok (.iconst 1, 1) := by decide +kernel
theorem dX12_keep_330 : decode cX12_keep 330 = .ok (.iadd, 1) := by decide +kernel
theorem dX12_keep_331 : decode cX12_keep 331 = .ok (.aload_n 0, 1) := by decide +kernel
theorem dX12_keep_332 : decode cX12_keep 332 = .ok (.getfield 38, 3) := by decide +kernel
theorem dX12_keep_335 : decode cX12_keep 335 = .ok (.iload_n 3, 1) := by decide +kernel
theorem dX12_keep_336 : decode cX12_keep 336 = .ok (.iaload, 1) := by decide +kernel
theorem dX12_keep_337 : decode cX12_keep 337 = .ok (.iastore, 1) := by decide +kernel
theorem dX12_keep_338 : decode cX12_keep 338 = .ok (.aload_n 0, 1) := by decide +kernel
theorem dX12_keep_339 : decode cX12_keep 339 = .ok (.getfield 123, 3) := by decide +kernel
theorem dX12_keep_342 : decode cX12_keep 342 = .ok (.iload 4, 2) := by decide +kernel
theorem dX12_keep_344 : decode cX12_keep 344 = .ok (.iconst 2, 1) := by decide +kernel
theorem dX12_keep_345 : decode cX12_keep 345 = .ok (.iadd, 1) := by decide +kernel
theorem dX12_keep_346 : decode cX12_keep 346 = .ok (.aload_n 0, 1) := by decide +kernel
theorem dX12_keep_347 : decode cX12_keep 347 = .ok (.getfield 41, 3) := by decide +kernel
theorem dX12_keep_350 : decode cX12_keep 350 = .ok (.iload_n 3, 1) := by decide +kernel
theorem dX12_keep_351 : decode cX12_keep 351 = .ok (.iaload, 1) := by decide +kernel
theorem dX12_keep_352 : decode cX12_keep 352 = .ok (.iastore, 1) := by decide +kernel
theorem dX12_keep_353 : decode cX12_keep 353 = .ok (.aload_n 0, 1) := by decide +kernel
theorem dX12_keep_354 : decode cX12_keep 354 = .ok (.getfield 123, 3) := by decide +kernel
theorem dX12_keep_357 : decode cX12_keep 357 = .ok (.iload 4, 2) := by decide +kernel
theorem dX12_keep_359 : decode cX12_keep 359 = .ok (.iconst 3, 1) := by decide +kernel
theorem dX12_keep_360 : decode cX12_keep 360 = .ok (.iadd, 1) := by decide +kernel
theorem dX12_keep_361 : decode cX12_keep 361 = .ok (.aload_n 0, 1) := by decide +kernel
theorem dX12_keep_362 : decode cX12_keep 362 = .ok (.getfield 44, 3) := by decide +kernel
theorem dX12_keep_365 : decode cX12_keep 365 = .ok (.iload_n 3, 1) := by decide +kernel
theorem dX12_keep_366 : decode cX12_keep 366 = .ok (.iaload, 1) := by decide +kernel
theorem dX12_keep_367 : decode cX12_keep 367 = .ok (.iastore, 1) := by decide +kernel
theorem dX12_keep_368 : decode cX12_keep 368 = .ok (.aload_n 0, 1) := by decide +kernel
theorem dX12_keep_369 : decode cX12_keep 369 = .ok (.getfield 123, 3) := by decide +kernel
theorem dX12_keep_372 : decode cX12_keep 372 = .ok (.iload 4, 2) := by decide +kernel
theorem dX12_keep_374 : decode cX12_keep 374 = .ok (.iconst 4, 1) := by decide +kernel
theorem dX12_keep_375 : decode cX12_keep 375 = .ok (.iadd, 1) := by decide +kernel
theorem dX12_keep_376 : decode cX12_keep 376 = .ok (.aload_n 0, 1) := by decide +kernel
theorem dX12_keep_377 : decode cX12_keep 377 = .ok (.getfield 47, 3) := by decide +kernel
theorem dX12_keep_380 : decode cX12_keep 380 = .ok (.iload_n 3, 1) := by decide +kernel
theorem dX12_keep_381 : decode cX12_keep 381 = .ok (.iaload, 1) := by decide +kernel
theorem dX12_keep_382 : decode cX12_keep 382 = .ok (.iastore, 1) := by decide +kernel
theorem dX12_keep_383 : decode cX12_keep 383 = .ok (.aload_n 0, 1) := by decide +kernel
theorem dX12_keep_384 : decode cX12_keep 384 = .ok (.getfield 123, 3) := by decide +kernel
theorem dX12_keep_387 : decode cX12_keep 387 = .ok (.iload 4, 2) := by decide +kernel
theorem dX12_keep_389 : decode cX12_keep 389 = .ok (.iconst 5, 1) := by decide +kernel
theorem dX12_keep_390 : decode cX12_keep 390 = .ok (.iadd, 1) := by decide +kernel
theorem dX12_keep_391 : decode cX12_keep 391 = .ok (.aload_n 0, 1) := by decide +kernel
theorem dX12_keep_392 : decode cX12_keep 392 = .ok (.getfield 50, 3) := by decide +kernel
theorem dX12_keep_395 : decode cX12_keep 395 = .ok (.iload_n 3, 1) := by decide +kernel
theorem dX12_keep_396 : decode cX12_keep 396 = .ok (.baload, 1) := by decide +kernel
theorem dX12_keep_397 : decode cX12_keep 397 = .ok (.invokestatic 496, 3) := by decide +kernel
theorem dX12_keep_400 : decode cX12_keep 400 = .ok (.iastore, 1) := by decide +kernel
theorem dX12_keep_401 : decode cX12_keep 401 = .ok (.iinc 3 1, 3) := by decide +kernel
theorem dX12_keep_404 : decode cX12_keep 404 = .ok (.goto (-112), 3) := by decide +kernel
theorem dX12_keep_407 : decode cX12_keep 407 = .ok (.iconst 0, 1) := by decide +kernel
theorem dX12_keep_408 : decode cX12_keep 408 = .ok (.istore_n 3, 1) := by decide +kernel
theorem dX12_keep_409 : decode cX12_keep 409 = .ok (.iload_n 3, 1) := by decide +kernel
theorem dX12_keep_410 : decode cX12_keep 410 = .ok (.iconst 3, 1) := by decide +kernel
theorem dX12_keep_411 : decode cX12_keep 411 = .ok (.if_icmp .ge 69, 3) := by decide +kernel
theorem dX12_keep_414 : decode cX12_keep 414 = .ok (.aload_n 0, 1) := by decide +kernel
theorem dX12_keep_415 : decode cX12_keep 415 = .ok (.getfield 123, 3) := by decide +kernel
theorem dX12_keep_418 : decode cX12_keep 418 = .ok (.iload_n 2, 1) := by decide +kernel
theorem dX12_keep_419 : decode cX12_keep 419 = .ok (.sipush 670, 3) := by decide +kernel
theorem dX12_keep_422 : decode cX12_keep 422 = .ok (.iadd, 1) := by decide +kernel
theorem dX12_keep_423 : decode cX12_keep 423 = .ok (.iconst 3, 1) := by decide +kernel
theorem dX12_keep_424 : decode cX12_keep 424 = .ok (.iload_n 3, 1) := by decide +kernel
theorem dX12_keep_425 : decode cX12_keep 425 = .ok (.imul, 1) := by decide +kernel
theorem dX12_keep_426 : decode cX12_keep 426 = .ok (.iadd, 1) := by decide +kernel
theorem dX12_keep_427 : decode cX12_keep 427 = .ok (.aload_n 0, 1) := by decide +kernel
theorem dX12_keep_428 : decode cX12_keep 428 = .ok (.getfield 53, 3) := by decide +kernel
theorem dX12_keep_431 : decode cX12_keep 431 = .ok (.iload_n 3, 1) := by decide +kernel
theorem dX12_keep_432 : decode cX12_keep 432 = .ok (.iaload, 1) := by decide +kernel
theorem dX12_keep_433 : decode cX12_keep 433 = .ok (.iastore, 1) := by decide +kernel
theorem dX12_keep_434 : decode cX12_keep 434 = .ok (.aload_n 0, 1) := by decide +kernel
theorem dX12_keep_435 : decode cX12_keep 435 = .ok (.getfield 123, 3) := by decide +kernel
theorem dX12_keep_438 : decode cX12_keep 438 = .ok (.iload_n 2, 1) := by decide +kernel
theorem dX12_keep_439 : decode cX12_keep 439 = .ok (.sipush 671, 3) := by decide +kernel
theorem dX12_keep_442 : decode cX12_keep 442 = .ok (.iadd, 1) := by decide +kernel
theorem dX12_keep_443 : decode cX12_keep 443 = .ok (.iconst 3, 1) := by decide +kernel
theorem dX12_keep_444 : decode cX12_keep 444 = .ok (.iload_n 3, 1) := by decide +kernel
theorem dX12_keep_445 : decode cX12_keep 445 = .ok (.imul, 1) := by decide +kernel
theorem dX12_keep_446 : decode cX12_keep 446 = .ok (.iadd, 1) := by decide +kernel
theorem dX12_keep_447 : decode cX12_keep 447 = .ok (.aload_n 0, 1) := by decide +kernel
theorem dX12_keep_448 : decode cX12_keep 448 = .ok (.getfield 56, 3) := by decide +kernel
theorem dX12_keep_451 : decode cX12_keep 451 = .ok (.iload_n 3, 1) := by decide +kernel
theorem dX12_keep_452 : decode cX12_keep 452 = .ok (.iaload, 1) := by decide +kernel
theorem dX12_keep_453 : decode cX12_keep 453 = .ok (.iastore, 1) := by decide +kernel
theorem dX12_keep_454 : decode cX12_keep 454 = .ok (.aload_n 0, 1) := by decide +kernel
theorem dX12_keep_455 : decode cX12_keep 455 = .ok (.getfield 123, 3) := by decide +kernel
theorem dX12_keep_458 : decode cX12_keep 458 = .ok (.iload_n 2, 1) := by decide +kernel
theorem dX12_keep_459 : decode cX12_keep 459 = .ok (.sipush 672, 3) := by decide +kernel
theorem dX12_keep_462 : decode cX12_keep 462 = .ok (.iadd, 1) := by decide +kernel
theorem dX12_keep_463 : decode cX12_keep 463 = .ok (.iconst 3, 1) := by decide +kernel
theorem dX12_keep_464 : decode cX12_keep 464 = .ok (.iload_n 3, 1) := by decide +kernel
theorem dX12_keep_465 : decode cX12_keep 465 = .ok (.imul, 1) := by decide +kernel
theorem dX12_keep_466 : decode cX12_keep 466 = .ok (.iadd, 1) := by decide +kernel
theorem dX12_keep_467 : decode cX12_keep 467 = .ok (.aload_n 0, 1) := by decide +kernel
theorem dX12_keep_468 : decode cX12_keep 468 = .ok (.getfield 59, 3) := by decide +kernel
theorem dX12_keep_471 : decode cX12_keep 471 = .ok (.iload_n 3, 1) := by decide +kernel
theorem dX12_keep_472 : decode cX12_keep 472 = .ok (.iaload, 1) := by decide +kernel
theorem dX12_keep_473 : decode cX12_keep 473 = .ok (.iastore, 1) := by decide +kernel
theorem dX12_keep_474 : decode cX12_keep 474 = .ok (.iinc 3 1, 3) := by decide +kernel
theorem dX12_keep_477 : decode cX12_keep 477 = .ok (.goto (-68), 3) := by decide +kernel
theorem dX12_keep_480 : decode cX12_keep 480 = .ok (.iconst 1, 1) := by decide +kernel
theorem dX12_keep_481 : decode cX12_keep 481 = .ok (.ireturn, 1) := by decide +kernel
theorem dX12_keepFlip_0 : decode cX12_keepFlip 0 = .ok (.aload_n 0, 1) := by decide +kernel
theorem dX12_keepFlip_1 : decode cX12_keepFlip 1 = .ok (.aload_n 0, 1) := by decide +kernel
theorem dX12_keepFlip_2 : decode cX12_keepFlip 2 = .ok (.getfield 397, 3) := by decide +kernel
theorem dX12_keepFlip_5 : decode cX12_keepFlip 5 = .ok (.putfield 439, 3) := by decide +kernel
theorem dX12_keepFlip_8 : decode cX12_keepFlip 8 = .ok (.aload_n 0, 1) := by decide +kernel
theorem dX12_keepFlip_9 : decode cX12_keepFlip 9 = .ok (.aload_n 0, 1) := by decide +kernel
theorem dX12_keepFlip_10 : decode cX12_keepFlip 10 = .ok (.getfield 400, 3) := by decide +kernel
theorem dX12_keepFlip_13 : decode cX12_keepFlip 13 = .ok (.ifCond .ge 8, 3) := by decide +kernel
theorem dX12_keepFlip_16 : decode cX12_keepFlip 16 = .ok (.bipush (-9), 2) := by decide +kernel
theorem dX12_keepFlip_18 : decode cX12_keepFlip 18 = .ok (.goto 7, 3) := by decide +kernel
theorem dX12_keepFlip_21 : decode cX12_keepFlip 21 = .ok (.aload_n 0, 1) := by decide +kernel
theorem dX12_keepFlip_22 : decode cX12_keepFlip 22 = .ok (.getfield 400, 3) := by decide +kernel
theorem dX12_keepFlip_25 : decode cX12_keepFlip 25 = .ok (.putfield 442, 3) := by decide +kernel
theorem dX12_keepFlip_28 : decode cX12_keepFlip 28 = .ok (.aload_n 0, 1) := by decide +kernel
theorem dX12_keepFlip_29 : decode cX12_keepFlip 29 = .ok (.aload_n 0, 1) := by decide +kernel
theorem dX12_keepFlip_30 : decode cX12_keepFlip 30 = .ok (.getfield 406, 3) := by decide +kernel
theorem dX12_keepFlip_33 : decode cX12_keepFlip 33 = .ok (.putfield 445, 3) := by decide +kernel
theorem dX12_keepFlip_36 : decode cX12_keepFlip 36 = .ok (.aload_n 0, 1) := by decide +kernel
theorem dX12_keepFlip_37 : decode cX12_keepFlip 37 = .ok (.aload_n 0, 1) := by decide +kernel
theorem dX12_keepFlip_38 : decode cX12_keepFlip 38 = .ok (.getfield 412, 3) := by decide +kernel
theorem dX12_keepFlip_41 : decode cX12_keepFlip 41 = .ok (.putfield 448, 3) := by decide +kernel
theorem dX12_keepFlip_44 : decode cX12_keepFlip 44 = .ok (.aload_n 0, 1) := by decide +kernel
theorem dX12_keepFlip_45 : decode cX12_keepFlip 45 = .ok (.iload_n 1, 1) := by decide +kernel
theorem dX12_keepFlip_46 : decode cX12_keepFlip 46 = .ok (.putfield 451, 3) := by decide +kernel
theorem dX12_keepFlip_49 : decode cX12_keepFlip 49 = .ok (.iconst 0, 1) := by decide +kernel
theorem dX12_keepFlip_50 : decode cX12_keepFlip 50 = .ok (.istore_n 2, 1) := by decide +kernel
theorem dX12_keepFlip_51 : decode cX12_keepFlip 51 = .ok (.iload_n 2, 1) := by decide +kernel
theorem dX12_keepFlip_52 : decode cX12_keepFlip 52 = .ok (.bipush 24, 2) := by decide +kernel
theorem dX12_keepFlip_54 : decode cX12_keepFlip 54 = .ok (.if_icmp .ge 21, 3) := by decide +kernel
theorem dX12_keepFlip_57 : decode cX12_keepFlip 57 = .ok (.aload_n 0, 1) := by decide +kernel
theorem dX12_keepFlip_58 : decode cX12_keepFlip 58 = .ok (.getfield 111, 3) := by decide +kernel
theorem dX12_keepFlip_61 : decode cX12_keepFlip 61 = .ok (.iload_n 2, 1) := by decide +kernel
theorem dX12_keepFlip_62 : decode cX12_keepFlip 62 = .ok (.aload_n 0, 1) := by decide +kernel
theorem dX12_keepFlip_63 : decode cX12_keepFlip 63 = .ok (.getfield 108, 3) := by decide +kernel
theorem dX12_keepFlip_66 : decode cX12_keepFlip 66 = .ok (.iload_n 2, 1) := by decide +kernel
theorem dX12_keepFlip_67 : decode cX12_keepFlip 67 = .ok (.iaload, 1) := by decide +kernel
theorem dX12_keepFlip_68 : decode cX12_keepFlip 68 = .ok (.iastore, 1) := by decide +kernel
theorem dX12_keepFlip_69 : decode cX12_keepFlip 69 = .ok (.iinc 2 1, 3) := by decide +kernel
theorem dX12_keepFlip_72 : decode cX12_keepFlip 72 = .ok (.goto (-21), 3) := by decide +kernel
theorem dX12_keepFlip_75 : decode cX12_keepFlip 75 = .ok (.return_, 1) := by decide +kernel
theorem dX12_keeps_0 : decode cX12_keeps 0 = .ok (.aload_n 0, 1) := by decide +kernel
theorem dX12_keeps_1 : decode cX12_keeps 1 = .ok (.iload_n 1, 1) := by decide +kernel
theorem dX12_keeps_2 : decode cX12_keeps 2 = .ok (.invokevirtual 304, 3) := by decide +kernel
theorem dX12_keeps_5 : decode cX12_keeps 5 = .ok (.ifCond .ne 19, 3) := by decide +kernel
theorem dX12_keeps_8 : decode cX12_keeps 8 = .ok (.aload_n 0, 1) := by decide +kernel
theorem dX12_keeps_9 : decode cX12_keeps 9 = .ok (.iload_n 2, 1) := by decide +kernel
theorem dX12_keeps_10 : decode cX12_keeps 10 = .ok (.invokevirtual 179, 3) := by decide +kernel
theorem dX12_keeps_13 : decode cX12_keeps 13 = .ok (.ifCond .eq 11, 3) := by decide +kernel
theorem dX12_keeps_16 : decode cX12_keeps 16 = .ok (.aload_n 0, 1) := by decide +kernel
theorem dX12_keeps_17 : decode cX12_keeps 17 = .ok (.iload_n 3, 1) := by decide +kernel
theorem dX12_keeps_18 : decode cX12_keeps 18 = .ok (.invokevirtual 179, 3) := by decide +kernel
theorem dX12_keeps_21 : decode cX12_keeps 21 = .ok (.ifCond .ne 5, 3) := by decide +kernel
theorem dX12_keeps_24 : decode cX12_keeps 24 = .ok (.iconst (-1), 1) := by decide +kernel
theorem dX12_keeps_25 : decode cX12_keeps 25 = .ok (.ireturn, 1) := by decide +kernel
theorem dX12_keeps_26 : decode cX12_keeps 26 = .ok (.aload_n 0, 1) := by decide +kernel
theorem dX12_keeps_27 : decode cX12_keeps 27 = .ok (.iload_n 1, 1) := by decide +kernel
theorem dX12_keeps_28 : decode cX12_keeps 28 = .ok (.invokevirtual 286, 3) := by decide +kernel
theorem dX12_keeps_31 : decode cX12_keeps 31 = .ok (.aload_n 0, 1) := by decide +kernel
theorem dX12_keeps_32 : decode cX12_keeps 32 = .ok (.getfield 71, 3) := by decide +kernel
theorem dX12_keeps_35 : decode cX12_keeps 35 = .ok (.bipush 64, 2) := by decide +kernel
theorem dX12_keeps_37 : decode cX12_keeps 37 = .ok (.iload_n 1, 1) := by decide +kernel
theorem dX12_keeps_38 : decode cX12_keeps 38 = .ok (.imul, 1) := by decide +kernel
theorem dX12_keeps_39 : decode cX12_keeps 39 = .ok (.iload_n 2, 1) := by decide +kernel
theorem dX12_keeps_40 : decode cX12_keeps 40 = .ok (.iadd, 1) := by decide +kernel
theorem dX12_keeps_41 : decode cX12_keeps 41 = .ok (.laload, 1) := by decide +kernel
theorem dX12_keeps_42 : decode cX12_keeps 42 = .ok (.iload_n 3, 1) := by decide +kernel
theorem dX12_keeps_43 : decode cX12_keeps 43 = .ok (.invokestatic 162, 3) := by decide +kernel
theorem dX12_keeps_46 : decode cX12_keeps 46 = .ok (.ifCond .eq 7, 3) := by decide +kernel
theorem dX12_keeps_49 : decode cX12_keeps 49 = .ok (.iconst 1, 1) := by decide +kernel
theorem dX12_keeps_50 : decode cX12_keeps 50 = .ok (.goto 4, 3) := by decide +kernel
theorem dX12_keeps_53 : decode cX12_keeps 53 = .ok (.iconst 0, 1) := by decide +kernel
theorem dX12_keeps_54 : decode cX12_keeps 54 = .ok (.ireturn, 1) := by decide +kernel
theorem dX12_lay_0 : decode cX12_lay 0 = .ok (.iload_n 1, 1) := by decide +kernel
theorem dX12_lay_1 : decode cX12_lay 1 = .ok (.invokestatic 219, 3) := by decide +kernel
theorem dX12_lay_4 : decode cX12_lay 4 = .ok (.ifCond .eq 9, 3) := by decide +kernel
theorem dX12_lay_7 : decode cX12_lay 7 = .ok (.aload_n 0, 1) := by decide +kernel
theorem dX12_lay_8 : decode cX12_lay 8 = .ok (.iconst (-1), 1) := by decide +kernel
theorem dX12_lay_9 : decode cX12_lay 9 = .ok (.invokevirtual 222, 3) := by decide +kernel
theorem dX12_lay_12 : decode cX12_lay 12 = .ok (.ireturn, 1) := by decide +kernel
theorem dX12_lay_13 : decode cX12_lay 13 = .ok (.aload_n 0, 1) := by decide +kernel
theorem dX12_lay_14 : decode cX12_lay 14 = .ok (.iload_n 1, 1) := by decide +kernel
theorem dX12_lay_15 : decode cX12_lay 15 = .ok (.iload_n 2, 1) := by decide +kernel
theorem dX12_lay_16 : decode cX12_lay 16 = .ok (.invokevirtual 527, 3) := by decide +kernel
theorem dX12_lay_19 : decode cX12_lay 19 = .ok (.ifCond .le 14, 3) := by decide +kernel
theorem dX12_lay_22 : decode cX12_lay 22 = .ok (.aload_n 0, 1) := by decide +kernel
theorem dX12_lay_23 : decode cX12_lay 23 = .ok (.aload_n 0, 1) := by decide +kernel
theorem dX12_lay_24 : decode cX12_lay 24 = .ok (.iload_n 1, 1) := by decide +kernel
theorem dX12_lay_25 : decode cX12_lay 25 = .ok (.iload_n 2, 1) := by decide +kernel
theorem dX12_lay_26 : decode cX12_lay 26 = .ok (.invokevirtual 527, 3) := by decide +kernel
theorem dX12_lay_29 : decode cX12_lay 29 = .ok (.invokevirtual 228, 3) := by decide +kernel
theorem dX12_lay_32 : decode cX12_lay 32 = .ok (.ireturn, 1) := by decide +kernel
theorem dX12_lay_33 : decode cX12_lay 33 = .ok (.aload_n 0, 1) := by decide +kernel
theorem dX12_lay_34 : decode cX12_lay 34 = .ok (.getfield 144, 3) := by decide +kernel
theorem dX12_lay_37 : decode cX12_lay 37 = .ok (.iload_n 1, 1) := by decide +kernel
theorem dX12_lay_38 : decode cX12_lay 38 = .ok (.iaload, 1) := by decide +kernel
theorem dX12_lay_39 : decode cX12_lay 39 = .ok (.istore 5, 2) := by decide +kernel
theorem dX12_lay_41 : decode cX12_lay 41 = .ok (.aload_n 0, 1) := by decide +kernel
theorem dX12_lay_42 : decode cX12_lay 42 = .ok (.getfield 147, 3) := by decide +kernel
theorem dX12_lay_45 : decode cX12_lay 45 = .ok (.bipush 64, 2) := by decide +kernel
theorem dX12_lay_47 : decode cX12_lay 47 = .ok (.iload_n 1, 1) := by decide +kernel
theorem dX12_lay_48 : decode cX12_lay 48 = .ok (.imul, 1) := by decide +kernel
theorem dX12_lay_49 : decode cX12_lay 49 = .ok (.iload_n 2, 1) := by decide +kernel
theorem dX12_lay_50 : decode cX12_lay 50 = .ok (.iadd, 1) := by decide +kernel
theorem dX12_lay_51 : decode cX12_lay 51 = .ok (.iload 5, 2) := by decide +kernel
theorem dX12_lay_53 : decode cX12_lay 53 = .ok (.ifCond .ne 10, 3) := by decide +kernel
theorem dX12_lay_56 : decode cX12_lay 56 = .ok (.lload_n 3, 1) := by decide +kernel
theorem dX12_lay_57 : decode cX12_lay 57 = .ok (.l2i, 1) := by decide +kernel
theorem dX12_lay_58 : decode cX12_lay 58 = .ok (.i2b, 1) := by decide +kernel
theorem dX12_lay_59 : decode cX12_lay 59 = .ok (.i2l, 1) := by decide +kernel
theorem dX12_lay_60 : decode cX12_lay 60 = .ok (.goto 29, 3) := by decide +kernel
theorem dX12_lay_63 : decode cX12_lay 63 = .ok (.iload 5, 2) := by decide +kernel
theorem dX12_lay_65 : decode cX12_lay 65 = .ok (.iconst 1, 1) := by decide +kernel
theorem dX12_lay_66 : decode cX12_lay 66 = .ok (.if_icmp .ne 10, 3) := by decide +kernel
theorem dX12_lay_69 : decode cX12_lay 69 = .ok (.lload_n 3, 1) := by decide +kernel
theorem dX12_lay_70 : decode cX12_lay 70 = .ok (.l2i, 1) := by decide +kernel
theorem dX12_lay_71 : decode cX12_lay 71 = .ok (.i2s, 1) := by decide +kernel
theorem dX12_lay_72 : decode cX12_lay 72 = .ok (.i2l, 1) := by decide +kernel
theorem dX12_lay_73 : decode cX12_lay 73 = .ok (.goto 16, 3) := by decide +kernel
theorem dX12_lay_76 : decode cX12_lay 76 = .ok (.iload 5, 2) := by decide +kernel
theorem dX12_lay_78 : decode cX12_lay 78 = .ok (.iconst 2, 1) := by decide +kernel
theorem dX12_lay_79 : decode cX12_lay 79 = .ok (.if_icmp .ne 9, 3) := by decide +kernel
theorem dX12_lay_82 : decode cX12_lay 82 = .ok (.lload_n 3, 1) := by decide +kernel
theorem dX12_lay_83 : decode cX12_lay 83 = .ok (.l2i, 1) := by decide +kernel
theorem dX12_lay_84 : decode cX12_lay 84 = .ok (.i2l, 1) := by decide +kernel
theorem dX12_lay_85 : decode cX12_lay 85 = .ok (.goto 4, 3) := by decide +kernel
theorem dX12_lay_88 : decode cX12_lay 88 = .ok (.lload_n 3, 1) := by decide +kernel
theorem dX12_lay_89 : decode cX12_lay 89 = .ok (.lastore, 1) := by decide +kernel
theorem dX12_lay_90 : decode cX12_lay 90 = .ok (.aload_n 0, 1) := by decide +kernel
theorem dX12_lay_91 : decode cX12_lay 91 = .ok (.iconst 1, 1) := by decide +kernel
theorem dX12_lay_92 : decode cX12_lay 92 = .ok (.invokevirtual 222, 3) := by decide +kernel
theorem dX12_lay_95 : decode cX12_lay 95 = .ok (.ireturn, 1) := by decide +kernel
theorem dX12_layAll_0 : decode cX12_layAll 0 = .ok (.iconst 0, 1) := by decide +kernel
theorem dX12_layAll_1 : decode cX12_layAll 1 = .ok (.istore_n 1, 1) := by decide +kernel
theorem dX12_layAll_2 : decode cX12_layAll 2 = .ok (.iload_n 1, 1) := by decide +kernel
theorem dX12_layAll_3 : decode cX12_layAll 3 = .ok (.aload_n 0, 1) := by decide +kernel
theorem dX12_layAll_4 : decode cX12_layAll 4 = .ok (.getfield 186, 3) := by decide +kernel
theorem dX12_layAll_7 : decode cX12_layAll 7 = .ok (.if_icmp .ge 14, 3) := by decide +kernel
theorem dX12_layAll_10 : decode cX12_layAll 10 = .ok (.aload_n 0, 1) := by decide +kernel
theorem dX12_layAll_11 : decode cX12_layAll 11 = .ok (.iload_n 1, 1) := by decide +kernel
theorem dX12_layAll_12 : decode cX12_layAll 12 = .ok (.invokevirtual 286, 3) := by decide +kernel
