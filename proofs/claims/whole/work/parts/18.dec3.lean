/-! instructions, printed by wip/whole/emit.py -/
theorem dX12_layAll_15 : decode cX12_layAll 15 = .ok (.iinc 1 1, 3) := by decide +kernel
theorem dX12_layAll_18 : decode cX12_layAll 18 = .ok (.goto (-16), 3) := by decide +kernel
theorem dX12_layAll_21 : decode cX12_layAll 21 = .ok (.return_, 1) := by decide +kernel
theorem dX12_layMeasure_0 : decode cX12_layMeasure 0 = .ok (.aload_n 0, 1) := by decide +kernel
theorem dX12_layMeasure_1 : decode cX12_layMeasure 1 = .ok (.getfield 62, 3) := by decide +kernel
theorem dX12_layMeasure_4 : decode cX12_layMeasure 4 = .ok (.iload_n 1, 1) := by decide +kernel
theorem dX12_layMeasure_5 : decode cX12_layMeasure 5 = .ok (.baload, 1) := by decide +kernel
theorem dX12_layMeasure_6 : decode cX12_layMeasure 6 = .ok (.ifCond .eq 4, 3) := by decide +kernel
theorem dX12_layMeasure_9 : decode cX12_layMeasure 9 = .ok (.return_, 1) := by decide +kernel
theorem dX12_layMeasure_10 : decode cX12_layMeasure 10 = .ok (.aload_n 0, 1) := by decide +kernel
theorem dX12_layMeasure_11 : decode cX12_layMeasure 11 = .ok (.getfield 62, 3) := by decide +kernel
theorem dX12_layMeasure_14 : decode cX12_layMeasure 14 = .ok (.iload_n 1, 1) := by decide +kernel
theorem dX12_layMeasure_15 : decode cX12_layMeasure 15 = .ok (.iconst 1, 1) := by decide +kernel
theorem dX12_layMeasure_16 : decode cX12_layMeasure 16 = .ok (.bastore, 1) := by decide +kernel
theorem dX12_layMeasure_17 : decode cX12_layMeasure 17 = .ok (.iconst 0, 1) := by decide +kernel
theorem dX12_layMeasure_18 : decode cX12_layMeasure 18 = .ok (.istore_n 2, 1) := by decide +kernel
theorem dX12_layMeasure_19 : decode cX12_layMeasure 19 = .ok (.iload_n 2, 1) := by decide +kernel
theorem dX12_layMeasure_20 : decode cX12_layMeasure 20 = .ok (.bipush 64, 2) := by decide +kernel
theorem dX12_layMeasure_22 : decode cX12_layMeasure 22 = .ok (.if_icmp .ge 21, 3) := by decide +kernel
theorem dX12_layMeasure_25 : decode cX12_layMeasure 25 = .ok (.aload_n 0, 1) := by decide +kernel
theorem dX12_layMeasure_26 : decode cX12_layMeasure 26 = .ok (.getfield 75, 3) := by decide +kernel
theorem dX12_layMeasure_29 : decode cX12_layMeasure 29 = .ok (.bipush 64, 2) := by decide +kernel
theorem dX12_layMeasure_31 : decode cX12_layMeasure 31 = .ok (.iload_n 1, 1) := by decide +kernel
theorem dX12_layMeasure_32 : decode cX12_layMeasure 32 = .ok (.imul, 1) := by decide +kernel
theorem dX12_layMeasure_33 : decode cX12_layMeasure 33 = .ok (.iload_n 2, 1) := by decide +kernel
theorem dX12_layMeasure_34 : decode cX12_layMeasure 34 = .ok (.iadd, 1) := by decide +kernel
theorem dX12_layMeasure_35 : decode cX12_layMeasure 35 = .ok (.lconst 0, 1) := by decide +kernel
theorem dX12_layMeasure_36 : decode cX12_layMeasure 36 = .ok (.lastore, 1) := by decide +kernel
theorem dX12_layMeasure_37 : decode cX12_layMeasure 37 = .ok (.iinc 2 1, 3) := by decide +kernel
theorem dX12_layMeasure_40 : decode cX12_layMeasure 40 = .ok (.goto (-21), 3) := by decide +kernel
theorem dX12_layMeasure_43 : decode cX12_layMeasure 43 = .ok (.iconst 0, 1) := by decide +kernel
theorem dX12_layMeasure_44 : decode cX12_layMeasure 44 = .ok (.istore_n 2, 1) := by decide +kernel
theorem dX12_layMeasure_45 : decode cX12_layMeasure 45 = .ok (.iload_n 2, 1) := by decide +kernel
theorem dX12_layMeasure_46 : decode cX12_layMeasure 46 = .ok (.bipush 64, 2) := by decide +kernel
theorem dX12_layMeasure_48 : decode cX12_layMeasure 48 = .ok (.if_icmp .ge 121, 3) := by decide +kernel
theorem dX12_layMeasure_51 : decode cX12_layMeasure 51 = .ok (.lconst 0, 1) := by decide +kernel
theorem dX12_layMeasure_52 : decode cX12_layMeasure 52 = .ok (.lstore_n 3, 1) := by decide +kernel
theorem dX12_layMeasure_53 : decode cX12_layMeasure 53 = .ok (.aload_n 0, 1) := by decide +kernel
theorem dX12_layMeasure_54 : decode cX12_layMeasure 54 = .ok (.getfield 35, 3) := by decide +kernel
theorem dX12_layMeasure_57 : decode cX12_layMeasure 57 = .ok (.iload_n 1, 1) := by decide +kernel
theorem dX12_layMeasure_58 : decode cX12_layMeasure 58 = .ok (.iaload, 1) := by decide +kernel
theorem dX12_layMeasure_59 : decode cX12_layMeasure 59 = .ok (.iconst 4, 1) := by decide +kernel
theorem dX12_layMeasure_60 : decode cX12_layMeasure 60 = .ok (.if_icmp .ne 22, 3) := by decide +kernel
theorem dX12_layMeasure_63 : decode cX12_layMeasure 63 = .ok (.aload_n 0, 1) := by decide +kernel
theorem dX12_layMeasure_64 : decode cX12_layMeasure 64 = .ok (.iload_n 2, 1) := by decide +kernel
theorem dX12_layMeasure_65 : decode cX12_layMeasure 65 = .ok (.invokevirtual 216, 3) := by decide +kernel
theorem dX12_layMeasure_68 : decode cX12_layMeasure 68 = .ok (.ifCond .eq 14, 3) := by decide +kernel
theorem dX12_layMeasure_71 : decode cX12_layMeasure 71 = .ok (.aload_n 0, 1) := by decide +kernel
theorem dX12_layMeasure_72 : decode cX12_layMeasure 72 = .ok (.iload_n 2, 1) := by decide +kernel
theorem dX12_layMeasure_73 : decode cX12_layMeasure 73 = .ok (.aload_n 0, 1) := by decide +kernel
theorem dX12_layMeasure_74 : decode cX12_layMeasure 74 = .ok (.getfield 47, 3) := by decide +kernel
theorem dX12_layMeasure_77 : decode cX12_layMeasure 77 = .ok (.iload_n 1, 1) := by decide +kernel
theorem dX12_layMeasure_78 : decode cX12_layMeasure 78 = .ok (.iaload, 1) := by decide +kernel
theorem dX12_layMeasure_79 : decode cX12_layMeasure 79 = .ok (.invokevirtual 273, 3) := by decide +kernel
theorem dX12_layMeasure_82 : decode cX12_layMeasure 82 = .ok (.iconst 0, 1) := by decide +kernel
theorem dX12_layMeasure_83 : decode cX12_layMeasure 83 = .ok (.istore 5, 2) := by decide +kernel
theorem dX12_layMeasure_85 : decode cX12_layMeasure 85 = .ok (.iload 5, 2) := by decide +kernel
theorem dX12_layMeasure_87 : decode cX12_layMeasure 87 = .ok (.bipush 64, 2) := by decide +kernel
theorem dX12_layMeasure_89 : decode cX12_layMeasure 89 = .ok (.if_icmp .ge 62, 3) := by decide +kernel
theorem dX12_layMeasure_92 : decode cX12_layMeasure 92 = .ok (.aload_n 0, 1) := by decide +kernel
theorem dX12_layMeasure_93 : decode cX12_layMeasure 93 = .ok (.iload_n 2, 1) := by decide +kernel
theorem dX12_layMeasure_94 : decode cX12_layMeasure 94 = .ok (.invokevirtual 179, 3) := by decide +kernel
theorem dX12_layMeasure_97 : decode cX12_layMeasure 97 = .ok (.ifCond .eq 54, 3) := by decide +kernel
theorem dX12_layMeasure_100 : decode cX12_layMeasure 100 = .ok (.aload_n 0, 1) := by decide +kernel
theorem dX12_layMeasure_101 : decode cX12_layMeasure 101 = .ok (.iload 5, 2) := by decide +kernel
theorem dX12_layMeasure_103 : decode cX12_layMeasure 103 = .ok (.invokevirtual 179, 3) := by decide +kernel
theorem dX12_layMeasure_106 : decode cX12_layMeasure 106 = .ok (.ifCond .eq 39, 3) := by decide +kernel
theorem dX12_layMeasure_109 : decode cX12_layMeasure 109 = .ok (.aload_n 0, 1) := by decide +kernel
theorem dX12_layMeasure_110 : decode cX12_layMeasure 110 = .ok (.iload_n 1, 1) := by decide +kernel
theorem dX12_layMeasure_111 : decode cX12_layMeasure 111 = .ok (.iload_n 2, 1) := by decide +kernel
theorem dX12_layMeasure_112 : decode cX12_layMeasure 112 = .ok (.iload 5, 2) := by decide +kernel
theorem dX12_layMeasure_114 : decode cX12_layMeasure 114 = .ok (.invokevirtual 284, 3) := by decide +kernel
theorem dX12_layMeasure_117 : decode cX12_layMeasure 117 = .ok (.ifCond .eq 28, 3) := by decide +kernel
theorem dX12_layMeasure_120 : decode cX12_layMeasure 120 = .ok (.lload_n 3, 1) := by decide +kernel
theorem dX12_layMeasure_121 : decode cX12_layMeasure 121 = .ok (.lconst 1, 1) := by decide +kernel
theorem dX12_layMeasure_122 : decode cX12_layMeasure 122 = .ok (.iload 5, 2) := by decide +kernel
theorem dX12_layMeasure_124 : decode cX12_layMeasure 124 = .ok (.lshl, 1) := by decide +kernel
theorem dX12_layMeasure_125 : decode cX12_layMeasure 125 = .ok (.lor, 1) := by decide +kernel
theorem dX12_layMeasure_126 : decode cX12_layMeasure 126 = .ok (.lstore_n 3, 1) := by decide +kernel
theorem dX12_layMeasure_127 : decode cX12_layMeasure 127 = .ok (.aload_n 0, 1) := by decide +kernel
theorem dX12_layMeasure_128 : decode cX12_layMeasure 128 = .ok (.getfield 75, 3) := by decide +kernel
theorem dX12_layMeasure_131 : decode cX12_layMeasure 131 = .ok (.bipush 64, 2) := by decide +kernel
theorem dX12_layMeasure_133 : decode cX12_layMeasure 133 = .ok (.iload_n 1, 1) := by decide +kernel
theorem dX12_layMeasure_134 : decode cX12_layMeasure 134 = .ok (.imul, 1) := by decide +kernel
theorem dX12_layMeasure_135 : decode cX12_layMeasure 135 = .ok (.iload 5, 2) := by decide +kernel
theorem dX12_layMeasure_137 : decode cX12_layMeasure 137 = .ok (.iadd, 1) := by decide +kernel
theorem dX12_layMeasure_138 : decode cX12_layMeasure 138 = .ok (.dup2, 1) := by decide +kernel
theorem dX12_layMeasure_139 : decode cX12_layMeasure 139 = .ok (.laload, 1) := by decide +kernel
theorem dX12_layMeasure_140 : decode cX12_layMeasure 140 = .ok (.lconst 1, 1) := by decide +kernel
theorem dX12_layMeasure_141 : decode cX12_layMeasure 141 = .ok (.iload_n 2, 1) := by decide +kernel
theorem dX12_layMeasure_142 : decode cX12_layMeasure 142 = .ok (.lshl, 1) := by decide +kernel
theorem dX12_layMeasure_143 : decode cX12_layMeasure 143 = .ok (.lor, 1) := by decide +kernel
theorem dX12_layMeasure_144 : decode cX12_layMeasure 144 = .ok (.lastore, 1) := by decide +kernel
theorem dX12_layMeasure_145 : decode cX12_layMeasure 145 = .ok (.iinc 5 1, 3) := by decide +kernel
theorem dX12_layMeasure_148 : decode cX12_layMeasure 148 = .ok (.goto (-63), 3) := by decide +kernel
theorem dX12_layMeasure_151 : decode cX12_layMeasure 151 = .ok (.aload_n 0, 1) := by decide +kernel
theorem dX12_layMeasure_152 : decode cX12_layMeasure 152 = .ok (.getfield 71, 3) := by decide +kernel
theorem dX12_layMeasure_155 : decode cX12_layMeasure 155 = .ok (.bipush 64, 2) := by decide +kernel
theorem dX12_layMeasure_157 : decode cX12_layMeasure 157 = .ok (.iload_n 1, 1) := by decide +kernel
theorem dX12_layMeasure_158 : decode cX12_layMeasure 158 = .ok (.imul, 1) := by decide +kernel
theorem dX12_layMeasure_159 : decode cX12_layMeasure 159 = .ok (.iload_n 2, 1) := by decide +kernel
theorem dX12_layMeasure_160 : decode cX12_layMeasure 160 = .ok (.iadd, 1) := by decide +kernel
theorem dX12_layMeasure_161 : decode cX12_layMeasure 161 = .ok (.lload_n 3, 1) := by decide +kernel
theorem dX12_layMeasure_162 : decode cX12_layMeasure 162 = .ok (.lastore, 1) := by decide +kernel
theorem dX12_layMeasure_163 : decode cX12_layMeasure 163 = .ok (.iinc 2 1, 3) := by decide +kernel
theorem dX12_layMeasure_166 : decode cX12_layMeasure 166 = .ok (.goto (-121), 3) := by decide +kernel
theorem dX12_layMeasure_169 : decode cX12_layMeasure 169 = .ok (.return_, 1) := by decide +kernel
theorem dX12_layPairs_0 : decode cX12_layPairs 0 = .ok (.iconst 0, 1) := by decide +kernel
theorem dX12_layPairs_1 : decode cX12_layPairs 1 = .ok (.istore_n 1, 1) := by decide +kernel
theorem dX12_layPairs_2 : decode cX12_layPairs 2 = .ok (.iload_n 1, 1) := by decide +kernel
theorem dX12_layPairs_3 : decode cX12_layPairs 3 = .ok (.sipush 5184, 3) := by decide +kernel
theorem dX12_layPairs_6 : decode cX12_layPairs 6 = .ok (.if_icmp .ge 18, 3) := by decide +kernel
theorem dX12_layPairs_9 : decode cX12_layPairs 9 = .ok (.aload_n 0, 1) := by decide +kernel
theorem dX12_layPairs_10 : decode cX12_layPairs 10 = .ok (.getfield 96, 3) := by decide +kernel
theorem dX12_layPairs_13 : decode cX12_layPairs 13 = .ok (.iload_n 1, 1) := by decide +kernel
theorem dX12_layPairs_14 : decode cX12_layPairs 14 = .ok (.ldc2_w 333, 3) := by decide +kernel
theorem dX12_layPairs_17 : decode cX12_layPairs 17 = .ok (.lastore, 1) := by decide +kernel
theorem dX12_layPairs_18 : decode cX12_layPairs 18 = .ok (.iinc 1 1, 3) := by decide +kernel
theorem dX12_layPairs_21 : decode cX12_layPairs 21 = .ok (.goto (-19), 3) := by decide +kernel
theorem dX12_layPairs_24 : decode cX12_layPairs 24 = .ok (.iconst 0, 1) := by decide +kernel
theorem dX12_layPairs_25 : decode cX12_layPairs 25 = .ok (.istore_n 1, 1) := by decide +kernel
theorem dX12_layPairs_26 : decode cX12_layPairs 26 = .ok (.iload_n 1, 1) := by decide +kernel
theorem dX12_layPairs_27 : decode cX12_layPairs 27 = .ok (.aload_n 0, 1) := by decide +kernel
theorem dX12_layPairs_28 : decode cX12_layPairs 28 = .ok (.getfield 335, 3) := by decide +kernel
theorem dX12_layPairs_31 : decode cX12_layPairs 31 = .ok (.if_icmp .ge 204, 3) := by decide +kernel
theorem dX12_layPairs_34 : decode cX12_layPairs 34 = .ok (.iload_n 1, 1) := by decide +kernel
theorem dX12_layPairs_35 : decode cX12_layPairs 35 = .ok (.iconst 1, 1) := by decide +kernel
theorem dX12_layPairs_36 : decode cX12_layPairs 36 = .ok (.iadd, 1) := by decide +kernel
theorem dX12_layPairs_37 : decode cX12_layPairs 37 = .ok (.istore_n 2, 1) := by decide +kernel
theorem dX12_layPairs_38 : decode cX12_layPairs 38 = .ok (.iload_n 2, 1) := by decide +kernel
theorem dX12_layPairs_39 : decode cX12_layPairs 39 = .ok (.aload_n 0, 1) := by decide +kernel
theorem dX12_layPairs_40 : decode cX12_layPairs 40 = .ok (.getfield 335, 3) := by decide +kernel
theorem dX12_layPairs_43 : decode cX12_layPairs 43 = .ok (.if_icmp .ge 186, 3) := by decide +kernel
theorem dX12_layPairs_46 : decode cX12_layPairs 46 = .ok (.iconst 0, 1) := by decide +kernel
theorem dX12_layPairs_47 : decode cX12_layPairs 47 = .ok (.istore_n 3, 1) := by decide +kernel
theorem dX12_layPairs_48 : decode cX12_layPairs 48 = .ok (.iload_n 3, 1) := by decide +kernel
theorem dX12_layPairs_49 : decode cX12_layPairs 49 = .ok (.aload_n 0, 1) := by decide +kernel
theorem dX12_layPairs_50 : decode cX12_layPairs 50 = .ok (.getfield 186, 3) := by decide +kernel
theorem dX12_layPairs_53 : decode cX12_layPairs 53 = .ok (.if_icmp .ge 170, 3) := by decide +kernel
theorem dX12_layPairs_56 : decode cX12_layPairs 56 = .ok (.aload_n 0, 1) := by decide +kernel
theorem dX12_layPairs_57 : decode cX12_layPairs 57 = .ok (.getfield 38, 3) := by decide +kernel
theorem dX12_layPairs_60 : decode cX12_layPairs 60 = .ok (.iload_n 3, 1) := by decide +kernel
theorem dX12_layPairs_61 : decode cX12_layPairs 61 = .ok (.iaload, 1) := by decide +kernel
theorem dX12_layPairs_62 : decode cX12_layPairs 62 = .ok (.aload_n 0, 1) := by decide +kernel
theorem dX12_layPairs_63 : decode cX12_layPairs 63 = .ok (.getfield 90, 3) := by decide +kernel
theorem dX12_layPairs_66 : decode cX12_layPairs 66 = .ok (.iload_n 1, 1) := by decide +kernel
theorem dX12_layPairs_67 : decode cX12_layPairs 67 = .ok (.iaload, 1) := by decide +kernel
theorem dX12_layPairs_68 : decode cX12_layPairs 68 = .ok (.if_icmp .ne 22, 3) := by decide +kernel
theorem dX12_layPairs_71 : decode cX12_layPairs 71 = .ok (.aload_n 0, 1) := by decide +kernel
theorem dX12_layPairs_72 : decode cX12_layPairs 72 = .ok (.getfield 41, 3) := by decide +kernel
theorem dX12_layPairs_75 : decode cX12_layPairs 75 = .ok (.iload_n 3, 1) := by decide +kernel
theorem dX12_layPairs_76 : decode cX12_layPairs 76 = .ok (.iaload, 1) := by decide +kernel
theorem dX12_layPairs_77 : decode cX12_layPairs 77 = .ok (.aload_n 0, 1) := by decide +kernel
theorem dX12_layPairs_78 : decode cX12_layPairs 78 = .ok (.getfield 90, 3) := by decide +kernel
theorem dX12_layPairs_81 : decode cX12_layPairs 81 = .ok (.iload_n 2, 1) := by decide +kernel
theorem dX12_layPairs_82 : decode cX12_layPairs 82 = .ok (.iaload, 1) := by decide +kernel
theorem dX12_layPairs_83 : decode cX12_layPairs 83 = .ok (.if_icmp .ne 7, 3) := by decide +kernel
theorem dX12_layPairs_86 : decode cX12_layPairs 86 = .ok (.iconst 1, 1) := by decide +kernel
theorem dX12_layPairs_87 : decode cX12_layPairs 87 = .ok (.goto 4, 3) := by decide +kernel
theorem dX12_layPairs_90 : decode cX12_layPairs 90 = .ok (.iconst 0, 1) := by decide +kernel
theorem dX12_layPairs_91 : decode cX12_layPairs 91 = .ok (.istore 4, 2) := by decide +kernel
theorem dX12_layPairs_93 : decode cX12_layPairs 93 = .ok (.aload_n 0, 1) := by decide +kernel
theorem dX12_layPairs_94 : decode cX12_layPairs 94 = .ok (.getfield 41, 3) := by decide +kernel
theorem dX12_layPairs_97 : decode cX12_layPairs 97 = .ok (.iload_n 3, 1) := by decide +kernel
theorem dX12_layPairs_98 : decode cX12_layPairs 98 = .ok (.iaload, 1) := by decide +kernel
theorem dX12_layPairs_99 : decode cX12_layPairs 99 = .ok (.aload_n 0, 1) := by decide +kernel
theorem dX12_layPairs_100 : decode cX12_layPairs 100 = .ok (.getfield 90, 3) := by decide +kernel
theorem dX12_layPairs_103 : decode cX12_layPairs 103 = .ok (.iload_n 1, 1) := by decide +kernel
theorem dX12_layPairs_104 : decode cX12_layPairs 104 = .ok (.iaload, 1) := by decide +kernel
theorem dX12_layPairs_105 : decode cX12_layPairs 105 = .ok (.if_icmp .ne 22, 3) := by decide +kernel
theorem dX12_layPairs_108 : decode cX12_layPairs 108 = .ok (.aload_n 0, 1) := by decide +kernel
theorem dX12_layPairs_109 : decode cX12_layPairs 109 = .ok (.getfield 38, 3) := by decide +kernel
theorem dX12_layPairs_112 : decode cX12_layPairs 112 = .ok (.iload_n 3, 1) := by decide +kernel
theorem dX12_layPairs_113 : decode cX12_layPairs 113 = .ok (.iaload, 1) := by decide +kernel
theorem dX12_layPairs_114 : decode cX12_layPairs 114 = .ok (.aload_n 0, 1) := by decide +kernel
theorem dX12_layPairs_115 : decode cX12_layPairs 115 = .ok (.getfield 90, 3) := by decide +kernel
theorem dX12_layPairs_118 : decode cX12_layPairs 118 = .ok (.iload_n 2, 1) := by decide +kernel
theorem dX12_layPairs_119 : decode cX12_layPairs 119 = .ok (.iaload, 1) := by decide +kernel
theorem dX12_layPairs_120 : decode cX12_layPairs 120 = .ok (.if_icmp .ne 7, 3) := by decide +kernel
theorem dX12_layPairs_123 : decode cX12_layPairs 123 = .ok (.iconst 1, 1) := by decide +kernel
theorem dX12_layPairs_124 : decode cX12_layPairs 124 = .ok (.goto 4, 3) := by decide +kernel
theorem dX12_layPairs_127 : decode cX12_layPairs 127 = .ok (.iconst 0, 1) := by decide +kernel
theorem dX12_layPairs_128 : decode cX12_layPairs 128 = .ok (.istore 5, 2) := by decide +kernel
theorem dX12_layPairs_130 : decode cX12_layPairs 130 = .ok (.iconst 0, 1) := by decide +kernel
theorem dX12_layPairs_131 : decode cX12_layPairs 131 = .ok (.istore 6, 2) := by decide +kernel
theorem dX12_layPairs_133 : decode cX12_layPairs 133 = .ok (.iload 6, 2) := by decide +kernel
theorem dX12_layPairs_135 : decode cX12_layPairs 135 = .ok (.bipush 64, 2) := by decide +kernel
theorem dX12_layPairs_137 : decode cX12_layPairs 137 = .ok (.if_icmp .ge 80, 3) := by decide +kernel
theorem dX12_layPairs_140 : decode cX12_layPairs 140 = .ok (.aload_n 0, 1) := by decide +kernel
theorem dX12_layPairs_141 : decode cX12_layPairs 141 = .ok (.getfield 50, 3) := by decide +kernel
theorem dX12_layPairs_144 : decode cX12_layPairs 144 = .ok (.iload_n 3, 1) := by decide +kernel
theorem dX12_layPairs_145 : decode cX12_layPairs 145 = .ok (.baload, 1) := by decide +kernel
theorem dX12_layPairs_146 : decode cX12_layPairs 146 = .ok (.ifCond .eq 71, 3) := by decide +kernel
theorem dX12_layPairs_149 : decode cX12_layPairs 149 = .ok (.iload 4, 2) := by decide +kernel
theorem dX12_layPairs_151 : decode cX12_layPairs 151 = .ok (.ifCond .ne 8, 3) := by decide +kernel
theorem dX12_layPairs_154 : decode cX12_layPairs 154 = .ok (.iload 5, 2) := by decide +kernel
theorem dX12_layPairs_156 : decode cX12_layPairs 156 = .ok (.ifCond .eq 61, 3) := by decide +kernel
theorem dX12_layPairs_159 : decode cX12_layPairs 159 = .ok (.aload_n 0, 1) := by decide +kernel
theorem dX12_layPairs_160 : decode cX12_layPairs 160 = .ok (.getfield 96, 3) := by decide +kernel
theorem dX12_layPairs_163 : decode cX12_layPairs 163 = .ok (.bipush 64, 2) := by decide +kernel
theorem dX12_layPairs_165 : decode cX12_layPairs 165 = .ok (.bipush 9, 2) := by decide +kernel
theorem dX12_layPairs_167 : decode cX12_layPairs 167 = .ok (.iload_n 1, 1) := by decide +kernel
theorem dX12_layPairs_168 : decode cX12_layPairs 168 = .ok (.imul, 1) := by decide +kernel
theorem dX12_layPairs_169 : decode cX12_layPairs 169 = .ok (.iload_n 2, 1) := by decide +kernel
theorem dX12_layPairs_170 : decode cX12_layPairs 170 = .ok (.iadd, 1) := by decide +kernel
theorem dX12_layPairs_171 : decode cX12_layPairs 171 = .ok (.imul, 1) := by decide +kernel
theorem dX12_layPairs_172 : decode cX12_layPairs 172 = .ok (.iload 6, 2) := by decide +kernel
theorem dX12_layPairs_174 : decode cX12_layPairs 174 = .ok (.iadd, 1) := by decide +kernel
theorem dX12_layPairs_175 : decode cX12_layPairs 175 = .ok (.dup2, 1) := by decide +kernel
theorem dX12_layPairs_176 : decode cX12_layPairs 176 = .ok (.laload, 1) := by decide +kernel
theorem dX12_layPairs_177 : decode cX12_layPairs 177 = .ok (.iload 4, 2) := by decide +kernel
theorem dX12_layPairs_179 : decode cX12_layPairs 179 = .ok (.ifCond .eq 18, 3) := by decide +kernel
theorem dX12_layPairs_182 : decode cX12_layPairs 182 = .ok (.aload_n 0, 1) := by decide +kernel
theorem dX12_layPairs_183 : decode cX12_layPairs 183 = .ok (.getfield 71, 3) := by decide +kernel
theorem dX12_layPairs_186 : decode cX12_layPairs 186 = .ok (.bipush 64, 2) := by decide +kernel
theorem dX12_layPairs_188 : decode cX12_layPairs 188 = .ok (.iload_n 3, 1) := by decide +kernel
theorem dX12_layPairs_189 : decode cX12_layPairs 189 = .ok (.imul, 1) := by decide +kernel
theorem dX12_layPairs_190 : decode cX12_layPairs 190 = .ok (.iload 6, 2) := by decide +kernel
theorem dX12_layPairs_192 : decode cX12_layPairs 192 = .ok (.iadd, 1) := by decide +kernel
theorem dX12_layPairs_193 : decode cX12_layPairs 193 = .ok (.laload, 1) := by decide +kernel
theorem dX12_layPairs_194 : decode cX12_layPairs 194 = .ok (.goto 15, 3) := by decide +kernel
theorem dX12_layPairs_197 : decode cX12_layPairs 197 = .ok (.aload_n 0, 1) := by decide +kernel
theorem dX12_layPairs_198 : decode cX12_layPairs 198 = .ok (.getfield 75, 3) := by decide +kernel
theorem dX12_layPairs_201 : decode cX12_layPairs 201 = .ok (.bipush 64, 2) := by decide +kernel
theorem dX12_layPairs_203 : decode cX12_layPairs 203 = .ok (.iload_n 3, 1) := by decide +kernel
theorem dX12_layPairs_204 : decode cX12_layPairs 204 = .ok (.imul, 1) := by decide +kernel
theorem dX12_layPairs_205 : decode cX12_layPairs 205 = .ok (.iload 6, 2) := by decide +kernel
theorem dX12_layPairs_207 : decode cX12_layPairs 207 = .ok (.iadd, 1) := by decide +kernel
theorem dX12_layPairs_208 : decode cX12_layPairs 208 = .ok (.laload, 1) := by decide +kernel
theorem dX12_layPairs_209 : decode cX12_layPairs 209 = .ok (.land, 1) := by decide +kernel
theorem dX12_layPairs_210 : decode cX12_layPairs 210 = .ok (.lastore, 1) := by decide +kernel
theorem dX12_layPairs_211 : decode cX12_layPairs 211 = .ok (.iinc 6 1, 3) := by decide +kernel
theorem dX12_layPairs_214 : decode cX12_layPairs 214 = .ok (.goto (-81), 3) := by decide +kernel
theorem dX12_layPairs_217 : decode cX12_layPairs 217 = .ok (.iinc 3 1, 3) := by decide +kernel
theorem dX12_layPairs_220 : decode cX12_layPairs 220 = .ok (.goto (-172), 3) := by decide +kernel
theorem dX12_layPairs_223 : decode cX12_layPairs 223 = .ok (.iinc 2 1, 3) := by decide +kernel
theorem dX12_layPairs_226 : decode cX12_layPairs 226 = .ok (.goto (-188), 3) := by decide +kernel
theorem dX12_layPairs_229 : decode cX12_layPairs 229 = .ok (.iinc 1 1, 3) := by decide +kernel
theorem dX12_layPairs_232 : decode cX12_layPairs 232 = .ok (.goto (-206), 3) := by decide +kernel
theorem dX12_layPairs_235 : decode cX12_layPairs 235 = .ok (.return_, 1) := by decide +kernel
theorem dX12_layWays_0 : decode cX12_layWays 0 = .ok (.aload_n 0, 1) := by decide +kernel
theorem dX12_layWays_1 : decode cX12_layWays 1 = .ok (.invokevirtual 258, 3) := by decide +kernel
theorem dX12_layWays_4 : decode cX12_layWays 4 = .ok (.aload_n 0, 1) := by decide +kernel
theorem dX12_layWays_5 : decode cX12_layWays 5 = .ok (.getfield 56, 3) := by decide +kernel
theorem dX12_layWays_8 : decode cX12_layWays 8 = .ok (.iload_n 1, 1) := by decide +kernel
theorem dX12_layWays_9 : decode cX12_layWays 9 = .ok (.iaload, 1) := by decide +kernel
theorem dX12_layWays_10 : decode cX12_layWays 10 = .ok (.istore_n 2, 1) := by decide +kernel
theorem dX12_layWays_11 : decode cX12_layWays 11 = .ok (.iload_n 2, 1) := by decide +kernel
theorem dX12_layWays_12 : decode cX12_layWays 12 = .ok (.iconst 1, 1) := by decide +kernel
theorem dX12_layWays_13 : decode cX12_layWays 13 = .ok (.isub, 1) := by decide +kernel
theorem dX12_layWays_14 : decode cX12_layWays 14 = .ok (.istore_n 3, 1) := by decide +kernel
theorem dX12_layWays_15 : decode cX12_layWays 15 = .ok (.iload_n 3, 1) := by decide +kernel
theorem dX12_layWays_16 : decode cX12_layWays 16 = .ok (.ifCond .lt 140, 3) := by decide +kernel
theorem dX12_layWays_19 : decode cX12_layWays 19 = .ok (.iconst 0, 1) := by decide +kernel
theorem dX12_layWays_20 : decode cX12_layWays 20 = .ok (.istore 4, 2) := by decide +kernel
theorem dX12_layWays_22 : decode cX12_layWays 22 = .ok (.iload 4, 2) := by decide +kernel
theorem dX12_layWays_24 : decode cX12_layWays 24 = .ok (.bipush 64, 2) := by decide +kernel
theorem dX12_layWays_26 : decode cX12_layWays 26 = .ok (.if_icmp .ge 124, 3) := by decide +kernel
theorem dX12_layWays_29 : decode cX12_layWays 29 = .ok (.iload_n 3, 1) := by decide +kernel
theorem dX12_layWays_30 : decode cX12_layWays 30 = .ok (.iload_n 2, 1) := by decide +kernel
theorem dX12_layWays_31 : decode cX12_layWays 31 = .ok (.iconst 1, 1) := by decide +kernel
theorem dX12_layWays_32 : decode cX12_layWays 32 = .ok (.isub, 1) := by decide +kernel
theorem dX12_layWays_33 : decode cX12_layWays 33 = .ok (.if_icmp .ne 7, 3) := by decide +kernel
theorem dX12_layWays_36 : decode cX12_layWays 36 = .ok (.lconst 1, 1) := by decide +kernel
theorem dX12_layWays_37 : decode cX12_layWays 37 = .ok (.goto 4, 3) := by decide +kernel
theorem dX12_layWays_40 : decode cX12_layWays 40 = .ok (.lconst 0, 1) := by decide +kernel
theorem dX12_layWays_41 : decode cX12_layWays 41 = .ok (.lstore 5, 2) := by decide +kernel
theorem dX12_layWays_43 : decode cX12_layWays 43 = .ok (.iconst 0, 1) := by decide +kernel
theorem dX12_layWays_44 : decode cX12_layWays 44 = .ok (.istore 7, 2) := by decide +kernel
theorem dX12_layWays_46 : decode cX12_layWays 46 = .ok (.iload 7, 2) := by decide +kernel
theorem dX12_layWays_48 : decode cX12_layWays 48 = .ok (.bipush 64, 2) := by decide +kernel
theorem dX12_layWays_50 : decode cX12_layWays 50 = .ok (.if_icmp .ge 55, 3) := by decide +kernel
theorem dX12_layWays_53 : decode cX12_layWays 53 = .ok (.iload_n 3, 1) := by decide +kernel
theorem dX12_layWays_54 : decode cX12_layWays 54 = .ok (.iload_n 2, 1) := by decide +kernel
theorem dX12_layWays_55 : decode cX12_layWays 55 = .ok (.iconst 1, 1) := by decide +kernel
theorem dX12_layWays_56 : decode cX12_layWays 56 = .ok (.isub, 1) := by decide +kernel
theorem dX12_layWays_57 : decode cX12_layWays 57 = .ok (.if_icmp .ge 48, 3) := by decide +kernel
theorem dX12_layWays_60 : decode cX12_layWays 60 = .ok (.lload 5, 2) := by decide +kernel
theorem dX12_layWays_62 : decode cX12_layWays 62 = .ok (.iload 4, 2) := by decide +kernel
theorem dX12_layWays_64 : decode cX12_layWays 64 = .ok (.iload 7, 2) := by decide +kernel
theorem dX12_layWays_66 : decode cX12_layWays 66 = .ok (.invokestatic 267, 3) := by decide +kernel
theorem dX12_layWays_69 : decode cX12_layWays 69 = .ok (.aload_n 0, 1) := by decide +kernel
theorem dX12_layWays_70 : decode cX12_layWays 70 = .ok (.getfield 59, 3) := by decide +kernel
theorem dX12_layWays_73 : decode cX12_layWays 73 = .ok (.iload_n 1, 1) := by decide +kernel
theorem dX12_layWays_74 : decode cX12_layWays 74 = .ok (.iaload, 1) := by decide +kernel
theorem dX12_layWays_75 : decode cX12_layWays 75 = .ok (.if_icmp .gt 20, 3) := by decide +kernel
theorem dX12_layWays_78 : decode cX12_layWays 78 = .ok (.aload_n 0, 1) := by decide +kernel
theorem dX12_layWays_79 : decode cX12_layWays 79 = .ok (.getfield 114, 3) := by decide +kernel
theorem dX12_layWays_82 : decode cX12_layWays 82 = .ok (.bipush 64, 2) := by decide +kernel
theorem dX12_layWays_84 : decode cX12_layWays 84 = .ok (.iload_n 3, 1) := by decide +kernel
theorem dX12_layWays_85 : decode cX12_layWays 85 = .ok (.iconst 1, 1) := by decide +kernel
theorem dX12_layWays_86 : decode cX12_layWays 86 = .ok (.iadd, 1) := by decide +kernel
theorem dX12_layWays_87 : decode cX12_layWays 87 = .ok (.imul, 1) := by decide +kernel
theorem dX12_layWays_88 : decode cX12_layWays 88 = .ok (.iload 7, 2) := by decide +kernel
theorem dX12_layWays_90 : decode cX12_layWays 90 = .ok (.iadd, 1) := by decide +kernel
theorem dX12_layWays_91 : decode cX12_layWays 91 = .ok (.laload, 1) := by decide +kernel
theorem dX12_layWays_92 : decode cX12_layWays 92 = .ok (.goto 4, 3) := by decide +kernel
theorem dX12_layWays_95 : decode cX12_layWays 95 = .ok (.lconst 0, 1) := by decide +kernel
theorem dX12_layWays_96 : decode cX12_layWays 96 = .ok (.ladd, 1) := by decide +kernel
theorem dX12_layWays_97 : decode cX12_layWays 97 = .ok (.lstore 5, 2) := by decide +kernel
theorem dX12_layWays_99 : decode cX12_layWays 99 = .ok (.iinc 7 1, 3) := by decide +kernel
theorem dX12_layWays_102 : decode cX12_layWays 102 = .ok (.goto (-56), 3) := by decide +kernel
theorem dX12_layWays_105 : decode cX12_layWays 105 = .ok (.aload_n 0, 1) := by decide +kernel
theorem dX12_layWays_106 : decode cX12_layWays 106 = .ok (.getfield 114, 3) := by decide +kernel
theorem dX12_layWays_109 : decode cX12_layWays 109 = .ok (.bipush 64, 2) := by decide +kernel
theorem dX12_layWays_111 : decode cX12_layWays 111 = .ok (.iload_n 3, 1) := by decide +kernel
theorem dX12_layWays_112 : decode cX12_layWays 112 = .ok (.imul, 1) := by decide +kernel
theorem dX12_layWays_113 : decode cX12_layWays 113 = .ok (.iload 4, 2) := by decide +kernel
theorem dX12_layWays_115 : decode cX12_layWays 115 = .ok (.iadd, 1) := by decide +kernel
theorem dX12_layWays_116 : decode cX12_layWays 116 = .ok (.aload_n 0, 1) := by decide +kernel
theorem dX12_layWays_117 : decode cX12_layWays 117 = .ok (.getfield 84, 3) := by decide +kernel
theorem dX12_layWays_120 : decode cX12_layWays 120 = .ok (.aload_n 0, 1) := by decide +kernel
theorem dX12_layWays_121 : decode cX12_layWays 121 = .ok (.getfield 53, 3) := by decide +kernel
theorem dX12_layWays_124 : decode cX12_layWays 124 = .ok (.iload_n 1, 1) := by decide +kernel
theorem dX12_layWays_125 : decode cX12_layWays 125 = .ok (.iaload, 1) := by decide +kernel
theorem dX12_layWays_126 : decode cX12_layWays 126 = .ok (.iload_n 3, 1) := by decide +kernel
theorem dX12_layWays_127 : decode cX12_layWays 127 = .ok (.iadd, 1) := by decide +kernel
theorem dX12_layWays_128 : decode cX12_layWays 128 = .ok (.laload, 1) := by decide +kernel
theorem dX12_layWays_129 : decode cX12_layWays 129 = .ok (.iload 4, 2) := by decide +kernel
theorem dX12_layWays_131 : decode cX12_layWays 131 = .ok (.invokestatic 162, 3) := by decide +kernel
theorem dX12_layWays_134 : decode cX12_layWays 134 = .ok (.ifCond .eq 8, 3) := by decide +kernel
theorem dX12_layWays_137 : decode cX12_layWays 137 = .ok (.lload 5, 2) := by decide +kernel
theorem dX12_layWays_139 : decode cX12_layWays 139 = .ok (.goto 4, 3) := by decide +kernel
theorem dX12_layWays_142 : decode cX12_layWays 142 = .ok (.lconst 0, 1) := by decide +kernel
theorem dX12_layWays_143 : decode cX12_layWays 143 = .ok (.lastore, 1) := by decide +kernel
theorem dX12_layWays_144 : decode cX12_layWays 144 = .ok (.iinc 4 1, 3) := by decide +kernel
theorem dX12_layWays_147 : decode cX12_layWays 147 = .ok (.goto (-125), 3) := by decide +kernel
theorem dX12_layWays_150 : decode cX12_layWays 150 = .ok (.iinc 3 (-1), 3) := by decide +kernel
theorem dX12_layWays_153 : decode cX12_layWays 153 = .ok (.goto (-138), 3) := by decide +kernel
theorem dX12_layWays_156 : decode cX12_layWays 156 = .ok (.return_, 1) := by decide +kernel
theorem dX12_liars_0 : decode cX12_liars 0 = .ok (.iload_n 1, 1) := by decide +kernel
theorem dX12_liars_1 : decode cX12_liars 1 = .ok (.i2l, 1) := by decide +kernel
theorem dX12_liars_2 : decode cX12_liars 2 = .ok (.lconst 0, 1) := by decide +kernel
theorem dX12_liars_3 : decode cX12_liars 3 = .ok (.lconst 1, 1) := by decide +kernel
theorem dX12_liars_4 : decode cX12_liars 4 = .ok (.invokestatic 175, 3) := by decide +kernel
theorem dX12_liars_7 : decode cX12_liars 7 = .ok (.ifCond .ne 6, 3) := by decide +kernel
theorem dX12_liars_10 : decode cX12_liars 10 = .ok (.bipush (-2), 2) := by decide +kernel
theorem dX12_liars_12 : decode cX12_liars 12 = .ok (.ireturn, 1) := by decide +kernel
theorem dX12_liars_13 : decode cX12_liars 13 = .ok (.aload_n 0, 1) := by decide +kernel
theorem dX12_liars_14 : decode cX12_liars 14 = .ok (.invokevirtual 493, 3) := by decide +kernel
theorem dX12_liars_17 : decode cX12_liars 17 = .ok (.aload_n 0, 1) := by decide +kernel
theorem dX12_liars_18 : decode cX12_liars 18 = .ok (.getfield 481, 3) := by decide +kernel
theorem dX12_liars_21 : decode cX12_liars 21 = .ok (.ifCond .lt 7, 3) := by decide +kernel
theorem dX12_liars_24 : decode cX12_liars 24 = .ok (.iload_n 1, 1) := by decide +kernel
theorem dX12_liars_25 : decode cX12_liars 25 = .ok (.ifCond .ne 10, 3) := by decide +kernel
theorem dX12_liars_28 : decode cX12_liars 28 = .ok (.aload_n 0, 1) := by decide +kernel
theorem dX12_liars_29 : decode cX12_liars 29 = .ok (.getfield 481, 3) := by decide +kernel
theorem dX12_liars_32 : decode cX12_liars 32 = .ok (.goto 7, 3) := by decide +kernel
theorem dX12_liars_35 : decode cX12_liars 35 = .ok (.aload_n 0, 1) := by decide +kernel
theorem dX12_liars_36 : decode cX12_liars 36 = .ok (.getfield 478, 3) := by decide +kernel
theorem dX12_liars_39 : decode cX12_liars 39 = .ok (.ireturn, 1) := by decide +kernel
theorem dX12_lies_0 : decode cX12_lies 0 = .ok (.aload_n 0, 1) := by decide +kernel
theorem dX12_lies_1 : decode cX12_lies 1 = .ok (.iload_n 1, 1) := by decide +kernel
theorem dX12_lies_2 : decode cX12_lies 2 = .ok (.invokevirtual 245, 3) := by decide +kernel
theorem dX12_lies_5 : decode cX12_lies 5 = .ok (.ifCond .eq 5, 3) := by decide +kernel
theorem dX12_lies_8 : decode cX12_lies 8 = .ok (.iconst (-1), 1) := by decide +kernel
theorem dX12_lies_9 : decode cX12_lies 9 = .ok (.ireturn, 1) := by decide +kernel
theorem dX12_lies_10 : decode cX12_lies 10 = .ok (.aload_n 0, 1) := by decide +kernel
theorem dX12_lies_11 : decode cX12_lies 11 = .ok (.invokevirtual 493, 3) := by decide +kernel
theorem dX12_lies_14 : decode cX12_lies 14 = .ok (.aload_n 0, 1) := by decide +kernel
theorem dX12_lies_15 : decode cX12_lies 15 = .ok (.getfield 481, 3) := by decide +kernel
theorem dX12_lies_18 : decode cX12_lies 18 = .ok (.ifCond .ge 8, 3) := by decide +kernel
theorem dX12_lies_21 : decode cX12_lies 21 = .ok (.bipush (-9), 2) := by decide +kernel
theorem dX12_lies_23 : decode cX12_lies 23 = .ok (.goto 34, 3) := by decide +kernel
theorem dX12_lies_26 : decode cX12_lies 26 = .ok (.aload_n 0, 1) := by decide +kernel
theorem dX12_lies_27 : decode cX12_lies 27 = .ok (.getfield 117, 3) := by decide +kernel
theorem dX12_lies_30 : decode cX12_lies 30 = .ok (.iload_n 1, 1) := by decide +kernel
theorem dX12_lies_31 : decode cX12_lies 31 = .ok (.iaload, 1) := by decide +kernel
theorem dX12_lies_32 : decode cX12_lies 32 = .ok (.ifCond .ne 7, 3) := by decide +kernel
theorem dX12_lies_35 : decode cX12_lies 35 = .ok (.iconst 0, 1) := by decide +kernel
theorem dX12_lies_36 : decode cX12_lies 36 = .ok (.goto 21, 3) := by decide +kernel
theorem dX12_lies_39 : decode cX12_lies 39 = .ok (.aload_n 0, 1) := by decide +kernel
theorem dX12_lies_40 : decode cX12_lies 40 = .ok (.getfield 117, 3) := by decide +kernel
theorem dX12_lies_43 : decode cX12_lies 43 = .ok (.iload_n 1, 1) := by decide +kernel
theorem dX12_lies_44 : decode cX12_lies 44 = .ok (.iaload, 1) := by decide +kernel
theorem dX12_lies_45 : decode cX12_lies 45 = .ok (.aload_n 0, 1) := by decide +kernel
theorem dX12_lies_46 : decode cX12_lies 46 = .ok (.getfield 478, 3) := by decide +kernel
theorem dX12_lies_49 : decode cX12_lies 49 = .ok (.if_icmp .ne 7, 3) := by decide +kernel
theorem dX12_lies_52 : decode cX12_lies 52 = .ok (.iconst 2, 1) := by decide +kernel
theorem dX12_lies_53 : decode cX12_lies 53 = .ok (.goto 4, 3) := by decide +kernel
theorem dX12_lies_56 : decode cX12_lies 56 = .ok (.iconst 1, 1) := by decide +kernel
theorem dX12_lies_57 : decode cX12_lies 57 = .ok (.ireturn, 1) := by decide +kernel
theorem dX12_loose_0 : decode cX12_loose 0 = .ok (.iload_n 1, 1) := by decide +kernel
theorem dX12_loose_1 : decode cX12_loose 1 = .ok (.invokestatic 500, 3) := by decide +kernel
theorem dX12_loose_4 : decode cX12_loose 4 = .ok (.ifCond .eq 5, 3) := by decide +kernel
theorem dX12_loose_7 : decode cX12_loose 7 = .ok (.iconst (-1), 1) := by decide +kernel
theorem dX12_loose_8 : decode cX12_loose 8 = .ok (.ireturn, 1) := by decide +kernel
theorem dX12_loose_9 : decode cX12_loose 9 = .ok (.aload_n 0, 1) := by decide +kernel
theorem dX12_loose_10 : decode cX12_loose 10 = .ok (.getfield 126, 3) := by decide +kernel
theorem dX12_loose_13 : decode cX12_loose 13 = .ok (.iload_n 1, 1) := by decide +kernel
theorem dX12_loose_14 : decode cX12_loose 14 = .ok (.iaload, 1) := by decide +kernel
theorem dX12_loose_15 : decode cX12_loose 15 = .ok (.ifCond .ge 7, 3) := by decide +kernel
theorem dX12_loose_18 : decode cX12_loose 18 = .ok (.iconst 0, 1) := by decide +kernel
theorem dX12_loose_19 : decode cX12_loose 19 = .ok (.goto 4, 3) := by decide +kernel
theorem dX12_loose_22 : decode cX12_loose 22 = .ok (.iconst 1, 1) := by decide +kernel
theorem dX12_loose_23 : decode cX12_loose 23 = .ok (.istore_n 2, 1) := by decide +kernel
theorem dX12_loose_24 : decode cX12_loose 24 = .ok (.aload_n 0, 1) := by decide +kernel
theorem dX12_loose_25 : decode cX12_loose 25 = .ok (.getfield 126, 3) := by decide +kernel
theorem dX12_loose_28 : decode cX12_loose 28 = .ok (.iload_n 1, 1) := by decide +kernel
theorem dX12_loose_29 : decode cX12_loose 29 = .ok (.bipush (-9), 2) := by decide +kernel
theorem dX12_loose_31 : decode cX12_loose 31 = .ok (.iastore, 1) := by decide +kernel
theorem dX12_loose_32 : decode cX12_loose 32 = .ok (.iload_n 2, 1) := by decide +kernel
theorem dX12_loose_33 : decode cX12_loose 33 = .ok (.ireturn, 1) := by decide +kernel
theorem dX12_lose_0 : decode cX12_lose 0 = .ok (.iload_n 1, 1) := by decide +kernel
theorem dX12_lose_1 : decode cX12_lose 1 = .ok (.invokestatic 219, 3) := by decide +kernel
theorem dX12_lose_4 : decode cX12_lose 4 = .ok (.ifCond .eq 5, 3) := by decide +kernel
theorem dX12_lose_7 : decode cX12_lose 7 = .ok (.iconst (-1), 1) := by decide +kernel
theorem dX12_lose_8 : decode cX12_lose 8 = .ok (.ireturn, 1) := by decide +kernel
theorem dX12_lose_9 : decode cX12_lose 9 = .ok (.aload_n 0, 1) := by decide +kernel
theorem dX12_lose_10 : decode cX12_lose 10 = .ok (.getfield 141, 3) := by decide +kernel
theorem dX12_lose_13 : decode cX12_lose 13 = .ok (.iload_n 1, 1) := by decide +kernel
theorem dX12_lose_14 : decode cX12_lose 14 = .ok (.iaload, 1) := by decide +kernel
theorem dX12_lose_15 : decode cX12_lose 15 = .ok (.ifCond .ge 7, 3) := by decide +kernel
theorem dX12_lose_18 : decode cX12_lose 18 = .ok (.iconst 0, 1) := by decide +kernel
theorem dX12_lose_19 : decode cX12_lose 19 = .ok (.goto 4, 3) := by decide +kernel
theorem dX12_lose_22 : decode cX12_lose 22 = .ok (.iconst 1, 1) := by decide +kernel
theorem dX12_lose_23 : decode cX12_lose 23 = .ok (.istore_n 2, 1) := by decide +kernel
theorem dX12_lose_24 : decode cX12_lose 24 = .ok (.aload_n 0, 1) := by decide +kernel
theorem dX12_lose_25 : decode cX12_lose 25 = .ok (.getfield 141, 3) := by decide +kernel
theorem dX12_lose_28 : decode cX12_lose 28 = .ok (.iload_n 1, 1) := by decide +kernel
theorem dX12_lose_29 : decode cX12_lose 29 = .ok (.iconst (-1), 1) := by decide +kernel
theorem dX12_lose_30 : decode cX12_lose 30 = .ok (.iastore, 1) := by decide +kernel
theorem dX12_lose_31 : decode cX12_lose 31 = .ok (.iload_n 2, 1) := by decide +kernel
theorem dX12_lose_32 : decode cX12_lose 32 = .ok (.ireturn, 1) := by decide +kernel
theorem dX12_lost_0 : decode cX12_lost 0 = .ok (.ldc2_w 160, 3) := by decide +kernel
theorem dX12_lost_3 : decode cX12_lost 3 = .ok (.lreturn, 1) := by decide +kernel
theorem dX12_many_0 : decode cX12_many 0 = .ok (.iload_n 1, 1) := by decide +kernel
theorem dX12_many_1 : decode cX12_many 1 = .ok (.tableswitch 94 0 9 #[55, 60, 65, 88, 70, 88, 88, 88, 88, 75], 55) := by decide +kernel
theorem dX12_many_56 : decode cX12_many 56 = .ok (.aload_n 0, 1) := by decide +kernel
theorem dX12_many_57 : decode cX12_many 57 = .ok (.invokevirtual 235, 3) := by decide +kernel
theorem dX12_many_60 : decode cX12_many 60 = .ok (.ireturn, 1) := by decide +kernel
theorem dX12_many_61 : decode cX12_many 61 = .ok (.aload_n 0, 1) := by decide +kernel
theorem dX12_many_62 : decode cX12_many 62 = .ok (.getfield 183, 3) := by decide +kernel
theorem dX12_many_65 : decode cX12_many 65 = .ok (.ireturn, 1) := by decide +kernel
theorem dX12_many_66 : decode cX12_many 66 = .ok (.aload_n 0, 1) := by decide +kernel
theorem dX12_many_67 : decode cX12_many 67 = .ok (.getfield 186, 3) := by decide +kernel
theorem dX12_many_70 : decode cX12_many 70 = .ok (.ireturn, 1) := by decide +kernel
theorem dX12_many_71 : decode cX12_many 71 = .ok (.aload_n 0, 1) := by decide +kernel
theorem dX12_many_72 : decode cX12_many 72 = .ok (.getfield 204, 3) := by decide +kernel
theorem dX12_many_75 : decode cX12_many 75 = .ok (.ireturn, 1) := by decide +kernel
theorem dX12_many_76 : decode cX12_many 76 = .ok (.aload_n 0, 1) := by decide +kernel
theorem dX12_many_77 : decode cX12_many 77 = .ok (.getfield 207, 3) := by decide +kernel
theorem dX12_many_80 : decode cX12_many 80 = .ok (.ifCond .eq 7, 3) := by decide +kernel
theorem dX12_many_83 : decode cX12_many 83 = .ok (.iconst 1, 1) := by decide +kernel
theorem dX12_many_84 : decode cX12_many 84 = .ok (.goto 4, 3) := by decide +kernel
theorem dX12_many_87 : decode cX12_many 87 = .ok (.iconst 0, 1) := by decide +kernel
theorem dX12_many_88 : decode cX12_many 88 = .ok (.ireturn, 1) := by decide +kernel
theorem dX12_many_89 : decode cX12_many 89 = .ok (.aload_n 0, 1) := by decide +kernel
theorem dX12_many_90 : decode cX12_many 90 = .ok (.iload_n 1, 1) := by decide +kernel
theorem dX12_many_91 : decode cX12_many 91 = .ok (.invokevirtual 533, 3) := by decide +kernel
theorem dX12_many_94 : decode cX12_many 94 = .ok (.ireturn, 1) := by decide +kernel
theorem dX12_many_95 : decode cX12_many 95 = .ok (.bipush (-2), 2) := by decide +kernel
theorem dX12_many_97 : decode cX12_many 97 = .ok (.ireturn, 1) := by decide +kernel
theorem dX12_mayBeJoint_0 : decode cX12_mayBeJoint 0 = .ok (.aload_n 0, 1) := by decide +kernel
theorem dX12_mayBeJoint_1 : decode cX12_mayBeJoint 1 = .ok (.getfield 32, 3) := by decide +kernel
theorem dX12_mayBeJoint_4 : decode cX12_mayBeJoint 4 = .ok (.iload_n 1, 1) := by decide +kernel
theorem dX12_mayBeJoint_5 : decode cX12_mayBeJoint 5 = .ok (.iaload, 1) := by decide +kernel
theorem dX12_mayBeJoint_6 : decode cX12_mayBeJoint 6 = .ok (.ifCond .lt 28, 3) := by decide +kernel
theorem dX12_mayBeJoint_9 : decode cX12_mayBeJoint 9 = .ok (.aload_n 0, 1) := by decide +kernel
theorem dX12_mayBeJoint_10 : decode cX12_mayBeJoint 10 = .ok (.getfield 403, 3) := by decide +kernel
theorem dX12_mayBeJoint_13 : decode cX12_mayBeJoint 13 = .ok (.i2l, 1) := by decide +kernel
theorem dX12_mayBeJoint_14 : decode cX12_mayBeJoint 14 = .ok (.iload_n 1, 1) := by decide +kernel
theorem dX12_mayBeJoint_15 : decode cX12_mayBeJoint 15 = .ok (.invokestatic 162, 3) := by decide +kernel
theorem dX12_mayBeJoint_18 : decode cX12_mayBeJoint 18 = .ok (.ifCond .ne 12, 3) := by decide +kernel
theorem dX12_mayBeJoint_21 : decode cX12_mayBeJoint 21 = .ok (.aload_n 0, 1) := by decide +kernel
theorem dX12_mayBeJoint_22 : decode cX12_mayBeJoint 22 = .ok (.getfield 13, 3) := by decide +kernel
theorem dX12_mayBeJoint_25 : decode cX12_mayBeJoint 25 = .ok (.iload_n 1, 1) := by decide +kernel
theorem dX12_mayBeJoint_26 : decode cX12_mayBeJoint 26 = .ok (.iaload, 1) := by decide +kernel
theorem dX12_mayBeJoint_27 : decode cX12_mayBeJoint 27 = .ok (.ifCond .le 7, 3) := by decide +kernel
theorem dX12_mayBeJoint_30 : decode cX12_mayBeJoint 30 = .ok (.iconst 1, 1) := by decide +kernel
theorem dX12_mayBeJoint_31 : decode cX12_mayBeJoint 31 = .ok (.goto 4, 3) := by decide +kernel
theorem dX12_mayBeJoint_34 : decode cX12_mayBeJoint 34 = .ok (.iconst 0, 1) := by decide +kernel
theorem dX12_mayBeJoint_35 : decode cX12_mayBeJoint 35 = .ok (.ireturn, 1) := by decide +kernel
theorem dX12_mayLie_0 : decode cX12_mayLie 0 = .ok (.aload_n 0, 1) := by decide +kernel
theorem dX12_mayLie_1 : decode cX12_mayLie 1 = .ok (.getfield 13, 3) := by decide +kernel
theorem dX12_mayLie_4 : decode cX12_mayLie 4 = .ok (.iload_n 1, 1) := by decide +kernel
theorem dX12_mayLie_5 : decode cX12_mayLie 5 = .ok (.iaload, 1) := by decide +kernel
theorem dX12_mayLie_6 : decode cX12_mayLie 6 = .ok (.iconst 2, 1) := by decide +kernel
theorem dX12_mayLie_7 : decode cX12_mayLie 7 = .ok (.if_icmp .ge 16, 3) := by decide +kernel
theorem dX12_mayLie_10 : decode cX12_mayLie 10 = .ok (.aload_n 0, 1) := by decide +kernel
theorem dX12_mayLie_11 : decode cX12_mayLie 11 = .ok (.getfield 23, 3) := by decide +kernel
theorem dX12_mayLie_14 : decode cX12_mayLie 14 = .ok (.iload_n 1, 1) := by decide +kernel
theorem dX12_mayLie_15 : decode cX12_mayLie 15 = .ok (.baload, 1) := by decide +kernel
theorem dX12_mayLie_16 : decode cX12_mayLie 16 = .ok (.ifCond .ne 7, 3) := by decide +kernel
theorem dX12_mayLie_19 : decode cX12_mayLie 19 = .ok (.iconst 1, 1) := by decide +kernel
theorem dX12_mayLie_20 : decode cX12_mayLie 20 = .ok (.goto 4, 3) := by decide +kernel
theorem dX12_mayLie_23 : decode cX12_mayLie 23 = .ok (.iconst 0, 1) := by decide +kernel
theorem dX12_mayLie_24 : decode cX12_mayLie 24 = .ok (.ireturn, 1) := by decide +kernel
theorem dX12_measure_0 : decode cX12_measure 0 = .ok (.aload_n 0, 1) := by decide +kernel
theorem dX12_measure_1 : decode cX12_measure 1 = .ok (.iload_n 2, 1) := by decide +kernel
theorem dX12_measure_2 : decode cX12_measure 2 = .ok (.invokevirtual 245, 3) := by decide +kernel
theorem dX12_measure_5 : decode cX12_measure 5 = .ok (.ifCond .ne 11, 3) := by decide +kernel
theorem dX12_measure_8 : decode cX12_measure 8 = .ok (.aload_n 0, 1) := by decide +kernel
theorem dX12_measure_9 : decode cX12_measure 9 = .ok (.iload_n 3, 1) := by decide +kernel
theorem dX12_measure_10 : decode cX12_measure 10 = .ok (.invokevirtual 245, 3) := by decide +kernel
theorem dX12_measure_13 : decode cX12_measure 13 = .ok (.ifCond .eq 5, 3) := by decide +kernel
theorem dX12_measure_16 : decode cX12_measure 16 = .ok (.iconst (-1), 1) := by decide +kernel
theorem dX12_measure_17 : decode cX12_measure 17 = .ok (.ireturn, 1) := by decide +kernel
theorem dX12_measure_18 : decode cX12_measure 18 = .ok (.iload_n 2, 1) := by decide +kernel
theorem dX12_measure_19 : decode cX12_measure 19 = .ok (.iload_n 3, 1) := by decide +kernel
theorem dX12_measure_20 : decode cX12_measure 20 = .ok (.if_icmp .eq 14, 3) := by decide +kernel
theorem dX12_measure_23 : decode cX12_measure 23 = .ok (.iload_n 1, 1) := by decide +kernel
theorem dX12_measure_24 : decode cX12_measure 24 = .ok (.iload 4, 2) := by decide +kernel
theorem dX12_measure_26 : decode cX12_measure 26 = .ok (.iload 5, 2) := by decide +kernel
theorem dX12_measure_28 : decode cX12_measure 28 = .ok (.invokestatic 292, 3) := by decide +kernel
theorem dX12_measure_31 : decode cX12_measure 31 = .ok (.ifCond .ne 6, 3) := by decide +kernel
theorem dX12_measure_34 : decode cX12_measure 34 = .ok (.bipush (-2), 2) := by decide +kernel
theorem dX12_measure_36 : decode cX12_measure 36 = .ok (.ireturn, 1) := by decide +kernel
theorem dX12_measure_37 : decode cX12_measure 37 = .ok (.aload_n 0, 1) := by decide +kernel
theorem dX12_measure_38 : decode cX12_measure 38 = .ok (.getfield 186, 3) := by decide +kernel
theorem dX12_measure_41 : decode cX12_measure 41 = .ok (.bipush 60, 2) := by decide +kernel
theorem dX12_measure_43 : decode cX12_measure 43 = .ok (.if_icmp .ne 8, 3) := by decide +kernel
theorem dX12_measure_46 : decode cX12_measure 46 = .ok (.bipush (-4), 2) := by decide +kernel
theorem dX12_measure_48 : decode cX12_measure 48 = .ok (.goto 14, 3) := by decide +kernel
theorem dX12_measure_51 : decode cX12_measure 51 = .ok (.aload_n 0, 1) := by decide +kernel
theorem dX12_measure_52 : decode cX12_measure 52 = .ok (.iload_n 1, 1) := by decide +kernel
theorem dX12_measure_53 : decode cX12_measure 53 = .ok (.iload_n 2, 1) := by decide +kernel
theorem dX12_measure_54 : decode cX12_measure 54 = .ok (.iload_n 3, 1) := by decide +kernel
theorem dX12_measure_55 : decode cX12_measure 55 = .ok (.iload 4, 2) := by decide +kernel
theorem dX12_measure_57 : decode cX12_measure 57 = .ok (.iload 5, 2) := by decide +kernel
theorem dX12_measure_59 : decode cX12_measure 59 = .ok (.invokevirtual 295, 3) := by decide +kernel
theorem dX12_measure_62 : decode cX12_measure 62 = .ok (.ireturn, 1) := by decide +kernel
theorem dX12_measures_0 : decode cX12_measures 0 = .ok (.iload_n 1, 1) := by decide +kernel
theorem dX12_measures_1 : decode cX12_measures 1 = .ok (.invokestatic 219, 3) := by decide +kernel
theorem dX12_measures_4 : decode cX12_measures 4 = .ok (.ifCond .eq 9, 3) := by decide +kernel
theorem dX12_measures_7 : decode cX12_measures 7 = .ok (.aload_n 0, 1) := by decide +kernel
theorem dX12_measures_8 : decode cX12_measures 8 = .ok (.iconst (-1), 1) := by decide +kernel
theorem dX12_measures_9 : decode cX12_measures 9 = .ok (.invokevirtual 222, 3) := by decide +kernel
theorem dX12_measures_12 : decode cX12_measures 12 = .ok (.ireturn, 1) := by decide +kernel
theorem dX12_measures_13 : decode cX12_measures 13 = .ok (.iload_n 2, 1) := by decide +kernel
theorem dX12_measures_14 : decode cX12_measures 14 = .ok (.i2l, 1) := by decide +kernel
theorem dX12_measures_15 : decode cX12_measures 15 = .ok (.lconst 0, 1) := by decide +kernel
theorem dX12_measures_16 : decode cX12_measures 16 = .ok (.ldc2_w 226, 3) := by decide +kernel
theorem dX12_measures_19 : decode cX12_measures 19 = .ok (.invokestatic 175, 3) := by decide +kernel
theorem dX12_measures_22 : decode cX12_measures 22 = .ok (.ifCond .ne 10, 3) := by decide +kernel
theorem dX12_measures_25 : decode cX12_measures 25 = .ok (.aload_n 0, 1) := by decide +kernel
theorem dX12_measures_26 : decode cX12_measures 26 = .ok (.bipush (-2), 2) := by decide +kernel
theorem dX12_measures_28 : decode cX12_measures 28 = .ok (.invokevirtual 222, 3) := by decide +kernel
theorem dX12_measures_31 : decode cX12_measures 31 = .ok (.ireturn, 1) := by decide +kernel
theorem dX12_measures_32 : decode cX12_measures 32 = .ok (.aload_n 0, 1) := by decide +kernel
theorem dX12_measures_33 : decode cX12_measures 33 = .ok (.getfield 141, 3) := by decide +kernel
theorem dX12_measures_36 : decode cX12_measures 36 = .ok (.iload_n 1, 1) := by decide +kernel
theorem dX12_measures_37 : decode cX12_measures 37 = .ok (.iaload, 1) := by decide +kernel
theorem dX12_measures_38 : decode cX12_measures 38 = .ok (.ifCond .lt 19, 3) := by decide +kernel
theorem dX12_measures_41 : decode cX12_measures 41 = .ok (.aload_n 0, 1) := by decide +kernel
theorem dX12_measures_42 : decode cX12_measures 42 = .ok (.getfield 144, 3) := by decide +kernel
theorem dX12_measures_45 : decode cX12_measures 45 = .ok (.iload_n 1, 1) := by decide +kernel
theorem dX12_measures_46 : decode cX12_measures 46 = .ok (.iaload, 1) := by decide +kernel
theorem dX12_measures_47 : decode cX12_measures 47 = .ok (.iload_n 2, 1) := by decide +kernel
theorem dX12_measures_48 : decode cX12_measures 48 = .ok (.if_icmp .eq 9, 3) := by decide +kernel
theorem dX12_measures_51 : decode cX12_measures 51 = .ok (.aload_n 0, 1) := by decide +kernel
theorem dX12_measures_52 : decode cX12_measures 52 = .ok (.iconst 2, 1) := by decide +kernel
theorem dX12_measures_53 : decode cX12_measures 53 = .ok (.invokevirtual 228, 3) := by decide +kernel
theorem dX12_measures_56 : decode cX12_measures 56 = .ok (.ireturn, 1) := by decide +kernel
theorem dX12_measures_57 : decode cX12_measures 57 = .ok (.aload_n 0, 1) := by decide +kernel
theorem dX12_measures_58 : decode cX12_measures 58 = .ok (.getfield 141, 3) := by decide +kernel
theorem dX12_measures_61 : decode cX12_measures 61 = .ok (.iload_n 1, 1) := by decide +kernel
theorem dX12_measures_62 : decode cX12_measures 62 = .ok (.iaload, 1) := by decide +kernel
theorem dX12_measures_63 : decode cX12_measures 63 = .ok (.ifCond .ge 9, 3) := by decide +kernel
theorem dX12_measures_66 : decode cX12_measures 66 = .ok (.aload_n 0, 1) := by decide +kernel
theorem dX12_measures_67 : decode cX12_measures 67 = .ok (.iconst 1, 1) := by decide +kernel
theorem dX12_measures_68 : decode cX12_measures 68 = .ok (.invokevirtual 228, 3) := by decide +kernel
theorem dX12_measures_71 : decode cX12_measures 71 = .ok (.ireturn, 1) := by decide +kernel
theorem dX12_measures_72 : decode cX12_measures 72 = .ok (.iload 4, 2) := by decide +kernel
theorem dX12_measures_74 : decode cX12_measures 74 = .ok (.ifCond .ge 9, 3) := by decide +kernel
theorem dX12_measures_77 : decode cX12_measures 77 = .ok (.aload_n 0, 1) := by decide +kernel
theorem dX12_measures_78 : decode cX12_measures 78 = .ok (.iconst 4, 1) := by decide +kernel
theorem dX12_measures_79 : decode cX12_measures 79 = .ok (.invokevirtual 228, 3) := by decide +kernel
theorem dX12_measures_82 : decode cX12_measures 82 = .ok (.ireturn, 1) := by decide +kernel
theorem dX12_measures_83 : decode cX12_measures 83 = .ok (.iconst 0, 1) := by decide +kernel
theorem dX12_measures_84 : decode cX12_measures 84 = .ok (.istore 5, 2) := by decide +kernel
theorem dX12_measures_86 : decode cX12_measures 86 = .ok (.iload 5, 2) := by decide +kernel
theorem dX12_measures_88 : decode cX12_measures 88 = .ok (.iload 4, 2) := by decide +kernel
theorem dX12_measures_90 : decode cX12_measures 90 = .ok (.if_icmp .ge 116, 3) := by decide +kernel
theorem dX12_measures_93 : decode cX12_measures 93 = .ok (.iload_n 3, 1) := by decide +kernel
theorem dX12_measures_94 : decode cX12_measures 94 = .ok (.ldc2_w 299, 3) := by decide +kernel
theorem dX12_measures_97 : decode cX12_measures 97 = .ok (.iload 5, 2) := by decide +kernel
theorem dX12_measures_99 : decode cX12_measures 99 = .ok (.i2l, 1) := by decide +kernel
theorem dX12_measures_100 : decode cX12_measures 100 = .ok (.lmul, 1) := by decide +kernel
theorem dX12_measures_101 : decode cX12_measures 101 = .ok (.ldc2_w 299, 3) := by decide +kernel
theorem dX12_measures_104 : decode cX12_measures 104 = .ok (.ladd, 1) := by decide +kernel
theorem dX12_measures_105 : decode cX12_measures 105 = .ok (.aload_n 0, 1) := by decide +kernel
theorem dX12_measures_106 : decode cX12_measures 106 = .ok (.getfield 141, 3) := by decide +kernel
theorem dX12_measures_109 : decode cX12_measures 109 = .ok (.iload_n 1, 1) := by decide +kernel
theorem dX12_measures_110 : decode cX12_measures 110 = .ok (.iaload, 1) := by decide +kernel
theorem dX12_measures_111 : decode cX12_measures 111 = .ok (.invokestatic 231, 3) := by decide +kernel
theorem dX12_measures_114 : decode cX12_measures 114 = .ok (.ifCond .eq 11, 3) := by decide +kernel
theorem dX12_measures_117 : decode cX12_measures 117 = .ok (.aload_n 0, 1) := by decide +kernel
theorem dX12_measures_118 : decode cX12_measures 118 = .ok (.iconst 3, 1) := by decide +kernel
theorem dX12_measures_119 : decode cX12_measures 119 = .ok (.putfield 166, 3) := by decide +kernel
theorem dX12_measures_122 : decode cX12_measures 122 = .ok (.iload 5, 2) := by decide +kernel
theorem dX12_measures_124 : decode cX12_measures 124 = .ok (.ireturn, 1) := by decide +kernel
theorem dX12_measures_125 : decode cX12_measures 125 = .ok (.bipush 64, 2) := by decide +kernel
theorem dX12_measures_127 : decode cX12_measures 127 = .ok (.iload_n 1, 1) := by decide +kernel
theorem dX12_measures_128 : decode cX12_measures 128 = .ok (.imul, 1) := by decide +kernel
theorem dX12_measures_129 : decode cX12_measures 129 = .ok (.iload_n 3, 1) := by decide +kernel
theorem dX12_measures_130 : decode cX12_measures 130 = .ok (.iadd, 1) := by decide +kernel
theorem dX12_measures_131 : decode cX12_measures 131 = .ok (.iconst 5, 1) := by decide +kernel
theorem dX12_measures_132 : decode cX12_measures 132 = .ok (.iload 5, 2) := by decide +kernel
theorem dX12_measures_134 : decode cX12_measures 134 = .ok (.imul, 1) := by decide +kernel
theorem dX12_measures_135 : decode cX12_measures 135 = .ok (.iadd, 1) := by decide +kernel
theorem dX12_measures_136 : decode cX12_measures 136 = .ok (.istore 6, 2) := by decide +kernel
theorem dX12_measures_138 : decode cX12_measures 138 = .ok (.aload_n 0, 1) := by decide +kernel
theorem dX12_measures_139 : decode cX12_measures 139 = .ok (.aload_n 0, 1) := by decide +kernel
theorem dX12_measures_140 : decode cX12_measures 140 = .ok (.getfield 147, 3) := by decide +kernel
theorem dX12_measures_143 : decode cX12_measures 143 = .ok (.iload 6, 2) := by decide +kernel
theorem dX12_measures_145 : decode cX12_measures 145 = .ok (.laload, 1) := by decide +kernel
theorem dX12_measures_146 : decode cX12_measures 146 = .ok (.l2i, 1) := by decide +kernel
theorem dX12_measures_147 : decode cX12_measures 147 = .ok (.aload_n 0, 1) := by decide +kernel
theorem dX12_measures_148 : decode cX12_measures 148 = .ok (.getfield 147, 3) := by decide +kernel
theorem dX12_measures_151 : decode cX12_measures 151 = .ok (.iload 6, 2) := by decide +kernel
theorem dX12_measures_153 : decode cX12_measures 153 = .ok (.iconst 1, 1) := by decide +kernel
theorem dX12_measures_154 : decode cX12_measures 154 = .ok (.iadd, 1) := by decide +kernel
theorem dX12_measures_155 : decode cX12_measures 155 = .ok (.laload, 1) := by decide +kernel
theorem dX12_measures_156 : decode cX12_measures 156 = .ok (.l2i, 1) := by decide +kernel
theorem dX12_measures_157 : decode cX12_measures 157 = .ok (.aload_n 0, 1) := by decide +kernel
theorem dX12_measures_158 : decode cX12_measures 158 = .ok (.getfield 147, 3) := by decide +kernel
theorem dX12_measures_161 : decode cX12_measures 161 = .ok (.iload 6, 2) := by decide +kernel
theorem dX12_measures_163 : decode cX12_measures 163 = .ok (.iconst 2, 1) := by decide +kernel
theorem dX12_measures_164 : decode cX12_measures 164 = .ok (.iadd, 1) := by decide +kernel
theorem dX12_measures_165 : decode cX12_measures 165 = .ok (.laload, 1) := by decide +kernel
theorem dX12_measures_166 : decode cX12_measures 166 = .ok (.l2i, 1) := by decide +kernel
theorem dX12_measures_167 : decode cX12_measures 167 = .ok (.aload_n 0, 1) := by decide +kernel
theorem dX12_measures_168 : decode cX12_measures 168 = .ok (.getfield 147, 3) := by decide +kernel
theorem dX12_measures_171 : decode cX12_measures 171 = .ok (.iload 6, 2) := by decide +kernel
theorem dX12_measures_173 : decode cX12_measures 173 = .ok (.iconst 3, 1) := by decide +kernel
theorem dX12_measures_174 : decode cX12_measures 174 = .ok (.iadd, 1) := by decide +kernel
theorem dX12_measures_175 : decode cX12_measures 175 = .ok (.laload, 1) := by decide +kernel
theorem dX12_measures_176 : decode cX12_measures 176 = .ok (.l2i, 1) := by decide +kernel
theorem dX12_measures_177 : decode cX12_measures 177 = .ok (.aload_n 0, 1) := by decide +kernel
theorem dX12_measures_178 : decode cX12_measures 178 = .ok (.getfield 147, 3) := by decide +kernel
theorem dX12_measures_181 : decode cX12_measures 181 = .ok (.iload 6, 2) := by decide +kernel
theorem dX12_measures_183 : decode cX12_measures 183 = .ok (.iconst 4, 1) := by decide +kernel
theorem dX12_measures_184 : decode cX12_measures 184 = .ok (.iadd, 1) := by decide +kernel
theorem dX12_measures_185 : decode cX12_measures 185 = .ok (.laload, 1) := by decide +kernel
theorem dX12_measures_186 : decode cX12_measures 186 = .ok (.l2i, 1) := by decide +kernel
theorem dX12_measures_187 : decode cX12_measures 187 = .ok (.invokevirtual 301, 3) := by decide +kernel
theorem dX12_measures_190 : decode cX12_measures 190 = .ok (.ifCond .ge 10, 3) := by decide +kernel
theorem dX12_measures_193 : decode cX12_measures 193 = .ok (.aload_n 0, 1) := by decide +kernel
theorem dX12_measures_194 : decode cX12_measures 194 = .ok (.iload 5, 2) := by decide +kernel
theorem dX12_measures_196 : decode cX12_measures 196 = .ok (.invokevirtual 222, 3) := by decide +kernel
theorem dX12_measures_199 : decode cX12_measures 199 = .ok (.ireturn, 1) := by decide +kernel
theorem dX12_measures_200 : decode cX12_measures 200 = .ok (.iinc 5 1, 3) := by decide +kernel
theorem dX12_measures_203 : decode cX12_measures 203 = .ok (.goto (-117), 3) := by decide +kernel
theorem dX12_measures_206 : decode cX12_measures 206 = .ok (.aload_n 0, 1) := by decide +kernel
theorem dX12_measures_207 : decode cX12_measures 207 = .ok (.iload 5, 2) := by decide +kernel
theorem dX12_measures_209 : decode cX12_measures 209 = .ok (.invokevirtual 222, 3) := by decide +kernel
theorem dX12_measures_212 : decode cX12_measures 212 = .ok (.ireturn, 1) := by decide +kernel
theorem dX12_mover_0 : decode cX12_mover 0 = .ok (.iload_n 1, 1) := by decide +kernel
theorem dX12_mover_1 : decode cX12_mover 1 = .ok (.i2l, 1) := by decide +kernel
theorem dX12_mover_2 : decode cX12_mover 2 = .ok (.ldc2_w 239, 3) := by decide +kernel
theorem dX12_mover_5 : decode cX12_mover 5 = .ok (.ldc2_w 202, 3) := by decide +kernel
theorem dX12_mover_8 : decode cX12_mover 8 = .ok (.invokestatic 175, 3) := by decide +kernel
theorem dX12_mover_11 : decode cX12_mover 11 = .ok (.ifCond .eq 15, 3) := by decide +kernel
theorem dX12_mover_14 : decode cX12_mover 14 = .ok (.iload_n 2, 1) := by decide +kernel
theorem dX12_mover_15 : decode cX12_mover 15 = .ok (.i2l, 1) := by decide +kernel
theorem dX12_mover_16 : decode cX12_mover 16 = .ok (.lconst 0, 1) := by decide +kernel
theorem dX12_mover_17 : decode cX12_mover 17 = .ok (.ldc2_w 271, 3) := by decide +kernel
theorem dX12_mover_20 : decode cX12_mover 20 = .ok (.invokestatic 175, 3) := by decide +kernel
theorem dX12_mover_23 : decode cX12_mover 23 = .ok (.ifCond .ne 6, 3) := by decide +kernel
theorem dX12_mover_26 : decode cX12_mover 26 = .ok (.bipush (-2), 2) := by decide +kernel
theorem dX12_mover_28 : decode cX12_mover 28 = .ok (.ireturn, 1) := by decide +kernel
theorem dX12_mover_29 : decode cX12_mover 29 = .ok (.aload_n 0, 1) := by decide +kernel
theorem dX12_mover_30 : decode cX12_mover 30 = .ok (.getfield 204, 3) := by decide +kernel
theorem dX12_mover_33 : decode cX12_mover 33 = .ok (.iconst 3, 1) := by decide +kernel
theorem dX12_mover_34 : decode cX12_mover 34 = .ok (.if_icmp .eq 27, 3) := by decide +kernel
theorem dX12_mover_37 : decode cX12_mover 37 = .ok (.aload_n 0, 1) := by decide +kernel
theorem dX12_mover_38 : decode cX12_mover 38 = .ok (.getfield 183, 3) := by decide +kernel
theorem dX12_mover_41 : decode cX12_mover 41 = .ok (.iload_n 1, 1) := by decide +kernel
theorem dX12_mover_42 : decode cX12_mover 42 = .ok (.iadd, 1) := by decide +kernel
theorem dX12_mover_43 : decode cX12_mover 43 = .ok (.bipush 24, 2) := by decide +kernel
theorem dX12_mover_45 : decode cX12_mover 45 = .ok (.if_icmp .gt 16, 3) := by decide +kernel
theorem dX12_mover_48 : decode cX12_mover 48 = .ok (.aload_n 0, 1) := by decide +kernel
theorem dX12_mover_49 : decode cX12_mover 49 = .ok (.getfield 186, 3) := by decide +kernel
theorem dX12_mover_52 : decode cX12_mover 52 = .ok (.iload_n 1, 1) := by decide +kernel
theorem dX12_mover_53 : decode cX12_mover 53 = .ok (.iadd, 1) := by decide +kernel
theorem dX12_mover_54 : decode cX12_mover 54 = .ok (.iconst 1, 1) := by decide +kernel
theorem dX12_mover_55 : decode cX12_mover 55 = .ok (.isub, 1) := by decide +kernel
theorem dX12_mover_56 : decode cX12_mover 56 = .ok (.bipush 60, 2) := by decide +kernel
theorem dX12_mover_58 : decode cX12_mover 58 = .ok (.if_icmp .le 6, 3) := by decide +kernel
theorem dX12_mover_61 : decode cX12_mover 61 = .ok (.bipush (-4), 2) := by decide +kernel
theorem dX12_mover_63 : decode cX12_mover 63 = .ok (.ireturn, 1) := by decide +kernel
theorem dX12_mover_64 : decode cX12_mover 64 = .ok (.aload_n 0, 1) := by decide +kernel
theorem dX12_mover_65 : decode cX12_mover 65 = .ok (.getfield 53, 3) := by decide +kernel
theorem dX12_mover_68 : decode cX12_mover 68 = .ok (.aload_n 0, 1) := by decide +kernel
theorem dX12_mover_69 : decode cX12_mover 69 = .ok (.getfield 204, 3) := by decide +kernel
theorem dX12_mover_72 : decode cX12_mover 72 = .ok (.aload_n 0, 1) := by decide +kernel
theorem dX12_mover_73 : decode cX12_mover 73 = .ok (.getfield 183, 3) := by decide +kernel
theorem dX12_mover_76 : decode cX12_mover 76 = .ok (.iastore, 1) := by decide +kernel
theorem dX12_mover_77 : decode cX12_mover 77 = .ok (.aload_n 0, 1) := by decide +kernel
theorem dX12_mover_78 : decode cX12_mover 78 = .ok (.getfield 56, 3) := by decide +kernel
theorem dX12_mover_81 : decode cX12_mover 81 = .ok (.aload_n 0, 1) := by decide +kernel
theorem dX12_mover_82 : decode cX12_mover 82 = .ok (.getfield 204, 3) := by decide +kernel
theorem dX12_mover_85 : decode cX12_mover 85 = .ok (.iload_n 1, 1) := by decide +kernel
theorem dX12_mover_86 : decode cX12_mover 86 = .ok (.iastore, 1) := by decide +kernel
theorem dX12_mover_87 : decode cX12_mover 87 = .ok (.aload_n 0, 1) := by decide +kernel
theorem dX12_mover_88 : decode cX12_mover 88 = .ok (.getfield 59, 3) := by decide +kernel
theorem dX12_mover_91 : decode cX12_mover 91 = .ok (.aload_n 0, 1) := by decide +kernel
theorem dX12_mover_92 : decode cX12_mover 92 = .ok (.getfield 204, 3) := by decide +kernel
theorem dX12_mover_95 : decode cX12_mover 95 = .ok (.iload_n 2, 1) := by decide +kernel
theorem dX12_mover_96 : decode cX12_mover 96 = .ok (.iastore, 1) := by decide +kernel
theorem dX12_mover_97 : decode cX12_mover 97 = .ok (.iconst 0, 1) := by decide +kernel
theorem dX12_mover_98 : decode cX12_mover 98 = .ok (.istore_n 3, 1) := by decide +kernel
theorem dX12_mover_99 : decode cX12_mover 99 = .ok (.iload_n 3, 1) := by decide +kernel
theorem dX12_mover_100 : decode cX12_mover 100 = .ok (.iload_n 1, 1) := by decide +kernel
theorem dX12_mover_101 : decode cX12_mover 101 = .ok (.if_icmp .ge 46, 3) := by decide +kernel
theorem dX12_mover_104 : decode cX12_mover 104 = .ok (.aload_n 0, 1) := by decide +kernel
theorem dX12_mover_105 : decode cX12_mover 105 = .ok (.iconst 0, 1) := by decide +kernel
theorem dX12_mover_106 : decode cX12_mover 106 = .ok (.bipush (-9), 2) := by decide +kernel
theorem dX12_mover_108 : decode cX12_mover 108 = .ok (.aload_n 0, 1) := by decide +kernel
theorem dX12_mover_109 : decode cX12_mover 109 = .ok (.getfield 204, 3) := by decide +kernel
theorem dX12_mover_112 : decode cX12_mover 112 = .ok (.iload_n 3, 1) := by decide +kernel
theorem dX12_mover_113 : decode cX12_mover 113 = .ok (.invokevirtual 241, 3) := by decide +kernel
theorem dX12_mover_116 : decode cX12_mover 116 = .ok (.pop, 1) := by decide +kernel
theorem dX12_mover_117 : decode cX12_mover 117 = .ok (.iload_n 3, 1) := by decide +kernel
theorem dX12_mover_118 : decode cX12_mover 118 = .ok (.ifCond .le 23, 3) := by decide +kernel
theorem dX12_mover_121 : decode cX12_mover 121 = .ok (.aload_n 0, 1) := by decide +kernel
theorem dX12_mover_122 : decode cX12_mover 122 = .ok (.iconst 1, 1) := by decide +kernel
theorem dX12_mover_123 : decode cX12_mover 123 = .ok (.aload_n 0, 1) := by decide +kernel
theorem dX12_mover_124 : decode cX12_mover 124 = .ok (.getfield 183, 3) := by decide +kernel
theorem dX12_mover_127 : decode cX12_mover 127 = .ok (.iconst 2, 1) := by decide +kernel
theorem dX12_mover_128 : decode cX12_mover 128 = .ok (.isub, 1) := by decide +kernel
theorem dX12_mover_129 : decode cX12_mover 129 = .ok (.aload_n 0, 1) := by decide +kernel
theorem dX12_mover_130 : decode cX12_mover 130 = .ok (.getfield 183, 3) := by decide +kernel
theorem dX12_mover_133 : decode cX12_mover 133 = .ok (.iconst 1, 1) := by decide +kernel
theorem dX12_mover_134 : decode cX12_mover 134 = .ok (.isub, 1) := by decide +kernel
theorem dX12_mover_135 : decode cX12_mover 135 = .ok (.iconst 0, 1) := by decide +kernel
theorem dX12_mover_136 : decode cX12_mover 136 = .ok (.iload_n 2, 1) := by decide +kernel
theorem dX12_mover_137 : decode cX12_mover 137 = .ok (.invokevirtual 295, 3) := by decide +kernel
theorem dX12_mover_140 : decode cX12_mover 140 = .ok (.pop, 1) := by decide +kernel
theorem dX12_mover_141 : decode cX12_mover 141 = .ok (.iinc 3 1, 3) := by decide +kernel
theorem dX12_mover_144 : decode cX12_mover 144 = .ok (.goto (-45), 3) := by decide +kernel
theorem dX12_mover_147 : decode cX12_mover 147 = .ok (.aload_n 0, 1) := by decide +kernel
theorem dX12_mover_148 : decode cX12_mover 148 = .ok (.dup, 1) := by decide +kernel
theorem dX12_mover_149 : decode cX12_mover 149 = .ok (.getfield 204, 3) := by decide +kernel
theorem dX12_mover_152 : decode cX12_mover 152 = .ok (.iconst 1, 1) := by decide +kernel
theorem dX12_mover_153 : decode cX12_mover 153 = .ok (.iadd, 1) := by decide +kernel
theorem dX12_mover_154 : decode cX12_mover 154 = .ok (.putfield 204, 3) := by decide +kernel
theorem dX12_mover_157 : decode cX12_mover 157 = .ok (.aload_n 0, 1) := by decide +kernel
theorem dX12_mover_158 : decode cX12_mover 158 = .ok (.getfield 204, 3) := by decide +kernel
theorem dX12_mover_161 : decode cX12_mover 161 = .ok (.iconst 1, 1) := by decide +kernel
theorem dX12_mover_162 : decode cX12_mover 162 = .ok (.isub, 1) := by decide +kernel
theorem dX12_mover_163 : decode cX12_mover 163 = .ok (.ireturn, 1) := by decide +kernel
theorem dX12_movesBy_0 : decode cX12_movesBy 0 = .ok (.aload_n 0, 1) := by decide +kernel
theorem dX12_movesBy_1 : decode cX12_movesBy 1 = .ok (.getfield 400, 3) := by decide +kernel
theorem dX12_movesBy_4 : decode cX12_movesBy 4 = .ok (.ifCond .lt 30, 3) := by decide +kernel
theorem dX12_movesBy_7 : decode cX12_movesBy 7 = .ok (.aload_n 0, 1) := by decide +kernel
theorem dX12_movesBy_8 : decode cX12_movesBy 8 = .ok (.aload_n 0, 1) := by decide +kernel
theorem dX12_movesBy_9 : decode cX12_movesBy 9 = .ok (.getfield 32, 3) := by decide +kernel
theorem dX12_movesBy_12 : decode cX12_movesBy 12 = .ok (.aload_n 0, 1) := by decide +kernel
theorem dX12_movesBy_13 : decode cX12_movesBy 13 = .ok (.getfield 400, 3) := by decide +kernel
theorem dX12_movesBy_16 : decode cX12_movesBy 16 = .ok (.iaload, 1) := by decide +kernel
theorem dX12_movesBy_17 : decode cX12_movesBy 17 = .ok (.invokevirtual 415, 3) := by decide +kernel
theorem dX12_movesBy_20 : decode cX12_movesBy 20 = .ok (.aload_n 0, 1) := by decide +kernel
theorem dX12_movesBy_21 : decode cX12_movesBy 21 = .ok (.getfield 32, 3) := by decide +kernel
theorem dX12_movesBy_24 : decode cX12_movesBy 24 = .ok (.aload_n 0, 1) := by decide +kernel
theorem dX12_movesBy_25 : decode cX12_movesBy 25 = .ok (.getfield 400, 3) := by decide +kernel
theorem dX12_movesBy_28 : decode cX12_movesBy 28 = .ok (.iaload, 1) := by decide +kernel
theorem dX12_movesBy_29 : decode cX12_movesBy 29 = .ok (.if_icmp .eq 5, 3) := by decide +kernel
theorem dX12_movesBy_32 : decode cX12_movesBy 32 = .ok (.iconst 0, 1) := by decide +kernel
theorem dX12_movesBy_33 : decode cX12_movesBy 33 = .ok (.ireturn, 1) := by decide +kernel
theorem dX12_movesBy_34 : decode cX12_movesBy 34 = .ok (.iconst 0, 1) := by decide +kernel
theorem dX12_movesBy_35 : decode cX12_movesBy 35 = .ok (.istore_n 1, 1) := by decide +kernel
theorem dX12_movesBy_36 : decode cX12_movesBy 36 = .ok (.iconst 0, 1) := by decide +kernel
theorem dX12_movesBy_37 : decode cX12_movesBy 37 = .ok (.istore_n 2, 1) := by decide +kernel
theorem dX12_movesBy_38 : decode cX12_movesBy 38 = .ok (.iload_n 2, 1) := by decide +kernel
theorem dX12_movesBy_39 : decode cX12_movesBy 39 = .ok (.aload_n 0, 1) := by decide +kernel
theorem dX12_movesBy_40 : decode cX12_movesBy 40 = .ok (.getfield 183, 3) := by decide +kernel
theorem dX12_movesBy_43 : decode cX12_movesBy 43 = .ok (.if_icmp .ge 88, 3) := by decide +kernel
theorem dX12_movesBy_46 : decode cX12_movesBy 46 = .ok (.aload_n 0, 1) := by decide +kernel
theorem dX12_movesBy_47 : decode cX12_movesBy 47 = .ok (.getfield 406, 3) := by decide +kernel
theorem dX12_movesBy_50 : decode cX12_movesBy 50 = .ok (.i2l, 1) := by decide +kernel
theorem dX12_movesBy_51 : decode cX12_movesBy 51 = .ok (.iload_n 2, 1) := by decide +kernel
theorem dX12_movesBy_52 : decode cX12_movesBy 52 = .ok (.invokestatic 162, 3) := by decide +kernel
theorem dX12_movesBy_55 : decode cX12_movesBy 55 = .ok (.ifCond .eq 70, 3) := by decide +kernel
theorem dX12_movesBy_58 : decode cX12_movesBy 58 = .ok (.aload_n 0, 1) := by decide +kernel
theorem dX12_movesBy_59 : decode cX12_movesBy 59 = .ok (.getfield 108, 3) := by decide +kernel
theorem dX12_movesBy_62 : decode cX12_movesBy 62 = .ok (.iload_n 2, 1) := by decide +kernel
theorem dX12_movesBy_63 : decode cX12_movesBy 63 = .ok (.aload_n 0, 1) := by decide +kernel
theorem dX12_movesBy_64 : decode cX12_movesBy 64 = .ok (.aload_n 0, 1) := by decide +kernel
theorem dX12_movesBy_65 : decode cX12_movesBy 65 = .ok (.getfield 32, 3) := by decide +kernel
theorem dX12_movesBy_68 : decode cX12_movesBy 68 = .ok (.iload_n 2, 1) := by decide +kernel
theorem dX12_movesBy_69 : decode cX12_movesBy 69 = .ok (.iaload, 1) := by decide +kernel
theorem dX12_movesBy_70 : decode cX12_movesBy 70 = .ok (.invokevirtual 415, 3) := by decide +kernel
theorem dX12_movesBy_73 : decode cX12_movesBy 73 = .ok (.iastore, 1) := by decide +kernel
theorem dX12_movesBy_74 : decode cX12_movesBy 74 = .ok (.aload_n 0, 1) := by decide +kernel
theorem dX12_movesBy_75 : decode cX12_movesBy 75 = .ok (.getfield 108, 3) := by decide +kernel
theorem dX12_movesBy_78 : decode cX12_movesBy 78 = .ok (.iload_n 2, 1) := by decide +kernel
theorem dX12_movesBy_79 : decode cX12_movesBy 79 = .ok (.iaload, 1) := by decide +kernel
theorem dX12_movesBy_80 : decode cX12_movesBy 80 = .ok (.ifCond .lt 20, 3) := by decide +kernel
theorem dX12_movesBy_83 : decode cX12_movesBy 83 = .ok (.aload_n 0, 1) := by decide +kernel
theorem dX12_movesBy_84 : decode cX12_movesBy 84 = .ok (.iload_n 2, 1) := by decide +kernel
theorem dX12_movesBy_85 : decode cX12_movesBy 85 = .ok (.invokevirtual 250, 3) := by decide +kernel
theorem dX12_movesBy_88 : decode cX12_movesBy 88 = .ok (.aload_n 0, 1) := by decide +kernel
theorem dX12_movesBy_89 : decode cX12_movesBy 89 = .ok (.getfield 108, 3) := by decide +kernel
theorem dX12_movesBy_92 : decode cX12_movesBy 92 = .ok (.iload_n 2, 1) := by decide +kernel
theorem dX12_movesBy_93 : decode cX12_movesBy 93 = .ok (.iaload, 1) := by decide +kernel
theorem dX12_movesBy_94 : decode cX12_movesBy 94 = .ok (.invokestatic 162, 3) := by decide +kernel
theorem dX12_movesBy_97 : decode cX12_movesBy 97 = .ok (.ifCond .ne 5, 3) := by decide +kernel
theorem dX12_movesBy_100 : decode cX12_movesBy 100 = .ok (.iconst 0, 1) := by decide +kernel
theorem dX12_movesBy_101 : decode cX12_movesBy 101 = .ok (.ireturn, 1) := by decide +kernel
theorem dX12_movesBy_102 : decode cX12_movesBy 102 = .ok (.iload_n 1, 1) := by decide +kernel
theorem dX12_movesBy_103 : decode cX12_movesBy 103 = .ok (.aload_n 0, 1) := by decide +kernel
theorem dX12_movesBy_104 : decode cX12_movesBy 104 = .ok (.getfield 108, 3) := by decide +kernel
theorem dX12_movesBy_107 : decode cX12_movesBy 107 = .ok (.iload_n 2, 1) := by decide +kernel
theorem dX12_movesBy_108 : decode cX12_movesBy 108 = .ok (.iaload, 1) := by decide +kernel
theorem dX12_movesBy_109 : decode cX12_movesBy 109 = .ok (.aload_n 0, 1) := by decide +kernel
theorem dX12_movesBy_110 : decode cX12_movesBy 110 = .ok (.getfield 32, 3) := by decide +kernel
theorem dX12_movesBy_113 : decode cX12_movesBy 113 = .ok (.iload_n 2, 1) := by decide +kernel
theorem dX12_movesBy_114 : decode cX12_movesBy 114 = .ok (.iaload, 1) := by decide +kernel
theorem dX12_movesBy_115 : decode cX12_movesBy 115 = .ok (.if_icmp .ne 7, 3) := by decide +kernel
theorem dX12_movesBy_118 : decode cX12_movesBy 118 = .ok (.iconst 0, 1) := by decide +kernel
theorem dX12_movesBy_119 : decode cX12_movesBy 119 = .ok (.goto 4, 3) := by decide +kernel
theorem dX12_movesBy_122 : decode cX12_movesBy 122 = .ok (.iconst 1, 1) := by decide +kernel
theorem dX12_movesBy_123 : decode cX12_movesBy 123 = .ok (.iadd, 1) := by decide +kernel
theorem dX12_movesBy_124 : decode cX12_movesBy 124 = .ok (.istore_n 1, 1) := by decide +kernel
theorem dX12_movesBy_125 : decode cX12_movesBy 125 = .ok (.iinc 2 1, 3) := by decide +kernel
theorem dX12_movesBy_128 : decode cX12_movesBy 128 = .ok (.goto (-90), 3) := by decide +kernel
theorem dX12_movesBy_131 : decode cX12_movesBy 131 = .ok (.iconst 0, 1) := by decide +kernel
theorem dX12_movesBy_132 : decode cX12_movesBy 132 = .ok (.istore_n 2, 1) := by decide +kernel
theorem dX12_movesBy_133 : decode cX12_movesBy 133 = .ok (.iload_n 2, 1) := by decide +kernel
theorem dX12_movesBy_134 : decode cX12_movesBy 134 = .ok (.aload_n 0, 1) := by decide +kernel
theorem dX12_movesBy_135 : decode cX12_movesBy 135 = .ok (.getfield 186, 3) := by decide +kernel
theorem dX12_movesBy_138 : decode cX12_movesBy 138 = .ok (.if_icmp .ge 100, 3) := by decide +kernel
theorem dX12_movesBy_141 : decode cX12_movesBy 141 = .ok (.aload_n 0, 1) := by decide +kernel
theorem dX12_movesBy_142 : decode cX12_movesBy 142 = .ok (.getfield 50, 3) := by decide +kernel
theorem dX12_movesBy_145 : decode cX12_movesBy 145 = .ok (.iload_n 2, 1) := by decide +kernel
theorem dX12_movesBy_146 : decode cX12_movesBy 146 = .ok (.baload, 1) := by decide +kernel
theorem dX12_movesBy_147 : decode cX12_movesBy 147 = .ok (.ifCond .eq 41, 3) := by decide +kernel
theorem dX12_movesBy_150 : decode cX12_movesBy 150 = .ok (.aload_n 0, 1) := by decide +kernel
theorem dX12_movesBy_151 : decode cX12_movesBy 151 = .ok (.getfield 406, 3) := by decide +kernel
theorem dX12_movesBy_154 : decode cX12_movesBy 154 = .ok (.i2l, 1) := by decide +kernel
theorem dX12_movesBy_155 : decode cX12_movesBy 155 = .ok (.aload_n 0, 1) := by decide +kernel
theorem dX12_movesBy_156 : decode cX12_movesBy 156 = .ok (.getfield 38, 3) := by decide +kernel
theorem dX12_movesBy_159 : decode cX12_movesBy 159 = .ok (.iload_n 2, 1) := by decide +kernel
theorem dX12_movesBy_160 : decode cX12_movesBy 160 = .ok (.iaload, 1) := by decide +kernel
theorem dX12_movesBy_161 : decode cX12_movesBy 161 = .ok (.invokestatic 162, 3) := by decide +kernel
theorem dX12_movesBy_164 : decode cX12_movesBy 164 = .ok (.ifCond .ne 20, 3) := by decide +kernel
theorem dX12_movesBy_167 : decode cX12_movesBy 167 = .ok (.aload_n 0, 1) := by decide +kernel
theorem dX12_movesBy_168 : decode cX12_movesBy 168 = .ok (.getfield 406, 3) := by decide +kernel
theorem dX12_movesBy_171 : decode cX12_movesBy 171 = .ok (.i2l, 1) := by decide +kernel
theorem dX12_movesBy_172 : decode cX12_movesBy 172 = .ok (.aload_n 0, 1) := by decide +kernel
theorem dX12_movesBy_173 : decode cX12_movesBy 173 = .ok (.getfield 41, 3) := by decide +kernel
theorem dX12_movesBy_176 : decode cX12_movesBy 176 = .ok (.iload_n 2, 1) := by decide +kernel
theorem dX12_movesBy_177 : decode cX12_movesBy 177 = .ok (.iaload, 1) := by decide +kernel
theorem dX12_movesBy_178 : decode cX12_movesBy 178 = .ok (.invokestatic 162, 3) := by decide +kernel
theorem dX12_movesBy_181 : decode cX12_movesBy 181 = .ok (.ifCond .eq 7, 3) := by decide +kernel
theorem dX12_movesBy_184 : decode cX12_movesBy 184 = .ok (.iconst 1, 1) := by decide +kernel
theorem dX12_movesBy_185 : decode cX12_movesBy 185 = .ok (.goto 4, 3) := by decide +kernel
theorem dX12_movesBy_188 : decode cX12_movesBy 188 = .ok (.iconst 0, 1) := by decide +kernel
theorem dX12_movesBy_189 : decode cX12_movesBy 189 = .ok (.istore_n 3, 1) := by decide +kernel
theorem dX12_movesBy_190 : decode cX12_movesBy 190 = .ok (.iload_n 3, 1) := by decide +kernel
theorem dX12_movesBy_191 : decode cX12_movesBy 191 = .ok (.ifCond .eq 41, 3) := by decide +kernel
theorem dX12_movesBy_194 : decode cX12_movesBy 194 = .ok (.aload_n 0, 1) := by decide +kernel
theorem dX12_movesBy_195 : decode cX12_movesBy 195 = .ok (.getfield 71, 3) := by decide +kernel
theorem dX12_movesBy_198 : decode cX12_movesBy 198 = .ok (.bipush 64, 2) := by decide +kernel
theorem dX12_movesBy_200 : decode cX12_movesBy 200 = .ok (.iload_n 2, 1) := by decide +kernel
theorem dX12_movesBy_201 : decode cX12_movesBy 201 = .ok (.imul, 1) := by decide +kernel
theorem dX12_movesBy_202 : decode cX12_movesBy 202 = .ok (.aload_n 0, 1) := by decide +kernel
theorem dX12_movesBy_203 : decode cX12_movesBy 203 = .ok (.aload_n 0, 1) := by decide +kernel
theorem dX12_movesBy_204 : decode cX12_movesBy 204 = .ok (.getfield 38, 3) := by decide +kernel
theorem dX12_movesBy_207 : decode cX12_movesBy 207 = .ok (.iload_n 2, 1) := by decide +kernel
theorem dX12_movesBy_208 : decode cX12_movesBy 208 = .ok (.iaload, 1) := by decide +kernel
theorem dX12_movesBy_209 : decode cX12_movesBy 209 = .ok (.invokevirtual 418, 3) := by decide +kernel
theorem dX12_movesBy_212 : decode cX12_movesBy 212 = .ok (.iadd, 1) := by decide +kernel
theorem dX12_movesBy_213 : decode cX12_movesBy 213 = .ok (.laload, 1) := by decide +kernel
theorem dX12_movesBy_214 : decode cX12_movesBy 214 = .ok (.aload_n 0, 1) := by decide +kernel
theorem dX12_movesBy_215 : decode cX12_movesBy 215 = .ok (.aload_n 0, 1) := by decide +kernel
theorem dX12_movesBy_216 : decode cX12_movesBy 216 = .ok (.getfield 41, 3) := by decide +kernel
theorem dX12_movesBy_219 : decode cX12_movesBy 219 = .ok (.iload_n 2, 1) := by decide +kernel
theorem dX12_movesBy_220 : decode cX12_movesBy 220 = .ok (.iaload, 1) := by decide +kernel
theorem dX12_movesBy_221 : decode cX12_movesBy 221 = .ok (.invokevirtual 418, 3) := by decide +kernel
theorem dX12_movesBy_224 : decode cX12_movesBy 224 = .ok (.invokestatic 162, 3) := by decide +kernel
theorem dX12_movesBy_227 : decode cX12_movesBy 227 = .ok (.ifCond .ne 5, 3) := by decide +kernel
theorem dX12_movesBy_230 : decode cX12_movesBy 230 = .ok (.iconst 0, 1) := by decide +kernel
theorem dX12_movesBy_231 : decode cX12_movesBy 231 = .ok (.ireturn, 1) := by decide +kernel
theorem dX12_movesBy_232 : decode cX12_movesBy 232 = .ok (.iinc 2 1, 3) := by decide +kernel
theorem dX12_movesBy_235 : decode cX12_movesBy 235 = .ok (.goto (-102), 3) := by decide +kernel
theorem dX12_movesBy_238 : decode cX12_movesBy 238 = .ok (.iconst 0, 1) := by decide +kernel
theorem dX12_movesBy_239 : decode cX12_movesBy 239 = .ok (.istore_n 2, 1) := by decide +kernel
theorem dX12_movesBy_240 : decode cX12_movesBy 240 = .ok (.iload_n 2, 1) := by decide +kernel
theorem dX12_movesBy_241 : decode cX12_movesBy 241 = .ok (.aload_n 0, 1) := by decide +kernel
theorem dX12_movesBy_242 : decode cX12_movesBy 242 = .ok (.getfield 183, 3) := by decide +kernel
theorem dX12_movesBy_245 : decode cX12_movesBy 245 = .ok (.if_icmp .ge 65, 3) := by decide +kernel
theorem dX12_movesBy_248 : decode cX12_movesBy 248 = .ok (.aload_n 0, 1) := by decide +kernel
theorem dX12_movesBy_249 : decode cX12_movesBy 249 = .ok (.getfield 207, 3) := by decide +kernel
theorem dX12_movesBy_252 : decode cX12_movesBy 252 = .ok (.ifCond .eq 58, 3) := by decide +kernel
theorem dX12_movesBy_255 : decode cX12_movesBy 255 = .ok (.iconst 0, 1) := by decide +kernel
theorem dX12_movesBy_256 : decode cX12_movesBy 256 = .ok (.istore_n 3, 1) := by decide +kernel
theorem dX12_movesBy_257 : decode cX12_movesBy 257 = .ok (.iload_n 3, 1) := by decide +kernel
theorem dX12_movesBy_258 : decode cX12_movesBy 258 = .ok (.aload_n 0, 1) := by decide +kernel
theorem dX12_movesBy_259 : decode cX12_movesBy 259 = .ok (.getfield 183, 3) := by decide +kernel
theorem dX12_movesBy_262 : decode cX12_movesBy 262 = .ok (.if_icmp .ge 42, 3) := by decide +kernel
theorem dX12_movesBy_265 : decode cX12_movesBy 265 = .ok (.iload_n 3, 1) := by decide +kernel
theorem dX12_movesBy_266 : decode cX12_movesBy 266 = .ok (.iload_n 2, 1) := by decide +kernel
theorem dX12_movesBy_267 : decode cX12_movesBy 267 = .ok (.if_icmp .eq 31, 3) := by decide +kernel
theorem dX12_movesBy_270 : decode cX12_movesBy 270 = .ok (.aload_n 0, 1) := by decide +kernel
theorem dX12_movesBy_271 : decode cX12_movesBy 271 = .ok (.getfield 406, 3) := by decide +kernel
theorem dX12_movesBy_274 : decode cX12_movesBy 274 = .ok (.i2l, 1) := by decide +kernel
theorem dX12_movesBy_275 : decode cX12_movesBy 275 = .ok (.iload_n 2, 1) := by decide +kernel
theorem dX12_movesBy_276 : decode cX12_movesBy 276 = .ok (.invokestatic 162, 3) := by decide +kernel
theorem dX12_movesBy_279 : decode cX12_movesBy 279 = .ok (.ifCond .eq 19, 3) := by decide +kernel
theorem dX12_movesBy_282 : decode cX12_movesBy 282 = .ok (.aload_n 0, 1) := by decide +kernel
theorem dX12_movesBy_283 : decode cX12_movesBy 283 = .ok (.iload_n 3, 1) := by decide +kernel
theorem dX12_movesBy_284 : decode cX12_movesBy 284 = .ok (.invokevirtual 418, 3) := by decide +kernel
theorem dX12_movesBy_287 : decode cX12_movesBy 287 = .ok (.aload_n 0, 1) := by decide +kernel
theorem dX12_movesBy_288 : decode cX12_movesBy 288 = .ok (.getfield 108, 3) := by decide +kernel
theorem dX12_movesBy_291 : decode cX12_movesBy 291 = .ok (.iload_n 2, 1) := by decide +kernel
theorem dX12_movesBy_292 : decode cX12_movesBy 292 = .ok (.iaload, 1) := by decide +kernel
theorem dX12_movesBy_293 : decode cX12_movesBy 293 = .ok (.if_icmp .ne 5, 3) := by decide +kernel
theorem dX12_movesBy_296 : decode cX12_movesBy 296 = .ok (.iconst 0, 1) := by decide +kernel
theorem dX12_movesBy_297 : decode cX12_movesBy 297 = .ok (.ireturn, 1) := by decide +kernel
theorem dX12_movesBy_298 : decode cX12_movesBy 298 = .ok (.iinc 3 1, 3) := by decide +kernel
theorem dX12_movesBy_301 : decode cX12_movesBy 301 = .ok (.goto (-44), 3) := by decide +kernel
theorem dX12_movesBy_304 : decode cX12_movesBy 304 = .ok (.iinc 2 1, 3) := by decide +kernel
theorem dX12_movesBy_307 : decode cX12_movesBy 307 = .ok (.goto (-67), 3) := by decide +kernel
theorem dX12_movesBy_310 : decode cX12_movesBy 310 = .ok (.iload_n 1, 1) := by decide +kernel
theorem dX12_movesBy_311 : decode cX12_movesBy 311 = .ok (.ireturn, 1) := by decide +kernel
theorem dX12_narrow_0 : decode cX12_narrow 0 = .ok (.aload_n 0, 1) := by decide +kernel
theorem dX12_narrow_1 : decode cX12_narrow 1 = .ok (.invokevirtual 311, 3) := by decide +kernel
theorem dX12_narrow_4 : decode cX12_narrow 4 = .ok (.iconst 0, 1) := by decide +kernel
theorem dX12_narrow_5 : decode cX12_narrow 5 = .ok (.istore_n 1, 1) := by decide +kernel
theorem dX12_narrow_6 : decode cX12_narrow 6 = .ok (.iload_n 1, 1) := by decide +kernel
theorem dX12_narrow_7 : decode cX12_narrow 7 = .ok (.aload_n 0, 1) := by decide +kernel
theorem dX12_narrow_8 : decode cX12_narrow 8 = .ok (.getfield 183, 3) := by decide +kernel
theorem dX12_narrow_11 : decode cX12_narrow 11 = .ok (.if_icmp .ge 20, 3) := by decide +kernel
theorem dX12_narrow_14 : decode cX12_narrow 14 = .ok (.aload_n 0, 1) := by decide +kernel
theorem dX12_narrow_15 : decode cX12_narrow 15 = .ok (.getfield 81, 3) := by decide +kernel
theorem dX12_narrow_18 : decode cX12_narrow 18 = .ok (.iload_n 1, 1) := by decide +kernel
theorem dX12_narrow_19 : decode cX12_narrow 19 = .ok (.aload_n 0, 1) := by decide +kernel
theorem dX12_narrow_20 : decode cX12_narrow 20 = .ok (.iload_n 1, 1) := by decide +kernel
theorem dX12_narrow_21 : decode cX12_narrow 21 = .ok (.invokevirtual 250, 3) := by decide +kernel
theorem dX12_narrow_24 : decode cX12_narrow 24 = .ok (.lastore, 1) := by decide +kernel
theorem dX12_narrow_25 : decode cX12_narrow 25 = .ok (.iinc 1 1, 3) := by decide +kernel
theorem dX12_narrow_28 : decode cX12_narrow 28 = .ok (.goto (-22), 3) := by decide +kernel
theorem dX12_narrow_31 : decode cX12_narrow 31 = .ok (.iconst 1, 1) := by decide +kernel
theorem dX12_narrow_32 : decode cX12_narrow 32 = .ok (.istore_n 1, 1) := by decide +kernel
theorem dX12_narrow_33 : decode cX12_narrow 33 = .ok (.iload_n 1, 1) := by decide +kernel
theorem dX12_narrow_34 : decode cX12_narrow 34 = .ok (.ifCond .eq 43, 3) := by decide +kernel
theorem dX12_narrow_37 : decode cX12_narrow 37 = .ok (.iconst 0, 1) := by decide +kernel
theorem dX12_narrow_38 : decode cX12_narrow 38 = .ok (.istore_n 1, 1) := by decide +kernel
theorem dX12_narrow_39 : decode cX12_narrow 39 = .ok (.iconst 0, 1) := by decide +kernel
theorem dX12_narrow_40 : decode cX12_narrow 40 = .ok (.istore_n 2, 1) := by decide +kernel
theorem dX12_narrow_41 : decode cX12_narrow 41 = .ok (.iload_n 2, 1) := by decide +kernel
theorem dX12_narrow_42 : decode cX12_narrow 42 = .ok (.aload_n 0, 1) := by decide +kernel
theorem dX12_narrow_43 : decode cX12_narrow 43 = .ok (.getfield 186, 3) := by decide +kernel
theorem dX12_narrow_46 : decode cX12_narrow 46 = .ok (.if_icmp .ge 28, 3) := by decide +kernel
theorem dX12_narrow_49 : decode cX12_narrow 49 = .ok (.aload_n 0, 1) := by decide +kernel
theorem dX12_narrow_50 : decode cX12_narrow 50 = .ok (.getfield 78, 3) := by decide +kernel
theorem dX12_narrow_53 : decode cX12_narrow 53 = .ok (.iload_n 2, 1) := by decide +kernel
theorem dX12_narrow_54 : decode cX12_narrow 54 = .ok (.baload, 1) := by decide +kernel
theorem dX12_narrow_55 : decode cX12_narrow 55 = .ok (.ifCond .eq 13, 3) := by decide +kernel
theorem dX12_narrow_58 : decode cX12_narrow 58 = .ok (.aload_n 0, 1) := by decide +kernel
theorem dX12_narrow_59 : decode cX12_narrow 59 = .ok (.iload_n 2, 1) := by decide +kernel
theorem dX12_narrow_60 : decode cX12_narrow 60 = .ok (.invokevirtual 314, 3) := by decide +kernel
theorem dX12_narrow_63 : decode cX12_narrow 63 = .ok (.ifCond .eq 5, 3) := by decide +kernel
theorem dX12_narrow_66 : decode cX12_narrow 66 = .ok (.iconst 1, 1) := by decide +kernel
theorem dX12_narrow_67 : decode cX12_narrow 67 = .ok (.istore_n 1, 1) := by decide +kernel
theorem dX12_narrow_68 : decode cX12_narrow 68 = .ok (.iinc 2 1, 3) := by decide +kernel
theorem dX12_narrow_71 : decode cX12_narrow 71 = .ok (.goto (-30), 3) := by decide +kernel
theorem dX12_narrow_74 : decode cX12_narrow 74 = .ok (.goto (-41), 3) := by decide +kernel
theorem dX12_narrow_77 : decode cX12_narrow 77 = .ok (.iconst 0, 1) := by decide +kernel
theorem dX12_narrow_78 : decode cX12_narrow 78 = .ok (.istore_n 2, 1) := by decide +kernel
theorem dX12_narrow_79 : decode cX12_narrow 79 = .ok (.iconst 0, 1) := by decide +kernel
theorem dX12_narrow_80 : decode cX12_narrow 80 = .ok (.istore_n 3, 1) := by decide +kernel
theorem dX12_narrow_81 : decode cX12_narrow 81 = .ok (.iload_n 3, 1) := by decide +kernel
theorem dX12_narrow_82 : decode cX12_narrow 82 = .ok (.aload_n 0, 1) := by decide +kernel
theorem dX12_narrow_83 : decode cX12_narrow 83 = .ok (.getfield 183, 3) := by decide +kernel
theorem dX12_narrow_86 : decode cX12_narrow 86 = .ok (.if_icmp .ge 30, 3) := by decide +kernel
theorem dX12_narrow_89 : decode cX12_narrow 89 = .ok (.iload_n 2, 1) := by decide +kernel
theorem dX12_narrow_90 : decode cX12_narrow 90 = .ok (.ifCond .ne 14, 3) := by decide +kernel
theorem dX12_narrow_93 : decode cX12_narrow 93 = .ok (.aload_n 0, 1) := by decide +kernel
theorem dX12_narrow_94 : decode cX12_narrow 94 = .ok (.getfield 81, 3) := by decide +kernel
theorem dX12_narrow_97 : decode cX12_narrow 97 = .ok (.iload_n 3, 1) := by decide +kernel
theorem dX12_narrow_98 : decode cX12_narrow 98 = .ok (.laload, 1) := by decide +kernel
theorem dX12_narrow_99 : decode cX12_narrow 99 = .ok (.lconst 0, 1) := by decide +kernel
theorem dX12_narrow_100 : decode cX12_narrow 100 = .ok (.lcmp, 1) := by decide +kernel
theorem dX12_narrow_101 : decode cX12_narrow 101 = .ok (.ifCond .ne 7, 3) := by decide +kernel
theorem dX12_narrow_104 : decode cX12_narrow 104 = .ok (.iconst 1, 1) := by decide +kernel
theorem dX12_narrow_105 : decode cX12_narrow 105 = .ok (.goto 4, 3) := by decide +kernel
theorem dX12_narrow_108 : decode cX12_narrow 108 = .ok (.iconst 0, 1) := by decide +kernel
theorem dX12_narrow_109 : decode cX12_narrow 109 = .ok (.istore_n 2, 1) := by decide +kernel
theorem dX12_narrow_110 : decode cX12_narrow 110 = .ok (.iinc 3 1, 3) := by decide +kernel
theorem dX12_narrow_113 : decode cX12_narrow 113 = .ok (.goto (-32), 3) := by decide +kernel
theorem dX12_narrow_116 : decode cX12_narrow 116 = .ok (.iload_n 2, 1) := by decide +kernel
theorem dX12_narrow_117 : decode cX12_narrow 117 = .ok (.ireturn, 1) := by decide +kernel
theorem dX12_narrowOne_0 : decode cX12_narrowOne 0 = .ok (.aload_n 0, 1) := by decide +kernel
theorem dX12_narrowOne_1 : decode cX12_narrowOne 1 = .ok (.getfield 81, 3) := by decide +kernel
theorem dX12_narrowOne_4 : decode cX12_narrowOne 4 = .ok (.aload_n 0, 1) := by decide +kernel
theorem dX12_narrowOne_5 : decode cX12_narrowOne 5 = .ok (.getfield 38, 3) := by decide +kernel
theorem dX12_narrowOne_8 : decode cX12_narrowOne 8 = .ok (.iload_n 1, 1) := by decide +kernel
theorem dX12_narrowOne_9 : decode cX12_narrowOne 9 = .ok (.iaload, 1) := by decide +kernel
theorem dX12_narrowOne_10 : decode cX12_narrowOne 10 = .ok (.laload, 1) := by decide +kernel
theorem dX12_narrowOne_11 : decode cX12_narrowOne 11 = .ok (.lstore_n 2, 1) := by decide +kernel
theorem dX12_narrowOne_12 : decode cX12_narrowOne 12 = .ok (.aload_n 0, 1) := by decide +kernel
theorem dX12_narrowOne_13 : decode cX12_narrowOne 13 = .ok (.getfield 81, 3) := by decide +kernel
theorem dX12_narrowOne_16 : decode cX12_narrowOne 16 = .ok (.aload_n 0, 1) := by decide +kernel
theorem dX12_narrowOne_17 : decode cX12_narrowOne 17 = .ok (.getfield 41, 3) := by decide +kernel
theorem dX12_narrowOne_20 : decode cX12_narrowOne 20 = .ok (.iload_n 1, 1) := by decide +kernel
theorem dX12_narrowOne_21 : decode cX12_narrowOne 21 = .ok (.iaload, 1) := by decide +kernel
theorem dX12_narrowOne_22 : decode cX12_narrowOne 22 = .ok (.laload, 1) := by decide +kernel
theorem dX12_narrowOne_23 : decode cX12_narrowOne 23 = .ok (.lstore 4, 2) := by decide +kernel
theorem dX12_narrowOne_25 : decode cX12_narrowOne 25 = .ok (.lconst 0, 1) := by decide +kernel
theorem dX12_narrowOne_26 : decode cX12_narrowOne 26 = .ok (.lstore 6, 2) := by decide +kernel
theorem dX12_narrowOne_28 : decode cX12_narrowOne 28 = .ok (.lconst 0, 1) := by decide +kernel
theorem dX12_narrowOne_29 : decode cX12_narrowOne 29 = .ok (.lstore 8, 2) := by decide +kernel
theorem dX12_narrowOne_31 : decode cX12_narrowOne 31 = .ok (.iconst 0, 1) := by decide +kernel
theorem dX12_narrowOne_32 : decode cX12_narrowOne 32 = .ok (.istore 10, 2) := by decide +kernel
theorem dX12_narrowOne_34 : decode cX12_narrowOne 34 = .ok (.iload 10, 2) := by decide +kernel
theorem dX12_narrowOne_36 : decode cX12_narrowOne 36 = .ok (.bipush 64, 2) := by decide +kernel
theorem dX12_narrowOne_38 : decode cX12_narrowOne 38 = .ok (.if_icmp .ge 93, 3) := by decide +kernel
theorem dX12_narrowOne_41 : decode cX12_narrowOne 41 = .ok (.lload 6, 2) := by decide +kernel
theorem dX12_narrowOne_43 : decode cX12_narrowOne 43 = .ok (.lload_n 2, 1) := by decide +kernel
theorem dX12_narrowOne_44 : decode cX12_narrowOne 44 = .ok (.iload 10, 2) := by decide +kernel
theorem dX12_narrowOne_46 : decode cX12_narrowOne 46 = .ok (.invokestatic 162, 3) := by decide +kernel
theorem dX12_narrowOne_49 : decode cX12_narrowOne 49 = .ok (.ifCond .eq 30, 3) := by decide +kernel
theorem dX12_narrowOne_52 : decode cX12_narrowOne 52 = .ok (.aload_n 0, 1) := by decide +kernel
theorem dX12_narrowOne_53 : decode cX12_narrowOne 53 = .ok (.getfield 71, 3) := by decide +kernel
theorem dX12_narrowOne_56 : decode cX12_narrowOne 56 = .ok (.bipush 64, 2) := by decide +kernel
theorem dX12_narrowOne_58 : decode cX12_narrowOne 58 = .ok (.iload_n 1, 1) := by decide +kernel
theorem dX12_narrowOne_59 : decode cX12_narrowOne 59 = .ok (.imul, 1) := by decide +kernel
theorem dX12_narrowOne_60 : decode cX12_narrowOne 60 = .ok (.iload 10, 2) := by decide +kernel
theorem dX12_narrowOne_62 : decode cX12_narrowOne 62 = .ok (.iadd, 1) := by decide +kernel
theorem dX12_narrowOne_63 : decode cX12_narrowOne 63 = .ok (.laload, 1) := by decide +kernel
theorem dX12_narrowOne_64 : decode cX12_narrowOne 64 = .ok (.lload 4, 2) := by decide +kernel
theorem dX12_narrowOne_66 : decode cX12_narrowOne 66 = .ok (.land, 1) := by decide +kernel
theorem dX12_narrowOne_67 : decode cX12_narrowOne 67 = .ok (.lconst 0, 1) := by decide +kernel
theorem dX12_narrowOne_68 : decode cX12_narrowOne 68 = .ok (.lcmp, 1) := by decide +kernel
theorem dX12_narrowOne_69 : decode cX12_narrowOne 69 = .ok (.ifCond .eq 10, 3) := by decide +kernel
theorem dX12_narrowOne_72 : decode cX12_narrowOne 72 = .ok (.lconst 1, 1) := by decide +kernel
theorem dX12_narrowOne_73 : decode cX12_narrowOne 73 = .ok (.iload 10, 2) := by decide +kernel
theorem dX12_narrowOne_75 : decode cX12_narrowOne 75 = .ok (.lshl, 1) := by decide +kernel
theorem dX12_narrowOne_76 : decode cX12_narrowOne 76 = .ok (.goto 4, 3) := by decide +kernel
theorem dX12_narrowOne_79 : decode cX12_narrowOne 79 = .ok (.lconst 0, 1) := by decide +kernel
theorem dX12_narrowOne_80 : decode cX12_narrowOne 80 = .ok (.lor, 1) := by decide +kernel
theorem dX12_narrowOne_81 : decode cX12_narrowOne 81 = .ok (.lstore 6, 2) := by decide +kernel
theorem dX12_narrowOne_83 : decode cX12_narrowOne 83 = .ok (.lload 8, 2) := by decide +kernel
theorem dX12_narrowOne_85 : decode cX12_narrowOne 85 = .ok (.lload 4, 2) := by decide +kernel
theorem dX12_narrowOne_87 : decode cX12_narrowOne 87 = .ok (.iload 10, 2) := by decide +kernel
theorem dX12_narrowOne_89 : decode cX12_narrowOne 89 = .ok (.invokestatic 162, 3) := by decide +kernel
theorem dX12_narrowOne_92 : decode cX12_narrowOne 92 = .ok (.ifCond .eq 29, 3) := by decide +kernel
theorem dX12_narrowOne_95 : decode cX12_narrowOne 95 = .ok (.aload_n 0, 1) := by decide +kernel
theorem dX12_narrowOne_96 : decode cX12_narrowOne 96 = .ok (.getfield 75, 3) := by decide +kernel
theorem dX12_narrowOne_99 : decode cX12_narrowOne 99 = .ok (.bipush 64, 2) := by decide +kernel
theorem dX12_narrowOne_101 : decode cX12_narrowOne 101 = .ok (.iload_n 1, 1) := by decide +kernel
theorem dX12_narrowOne_102 : decode cX12_narrowOne 102 = .ok (.imul, 1) := by decide +kernel
theorem dX12_narrowOne_103 : decode cX12_narrowOne 103 = .ok (.iload 10, 2) := by decide +kernel
theorem dX12_narrowOne_105 : decode cX12_narrowOne 105 = .ok (.iadd, 1) := by decide +kernel
theorem dX12_narrowOne_106 : decode cX12_narrowOne 106 = .ok (.laload, 1) := by decide +kernel
theorem dX12_narrowOne_107 : decode cX12_narrowOne 107 = .ok (.lload_n 2, 1) := by decide +kernel
theorem dX12_narrowOne_108 : decode cX12_narrowOne 108 = .ok (.land, 1) := by decide +kernel
theorem dX12_narrowOne_109 : decode cX12_narrowOne 109 = .ok (.lconst 0, 1) := by decide +kernel
theorem dX12_narrowOne_110 : decode cX12_narrowOne 110 = .ok (.lcmp, 1) := by decide +kernel
theorem dX12_narrowOne_111 : decode cX12_narrowOne 111 = .ok (.ifCond .eq 10, 3) := by decide +kernel
theorem dX12_narrowOne_114 : decode cX12_narrowOne 114 = .ok (.lconst 1, 1) := by decide +kernel
theorem dX12_narrowOne_115 : decode cX12_narrowOne 115 = .ok (.iload 10, 2) := by decide +kernel
theorem dX12_narrowOne_117 : decode cX12_narrowOne 117 = .ok (.lshl, 1) := by decide +kernel
theorem dX12_narrowOne_118 : decode cX12_narrowOne 118 = .ok (.goto 4, 3) := by decide +kernel
theorem dX12_narrowOne_121 : decode cX12_narrowOne 121 = .ok (.lconst 0, 1) := by decide +kernel
theorem dX12_narrowOne_122 : decode cX12_narrowOne 122 = .ok (.lor, 1) := by decide +kernel
theorem dX12_narrowOne_123 : decode cX12_narrowOne 123 = .ok (.lstore 8, 2) := by decide +kernel
theorem dX12_narrowOne_125 : decode cX12_narrowOne 125 = .ok (.iinc 10 1, 3) := by decide +kernel
theorem dX12_narrowOne_128 : decode cX12_narrowOne 128 = .ok (.goto (-94), 3) := by decide +kernel
theorem dX12_narrowOne_131 : decode cX12_narrowOne 131 = .ok (.aload_n 0, 1) := by decide +kernel
theorem dX12_narrowOne_132 : decode cX12_narrowOne 132 = .ok (.getfield 81, 3) := by decide +kernel
theorem dX12_narrowOne_135 : decode cX12_narrowOne 135 = .ok (.aload_n 0, 1) := by decide +kernel
theorem dX12_narrowOne_136 : decode cX12_narrowOne 136 = .ok (.getfield 38, 3) := by decide +kernel
theorem dX12_narrowOne_139 : decode cX12_narrowOne 139 = .ok (.iload_n 1, 1) := by decide +kernel
theorem dX12_narrowOne_140 : decode cX12_narrowOne 140 = .ok (.iaload, 1) := by decide +kernel
theorem dX12_narrowOne_141 : decode cX12_narrowOne 141 = .ok (.lload 6, 2) := by decide +kernel
theorem dX12_narrowOne_143 : decode cX12_narrowOne 143 = .ok (.lastore, 1) := by decide +kernel
theorem dX12_narrowOne_144 : decode cX12_narrowOne 144 = .ok (.aload_n 0, 1) := by decide +kernel
theorem dX12_narrowOne_145 : decode cX12_narrowOne 145 = .ok (.getfield 81, 3) := by decide +kernel
theorem dX12_narrowOne_148 : decode cX12_narrowOne 148 = .ok (.aload_n 0, 1) := by decide +kernel
theorem dX12_narrowOne_149 : decode cX12_narrowOne 149 = .ok (.getfield 41, 3) := by decide +kernel
theorem dX12_narrowOne_152 : decode cX12_narrowOne 152 = .ok (.iload_n 1, 1) := by decide +kernel
theorem dX12_narrowOne_153 : decode cX12_narrowOne 153 = .ok (.iaload, 1) := by decide +kernel
theorem dX12_narrowOne_154 : decode cX12_narrowOne 154 = .ok (.lload 8, 2) := by decide +kernel
theorem dX12_narrowOne_156 : decode cX12_narrowOne 156 = .ok (.lastore, 1) := by decide +kernel
theorem dX12_narrowOne_157 : decode cX12_narrowOne 157 = .ok (.lload_n 2, 1) := by decide +kernel
theorem dX12_narrowOne_158 : decode cX12_narrowOne 158 = .ok (.lload 6, 2) := by decide +kernel
theorem dX12_narrowOne_160 : decode cX12_narrowOne 160 = .ok (.invokestatic 307, 3) := by decide +kernel
theorem dX12_narrowOne_163 : decode cX12_narrowOne 163 = .ok (.ifCond .ne 13, 3) := by decide +kernel
theorem dX12_narrowOne_166 : decode cX12_narrowOne 166 = .ok (.lload 4, 2) := by decide +kernel
theorem dX12_narrowOne_168 : decode cX12_narrowOne 168 = .ok (.lload 8, 2) := by decide +kernel
theorem dX12_narrowOne_170 : decode cX12_narrowOne 170 = .ok (.invokestatic 307, 3) := by decide +kernel
theorem dX12_narrowOne_173 : decode cX12_narrowOne 173 = .ok (.ifCond .eq 7, 3) := by decide +kernel
theorem dX12_narrowOne_176 : decode cX12_narrowOne 176 = .ok (.iconst 1, 1) := by decide +kernel
theorem dX12_narrowOne_177 : decode cX12_narrowOne 177 = .ok (.goto 4, 3) := by decide +kernel
theorem dX12_narrowOne_180 : decode cX12_narrowOne 180 = .ok (.iconst 0, 1) := by decide +kernel
theorem dX12_narrowOne_181 : decode cX12_narrowOne 181 = .ok (.ireturn, 1) := by decide +kernel
theorem dX12_noCell_0 : decode cX12_noCell 0 = .ok (.aload_n 0, 1) := by decide +kernel
theorem dX12_noCell_1 : decode cX12_noCell 1 = .ok (.getfield 141, 3) := by decide +kernel
theorem dX12_noCell_4 : decode cX12_noCell 4 = .ok (.iload_n 1, 1) := by decide +kernel
theorem dX12_noCell_5 : decode cX12_noCell 5 = .ok (.iaload, 1) := by decide +kernel
theorem dX12_noCell_6 : decode cX12_noCell 6 = .ok (.ifCond .ge 7, 3) := by decide +kernel
theorem dX12_noCell_9 : decode cX12_noCell 9 = .ok (.iconst 1, 1) := by decide +kernel
theorem dX12_noCell_10 : decode cX12_noCell 10 = .ok (.goto 26, 3) := by decide +kernel
theorem dX12_noCell_13 : decode cX12_noCell 13 = .ok (.iload_n 2, 1) := by decide +kernel
theorem dX12_noCell_14 : decode cX12_noCell 14 = .ok (.i2l, 1) := by decide +kernel
theorem dX12_noCell_15 : decode cX12_noCell 15 = .ok (.lconst 0, 1) := by decide +kernel
theorem dX12_noCell_16 : decode cX12_noCell 16 = .ok (.aload_n 0, 1) := by decide +kernel
theorem dX12_noCell_17 : decode cX12_noCell 17 = .ok (.getfield 141, 3) := by decide +kernel
theorem dX12_noCell_20 : decode cX12_noCell 20 = .ok (.iload_n 1, 1) := by decide +kernel
theorem dX12_noCell_21 : decode cX12_noCell 21 = .ok (.iaload, 1) := by decide +kernel
theorem dX12_noCell_22 : decode cX12_noCell 22 = .ok (.i2l, 1) := by decide +kernel
theorem dX12_noCell_23 : decode cX12_noCell 23 = .ok (.lconst 1, 1) := by decide +kernel
theorem dX12_noCell_24 : decode cX12_noCell 24 = .ok (.lsub, 1) := by decide +kernel
theorem dX12_noCell_25 : decode cX12_noCell 25 = .ok (.invokestatic 175, 3) := by decide +kernel
theorem dX12_noCell_28 : decode cX12_noCell 28 = .ok (.ifCond .eq 7, 3) := by decide +kernel
theorem dX12_noCell_31 : decode cX12_noCell 31 = .ok (.iconst 0, 1) := by decide +kernel
theorem dX12_noCell_32 : decode cX12_noCell 32 = .ok (.goto 4, 3) := by decide +kernel
theorem dX12_noCell_35 : decode cX12_noCell 35 = .ok (.iconst 3, 1) := by decide +kernel
theorem dX12_noCell_36 : decode cX12_noCell 36 = .ok (.ireturn, 1) := by decide +kernel
theorem dX12_noHold_0 : decode cX12_noHold 0 = .ok (.iload_n 0, 1) := by decide +kernel
theorem dX12_noHold_1 : decode cX12_noHold 1 = .ok (.i2l, 1) := by decide +kernel
theorem dX12_noHold_2 : decode cX12_noHold 2 = .ok (.lconst 0, 1) := by decide +kernel
theorem dX12_noHold_3 : decode cX12_noHold 3 = .ok (.ldc2_w 248, 3) := by decide +kernel
theorem dX12_noHold_6 : decode cX12_noHold 6 = .ok (.invokestatic 175, 3) := by decide +kernel
theorem dX12_noHold_9 : decode cX12_noHold 9 = .ok (.ifCond .ne 7, 3) := by decide +kernel
theorem dX12_noHold_12 : decode cX12_noHold 12 = .ok (.iconst 1, 1) := by decide +kernel
theorem dX12_noHold_13 : decode cX12_noHold 13 = .ok (.goto 4, 3) := by decide +kernel
theorem dX12_noHold_16 : decode cX12_noHold 16 = .ok (.iconst 0, 1) := by decide +kernel
theorem dX12_noHold_17 : decode cX12_noHold 17 = .ok (.ireturn, 1) := by decide +kernel
theorem dX12_noMeasure_0 : decode cX12_noMeasure 0 = .ok (.iload_n 1, 1) := by decide +kernel
theorem dX12_noMeasure_1 : decode cX12_noMeasure 1 = .ok (.i2l, 1) := by decide +kernel
theorem dX12_noMeasure_2 : decode cX12_noMeasure 2 = .ok (.lconst 0, 1) := by decide +kernel
theorem dX12_noMeasure_3 : decode cX12_noMeasure 3 = .ok (.aload_n 0, 1) := by decide +kernel
theorem dX12_noMeasure_4 : decode cX12_noMeasure 4 = .ok (.getfield 186, 3) := by decide +kernel
theorem dX12_noMeasure_7 : decode cX12_noMeasure 7 = .ok (.i2l, 1) := by decide +kernel
theorem dX12_noMeasure_8 : decode cX12_noMeasure 8 = .ok (.lconst 1, 1) := by decide +kernel
theorem dX12_noMeasure_9 : decode cX12_noMeasure 9 = .ok (.lsub, 1) := by decide +kernel
theorem dX12_noMeasure_10 : decode cX12_noMeasure 10 = .ok (.invokestatic 175, 3) := by decide +kernel
theorem dX12_noMeasure_13 : decode cX12_noMeasure 13 = .ok (.ifCond .ne 7, 3) := by decide +kernel
theorem dX12_noMeasure_16 : decode cX12_noMeasure 16 = .ok (.iconst 1, 1) := by decide +kernel
theorem dX12_noMeasure_17 : decode cX12_noMeasure 17 = .ok (.goto 4, 3) := by decide +kernel
theorem dX12_noMeasure_20 : decode cX12_noMeasure 20 = .ok (.iconst 0, 1) := by decide +kernel
theorem dX12_noMeasure_21 : decode cX12_noMeasure 21 = .ok (.ireturn, 1) := by decide +kernel
theorem dX12_noSheet_0 : decode cX12_noSheet 0 = .ok (.iload_n 0, 1) := by decide +kernel
theorem dX12_noSheet_1 : decode cX12_noSheet 1 = .ok (.i2l, 1) := by decide +kernel
theorem dX12_noSheet_2 : decode cX12_noSheet 2 = .ok (.lconst 0, 1) := by decide +kernel
theorem dX12_noSheet_3 : decode cX12_noSheet 3 = .ok (.ldc2_w 226, 3) := by decide +kernel
theorem dX12_noSheet_6 : decode cX12_noSheet 6 = .ok (.invokestatic 175, 3) := by decide +kernel
theorem dX12_noSheet_9 : decode cX12_noSheet 9 = .ok (.ifCond .ne 7, 3) := by decide +kernel
theorem dX12_noSheet_12 : decode cX12_noSheet 12 = .ok (.iconst 1, 1) := by decide +kernel
theorem dX12_noSheet_13 : decode cX12_noSheet 13 = .ok (.goto 4, 3) := by decide +kernel
theorem dX12_noSheet_16 : decode cX12_noSheet 16 = .ok (.iconst 0, 1) := by decide +kernel
theorem dX12_noSheet_17 : decode cX12_noSheet 17 = .ok (.ireturn, 1) := by decide +kernel
theorem dX12_noThing_0 : decode cX12_noThing 0 = .ok (.iload_n 1, 1) := by decide +kernel
theorem dX12_noThing_1 : decode cX12_noThing 1 = .ok (.i2l, 1) := by decide +kernel
theorem dX12_noThing_2 : decode cX12_noThing 2 = .ok (.lconst 0, 1) := by decide +kernel
theorem dX12_noThing_3 : decode cX12_noThing 3 = .ok (.aload_n 0, 1) := by decide +kernel
theorem dX12_noThing_4 : decode cX12_noThing 4 = .ok (.getfield 183, 3) := by decide +kernel
theorem dX12_noThing_7 : decode cX12_noThing 7 = .ok (.i2l, 1) := by decide +kernel
theorem dX12_noThing_8 : decode cX12_noThing 8 = .ok (.lconst 1, 1) := by decide +kernel
theorem dX12_noThing_9 : decode cX12_noThing 9 = .ok (.lsub, 1) := by decide +kernel
theorem dX12_noThing_10 : decode cX12_noThing 10 = .ok (.invokestatic 175, 3) := by decide +kernel
theorem dX12_noThing_13 : decode cX12_noThing 13 = .ok (.ifCond .ne 7, 3) := by decide +kernel
theorem dX12_noThing_16 : decode cX12_noThing 16 = .ok (.iconst 1, 1) := by decide +kernel
theorem dX12_noThing_17 : decode cX12_noThing 17 = .ok (.goto 4, 3) := by decide +kernel
theorem dX12_noThing_20 : decode cX12_noThing 20 = .ok (.iconst 0, 1) := by decide +kernel
theorem dX12_noThing_21 : decode cX12_noThing 21 = .ok (.ireturn, 1) := by decide +kernel
theorem dX12_noTick_0 : decode cX12_noTick 0 = .ok (.iload_n 1, 1) := by decide +kernel
theorem dX12_noTick_1 : decode cX12_noTick 1 = .ok (.i2l, 1) := by decide +kernel
theorem dX12_noTick_2 : decode cX12_noTick 2 = .ok (.lconst 0, 1) := by decide +kernel
theorem dX12_noTick_3 : decode cX12_noTick 3 = .ok (.aload_n 0, 1) := by decide +kernel
theorem dX12_noTick_4 : decode cX12_noTick 4 = .ok (.getfield 204, 3) := by decide +kernel
theorem dX12_noTick_7 : decode cX12_noTick 7 = .ok (.i2l, 1) := by decide +kernel
theorem dX12_noTick_8 : decode cX12_noTick 8 = .ok (.lconst 1, 1) := by decide +kernel
theorem dX12_noTick_9 : decode cX12_noTick 9 = .ok (.lsub, 1) := by decide +kernel
theorem dX12_noTick_10 : decode cX12_noTick 10 = .ok (.invokestatic 175, 3) := by decide +kernel
theorem dX12_noTick_13 : decode cX12_noTick 13 = .ok (.ifCond .eq 21, 3) := by decide +kernel
theorem dX12_noTick_16 : decode cX12_noTick 16 = .ok (.iload_n 2, 1) := by decide +kernel
theorem dX12_noTick_17 : decode cX12_noTick 17 = .ok (.i2l, 1) := by decide +kernel
theorem dX12_noTick_18 : decode cX12_noTick 18 = .ok (.lconst 0, 1) := by decide +kernel
theorem dX12_noTick_19 : decode cX12_noTick 19 = .ok (.aload_n 0, 1) := by decide +kernel
theorem dX12_noTick_20 : decode cX12_noTick 20 = .ok (.getfield 56, 3) := by decide +kernel
theorem dX12_noTick_23 : decode cX12_noTick 23 = .ok (.iload_n 1, 1) := by decide +kernel
theorem dX12_noTick_24 : decode cX12_noTick 24 = .ok (.iaload, 1) := by decide +kernel
theorem dX12_noTick_25 : decode cX12_noTick 25 = .ok (.i2l, 1) := by decide +kernel
theorem dX12_noTick_26 : decode cX12_noTick 26 = .ok (.lconst 1, 1) := by decide +kernel
theorem dX12_noTick_27 : decode cX12_noTick 27 = .ok (.lsub, 1) := by decide +kernel
theorem dX12_noTick_28 : decode cX12_noTick 28 = .ok (.invokestatic 175, 3) := by decide +kernel
theorem dX12_noTick_31 : decode cX12_noTick 31 = .ok (.ifCond .ne 7, 3) := by decide +kernel
theorem dX12_noTick_34 : decode cX12_noTick 34 = .ok (.iconst 1, 1) := by decide +kernel
theorem dX12_noTick_35 : decode cX12_noTick 35 = .ok (.goto 4, 3) := by decide +kernel
theorem dX12_noTick_38 : decode cX12_noTick 38 = .ok (.iconst 0, 1) := by decide +kernel
theorem dX12_noTick_39 : decode cX12_noTick 39 = .ok (.ireturn, 1) := by decide +kernel
theorem dX12_nth_0 : decode cX12_nth 0 = .ok (.aload_n 0, 1) := by decide +kernel
theorem dX12_nth_1 : decode cX12_nth 1 = .ok (.iload_n 1, 1) := by decide +kernel
theorem dX12_nth_2 : decode cX12_nth 2 = .ok (.invokevirtual 245, 3) := by decide +kernel
theorem dX12_nth_5 : decode cX12_nth 5 = .ok (.ifCond .ne 7, 3) := by decide +kernel
theorem dX12_nth_8 : decode cX12_nth 8 = .ok (.iload_n 2, 1) := by decide +kernel
theorem dX12_nth_9 : decode cX12_nth 9 = .ok (.ifCond .ge 5, 3) := by decide +kernel
theorem dX12_nth_12 : decode cX12_nth 12 = .ok (.iconst (-1), 1) := by decide +kernel
theorem dX12_nth_13 : decode cX12_nth 13 = .ok (.ireturn, 1) := by decide +kernel
theorem dX12_nth_14 : decode cX12_nth 14 = .ok (.aload_n 0, 1) := by decide +kernel
theorem dX12_nth_15 : decode cX12_nth 15 = .ok (.iload_n 1, 1) := by decide +kernel
theorem dX12_nth_16 : decode cX12_nth 16 = .ok (.iload_n 2, 1) := by decide +kernel
theorem dX12_nth_17 : decode cX12_nth 17 = .ok (.invokevirtual 378, 3) := by decide +kernel
theorem dX12_nth_20 : decode cX12_nth 20 = .ok (.ifCond .ne 6, 3) := by decide +kernel
theorem dX12_nth_23 : decode cX12_nth 23 = .ok (.bipush (-6), 2) := by decide +kernel
theorem dX12_nth_25 : decode cX12_nth 25 = .ok (.ireturn, 1) := by decide +kernel
theorem dX12_nth_26 : decode cX12_nth 26 = .ok (.iload_n 2, 1) := by decide +kernel
theorem dX12_nth_27 : decode cX12_nth 27 = .ok (.aload_n 0, 1) := by decide +kernel
theorem dX12_nth_28 : decode cX12_nth 28 = .ok (.getfield 341, 3) := by decide +kernel
theorem dX12_nth_31 : decode cX12_nth 31 = .ok (.if_icmp .ge 16, 3) := by decide +kernel
theorem dX12_nth_34 : decode cX12_nth 34 = .ok (.aload_n 0, 1) := by decide +kernel
theorem dX12_nth_35 : decode cX12_nth 35 = .ok (.getfield 105, 3) := by decide +kernel
theorem dX12_nth_38 : decode cX12_nth 38 = .ok (.aload_n 0, 1) := by decide +kernel
theorem dX12_nth_39 : decode cX12_nth 39 = .ok (.iload_n 1, 1) := by decide +kernel
theorem dX12_nth_40 : decode cX12_nth 40 = .ok (.invokevirtual 385, 3) := by decide +kernel
theorem dX12_nth_43 : decode cX12_nth 43 = .ok (.iaload, 1) := by decide +kernel
theorem dX12_nth_44 : decode cX12_nth 44 = .ok (.goto 4, 3) := by decide +kernel
theorem dX12_nth_47 : decode cX12_nth 47 = .ok (.iconst (-1), 1) := by decide +kernel
theorem dX12_nth_48 : decode cX12_nth 48 = .ok (.ireturn, 1) := by decide +kernel
theorem dX12_onOf_0 : decode cX12_onOf 0 = .ok (.iconst 0, 1) := by decide +kernel
theorem dX12_onOf_1 : decode cX12_onOf 1 = .ok (.istore_n 2, 1) := by decide +kernel
theorem dX12_onOf_2 : decode cX12_onOf 2 = .ok (.iconst 0, 1) := by decide +kernel
theorem dX12_onOf_3 : decode cX12_onOf 3 = .ok (.istore_n 3, 1) := by decide +kernel
theorem dX12_onOf_4 : decode cX12_onOf 4 = .ok (.iload_n 3, 1) := by decide +kernel
theorem dX12_onOf_5 : decode cX12_onOf 5 = .ok (.aload_n 0, 1) := by decide +kernel
theorem dX12_onOf_6 : decode cX12_onOf 6 = .ok (.getfield 186, 3) := by decide +kernel
theorem dX12_onOf_9 : decode cX12_onOf 9 = .ok (.if_icmp .ge 46, 3) := by decide +kernel
theorem dX12_onOf_12 : decode cX12_onOf 12 = .ok (.iload_n 2, 1) := by decide +kernel
theorem dX12_onOf_13 : decode cX12_onOf 13 = .ok (.aload_n 0, 1) := by decide +kernel
theorem dX12_onOf_14 : decode cX12_onOf 14 = .ok (.getfield 50, 3) := by decide +kernel
theorem dX12_onOf_17 : decode cX12_onOf 17 = .ok (.iload_n 3, 1) := by decide +kernel
theorem dX12_onOf_18 : decode cX12_onOf 18 = .ok (.baload, 1) := by decide +kernel
theorem dX12_onOf_19 : decode cX12_onOf 19 = .ok (.ifCond .eq 27, 3) := by decide +kernel
theorem dX12_onOf_22 : decode cX12_onOf 22 = .ok (.aload_n 0, 1) := by decide +kernel
theorem dX12_onOf_23 : decode cX12_onOf 23 = .ok (.getfield 38, 3) := by decide +kernel
theorem dX12_onOf_26 : decode cX12_onOf 26 = .ok (.iload_n 3, 1) := by decide +kernel
theorem dX12_onOf_27 : decode cX12_onOf 27 = .ok (.iaload, 1) := by decide +kernel
theorem dX12_onOf_28 : decode cX12_onOf 28 = .ok (.iload_n 1, 1) := by decide +kernel
theorem dX12_onOf_29 : decode cX12_onOf 29 = .ok (.if_icmp .eq 13, 3) := by decide +kernel
theorem dX12_onOf_32 : decode cX12_onOf 32 = .ok (.aload_n 0, 1) := by decide +kernel
theorem dX12_onOf_33 : decode cX12_onOf 33 = .ok (.getfield 41, 3) := by decide +kernel
theorem dX12_onOf_36 : decode cX12_onOf 36 = .ok (.iload_n 3, 1) := by decide +kernel
theorem dX12_onOf_37 : decode cX12_onOf 37 = .ok (.iaload, 1) := by decide +kernel
theorem dX12_onOf_38 : decode cX12_onOf 38 = .ok (.iload_n 1, 1) := by decide +kernel
theorem dX12_onOf_39 : decode cX12_onOf 39 = .ok (.if_icmp .ne 7, 3) := by decide +kernel
theorem dX12_onOf_42 : decode cX12_onOf 42 = .ok (.iconst 1, 1) := by decide +kernel
theorem dX12_onOf_43 : decode cX12_onOf 43 = .ok (.goto 4, 3) := by decide +kernel
theorem dX12_onOf_46 : decode cX12_onOf 46 = .ok (.iconst 0, 1) := by decide +kernel
theorem dX12_onOf_47 : decode cX12_onOf 47 = .ok (.iadd, 1) := by decide +kernel
theorem dX12_onOf_48 : decode cX12_onOf 48 = .ok (.istore_n 2, 1) := by decide +kernel
theorem dX12_onOf_49 : decode cX12_onOf 49 = .ok (.iinc 3 1, 3) := by decide +kernel
theorem dX12_onOf_52 : decode cX12_onOf 52 = .ok (.goto (-48), 3) := by decide +kernel
theorem dX12_onOf_55 : decode cX12_onOf 55 = .ok (.iload_n 2, 1) := by decide +kernel
theorem dX12_onOf_56 : decode cX12_onOf 56 = .ok (.ireturn, 1) := by decide +kernel
theorem dX12_other_0 : decode cX12_other 0 = .ok (.aload_n 0, 1) := by decide +kernel
theorem dX12_other_1 : decode cX12_other 1 = .ok (.iconst 0, 1) := by decide +kernel
theorem dX12_other_2 : decode cX12_other 2 = .ok (.putfield 189, 3) := by decide +kernel
theorem dX12_other_5 : decode cX12_other 5 = .ok (.aload_n 0, 1) := by decide +kernel
theorem dX12_other_6 : decode cX12_other 6 = .ok (.iconst 0, 1) := by decide +kernel
theorem dX12_other_7 : decode cX12_other 7 = .ok (.putfield 193, 3) := by decide +kernel
theorem dX12_other_10 : decode cX12_other 10 = .ok (.aload_n 0, 1) := by decide +kernel
theorem dX12_other_11 : decode cX12_other 11 = .ok (.iconst 0, 1) := by decide +kernel
theorem dX12_other_12 : decode cX12_other 12 = .ok (.putfield 196, 3) := by decide +kernel
theorem dX12_other_15 : decode cX12_other 15 = .ok (.return_, 1) := by decide +kernel
theorem dX12_otherField_0 : decode cX12_otherField 0 = .ok (.iconst 0, 1) := by decide +kernel
theorem dX12_otherField_1 : decode cX12_otherField 1 = .ok (.istore_n 1, 1) := by decide +kernel
theorem dX12_otherField_2 : decode cX12_otherField 2 = .ok (.iload_n 1, 1) := by decide +kernel
theorem dX12_otherField_3 : decode cX12_otherField 3 = .ok (.bipush 60, 2) := by decide +kernel
theorem dX12_otherField_5 : decode cX12_otherField 5 = .ok (.if_icmp .ge 16, 3) := by decide +kernel
theorem dX12_otherField_8 : decode cX12_otherField 8 = .ok (.aload_n 0, 1) := by decide +kernel
theorem dX12_otherField_9 : decode cX12_otherField 9 = .ok (.getfield 62, 3) := by decide +kernel
theorem dX12_otherField_12 : decode cX12_otherField 12 = .ok (.iload_n 1, 1) := by decide +kernel
theorem dX12_otherField_13 : decode cX12_otherField 13 = .ok (.iconst 0, 1) := by decide +kernel
theorem dX12_otherField_14 : decode cX12_otherField 14 = .ok (.bastore, 1) := by decide +kernel
theorem dX12_otherField_15 : decode cX12_otherField 15 = .ok (.iinc 1 1, 3) := by decide +kernel
theorem dX12_otherField_18 : decode cX12_otherField 18 = .ok (.goto (-16), 3) := by decide +kernel
theorem dX12_otherField_21 : decode cX12_otherField 21 = .ok (.aload_n 0, 1) := by decide +kernel
theorem dX12_otherField_22 : decode cX12_otherField 22 = .ok (.invokevirtual 199, 3) := by decide +kernel
theorem dX12_otherField_25 : decode cX12_otherField 25 = .ok (.return_, 1) := by decide +kernel
theorem dX12_partOf_0 : decode cX12_partOf 0 = .ok (.aload_n 0, 1) := by decide +kernel
theorem dX12_partOf_1 : decode cX12_partOf 1 = .ok (.getfield 403, 3) := by decide +kernel
theorem dX12_partOf_4 : decode cX12_partOf 4 = .ok (.iconst 1, 1) := by decide +kernel
theorem dX12_partOf_5 : decode cX12_partOf 5 = .ok (.aload_n 0, 1) := by decide +kernel
theorem dX12_partOf_6 : decode cX12_partOf 6 = .ok (.getfield 397, 3) := by decide +kernel
theorem dX12_partOf_9 : decode cX12_partOf 9 = .ok (.ishl, 1) := by decide +kernel
theorem dX12_partOf_10 : decode cX12_partOf 10 = .ok (.iconst (-1), 1) := by decide +kernel
theorem dX12_partOf_11 : decode cX12_partOf 11 = .ok (.ixor, 1) := by decide +kernel
theorem dX12_partOf_12 : decode cX12_partOf 12 = .ok (.iand, 1) := by decide +kernel
theorem dX12_partOf_13 : decode cX12_partOf 13 = .ok (.aload_n 0, 1) := by decide +kernel
theorem dX12_partOf_14 : decode cX12_partOf 14 = .ok (.getfield 400, 3) := by decide +kernel
theorem dX12_partOf_17 : decode cX12_partOf 17 = .ok (.ifCond .ge 7, 3) := by decide +kernel
theorem dX12_partOf_20 : decode cX12_partOf 20 = .ok (.iconst (-1), 1) := by decide +kernel
theorem dX12_partOf_21 : decode cX12_partOf 21 = .ok (.goto 11, 3) := by decide +kernel
theorem dX12_partOf_24 : decode cX12_partOf 24 = .ok (.iconst 1, 1) := by decide +kernel
theorem dX12_partOf_25 : decode cX12_partOf 25 = .ok (.aload_n 0, 1) := by decide +kernel
theorem dX12_partOf_26 : decode cX12_partOf 26 = .ok (.getfield 400, 3) := by decide +kernel
theorem dX12_partOf_29 : decode cX12_partOf 29 = .ok (.ishl, 1) := by decide +kernel
theorem dX12_partOf_30 : decode cX12_partOf 30 = .ok (.iconst (-1), 1) := by decide +kernel
theorem dX12_partOf_31 : decode cX12_partOf 31 = .ok (.ixor, 1) := by decide +kernel
theorem dX12_partOf_32 : decode cX12_partOf 32 = .ok (.iand, 1) := by decide +kernel
theorem dX12_partOf_33 : decode cX12_partOf 33 = .ok (.istore_n 2, 1) := by decide +kernel
theorem dX12_partOf_34 : decode cX12_partOf 34 = .ok (.iconst 1, 1) := by decide +kernel
theorem dX12_partOf_35 : decode cX12_partOf 35 = .ok (.iload_n 1, 1) := by decide +kernel
theorem dX12_partOf_36 : decode cX12_partOf 36 = .ok (.ishl, 1) := by decide +kernel
theorem dX12_partOf_37 : decode cX12_partOf 37 = .ok (.istore_n 3, 1) := by decide +kernel
theorem dX12_partOf_38 : decode cX12_partOf 38 = .ok (.iconst 0, 1) := by decide +kernel
theorem dX12_partOf_39 : decode cX12_partOf 39 = .ok (.istore 4, 2) := by decide +kernel
theorem dX12_partOf_41 : decode cX12_partOf 41 = .ok (.iload 4, 2) := by decide +kernel
theorem dX12_partOf_43 : decode cX12_partOf 43 = .ok (.iload_n 3, 1) := by decide +kernel
theorem dX12_partOf_44 : decode cX12_partOf 44 = .ok (.if_icmp .eq 119, 3) := by decide +kernel
theorem dX12_partOf_47 : decode cX12_partOf 47 = .ok (.iload_n 3, 1) := by decide +kernel
theorem dX12_partOf_48 : decode cX12_partOf 48 = .ok (.istore 4, 2) := by decide +kernel
theorem dX12_partOf_50 : decode cX12_partOf 50 = .ok (.iconst 0, 1) := by decide +kernel
theorem dX12_partOf_51 : decode cX12_partOf 51 = .ok (.istore 5, 2) := by decide +kernel
theorem dX12_partOf_53 : decode cX12_partOf 53 = .ok (.iload 5, 2) := by decide +kernel
theorem dX12_partOf_55 : decode cX12_partOf 55 = .ok (.aload_n 0, 1) := by decide +kernel
theorem dX12_partOf_56 : decode cX12_partOf 56 = .ok (.getfield 186, 3) := by decide +kernel
theorem dX12_partOf_59 : decode cX12_partOf 59 = .ok (.if_icmp .ge 101, 3) := by decide +kernel
theorem dX12_partOf_62 : decode cX12_partOf 62 = .ok (.aload_n 0, 1) := by decide +kernel
theorem dX12_partOf_63 : decode cX12_partOf 63 = .ok (.getfield 50, 3) := by decide +kernel
theorem dX12_partOf_66 : decode cX12_partOf 66 = .ok (.iload 5, 2) := by decide +kernel
theorem dX12_partOf_68 : decode cX12_partOf 68 = .ok (.baload, 1) := by decide +kernel
theorem dX12_partOf_69 : decode cX12_partOf 69 = .ok (.ifCond .eq 85, 3) := by decide +kernel
theorem dX12_partOf_72 : decode cX12_partOf 72 = .ok (.iload_n 2, 1) := by decide +kernel
theorem dX12_partOf_73 : decode cX12_partOf 73 = .ok (.i2l, 1) := by decide +kernel
theorem dX12_partOf_74 : decode cX12_partOf 74 = .ok (.aload_n 0, 1) := by decide +kernel
theorem dX12_partOf_75 : decode cX12_partOf 75 = .ok (.getfield 38, 3) := by decide +kernel
theorem dX12_partOf_78 : decode cX12_partOf 78 = .ok (.iload 5, 2) := by decide +kernel
theorem dX12_partOf_80 : decode cX12_partOf 80 = .ok (.iaload, 1) := by decide +kernel
theorem dX12_partOf_81 : decode cX12_partOf 81 = .ok (.invokestatic 162, 3) := by decide +kernel
theorem dX12_partOf_84 : decode cX12_partOf 84 = .ok (.ifCond .eq 70, 3) := by decide +kernel
theorem dX12_partOf_87 : decode cX12_partOf 87 = .ok (.iload_n 2, 1) := by decide +kernel
theorem dX12_partOf_88 : decode cX12_partOf 88 = .ok (.i2l, 1) := by decide +kernel
theorem dX12_partOf_89 : decode cX12_partOf 89 = .ok (.aload_n 0, 1) := by decide +kernel
theorem dX12_partOf_90 : decode cX12_partOf 90 = .ok (.getfield 41, 3) := by decide +kernel
theorem dX12_partOf_93 : decode cX12_partOf 93 = .ok (.iload 5, 2) := by decide +kernel
theorem dX12_partOf_95 : decode cX12_partOf 95 = .ok (.iaload, 1) := by decide +kernel
theorem dX12_partOf_96 : decode cX12_partOf 96 = .ok (.invokestatic 162, 3) := by decide +kernel
theorem dX12_partOf_99 : decode cX12_partOf 99 = .ok (.ifCond .eq 55, 3) := by decide +kernel
theorem dX12_partOf_102 : decode cX12_partOf 102 = .ok (.iload_n 3, 1) := by decide +kernel
theorem dX12_partOf_103 : decode cX12_partOf 103 = .ok (.i2l, 1) := by decide +kernel
theorem dX12_partOf_104 : decode cX12_partOf 104 = .ok (.aload_n 0, 1) := by decide +kernel
theorem dX12_partOf_105 : decode cX12_partOf 105 = .ok (.getfield 38, 3) := by decide +kernel
theorem dX12_partOf_108 : decode cX12_partOf 108 = .ok (.iload 5, 2) := by decide +kernel
theorem dX12_partOf_110 : decode cX12_partOf 110 = .ok (.iaload, 1) := by decide +kernel
theorem dX12_partOf_111 : decode cX12_partOf 111 = .ok (.invokestatic 162, 3) := by decide +kernel
theorem dX12_partOf_114 : decode cX12_partOf 114 = .ok (.ifCond .ne 18, 3) := by decide +kernel
theorem dX12_partOf_117 : decode cX12_partOf 117 = .ok (.iload_n 3, 1) := by decide +kernel
theorem dX12_partOf_118 : decode cX12_partOf 118 = .ok (.i2l, 1) := by decide +kernel
theorem dX12_partOf_119 : decode cX12_partOf 119 = .ok (.aload_n 0, 1) := by decide +kernel
theorem dX12_partOf_120 : decode cX12_partOf 120 = .ok (.getfield 41, 3) := by decide +kernel
theorem dX12_partOf_123 : decode cX12_partOf 123 = .ok (.iload 5, 2) := by decide +kernel
theorem dX12_partOf_125 : decode cX12_partOf 125 = .ok (.iaload, 1) := by decide +kernel
theorem dX12_partOf_126 : decode cX12_partOf 126 = .ok (.invokestatic 162, 3) := by decide +kernel
theorem dX12_partOf_129 : decode cX12_partOf 129 = .ok (.ifCond .eq 25, 3) := by decide +kernel
theorem dX12_partOf_132 : decode cX12_partOf 132 = .ok (.iload_n 3, 1) := by decide +kernel
theorem dX12_partOf_133 : decode cX12_partOf 133 = .ok (.iconst 1, 1) := by decide +kernel
theorem dX12_partOf_134 : decode cX12_partOf 134 = .ok (.aload_n 0, 1) := by decide +kernel
theorem dX12_partOf_135 : decode cX12_partOf 135 = .ok (.getfield 38, 3) := by decide +kernel
theorem dX12_partOf_138 : decode cX12_partOf 138 = .ok (.iload 5, 2) := by decide +kernel
theorem dX12_partOf_140 : decode cX12_partOf 140 = .ok (.iaload, 1) := by decide +kernel
theorem dX12_partOf_141 : decode cX12_partOf 141 = .ok (.ishl, 1) := by decide +kernel
theorem dX12_partOf_142 : decode cX12_partOf 142 = .ok (.iconst 1, 1) := by decide +kernel
theorem dX12_partOf_143 : decode cX12_partOf 143 = .ok (.aload_n 0, 1) := by decide +kernel
theorem dX12_partOf_144 : decode cX12_partOf 144 = .ok (.getfield 41, 3) := by decide +kernel
theorem dX12_partOf_147 : decode cX12_partOf 147 = .ok (.iload 5, 2) := by decide +kernel
theorem dX12_partOf_149 : decode cX12_partOf 149 = .ok (.iaload, 1) := by decide +kernel
theorem dX12_partOf_150 : decode cX12_partOf 150 = .ok (.ishl, 1) := by decide +kernel
theorem dX12_partOf_151 : decode cX12_partOf 151 = .ok (.ior, 1) := by decide +kernel
theorem dX12_partOf_152 : decode cX12_partOf 152 = .ok (.ior, 1) := by decide +kernel
theorem dX12_partOf_153 : decode cX12_partOf 153 = .ok (.istore_n 3, 1) := by decide +kernel
theorem dX12_partOf_154 : decode cX12_partOf 154 = .ok (.iinc 5 1, 3) := by decide +kernel
theorem dX12_partOf_157 : decode cX12_partOf 157 = .ok (.goto (-104), 3) := by decide +kernel
theorem dX12_partOf_160 : decode cX12_partOf 160 = .ok (.goto (-119), 3) := by decide +kernel
theorem dX12_partOf_163 : decode cX12_partOf 163 = .ok (.iload_n 3, 1) := by decide +kernel
theorem dX12_partOf_164 : decode cX12_partOf 164 = .ok (.ireturn, 1) := by decide +kernel
theorem dX12_placeOf_0 : decode cX12_placeOf 0 = .ok (.iconst 0, 1) := by decide +kernel
theorem dX12_placeOf_1 : decode cX12_placeOf 1 = .ok (.istore_n 2, 1) := by decide +kernel
theorem dX12_placeOf_2 : decode cX12_placeOf 2 = .ok (.aload_n 0, 1) := by decide +kernel
theorem dX12_placeOf_3 : decode cX12_placeOf 3 = .ok (.getfield 90, 3) := by decide +kernel
theorem dX12_placeOf_6 : decode cX12_placeOf 6 = .ok (.iload_n 2, 1) := by decide +kernel
theorem dX12_placeOf_7 : decode cX12_placeOf 7 = .ok (.iaload, 1) := by decide +kernel
theorem dX12_placeOf_8 : decode cX12_placeOf 8 = .ok (.iload_n 1, 1) := by decide +kernel
theorem dX12_placeOf_9 : decode cX12_placeOf 9 = .ok (.if_icmp .eq 9, 3) := by decide +kernel
theorem dX12_placeOf_12 : decode cX12_placeOf 12 = .ok (.iinc 2 1, 3) := by decide +kernel
theorem dX12_placeOf_15 : decode cX12_placeOf 15 = .ok (.goto (-13), 3) := by decide +kernel
theorem dX12_placeOf_18 : decode cX12_placeOf 18 = .ok (.iload_n 2, 1) := by decide +kernel
theorem dX12_placeOf_19 : decode cX12_placeOf 19 = .ok (.ireturn, 1) := by decide +kernel
theorem dX12_placings_0 : decode cX12_placings 0 = .ok (.aload_n 0, 1) := by decide +kernel
theorem dX12_placings_1 : decode cX12_placings 1 = .ok (.iload_n 1, 1) := by decide +kernel
theorem dX12_placings_2 : decode cX12_placings 2 = .ok (.invokevirtual 245, 3) := by decide +kernel
theorem dX12_placings_5 : decode cX12_placings 5 = .ok (.ifCond .eq 5, 3) := by decide +kernel
theorem dX12_placings_8 : decode cX12_placings 8 = .ok (.iconst (-1), 1) := by decide +kernel
theorem dX12_placings_9 : decode cX12_placings 9 = .ok (.ireturn, 1) := by decide +kernel
theorem dX12_placings_10 : decode cX12_placings 10 = .ok (.aload_n 0, 1) := by decide +kernel
theorem dX12_placings_11 : decode cX12_placings 11 = .ok (.iload_n 1, 1) := by decide +kernel
theorem dX12_placings_12 : decode cX12_placings 12 = .ok (.iconst (-1), 1) := by decide +kernel
theorem dX12_placings_13 : decode cX12_placings 13 = .ok (.invokevirtual 378, 3) := by decide +kernel
theorem dX12_placings_16 : decode cX12_placings 16 = .ok (.istore_n 2, 1) := by decide +kernel
theorem dX12_placings_17 : decode cX12_placings 17 = .ok (.aload_n 0, 1) := by decide +kernel
theorem dX12_placings_18 : decode cX12_placings 18 = .ok (.aload_n 0, 1) := by decide +kernel
theorem dX12_placings_19 : decode cX12_placings 19 = .ok (.getfield 362, 3) := by decide +kernel
theorem dX12_placings_22 : decode cX12_placings 22 = .ok (.putfield 382, 3) := by decide +kernel
theorem dX12_placings_25 : decode cX12_placings 25 = .ok (.iload_n 2, 1) := by decide +kernel
theorem dX12_placings_26 : decode cX12_placings 26 = .ok (.ifCond .eq 10, 3) := by decide +kernel
theorem dX12_placings_29 : decode cX12_placings 29 = .ok (.aload_n 0, 1) := by decide +kernel
theorem dX12_placings_30 : decode cX12_placings 30 = .ok (.getfield 341, 3) := by decide +kernel
theorem dX12_placings_33 : decode cX12_placings 33 = .ok (.goto 5, 3) := by decide +kernel
theorem dX12_placings_36 : decode cX12_placings 36 = .ok (.bipush (-6), 2) := by decide +kernel
theorem dX12_placings_38 : decode cX12_placings 38 = .ok (.ireturn, 1) := by decide +kernel
theorem dX12_plan_0 : decode cX12_plan 0 = .ok (.iload_n 1, 1) := by decide +kernel
theorem dX12_plan_1 : decode cX12_plan 1 = .ok (.invokestatic 219, 3) := by decide +kernel
theorem dX12_plan_4 : decode cX12_plan 4 = .ok (.ifCond .eq 9, 3) := by decide +kernel
theorem dX12_plan_7 : decode cX12_plan 7 = .ok (.aload_n 0, 1) := by decide +kernel
theorem dX12_plan_8 : decode cX12_plan 8 = .ok (.iconst (-1), 1) := by decide +kernel
theorem dX12_plan_9 : decode cX12_plan 9 = .ok (.invokevirtual 222, 3) := by decide +kernel
theorem dX12_plan_12 : decode cX12_plan 12 = .ok (.ireturn, 1) := by decide +kernel
theorem dX12_plan_13 : decode cX12_plan 13 = .ok (.iload_n 2, 1) := by decide +kernel
theorem dX12_plan_14 : decode cX12_plan 14 = .ok (.i2l, 1) := by decide +kernel
theorem dX12_plan_15 : decode cX12_plan 15 = .ok (.lconst 0, 1) := by decide +kernel
theorem dX12_plan_16 : decode cX12_plan 16 = .ok (.ldc2_w 226, 3) := by decide +kernel
theorem dX12_plan_19 : decode cX12_plan 19 = .ok (.invokestatic 175, 3) := by decide +kernel
theorem dX12_plan_22 : decode cX12_plan 22 = .ok (.ifCond .ne 10, 3) := by decide +kernel
theorem dX12_plan_25 : decode cX12_plan 25 = .ok (.aload_n 0, 1) := by decide +kernel
theorem dX12_plan_26 : decode cX12_plan 26 = .ok (.bipush (-2), 2) := by decide +kernel
theorem dX12_plan_28 : decode cX12_plan 28 = .ok (.invokevirtual 222, 3) := by decide +kernel
theorem dX12_plan_31 : decode cX12_plan 31 = .ok (.ireturn, 1) := by decide +kernel
theorem dX12_plan_32 : decode cX12_plan 32 = .ok (.aload_n 0, 1) := by decide +kernel
theorem dX12_plan_33 : decode cX12_plan 33 = .ok (.getfield 141, 3) := by decide +kernel
theorem dX12_plan_36 : decode cX12_plan 36 = .ok (.iload_n 1, 1) := by decide +kernel
theorem dX12_plan_37 : decode cX12_plan 37 = .ok (.iaload, 1) := by decide +kernel
theorem dX12_plan_38 : decode cX12_plan 38 = .ok (.ifCond .lt 19, 3) := by decide +kernel
theorem dX12_plan_41 : decode cX12_plan 41 = .ok (.aload_n 0, 1) := by decide +kernel
theorem dX12_plan_42 : decode cX12_plan 42 = .ok (.getfield 144, 3) := by decide +kernel
theorem dX12_plan_45 : decode cX12_plan 45 = .ok (.iload_n 1, 1) := by decide +kernel
theorem dX12_plan_46 : decode cX12_plan 46 = .ok (.iaload, 1) := by decide +kernel
theorem dX12_plan_47 : decode cX12_plan 47 = .ok (.iload_n 2, 1) := by decide +kernel
theorem dX12_plan_48 : decode cX12_plan 48 = .ok (.if_icmp .eq 9, 3) := by decide +kernel
theorem dX12_plan_51 : decode cX12_plan 51 = .ok (.aload_n 0, 1) := by decide +kernel
theorem dX12_plan_52 : decode cX12_plan 52 = .ok (.iconst 2, 1) := by decide +kernel
theorem dX12_plan_53 : decode cX12_plan 53 = .ok (.invokevirtual 228, 3) := by decide +kernel
theorem dX12_plan_56 : decode cX12_plan 56 = .ok (.ireturn, 1) := by decide +kernel
theorem dX12_plan_57 : decode cX12_plan 57 = .ok (.aload_n 0, 1) := by decide +kernel
theorem dX12_plan_58 : decode cX12_plan 58 = .ok (.getfield 141, 3) := by decide +kernel
theorem dX12_plan_61 : decode cX12_plan 61 = .ok (.iload_n 1, 1) := by decide +kernel
theorem dX12_plan_62 : decode cX12_plan 62 = .ok (.iaload, 1) := by decide +kernel
theorem dX12_plan_63 : decode cX12_plan 63 = .ok (.ifCond .ge 9, 3) := by decide +kernel
theorem dX12_plan_66 : decode cX12_plan 66 = .ok (.aload_n 0, 1) := by decide +kernel
theorem dX12_plan_67 : decode cX12_plan 67 = .ok (.iconst 1, 1) := by decide +kernel
theorem dX12_plan_68 : decode cX12_plan 68 = .ok (.invokevirtual 228, 3) := by decide +kernel
theorem dX12_plan_71 : decode cX12_plan 71 = .ok (.ireturn, 1) := by decide +kernel
theorem dX12_plan_72 : decode cX12_plan 72 = .ok (.iload_n 3, 1) := by decide +kernel
theorem dX12_plan_73 : decode cX12_plan 73 = .ok (.aload_n 0, 1) := by decide +kernel
theorem dX12_plan_74 : decode cX12_plan 74 = .ok (.getfield 153, 3) := by decide +kernel
theorem dX12_plan_77 : decode cX12_plan 77 = .ok (.aload_n 0, 1) := by decide +kernel
theorem dX12_plan_78 : decode cX12_plan 78 = .ok (.getfield 157, 3) := by decide +kernel
theorem dX12_plan_81 : decode cX12_plan 81 = .ok (.imul, 1) := by decide +kernel
theorem dX12_plan_82 : decode cX12_plan 82 = .ok (.i2l, 1) := by decide +kernel
theorem dX12_plan_83 : decode cX12_plan 83 = .ok (.aload_n 0, 1) := by decide +kernel
theorem dX12_plan_84 : decode cX12_plan 84 = .ok (.getfield 141, 3) := by decide +kernel
theorem dX12_plan_87 : decode cX12_plan 87 = .ok (.iload_n 1, 1) := by decide +kernel
theorem dX12_plan_88 : decode cX12_plan 88 = .ok (.iaload, 1) := by decide +kernel
theorem dX12_plan_89 : decode cX12_plan 89 = .ok (.invokestatic 231, 3) := by decide +kernel
theorem dX12_plan_92 : decode cX12_plan 92 = .ok (.ifCond .eq 9, 3) := by decide +kernel
theorem dX12_plan_95 : decode cX12_plan 95 = .ok (.aload_n 0, 1) := by decide +kernel
theorem dX12_plan_96 : decode cX12_plan 96 = .ok (.iconst 3, 1) := by decide +kernel
theorem dX12_plan_97 : decode cX12_plan 97 = .ok (.invokevirtual 228, 3) := by decide +kernel
theorem dX12_plan_100 : decode cX12_plan 100 = .ok (.ireturn, 1) := by decide +kernel
theorem dX12_plan_101 : decode cX12_plan 101 = .ok (.bipush 64, 2) := by decide +kernel
theorem dX12_plan_103 : decode cX12_plan 103 = .ok (.iload_n 1, 1) := by decide +kernel
theorem dX12_plan_104 : decode cX12_plan 104 = .ok (.imul, 1) := by decide +kernel
theorem dX12_plan_105 : decode cX12_plan 105 = .ok (.iload_n 3, 1) := by decide +kernel
theorem dX12_plan_106 : decode cX12_plan 106 = .ok (.iadd, 1) := by decide +kernel
theorem dX12_plan_107 : decode cX12_plan 107 = .ok (.istore 4, 2) := by decide +kernel
theorem dX12_plan_109 : decode cX12_plan 109 = .ok (.iconst 0, 1) := by decide +kernel
theorem dX12_plan_110 : decode cX12_plan 110 = .ok (.istore 5, 2) := by decide +kernel
theorem dX12_plan_112 : decode cX12_plan 112 = .ok (.iload 5, 2) := by decide +kernel
theorem dX12_plan_114 : decode cX12_plan 114 = .ok (.aload_n 0, 1) := by decide +kernel
theorem dX12_plan_115 : decode cX12_plan 115 = .ok (.getfield 153, 3) := by decide +kernel
theorem dX12_plan_118 : decode cX12_plan 118 = .ok (.aload_n 0, 1) := by decide +kernel
theorem dX12_plan_119 : decode cX12_plan 119 = .ok (.getfield 157, 3) := by decide +kernel
theorem dX12_plan_122 : decode cX12_plan 122 = .ok (.imul, 1) := by decide +kernel
theorem dX12_plan_123 : decode cX12_plan 123 = .ok (.if_icmp .ge 56, 3) := by decide +kernel
theorem dX12_plan_126 : decode cX12_plan 126 = .ok (.aload_n 0, 1) := by decide +kernel
theorem dX12_plan_127 : decode cX12_plan 127 = .ok (.getfield 147, 3) := by decide +kernel
theorem dX12_plan_130 : decode cX12_plan 130 = .ok (.iload 4, 2) := by decide +kernel
theorem dX12_plan_132 : decode cX12_plan 132 = .ok (.iload 5, 2) := by decide +kernel
theorem dX12_plan_134 : decode cX12_plan 134 = .ok (.iadd, 1) := by decide +kernel
theorem dX12_plan_135 : decode cX12_plan 135 = .ok (.laload, 1) := by decide +kernel
theorem dX12_plan_136 : decode cX12_plan 136 = .ok (.lconst 0, 1) := by decide +kernel
theorem dX12_plan_137 : decode cX12_plan 137 = .ok (.lcmp, 1) := by decide +kernel
theorem dX12_plan_138 : decode cX12_plan 138 = .ok (.ifCond .eq 35, 3) := by decide +kernel
theorem dX12_plan_141 : decode cX12_plan 141 = .ok (.aload_n 0, 1) := by decide +kernel
theorem dX12_plan_142 : decode cX12_plan 142 = .ok (.bipush 8, 2) := by decide +kernel
theorem dX12_plan_144 : decode cX12_plan 144 = .ok (.iload 5, 2) := by decide +kernel
theorem dX12_plan_146 : decode cX12_plan 146 = .ok (.aload_n 0, 1) := by decide +kernel
theorem dX12_plan_147 : decode cX12_plan 147 = .ok (.getfield 153, 3) := by decide +kernel
theorem dX12_plan_150 : decode cX12_plan 150 = .ok (.idiv, 1) := by decide +kernel
theorem dX12_plan_151 : decode cX12_plan 151 = .ok (.imul, 1) := by decide +kernel
theorem dX12_plan_152 : decode cX12_plan 152 = .ok (.iload 5, 2) := by decide +kernel
theorem dX12_plan_154 : decode cX12_plan 154 = .ok (.aload_n 0, 1) := by decide +kernel
theorem dX12_plan_155 : decode cX12_plan 155 = .ok (.getfield 153, 3) := by decide +kernel
theorem dX12_plan_158 : decode cX12_plan 158 = .ok (.irem, 1) := by decide +kernel
theorem dX12_plan_159 : decode cX12_plan 159 = .ok (.iadd, 1) := by decide +kernel
theorem dX12_plan_160 : decode cX12_plan 160 = .ok (.invokevirtual 213, 3) := by decide +kernel
theorem dX12_plan_163 : decode cX12_plan 163 = .ok (.ifCond .eq 10, 3) := by decide +kernel
theorem dX12_plan_166 : decode cX12_plan 166 = .ok (.aload_n 0, 1) := by decide +kernel
theorem dX12_plan_167 : decode cX12_plan 167 = .ok (.bipush (-3), 2) := by decide +kernel
theorem dX12_plan_169 : decode cX12_plan 169 = .ok (.invokevirtual 222, 3) := by decide +kernel
theorem dX12_plan_172 : decode cX12_plan 172 = .ok (.ireturn, 1) := by decide +kernel
theorem dX12_plan_173 : decode cX12_plan 173 = .ok (.iinc 5 1, 3) := by decide +kernel
theorem dX12_plan_176 : decode cX12_plan 176 = .ok (.goto (-64), 3) := by decide +kernel
theorem dX12_plan_179 : decode cX12_plan 179 = .ok (.iconst 0, 1) := by decide +kernel
theorem dX12_plan_180 : decode cX12_plan 180 = .ok (.istore 5, 2) := by decide +kernel
theorem dX12_plan_182 : decode cX12_plan 182 = .ok (.iload 5, 2) := by decide +kernel
theorem dX12_plan_184 : decode cX12_plan 184 = .ok (.aload_n 0, 1) := by decide +kernel
theorem dX12_plan_185 : decode cX12_plan 185 = .ok (.getfield 153, 3) := by decide +kernel
theorem dX12_plan_188 : decode cX12_plan 188 = .ok (.aload_n 0, 1) := by decide +kernel
theorem dX12_plan_189 : decode cX12_plan 189 = .ok (.getfield 157, 3) := by decide +kernel
theorem dX12_plan_192 : decode cX12_plan 192 = .ok (.imul, 1) := by decide +kernel
theorem dX12_plan_193 : decode cX12_plan 193 = .ok (.if_icmp .ge 52, 3) := by decide +kernel
theorem dX12_plan_196 : decode cX12_plan 196 = .ok (.aload_n 0, 1) := by decide +kernel
theorem dX12_plan_197 : decode cX12_plan 197 = .ok (.getfield 7, 3) := by decide +kernel
theorem dX12_plan_200 : decode cX12_plan 200 = .ok (.bipush 8, 2) := by decide +kernel
theorem dX12_plan_202 : decode cX12_plan 202 = .ok (.iload 5, 2) := by decide +kernel
theorem dX12_plan_204 : decode cX12_plan 204 = .ok (.aload_n 0, 1) := by decide +kernel
theorem dX12_plan_205 : decode cX12_plan 205 = .ok (.getfield 153, 3) := by decide +kernel
theorem dX12_plan_208 : decode cX12_plan 208 = .ok (.idiv, 1) := by decide +kernel
theorem dX12_plan_209 : decode cX12_plan 209 = .ok (.imul, 1) := by decide +kernel
theorem dX12_plan_210 : decode cX12_plan 210 = .ok (.iload 5, 2) := by decide +kernel
theorem dX12_plan_212 : decode cX12_plan 212 = .ok (.aload_n 0, 1) := by decide +kernel
theorem dX12_plan_213 : decode cX12_plan 213 = .ok (.getfield 153, 3) := by decide +kernel
theorem dX12_plan_216 : decode cX12_plan 216 = .ok (.irem, 1) := by decide +kernel
theorem dX12_plan_217 : decode cX12_plan 217 = .ok (.iadd, 1) := by decide +kernel
theorem dX12_plan_218 : decode cX12_plan 218 = .ok (.aload_n 0, 1) := by decide +kernel
theorem dX12_plan_219 : decode cX12_plan 219 = .ok (.getfield 147, 3) := by decide +kernel
theorem dX12_plan_222 : decode cX12_plan 222 = .ok (.iload 4, 2) := by decide +kernel
theorem dX12_plan_224 : decode cX12_plan 224 = .ok (.iload 5, 2) := by decide +kernel
theorem dX12_plan_226 : decode cX12_plan 226 = .ok (.iadd, 1) := by decide +kernel
theorem dX12_plan_227 : decode cX12_plan 227 = .ok (.laload, 1) := by decide +kernel
theorem dX12_plan_228 : decode cX12_plan 228 = .ok (.lconst 0, 1) := by decide +kernel
theorem dX12_plan_229 : decode cX12_plan 229 = .ok (.lcmp, 1) := by decide +kernel
theorem dX12_plan_230 : decode cX12_plan 230 = .ok (.ifCond .eq 7, 3) := by decide +kernel
theorem dX12_plan_233 : decode cX12_plan 233 = .ok (.iconst 1, 1) := by decide +kernel
theorem dX12_plan_234 : decode cX12_plan 234 = .ok (.goto 4, 3) := by decide +kernel
theorem dX12_plan_237 : decode cX12_plan 237 = .ok (.iconst 0, 1) := by decide +kernel
theorem dX12_plan_238 : decode cX12_plan 238 = .ok (.bastore, 1) := by decide +kernel
theorem dX12_plan_239 : decode cX12_plan 239 = .ok (.iinc 5 1, 3) := by decide +kernel
theorem dX12_plan_242 : decode cX12_plan 242 = .ok (.goto (-60), 3) := by decide +kernel
theorem dX12_plan_245 : decode cX12_plan 245 = .ok (.aload_n 0, 1) := by decide +kernel
theorem dX12_plan_246 : decode cX12_plan 246 = .ok (.invokevirtual 210, 3) := by decide +kernel
theorem dX12_plan_249 : decode cX12_plan 249 = .ok (.aload_n 0, 1) := by decide +kernel
theorem dX12_plan_250 : decode cX12_plan 250 = .ok (.aload_n 0, 1) := by decide +kernel
theorem dX12_plan_251 : decode cX12_plan 251 = .ok (.invokevirtual 235, 3) := by decide +kernel
theorem dX12_plan_254 : decode cX12_plan 254 = .ok (.invokevirtual 222, 3) := by decide +kernel
theorem dX12_plan_257 : decode cX12_plan 257 = .ok (.ireturn, 1) := by decide +kernel
theorem dX12_put_0 : decode cX12_put 0 = .ok (.aload_n 0, 1) := by decide +kernel
theorem dX12_put_1 : decode cX12_put 1 = .ok (.iload_n 1, 1) := by decide +kernel
theorem dX12_put_2 : decode cX12_put 2 = .ok (.invokevirtual 245, 3) := by decide +kernel
theorem dX12_put_5 : decode cX12_put 5 = .ok (.ifCond .ne 17, 3) := by decide +kernel
theorem dX12_put_8 : decode cX12_put 8 = .ok (.iload_n 2, 1) := by decide +kernel
theorem dX12_put_9 : decode cX12_put 9 = .ok (.bipush (-9), 2) := by decide +kernel
theorem dX12_put_11 : decode cX12_put 11 = .ok (.if_icmp .eq 13, 3) := by decide +kernel
theorem dX12_put_14 : decode cX12_put 14 = .ok (.aload_n 0, 1) := by decide +kernel
theorem dX12_put_15 : decode cX12_put 15 = .ok (.iload_n 2, 1) := by decide +kernel
theorem dX12_put_16 : decode cX12_put 16 = .ok (.invokevirtual 179, 3) := by decide +kernel
theorem dX12_put_19 : decode cX12_put 19 = .ok (.ifCond .ne 5, 3) := by decide +kernel
theorem dX12_put_22 : decode cX12_put 22 = .ok (.iconst (-1), 1) := by decide +kernel
theorem dX12_put_23 : decode cX12_put 23 = .ok (.ireturn, 1) := by decide +kernel
theorem dX12_put_24 : decode cX12_put 24 = .ok (.aload_n 0, 1) := by decide +kernel
theorem dX12_put_25 : decode cX12_put 25 = .ok (.getfield 32, 3) := by decide +kernel
theorem dX12_put_28 : decode cX12_put 28 = .ok (.iload_n 1, 1) := by decide +kernel
theorem dX12_put_29 : decode cX12_put 29 = .ok (.iaload, 1) := by decide +kernel
theorem dX12_put_30 : decode cX12_put 30 = .ok (.istore_n 3, 1) := by decide +kernel
theorem dX12_put_31 : decode cX12_put 31 = .ok (.aload_n 0, 1) := by decide +kernel
theorem dX12_put_32 : decode cX12_put 32 = .ok (.getfield 32, 3) := by decide +kernel
theorem dX12_put_35 : decode cX12_put 35 = .ok (.iload_n 1, 1) := by decide +kernel
theorem dX12_put_36 : decode cX12_put 36 = .ok (.iload_n 2, 1) := by decide +kernel
theorem dX12_put_37 : decode cX12_put 37 = .ok (.iastore, 1) := by decide +kernel
theorem dX12_put_38 : decode cX12_put 38 = .ok (.iload_n 3, 1) := by decide +kernel
theorem dX12_put_39 : decode cX12_put 39 = .ok (.ireturn, 1) := by decide +kernel
theorem dX12_quarrel_0 : decode cX12_quarrel 0 = .ok (.aload_n 0, 1) := by decide +kernel
theorem dX12_quarrel_1 : decode cX12_quarrel 1 = .ok (.invokevirtual 327, 3) := by decide +kernel
theorem dX12_quarrel_4 : decode cX12_quarrel 4 = .ok (.aload_n 0, 1) := by decide +kernel
theorem dX12_quarrel_5 : decode cX12_quarrel 5 = .ok (.getfield 324, 3) := by decide +kernel
theorem dX12_quarrel_8 : decode cX12_quarrel 8 = .ok (.ireturn, 1) := by decide +kernel
theorem dX12_refused_0 : decode cX12_refused 0 = .ok (.aload_n 0, 1) := by decide +kernel
theorem dX12_refused_1 : decode cX12_refused 1 = .ok (.iconst 0, 1) := by decide +kernel
theorem dX12_refused_2 : decode cX12_refused 2 = .ok (.putfield 166, 3) := by decide +kernel
theorem dX12_refused_5 : decode cX12_refused 5 = .ok (.iload_n 1, 1) := by decide +kernel
theorem dX12_refused_6 : decode cX12_refused 6 = .ok (.ireturn, 1) := by decide +kernel
theorem dX12_search_0 : decode cX12_search 0 = .ok (.aload_n 0, 1) := by decide +kernel
theorem dX12_search_1 : decode cX12_search 1 = .ok (.invokevirtual 258, 3) := by decide +kernel
theorem dX12_search_4 : decode cX12_search 4 = .ok (.aload_n 0, 1) := by decide +kernel
theorem dX12_search_5 : decode cX12_search 5 = .ok (.iload_n 1, 1) := by decide +kernel
theorem dX12_search_6 : decode cX12_search 6 = .ok (.invokevirtual 330, 3) := by decide +kernel
theorem dX12_search_9 : decode cX12_search 9 = .ok (.istore_n 2, 1) := by decide +kernel
theorem dX12_search_10 : decode cX12_search 10 = .ok (.aload_n 0, 1) := by decide +kernel
theorem dX12_search_11 : decode cX12_search 11 = .ok (.iconst 0, 1) := by decide +kernel
theorem dX12_search_12 : decode cX12_search 12 = .ok (.putfield 335, 3) := by decide +kernel
theorem dX12_search_15 : decode cX12_search 15 = .ok (.iconst 0, 1) := by decide +kernel
theorem dX12_search_16 : decode cX12_search 16 = .ok (.istore_n 3, 1) := by decide +kernel
theorem dX12_search_17 : decode cX12_search 17 = .ok (.iload_n 3, 1) := by decide +kernel
theorem dX12_search_18 : decode cX12_search 18 = .ok (.aload_n 0, 1) := by decide +kernel
theorem dX12_search_19 : decode cX12_search 19 = .ok (.getfield 183, 3) := by decide +kernel
theorem dX12_search_22 : decode cX12_search 22 = .ok (.if_icmp .ge 38, 3) := by decide +kernel
theorem dX12_search_25 : decode cX12_search 25 = .ok (.iload_n 2, 1) := by decide +kernel
theorem dX12_search_26 : decode cX12_search 26 = .ok (.i2l, 1) := by decide +kernel
theorem dX12_search_27 : decode cX12_search 27 = .ok (.iload_n 3, 1) := by decide +kernel
theorem dX12_search_28 : decode cX12_search 28 = .ok (.invokestatic 162, 3) := by decide +kernel
theorem dX12_search_31 : decode cX12_search 31 = .ok (.ifCond .eq 23, 3) := by decide +kernel
theorem dX12_search_34 : decode cX12_search 34 = .ok (.aload_n 0, 1) := by decide +kernel
theorem dX12_search_35 : decode cX12_search 35 = .ok (.getfield 90, 3) := by decide +kernel
theorem dX12_search_38 : decode cX12_search 38 = .ok (.aload_n 0, 1) := by decide +kernel
theorem dX12_search_39 : decode cX12_search 39 = .ok (.getfield 335, 3) := by decide +kernel
theorem dX12_search_42 : decode cX12_search 42 = .ok (.iload_n 3, 1) := by decide +kernel
theorem dX12_search_43 : decode cX12_search 43 = .ok (.iastore, 1) := by decide +kernel
theorem dX12_search_44 : decode cX12_search 44 = .ok (.aload_n 0, 1) := by decide +kernel
theorem dX12_search_45 : decode cX12_search 45 = .ok (.dup, 1) := by decide +kernel
theorem dX12_search_46 : decode cX12_search 46 = .ok (.getfield 335, 3) := by decide +kernel
theorem dX12_search_49 : decode cX12_search 49 = .ok (.iconst 1, 1) := by decide +kernel
theorem dX12_search_50 : decode cX12_search 50 = .ok (.iadd, 1) := by decide +kernel
theorem dX12_search_51 : decode cX12_search 51 = .ok (.putfield 335, 3) := by decide +kernel
theorem dX12_search_54 : decode cX12_search 54 = .ok (.iinc 3 1, 3) := by decide +kernel
theorem dX12_search_57 : decode cX12_search 57 = .ok (.goto (-40), 3) := by decide +kernel
theorem dX12_search_60 : decode cX12_search 60 = .ok (.aload_n 0, 1) := by decide +kernel
theorem dX12_search_61 : decode cX12_search 61 = .ok (.iconst 0, 1) := by decide +kernel
theorem dX12_search_62 : decode cX12_search 62 = .ok (.putfield 362, 3) := by decide +kernel
theorem dX12_search_65 : decode cX12_search 65 = .ok (.aload_n 0, 1) := by decide +kernel
theorem dX12_search_66 : decode cX12_search 66 = .ok (.iconst 0, 1) := by decide +kernel
theorem dX12_search_67 : decode cX12_search 67 = .ok (.putfield 341, 3) := by decide +kernel
theorem dX12_search_70 : decode cX12_search 70 = .ok (.aload_n 0, 1) := by decide +kernel
theorem dX12_search_71 : decode cX12_search 71 = .ok (.iconst 0, 1) := by decide +kernel
theorem dX12_search_72 : decode cX12_search 72 = .ok (.putfield 347, 3) := by decide +kernel
theorem dX12_search_75 : decode cX12_search 75 = .ok (.aload_n 0, 1) := by decide +kernel
theorem dX12_search_76 : decode cX12_search 76 = .ok (.getfield 335, 3) := by decide +kernel
theorem dX12_search_79 : decode cX12_search 79 = .ok (.bipush 9, 2) := by decide +kernel
theorem dX12_search_81 : decode cX12_search 81 = .ok (.if_icmp .le 5, 3) := by decide +kernel
theorem dX12_search_84 : decode cX12_search 84 = .ok (.iconst 0, 1) := by decide +kernel
theorem dX12_search_85 : decode cX12_search 85 = .ok (.ireturn, 1) := by decide +kernel
theorem dX12_search_86 : decode cX12_search 86 = .ok (.aload_n 0, 1) := by decide +kernel
theorem dX12_search_87 : decode cX12_search 87 = .ok (.invokevirtual 311, 3) := by decide +kernel
theorem dX12_search_90 : decode cX12_search 90 = .ok (.aload_n 0, 1) := by decide +kernel
theorem dX12_search_91 : decode cX12_search 91 = .ok (.invokevirtual 365, 3) := by decide +kernel
theorem dX12_search_94 : decode cX12_search 94 = .ok (.iconst 0, 1) := by decide +kernel
theorem dX12_search_95 : decode cX12_search 95 = .ok (.istore_n 3, 1) := by decide +kernel
theorem dX12_search_96 : decode cX12_search 96 = .ok (.iload_n 3, 1) := by decide +kernel
theorem dX12_search_97 : decode cX12_search 97 = .ok (.sipush 576, 3) := by decide +kernel
theorem dX12_search_100 : decode cX12_search 100 = .ok (.if_icmp .ge 16, 3) := by decide +kernel
theorem dX12_search_103 : decode cX12_search 103 = .ok (.aload_n 0, 1) := by decide +kernel
theorem dX12_search_104 : decode cX12_search 104 = .ok (.getfield 99, 3) := by decide +kernel
theorem dX12_search_107 : decode cX12_search 107 = .ok (.iload_n 3, 1) := by decide +kernel
theorem dX12_search_108 : decode cX12_search 108 = .ok (.iconst 0, 1) := by decide +kernel
theorem dX12_search_109 : decode cX12_search 109 = .ok (.iastore, 1) := by decide +kernel
theorem dX12_search_110 : decode cX12_search 110 = .ok (.iinc 3 1, 3) := by decide +kernel
theorem dX12_search_113 : decode cX12_search 113 = .ok (.goto (-17), 3) := by decide +kernel
theorem dX12_search_116 : decode cX12_search 116 = .ok (.iconst 0, 1) := by decide +kernel
theorem dX12_search_117 : decode cX12_search 117 = .ok (.istore_n 3, 1) := by decide +kernel
theorem dX12_search_118 : decode cX12_search 118 = .ok (.iload_n 3, 1) := by decide +kernel
theorem dX12_search_119 : decode cX12_search 119 = .ok (.sipush 8019, 3) := by decide +kernel
theorem dX12_search_122 : decode cX12_search 122 = .ok (.if_icmp .ge 16, 3) := by decide +kernel
theorem dX12_search_125 : decode cX12_search 125 = .ok (.aload_n 0, 1) := by decide +kernel
theorem dX12_search_126 : decode cX12_search 126 = .ok (.getfield 102, 3) := by decide +kernel
theorem dX12_search_129 : decode cX12_search 129 = .ok (.iload_n 3, 1) := by decide +kernel
theorem dX12_search_130 : decode cX12_search 130 = .ok (.iconst 0, 1) := by decide +kernel
theorem dX12_search_131 : decode cX12_search 131 = .ok (.iastore, 1) := by decide +kernel
theorem dX12_search_132 : decode cX12_search 132 = .ok (.iinc 3 1, 3) := by decide +kernel
theorem dX12_search_135 : decode cX12_search 135 = .ok (.goto (-17), 3) := by decide +kernel
theorem dX12_search_138 : decode cX12_search 138 = .ok (.iconst 0, 1) := by decide +kernel
theorem dX12_search_139 : decode cX12_search 139 = .ok (.istore_n 3, 1) := by decide +kernel
theorem dX12_search_140 : decode cX12_search 140 = .ok (.aload_n 0, 1) := by decide +kernel
theorem dX12_search_141 : decode cX12_search 141 = .ok (.getfield 93, 3) := by decide +kernel
theorem dX12_search_144 : decode cX12_search 144 = .ok (.iconst 0, 1) := by decide +kernel
theorem dX12_search_145 : decode cX12_search 145 = .ok (.iconst (-1), 1) := by decide +kernel
theorem dX12_search_146 : decode cX12_search 146 = .ok (.iastore, 1) := by decide +kernel
theorem dX12_search_147 : decode cX12_search 147 = .ok (.iload_n 3, 1) := by decide +kernel
theorem dX12_search_148 : decode cX12_search 148 = .ok (.ifCond .lt 126, 3) := by decide +kernel
theorem dX12_search_151 : decode cX12_search 151 = .ok (.aload_n 0, 1) := by decide +kernel
theorem dX12_search_152 : decode cX12_search 152 = .ok (.getfield 93, 3) := by decide +kernel
theorem dX12_search_155 : decode cX12_search 155 = .ok (.iload_n 3, 1) := by decide +kernel
theorem dX12_search_156 : decode cX12_search 156 = .ok (.iaload, 1) := by decide +kernel
theorem dX12_search_157 : decode cX12_search 157 = .ok (.iconst 1, 1) := by decide +kernel
theorem dX12_search_158 : decode cX12_search 158 = .ok (.iadd, 1) := by decide +kernel
theorem dX12_search_159 : decode cX12_search 159 = .ok (.istore 4, 2) := by decide +kernel
theorem dX12_search_161 : decode cX12_search 161 = .ok (.iload 4, 2) := by decide +kernel
theorem dX12_search_163 : decode cX12_search 163 = .ok (.bipush 64, 2) := by decide +kernel
theorem dX12_search_165 : decode cX12_search 165 = .ok (.if_icmp .ge 28, 3) := by decide +kernel
theorem dX12_search_168 : decode cX12_search 168 = .ok (.aload_n 0, 1) := by decide +kernel
theorem dX12_search_169 : decode cX12_search 169 = .ok (.getfield 84, 3) := by decide +kernel
theorem dX12_search_172 : decode cX12_search 172 = .ok (.aload_n 0, 1) := by decide +kernel
theorem dX12_search_173 : decode cX12_search 173 = .ok (.getfield 90, 3) := by decide +kernel
theorem dX12_search_176 : decode cX12_search 176 = .ok (.iload_n 3, 1) := by decide +kernel
theorem dX12_search_177 : decode cX12_search 177 = .ok (.iaload, 1) := by decide +kernel
theorem dX12_search_178 : decode cX12_search 178 = .ok (.laload, 1) := by decide +kernel
theorem dX12_search_179 : decode cX12_search 179 = .ok (.iload 4, 2) := by decide +kernel
theorem dX12_search_181 : decode cX12_search 181 = .ok (.invokestatic 162, 3) := by decide +kernel
theorem dX12_search_184 : decode cX12_search 184 = .ok (.ifCond .ne 9, 3) := by decide +kernel
theorem dX12_search_187 : decode cX12_search 187 = .ok (.iinc 4 1, 3) := by decide +kernel
theorem dX12_search_190 : decode cX12_search 190 = .ok (.goto (-29), 3) := by decide +kernel
theorem dX12_search_193 : decode cX12_search 193 = .ok (.aload_n 0, 1) := by decide +kernel
theorem dX12_search_194 : decode cX12_search 194 = .ok (.getfield 93, 3) := by decide +kernel
theorem dX12_search_197 : decode cX12_search 197 = .ok (.iload_n 3, 1) := by decide +kernel
theorem dX12_search_198 : decode cX12_search 198 = .ok (.iload 4, 2) := by decide +kernel
theorem dX12_search_200 : decode cX12_search 200 = .ok (.iastore, 1) := by decide +kernel
theorem dX12_search_201 : decode cX12_search 201 = .ok (.iload 4, 2) := by decide +kernel
theorem dX12_search_203 : decode cX12_search 203 = .ok (.bipush 64, 2) := by decide +kernel
theorem dX12_search_205 : decode cX12_search 205 = .ok (.if_icmp .ne 9, 3) := by decide +kernel
theorem dX12_search_208 : decode cX12_search 208 = .ok (.iinc 3 (-1), 3) := by decide +kernel
theorem dX12_search_211 : decode cX12_search 211 = .ok (.goto 60, 3) := by decide +kernel
theorem dX12_search_214 : decode cX12_search 214 = .ok (.aload_n 0, 1) := by decide +kernel
theorem dX12_search_215 : decode cX12_search 215 = .ok (.getfield 362, 3) := by decide +kernel
theorem dX12_search_218 : decode cX12_search 218 = .ok (.ldc_w 368, 3) := by decide +kernel
theorem dX12_search_221 : decode cX12_search 221 = .ok (.if_icmp .ne 5, 3) := by decide +kernel
theorem dX12_search_224 : decode cX12_search 224 = .ok (.iconst 0, 1) := by decide +kernel
theorem dX12_search_225 : decode cX12_search 225 = .ok (.ireturn, 1) := by decide +kernel
theorem dX12_search_226 : decode cX12_search 226 = .ok (.aload_n 0, 1) := by decide +kernel
theorem dX12_search_227 : decode cX12_search 227 = .ok (.dup, 1) := by decide +kernel
theorem dX12_search_228 : decode cX12_search 228 = .ok (.getfield 362, 3) := by decide +kernel
theorem dX12_search_231 : decode cX12_search 231 = .ok (.iconst 1, 1) := by decide +kernel
theorem dX12_search_232 : decode cX12_search 232 = .ok (.iadd, 1) := by decide +kernel
theorem dX12_search_233 : decode cX12_search 233 = .ok (.putfield 362, 3) := by decide +kernel
theorem dX12_search_236 : decode cX12_search 236 = .ok (.aload_n 0, 1) := by decide +kernel
theorem dX12_search_237 : decode cX12_search 237 = .ok (.iload_n 3, 1) := by decide +kernel
theorem dX12_search_238 : decode cX12_search 238 = .ok (.invokevirtual 369, 3) := by decide +kernel
theorem dX12_search_241 : decode cX12_search 241 = .ok (.ifCond .eq 30, 3) := by decide +kernel
theorem dX12_search_244 : decode cX12_search 244 = .ok (.iload_n 3, 1) := by decide +kernel
theorem dX12_search_245 : decode cX12_search 245 = .ok (.aload_n 0, 1) := by decide +kernel
theorem dX12_search_246 : decode cX12_search 246 = .ok (.getfield 335, 3) := by decide +kernel
theorem dX12_search_249 : decode cX12_search 249 = .ok (.iconst 1, 1) := by decide +kernel
theorem dX12_search_250 : decode cX12_search 250 = .ok (.isub, 1) := by decide +kernel
theorem dX12_search_251 : decode cX12_search 251 = .ok (.if_icmp .ne 10, 3) := by decide +kernel
theorem dX12_search_254 : decode cX12_search 254 = .ok (.aload_n 0, 1) := by decide +kernel
theorem dX12_search_255 : decode cX12_search 255 = .ok (.invokevirtual 372, 3) := by decide +kernel
theorem dX12_search_258 : decode cX12_search 258 = .ok (.goto 13, 3) := by decide +kernel
theorem dX12_search_261 : decode cX12_search 261 = .ok (.iinc 3 1, 3) := by decide +kernel
theorem dX12_search_264 : decode cX12_search 264 = .ok (.aload_n 0, 1) := by decide +kernel
theorem dX12_search_265 : decode cX12_search 265 = .ok (.getfield 93, 3) := by decide +kernel
theorem dX12_search_268 : decode cX12_search 268 = .ok (.iload_n 3, 1) := by decide +kernel
theorem dX12_search_269 : decode cX12_search 269 = .ok (.iconst (-1), 1) := by decide +kernel
theorem dX12_search_270 : decode cX12_search 270 = .ok (.iastore, 1) := by decide +kernel
theorem dX12_search_271 : decode cX12_search 271 = .ok (.goto (-124), 3) := by decide +kernel
theorem dX12_search_274 : decode cX12_search 274 = .ok (.iconst 1, 1) := by decide +kernel
theorem dX12_search_275 : decode cX12_search 275 = .ok (.ireturn, 1) := by decide +kernel
theorem dX12_searchFor_0 : decode cX12_searchFor 0 = .ok (.aload_n 0, 1) := by decide +kernel
theorem dX12_searchFor_1 : decode cX12_searchFor 1 = .ok (.iload_n 2, 1) := by decide +kernel
theorem dX12_searchFor_2 : decode cX12_searchFor 2 = .ok (.putfield 344, 3) := by decide +kernel
theorem dX12_searchFor_5 : decode cX12_searchFor 5 = .ok (.aload_n 0, 1) := by decide +kernel
theorem dX12_searchFor_6 : decode cX12_searchFor 6 = .ok (.iconst (-1), 1) := by decide +kernel
theorem dX12_searchFor_7 : decode cX12_searchFor 7 = .ok (.putfield 350, 3) := by decide +kernel
theorem dX12_searchFor_10 : decode cX12_searchFor 10 = .ok (.aload_n 0, 1) := by decide +kernel
theorem dX12_searchFor_11 : decode cX12_searchFor 11 = .ok (.iload_n 1, 1) := by decide +kernel
theorem dX12_searchFor_12 : decode cX12_searchFor 12 = .ok (.invokevirtual 375, 3) := by decide +kernel
theorem dX12_searchFor_15 : decode cX12_searchFor 15 = .ok (.ireturn, 1) := by decide +kernel
theorem dX12_seek_0 : decode cX12_seek 0 = .ok (.aload_n 0, 1) := by decide +kernel
theorem dX12_seek_1 : decode cX12_seek 1 = .ok (.iload_n 1, 1) := by decide +kernel
theorem dX12_seek_2 : decode cX12_seek 2 = .ok (.invokevirtual 245, 3) := by decide +kernel
theorem dX12_seek_5 : decode cX12_seek 5 = .ok (.ifCond .eq 5, 3) := by decide +kernel
theorem dX12_seek_8 : decode cX12_seek 8 = .ok (.iconst (-1), 1) := by decide +kernel
theorem dX12_seek_9 : decode cX12_seek 9 = .ok (.ireturn, 1) := by decide +kernel
theorem dX12_seek_10 : decode cX12_seek 10 = .ok (.aload_n 0, 1) := by decide +kernel
theorem dX12_seek_11 : decode cX12_seek 11 = .ok (.iload_n 1, 1) := by decide +kernel
theorem dX12_seek_12 : decode cX12_seek 12 = .ok (.invokevirtual 460, 3) := by decide +kernel
theorem dX12_seek_15 : decode cX12_seek 15 = .ok (.ifCond .ne 6, 3) := by decide +kernel
theorem dX12_seek_18 : decode cX12_seek 18 = .ok (.bipush (-3), 2) := by decide +kernel
theorem dX12_seek_20 : decode cX12_seek 20 = .ok (.ireturn, 1) := by decide +kernel
theorem dX12_seek_21 : decode cX12_seek 21 = .ok (.aload_n 0, 1) := by decide +kernel
theorem dX12_seek_22 : decode cX12_seek 22 = .ok (.iload_n 1, 1) := by decide +kernel
theorem dX12_seek_23 : decode cX12_seek 23 = .ok (.iload_n 2, 1) := by decide +kernel
theorem dX12_seek_24 : decode cX12_seek 24 = .ok (.invokevirtual 463, 3) := by decide +kernel
theorem dX12_seek_27 : decode cX12_seek 27 = .ok (.iload_n 2, 1) := by decide +kernel
theorem dX12_seek_28 : decode cX12_seek 28 = .ok (.i2l, 1) := by decide +kernel
theorem dX12_seek_29 : decode cX12_seek 29 = .ok (.lconst 0, 1) := by decide +kernel
theorem dX12_seek_30 : decode cX12_seek 30 = .ok (.aload_n 0, 1) := by decide +kernel
theorem dX12_seek_31 : decode cX12_seek 31 = .ok (.getfield 430, 3) := by decide +kernel
theorem dX12_seek_34 : decode cX12_seek 34 = .ok (.i2l, 1) := by decide +kernel
theorem dX12_seek_35 : decode cX12_seek 35 = .ok (.lconst 1, 1) := by decide +kernel
theorem dX12_seek_36 : decode cX12_seek 36 = .ok (.lsub, 1) := by decide +kernel
theorem dX12_seek_37 : decode cX12_seek 37 = .ok (.invokestatic 175, 3) := by decide +kernel
theorem dX12_seek_40 : decode cX12_seek 40 = .ok (.ifCond .eq 7, 3) := by decide +kernel
theorem dX12_seek_43 : decode cX12_seek 43 = .ok (.iconst 0, 1) := by decide +kernel
theorem dX12_seek_44 : decode cX12_seek 44 = .ok (.goto 4, 3) := by decide +kernel
theorem dX12_seek_47 : decode cX12_seek 47 = .ok (.iconst (-1), 1) := by decide +kernel
theorem dX12_seek_48 : decode cX12_seek 48 = .ok (.ireturn, 1) := by decide +kernel
theorem dX12_seekLiars_0 : decode cX12_seekLiars 0 = .ok (.aload_n 0, 1) := by decide +kernel
theorem dX12_seekLiars_1 : decode cX12_seekLiars 1 = .ok (.getfield 196, 3) := by decide +kernel
theorem dX12_seekLiars_4 : decode cX12_seekLiars 4 = .ok (.ifCond .eq 4, 3) := by decide +kernel
theorem dX12_seekLiars_7 : decode cX12_seekLiars 7 = .ok (.return_, 1) := by decide +kernel
theorem dX12_seekLiars_8 : decode cX12_seekLiars 8 = .ok (.aload_n 0, 1) := by decide +kernel
theorem dX12_seekLiars_9 : decode cX12_seekLiars 9 = .ok (.iconst 1, 1) := by decide +kernel
theorem dX12_seekLiars_10 : decode cX12_seekLiars 10 = .ok (.putfield 196, 3) := by decide +kernel
theorem dX12_seekLiars_13 : decode cX12_seekLiars 13 = .ok (.aload_n 0, 1) := by decide +kernel
theorem dX12_seekLiars_14 : decode cX12_seekLiars 14 = .ok (.iconst 0, 1) := by decide +kernel
theorem dX12_seekLiars_15 : decode cX12_seekLiars 15 = .ok (.putfield 478, 3) := by decide +kernel
theorem dX12_seekLiars_18 : decode cX12_seekLiars 18 = .ok (.iconst 0, 1) := by decide +kernel
theorem dX12_seekLiars_19 : decode cX12_seekLiars 19 = .ok (.istore_n 1, 1) := by decide +kernel
theorem dX12_seekLiars_20 : decode cX12_seekLiars 20 = .ok (.iload_n 1, 1) := by decide +kernel
theorem dX12_seekLiars_21 : decode cX12_seekLiars 21 = .ok (.bipush 24, 2) := by decide +kernel
theorem dX12_seekLiars_23 : decode cX12_seekLiars 23 = .ok (.if_icmp .ge 16, 3) := by decide +kernel
theorem dX12_seekLiars_26 : decode cX12_seekLiars 26 = .ok (.aload_n 0, 1) := by decide +kernel
theorem dX12_seekLiars_27 : decode cX12_seekLiars 27 = .ok (.getfield 117, 3) := by decide +kernel
theorem dX12_seekLiars_30 : decode cX12_seekLiars 30 = .ok (.iload_n 1, 1) := by decide +kernel
theorem dX12_seekLiars_31 : decode cX12_seekLiars 31 = .ok (.iconst 0, 1) := by decide +kernel
theorem dX12_seekLiars_32 : decode cX12_seekLiars 32 = .ok (.iastore, 1) := by decide +kernel
theorem dX12_seekLiars_33 : decode cX12_seekLiars 33 = .ok (.iinc 1 1, 3) := by decide +kernel
theorem dX12_seekLiars_36 : decode cX12_seekLiars 36 = .ok (.goto (-16), 3) := by decide +kernel
theorem dX12_seekLiars_39 : decode cX12_seekLiars 39 = .ok (.aload_n 0, 1) := by decide +kernel
theorem dX12_seekLiars_40 : decode cX12_seekLiars 40 = .ok (.iconst 0, 1) := by decide +kernel
theorem dX12_seekLiars_41 : decode cX12_seekLiars 41 = .ok (.putfield 481, 3) := by decide +kernel
theorem dX12_seekLiars_44 : decode cX12_seekLiars 44 = .ok (.aload_n 0, 1) := by decide +kernel
theorem dX12_seekLiars_45 : decode cX12_seekLiars 45 = .ok (.iconst (-1), 1) := by decide +kernel
theorem dX12_seekLiars_46 : decode cX12_seekLiars 46 = .ok (.iconst (-1), 1) := by decide +kernel
theorem dX12_seekLiars_47 : decode cX12_seekLiars 47 = .ok (.invokevirtual 484, 3) := by decide +kernel
theorem dX12_seekLiars_50 : decode cX12_seekLiars 50 = .ok (.ifCond .eq 10, 3) := by decide +kernel
theorem dX12_seekLiars_53 : decode cX12_seekLiars 53 = .ok (.aload_n 0, 1) := by decide +kernel
theorem dX12_seekLiars_54 : decode cX12_seekLiars 54 = .ok (.iconst (-1), 1) := by decide +kernel
theorem dX12_seekLiars_55 : decode cX12_seekLiars 55 = .ok (.iconst (-1), 1) := by decide +kernel
theorem dX12_seekLiars_56 : decode cX12_seekLiars 56 = .ok (.invokevirtual 487, 3) := by decide +kernel
theorem dX12_seekLiars_59 : decode cX12_seekLiars 59 = .ok (.return_, 1) := by decide +kernel
theorem dX12_seekLiars_60 : decode cX12_seekLiars 60 = .ok (.aload_n 0, 1) := by decide +kernel
theorem dX12_seekLiars_61 : decode cX12_seekLiars 61 = .ok (.iconst 1, 1) := by decide +kernel
theorem dX12_seekLiars_62 : decode cX12_seekLiars 62 = .ok (.putfield 481, 3) := by decide +kernel
theorem dX12_seekLiars_65 : decode cX12_seekLiars 65 = .ok (.iconst 0, 1) := by decide +kernel
theorem dX12_seekLiars_66 : decode cX12_seekLiars 66 = .ok (.istore_n 1, 1) := by decide +kernel
theorem dX12_seekLiars_67 : decode cX12_seekLiars 67 = .ok (.iload_n 1, 1) := by decide +kernel
theorem dX12_seekLiars_68 : decode cX12_seekLiars 68 = .ok (.aload_n 0, 1) := by decide +kernel
theorem dX12_seekLiars_69 : decode cX12_seekLiars 69 = .ok (.getfield 183, 3) := by decide +kernel
theorem dX12_seekLiars_72 : decode cX12_seekLiars 72 = .ok (.if_icmp .ge 32, 3) := by decide +kernel
theorem dX12_seekLiars_75 : decode cX12_seekLiars 75 = .ok (.aload_n 0, 1) := by decide +kernel
theorem dX12_seekLiars_76 : decode cX12_seekLiars 76 = .ok (.iload_n 1, 1) := by decide +kernel
theorem dX12_seekLiars_77 : decode cX12_seekLiars 77 = .ok (.invokevirtual 490, 3) := by decide +kernel
theorem dX12_seekLiars_80 : decode cX12_seekLiars 80 = .ok (.ifCond .eq 18, 3) := by decide +kernel
theorem dX12_seekLiars_83 : decode cX12_seekLiars 83 = .ok (.aload_n 0, 1) := by decide +kernel
theorem dX12_seekLiars_84 : decode cX12_seekLiars 84 = .ok (.iload_n 1, 1) := by decide +kernel
theorem dX12_seekLiars_85 : decode cX12_seekLiars 85 = .ok (.iconst (-1), 1) := by decide +kernel
theorem dX12_seekLiars_86 : decode cX12_seekLiars 86 = .ok (.invokevirtual 484, 3) := by decide +kernel
theorem dX12_seekLiars_89 : decode cX12_seekLiars 89 = .ok (.ifCond .eq 9, 3) := by decide +kernel
theorem dX12_seekLiars_92 : decode cX12_seekLiars 92 = .ok (.aload_n 0, 1) := by decide +kernel
theorem dX12_seekLiars_93 : decode cX12_seekLiars 93 = .ok (.iload_n 1, 1) := by decide +kernel
theorem dX12_seekLiars_94 : decode cX12_seekLiars 94 = .ok (.iconst (-1), 1) := by decide +kernel
theorem dX12_seekLiars_95 : decode cX12_seekLiars 95 = .ok (.invokevirtual 487, 3) := by decide +kernel
theorem dX12_seekLiars_98 : decode cX12_seekLiars 98 = .ok (.iinc 1 1, 3) := by decide +kernel
theorem dX12_seekLiars_101 : decode cX12_seekLiars 101 = .ok (.goto (-34), 3) := by decide +kernel
theorem dX12_seekLiars_104 : decode cX12_seekLiars 104 = .ok (.aload_n 0, 1) := by decide +kernel
theorem dX12_seekLiars_105 : decode cX12_seekLiars 105 = .ok (.getfield 478, 3) := by decide +kernel
theorem dX12_seekLiars_108 : decode cX12_seekLiars 108 = .ok (.ifCond .le 4, 3) := by decide +kernel
theorem dX12_seekLiars_111 : decode cX12_seekLiars 111 = .ok (.return_, 1) := by decide +kernel
theorem dX12_seekLiars_112 : decode cX12_seekLiars 112 = .ok (.aload_n 0, 1) := by decide +kernel
theorem dX12_seekLiars_113 : decode cX12_seekLiars 113 = .ok (.iconst 2, 1) := by decide +kernel
theorem dX12_seekLiars_114 : decode cX12_seekLiars 114 = .ok (.putfield 481, 3) := by decide +kernel
theorem dX12_seekLiars_117 : decode cX12_seekLiars 117 = .ok (.iconst 0, 1) := by decide +kernel
theorem dX12_seekLiars_118 : decode cX12_seekLiars 118 = .ok (.istore_n 1, 1) := by decide +kernel
theorem dX12_seekLiars_119 : decode cX12_seekLiars 119 = .ok (.iload_n 1, 1) := by decide +kernel
theorem dX12_seekLiars_120 : decode cX12_seekLiars 120 = .ok (.aload_n 0, 1) := by decide +kernel
theorem dX12_seekLiars_121 : decode cX12_seekLiars 121 = .ok (.getfield 183, 3) := by decide +kernel
theorem dX12_seekLiars_124 : decode cX12_seekLiars 124 = .ok (.if_icmp .ge 58, 3) := by decide +kernel
theorem dX12_seekLiars_127 : decode cX12_seekLiars 127 = .ok (.iload_n 1, 1) := by decide +kernel
theorem dX12_seekLiars_128 : decode cX12_seekLiars 128 = .ok (.iconst 1, 1) := by decide +kernel
theorem dX12_seekLiars_129 : decode cX12_seekLiars 129 = .ok (.iadd, 1) := by decide +kernel
theorem dX12_seekLiars_130 : decode cX12_seekLiars 130 = .ok (.istore_n 2, 1) := by decide +kernel
theorem dX12_seekLiars_131 : decode cX12_seekLiars 131 = .ok (.iload_n 2, 1) := by decide +kernel
theorem dX12_seekLiars_132 : decode cX12_seekLiars 132 = .ok (.aload_n 0, 1) := by decide +kernel
theorem dX12_seekLiars_133 : decode cX12_seekLiars 133 = .ok (.getfield 183, 3) := by decide +kernel
theorem dX12_seekLiars_136 : decode cX12_seekLiars 136 = .ok (.if_icmp .ge 40, 3) := by decide +kernel
theorem dX12_seekLiars_139 : decode cX12_seekLiars 139 = .ok (.aload_n 0, 1) := by decide +kernel
theorem dX12_seekLiars_140 : decode cX12_seekLiars 140 = .ok (.iload_n 1, 1) := by decide +kernel
theorem dX12_seekLiars_141 : decode cX12_seekLiars 141 = .ok (.invokevirtual 490, 3) := by decide +kernel
theorem dX12_seekLiars_144 : decode cX12_seekLiars 144 = .ok (.ifCond .eq 26, 3) := by decide +kernel
theorem dX12_seekLiars_147 : decode cX12_seekLiars 147 = .ok (.aload_n 0, 1) := by decide +kernel
theorem dX12_seekLiars_148 : decode cX12_seekLiars 148 = .ok (.iload_n 2, 1) := by decide +kernel
theorem dX12_seekLiars_149 : decode cX12_seekLiars 149 = .ok (.invokevirtual 490, 3) := by decide +kernel
theorem dX12_seekLiars_152 : decode cX12_seekLiars 152 = .ok (.ifCond .eq 18, 3) := by decide +kernel
theorem dX12_seekLiars_155 : decode cX12_seekLiars 155 = .ok (.aload_n 0, 1) := by decide +kernel
theorem dX12_seekLiars_156 : decode cX12_seekLiars 156 = .ok (.iload_n 1, 1) := by decide +kernel
theorem dX12_seekLiars_157 : decode cX12_seekLiars 157 = .ok (.iload_n 2, 1) := by decide +kernel
theorem dX12_seekLiars_158 : decode cX12_seekLiars 158 = .ok (.invokevirtual 484, 3) := by decide +kernel
theorem dX12_seekLiars_161 : decode cX12_seekLiars 161 = .ok (.ifCond .eq 9, 3) := by decide +kernel
theorem dX12_seekLiars_164 : decode cX12_seekLiars 164 = .ok (.aload_n 0, 1) := by decide +kernel
theorem dX12_seekLiars_165 : decode cX12_seekLiars 165 = .ok (.iload_n 1, 1) := by decide +kernel
theorem dX12_seekLiars_166 : decode cX12_seekLiars 166 = .ok (.iload_n 2, 1) := by decide +kernel
theorem dX12_seekLiars_167 : decode cX12_seekLiars 167 = .ok (.invokevirtual 487, 3) := by decide +kernel
theorem dX12_seekLiars_170 : decode cX12_seekLiars 170 = .ok (.iinc 2 1, 3) := by decide +kernel
theorem dX12_seekLiars_173 : decode cX12_seekLiars 173 = .ok (.goto (-42), 3) := by decide +kernel
theorem dX12_seekLiars_176 : decode cX12_seekLiars 176 = .ok (.iinc 1 1, 3) := by decide +kernel
theorem dX12_seekLiars_179 : decode cX12_seekLiars 179 = .ok (.goto (-60), 3) := by decide +kernel
theorem dX12_seekLiars_182 : decode cX12_seekLiars 182 = .ok (.aload_n 0, 1) := by decide +kernel
theorem dX12_seekLiars_183 : decode cX12_seekLiars 183 = .ok (.aload_n 0, 1) := by decide +kernel
theorem dX12_seekLiars_184 : decode cX12_seekLiars 184 = .ok (.getfield 478, 3) := by decide +kernel
theorem dX12_seekLiars_187 : decode cX12_seekLiars 187 = .ok (.ifCond .le 7, 3) := by decide +kernel
theorem dX12_seekLiars_190 : decode cX12_seekLiars 190 = .ok (.iconst 2, 1) := by decide +kernel
theorem dX12_seekLiars_191 : decode cX12_seekLiars 191 = .ok (.goto 5, 3) := by decide +kernel
theorem dX12_seekLiars_194 : decode cX12_seekLiars 194 = .ok (.bipush (-9), 2) := by decide +kernel
theorem dX12_seekLiars_196 : decode cX12_seekLiars 196 = .ok (.putfield 481, 3) := by decide +kernel
theorem dX12_seekLiars_199 : decode cX12_seekLiars 199 = .ok (.return_, 1) := by decide +kernel
theorem dX12_sheet_0 : decode cX12_sheet 0 = .ok (.iload_n 1, 1) := by decide +kernel
theorem dX12_sheet_1 : decode cX12_sheet 1 = .ok (.invokestatic 219, 3) := by decide +kernel
theorem dX12_sheet_4 : decode cX12_sheet 4 = .ok (.ifCond .eq 9, 3) := by decide +kernel
theorem dX12_sheet_7 : decode cX12_sheet 7 = .ok (.aload_n 0, 1) := by decide +kernel
theorem dX12_sheet_8 : decode cX12_sheet 8 = .ok (.iconst (-1), 1) := by decide +kernel
theorem dX12_sheet_9 : decode cX12_sheet 9 = .ok (.invokevirtual 222, 3) := by decide +kernel
theorem dX12_sheet_12 : decode cX12_sheet 12 = .ok (.ireturn, 1) := by decide +kernel
theorem dX12_sheet_13 : decode cX12_sheet 13 = .ok (.iload_n 2, 1) := by decide +kernel
theorem dX12_sheet_14 : decode cX12_sheet 14 = .ok (.i2l, 1) := by decide +kernel
theorem dX12_sheet_15 : decode cX12_sheet 15 = .ok (.lconst 0, 1) := by decide +kernel
theorem dX12_sheet_16 : decode cX12_sheet 16 = .ok (.ldc2_w 226, 3) := by decide +kernel
theorem dX12_sheet_19 : decode cX12_sheet 19 = .ok (.invokestatic 175, 3) := by decide +kernel
theorem dX12_sheet_22 : decode cX12_sheet 22 = .ok (.ifCond .eq 9, 3) := by decide +kernel
theorem dX12_sheet_25 : decode cX12_sheet 25 = .ok (.iload_n 3, 1) := by decide +kernel
theorem dX12_sheet_26 : decode cX12_sheet 26 = .ok (.bipush 64, 2) := by decide +kernel
theorem dX12_sheet_28 : decode cX12_sheet 28 = .ok (.if_icmp .le 10, 3) := by decide +kernel
theorem dX12_sheet_31 : decode cX12_sheet 31 = .ok (.aload_n 0, 1) := by decide +kernel
theorem dX12_sheet_32 : decode cX12_sheet 32 = .ok (.bipush (-2), 2) := by decide +kernel
theorem dX12_sheet_34 : decode cX12_sheet 34 = .ok (.invokevirtual 222, 3) := by decide +kernel
theorem dX12_sheet_37 : decode cX12_sheet 37 = .ok (.ireturn, 1) := by decide +kernel
theorem dX12_sheet_38 : decode cX12_sheet 38 = .ok (.iload_n 3, 1) := by decide +kernel
theorem dX12_sheet_39 : decode cX12_sheet 39 = .ok (.ifCond .ge 9, 3) := by decide +kernel
theorem dX12_sheet_42 : decode cX12_sheet 42 = .ok (.aload_n 0, 1) := by decide +kernel
theorem dX12_sheet_43 : decode cX12_sheet 43 = .ok (.iconst 4, 1) := by decide +kernel
theorem dX12_sheet_44 : decode cX12_sheet 44 = .ok (.invokevirtual 228, 3) := by decide +kernel
theorem dX12_sheet_47 : decode cX12_sheet 47 = .ok (.ireturn, 1) := by decide +kernel
theorem dX12_sheet_48 : decode cX12_sheet 48 = .ok (.aload_n 0, 1) := by decide +kernel
theorem dX12_sheet_49 : decode cX12_sheet 49 = .ok (.getfield 141, 3) := by decide +kernel
theorem dX12_sheet_52 : decode cX12_sheet 52 = .ok (.iload_n 1, 1) := by decide +kernel
theorem dX12_sheet_53 : decode cX12_sheet 53 = .ok (.iload_n 3, 1) := by decide +kernel
theorem dX12_sheet_54 : decode cX12_sheet 54 = .ok (.iastore, 1) := by decide +kernel
theorem dX12_sheet_55 : decode cX12_sheet 55 = .ok (.aload_n 0, 1) := by decide +kernel
theorem dX12_sheet_56 : decode cX12_sheet 56 = .ok (.getfield 144, 3) := by decide +kernel
theorem dX12_sheet_59 : decode cX12_sheet 59 = .ok (.iload_n 1, 1) := by decide +kernel
theorem dX12_sheet_60 : decode cX12_sheet 60 = .ok (.iload_n 2, 1) := by decide +kernel
theorem dX12_sheet_61 : decode cX12_sheet 61 = .ok (.iastore, 1) := by decide +kernel
theorem dX12_sheet_62 : decode cX12_sheet 62 = .ok (.iconst 0, 1) := by decide +kernel
theorem dX12_sheet_63 : decode cX12_sheet 63 = .ok (.istore 4, 2) := by decide +kernel
theorem dX12_sheet_65 : decode cX12_sheet 65 = .ok (.iload 4, 2) := by decide +kernel
theorem dX12_sheet_67 : decode cX12_sheet 67 = .ok (.iload_n 3, 1) := by decide +kernel
theorem dX12_sheet_68 : decode cX12_sheet 68 = .ok (.if_icmp .ge 22, 3) := by decide +kernel
theorem dX12_sheet_71 : decode cX12_sheet 71 = .ok (.aload_n 0, 1) := by decide +kernel
theorem dX12_sheet_72 : decode cX12_sheet 72 = .ok (.getfield 147, 3) := by decide +kernel
theorem dX12_sheet_75 : decode cX12_sheet 75 = .ok (.bipush 64, 2) := by decide +kernel
theorem dX12_sheet_77 : decode cX12_sheet 77 = .ok (.iload_n 1, 1) := by decide +kernel
theorem dX12_sheet_78 : decode cX12_sheet 78 = .ok (.imul, 1) := by decide +kernel
theorem dX12_sheet_79 : decode cX12_sheet 79 = .ok (.iload 4, 2) := by decide +kernel
theorem dX12_sheet_81 : decode cX12_sheet 81 = .ok (.iadd, 1) := by decide +kernel
theorem dX12_sheet_82 : decode cX12_sheet 82 = .ok (.lconst 0, 1) := by decide +kernel
theorem dX12_sheet_83 : decode cX12_sheet 83 = .ok (.lastore, 1) := by decide +kernel
theorem dX12_sheet_84 : decode cX12_sheet 84 = .ok (.iinc 4 1, 3) := by decide +kernel
theorem dX12_sheet_87 : decode cX12_sheet 87 = .ok (.goto (-22), 3) := by decide +kernel
theorem dX12_sheet_90 : decode cX12_sheet 90 = .ok (.aload_n 0, 1) := by decide +kernel
theorem dX12_sheet_91 : decode cX12_sheet 91 = .ok (.iconst 1, 1) := by decide +kernel
theorem dX12_sheet_92 : decode cX12_sheet 92 = .ok (.invokevirtual 222, 3) := by decide +kernel
theorem dX12_sheet_95 : decode cX12_sheet 95 = .ok (.ireturn, 1) := by decide +kernel
theorem dX12_sizeOf_0 : decode cX12_sizeOf 0 = .ok (.iload_n 0, 1) := by decide +kernel
theorem dX12_sizeOf_1 : decode cX12_sizeOf 1 = .ok (.ifCond .ge 8, 3) := by decide +kernel
theorem dX12_sizeOf_4 : decode cX12_sizeOf 4 = .ok (.iload_n 0, 1) := by decide +kernel
theorem dX12_sizeOf_5 : decode cX12_sizeOf 5 = .ok (.ineg, 1) := by decide +kernel
theorem dX12_sizeOf_6 : decode cX12_sizeOf 6 = .ok (.goto 4, 3) := by decide +kernel
theorem dX12_sizeOf_9 : decode cX12_sizeOf 9 = .ok (.iload_n 0, 1) := by decide +kernel
theorem dX12_sizeOf_10 : decode cX12_sizeOf 10 = .ok (.ireturn, 1) := by decide +kernel
theorem dX12_stays_0 : decode cX12_stays 0 = .ok (.aload_n 0, 1) := by decide +kernel
theorem dX12_stays_1 : decode cX12_stays 1 = .ok (.getfield 93, 3) := by decide +kernel
theorem dX12_stays_4 : decode cX12_stays 4 = .ok (.iload_n 1, 1) := by decide +kernel
theorem dX12_stays_5 : decode cX12_stays 5 = .ok (.iaload, 1) := by decide +kernel
theorem dX12_stays_6 : decode cX12_stays 6 = .ok (.istore_n 2, 1) := by decide +kernel
theorem dX12_stays_7 : decode cX12_stays 7 = .ok (.aload_n 0, 1) := by decide +kernel
theorem dX12_stays_8 : decode cX12_stays 8 = .ok (.getfield 207, 3) := by decide +kernel
theorem dX12_stays_11 : decode cX12_stays 11 = .ok (.ifCond .eq 13, 3) := by decide +kernel
theorem dX12_stays_14 : decode cX12_stays 14 = .ok (.aload_n 0, 1) := by decide +kernel
theorem dX12_stays_15 : decode cX12_stays 15 = .ok (.iload_n 2, 1) := by decide +kernel
theorem dX12_stays_16 : decode cX12_stays 16 = .ok (.invokevirtual 338, 3) := by decide +kernel
theorem dX12_stays_19 : decode cX12_stays 19 = .ok (.ifCond .eq 5, 3) := by decide +kernel
theorem dX12_stays_22 : decode cX12_stays 22 = .ok (.iconst 0, 1) := by decide +kernel
theorem dX12_stays_23 : decode cX12_stays 23 = .ok (.ireturn, 1) := by decide +kernel
theorem dX12_stays_24 : decode cX12_stays 24 = .ok (.iconst 1, 1) := by decide +kernel
theorem dX12_stays_25 : decode cX12_stays 25 = .ok (.istore_n 3, 1) := by decide +kernel
theorem dX12_stays_26 : decode cX12_stays 26 = .ok (.iconst 0, 1) := by decide +kernel
theorem dX12_stays_27 : decode cX12_stays 27 = .ok (.istore 4, 2) := by decide +kernel
theorem dX12_stays_29 : decode cX12_stays 29 = .ok (.iload 4, 2) := by decide +kernel
theorem dX12_stays_31 : decode cX12_stays 31 = .ok (.iload_n 1, 1) := by decide +kernel
theorem dX12_stays_32 : decode cX12_stays 32 = .ok (.if_icmp .ge 67, 3) := by decide +kernel
theorem dX12_stays_35 : decode cX12_stays 35 = .ok (.iload_n 3, 1) := by decide +kernel
theorem dX12_stays_36 : decode cX12_stays 36 = .ok (.ifCond .eq 63, 3) := by decide +kernel
theorem dX12_stays_39 : decode cX12_stays 39 = .ok (.aload_n 0, 1) := by decide +kernel
theorem dX12_stays_40 : decode cX12_stays 40 = .ok (.getfield 96, 3) := by decide +kernel
theorem dX12_stays_43 : decode cX12_stays 43 = .ok (.bipush 64, 2) := by decide +kernel
theorem dX12_stays_45 : decode cX12_stays 45 = .ok (.bipush 9, 2) := by decide +kernel
theorem dX12_stays_47 : decode cX12_stays 47 = .ok (.iload 4, 2) := by decide +kernel
theorem dX12_stays_49 : decode cX12_stays 49 = .ok (.imul, 1) := by decide +kernel
theorem dX12_stays_50 : decode cX12_stays 50 = .ok (.iload_n 1, 1) := by decide +kernel
theorem dX12_stays_51 : decode cX12_stays 51 = .ok (.iadd, 1) := by decide +kernel
theorem dX12_stays_52 : decode cX12_stays 52 = .ok (.imul, 1) := by decide +kernel
theorem dX12_stays_53 : decode cX12_stays 53 = .ok (.aload_n 0, 1) := by decide +kernel
theorem dX12_stays_54 : decode cX12_stays 54 = .ok (.getfield 93, 3) := by decide +kernel
theorem dX12_stays_57 : decode cX12_stays 57 = .ok (.iload 4, 2) := by decide +kernel
theorem dX12_stays_59 : decode cX12_stays 59 = .ok (.iaload, 1) := by decide +kernel
theorem dX12_stays_60 : decode cX12_stays 60 = .ok (.iadd, 1) := by decide +kernel
theorem dX12_stays_61 : decode cX12_stays 61 = .ok (.laload, 1) := by decide +kernel
theorem dX12_stays_62 : decode cX12_stays 62 = .ok (.iload_n 2, 1) := by decide +kernel
theorem dX12_stays_63 : decode cX12_stays 63 = .ok (.invokestatic 162, 3) := by decide +kernel
theorem dX12_stays_66 : decode cX12_stays 66 = .ok (.ifCond .eq 25, 3) := by decide +kernel
theorem dX12_stays_69 : decode cX12_stays 69 = .ok (.aload_n 0, 1) := by decide +kernel
theorem dX12_stays_70 : decode cX12_stays 70 = .ok (.getfield 207, 3) := by decide +kernel
theorem dX12_stays_73 : decode cX12_stays 73 = .ok (.ifCond .eq 14, 3) := by decide +kernel
theorem dX12_stays_76 : decode cX12_stays 76 = .ok (.aload_n 0, 1) := by decide +kernel
theorem dX12_stays_77 : decode cX12_stays 77 = .ok (.getfield 93, 3) := by decide +kernel
theorem dX12_stays_80 : decode cX12_stays 80 = .ok (.iload 4, 2) := by decide +kernel
theorem dX12_stays_82 : decode cX12_stays 82 = .ok (.iaload, 1) := by decide +kernel
theorem dX12_stays_83 : decode cX12_stays 83 = .ok (.iload_n 2, 1) := by decide +kernel
theorem dX12_stays_84 : decode cX12_stays 84 = .ok (.if_icmp .eq 7, 3) := by decide +kernel
theorem dX12_stays_87 : decode cX12_stays 87 = .ok (.iconst 1, 1) := by decide +kernel
theorem dX12_stays_88 : decode cX12_stays 88 = .ok (.goto 4, 3) := by decide +kernel
theorem dX12_stays_91 : decode cX12_stays 91 = .ok (.iconst 0, 1) := by decide +kernel
theorem dX12_stays_92 : decode cX12_stays 92 = .ok (.istore_n 3, 1) := by decide +kernel
theorem dX12_stays_93 : decode cX12_stays 93 = .ok (.iinc 4 1, 3) := by decide +kernel
theorem dX12_stays_96 : decode cX12_stays 96 = .ok (.goto (-67), 3) := by decide +kernel
theorem dX12_stays_99 : decode cX12_stays 99 = .ok (.iload_n 3, 1) := by decide +kernel
theorem dX12_stays_100 : decode cX12_stays 100 = .ok (.ireturn, 1) := by decide +kernel
theorem dX12_sure_0 : decode cX12_sure 0 = .ok (.aload_n 0, 1) := by decide +kernel
theorem dX12_sure_1 : decode cX12_sure 1 = .ok (.iload_n 1, 1) := by decide +kernel
theorem dX12_sure_2 : decode cX12_sure 2 = .ok (.invokevirtual 245, 3) := by decide +kernel
theorem dX12_sure_5 : decode cX12_sure 5 = .ok (.ifCond .eq 5, 3) := by decide +kernel
theorem dX12_sure_8 : decode cX12_sure 8 = .ok (.iconst (-1), 1) := by decide +kernel
theorem dX12_sure_9 : decode cX12_sure 9 = .ok (.ireturn, 1) := by decide +kernel
theorem dX12_sure_10 : decode cX12_sure 10 = .ok (.aload_n 0, 1) := by decide +kernel
theorem dX12_sure_11 : decode cX12_sure 11 = .ok (.iload_n 1, 1) := by decide +kernel
theorem dX12_sure_12 : decode cX12_sure 12 = .ok (.iconst (-1), 1) := by decide +kernel
theorem dX12_sure_13 : decode cX12_sure 13 = .ok (.invokevirtual 378, 3) := by decide +kernel
theorem dX12_sure_16 : decode cX12_sure 16 = .ok (.ifCond .ne 6, 3) := by decide +kernel
theorem dX12_sure_19 : decode cX12_sure 19 = .ok (.bipush (-6), 2) := by decide +kernel
theorem dX12_sure_21 : decode cX12_sure 21 = .ok (.ireturn, 1) := by decide +kernel
theorem dX12_sure_22 : decode cX12_sure 22 = .ok (.aload_n 0, 1) := by decide +kernel
theorem dX12_sure_23 : decode cX12_sure 23 = .ok (.iload_n 1, 1) := by decide +kernel
theorem dX12_sure_24 : decode cX12_sure 24 = .ok (.invokevirtual 385, 3) := by decide +kernel
theorem dX12_sure_27 : decode cX12_sure 27 = .ok (.istore_n 2, 1) := by decide +kernel
theorem dX12_sure_28 : decode cX12_sure 28 = .ok (.iconst 0, 1) := by decide +kernel
theorem dX12_sure_29 : decode cX12_sure 29 = .ok (.istore_n 3, 1) := by decide +kernel
theorem dX12_sure_30 : decode cX12_sure 30 = .ok (.iload_n 3, 1) := by decide +kernel
theorem dX12_sure_31 : decode cX12_sure 31 = .ok (.bipush 64, 2) := by decide +kernel
theorem dX12_sure_33 : decode cX12_sure 33 = .ok (.if_icmp .ge 36, 3) := by decide +kernel
theorem dX12_sure_36 : decode cX12_sure 36 = .ok (.aload_n 0, 1) := by decide +kernel
theorem dX12_sure_37 : decode cX12_sure 37 = .ok (.getfield 341, 3) := by decide +kernel
theorem dX12_sure_40 : decode cX12_sure 40 = .ok (.ifCond .le 23, 3) := by decide +kernel
theorem dX12_sure_43 : decode cX12_sure 43 = .ok (.aload_n 0, 1) := by decide +kernel
theorem dX12_sure_44 : decode cX12_sure 44 = .ok (.getfield 99, 3) := by decide +kernel
theorem dX12_sure_47 : decode cX12_sure 47 = .ok (.bipush 64, 2) := by decide +kernel
theorem dX12_sure_49 : decode cX12_sure 49 = .ok (.iload_n 2, 1) := by decide +kernel
theorem dX12_sure_50 : decode cX12_sure 50 = .ok (.imul, 1) := by decide +kernel
theorem dX12_sure_51 : decode cX12_sure 51 = .ok (.iload_n 3, 1) := by decide +kernel
theorem dX12_sure_52 : decode cX12_sure 52 = .ok (.iadd, 1) := by decide +kernel
theorem dX12_sure_53 : decode cX12_sure 53 = .ok (.iaload, 1) := by decide +kernel
theorem dX12_sure_54 : decode cX12_sure 54 = .ok (.aload_n 0, 1) := by decide +kernel
theorem dX12_sure_55 : decode cX12_sure 55 = .ok (.getfield 341, 3) := by decide +kernel
theorem dX12_sure_58 : decode cX12_sure 58 = .ok (.if_icmp .ne 5, 3) := by decide +kernel
theorem dX12_sure_61 : decode cX12_sure 61 = .ok (.iload_n 3, 1) := by decide +kernel
theorem dX12_sure_62 : decode cX12_sure 62 = .ok (.ireturn, 1) := by decide +kernel
theorem dX12_sure_63 : decode cX12_sure 63 = .ok (.iinc 3 1, 3) := by decide +kernel
theorem dX12_sure_66 : decode cX12_sure 66 = .ok (.goto (-36), 3) := by decide +kernel
theorem dX12_sure_69 : decode cX12_sure 69 = .ok (.bipush (-9), 2) := by decide +kernel
theorem dX12_sure_71 : decode cX12_sure 71 = .ok (.ireturn, 1) := by decide +kernel
theorem dX12_take_0 : decode cX12_take 0 = .ok (.aload_n 0, 1) := by decide +kernel
theorem dX12_take_1 : decode cX12_take 1 = .ok (.iload_n 1, 1) := by decide +kernel
theorem dX12_take_2 : decode cX12_take 2 = .ok (.invokevirtual 245, 3) := by decide +kernel
theorem dX12_take_5 : decode cX12_take 5 = .ok (.ifCond .ne 7, 3) := by decide +kernel
theorem dX12_take_8 : decode cX12_take 8 = .ok (.iload_n 2, 1) := by decide +kernel
theorem dX12_take_9 : decode cX12_take 9 = .ok (.ifCond .ge 5, 3) := by decide +kernel
theorem dX12_take_12 : decode cX12_take 12 = .ok (.iconst (-1), 1) := by decide +kernel
theorem dX12_take_13 : decode cX12_take 13 = .ok (.ireturn, 1) := by decide +kernel
theorem dX12_take_14 : decode cX12_take 14 = .ok (.aload_n 0, 1) := by decide +kernel
theorem dX12_take_15 : decode cX12_take 15 = .ok (.iload_n 1, 1) := by decide +kernel
theorem dX12_take_16 : decode cX12_take 16 = .ok (.iload_n 2, 1) := by decide +kernel
theorem dX12_take_17 : decode cX12_take 17 = .ok (.invokevirtual 378, 3) := by decide +kernel
theorem dX12_take_20 : decode cX12_take 20 = .ok (.ifCond .ne 6, 3) := by decide +kernel
theorem dX12_take_23 : decode cX12_take 23 = .ok (.bipush (-6), 2) := by decide +kernel
theorem dX12_take_25 : decode cX12_take 25 = .ok (.ireturn, 1) := by decide +kernel
theorem dX12_take_26 : decode cX12_take 26 = .ok (.iload_n 2, 1) := by decide +kernel
theorem dX12_take_27 : decode cX12_take 27 = .ok (.aload_n 0, 1) := by decide +kernel
theorem dX12_take_28 : decode cX12_take 28 = .ok (.getfield 341, 3) := by decide +kernel
theorem dX12_take_31 : decode cX12_take 31 = .ok (.if_icmp .lt 5, 3) := by decide +kernel
theorem dX12_take_34 : decode cX12_take 34 = .ok (.iconst (-1), 1) := by decide +kernel
theorem dX12_take_35 : decode cX12_take 35 = .ok (.ireturn, 1) := by decide +kernel
theorem dX12_take_36 : decode cX12_take 36 = .ok (.iconst 0, 1) := by decide +kernel
theorem dX12_take_37 : decode cX12_take 37 = .ok (.istore_n 3, 1) := by decide +kernel
theorem dX12_take_38 : decode cX12_take 38 = .ok (.iload_n 3, 1) := by decide +kernel
theorem dX12_take_39 : decode cX12_take 39 = .ok (.aload_n 0, 1) := by decide +kernel
theorem dX12_take_40 : decode cX12_take 40 = .ok (.getfield 335, 3) := by decide +kernel
theorem dX12_take_43 : decode cX12_take 43 = .ok (.if_icmp .ge 26, 3) := by decide +kernel
theorem dX12_take_46 : decode cX12_take 46 = .ok (.aload_n 0, 1) := by decide +kernel
theorem dX12_take_47 : decode cX12_take 47 = .ok (.getfield 32, 3) := by decide +kernel
theorem dX12_take_50 : decode cX12_take 50 = .ok (.aload_n 0, 1) := by decide +kernel
theorem dX12_take_51 : decode cX12_take 51 = .ok (.getfield 90, 3) := by decide +kernel
theorem dX12_take_54 : decode cX12_take 54 = .ok (.iload_n 3, 1) := by decide +kernel
theorem dX12_take_55 : decode cX12_take 55 = .ok (.iaload, 1) := by decide +kernel
theorem dX12_take_56 : decode cX12_take 56 = .ok (.aload_n 0, 1) := by decide +kernel
theorem dX12_take_57 : decode cX12_take 57 = .ok (.getfield 105, 3) := by decide +kernel
theorem dX12_take_60 : decode cX12_take 60 = .ok (.iload_n 3, 1) := by decide +kernel
theorem dX12_take_61 : decode cX12_take 61 = .ok (.iaload, 1) := by decide +kernel
theorem dX12_take_62 : decode cX12_take 62 = .ok (.iastore, 1) := by decide +kernel
theorem dX12_take_63 : decode cX12_take 63 = .ok (.iinc 3 1, 3) := by decide +kernel
theorem dX12_take_66 : decode cX12_take 66 = .ok (.goto (-28), 3) := by decide +kernel
theorem dX12_take_69 : decode cX12_take 69 = .ok (.aload_n 0, 1) := by decide +kernel
theorem dX12_take_70 : decode cX12_take 70 = .ok (.getfield 335, 3) := by decide +kernel
theorem dX12_take_73 : decode cX12_take 73 = .ok (.ireturn, 1) := by decide +kernel
theorem dX12_tally_0 : decode cX12_tally 0 = .ok (.iconst 0, 1) := by decide +kernel
theorem dX12_tally_1 : decode cX12_tally 1 = .ok (.istore_n 1, 1) := by decide +kernel
theorem dX12_tally_2 : decode cX12_tally 2 = .ok (.iload_n 1, 1) := by decide +kernel
theorem dX12_tally_3 : decode cX12_tally 3 = .ok (.aload_n 0, 1) := by decide +kernel
theorem dX12_tally_4 : decode cX12_tally 4 = .ok (.getfield 335, 3) := by decide +kernel
theorem dX12_tally_7 : decode cX12_tally 7 = .ok (.if_icmp .ge 104, 3) := by decide +kernel
theorem dX12_tally_10 : decode cX12_tally 10 = .ok (.aload_n 0, 1) := by decide +kernel
theorem dX12_tally_11 : decode cX12_tally 11 = .ok (.getfield 99, 3) := by decide +kernel
theorem dX12_tally_14 : decode cX12_tally 14 = .ok (.bipush 64, 2) := by decide +kernel
theorem dX12_tally_16 : decode cX12_tally 16 = .ok (.iload_n 1, 1) := by decide +kernel
theorem dX12_tally_17 : decode cX12_tally 17 = .ok (.imul, 1) := by decide +kernel
theorem dX12_tally_18 : decode cX12_tally 18 = .ok (.aload_n 0, 1) := by decide +kernel
theorem dX12_tally_19 : decode cX12_tally 19 = .ok (.getfield 93, 3) := by decide +kernel
theorem dX12_tally_22 : decode cX12_tally 22 = .ok (.iload_n 1, 1) := by decide +kernel
theorem dX12_tally_23 : decode cX12_tally 23 = .ok (.iaload, 1) := by decide +kernel
theorem dX12_tally_24 : decode cX12_tally 24 = .ok (.iadd, 1) := by decide +kernel
theorem dX12_tally_25 : decode cX12_tally 25 = .ok (.dup2, 1) := by decide +kernel
theorem dX12_tally_26 : decode cX12_tally 26 = .ok (.iaload, 1) := by decide +kernel
theorem dX12_tally_27 : decode cX12_tally 27 = .ok (.iconst 1, 1) := by decide +kernel
theorem dX12_tally_28 : decode cX12_tally 28 = .ok (.iadd, 1) := by decide +kernel
theorem dX12_tally_29 : decode cX12_tally 29 = .ok (.iastore, 1) := by decide +kernel
theorem dX12_tally_30 : decode cX12_tally 30 = .ok (.iload_n 1, 1) := by decide +kernel
theorem dX12_tally_31 : decode cX12_tally 31 = .ok (.iconst 1, 1) := by decide +kernel
theorem dX12_tally_32 : decode cX12_tally 32 = .ok (.iadd, 1) := by decide +kernel
theorem dX12_tally_33 : decode cX12_tally 33 = .ok (.istore_n 2, 1) := by decide +kernel
theorem dX12_tally_34 : decode cX12_tally 34 = .ok (.iload_n 2, 1) := by decide +kernel
theorem dX12_tally_35 : decode cX12_tally 35 = .ok (.aload_n 0, 1) := by decide +kernel
theorem dX12_tally_36 : decode cX12_tally 36 = .ok (.getfield 335, 3) := by decide +kernel
theorem dX12_tally_39 : decode cX12_tally 39 = .ok (.if_icmp .ge 43, 3) := by decide +kernel
theorem dX12_tally_42 : decode cX12_tally 42 = .ok (.aload_n 0, 1) := by decide +kernel
theorem dX12_tally_43 : decode cX12_tally 43 = .ok (.getfield 102, 3) := by decide +kernel
theorem dX12_tally_46 : decode cX12_tally 46 = .ok (.bipush 99, 2) := by decide +kernel
theorem dX12_tally_48 : decode cX12_tally 48 = .ok (.bipush 9, 2) := by decide +kernel
theorem dX12_tally_50 : decode cX12_tally 50 = .ok (.iload_n 1, 1) := by decide +kernel
theorem dX12_tally_51 : decode cX12_tally 51 = .ok (.imul, 1) := by decide +kernel
theorem dX12_tally_52 : decode cX12_tally 52 = .ok (.iload_n 2, 1) := by decide +kernel
theorem dX12_tally_53 : decode cX12_tally 53 = .ok (.iadd, 1) := by decide +kernel
theorem dX12_tally_54 : decode cX12_tally 54 = .ok (.imul, 1) := by decide +kernel
theorem dX12_tally_55 : decode cX12_tally 55 = .ok (.aload_n 0, 1) := by decide +kernel
theorem dX12_tally_56 : decode cX12_tally 56 = .ok (.getfield 93, 3) := by decide +kernel
theorem dX12_tally_59 : decode cX12_tally 59 = .ok (.iload_n 1, 1) := by decide +kernel
theorem dX12_tally_60 : decode cX12_tally 60 = .ok (.iaload, 1) := by decide +kernel
theorem dX12_tally_61 : decode cX12_tally 61 = .ok (.aload_n 0, 1) := by decide +kernel
theorem dX12_tally_62 : decode cX12_tally 62 = .ok (.getfield 93, 3) := by decide +kernel
theorem dX12_tally_65 : decode cX12_tally 65 = .ok (.iload_n 2, 1) := by decide +kernel
theorem dX12_tally_66 : decode cX12_tally 66 = .ok (.iaload, 1) := by decide +kernel
theorem dX12_tally_67 : decode cX12_tally 67 = .ok (.invokestatic 267, 3) := by decide +kernel
theorem dX12_tally_70 : decode cX12_tally 70 = .ok (.iadd, 1) := by decide +kernel
theorem dX12_tally_71 : decode cX12_tally 71 = .ok (.dup2, 1) := by decide +kernel
theorem dX12_tally_72 : decode cX12_tally 72 = .ok (.iaload, 1) := by decide +kernel
theorem dX12_tally_73 : decode cX12_tally 73 = .ok (.iconst 1, 1) := by decide +kernel
theorem dX12_tally_74 : decode cX12_tally 74 = .ok (.iadd, 1) := by decide +kernel
theorem dX12_tally_75 : decode cX12_tally 75 = .ok (.iastore, 1) := by decide +kernel
theorem dX12_tally_76 : decode cX12_tally 76 = .ok (.iinc 2 1, 3) := by decide +kernel
theorem dX12_tally_79 : decode cX12_tally 79 = .ok (.goto (-45), 3) := by decide +kernel
theorem dX12_tally_82 : decode cX12_tally 82 = .ok (.aload_n 0, 1) := by decide +kernel
theorem dX12_tally_83 : decode cX12_tally 83 = .ok (.getfield 341, 3) := by decide +kernel
theorem dX12_tally_86 : decode cX12_tally 86 = .ok (.aload_n 0, 1) := by decide +kernel
theorem dX12_tally_87 : decode cX12_tally 87 = .ok (.getfield 344, 3) := by decide +kernel
theorem dX12_tally_90 : decode cX12_tally 90 = .ok (.if_icmp .ne 15, 3) := by decide +kernel
theorem dX12_tally_93 : decode cX12_tally 93 = .ok (.aload_n 0, 1) := by decide +kernel
theorem dX12_tally_94 : decode cX12_tally 94 = .ok (.getfield 105, 3) := by decide +kernel
theorem dX12_tally_97 : decode cX12_tally 97 = .ok (.iload_n 1, 1) := by decide +kernel
theorem dX12_tally_98 : decode cX12_tally 98 = .ok (.aload_n 0, 1) := by decide +kernel
theorem dX12_tally_99 : decode cX12_tally 99 = .ok (.getfield 93, 3) := by decide +kernel
theorem dX12_tally_102 : decode cX12_tally 102 = .ok (.iload_n 1, 1) := by decide +kernel
theorem dX12_tally_103 : decode cX12_tally 103 = .ok (.iaload, 1) := by decide +kernel
theorem dX12_tally_104 : decode cX12_tally 104 = .ok (.iastore, 1) := by decide +kernel
theorem dX12_tally_105 : decode cX12_tally 105 = .ok (.iinc 1 1, 3) := by decide +kernel
theorem dX12_tally_108 : decode cX12_tally 108 = .ok (.goto (-106), 3) := by decide +kernel
theorem dX12_tally_111 : decode cX12_tally 111 = .ok (.aload_n 0, 1) := by decide +kernel
theorem dX12_tally_112 : decode cX12_tally 112 = .ok (.aload_n 0, 1) := by decide +kernel
theorem dX12_tally_113 : decode cX12_tally 113 = .ok (.getfield 347, 3) := by decide +kernel
theorem dX12_tally_116 : decode cX12_tally 116 = .ok (.ifCond .ne 42, 3) := by decide +kernel
theorem dX12_tally_119 : decode cX12_tally 119 = .ok (.aload_n 0, 1) := by decide +kernel
theorem dX12_tally_120 : decode cX12_tally 120 = .ok (.getfield 350, 3) := by decide +kernel
theorem dX12_tally_123 : decode cX12_tally 123 = .ok (.ifCond .lt 39, 3) := by decide +kernel
theorem dX12_tally_126 : decode cX12_tally 126 = .ok (.aload_n 0, 1) := by decide +kernel
theorem dX12_tally_127 : decode cX12_tally 127 = .ok (.getfield 93, 3) := by decide +kernel
theorem dX12_tally_130 : decode cX12_tally 130 = .ok (.aload_n 0, 1) := by decide +kernel
theorem dX12_tally_131 : decode cX12_tally 131 = .ok (.getfield 350, 3) := by decide +kernel
theorem dX12_tally_134 : decode cX12_tally 134 = .ok (.iaload, 1) := by decide +kernel
theorem dX12_tally_135 : decode cX12_tally 135 = .ok (.aload_n 0, 1) := by decide +kernel
theorem dX12_tally_136 : decode cX12_tally 136 = .ok (.getfield 353, 3) := by decide +kernel
theorem dX12_tally_139 : decode cX12_tally 139 = .ok (.if_icmp .ne 23, 3) := by decide +kernel
theorem dX12_tally_142 : decode cX12_tally 142 = .ok (.aload_n 0, 1) := by decide +kernel
theorem dX12_tally_143 : decode cX12_tally 143 = .ok (.getfield 93, 3) := by decide +kernel
theorem dX12_tally_146 : decode cX12_tally 146 = .ok (.aload_n 0, 1) := by decide +kernel
theorem dX12_tally_147 : decode cX12_tally 147 = .ok (.getfield 356, 3) := by decide +kernel
theorem dX12_tally_150 : decode cX12_tally 150 = .ok (.iaload, 1) := by decide +kernel
theorem dX12_tally_151 : decode cX12_tally 151 = .ok (.aload_n 0, 1) := by decide +kernel
theorem dX12_tally_152 : decode cX12_tally 152 = .ok (.getfield 359, 3) := by decide +kernel
theorem dX12_tally_155 : decode cX12_tally 155 = .ok (.if_icmp .ne 7, 3) := by decide +kernel
theorem dX12_tally_158 : decode cX12_tally 158 = .ok (.iconst 1, 1) := by decide +kernel
theorem dX12_tally_159 : decode cX12_tally 159 = .ok (.goto 4, 3) := by decide +kernel
theorem dX12_tally_162 : decode cX12_tally 162 = .ok (.iconst 0, 1) := by decide +kernel
theorem dX12_tally_163 : decode cX12_tally 163 = .ok (.putfield 347, 3) := by decide +kernel
theorem dX12_tally_166 : decode cX12_tally 166 = .ok (.aload_n 0, 1) := by decide +kernel
theorem dX12_tally_167 : decode cX12_tally 167 = .ok (.dup, 1) := by decide +kernel
theorem dX12_tally_168 : decode cX12_tally 168 = .ok (.getfield 341, 3) := by decide +kernel
theorem dX12_tally_171 : decode cX12_tally 171 = .ok (.iconst 1, 1) := by decide +kernel
theorem dX12_tally_172 : decode cX12_tally 172 = .ok (.iadd, 1) := by decide +kernel
theorem dX12_tally_173 : decode cX12_tally 173 = .ok (.putfield 341, 3) := by decide +kernel
theorem dX12_tally_176 : decode cX12_tally 176 = .ok (.return_, 1) := by decide +kernel
theorem dX12_tell_0 : decode cX12_tell 0 = .ok (.iload_n 1, 1) := by decide +kernel
theorem dX12_tell_1 : decode cX12_tell 1 = .ok (.invokestatic 500, 3) := by decide +kernel
theorem dX12_tell_4 : decode cX12_tell 4 = .ok (.ifCond .eq 9, 3) := by decide +kernel
theorem dX12_tell_7 : decode cX12_tell 7 = .ok (.aload_n 0, 1) := by decide +kernel
theorem dX12_tell_8 : decode cX12_tell 8 = .ok (.iconst (-1), 1) := by decide +kernel
theorem dX12_tell_9 : decode cX12_tell 9 = .ok (.invokevirtual 222, 3) := by decide +kernel
theorem dX12_tell_12 : decode cX12_tell 12 = .ok (.ireturn, 1) := by decide +kernel
theorem dX12_tell_13 : decode cX12_tell 13 = .ok (.iload_n 2, 1) := by decide +kernel
theorem dX12_tell_14 : decode cX12_tell 14 = .ok (.i2l, 1) := by decide +kernel
theorem dX12_tell_15 : decode cX12_tell 15 = .ok (.lconst 0, 1) := by decide +kernel
theorem dX12_tell_16 : decode cX12_tell 16 = .ok (.lconst 1, 1) := by decide +kernel
theorem dX12_tell_17 : decode cX12_tell 17 = .ok (.invokestatic 175, 3) := by decide +kernel
theorem dX12_tell_20 : decode cX12_tell 20 = .ok (.ifCond .ne 10, 3) := by decide +kernel
theorem dX12_tell_23 : decode cX12_tell 23 = .ok (.aload_n 0, 1) := by decide +kernel
theorem dX12_tell_24 : decode cX12_tell 24 = .ok (.bipush (-2), 2) := by decide +kernel
theorem dX12_tell_26 : decode cX12_tell 26 = .ok (.invokevirtual 222, 3) := by decide +kernel
theorem dX12_tell_29 : decode cX12_tell 29 = .ok (.ireturn, 1) := by decide +kernel
theorem dX12_tell_30 : decode cX12_tell 30 = .ok (.aload_n 0, 1) := by decide +kernel
theorem dX12_tell_31 : decode cX12_tell 31 = .ok (.iload_n 1, 1) := by decide +kernel
theorem dX12_tell_32 : decode cX12_tell 32 = .ok (.iload_n 2, 1) := by decide +kernel
theorem dX12_tell_33 : decode cX12_tell 33 = .ok (.invokevirtual 512, 3) := by decide +kernel
theorem dX12_tell_36 : decode cX12_tell 36 = .ok (.ifCond .le 14, 3) := by decide +kernel
theorem dX12_tell_39 : decode cX12_tell 39 = .ok (.aload_n 0, 1) := by decide +kernel
theorem dX12_tell_40 : decode cX12_tell 40 = .ok (.aload_n 0, 1) := by decide +kernel
theorem dX12_tell_41 : decode cX12_tell 41 = .ok (.iload_n 1, 1) := by decide +kernel
theorem dX12_tell_42 : decode cX12_tell 42 = .ok (.iload_n 2, 1) := by decide +kernel
theorem dX12_tell_43 : decode cX12_tell 43 = .ok (.invokevirtual 512, 3) := by decide +kernel
theorem dX12_tell_46 : decode cX12_tell 46 = .ok (.invokevirtual 228, 3) := by decide +kernel
theorem dX12_tell_49 : decode cX12_tell 49 = .ok (.ireturn, 1) := by decide +kernel
theorem dX12_tell_50 : decode cX12_tell 50 = .ok (.aload_n 0, 1) := by decide +kernel
theorem dX12_tell_51 : decode cX12_tell 51 = .ok (.iload_n 2, 1) := by decide +kernel
theorem dX12_tell_52 : decode cX12_tell 52 = .ok (.ifCond .ne 11, 3) := by decide +kernel
theorem dX12_tell_55 : decode cX12_tell 55 = .ok (.aload_n 0, 1) := by decide +kernel
theorem dX12_tell_56 : decode cX12_tell 56 = .ok (.iload_n 1, 1) := by decide +kernel
theorem dX12_tell_57 : decode cX12_tell 57 = .ok (.invokevirtual 515, 3) := by decide +kernel
theorem dX12_tell_60 : decode cX12_tell 60 = .ok (.goto 8, 3) := by decide +kernel
theorem dX12_tell_63 : decode cX12_tell 63 = .ok (.aload_n 0, 1) := by decide +kernel
theorem dX12_tell_64 : decode cX12_tell 64 = .ok (.iload_n 1, 1) := by decide +kernel
theorem dX12_tell_65 : decode cX12_tell 65 = .ok (.invokevirtual 518, 3) := by decide +kernel
theorem dX12_tell_68 : decode cX12_tell 68 = .ok (.invokevirtual 222, 3) := by decide +kernel
theorem dX12_tell_71 : decode cX12_tell 71 = .ok (.ireturn, 1) := by decide +kernel
theorem dX12_tellMeasure_0 : decode cX12_tellMeasure 0 = .ok (.aload_n 0, 1) := by decide +kernel
theorem dX12_tellMeasure_1 : decode cX12_tellMeasure 1 = .ok (.getfield 132, 3) := by decide +kernel
theorem dX12_tellMeasure_4 : decode cX12_tellMeasure 4 = .ok (.iload_n 1, 1) := by decide +kernel
theorem dX12_tellMeasure_5 : decode cX12_tellMeasure 5 = .ok (.iaload, 1) := by decide +kernel
theorem dX12_tellMeasure_6 : decode cX12_tellMeasure 6 = .ok (.istore_n 2, 1) := by decide +kernel
theorem dX12_tellMeasure_7 : decode cX12_tellMeasure 7 = .ok (.aload_n 0, 1) := by decide +kernel
theorem dX12_tellMeasure_8 : decode cX12_tellMeasure 8 = .ok (.getfield 135, 3) := by decide +kernel
theorem dX12_tellMeasure_11 : decode cX12_tellMeasure 11 = .ok (.iload_n 1, 1) := by decide +kernel
theorem dX12_tellMeasure_12 : decode cX12_tellMeasure 12 = .ok (.iaload, 1) := by decide +kernel
theorem dX12_tellMeasure_13 : decode cX12_tellMeasure 13 = .ok (.istore_n 3, 1) := by decide +kernel
theorem dX12_tellMeasure_14 : decode cX12_tellMeasure 14 = .ok (.iload_n 3, 1) := by decide +kernel
theorem dX12_tellMeasure_15 : decode cX12_tellMeasure 15 = .ok (.aload_n 0, 1) := by decide +kernel
theorem dX12_tellMeasure_16 : decode cX12_tellMeasure 16 = .ok (.getfield 138, 3) := by decide +kernel
theorem dX12_tellMeasure_19 : decode cX12_tellMeasure 19 = .ok (.iload_n 1, 1) := by decide +kernel
theorem dX12_tellMeasure_20 : decode cX12_tellMeasure 20 = .ok (.iaload, 1) := by decide +kernel
theorem dX12_tellMeasure_21 : decode cX12_tellMeasure 21 = .ok (.iadd, 1) := by decide +kernel
theorem dX12_tellMeasure_22 : decode cX12_tellMeasure 22 = .ok (.istore 4, 2) := by decide +kernel
theorem dX12_tellMeasure_24 : decode cX12_tellMeasure 24 = .ok (.iload_n 2, 1) := by decide +kernel
theorem dX12_tellMeasure_25 : decode cX12_tellMeasure 25 = .ok (.iconst 2, 1) := by decide +kernel
theorem dX12_tellMeasure_26 : decode cX12_tellMeasure 26 = .ok (.if_icmp .ne 9, 3) := by decide +kernel
theorem dX12_tellMeasure_29 : decode cX12_tellMeasure 29 = .ok (.aload_n 0, 1) := by decide +kernel
theorem dX12_tellMeasure_30 : decode cX12_tellMeasure 30 = .ok (.bipush 7, 2) := by decide +kernel
theorem dX12_tellMeasure_32 : decode cX12_tellMeasure 32 = .ok (.invokevirtual 509, 3) := by decide +kernel
theorem dX12_tellMeasure_35 : decode cX12_tellMeasure 35 = .ok (.iload_n 2, 1) := by decide +kernel
theorem dX12_tellMeasure_36 : decode cX12_tellMeasure 36 = .ok (.iconst 2, 1) := by decide +kernel
theorem dX12_tellMeasure_37 : decode cX12_tellMeasure 37 = .ok (.if_icmp .eq 8, 3) := by decide +kernel
theorem dX12_tellMeasure_40 : decode cX12_tellMeasure 40 = .ok (.iload_n 2, 1) := by decide +kernel
theorem dX12_tellMeasure_41 : decode cX12_tellMeasure 41 = .ok (.iconst 1, 1) := by decide +kernel
theorem dX12_tellMeasure_42 : decode cX12_tellMeasure 42 = .ok (.if_icmp .ne 9, 3) := by decide +kernel
theorem dX12_tellMeasure_45 : decode cX12_tellMeasure 45 = .ok (.aload_n 0, 1) := by decide +kernel
theorem dX12_tellMeasure_46 : decode cX12_tellMeasure 46 = .ok (.bipush 6, 2) := by decide +kernel
theorem dX12_tellMeasure_48 : decode cX12_tellMeasure 48 = .ok (.invokevirtual 509, 3) := by decide +kernel
theorem dX12_tellMeasure_51 : decode cX12_tellMeasure 51 = .ok (.iload_n 2, 1) := by decide +kernel
theorem dX12_tellMeasure_52 : decode cX12_tellMeasure 52 = .ok (.iconst 4, 1) := by decide +kernel
theorem dX12_tellMeasure_53 : decode cX12_tellMeasure 53 = .ok (.if_icmp .ne 9, 3) := by decide +kernel
theorem dX12_tellMeasure_56 : decode cX12_tellMeasure 56 = .ok (.aload_n 0, 1) := by decide +kernel
theorem dX12_tellMeasure_57 : decode cX12_tellMeasure 57 = .ok (.bipush 8, 2) := by decide +kernel
theorem dX12_tellMeasure_59 : decode cX12_tellMeasure 59 = .ok (.invokevirtual 509, 3) := by decide +kernel
theorem dX12_tellMeasure_62 : decode cX12_tellMeasure 62 = .ok (.iload_n 2, 1) := by decide +kernel
theorem dX12_tellMeasure_63 : decode cX12_tellMeasure 63 = .ok (.iconst 3, 1) := by decide +kernel
theorem dX12_tellMeasure_64 : decode cX12_tellMeasure 64 = .ok (.if_icmp .eq 8, 3) := by decide +kernel
theorem dX12_tellMeasure_67 : decode cX12_tellMeasure 67 = .ok (.aload_n 0, 1) := by decide +kernel
theorem dX12_tellMeasure_68 : decode cX12_tellMeasure 68 = .ok (.iconst 5, 1) := by decide +kernel
theorem dX12_tellMeasure_69 : decode cX12_tellMeasure 69 = .ok (.invokevirtual 509, 3) := by decide +kernel
theorem dX12_tellMeasure_72 : decode cX12_tellMeasure 72 = .ok (.aload_n 0, 1) := by decide +kernel
theorem dX12_tellMeasure_73 : decode cX12_tellMeasure 73 = .ok (.iconst 4, 1) := by decide +kernel
theorem dX12_tellMeasure_74 : decode cX12_tellMeasure 74 = .ok (.invokevirtual 509, 3) := by decide +kernel
theorem dX12_tellMeasure_77 : decode cX12_tellMeasure 77 = .ok (.iload_n 2, 1) := by decide +kernel
theorem dX12_tellMeasure_78 : decode cX12_tellMeasure 78 = .ok (.iconst 2, 1) := by decide +kernel
theorem dX12_tellMeasure_79 : decode cX12_tellMeasure 79 = .ok (.if_icmp .ne 8, 3) := by decide +kernel
theorem dX12_tellMeasure_82 : decode cX12_tellMeasure 82 = .ok (.aload_n 0, 1) := by decide +kernel
theorem dX12_tellMeasure_83 : decode cX12_tellMeasure 83 = .ok (.iconst 4, 1) := by decide +kernel
theorem dX12_tellMeasure_84 : decode cX12_tellMeasure 84 = .ok (.invokevirtual 509, 3) := by decide +kernel
theorem dX12_tellMeasure_87 : decode cX12_tellMeasure 87 = .ok (.iload_n 2, 1) := by decide +kernel
theorem dX12_tellMeasure_88 : decode cX12_tellMeasure 88 = .ok (.ifCond .ne 8, 3) := by decide +kernel
theorem dX12_tellMeasure_91 : decode cX12_tellMeasure 91 = .ok (.iload 4, 2) := by decide +kernel
theorem dX12_tellMeasure_93 : decode cX12_tellMeasure 93 = .ok (.goto 46, 3) := by decide +kernel
theorem dX12_tellMeasure_96 : decode cX12_tellMeasure 96 = .ok (.iload_n 2, 1) := by decide +kernel
theorem dX12_tellMeasure_97 : decode cX12_tellMeasure 97 = .ok (.iconst 1, 1) := by decide +kernel
theorem dX12_tellMeasure_98 : decode cX12_tellMeasure 98 = .ok (.if_icmp .ne 12, 3) := by decide +kernel
theorem dX12_tellMeasure_101 : decode cX12_tellMeasure 101 = .ok (.iload 4, 2) := by decide +kernel
theorem dX12_tellMeasure_103 : decode cX12_tellMeasure 103 = .ok (.sipush 1000, 3) := by decide +kernel
theorem dX12_tellMeasure_106 : decode cX12_tellMeasure 106 = .ok (.isub, 1) := by decide +kernel
theorem dX12_tellMeasure_107 : decode cX12_tellMeasure 107 = .ok (.goto 32, 3) := by decide +kernel
theorem dX12_tellMeasure_110 : decode cX12_tellMeasure 110 = .ok (.iload_n 2, 1) := by decide +kernel
theorem dX12_tellMeasure_111 : decode cX12_tellMeasure 111 = .ok (.iconst 2, 1) := by decide +kernel
theorem dX12_tellMeasure_112 : decode cX12_tellMeasure 112 = .ok (.if_icmp .ne 14, 3) := by decide +kernel
theorem dX12_tellMeasure_115 : decode cX12_tellMeasure 115 = .ok (.iload 4, 2) := by decide +kernel
theorem dX12_tellMeasure_117 : decode cX12_tellMeasure 117 = .ok (.sipush 1000, 3) := by decide +kernel
theorem dX12_tellMeasure_120 : decode cX12_tellMeasure 120 = .ok (.isub, 1) := by decide +kernel
theorem dX12_tellMeasure_121 : decode cX12_tellMeasure 121 = .ok (.iload_n 3, 1) := by decide +kernel
theorem dX12_tellMeasure_122 : decode cX12_tellMeasure 122 = .ok (.iadd, 1) := by decide +kernel
theorem dX12_tellMeasure_123 : decode cX12_tellMeasure 123 = .ok (.goto 16, 3) := by decide +kernel
theorem dX12_tellMeasure_126 : decode cX12_tellMeasure 126 = .ok (.iload_n 2, 1) := by decide +kernel
theorem dX12_tellMeasure_127 : decode cX12_tellMeasure 127 = .ok (.iconst 3, 1) := by decide +kernel
theorem dX12_tellMeasure_128 : decode cX12_tellMeasure 128 = .ok (.if_icmp .ne 7, 3) := by decide +kernel
theorem dX12_tellMeasure_131 : decode cX12_tellMeasure 131 = .ok (.iload_n 3, 1) := by decide +kernel
theorem dX12_tellMeasure_132 : decode cX12_tellMeasure 132 = .ok (.goto 7, 3) := by decide +kernel
theorem dX12_tellMeasure_135 : decode cX12_tellMeasure 135 = .ok (.iconst 2, 1) := by decide +kernel
theorem dX12_tellMeasure_136 : decode cX12_tellMeasure 136 = .ok (.iload 4, 2) := by decide +kernel
theorem dX12_tellMeasure_138 : decode cX12_tellMeasure 138 = .ok (.imul, 1) := by decide +kernel
theorem dX12_tellMeasure_139 : decode cX12_tellMeasure 139 = .ok (.ireturn, 1) := by decide +kernel
theorem dX12_tellThing_0 : decode cX12_tellThing 0 = .ok (.aload_n 0, 1) := by decide +kernel
theorem dX12_tellThing_1 : decode cX12_tellThing 1 = .ok (.getfield 132, 3) := by decide +kernel
theorem dX12_tellThing_4 : decode cX12_tellThing 4 = .ok (.iload_n 1, 1) := by decide +kernel
theorem dX12_tellThing_5 : decode cX12_tellThing 5 = .ok (.iaload, 1) := by decide +kernel
theorem dX12_tellThing_6 : decode cX12_tellThing 6 = .ok (.istore_n 2, 1) := by decide +kernel
theorem dX12_tellThing_7 : decode cX12_tellThing 7 = .ok (.iload_n 2, 1) := by decide +kernel
theorem dX12_tellThing_8 : decode cX12_tellThing 8 = .ok (.iconst 2, 1) := by decide +kernel
theorem dX12_tellThing_9 : decode cX12_tellThing 9 = .ok (.if_icmp .ne 8, 3) := by decide +kernel
theorem dX12_tellThing_12 : decode cX12_tellThing 12 = .ok (.aload_n 0, 1) := by decide +kernel
theorem dX12_tellThing_13 : decode cX12_tellThing 13 = .ok (.iconst 3, 1) := by decide +kernel
theorem dX12_tellThing_14 : decode cX12_tellThing 14 = .ok (.invokevirtual 509, 3) := by decide +kernel
theorem dX12_tellThing_17 : decode cX12_tellThing 17 = .ok (.iload_n 2, 1) := by decide +kernel
theorem dX12_tellThing_18 : decode cX12_tellThing 18 = .ok (.ifCond .le 8, 3) := by decide +kernel
theorem dX12_tellThing_21 : decode cX12_tellThing 21 = .ok (.aload_n 0, 1) := by decide +kernel
theorem dX12_tellThing_22 : decode cX12_tellThing 22 = .ok (.iconst 2, 1) := by decide +kernel
theorem dX12_tellThing_23 : decode cX12_tellThing 23 = .ok (.invokevirtual 509, 3) := by decide +kernel
theorem dX12_tellThing_26 : decode cX12_tellThing 26 = .ok (.aload_n 0, 1) := by decide +kernel
theorem dX12_tellThing_27 : decode cX12_tellThing 27 = .ok (.iconst 1, 1) := by decide +kernel
theorem dX12_tellThing_28 : decode cX12_tellThing 28 = .ok (.invokevirtual 509, 3) := by decide +kernel
theorem dX12_tellThing_31 : decode cX12_tellThing 31 = .ok (.iload_n 2, 1) := by decide +kernel
theorem dX12_tellThing_32 : decode cX12_tellThing 32 = .ok (.iconst 2, 1) := by decide +kernel
theorem dX12_tellThing_33 : decode cX12_tellThing 33 = .ok (.if_icmp .ne 8, 3) := by decide +kernel
theorem dX12_tellThing_36 : decode cX12_tellThing 36 = .ok (.aload_n 0, 1) := by decide +kernel
theorem dX12_tellThing_37 : decode cX12_tellThing 37 = .ok (.iconst 1, 1) := by decide +kernel
theorem dX12_tellThing_38 : decode cX12_tellThing 38 = .ok (.invokevirtual 509, 3) := by decide +kernel
theorem dX12_tellThing_41 : decode cX12_tellThing 41 = .ok (.aload_n 0, 1) := by decide +kernel
theorem dX12_tellThing_42 : decode cX12_tellThing 42 = .ok (.getfield 135, 3) := by decide +kernel
theorem dX12_tellThing_45 : decode cX12_tellThing 45 = .ok (.iload_n 1, 1) := by decide +kernel
theorem dX12_tellThing_46 : decode cX12_tellThing 46 = .ok (.iaload, 1) := by decide +kernel
theorem dX12_tellThing_47 : decode cX12_tellThing 47 = .ok (.iload_n 2, 1) := by decide +kernel
theorem dX12_tellThing_48 : decode cX12_tellThing 48 = .ok (.ifCond .le 12, 3) := by decide +kernel
theorem dX12_tellThing_51 : decode cX12_tellThing 51 = .ok (.aload_n 0, 1) := by decide +kernel
theorem dX12_tellThing_52 : decode cX12_tellThing 52 = .ok (.getfield 138, 3) := by decide +kernel
theorem dX12_tellThing_55 : decode cX12_tellThing 55 = .ok (.iload_n 1, 1) := by decide +kernel
theorem dX12_tellThing_56 : decode cX12_tellThing 56 = .ok (.iaload, 1) := by decide +kernel
theorem dX12_tellThing_57 : decode cX12_tellThing 57 = .ok (.goto 4, 3) := by decide +kernel
theorem dX12_tellThing_60 : decode cX12_tellThing 60 = .ok (.iconst 0, 1) := by decide +kernel
theorem dX12_tellThing_61 : decode cX12_tellThing 61 = .ok (.iadd, 1) := by decide +kernel
theorem dX12_tellThing_62 : decode cX12_tellThing 62 = .ok (.iload_n 2, 1) := by decide +kernel
theorem dX12_tellThing_63 : decode cX12_tellThing 63 = .ok (.iconst 2, 1) := by decide +kernel
theorem dX12_tellThing_64 : decode cX12_tellThing 64 = .ok (.if_icmp .ne 12, 3) := by decide +kernel
theorem dX12_tellThing_67 : decode cX12_tellThing 67 = .ok (.aload_n 0, 1) := by decide +kernel
theorem dX12_tellThing_68 : decode cX12_tellThing 68 = .ok (.getfield 135, 3) := by decide +kernel
theorem dX12_tellThing_71 : decode cX12_tellThing 71 = .ok (.iload_n 1, 1) := by decide +kernel
theorem dX12_tellThing_72 : decode cX12_tellThing 72 = .ok (.iaload, 1) := by decide +kernel
theorem dX12_tellThing_73 : decode cX12_tellThing 73 = .ok (.goto 4, 3) := by decide +kernel
theorem dX12_tellThing_76 : decode cX12_tellThing 76 = .ok (.iconst 0, 1) := by decide +kernel
theorem dX12_tellThing_77 : decode cX12_tellThing 77 = .ok (.iadd, 1) := by decide +kernel
theorem dX12_tellThing_78 : decode cX12_tellThing 78 = .ok (.ireturn, 1) := by decide +kernel
theorem dX12_thing_0 : decode cX12_thing 0 = .ok (.iload_n 1, 1) := by decide +kernel
theorem dX12_thing_1 : decode cX12_thing 1 = .ok (.i2l, 1) := by decide +kernel
theorem dX12_thing_2 : decode cX12_thing 2 = .ok (.lconst 0, 1) := by decide +kernel
theorem dX12_thing_3 : decode cX12_thing 3 = .ok (.ldc2_w 239, 3) := by decide +kernel
theorem dX12_thing_6 : decode cX12_thing 6 = .ok (.invokestatic 175, 3) := by decide +kernel
theorem dX12_thing_9 : decode cX12_thing 9 = .ok (.ifCond .ne 6, 3) := by decide +kernel
theorem dX12_thing_12 : decode cX12_thing 12 = .ok (.bipush (-2), 2) := by decide +kernel
theorem dX12_thing_14 : decode cX12_thing 14 = .ok (.ireturn, 1) := by decide +kernel
theorem dX12_thing_15 : decode cX12_thing 15 = .ok (.iload_n 1, 1) := by decide +kernel
theorem dX12_thing_16 : decode cX12_thing 16 = .ok (.ifCond .le 13, 3) := by decide +kernel
theorem dX12_thing_19 : decode cX12_thing 19 = .ok (.aload_n 0, 1) := by decide +kernel
theorem dX12_thing_20 : decode cX12_thing 20 = .ok (.iload_n 2, 1) := by decide +kernel
theorem dX12_thing_21 : decode cX12_thing 21 = .ok (.invokevirtual 179, 3) := by decide +kernel
theorem dX12_thing_24 : decode cX12_thing 24 = .ok (.ifCond .ne 5, 3) := by decide +kernel
theorem dX12_thing_27 : decode cX12_thing 27 = .ok (.iconst (-1), 1) := by decide +kernel
theorem dX12_thing_28 : decode cX12_thing 28 = .ok (.ireturn, 1) := by decide +kernel
theorem dX12_thing_29 : decode cX12_thing 29 = .ok (.iload_n 1, 1) := by decide +kernel
theorem dX12_thing_30 : decode cX12_thing 30 = .ok (.ifCond .le 15, 3) := by decide +kernel
theorem dX12_thing_33 : decode cX12_thing 33 = .ok (.aload_n 0, 1) := by decide +kernel
theorem dX12_thing_34 : decode cX12_thing 34 = .ok (.getfield 7, 3) := by decide +kernel
theorem dX12_thing_37 : decode cX12_thing 37 = .ok (.iload_n 2, 1) := by decide +kernel
theorem dX12_thing_38 : decode cX12_thing 38 = .ok (.baload, 1) := by decide +kernel
theorem dX12_thing_39 : decode cX12_thing 39 = .ok (.ifCond .eq 6, 3) := by decide +kernel
theorem dX12_thing_42 : decode cX12_thing 42 = .ok (.bipush (-3), 2) := by decide +kernel
theorem dX12_thing_44 : decode cX12_thing 44 = .ok (.ireturn, 1) := by decide +kernel
theorem dX12_thing_45 : decode cX12_thing 45 = .ok (.aload_n 0, 1) := by decide +kernel
theorem dX12_thing_46 : decode cX12_thing 46 = .ok (.getfield 183, 3) := by decide +kernel
theorem dX12_thing_49 : decode cX12_thing 49 = .ok (.bipush 24, 2) := by decide +kernel
theorem dX12_thing_51 : decode cX12_thing 51 = .ok (.if_icmp .ne 8, 3) := by decide +kernel
theorem dX12_thing_54 : decode cX12_thing 54 = .ok (.bipush (-4), 2) := by decide +kernel
theorem dX12_thing_56 : decode cX12_thing 56 = .ok (.goto 13, 3) := by decide +kernel
theorem dX12_thing_59 : decode cX12_thing 59 = .ok (.aload_n 0, 1) := by decide +kernel
theorem dX12_thing_60 : decode cX12_thing 60 = .ok (.iload_n 1, 1) := by decide +kernel
theorem dX12_thing_61 : decode cX12_thing 61 = .ok (.iload_n 2, 1) := by decide +kernel
theorem dX12_thing_62 : decode cX12_thing 62 = .ok (.bipush (-9), 2) := by decide +kernel
theorem dX12_thing_64 : decode cX12_thing 64 = .ok (.bipush (-9), 2) := by decide +kernel
theorem dX12_thing_66 : decode cX12_thing 66 = .ok (.invokevirtual 241, 3) := by decide +kernel
theorem dX12_thing_69 : decode cX12_thing 69 = .ok (.ireturn, 1) := by decide +kernel
theorem dX12_tick_0 : decode cX12_tick 0 = .ok (.aload_n 0, 1) := by decide +kernel
theorem dX12_tick_1 : decode cX12_tick 1 = .ok (.iload_n 1, 1) := by decide +kernel
theorem dX12_tick_2 : decode cX12_tick 2 = .ok (.iload_n 2, 1) := by decide +kernel
theorem dX12_tick_3 : decode cX12_tick 3 = .ok (.invokevirtual 469, 3) := by decide +kernel
theorem dX12_tick_6 : decode cX12_tick 6 = .ok (.ifCond .eq 7, 3) := by decide +kernel
theorem dX12_tick_9 : decode cX12_tick 9 = .ok (.iconst (-1), 1) := by decide +kernel
theorem dX12_tick_10 : decode cX12_tick 10 = .ok (.goto 11, 3) := by decide +kernel
theorem dX12_tick_13 : decode cX12_tick 13 = .ok (.aload_n 0, 1) := by decide +kernel
theorem dX12_tick_14 : decode cX12_tick 14 = .ok (.getfield 53, 3) := by decide +kernel
theorem dX12_tick_17 : decode cX12_tick 17 = .ok (.iload_n 1, 1) := by decide +kernel
theorem dX12_tick_18 : decode cX12_tick 18 = .ok (.iaload, 1) := by decide +kernel
theorem dX12_tick_19 : decode cX12_tick 19 = .ok (.iload_n 2, 1) := by decide +kernel
theorem dX12_tick_20 : decode cX12_tick 20 = .ok (.iadd, 1) := by decide +kernel
theorem dX12_tick_21 : decode cX12_tick 21 = .ok (.ireturn, 1) := by decide +kernel
theorem dX12_together_0 : decode cX12_together 0 = .ok (.aload_n 0, 1) := by decide +kernel
theorem dX12_together_1 : decode cX12_together 1 = .ok (.iload_n 1, 1) := by decide +kernel
theorem dX12_together_2 : decode cX12_together 2 = .ok (.invokevirtual 245, 3) := by decide +kernel
theorem dX12_together_5 : decode cX12_together 5 = .ok (.ifCond .ne 28, 3) := by decide +kernel
theorem dX12_together_8 : decode cX12_together 8 = .ok (.aload_n 0, 1) := by decide +kernel
theorem dX12_together_9 : decode cX12_together 9 = .ok (.iload_n 2, 1) := by decide +kernel
theorem dX12_together_10 : decode cX12_together 10 = .ok (.invokevirtual 179, 3) := by decide +kernel
theorem dX12_together_13 : decode cX12_together 13 = .ok (.ifCond .eq 20, 3) := by decide +kernel
theorem dX12_together_16 : decode cX12_together 16 = .ok (.aload_n 0, 1) := by decide +kernel
theorem dX12_together_17 : decode cX12_together 17 = .ok (.iload_n 3, 1) := by decide +kernel
theorem dX12_together_18 : decode cX12_together 18 = .ok (.invokevirtual 245, 3) := by decide +kernel
theorem dX12_together_21 : decode cX12_together 21 = .ok (.ifCond .ne 12, 3) := by decide +kernel
theorem dX12_together_24 : decode cX12_together 24 = .ok (.aload_n 0, 1) := by decide +kernel
theorem dX12_together_25 : decode cX12_together 25 = .ok (.iload 4, 2) := by decide +kernel
theorem dX12_together_27 : decode cX12_together 27 = .ok (.invokevirtual 179, 3) := by decide +kernel
theorem dX12_together_30 : decode cX12_together 30 = .ok (.ifCond .ne 5, 3) := by decide +kernel
theorem dX12_together_33 : decode cX12_together 33 = .ok (.iconst (-1), 1) := by decide +kernel
theorem dX12_together_34 : decode cX12_together 34 = .ok (.ireturn, 1) := by decide +kernel
theorem dX12_together_35 : decode cX12_together 35 = .ok (.aload_n 0, 1) := by decide +kernel
theorem dX12_together_36 : decode cX12_together 36 = .ok (.iload_n 1, 1) := by decide +kernel
theorem dX12_together_37 : decode cX12_together 37 = .ok (.iconst (-1), 1) := by decide +kernel
theorem dX12_together_38 : decode cX12_together 38 = .ok (.invokevirtual 378, 3) := by decide +kernel
theorem dX12_together_41 : decode cX12_together 41 = .ok (.ifCond .ne 6, 3) := by decide +kernel
theorem dX12_together_44 : decode cX12_together 44 = .ok (.bipush (-6), 2) := by decide +kernel
theorem dX12_together_46 : decode cX12_together 46 = .ok (.ireturn, 1) := by decide +kernel
theorem dX12_together_47 : decode cX12_together 47 = .ok (.aload_n 0, 1) := by decide +kernel
theorem dX12_together_48 : decode cX12_together 48 = .ok (.getfield 99, 3) := by decide +kernel
theorem dX12_together_51 : decode cX12_together 51 = .ok (.bipush 64, 2) := by decide +kernel
theorem dX12_together_53 : decode cX12_together 53 = .ok (.aload_n 0, 1) := by decide +kernel
theorem dX12_together_54 : decode cX12_together 54 = .ok (.iload_n 1, 1) := by decide +kernel
theorem dX12_together_55 : decode cX12_together 55 = .ok (.invokevirtual 385, 3) := by decide +kernel
theorem dX12_together_58 : decode cX12_together 58 = .ok (.imul, 1) := by decide +kernel
theorem dX12_together_59 : decode cX12_together 59 = .ok (.iload_n 2, 1) := by decide +kernel
theorem dX12_together_60 : decode cX12_together 60 = .ok (.iadd, 1) := by decide +kernel
theorem dX12_together_61 : decode cX12_together 61 = .ok (.iaload, 1) := by decide +kernel
theorem dX12_together_62 : decode cX12_together 62 = .ok (.ifCond .le 7, 3) := by decide +kernel
theorem dX12_together_65 : decode cX12_together 65 = .ok (.iconst 1, 1) := by decide +kernel
theorem dX12_together_66 : decode cX12_together 66 = .ok (.goto 4, 3) := by decide +kernel
theorem dX12_together_69 : decode cX12_together 69 = .ok (.iconst 0, 1) := by decide +kernel
theorem dX12_together_70 : decode cX12_together 70 = .ok (.istore 5, 2) := by decide +kernel
theorem dX12_together_72 : decode cX12_together 72 = .ok (.aload_n 0, 1) := by decide +kernel
theorem dX12_together_73 : decode cX12_together 73 = .ok (.iload_n 1, 1) := by decide +kernel
theorem dX12_together_74 : decode cX12_together 74 = .ok (.invokevirtual 330, 3) := by decide +kernel
theorem dX12_together_77 : decode cX12_together 77 = .ok (.i2l, 1) := by decide +kernel
theorem dX12_together_78 : decode cX12_together 78 = .ok (.iload_n 3, 1) := by decide +kernel
theorem dX12_together_79 : decode cX12_together 79 = .ok (.invokestatic 162, 3) := by decide +kernel
theorem dX12_together_82 : decode cX12_together 82 = .ok (.ifCond .eq 51, 3) := by decide +kernel
theorem dX12_together_85 : decode cX12_together 85 = .ok (.aload_n 0, 1) := by decide +kernel
theorem dX12_together_86 : decode cX12_together 86 = .ok (.aload_n 0, 1) := by decide +kernel
theorem dX12_together_87 : decode cX12_together 87 = .ok (.iload_n 1, 1) := by decide +kernel
theorem dX12_together_88 : decode cX12_together 88 = .ok (.invokevirtual 385, 3) := by decide +kernel
theorem dX12_together_91 : decode cX12_together 91 = .ok (.putfield 350, 3) := by decide +kernel
theorem dX12_together_94 : decode cX12_together 94 = .ok (.aload_n 0, 1) := by decide +kernel
theorem dX12_together_95 : decode cX12_together 95 = .ok (.aload_n 0, 1) := by decide +kernel
theorem dX12_together_96 : decode cX12_together 96 = .ok (.iload_n 3, 1) := by decide +kernel
theorem dX12_together_97 : decode cX12_together 97 = .ok (.invokevirtual 385, 3) := by decide +kernel
theorem dX12_together_100 : decode cX12_together 100 = .ok (.putfield 356, 3) := by decide +kernel
theorem dX12_together_103 : decode cX12_together 103 = .ok (.aload_n 0, 1) := by decide +kernel
theorem dX12_together_104 : decode cX12_together 104 = .ok (.iload_n 2, 1) := by decide +kernel
theorem dX12_together_105 : decode cX12_together 105 = .ok (.putfield 353, 3) := by decide +kernel
theorem dX12_together_108 : decode cX12_together 108 = .ok (.aload_n 0, 1) := by decide +kernel
theorem dX12_together_109 : decode cX12_together 109 = .ok (.iload 4, 2) := by decide +kernel
theorem dX12_together_111 : decode cX12_together 111 = .ok (.putfield 359, 3) := by decide +kernel
theorem dX12_together_114 : decode cX12_together 114 = .ok (.aload_n 0, 1) := by decide +kernel
theorem dX12_together_115 : decode cX12_together 115 = .ok (.iload_n 1, 1) := by decide +kernel
theorem dX12_together_116 : decode cX12_together 116 = .ok (.invokevirtual 375, 3) := by decide +kernel
theorem dX12_together_119 : decode cX12_together 119 = .ok (.pop, 1) := by decide +kernel
theorem dX12_together_120 : decode cX12_together 120 = .ok (.aload_n 0, 1) := by decide +kernel
theorem dX12_together_121 : decode cX12_together 121 = .ok (.getfield 347, 3) := by decide +kernel
theorem dX12_together_124 : decode cX12_together 124 = .ok (.ifCond .eq 7, 3) := by decide +kernel
theorem dX12_together_127 : decode cX12_together 127 = .ok (.iconst 1, 1) := by decide +kernel
theorem dX12_together_128 : decode cX12_together 128 = .ok (.goto 4, 3) := by decide +kernel
theorem dX12_together_131 : decode cX12_together 131 = .ok (.iconst 0, 1) := by decide +kernel
theorem dX12_together_132 : decode cX12_together 132 = .ok (.ireturn, 1) := by decide +kernel
theorem dX12_together_133 : decode cX12_together 133 = .ok (.aload_n 0, 1) := by decide +kernel
theorem dX12_together_134 : decode cX12_together 134 = .ok (.iload_n 3, 1) := by decide +kernel
theorem dX12_together_135 : decode cX12_together 135 = .ok (.iconst (-1), 1) := by decide +kernel
theorem dX12_together_136 : decode cX12_together 136 = .ok (.invokevirtual 378, 3) := by decide +kernel
theorem dX12_together_139 : decode cX12_together 139 = .ok (.ifCond .ne 6, 3) := by decide +kernel
theorem dX12_together_142 : decode cX12_together 142 = .ok (.bipush (-6), 2) := by decide +kernel
theorem dX12_together_144 : decode cX12_together 144 = .ok (.ireturn, 1) := by decide +kernel
theorem dX12_together_145 : decode cX12_together 145 = .ok (.iload 5, 2) := by decide +kernel
theorem dX12_together_147 : decode cX12_together 147 = .ok (.ifCond .eq 26, 3) := by decide +kernel
theorem dX12_together_150 : decode cX12_together 150 = .ok (.aload_n 0, 1) := by decide +kernel
theorem dX12_together_151 : decode cX12_together 151 = .ok (.getfield 99, 3) := by decide +kernel
theorem dX12_together_154 : decode cX12_together 154 = .ok (.bipush 64, 2) := by decide +kernel
theorem dX12_together_156 : decode cX12_together 156 = .ok (.aload_n 0, 1) := by decide +kernel
theorem dX12_together_157 : decode cX12_together 157 = .ok (.iload_n 3, 1) := by decide +kernel
theorem dX12_together_158 : decode cX12_together 158 = .ok (.invokevirtual 385, 3) := by decide +kernel
theorem dX12_together_161 : decode cX12_together 161 = .ok (.imul, 1) := by decide +kernel
theorem dX12_together_162 : decode cX12_together 162 = .ok (.iload 4, 2) := by decide +kernel
theorem dX12_together_164 : decode cX12_together 164 = .ok (.iadd, 1) := by decide +kernel
theorem dX12_together_165 : decode cX12_together 165 = .ok (.iaload, 1) := by decide +kernel
theorem dX12_together_166 : decode cX12_together 166 = .ok (.ifCond .le 7, 3) := by decide +kernel
theorem dX12_together_169 : decode cX12_together 169 = .ok (.iconst 1, 1) := by decide +kernel
theorem dX12_together_170 : decode cX12_together 170 = .ok (.goto 4, 3) := by decide +kernel
theorem dX12_together_173 : decode cX12_together 173 = .ok (.iconst 0, 1) := by decide +kernel
theorem dX12_together_174 : decode cX12_together 174 = .ok (.ireturn, 1) := by decide +kernel
theorem dX12_told_0 : decode cX12_told 0 = .ok (.aload_n 0, 1) := by decide +kernel
theorem dX12_told_1 : decode cX12_told 1 = .ok (.iload_n 1, 1) := by decide +kernel
theorem dX12_told_2 : decode cX12_told 2 = .ok (.invokevirtual 304, 3) := by decide +kernel
theorem dX12_told_5 : decode cX12_told 5 = .ok (.ifCond .eq 5, 3) := by decide +kernel
theorem dX12_told_8 : decode cX12_told 8 = .ok (.iconst (-1), 1) := by decide +kernel
theorem dX12_told_9 : decode cX12_told 9 = .ok (.ireturn, 1) := by decide +kernel
theorem dX12_told_10 : decode cX12_told 10 = .ok (.iload_n 2, 1) := by decide +kernel
theorem dX12_told_11 : decode cX12_told 11 = .ok (.tableswitch 110 0 6 #[41, 48, 55, 62, 69, 76, 91], 41) := by decide +kernel
theorem dX12_told_52 : decode cX12_told 52 = .ok (.aload_n 0, 1) := by decide +kernel
theorem dX12_told_53 : decode cX12_told 53 = .ok (.getfield 35, 3) := by decide +kernel
theorem dX12_told_56 : decode cX12_told 56 = .ok (.iload_n 1, 1) := by decide +kernel
theorem dX12_told_57 : decode cX12_told 57 = .ok (.iaload, 1) := by decide +kernel
theorem dX12_told_58 : decode cX12_told 58 = .ok (.ireturn, 1) := by decide +kernel
theorem dX12_told_59 : decode cX12_told 59 = .ok (.aload_n 0, 1) := by decide +kernel
theorem dX12_told_60 : decode cX12_told 60 = .ok (.getfield 38, 3) := by decide +kernel
theorem dX12_told_63 : decode cX12_told 63 = .ok (.iload_n 1, 1) := by decide +kernel
theorem dX12_told_64 : decode cX12_told 64 = .ok (.iaload, 1) := by decide +kernel
theorem dX12_told_65 : decode cX12_told 65 = .ok (.ireturn, 1) := by decide +kernel
theorem dX12_told_66 : decode cX12_told 66 = .ok (.aload_n 0, 1) := by decide +kernel
theorem dX12_told_67 : decode cX12_told 67 = .ok (.getfield 41, 3) := by decide +kernel
theorem dX12_told_70 : decode cX12_told 70 = .ok (.iload_n 1, 1) := by decide +kernel
theorem dX12_told_71 : decode cX12_told 71 = .ok (.iaload, 1) := by decide +kernel
theorem dX12_told_72 : decode cX12_told 72 = .ok (.ireturn, 1) := by decide +kernel
theorem dX12_told_73 : decode cX12_told 73 = .ok (.aload_n 0, 1) := by decide +kernel
theorem dX12_told_74 : decode cX12_told 74 = .ok (.getfield 44, 3) := by decide +kernel
theorem dX12_told_77 : decode cX12_told 77 = .ok (.iload_n 1, 1) := by decide +kernel
theorem dX12_told_78 : decode cX12_told 78 = .ok (.iaload, 1) := by decide +kernel
theorem dX12_told_79 : decode cX12_told 79 = .ok (.ireturn, 1) := by decide +kernel
theorem dX12_told_80 : decode cX12_told 80 = .ok (.aload_n 0, 1) := by decide +kernel
theorem dX12_told_81 : decode cX12_told 81 = .ok (.getfield 47, 3) := by decide +kernel
theorem dX12_told_84 : decode cX12_told 84 = .ok (.iload_n 1, 1) := by decide +kernel
theorem dX12_told_85 : decode cX12_told 85 = .ok (.iaload, 1) := by decide +kernel
theorem dX12_told_86 : decode cX12_told 86 = .ok (.ireturn, 1) := by decide +kernel
theorem dX12_told_87 : decode cX12_told 87 = .ok (.aload_n 0, 1) := by decide +kernel
theorem dX12_told_88 : decode cX12_told 88 = .ok (.getfield 50, 3) := by decide +kernel
theorem dX12_told_91 : decode cX12_told 91 = .ok (.iload_n 1, 1) := by decide +kernel
theorem dX12_told_92 : decode cX12_told 92 = .ok (.baload, 1) := by decide +kernel
theorem dX12_told_93 : decode cX12_told 93 = .ok (.ifCond .eq 7, 3) := by decide +kernel
theorem dX12_told_96 : decode cX12_told 96 = .ok (.iconst 1, 1) := by decide +kernel
theorem dX12_told_97 : decode cX12_told 97 = .ok (.goto 4, 3) := by decide +kernel
theorem dX12_told_100 : decode cX12_told 100 = .ok (.iconst 0, 1) := by decide +kernel
theorem dX12_told_101 : decode cX12_told 101 = .ok (.ireturn, 1) := by decide +kernel
theorem dX12_told_102 : decode cX12_told 102 = .ok (.aload_n 0, 1) := by decide +kernel
theorem dX12_told_103 : decode cX12_told 103 = .ok (.invokevirtual 327, 3) := by decide +kernel
theorem dX12_told_106 : decode cX12_told 106 = .ok (.aload_n 0, 1) := by decide +kernel
theorem dX12_told_107 : decode cX12_told 107 = .ok (.getfield 87, 3) := by decide +kernel
theorem dX12_told_110 : decode cX12_told 110 = .ok (.iload_n 1, 1) := by decide +kernel
theorem dX12_told_111 : decode cX12_told 111 = .ok (.baload, 1) := by decide +kernel
theorem dX12_told_112 : decode cX12_told 112 = .ok (.ifCond .eq 7, 3) := by decide +kernel
theorem dX12_told_115 : decode cX12_told 115 = .ok (.iconst 1, 1) := by decide +kernel
theorem dX12_told_116 : decode cX12_told 116 = .ok (.goto 4, 3) := by decide +kernel
theorem dX12_told_119 : decode cX12_told 119 = .ok (.iconst 0, 1) := by decide +kernel
theorem dX12_told_120 : decode cX12_told 120 = .ok (.ireturn, 1) := by decide +kernel
theorem dX12_told_121 : decode cX12_told 121 = .ok (.bipush (-2), 2) := by decide +kernel
theorem dX12_told_123 : decode cX12_told 123 = .ok (.ireturn, 1) := by decide +kernel
theorem dX12_toldOf_0 : decode cX12_toldOf 0 = .ok (.aload_n 0, 1) := by decide +kernel
theorem dX12_toldOf_1 : decode cX12_toldOf 1 = .ok (.getfield 13, 3) := by decide +kernel
theorem dX12_toldOf_4 : decode cX12_toldOf 4 = .ok (.iload_n 1, 1) := by decide +kernel
theorem dX12_toldOf_5 : decode cX12_toldOf 5 = .ok (.iaload, 1) := by decide +kernel
theorem dX12_toldOf_6 : decode cX12_toldOf 6 = .ok (.ifCond .le 12, 3) := by decide +kernel
theorem dX12_toldOf_9 : decode cX12_toldOf 9 = .ok (.lconst 1, 1) := by decide +kernel
theorem dX12_toldOf_10 : decode cX12_toldOf 10 = .ok (.aload_n 0, 1) := by decide +kernel
theorem dX12_toldOf_11 : decode cX12_toldOf 11 = .ok (.getfield 17, 3) := by decide +kernel
theorem dX12_toldOf_14 : decode cX12_toldOf 14 = .ok (.iload_n 1, 1) := by decide +kernel
theorem dX12_toldOf_15 : decode cX12_toldOf 15 = .ok (.iaload, 1) := by decide +kernel
theorem dX12_toldOf_16 : decode cX12_toldOf 16 = .ok (.lshl, 1) := by decide +kernel
theorem dX12_toldOf_17 : decode cX12_toldOf 17 = .ok (.lreturn, 1) := by decide +kernel
theorem dX12_toldOf_18 : decode cX12_toldOf 18 = .ok (.lconst 0, 1) := by decide +kernel
theorem dX12_toldOf_19 : decode cX12_toldOf 19 = .ok (.lstore_n 2, 1) := by decide +kernel
theorem dX12_toldOf_20 : decode cX12_toldOf 20 = .ok (.iconst 0, 1) := by decide +kernel
theorem dX12_toldOf_21 : decode cX12_toldOf 21 = .ok (.istore 4, 2) := by decide +kernel
theorem dX12_toldOf_23 : decode cX12_toldOf 23 = .ok (.iload 4, 2) := by decide +kernel
theorem dX12_toldOf_25 : decode cX12_toldOf 25 = .ok (.bipush 64, 2) := by decide +kernel
theorem dX12_toldOf_27 : decode cX12_toldOf 27 = .ok (.if_icmp .ge 107, 3) := by decide +kernel
theorem dX12_toldOf_30 : decode cX12_toldOf 30 = .ok (.aload_n 0, 1) := by decide +kernel
theorem dX12_toldOf_31 : decode cX12_toldOf 31 = .ok (.iload 4, 2) := by decide +kernel
theorem dX12_toldOf_33 : decode cX12_toldOf 33 = .ok (.invokevirtual 216, 3) := by decide +kernel
theorem dX12_toldOf_36 : decode cX12_toldOf 36 = .ok (.ifCond .eq 73, 3) := by decide +kernel
theorem dX12_toldOf_39 : decode cX12_toldOf 39 = .ok (.iload 4, 2) := by decide +kernel
theorem dX12_toldOf_41 : decode cX12_toldOf 41 = .ok (.bipush 8, 2) := by decide +kernel
theorem dX12_toldOf_43 : decode cX12_toldOf 43 = .ok (.irem, 1) := by decide +kernel
theorem dX12_toldOf_44 : decode cX12_toldOf 44 = .ok (.i2l, 1) := by decide +kernel
theorem dX12_toldOf_45 : decode cX12_toldOf 45 = .ok (.aload_n 0, 1) := by decide +kernel
theorem dX12_toldOf_46 : decode cX12_toldOf 46 = .ok (.getfield 20, 3) := by decide +kernel
theorem dX12_toldOf_49 : decode cX12_toldOf 49 = .ok (.iconst 4, 1) := by decide +kernel
theorem dX12_toldOf_50 : decode cX12_toldOf 50 = .ok (.iload_n 1, 1) := by decide +kernel
theorem dX12_toldOf_51 : decode cX12_toldOf 51 = .ok (.imul, 1) := by decide +kernel
theorem dX12_toldOf_52 : decode cX12_toldOf 52 = .ok (.iaload, 1) := by decide +kernel
theorem dX12_toldOf_53 : decode cX12_toldOf 53 = .ok (.i2l, 1) := by decide +kernel
theorem dX12_toldOf_54 : decode cX12_toldOf 54 = .ok (.aload_n 0, 1) := by decide +kernel
theorem dX12_toldOf_55 : decode cX12_toldOf 55 = .ok (.getfield 20, 3) := by decide +kernel
theorem dX12_toldOf_58 : decode cX12_toldOf 58 = .ok (.iconst 4, 1) := by decide +kernel
theorem dX12_toldOf_59 : decode cX12_toldOf 59 = .ok (.iload_n 1, 1) := by decide +kernel
theorem dX12_toldOf_60 : decode cX12_toldOf 60 = .ok (.imul, 1) := by decide +kernel
theorem dX12_toldOf_61 : decode cX12_toldOf 61 = .ok (.iconst 2, 1) := by decide +kernel
theorem dX12_toldOf_62 : decode cX12_toldOf 62 = .ok (.iadd, 1) := by decide +kernel
theorem dX12_toldOf_63 : decode cX12_toldOf 63 = .ok (.iaload, 1) := by decide +kernel
theorem dX12_toldOf_64 : decode cX12_toldOf 64 = .ok (.i2l, 1) := by decide +kernel
theorem dX12_toldOf_65 : decode cX12_toldOf 65 = .ok (.invokestatic 175, 3) := by decide +kernel
theorem dX12_toldOf_68 : decode cX12_toldOf 68 = .ok (.ifCond .eq 41, 3) := by decide +kernel
theorem dX12_toldOf_71 : decode cX12_toldOf 71 = .ok (.iload 4, 2) := by decide +kernel
theorem dX12_toldOf_73 : decode cX12_toldOf 73 = .ok (.bipush 8, 2) := by decide +kernel
theorem dX12_toldOf_75 : decode cX12_toldOf 75 = .ok (.idiv, 1) := by decide +kernel
theorem dX12_toldOf_76 : decode cX12_toldOf 76 = .ok (.i2l, 1) := by decide +kernel
theorem dX12_toldOf_77 : decode cX12_toldOf 77 = .ok (.aload_n 0, 1) := by decide +kernel
theorem dX12_toldOf_78 : decode cX12_toldOf 78 = .ok (.getfield 20, 3) := by decide +kernel
theorem dX12_toldOf_81 : decode cX12_toldOf 81 = .ok (.iconst 4, 1) := by decide +kernel
theorem dX12_toldOf_82 : decode cX12_toldOf 82 = .ok (.iload_n 1, 1) := by decide +kernel
theorem dX12_toldOf_83 : decode cX12_toldOf 83 = .ok (.imul, 1) := by decide +kernel
theorem dX12_toldOf_84 : decode cX12_toldOf 84 = .ok (.iconst 1, 1) := by decide +kernel
theorem dX12_toldOf_85 : decode cX12_toldOf 85 = .ok (.iadd, 1) := by decide +kernel
theorem dX12_toldOf_86 : decode cX12_toldOf 86 = .ok (.iaload, 1) := by decide +kernel
theorem dX12_toldOf_87 : decode cX12_toldOf 87 = .ok (.i2l, 1) := by decide +kernel
theorem dX12_toldOf_88 : decode cX12_toldOf 88 = .ok (.aload_n 0, 1) := by decide +kernel
theorem dX12_toldOf_89 : decode cX12_toldOf 89 = .ok (.getfield 20, 3) := by decide +kernel
theorem dX12_toldOf_92 : decode cX12_toldOf 92 = .ok (.iconst 4, 1) := by decide +kernel
theorem dX12_toldOf_93 : decode cX12_toldOf 93 = .ok (.iload_n 1, 1) := by decide +kernel
theorem dX12_toldOf_94 : decode cX12_toldOf 94 = .ok (.imul, 1) := by decide +kernel
theorem dX12_toldOf_95 : decode cX12_toldOf 95 = .ok (.iconst 3, 1) := by decide +kernel
theorem dX12_toldOf_96 : decode cX12_toldOf 96 = .ok (.iadd, 1) := by decide +kernel
theorem dX12_toldOf_97 : decode cX12_toldOf 97 = .ok (.iaload, 1) := by decide +kernel
theorem dX12_toldOf_98 : decode cX12_toldOf 98 = .ok (.i2l, 1) := by decide +kernel
theorem dX12_toldOf_99 : decode cX12_toldOf 99 = .ok (.invokestatic 175, 3) := by decide +kernel
theorem dX12_toldOf_102 : decode cX12_toldOf 102 = .ok (.ifCond .eq 7, 3) := by decide +kernel
theorem dX12_toldOf_105 : decode cX12_toldOf 105 = .ok (.iconst 1, 1) := by decide +kernel
theorem dX12_toldOf_106 : decode cX12_toldOf 106 = .ok (.goto 4, 3) := by decide +kernel
theorem dX12_toldOf_109 : decode cX12_toldOf 109 = .ok (.iconst 0, 1) := by decide +kernel
theorem dX12_toldOf_110 : decode cX12_toldOf 110 = .ok (.istore 5, 2) := by decide +kernel
theorem dX12_toldOf_112 : decode cX12_toldOf 112 = .ok (.lload_n 2, 1) := by decide +kernel
theorem dX12_toldOf_113 : decode cX12_toldOf 113 = .ok (.iload 5, 2) := by decide +kernel
theorem dX12_toldOf_115 : decode cX12_toldOf 115 = .ok (.ifCond .eq 10, 3) := by decide +kernel
theorem dX12_toldOf_118 : decode cX12_toldOf 118 = .ok (.lconst 1, 1) := by decide +kernel
theorem dX12_toldOf_119 : decode cX12_toldOf 119 = .ok (.iload 4, 2) := by decide +kernel
theorem dX12_toldOf_121 : decode cX12_toldOf 121 = .ok (.lshl, 1) := by decide +kernel
theorem dX12_toldOf_122 : decode cX12_toldOf 122 = .ok (.goto 4, 3) := by decide +kernel
theorem dX12_toldOf_125 : decode cX12_toldOf 125 = .ok (.lconst 0, 1) := by decide +kernel
theorem dX12_toldOf_126 : decode cX12_toldOf 126 = .ok (.lor, 1) := by decide +kernel
theorem dX12_toldOf_127 : decode cX12_toldOf 127 = .ok (.lstore_n 2, 1) := by decide +kernel
theorem dX12_toldOf_128 : decode cX12_toldOf 128 = .ok (.iinc 4 1, 3) := by decide +kernel
theorem dX12_toldOf_131 : decode cX12_toldOf 131 = .ok (.goto (-108), 3) := by decide +kernel
theorem dX12_toldOf_134 : decode cX12_toldOf 134 = .ok (.lload_n 2, 1) := by decide +kernel
theorem dX12_toldOf_135 : decode cX12_toldOf 135 = .ok (.lreturn, 1) := by decide +kernel
theorem dX12_trace_0 : decode cX12_trace 0 = .ok (.aload_n 0, 1) := by decide +kernel
theorem dX12_trace_1 : decode cX12_trace 1 = .ok (.getfield 506, 3) := by decide +kernel
theorem dX12_trace_4 : decode cX12_trace 4 = .ok (.ireturn, 1) := by decide +kernel
theorem dX12_traced_0 : decode cX12_traced 0 = .ok (.aload_n 0, 1) := by decide +kernel
theorem dX12_traced_1 : decode cX12_traced 1 = .ok (.bipush 31, 2) := by decide +kernel
theorem dX12_traced_3 : decode cX12_traced 3 = .ok (.aload_n 0, 1) := by decide +kernel
theorem dX12_traced_4 : decode cX12_traced 4 = .ok (.getfield 506, 3) := by decide +kernel
theorem dX12_traced_7 : decode cX12_traced 7 = .ok (.imul, 1) := by decide +kernel
theorem dX12_traced_8 : decode cX12_traced 8 = .ok (.iload_n 1, 1) := by decide +kernel
theorem dX12_traced_9 : decode cX12_traced 9 = .ok (.iadd, 1) := by decide +kernel
theorem dX12_traced_10 : decode cX12_traced 10 = .ok (.putfield 506, 3) := by decide +kernel
theorem dX12_traced_13 : decode cX12_traced 13 = .ok (.return_, 1) := by decide +kernel
theorem dX12_trials_0 : decode cX12_trials 0 = .ok (.aload_n 0, 1) := by decide +kernel
theorem dX12_trials_1 : decode cX12_trials 1 = .ok (.getfield 382, 3) := by decide +kernel
theorem dX12_trials_4 : decode cX12_trials 4 = .ok (.ireturn, 1) := by decide +kernel
theorem dX12_trust_0 : decode cX12_trust 0 = .ok (.aload_n 0, 1) := by decide +kernel
theorem dX12_trust_1 : decode cX12_trust 1 = .ok (.iload_n 1, 1) := by decide +kernel
theorem dX12_trust_2 : decode cX12_trust 2 = .ok (.invokevirtual 245, 3) := by decide +kernel
theorem dX12_trust_5 : decode cX12_trust 5 = .ok (.ifCond .eq 5, 3) := by decide +kernel
theorem dX12_trust_8 : decode cX12_trust 8 = .ok (.iconst (-1), 1) := by decide +kernel
theorem dX12_trust_9 : decode cX12_trust 9 = .ok (.ireturn, 1) := by decide +kernel
theorem dX12_trust_10 : decode cX12_trust 10 = .ok (.aload_n 0, 1) := by decide +kernel
theorem dX12_trust_11 : decode cX12_trust 11 = .ok (.getfield 23, 3) := by decide +kernel
theorem dX12_trust_14 : decode cX12_trust 14 = .ok (.iload_n 1, 1) := by decide +kernel
theorem dX12_trust_15 : decode cX12_trust 15 = .ok (.baload, 1) := by decide +kernel
theorem dX12_trust_16 : decode cX12_trust 16 = .ok (.istore_n 3, 1) := by decide +kernel
theorem dX12_trust_17 : decode cX12_trust 17 = .ok (.aload_n 0, 1) := by decide +kernel
theorem dX12_trust_18 : decode cX12_trust 18 = .ok (.getfield 23, 3) := by decide +kernel
theorem dX12_trust_21 : decode cX12_trust 21 = .ok (.iload_n 1, 1) := by decide +kernel
theorem dX12_trust_22 : decode cX12_trust 22 = .ok (.iload_n 2, 1) := by decide +kernel
theorem dX12_trust_23 : decode cX12_trust 23 = .ok (.bastore, 1) := by decide +kernel
theorem dX12_trust_24 : decode cX12_trust 24 = .ok (.aload_n 0, 1) := by decide +kernel
theorem dX12_trust_25 : decode cX12_trust 25 = .ok (.iconst 0, 1) := by decide +kernel
theorem dX12_trust_26 : decode cX12_trust 26 = .ok (.putfield 196, 3) := by decide +kernel
theorem dX12_trust_29 : decode cX12_trust 29 = .ok (.iload_n 3, 1) := by decide +kernel
theorem dX12_trust_30 : decode cX12_trust 30 = .ok (.iload_n 2, 1) := by decide +kernel
theorem dX12_trust_31 : decode cX12_trust 31 = .ok (.if_icmp .ne 7, 3) := by decide +kernel
theorem dX12_trust_34 : decode cX12_trust 34 = .ok (.iconst 0, 1) := by decide +kernel
theorem dX12_trust_35 : decode cX12_trust 35 = .ok (.goto 4, 3) := by decide +kernel
theorem dX12_trust_38 : decode cX12_trust 38 = .ok (.iconst 1, 1) := by decide +kernel
theorem dX12_trust_39 : decode cX12_trust 39 = .ok (.ireturn, 1) := by decide +kernel
theorem dX12_tryJoints_0 : decode cX12_tryJoints 0 = .ok (.aload_n 0, 1) := by decide +kernel
theorem dX12_tryJoints_1 : decode cX12_tryJoints 1 = .ok (.getfield 403, 3) := by decide +kernel
theorem dX12_tryJoints_4 : decode cX12_tryJoints 4 = .ok (.iconst 1, 1) := by decide +kernel
theorem dX12_tryJoints_5 : decode cX12_tryJoints 5 = .ok (.aload_n 0, 1) := by decide +kernel
theorem dX12_tryJoints_6 : decode cX12_tryJoints 6 = .ok (.getfield 397, 3) := by decide +kernel
theorem dX12_tryJoints_9 : decode cX12_tryJoints 9 = .ok (.ishl, 1) := by decide +kernel
theorem dX12_tryJoints_10 : decode cX12_tryJoints 10 = .ok (.iconst (-1), 1) := by decide +kernel
theorem dX12_tryJoints_11 : decode cX12_tryJoints 11 = .ok (.ixor, 1) := by decide +kernel
theorem dX12_tryJoints_12 : decode cX12_tryJoints 12 = .ok (.iand, 1) := by decide +kernel
theorem dX12_tryJoints_13 : decode cX12_tryJoints 13 = .ok (.aload_n 0, 1) := by decide +kernel
theorem dX12_tryJoints_14 : decode cX12_tryJoints 14 = .ok (.getfield 400, 3) := by decide +kernel
theorem dX12_tryJoints_17 : decode cX12_tryJoints 17 = .ok (.ifCond .ge 7, 3) := by decide +kernel
theorem dX12_tryJoints_20 : decode cX12_tryJoints 20 = .ok (.iconst (-1), 1) := by decide +kernel
theorem dX12_tryJoints_21 : decode cX12_tryJoints 21 = .ok (.goto 11, 3) := by decide +kernel
theorem dX12_tryJoints_24 : decode cX12_tryJoints 24 = .ok (.iconst 1, 1) := by decide +kernel
theorem dX12_tryJoints_25 : decode cX12_tryJoints 25 = .ok (.aload_n 0, 1) := by decide +kernel
theorem dX12_tryJoints_26 : decode cX12_tryJoints 26 = .ok (.getfield 400, 3) := by decide +kernel
theorem dX12_tryJoints_29 : decode cX12_tryJoints 29 = .ok (.ishl, 1) := by decide +kernel
theorem dX12_tryJoints_30 : decode cX12_tryJoints 30 = .ok (.iconst (-1), 1) := by decide +kernel
theorem dX12_tryJoints_31 : decode cX12_tryJoints 31 = .ok (.ixor, 1) := by decide +kernel
theorem dX12_tryJoints_32 : decode cX12_tryJoints 32 = .ok (.iand, 1) := by decide +kernel
theorem dX12_tryJoints_33 : decode cX12_tryJoints 33 = .ok (.istore_n 1, 1) := by decide +kernel
theorem dX12_tryJoints_34 : decode cX12_tryJoints 34 = .ok (.iconst 0, 1) := by decide +kernel
theorem dX12_tryJoints_35 : decode cX12_tryJoints 35 = .ok (.istore_n 2, 1) := by decide +kernel
theorem dX12_tryJoints_36 : decode cX12_tryJoints 36 = .ok (.iload_n 2, 1) := by decide +kernel
theorem dX12_tryJoints_37 : decode cX12_tryJoints 37 = .ok (.aload_n 0, 1) := by decide +kernel
theorem dX12_tryJoints_38 : decode cX12_tryJoints 38 = .ok (.getfield 183, 3) := by decide +kernel
theorem dX12_tryJoints_41 : decode cX12_tryJoints 41 = .ok (.if_icmp .ge 105, 3) := by decide +kernel
theorem dX12_tryJoints_44 : decode cX12_tryJoints 44 = .ok (.iload_n 1, 1) := by decide +kernel
theorem dX12_tryJoints_45 : decode cX12_tryJoints 45 = .ok (.i2l, 1) := by decide +kernel
theorem dX12_tryJoints_46 : decode cX12_tryJoints 46 = .ok (.iload_n 2, 1) := by decide +kernel
theorem dX12_tryJoints_47 : decode cX12_tryJoints 47 = .ok (.invokestatic 162, 3) := by decide +kernel
theorem dX12_tryJoints_50 : decode cX12_tryJoints 50 = .ok (.ifCond .eq 90, 3) := by decide +kernel
theorem dX12_tryJoints_53 : decode cX12_tryJoints 53 = .ok (.aload_n 0, 1) := by decide +kernel
theorem dX12_tryJoints_54 : decode cX12_tryJoints 54 = .ok (.aload_n 0, 1) := by decide +kernel
theorem dX12_tryJoints_55 : decode cX12_tryJoints 55 = .ok (.iload_n 2, 1) := by decide +kernel
theorem dX12_tryJoints_56 : decode cX12_tryJoints 56 = .ok (.invokevirtual 421, 3) := by decide +kernel
theorem dX12_tryJoints_59 : decode cX12_tryJoints 59 = .ok (.putfield 406, 3) := by decide +kernel
theorem dX12_tryJoints_62 : decode cX12_tryJoints 62 = .ok (.iload_n 1, 1) := by decide +kernel
theorem dX12_tryJoints_63 : decode cX12_tryJoints 63 = .ok (.aload_n 0, 1) := by decide +kernel
theorem dX12_tryJoints_64 : decode cX12_tryJoints 64 = .ok (.getfield 406, 3) := by decide +kernel
theorem dX12_tryJoints_67 : decode cX12_tryJoints 67 = .ok (.iconst (-1), 1) := by decide +kernel
theorem dX12_tryJoints_68 : decode cX12_tryJoints 68 = .ok (.ixor, 1) := by decide +kernel
theorem dX12_tryJoints_69 : decode cX12_tryJoints 69 = .ok (.iand, 1) := by decide +kernel
theorem dX12_tryJoints_70 : decode cX12_tryJoints 70 = .ok (.istore_n 1, 1) := by decide +kernel
theorem dX12_tryJoints_71 : decode cX12_tryJoints 71 = .ok (.aload_n 0, 1) := by decide +kernel
theorem dX12_tryJoints_72 : decode cX12_tryJoints 72 = .ok (.iconst 1, 1) := by decide +kernel
theorem dX12_tryJoints_73 : decode cX12_tryJoints 73 = .ok (.putfield 412, 3) := by decide +kernel
theorem dX12_tryJoints_76 : decode cX12_tryJoints 76 = .ok (.aload_n 0, 1) := by decide +kernel
theorem dX12_tryJoints_77 : decode cX12_tryJoints 77 = .ok (.getfield 412, 3) := by decide +kernel
theorem dX12_tryJoints_80 : decode cX12_tryJoints 80 = .ok (.bipush 8, 2) := by decide +kernel
theorem dX12_tryJoints_82 : decode cX12_tryJoints 82 = .ok (.if_icmp .ge 58, 3) := by decide +kernel
theorem dX12_tryJoints_85 : decode cX12_tryJoints 85 = .ok (.aload_n 0, 1) := by decide +kernel
theorem dX12_tryJoints_86 : decode cX12_tryJoints 86 = .ok (.invokevirtual 424, 3) := by decide +kernel
theorem dX12_tryJoints_89 : decode cX12_tryJoints 89 = .ok (.ifCond .eq 51, 3) := by decide +kernel
theorem dX12_tryJoints_92 : decode cX12_tryJoints 92 = .ok (.aload_n 0, 1) := by decide +kernel
theorem dX12_tryJoints_93 : decode cX12_tryJoints 93 = .ok (.invokevirtual 427, 3) := by decide +kernel
theorem dX12_tryJoints_96 : decode cX12_tryJoints 96 = .ok (.istore_n 3, 1) := by decide +kernel
theorem dX12_tryJoints_97 : decode cX12_tryJoints 97 = .ok (.iload_n 3, 1) := by decide +kernel
theorem dX12_tryJoints_98 : decode cX12_tryJoints 98 = .ok (.ifCond .le 29, 3) := by decide +kernel
theorem dX12_tryJoints_101 : decode cX12_tryJoints 101 = .ok (.aload_n 0, 1) := by decide +kernel
theorem dX12_tryJoints_102 : decode cX12_tryJoints 102 = .ok (.getfield 430, 3) := by decide +kernel
theorem dX12_tryJoints_105 : decode cX12_tryJoints 105 = .ok (.aload_n 0, 1) := by decide +kernel
theorem dX12_tryJoints_106 : decode cX12_tryJoints 106 = .ok (.getfield 433, 3) := by decide +kernel
theorem dX12_tryJoints_109 : decode cX12_tryJoints 109 = .ok (.if_icmp .ne 8, 3) := by decide +kernel
theorem dX12_tryJoints_112 : decode cX12_tryJoints 112 = .ok (.aload_n 0, 1) := by decide +kernel
theorem dX12_tryJoints_113 : decode cX12_tryJoints 113 = .ok (.iload_n 3, 1) := by decide +kernel
theorem dX12_tryJoints_114 : decode cX12_tryJoints 114 = .ok (.invokevirtual 436, 3) := by decide +kernel
theorem dX12_tryJoints_117 : decode cX12_tryJoints 117 = .ok (.aload_n 0, 1) := by decide +kernel
theorem dX12_tryJoints_118 : decode cX12_tryJoints 118 = .ok (.dup, 1) := by decide +kernel
theorem dX12_tryJoints_119 : decode cX12_tryJoints 119 = .ok (.getfield 430, 3) := by decide +kernel
theorem dX12_tryJoints_122 : decode cX12_tryJoints 122 = .ok (.iconst 1, 1) := by decide +kernel
theorem dX12_tryJoints_123 : decode cX12_tryJoints 123 = .ok (.iadd, 1) := by decide +kernel
theorem dX12_tryJoints_124 : decode cX12_tryJoints 124 = .ok (.putfield 430, 3) := by decide +kernel
theorem dX12_tryJoints_127 : decode cX12_tryJoints 127 = .ok (.aload_n 0, 1) := by decide +kernel
theorem dX12_tryJoints_128 : decode cX12_tryJoints 128 = .ok (.dup, 1) := by decide +kernel
theorem dX12_tryJoints_129 : decode cX12_tryJoints 129 = .ok (.getfield 412, 3) := by decide +kernel
theorem dX12_tryJoints_132 : decode cX12_tryJoints 132 = .ok (.iconst 1, 1) := by decide +kernel
theorem dX12_tryJoints_133 : decode cX12_tryJoints 133 = .ok (.iadd, 1) := by decide +kernel
theorem dX12_tryJoints_134 : decode cX12_tryJoints 134 = .ok (.putfield 412, 3) := by decide +kernel
theorem dX12_tryJoints_137 : decode cX12_tryJoints 137 = .ok (.goto (-61), 3) := by decide +kernel
theorem dX12_tryJoints_140 : decode cX12_tryJoints 140 = .ok (.iinc 2 1, 3) := by decide +kernel
theorem dX12_tryJoints_143 : decode cX12_tryJoints 143 = .ok (.goto (-107), 3) := by decide +kernel
theorem dX12_tryJoints_146 : decode cX12_tryJoints 146 = .ok (.return_, 1) := by decide +kernel
theorem dX12_turn_0 : decode cX12_turn 0 = .ok (.aload_n 0, 1) := by decide +kernel
theorem dX12_turn_1 : decode cX12_turn 1 = .ok (.iload_n 1, 1) := by decide +kernel
theorem dX12_turn_2 : decode cX12_turn 2 = .ok (.invokevirtual 304, 3) := by decide +kernel
theorem dX12_turn_5 : decode cX12_turn 5 = .ok (.ifCond .eq 5, 3) := by decide +kernel
theorem dX12_turn_8 : decode cX12_turn 8 = .ok (.iconst (-1), 1) := by decide +kernel
theorem dX12_turn_9 : decode cX12_turn 9 = .ok (.ireturn, 1) := by decide +kernel
theorem dX12_turn_10 : decode cX12_turn 10 = .ok (.aload_n 0, 1) := by decide +kernel
theorem dX12_turn_11 : decode cX12_turn 11 = .ok (.getfield 50, 3) := by decide +kernel
theorem dX12_turn_14 : decode cX12_turn 14 = .ok (.iload_n 1, 1) := by decide +kernel
theorem dX12_turn_15 : decode cX12_turn 15 = .ok (.baload, 1) := by decide +kernel
theorem dX12_turn_16 : decode cX12_turn 16 = .ok (.istore_n 3, 1) := by decide +kernel
theorem dX12_turn_17 : decode cX12_turn 17 = .ok (.aload_n 0, 1) := by decide +kernel
theorem dX12_turn_18 : decode cX12_turn 18 = .ok (.getfield 50, 3) := by decide +kernel
theorem dX12_turn_21 : decode cX12_turn 21 = .ok (.iload_n 1, 1) := by decide +kernel
theorem dX12_turn_22 : decode cX12_turn 22 = .ok (.iload_n 2, 1) := by decide +kernel
theorem dX12_turn_23 : decode cX12_turn 23 = .ok (.bastore, 1) := by decide +kernel
theorem dX12_turn_24 : decode cX12_turn 24 = .ok (.aload_n 0, 1) := by decide +kernel
theorem dX12_turn_25 : decode cX12_turn 25 = .ok (.invokevirtual 199, 3) := by decide +kernel
theorem dX12_turn_28 : decode cX12_turn 28 = .ok (.iload_n 3, 1) := by decide +kernel
theorem dX12_turn_29 : decode cX12_turn 29 = .ok (.iload_n 2, 1) := by decide +kernel
theorem dX12_turn_30 : decode cX12_turn 30 = .ok (.if_icmp .ne 7, 3) := by decide +kernel
theorem dX12_turn_33 : decode cX12_turn 33 = .ok (.iconst 0, 1) := by decide +kernel
theorem dX12_turn_34 : decode cX12_turn 34 = .ok (.goto 4, 3) := by decide +kernel
theorem dX12_turn_37 : decode cX12_turn 37 = .ok (.iconst 1, 1) := by decide +kernel
theorem dX12_turn_38 : decode cX12_turn 38 = .ok (.ireturn, 1) := by decide +kernel
theorem dX12_turnedCell_0 : decode cX12_turnedCell 0 = .ok (.aload_n 0, 1) := by decide +kernel
theorem dX12_turnedCell_1 : decode cX12_turnedCell 1 = .ok (.getfield 32, 3) := by decide +kernel
theorem dX12_turnedCell_4 : decode cX12_turnedCell 4 = .ok (.aload_n 0, 1) := by decide +kernel
theorem dX12_turnedCell_5 : decode cX12_turnedCell 5 = .ok (.getfield 397, 3) := by decide +kernel
theorem dX12_turnedCell_8 : decode cX12_turnedCell 8 = .ok (.iaload, 1) := by decide +kernel
theorem dX12_turnedCell_9 : decode cX12_turnedCell 9 = .ok (.bipush 8, 2) := by decide +kernel
theorem dX12_turnedCell_11 : decode cX12_turnedCell 11 = .ok (.irem, 1) := by decide +kernel
theorem dX12_turnedCell_12 : decode cX12_turnedCell 12 = .ok (.istore_n 2, 1) := by decide +kernel
theorem dX12_turnedCell_13 : decode cX12_turnedCell 13 = .ok (.aload_n 0, 1) := by decide +kernel
theorem dX12_turnedCell_14 : decode cX12_turnedCell 14 = .ok (.getfield 32, 3) := by decide +kernel
theorem dX12_turnedCell_17 : decode cX12_turnedCell 17 = .ok (.aload_n 0, 1) := by decide +kernel
theorem dX12_turnedCell_18 : decode cX12_turnedCell 18 = .ok (.getfield 397, 3) := by decide +kernel
theorem dX12_turnedCell_21 : decode cX12_turnedCell 21 = .ok (.iaload, 1) := by decide +kernel
theorem dX12_turnedCell_22 : decode cX12_turnedCell 22 = .ok (.bipush 8, 2) := by decide +kernel
theorem dX12_turnedCell_24 : decode cX12_turnedCell 24 = .ok (.idiv, 1) := by decide +kernel
theorem dX12_turnedCell_25 : decode cX12_turnedCell 25 = .ok (.istore_n 3, 1) := by decide +kernel
theorem dX12_turnedCell_26 : decode cX12_turnedCell 26 = .ok (.iload_n 1, 1) := by decide +kernel
theorem dX12_turnedCell_27 : decode cX12_turnedCell 27 = .ok (.bipush 8, 2) := by decide +kernel
theorem dX12_turnedCell_29 : decode cX12_turnedCell 29 = .ok (.irem, 1) := by decide +kernel
theorem dX12_turnedCell_30 : decode cX12_turnedCell 30 = .ok (.iload_n 2, 1) := by decide +kernel
theorem dX12_turnedCell_31 : decode cX12_turnedCell 31 = .ok (.isub, 1) := by decide +kernel
theorem dX12_turnedCell_32 : decode cX12_turnedCell 32 = .ok (.istore 4, 2) := by decide +kernel
theorem dX12_turnedCell_34 : decode cX12_turnedCell 34 = .ok (.iload_n 1, 1) := by decide +kernel
theorem dX12_turnedCell_35 : decode cX12_turnedCell 35 = .ok (.bipush 8, 2) := by decide +kernel
theorem dX12_turnedCell_37 : decode cX12_turnedCell 37 = .ok (.idiv, 1) := by decide +kernel
theorem dX12_turnedCell_38 : decode cX12_turnedCell 38 = .ok (.iload_n 3, 1) := by decide +kernel
theorem dX12_turnedCell_39 : decode cX12_turnedCell 39 = .ok (.isub, 1) := by decide +kernel
theorem dX12_turnedCell_40 : decode cX12_turnedCell 40 = .ok (.istore 5, 2) := by decide +kernel
theorem dX12_turnedCell_42 : decode cX12_turnedCell 42 = .ok (.aload_n 0, 1) := by decide +kernel
theorem dX12_turnedCell_43 : decode cX12_turnedCell 43 = .ok (.getfield 412, 3) := by decide +kernel
theorem dX12_turnedCell_46 : decode cX12_turnedCell 46 = .ok (.istore 6, 2) := by decide +kernel
theorem dX12_turnedCell_48 : decode cX12_turnedCell 48 = .ok (.iload 6, 2) := by decide +kernel
theorem dX12_turnedCell_50 : decode cX12_turnedCell 50 = .ok (.ifCond .eq 9, 3) := by decide +kernel
theorem dX12_turnedCell_53 : decode cX12_turnedCell 53 = .ok (.iload 6, 2) := by decide +kernel
theorem dX12_turnedCell_55 : decode cX12_turnedCell 55 = .ok (.iconst 5, 1) := by decide +kernel
theorem dX12_turnedCell_56 : decode cX12_turnedCell 56 = .ok (.if_icmp .ne 8, 3) := by decide +kernel
theorem dX12_turnedCell_59 : decode cX12_turnedCell 59 = .ok (.iload 4, 2) := by decide +kernel
theorem dX12_turnedCell_61 : decode cX12_turnedCell 61 = .ok (.goto 42, 3) := by decide +kernel
theorem dX12_turnedCell_64 : decode cX12_turnedCell 64 = .ok (.iload 6, 2) := by decide +kernel
theorem dX12_turnedCell_66 : decode cX12_turnedCell 66 = .ok (.iconst 1, 1) := by decide +kernel
theorem dX12_turnedCell_67 : decode cX12_turnedCell 67 = .ok (.if_icmp .eq 10, 3) := by decide +kernel
theorem dX12_turnedCell_70 : decode cX12_turnedCell 70 = .ok (.iload 6, 2) := by decide +kernel
theorem dX12_turnedCell_72 : decode cX12_turnedCell 72 = .ok (.bipush 7, 2) := by decide +kernel
theorem dX12_turnedCell_74 : decode cX12_turnedCell 74 = .ok (.if_icmp .ne 9, 3) := by decide +kernel
theorem dX12_turnedCell_77 : decode cX12_turnedCell 77 = .ok (.iload 5, 2) := by decide +kernel
theorem dX12_turnedCell_79 : decode cX12_turnedCell 79 = .ok (.ineg, 1) := by decide +kernel
theorem dX12_turnedCell_80 : decode cX12_turnedCell 80 = .ok (.goto 23, 3) := by decide +kernel
theorem dX12_turnedCell_83 : decode cX12_turnedCell 83 = .ok (.iload 6, 2) := by decide +kernel
theorem dX12_turnedCell_85 : decode cX12_turnedCell 85 = .ok (.iconst 2, 1) := by decide +kernel
theorem dX12_turnedCell_86 : decode cX12_turnedCell 86 = .ok (.if_icmp .eq 9, 3) := by decide +kernel
theorem dX12_turnedCell_89 : decode cX12_turnedCell 89 = .ok (.iload 6, 2) := by decide +kernel
theorem dX12_turnedCell_91 : decode cX12_turnedCell 91 = .ok (.iconst 4, 1) := by decide +kernel
theorem dX12_turnedCell_92 : decode cX12_turnedCell 92 = .ok (.if_icmp .ne 9, 3) := by decide +kernel
theorem dX12_turnedCell_95 : decode cX12_turnedCell 95 = .ok (.iload 4, 2) := by decide +kernel
theorem dX12_turnedCell_97 : decode cX12_turnedCell 97 = .ok (.ineg, 1) := by decide +kernel
theorem dX12_turnedCell_98 : decode cX12_turnedCell 98 = .ok (.goto 5, 3) := by decide +kernel
theorem dX12_turnedCell_101 : decode cX12_turnedCell 101 = .ok (.iload 5, 2) := by decide +kernel
theorem dX12_turnedCell_103 : decode cX12_turnedCell 103 = .ok (.istore 7, 2) := by decide +kernel
theorem dX12_turnedCell_105 : decode cX12_turnedCell 105 = .ok (.iload 6, 2) := by decide +kernel
theorem dX12_turnedCell_107 : decode cX12_turnedCell 107 = .ok (.ifCond .eq 9, 3) := by decide +kernel
theorem dX12_turnedCell_110 : decode cX12_turnedCell 110 = .ok (.iload 6, 2) := by decide +kernel
theorem dX12_turnedCell_112 : decode cX12_turnedCell 112 = .ok (.iconst 4, 1) := by decide +kernel
theorem dX12_turnedCell_113 : decode cX12_turnedCell 113 = .ok (.if_icmp .ne 8, 3) := by decide +kernel
theorem dX12_turnedCell_116 : decode cX12_turnedCell 116 = .ok (.iload 5, 2) := by decide +kernel
theorem dX12_turnedCell_118 : decode cX12_turnedCell 118 = .ok (.goto 42, 3) := by decide +kernel
theorem dX12_turnedCell_121 : decode cX12_turnedCell 121 = .ok (.iload 6, 2) := by decide +kernel
theorem dX12_turnedCell_123 : decode cX12_turnedCell 123 = .ok (.iconst 1, 1) := by decide +kernel
theorem dX12_turnedCell_124 : decode cX12_turnedCell 124 = .ok (.if_icmp .eq 10, 3) := by decide +kernel
theorem dX12_turnedCell_127 : decode cX12_turnedCell 127 = .ok (.iload 6, 2) := by decide +kernel
theorem dX12_turnedCell_129 : decode cX12_turnedCell 129 = .ok (.bipush 6, 2) := by decide +kernel
theorem dX12_turnedCell_131 : decode cX12_turnedCell 131 = .ok (.if_icmp .ne 8, 3) := by decide +kernel
theorem dX12_turnedCell_134 : decode cX12_turnedCell 134 = .ok (.iload 4, 2) := by decide +kernel
theorem dX12_turnedCell_136 : decode cX12_turnedCell 136 = .ok (.goto 24, 3) := by decide +kernel
theorem dX12_turnedCell_139 : decode cX12_turnedCell 139 = .ok (.iload 6, 2) := by decide +kernel
theorem dX12_turnedCell_141 : decode cX12_turnedCell 141 = .ok (.iconst 2, 1) := by decide +kernel
theorem dX12_turnedCell_142 : decode cX12_turnedCell 142 = .ok (.if_icmp .eq 9, 3) := by decide +kernel
theorem dX12_turnedCell_145 : decode cX12_turnedCell 145 = .ok (.iload 6, 2) := by decide +kernel
theorem dX12_turnedCell_147 : decode cX12_turnedCell 147 = .ok (.iconst 5, 1) := by decide +kernel
theorem dX12_turnedCell_148 : decode cX12_turnedCell 148 = .ok (.if_icmp .ne 9, 3) := by decide +kernel
theorem dX12_turnedCell_151 : decode cX12_turnedCell 151 = .ok (.iload 5, 2) := by decide +kernel
theorem dX12_turnedCell_153 : decode cX12_turnedCell 153 = .ok (.ineg, 1) := by decide +kernel
theorem dX12_turnedCell_154 : decode cX12_turnedCell 154 = .ok (.goto 6, 3) := by decide +kernel
theorem dX12_turnedCell_157 : decode cX12_turnedCell 157 = .ok (.iload 4, 2) := by decide +kernel
theorem dX12_turnedCell_159 : decode cX12_turnedCell 159 = .ok (.ineg, 1) := by decide +kernel
theorem dX12_turnedCell_160 : decode cX12_turnedCell 160 = .ok (.istore 8, 2) := by decide +kernel
theorem dX12_turnedCell_162 : decode cX12_turnedCell 162 = .ok (.iload_n 2, 1) := by decide +kernel
theorem dX12_turnedCell_163 : decode cX12_turnedCell 163 = .ok (.iload 7, 2) := by decide +kernel
theorem dX12_turnedCell_165 : decode cX12_turnedCell 165 = .ok (.iadd, 1) := by decide +kernel
theorem dX12_turnedCell_166 : decode cX12_turnedCell 166 = .ok (.i2l, 1) := by decide +kernel
theorem dX12_turnedCell_167 : decode cX12_turnedCell 167 = .ok (.lconst 0, 1) := by decide +kernel
theorem dX12_turnedCell_168 : decode cX12_turnedCell 168 = .ok (.aload_n 0, 1) := by decide +kernel
theorem dX12_turnedCell_169 : decode cX12_turnedCell 169 = .ok (.getfield 153, 3) := by decide +kernel
theorem dX12_turnedCell_172 : decode cX12_turnedCell 172 = .ok (.i2l, 1) := by decide +kernel
theorem dX12_turnedCell_173 : decode cX12_turnedCell 173 = .ok (.lconst 1, 1) := by decide +kernel
theorem dX12_turnedCell_174 : decode cX12_turnedCell 174 = .ok (.lsub, 1) := by decide +kernel
theorem dX12_turnedCell_175 : decode cX12_turnedCell 175 = .ok (.invokestatic 175, 3) := by decide +kernel
theorem dX12_turnedCell_178 : decode cX12_turnedCell 178 = .ok (.ifCond .eq 37, 3) := by decide +kernel
theorem dX12_turnedCell_181 : decode cX12_turnedCell 181 = .ok (.iload_n 3, 1) := by decide +kernel
theorem dX12_turnedCell_182 : decode cX12_turnedCell 182 = .ok (.iload 8, 2) := by decide +kernel
theorem dX12_turnedCell_184 : decode cX12_turnedCell 184 = .ok (.iadd, 1) := by decide +kernel
theorem dX12_turnedCell_185 : decode cX12_turnedCell 185 = .ok (.i2l, 1) := by decide +kernel
theorem dX12_turnedCell_186 : decode cX12_turnedCell 186 = .ok (.lconst 0, 1) := by decide +kernel
theorem dX12_turnedCell_187 : decode cX12_turnedCell 187 = .ok (.aload_n 0, 1) := by decide +kernel
theorem dX12_turnedCell_188 : decode cX12_turnedCell 188 = .ok (.getfield 157, 3) := by decide +kernel
theorem dX12_turnedCell_191 : decode cX12_turnedCell 191 = .ok (.i2l, 1) := by decide +kernel
theorem dX12_turnedCell_192 : decode cX12_turnedCell 192 = .ok (.lconst 1, 1) := by decide +kernel
theorem dX12_turnedCell_193 : decode cX12_turnedCell 193 = .ok (.lsub, 1) := by decide +kernel
theorem dX12_turnedCell_194 : decode cX12_turnedCell 194 = .ok (.invokestatic 175, 3) := by decide +kernel
theorem dX12_turnedCell_197 : decode cX12_turnedCell 197 = .ok (.ifCond .eq 18, 3) := by decide +kernel
theorem dX12_turnedCell_200 : decode cX12_turnedCell 200 = .ok (.bipush 8, 2) := by decide +kernel
theorem dX12_turnedCell_202 : decode cX12_turnedCell 202 = .ok (.iload_n 3, 1) := by decide +kernel
theorem dX12_turnedCell_203 : decode cX12_turnedCell 203 = .ok (.iload 8, 2) := by decide +kernel
theorem dX12_turnedCell_205 : decode cX12_turnedCell 205 = .ok (.iadd, 1) := by decide +kernel
theorem dX12_turnedCell_206 : decode cX12_turnedCell 206 = .ok (.imul, 1) := by decide +kernel
theorem dX12_turnedCell_207 : decode cX12_turnedCell 207 = .ok (.iload_n 2, 1) := by decide +kernel
theorem dX12_turnedCell_208 : decode cX12_turnedCell 208 = .ok (.iadd, 1) := by decide +kernel
theorem dX12_turnedCell_209 : decode cX12_turnedCell 209 = .ok (.iload 7, 2) := by decide +kernel
theorem dX12_turnedCell_211 : decode cX12_turnedCell 211 = .ok (.iadd, 1) := by decide +kernel
theorem dX12_turnedCell_212 : decode cX12_turnedCell 212 = .ok (.goto 5, 3) := by decide +kernel
theorem dX12_turnedCell_215 : decode cX12_turnedCell 215 = .ok (.bipush (-9), 2) := by decide +kernel
theorem dX12_turnedCell_217 : decode cX12_turnedCell 217 = .ok (.ireturn, 1) := by decide +kernel
theorem dX12_useAll_0 : decode cX12_useAll 0 = .ok (.iconst 0, 1) := by decide +kernel
theorem dX12_useAll_1 : decode cX12_useAll 1 = .ok (.istore_n 1, 1) := by decide +kernel
theorem dX12_useAll_2 : decode cX12_useAll 2 = .ok (.iload_n 1, 1) := by decide +kernel
theorem dX12_useAll_3 : decode cX12_useAll 3 = .ok (.aload_n 0, 1) := by decide +kernel
theorem dX12_useAll_4 : decode cX12_useAll 4 = .ok (.getfield 186, 3) := by decide +kernel
theorem dX12_useAll_7 : decode cX12_useAll 7 = .ok (.if_icmp .ge 21, 3) := by decide +kernel
theorem dX12_useAll_10 : decode cX12_useAll 10 = .ok (.aload_n 0, 1) := by decide +kernel
theorem dX12_useAll_11 : decode cX12_useAll 11 = .ok (.getfield 78, 3) := by decide +kernel
theorem dX12_useAll_14 : decode cX12_useAll 14 = .ok (.iload_n 1, 1) := by decide +kernel
theorem dX12_useAll_15 : decode cX12_useAll 15 = .ok (.aload_n 0, 1) := by decide +kernel
theorem dX12_useAll_16 : decode cX12_useAll 16 = .ok (.getfield 50, 3) := by decide +kernel
theorem dX12_useAll_19 : decode cX12_useAll 19 = .ok (.iload_n 1, 1) := by decide +kernel
theorem dX12_useAll_20 : decode cX12_useAll 20 = .ok (.baload, 1) := by decide +kernel
theorem dX12_useAll_21 : decode cX12_useAll 21 = .ok (.bastore, 1) := by decide +kernel
theorem dX12_useAll_22 : decode cX12_useAll 22 = .ok (.iinc 1 1, 3) := by decide +kernel
theorem dX12_useAll_25 : decode cX12_useAll 25 = .ok (.goto (-23), 3) := by decide +kernel
theorem dX12_useAll_28 : decode cX12_useAll 28 = .ok (.return_, 1) := by decide +kernel
theorem dX12_wall_0 : decode cX12_wall 0 = .ok (.aload_n 0, 1) := by decide +kernel
theorem dX12_wall_1 : decode cX12_wall 1 = .ok (.iload_n 1, 1) := by decide +kernel
theorem dX12_wall_2 : decode cX12_wall 2 = .ok (.invokevirtual 179, 3) := by decide +kernel
theorem dX12_wall_5 : decode cX12_wall 5 = .ok (.ifCond .ne 5, 3) := by decide +kernel
theorem dX12_wall_8 : decode cX12_wall 8 = .ok (.iconst (-1), 1) := by decide +kernel
theorem dX12_wall_9 : decode cX12_wall 9 = .ok (.ireturn, 1) := by decide +kernel
theorem dX12_wall_10 : decode cX12_wall 10 = .ok (.aload_n 0, 1) := by decide +kernel
theorem dX12_wall_11 : decode cX12_wall 11 = .ok (.iload_n 1, 1) := by decide +kernel
theorem dX12_wall_12 : decode cX12_wall 12 = .ok (.invokevirtual 213, 3) := by decide +kernel
theorem dX12_wall_15 : decode cX12_wall 15 = .ok (.ifCond .eq 6, 3) := by decide +kernel
theorem dX12_wall_18 : decode cX12_wall 18 = .ok (.bipush (-3), 2) := by decide +kernel
theorem dX12_wall_20 : decode cX12_wall 20 = .ok (.ireturn, 1) := by decide +kernel
theorem dX12_wall_21 : decode cX12_wall 21 = .ok (.aload_n 0, 1) := by decide +kernel
theorem dX12_wall_22 : decode cX12_wall 22 = .ok (.getfield 7, 3) := by decide +kernel
theorem dX12_wall_25 : decode cX12_wall 25 = .ok (.iload_n 1, 1) := by decide +kernel
theorem dX12_wall_26 : decode cX12_wall 26 = .ok (.baload, 1) := by decide +kernel
theorem dX12_wall_27 : decode cX12_wall 27 = .ok (.istore_n 3, 1) := by decide +kernel
theorem dX12_wall_28 : decode cX12_wall 28 = .ok (.aload_n 0, 1) := by decide +kernel
theorem dX12_wall_29 : decode cX12_wall 29 = .ok (.getfield 7, 3) := by decide +kernel
theorem dX12_wall_32 : decode cX12_wall 32 = .ok (.iload_n 1, 1) := by decide +kernel
theorem dX12_wall_33 : decode cX12_wall 33 = .ok (.iload_n 2, 1) := by decide +kernel
theorem dX12_wall_34 : decode cX12_wall 34 = .ok (.bastore, 1) := by decide +kernel
theorem dX12_wall_35 : decode cX12_wall 35 = .ok (.aload_n 0, 1) := by decide +kernel
theorem dX12_wall_36 : decode cX12_wall 36 = .ok (.invokevirtual 210, 3) := by decide +kernel
theorem dX12_wall_39 : decode cX12_wall 39 = .ok (.iload_n 3, 1) := by decide +kernel
theorem dX12_wall_40 : decode cX12_wall 40 = .ok (.iload_n 2, 1) := by decide +kernel
theorem dX12_wall_41 : decode cX12_wall 41 = .ok (.if_icmp .ne 7, 3) := by decide +kernel
theorem dX12_wall_44 : decode cX12_wall 44 = .ok (.iconst 0, 1) := by decide +kernel
theorem dX12_wall_45 : decode cX12_wall 45 = .ok (.goto 4, 3) := by decide +kernel
theorem dX12_wall_48 : decode cX12_wall 48 = .ok (.iconst 1, 1) := by decide +kernel
theorem dX12_wall_49 : decode cX12_wall 49 = .ok (.ireturn, 1) := by decide +kernel
theorem dX12_way_0 : decode cX12_way 0 = .ok (.aload_n 0, 1) := by decide +kernel
theorem dX12_way_1 : decode cX12_way 1 = .ok (.iload_n 1, 1) := by decide +kernel
theorem dX12_way_2 : decode cX12_way 2 = .ok (.iload 4, 2) := by decide +kernel
theorem dX12_way_4 : decode cX12_way 4 = .ok (.invokevirtual 469, 3) := by decide +kernel
theorem dX12_way_7 : decode cX12_way 7 = .ok (.ifCond .ne 18, 3) := by decide +kernel
theorem dX12_way_10 : decode cX12_way 10 = .ok (.lload_n 2, 1) := by decide +kernel
theorem dX12_way_11 : decode cX12_way 11 = .ok (.lconst 0, 1) := by decide +kernel
theorem dX12_way_12 : decode cX12_way 12 = .ok (.aload_n 0, 1) := by decide +kernel
theorem dX12_way_13 : decode cX12_way 13 = .ok (.iload_n 1, 1) := by decide +kernel
theorem dX12_way_14 : decode cX12_way 14 = .ok (.invokevirtual 475, 3) := by decide +kernel
theorem dX12_way_17 : decode cX12_way 17 = .ok (.lconst 1, 1) := by decide +kernel
theorem dX12_way_18 : decode cX12_way 18 = .ok (.lsub, 1) := by decide +kernel
theorem dX12_way_19 : decode cX12_way 19 = .ok (.invokestatic 175, 3) := by decide +kernel
theorem dX12_way_22 : decode cX12_way 22 = .ok (.ifCond .ne 5, 3) := by decide +kernel
theorem dX12_way_25 : decode cX12_way 25 = .ok (.iconst (-1), 1) := by decide +kernel
theorem dX12_way_26 : decode cX12_way 26 = .ok (.ireturn, 1) := by decide +kernel
theorem dX12_way_27 : decode cX12_way 27 = .ok (.lload_n 2, 1) := by decide +kernel
theorem dX12_way_28 : decode cX12_way 28 = .ok (.lstore 5, 2) := by decide +kernel
theorem dX12_way_30 : decode cX12_way 30 = .ok (.iconst (-1), 1) := by decide +kernel
theorem dX12_way_31 : decode cX12_way 31 = .ok (.istore 7, 2) := by decide +kernel
theorem dX12_way_33 : decode cX12_way 33 = .ok (.iconst 0, 1) := by decide +kernel
theorem dX12_way_34 : decode cX12_way 34 = .ok (.istore 8, 2) := by decide +kernel
theorem dX12_way_36 : decode cX12_way 36 = .ok (.iload 8, 2) := by decide +kernel
theorem dX12_way_38 : decode cX12_way 38 = .ok (.iload 4, 2) := by decide +kernel
theorem dX12_way_40 : decode cX12_way 40 = .ok (.if_icmp .gt 113, 3) := by decide +kernel
theorem dX12_way_43 : decode cX12_way 43 = .ok (.iconst 0, 1) := by decide +kernel
theorem dX12_way_44 : decode cX12_way 44 = .ok (.istore 9, 2) := by decide +kernel
theorem dX12_way_46 : decode cX12_way 46 = .ok (.iconst 0, 1) := by decide +kernel
theorem dX12_way_47 : decode cX12_way 47 = .ok (.istore 10, 2) := by decide +kernel
theorem dX12_way_49 : decode cX12_way 49 = .ok (.iload 10, 2) := by decide +kernel
theorem dX12_way_51 : decode cX12_way 51 = .ok (.ifCond .ne 92, 3) := by decide +kernel
theorem dX12_way_54 : decode cX12_way 54 = .ok (.iload 7, 2) := by decide +kernel
theorem dX12_way_56 : decode cX12_way 56 = .ok (.ifCond .lt 19, 3) := by decide +kernel
theorem dX12_way_59 : decode cX12_way 59 = .ok (.iload 7, 2) := by decide +kernel
theorem dX12_way_61 : decode cX12_way 61 = .ok (.iload 9, 2) := by decide +kernel
theorem dX12_way_63 : decode cX12_way 63 = .ok (.invokestatic 267, 3) := by decide +kernel
theorem dX12_way_66 : decode cX12_way 66 = .ok (.aload_n 0, 1) := by decide +kernel
theorem dX12_way_67 : decode cX12_way 67 = .ok (.getfield 59, 3) := by decide +kernel
theorem dX12_way_70 : decode cX12_way 70 = .ok (.iload_n 1, 1) := by decide +kernel
theorem dX12_way_71 : decode cX12_way 71 = .ok (.iaload, 1) := by decide +kernel
theorem dX12_way_72 : decode cX12_way 72 = .ok (.if_icmp .gt 19, 3) := by decide +kernel
theorem dX12_way_75 : decode cX12_way 75 = .ok (.aload_n 0, 1) := by decide +kernel
theorem dX12_way_76 : decode cX12_way 76 = .ok (.getfield 114, 3) := by decide +kernel
theorem dX12_way_79 : decode cX12_way 79 = .ok (.bipush 64, 2) := by decide +kernel
theorem dX12_way_81 : decode cX12_way 81 = .ok (.iload 8, 2) := by decide +kernel
theorem dX12_way_83 : decode cX12_way 83 = .ok (.imul, 1) := by decide +kernel
theorem dX12_way_84 : decode cX12_way 84 = .ok (.iload 9, 2) := by decide +kernel
theorem dX12_way_86 : decode cX12_way 86 = .ok (.iadd, 1) := by decide +kernel
theorem dX12_way_87 : decode cX12_way 87 = .ok (.laload, 1) := by decide +kernel
theorem dX12_way_88 : decode cX12_way 88 = .ok (.goto 4, 3) := by decide +kernel
theorem dX12_way_91 : decode cX12_way 91 = .ok (.lconst 0, 1) := by decide +kernel
theorem dX12_way_92 : decode cX12_way 92 = .ok (.lstore 11, 2) := by decide +kernel
theorem dX12_way_94 : decode cX12_way 94 = .ok (.lload 5, 2) := by decide +kernel
theorem dX12_way_96 : decode cX12_way 96 = .ok (.lload 11, 2) := by decide +kernel
theorem dX12_way_98 : decode cX12_way 98 = .ok (.lcmp, 1) := by decide +kernel
theorem dX12_way_99 : decode cX12_way 99 = .ok (.ifCond .ge 7, 3) := by decide +kernel
theorem dX12_way_102 : decode cX12_way 102 = .ok (.iconst 1, 1) := by decide +kernel
theorem dX12_way_103 : decode cX12_way 103 = .ok (.goto 4, 3) := by decide +kernel
theorem dX12_way_106 : decode cX12_way 106 = .ok (.iconst 0, 1) := by decide +kernel
theorem dX12_way_107 : decode cX12_way 107 = .ok (.istore 10, 2) := by decide +kernel
theorem dX12_way_109 : decode cX12_way 109 = .ok (.lload 5, 2) := by decide +kernel
theorem dX12_way_111 : decode cX12_way 111 = .ok (.iload 10, 2) := by decide +kernel
theorem dX12_way_113 : decode cX12_way 113 = .ok (.ifCond .eq 7, 3) := by decide +kernel
theorem dX12_way_116 : decode cX12_way 116 = .ok (.lconst 0, 1) := by decide +kernel
theorem dX12_way_117 : decode cX12_way 117 = .ok (.goto 5, 3) := by decide +kernel
theorem dX12_way_120 : decode cX12_way 120 = .ok (.lload 11, 2) := by decide +kernel
theorem dX12_way_122 : decode cX12_way 122 = .ok (.lsub, 1) := by decide +kernel
theorem dX12_way_123 : decode cX12_way 123 = .ok (.lstore 5, 2) := by decide +kernel
theorem dX12_way_125 : decode cX12_way 125 = .ok (.iload 9, 2) := by decide +kernel
theorem dX12_way_127 : decode cX12_way 127 = .ok (.iload 10, 2) := by decide +kernel
theorem dX12_way_129 : decode cX12_way 129 = .ok (.ifCond .eq 7, 3) := by decide +kernel
theorem dX12_way_132 : decode cX12_way 132 = .ok (.iconst 0, 1) := by decide +kernel
theorem dX12_way_133 : decode cX12_way 133 = .ok (.goto 4, 3) := by decide +kernel
theorem dX12_way_136 : decode cX12_way 136 = .ok (.iconst 1, 1) := by decide +kernel
theorem dX12_way_137 : decode cX12_way 137 = .ok (.iadd, 1) := by decide +kernel
theorem dX12_way_138 : decode cX12_way 138 = .ok (.istore 9, 2) := by decide +kernel
theorem dX12_way_140 : decode cX12_way 140 = .ok (.goto (-91), 3) := by decide +kernel
theorem dX12_way_143 : decode cX12_way 143 = .ok (.iload 9, 2) := by decide +kernel
theorem dX12_way_145 : decode cX12_way 145 = .ok (.istore 7, 2) := by decide +kernel
theorem dX12_way_147 : decode cX12_way 147 = .ok (.iinc 8 1, 3) := by decide +kernel
theorem dX12_way_150 : decode cX12_way 150 = .ok (.goto (-114), 3) := by decide +kernel
theorem dX12_way_153 : decode cX12_way 153 = .ok (.iload 7, 2) := by decide +kernel
theorem dX12_way_155 : decode cX12_way 155 = .ok (.ireturn, 1) := by decide +kernel
theorem dX12_ways_0 : decode cX12_ways 0 = .ok (.iload_n 1, 1) := by decide +kernel
theorem dX12_ways_1 : decode cX12_ways 1 = .ok (.i2l, 1) := by decide +kernel
theorem dX12_ways_2 : decode cX12_ways 2 = .ok (.lconst 0, 1) := by decide +kernel
theorem dX12_ways_3 : decode cX12_ways 3 = .ok (.aload_n 0, 1) := by decide +kernel
theorem dX12_ways_4 : decode cX12_ways 4 = .ok (.getfield 204, 3) := by decide +kernel
theorem dX12_ways_7 : decode cX12_ways 7 = .ok (.i2l, 1) := by decide +kernel
theorem dX12_ways_8 : decode cX12_ways 8 = .ok (.lconst 1, 1) := by decide +kernel
theorem dX12_ways_9 : decode cX12_ways 9 = .ok (.lsub, 1) := by decide +kernel
theorem dX12_ways_10 : decode cX12_ways 10 = .ok (.invokestatic 175, 3) := by decide +kernel
theorem dX12_ways_13 : decode cX12_ways 13 = .ok (.ifCond .eq 11, 3) := by decide +kernel
theorem dX12_ways_16 : decode cX12_ways 16 = .ok (.aload_n 0, 1) := by decide +kernel
theorem dX12_ways_17 : decode cX12_ways 17 = .ok (.iload_n 1, 1) := by decide +kernel
theorem dX12_ways_18 : decode cX12_ways 18 = .ok (.invokevirtual 475, 3) := by decide +kernel
theorem dX12_ways_21 : decode cX12_ways 21 = .ok (.goto 6, 3) := by decide +kernel
theorem dX12_ways_24 : decode cX12_ways 24 = .ok (.invokestatic 169, 3) := by decide +kernel
theorem dX12_ways_27 : decode cX12_ways 27 = .ok (.lreturn, 1) := by decide +kernel
theorem dX12_waysOf_0 : decode cX12_waysOf 0 = .ok (.aload_n 0, 1) := by decide +kernel
theorem dX12_waysOf_1 : decode cX12_waysOf 1 = .ok (.iload_n 1, 1) := by decide +kernel
theorem dX12_waysOf_2 : decode cX12_waysOf 2 = .ok (.invokevirtual 472, 3) := by decide +kernel
theorem dX12_waysOf_5 : decode cX12_waysOf 5 = .ok (.lconst 0, 1) := by decide +kernel
theorem dX12_waysOf_6 : decode cX12_waysOf 6 = .ok (.lstore_n 2, 1) := by decide +kernel
theorem dX12_waysOf_7 : decode cX12_waysOf 7 = .ok (.iconst 0, 1) := by decide +kernel
theorem dX12_waysOf_8 : decode cX12_waysOf 8 = .ok (.istore 4, 2) := by decide +kernel
theorem dX12_waysOf_10 : decode cX12_waysOf 10 = .ok (.iload 4, 2) := by decide +kernel
theorem dX12_waysOf_12 : decode cX12_waysOf 12 = .ok (.bipush 64, 2) := by decide +kernel
theorem dX12_waysOf_14 : decode cX12_waysOf 14 = .ok (.if_icmp .ge 19, 3) := by decide +kernel
theorem dX12_waysOf_17 : decode cX12_waysOf 17 = .ok (.lload_n 2, 1) := by decide +kernel
theorem dX12_waysOf_18 : decode cX12_waysOf 18 = .ok (.aload_n 0, 1) := by decide +kernel
theorem dX12_waysOf_19 : decode cX12_waysOf 19 = .ok (.getfield 114, 3) := by decide +kernel
theorem dX12_waysOf_22 : decode cX12_waysOf 22 = .ok (.iload 4, 2) := by decide +kernel
theorem dX12_waysOf_24 : decode cX12_waysOf 24 = .ok (.laload, 1) := by decide +kernel
theorem dX12_waysOf_25 : decode cX12_waysOf 25 = .ok (.ladd, 1) := by decide +kernel
theorem dX12_waysOf_26 : decode cX12_waysOf 26 = .ok (.lstore_n 2, 1) := by decide +kernel
theorem dX12_waysOf_27 : decode cX12_waysOf 27 = .ok (.iinc 4 1, 3) := by decide +kernel
theorem dX12_waysOf_30 : decode cX12_waysOf 30 = .ok (.goto (-20), 3) := by decide +kernel
theorem dX12_waysOf_33 : decode cX12_waysOf 33 = .ok (.lload_n 2, 1) := by decide +kernel
theorem dX12_waysOf_34 : decode cX12_waysOf 34 = .ok (.lreturn, 1) := by decide +kernel
theorem dX12_weighMeasure_0 : decode cX12_weighMeasure 0 = .ok (.aload_n 0, 1) := by decide +kernel
theorem dX12_weighMeasure_1 : decode cX12_weighMeasure 1 = .ok (.getfield 132, 3) := by decide +kernel
theorem dX12_weighMeasure_4 : decode cX12_weighMeasure 4 = .ok (.iload_n 1, 1) := by decide +kernel
theorem dX12_weighMeasure_5 : decode cX12_weighMeasure 5 = .ok (.iaload, 1) := by decide +kernel
theorem dX12_weighMeasure_6 : decode cX12_weighMeasure 6 = .ok (.istore_n 2, 1) := by decide +kernel
theorem dX12_weighMeasure_7 : decode cX12_weighMeasure 7 = .ok (.iload_n 2, 1) := by decide +kernel
theorem dX12_weighMeasure_8 : decode cX12_weighMeasure 8 = .ok (.iconst 4, 1) := by decide +kernel
theorem dX12_weighMeasure_9 : decode cX12_weighMeasure 9 = .ok (.if_icmp .ne 9, 3) := by decide +kernel
theorem dX12_weighMeasure_12 : decode cX12_weighMeasure 12 = .ok (.aload_n 0, 1) := by decide +kernel
theorem dX12_weighMeasure_13 : decode cX12_weighMeasure 13 = .ok (.bipush 13, 2) := by decide +kernel
theorem dX12_weighMeasure_15 : decode cX12_weighMeasure 15 = .ok (.invokevirtual 509, 3) := by decide +kernel
theorem dX12_weighMeasure_18 : decode cX12_weighMeasure 18 = .ok (.iload_n 2, 1) := by decide +kernel
theorem dX12_weighMeasure_19 : decode cX12_weighMeasure 19 = .ok (.iconst 1, 1) := by decide +kernel
theorem dX12_weighMeasure_20 : decode cX12_weighMeasure 20 = .ok (.if_icmp .eq 13, 3) := by decide +kernel
theorem dX12_weighMeasure_23 : decode cX12_weighMeasure 23 = .ok (.iload_n 2, 1) := by decide +kernel
theorem dX12_weighMeasure_24 : decode cX12_weighMeasure 24 = .ok (.iconst 2, 1) := by decide +kernel
theorem dX12_weighMeasure_25 : decode cX12_weighMeasure 25 = .ok (.if_icmp .eq 8, 3) := by decide +kernel
theorem dX12_weighMeasure_28 : decode cX12_weighMeasure 28 = .ok (.iload_n 2, 1) := by decide +kernel
theorem dX12_weighMeasure_29 : decode cX12_weighMeasure 29 = .ok (.iconst 4, 1) := by decide +kernel
theorem dX12_weighMeasure_30 : decode cX12_weighMeasure 30 = .ok (.if_icmp .ne 9, 3) := by decide +kernel
theorem dX12_weighMeasure_33 : decode cX12_weighMeasure 33 = .ok (.aload_n 0, 1) := by decide +kernel
theorem dX12_weighMeasure_34 : decode cX12_weighMeasure 34 = .ok (.bipush 12, 2) := by decide +kernel
theorem dX12_weighMeasure_36 : decode cX12_weighMeasure 36 = .ok (.invokevirtual 509, 3) := by decide +kernel
theorem dX12_weighMeasure_39 : decode cX12_weighMeasure 39 = .ok (.iload_n 2, 1) := by decide +kernel
theorem dX12_weighMeasure_40 : decode cX12_weighMeasure 40 = .ok (.ifCond .eq 13, 3) := by decide +kernel
theorem dX12_weighMeasure_43 : decode cX12_weighMeasure 43 = .ok (.iload_n 2, 1) := by decide +kernel
theorem dX12_weighMeasure_44 : decode cX12_weighMeasure 44 = .ok (.iconst 3, 1) := by decide +kernel
theorem dX12_weighMeasure_45 : decode cX12_weighMeasure 45 = .ok (.if_icmp .eq 8, 3) := by decide +kernel
theorem dX12_weighMeasure_48 : decode cX12_weighMeasure 48 = .ok (.iload_n 2, 1) := by decide +kernel
theorem dX12_weighMeasure_49 : decode cX12_weighMeasure 49 = .ok (.iconst 4, 1) := by decide +kernel
theorem dX12_weighMeasure_50 : decode cX12_weighMeasure 50 = .ok (.if_icmp .ne 9, 3) := by decide +kernel
theorem dX12_weighMeasure_53 : decode cX12_weighMeasure 53 = .ok (.aload_n 0, 1) := by decide +kernel
theorem dX12_weighMeasure_54 : decode cX12_weighMeasure 54 = .ok (.bipush 11, 2) := by decide +kernel
theorem dX12_weighMeasure_56 : decode cX12_weighMeasure 56 = .ok (.invokevirtual 509, 3) := by decide +kernel
theorem dX12_weighMeasure_59 : decode cX12_weighMeasure 59 = .ok (.iload_n 2, 1) := by decide +kernel
theorem dX12_weighMeasure_60 : decode cX12_weighMeasure 60 = .ok (.iconst 1, 1) := by decide +kernel
theorem dX12_weighMeasure_61 : decode cX12_weighMeasure 61 = .ok (.if_icmp .eq 8, 3) := by decide +kernel
theorem dX12_weighMeasure_64 : decode cX12_weighMeasure 64 = .ok (.iload_n 2, 1) := by decide +kernel
theorem dX12_weighMeasure_65 : decode cX12_weighMeasure 65 = .ok (.iconst 2, 1) := by decide +kernel
theorem dX12_weighMeasure_66 : decode cX12_weighMeasure 66 = .ok (.if_icmp .ne 8, 3) := by decide +kernel
theorem dX12_weighMeasure_69 : decode cX12_weighMeasure 69 = .ok (.bipush 7, 2) := by decide +kernel
theorem dX12_weighMeasure_71 : decode cX12_weighMeasure 71 = .ok (.goto 19, 3) := by decide +kernel
theorem dX12_weighMeasure_74 : decode cX12_weighMeasure 74 = .ok (.iload_n 2, 1) := by decide +kernel
theorem dX12_weighMeasure_75 : decode cX12_weighMeasure 75 = .ok (.iconst 4, 1) := by decide +kernel
theorem dX12_weighMeasure_76 : decode cX12_weighMeasure 76 = .ok (.if_icmp .ne 10, 3) := by decide +kernel
theorem dX12_weighMeasure_79 : decode cX12_weighMeasure 79 = .ok (.bipush 17, 2) := by decide +kernel
theorem dX12_weighMeasure_81 : decode cX12_weighMeasure 81 = .ok (.iload_n 2, 1) := by decide +kernel
theorem dX12_weighMeasure_82 : decode cX12_weighMeasure 82 = .ok (.iadd, 1) := by decide +kernel
theorem dX12_weighMeasure_83 : decode cX12_weighMeasure 83 = .ok (.goto 7, 3) := by decide +kernel
theorem dX12_weighMeasure_86 : decode cX12_weighMeasure 86 = .ok (.bipush 10, 2) := by decide +kernel
theorem dX12_weighMeasure_88 : decode cX12_weighMeasure 88 = .ok (.iload_n 2, 1) := by decide +kernel
theorem dX12_weighMeasure_89 : decode cX12_weighMeasure 89 = .ok (.iadd, 1) := by decide +kernel
theorem dX12_weighMeasure_90 : decode cX12_weighMeasure 90 = .ok (.ireturn, 1) := by decide +kernel
theorem dX1_addMeasure_0 : decode cX1_addMeasure 0 = .ok (.aload_n 0, 1) := by decide +kernel
theorem dX1_addMeasure_1 : decode cX1_addMeasure 1 = .ok (.getfield 68, 3) := by decide +kernel
theorem dX1_addMeasure_4 : decode cX1_addMeasure 4 = .ok (.istore 6, 2) := by decide +kernel
theorem dX1_addMeasure_6 : decode cX1_addMeasure 6 = .ok (.aload_n 0, 1) := by decide +kernel
theorem dX1_addMeasure_7 : decode cX1_addMeasure 7 = .ok (.getfield 27, 3) := by decide +kernel
theorem dX1_addMeasure_10 : decode cX1_addMeasure 10 = .ok (.iload 6, 2) := by decide +kernel
theorem dX1_addMeasure_12 : decode cX1_addMeasure 12 = .ok (.new 25, 3) := by decide +kernel
theorem dX1_addMeasure_15 : decode cX1_addMeasure 15 = .ok (.dup, 1) := by decide +kernel
theorem dX1_addMeasure_16 : decode cX1_addMeasure 16 = .ok (.iload 6, 2) := by decide +kernel
theorem dX1_addMeasure_18 : decode cX1_addMeasure 18 = .ok (.iload_n 1, 1) := by decide +kernel
theorem dX1_addMeasure_19 : decode cX1_addMeasure 19 = .ok (.iload_n 2, 1) := by decide +kernel
theorem dX1_addMeasure_20 : decode cX1_addMeasure 20 = .ok (.iload_n 3, 1) := by decide +kernel
theorem dX1_addMeasure_21 : decode cX1_addMeasure 21 = .ok (.iload 4, 2) := by decide +kernel
theorem dX1_addMeasure_23 : decode cX1_addMeasure 23 = .ok (.iload 5, 2) := by decide +kernel
theorem dX1_addMeasure_25 : decode cX1_addMeasure 25 = .ok (.invokespecial 94, 3) := by decide +kernel
theorem dX1_addMeasure_28 : decode cX1_addMeasure 28 = .ok (.aastore, 1) := by decide +kernel
theorem dX1_addMeasure_29 : decode cX1_addMeasure 29 = .ok (.aload_n 0, 1) := by decide +kernel
theorem dX1_addMeasure_30 : decode cX1_addMeasure 30 = .ok (.dup, 1) := by decide +kernel
theorem dX1_addMeasure_31 : decode cX1_addMeasure 31 = .ok (.getfield 71, 3) := by decide +kernel
theorem dX1_addMeasure_34 : decode cX1_addMeasure 34 = .ok (.iload 6, 2) := by decide +kernel
theorem dX1_addMeasure_36 : decode cX1_addMeasure 36 = .ok (.invokestatic 97, 3) := by decide +kernel
theorem dX1_addMeasure_39 : decode cX1_addMeasure 39 = .ok (.lor, 1) := by decide +kernel
theorem dX1_addMeasure_40 : decode cX1_addMeasure 40 = .ok (.putfield 71, 3) := by decide +kernel
theorem dX1_addMeasure_43 : decode cX1_addMeasure 43 = .ok (.aload_n 0, 1) := by decide +kernel
theorem dX1_addMeasure_44 : decode cX1_addMeasure 44 = .ok (.dup, 1) := by decide +kernel
theorem dX1_addMeasure_45 : decode cX1_addMeasure 45 = .ok (.getfield 68, 3) := by decide +kernel
theorem dX1_addMeasure_48 : decode cX1_addMeasure 48 = .ok (.iconst 1, 1) := by decide +kernel
theorem dX1_addMeasure_49 : decode cX1_addMeasure 49 = .ok (.iadd, 1) := by decide +kernel
theorem dX1_addMeasure_50 : decode cX1_addMeasure 50 = .ok (.putfield 68, 3) := by decide +kernel
theorem dX1_addMeasure_53 : decode cX1_addMeasure 53 = .ok (.iload 6, 2) := by decide +kernel
theorem dX1_addMeasure_55 : decode cX1_addMeasure 55 = .ok (.ireturn, 1) := by decide +kernel
theorem dX1_addMover_0 : decode cX1_addMover 0 = .ok (.aload_n 0, 1) := by decide +kernel
theorem dX1_addMover_1 : decode cX1_addMover 1 = .ok (.getfield 74, 3) := by decide +kernel
theorem dX1_addMover_4 : decode cX1_addMover 4 = .ok (.istore_n 3, 1) := by decide +kernel
theorem dX1_addMover_5 : decode cX1_addMover 5 = .ok (.aload_n 0, 1) := by decide +kernel
theorem dX1_addMover_6 : decode cX1_addMover 6 = .ok (.getfield 31, 3) := by decide +kernel
theorem dX1_addMover_9 : decode cX1_addMover 9 = .ok (.iload_n 3, 1) := by decide +kernel
theorem dX1_addMover_10 : decode cX1_addMover 10 = .ok (.aload_n 0, 1) := by decide +kernel
theorem dX1_addMover_11 : decode cX1_addMover 11 = .ok (.getfield 62, 3) := by decide +kernel
theorem dX1_addMover_14 : decode cX1_addMover 14 = .ok (.iastore, 1) := by decide +kernel
theorem dX1_addMover_15 : decode cX1_addMover 15 = .ok (.aload_n 0, 1) := by decide +kernel
theorem dX1_addMover_16 : decode cX1_addMover 16 = .ok (.getfield 34, 3) := by decide +kernel
theorem dX1_addMover_19 : decode cX1_addMover 19 = .ok (.iload_n 3, 1) := by decide +kernel
theorem dX1_addMover_20 : decode cX1_addMover 20 = .ok (.iload_n 1, 1) := by decide +kernel
theorem dX1_addMover_21 : decode cX1_addMover 21 = .ok (.iastore, 1) := by decide +kernel
theorem dX1_addMover_22 : decode cX1_addMover 22 = .ok (.aload_n 0, 1) := by decide +kernel
theorem dX1_addMover_23 : decode cX1_addMover 23 = .ok (.getfield 37, 3) := by decide +kernel
theorem dX1_addMover_26 : decode cX1_addMover 26 = .ok (.iload_n 3, 1) := by decide +kernel
theorem dX1_addMover_27 : decode cX1_addMover 27 = .ok (.iload_n 2, 1) := by decide +kernel
