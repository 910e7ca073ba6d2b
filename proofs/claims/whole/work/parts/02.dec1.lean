theorem dX9_beginWay_1 : decode cX9_beginWay 1 = .ok (.iload_n 1, 1) := by decide +kernel
theorem dX9_beginWay_2 : decode cX9_beginWay 2 = .ok (.putfield 40, 3) := by decide +kernel
theorem dX9_beginWay_5 : decode cX9_beginWay 5 = .ok (.aload_n 0, 1) := by decide +kernel
theorem dX9_beginWay_6 : decode cX9_beginWay 6 = .ok (.iload_n 2, 1) := by decide +kernel
theorem dX9_beginWay_7 : decode cX9_beginWay 7 = .ok (.putfield 43, 3) := by decide +kernel
theorem dX9_beginWay_10 : decode cX9_beginWay 10 = .ok (.aload_n 0, 1) := by decide +kernel
theorem dX9_beginWay_11 : decode cX9_beginWay 11 = .ok (.iconst 0, 1) := by decide +kernel
theorem dX9_beginWay_12 : decode cX9_beginWay 12 = .ok (.putfield 46, 3) := by decide +kernel
theorem dX9_beginWay_15 : decode cX9_beginWay 15 = .ok (.return_, 1) := by decide +kernel
theorem dX9_nextOnWay_0 : decode cX9_nextOnWay 0 = .ok (.iconst 0, 1) := by decide +kernel
theorem dX9_nextOnWay_1 : decode cX9_nextOnWay 1 = .ok (.istore_n 1, 1) := by decide +kernel
theorem dX9_nextOnWay_2 : decode cX9_nextOnWay 2 = .ok (.iload_n 1, 1) := by decide +kernel
theorem dX9_nextOnWay_3 : decode cX9_nextOnWay 3 = .ok (.ldc 86, 2) := by decide +kernel
theorem dX9_nextOnWay_5 : decode cX9_nextOnWay 5 = .ok (.if_icmp .ge 175, 3) := by decide +kernel
theorem dX9_nextOnWay_8 : decode cX9_nextOnWay 8 = .ok (.aload_n 0, 1) := by decide +kernel
theorem dX9_nextOnWay_9 : decode cX9_nextOnWay 9 = .ok (.getfield 40, 3) := by decide +kernel
theorem dX9_nextOnWay_12 : decode cX9_nextOnWay 12 = .ok (.aload_n 0, 1) := by decide +kernel
theorem dX9_nextOnWay_13 : decode cX9_nextOnWay 13 = .ok (.getfield 43, 3) := by decide +kernel
theorem dX9_nextOnWay_16 : decode cX9_nextOnWay 16 = .ok (.if_icmp .ge 113, 3) := by decide +kernel
theorem dX9_nextOnWay_19 : decode cX9_nextOnWay 19 = .ok (.aload_n 0, 1) := by decide +kernel
theorem dX9_nextOnWay_20 : decode cX9_nextOnWay 20 = .ok (.aload_n 0, 1) := by decide +kernel
theorem dX9_nextOnWay_21 : decode cX9_nextOnWay 21 = .ok (.getfield 40, 3) := by decide +kernel
theorem dX9_nextOnWay_24 : decode cX9_nextOnWay 24 = .ok (.invokevirtual 87, 3) := by decide +kernel
theorem dX9_nextOnWay_27 : decode cX9_nextOnWay 27 = .ok (.istore_n 2, 1) := by decide +kernel
theorem dX9_nextOnWay_28 : decode cX9_nextOnWay 28 = .ok (.aload_n 0, 1) := by decide +kernel
theorem dX9_nextOnWay_29 : decode cX9_nextOnWay 29 = .ok (.dup, 1) := by decide +kernel
theorem dX9_nextOnWay_30 : decode cX9_nextOnWay 30 = .ok (.getfield 40, 3) := by decide +kernel
theorem dX9_nextOnWay_33 : decode cX9_nextOnWay 33 = .ok (.iconst 1, 1) := by decide +kernel
theorem dX9_nextOnWay_34 : decode cX9_nextOnWay 34 = .ok (.iadd, 1) := by decide +kernel
theorem dX9_nextOnWay_35 : decode cX9_nextOnWay 35 = .ok (.putfield 40, 3) := by decide +kernel
theorem dX9_nextOnWay_38 : decode cX9_nextOnWay 38 = .ok (.iload_n 2, 1) := by decide +kernel
theorem dX9_nextOnWay_39 : decode cX9_nextOnWay 39 = .ok (.aload_n 0, 1) := by decide +kernel
theorem dX9_nextOnWay_40 : decode cX9_nextOnWay 40 = .ok (.getfield 40, 3) := by decide +kernel
theorem dX9_nextOnWay_43 : decode cX9_nextOnWay 43 = .ok (.iconst 1, 1) := by decide +kernel
theorem dX9_nextOnWay_44 : decode cX9_nextOnWay 44 = .ok (.isub, 1) := by decide +kernel
theorem dX9_nextOnWay_45 : decode cX9_nextOnWay 45 = .ok (.if_icmp .eq 22, 3) := by decide +kernel
theorem dX9_nextOnWay_48 : decode cX9_nextOnWay 48 = .ok (.aload_n 0, 1) := by decide +kernel
theorem dX9_nextOnWay_49 : decode cX9_nextOnWay 49 = .ok (.getfield 9, 3) := by decide +kernel
theorem dX9_nextOnWay_52 : decode cX9_nextOnWay 52 = .ok (.iload_n 2, 1) := by decide +kernel
theorem dX9_nextOnWay_53 : decode cX9_nextOnWay 53 = .ok (.iaload, 1) := by decide +kernel
theorem dX9_nextOnWay_54 : decode cX9_nextOnWay 54 = .ok (.ifCond .lt 13, 3) := by decide +kernel
theorem dX9_nextOnWay_57 : decode cX9_nextOnWay 57 = .ok (.aload_n 0, 1) := by decide +kernel
theorem dX9_nextOnWay_58 : decode cX9_nextOnWay 58 = .ok (.getfield 46, 3) := by decide +kernel
theorem dX9_nextOnWay_61 : decode cX9_nextOnWay 61 = .ok (.sipush 128, 3) := by decide +kernel
theorem dX9_nextOnWay_64 : decode cX9_nextOnWay 64 = .ok (.if_icmp .lt 5, 3) := by decide +kernel
theorem dX9_nextOnWay_67 : decode cX9_nextOnWay 67 = .ok (.iload_n 2, 1) := by decide +kernel
theorem dX9_nextOnWay_68 : decode cX9_nextOnWay 68 = .ok (.ireturn, 1) := by decide +kernel
theorem dX9_nextOnWay_69 : decode cX9_nextOnWay 69 = .ok (.aload_n 0, 1) := by decide +kernel
theorem dX9_nextOnWay_70 : decode cX9_nextOnWay 70 = .ok (.getfield 34, 3) := by decide +kernel
theorem dX9_nextOnWay_73 : decode cX9_nextOnWay 73 = .ok (.aload_n 0, 1) := by decide +kernel
theorem dX9_nextOnWay_74 : decode cX9_nextOnWay 74 = .ok (.getfield 46, 3) := by decide +kernel
theorem dX9_nextOnWay_77 : decode cX9_nextOnWay 77 = .ok (.aload_n 0, 1) := by decide +kernel
theorem dX9_nextOnWay_78 : decode cX9_nextOnWay 78 = .ok (.getfield 40, 3) := by decide +kernel
theorem dX9_nextOnWay_81 : decode cX9_nextOnWay 81 = .ok (.iastore, 1) := by decide +kernel
theorem dX9_nextOnWay_82 : decode cX9_nextOnWay 82 = .ok (.aload_n 0, 1) := by decide +kernel
theorem dX9_nextOnWay_83 : decode cX9_nextOnWay 83 = .ok (.getfield 37, 3) := by decide +kernel
theorem dX9_nextOnWay_86 : decode cX9_nextOnWay 86 = .ok (.aload_n 0, 1) := by decide +kernel
theorem dX9_nextOnWay_87 : decode cX9_nextOnWay 87 = .ok (.getfield 46, 3) := by decide +kernel
theorem dX9_nextOnWay_90 : decode cX9_nextOnWay 90 = .ok (.aload_n 0, 1) := by decide +kernel
theorem dX9_nextOnWay_91 : decode cX9_nextOnWay 91 = .ok (.getfield 43, 3) := by decide +kernel
theorem dX9_nextOnWay_94 : decode cX9_nextOnWay 94 = .ok (.iastore, 1) := by decide +kernel
theorem dX9_nextOnWay_95 : decode cX9_nextOnWay 95 = .ok (.aload_n 0, 1) := by decide +kernel
theorem dX9_nextOnWay_96 : decode cX9_nextOnWay 96 = .ok (.dup, 1) := by decide +kernel
theorem dX9_nextOnWay_97 : decode cX9_nextOnWay 97 = .ok (.getfield 46, 3) := by decide +kernel
theorem dX9_nextOnWay_100 : decode cX9_nextOnWay 100 = .ok (.iconst 1, 1) := by decide +kernel
theorem dX9_nextOnWay_101 : decode cX9_nextOnWay 101 = .ok (.iadd, 1) := by decide +kernel
theorem dX9_nextOnWay_102 : decode cX9_nextOnWay 102 = .ok (.putfield 46, 3) := by decide +kernel
theorem dX9_nextOnWay_105 : decode cX9_nextOnWay 105 = .ok (.aload_n 0, 1) := by decide +kernel
theorem dX9_nextOnWay_106 : decode cX9_nextOnWay 106 = .ok (.iload_n 2, 1) := by decide +kernel
theorem dX9_nextOnWay_107 : decode cX9_nextOnWay 107 = .ok (.putfield 40, 3) := by decide +kernel
theorem dX9_nextOnWay_110 : decode cX9_nextOnWay 110 = .ok (.aload_n 0, 1) := by decide +kernel
theorem dX9_nextOnWay_111 : decode cX9_nextOnWay 111 = .ok (.aload_n 0, 1) := by decide +kernel
theorem dX9_nextOnWay_112 : decode cX9_nextOnWay 112 = .ok (.getfield 55, 3) := by decide +kernel
theorem dX9_nextOnWay_115 : decode cX9_nextOnWay 115 = .ok (.aload_n 0, 1) := by decide +kernel
theorem dX9_nextOnWay_116 : decode cX9_nextOnWay 116 = .ok (.getfield 9, 3) := by decide +kernel
theorem dX9_nextOnWay_119 : decode cX9_nextOnWay 119 = .ok (.iload_n 2, 1) := by decide +kernel
theorem dX9_nextOnWay_120 : decode cX9_nextOnWay 120 = .ok (.invokevirtual 96, 3) := by decide +kernel
theorem dX9_nextOnWay_123 : decode cX9_nextOnWay 123 = .ok (.putfield 43, 3) := by decide +kernel
theorem dX9_nextOnWay_126 : decode cX9_nextOnWay 126 = .ok (.goto 48, 3) := by decide +kernel
theorem dX9_nextOnWay_129 : decode cX9_nextOnWay 129 = .ok (.aload_n 0, 1) := by decide +kernel
theorem dX9_nextOnWay_130 : decode cX9_nextOnWay 130 = .ok (.getfield 46, 3) := by decide +kernel
theorem dX9_nextOnWay_133 : decode cX9_nextOnWay 133 = .ok (.ifCond .ne 5, 3) := by decide +kernel
theorem dX9_nextOnWay_136 : decode cX9_nextOnWay 136 = .ok (.iconst (-1), 1) := by decide +kernel
theorem dX9_nextOnWay_137 : decode cX9_nextOnWay 137 = .ok (.ireturn, 1) := by decide +kernel
theorem dX9_nextOnWay_138 : decode cX9_nextOnWay 138 = .ok (.aload_n 0, 1) := by decide +kernel
theorem dX9_nextOnWay_139 : decode cX9_nextOnWay 139 = .ok (.dup, 1) := by decide +kernel
theorem dX9_nextOnWay_140 : decode cX9_nextOnWay 140 = .ok (.getfield 46, 3) := by decide +kernel
theorem dX9_nextOnWay_143 : decode cX9_nextOnWay 143 = .ok (.iconst 1, 1) := by decide +kernel
theorem dX9_nextOnWay_144 : decode cX9_nextOnWay 144 = .ok (.isub, 1) := by decide +kernel
theorem dX9_nextOnWay_145 : decode cX9_nextOnWay 145 = .ok (.putfield 46, 3) := by decide +kernel
theorem dX9_nextOnWay_148 : decode cX9_nextOnWay 148 = .ok (.aload_n 0, 1) := by decide +kernel
theorem dX9_nextOnWay_149 : decode cX9_nextOnWay 149 = .ok (.aload_n 0, 1) := by decide +kernel
theorem dX9_nextOnWay_150 : decode cX9_nextOnWay 150 = .ok (.getfield 34, 3) := by decide +kernel
theorem dX9_nextOnWay_153 : decode cX9_nextOnWay 153 = .ok (.aload_n 0, 1) := by decide +kernel
theorem dX9_nextOnWay_154 : decode cX9_nextOnWay 154 = .ok (.getfield 46, 3) := by decide +kernel
theorem dX9_nextOnWay_157 : decode cX9_nextOnWay 157 = .ok (.iaload, 1) := by decide +kernel
theorem dX9_nextOnWay_158 : decode cX9_nextOnWay 158 = .ok (.putfield 40, 3) := by decide +kernel
theorem dX9_nextOnWay_161 : decode cX9_nextOnWay 161 = .ok (.aload_n 0, 1) := by decide +kernel
theorem dX9_nextOnWay_162 : decode cX9_nextOnWay 162 = .ok (.aload_n 0, 1) := by decide +kernel
theorem dX9_nextOnWay_163 : decode cX9_nextOnWay 163 = .ok (.getfield 37, 3) := by decide +kernel
theorem dX9_nextOnWay_166 : decode cX9_nextOnWay 166 = .ok (.aload_n 0, 1) := by decide +kernel
theorem dX9_nextOnWay_167 : decode cX9_nextOnWay 167 = .ok (.getfield 46, 3) := by decide +kernel
theorem dX9_nextOnWay_170 : decode cX9_nextOnWay 170 = .ok (.iaload, 1) := by decide +kernel
theorem dX9_nextOnWay_171 : decode cX9_nextOnWay 171 = .ok (.putfield 43, 3) := by decide +kernel
theorem dX9_nextOnWay_174 : decode cX9_nextOnWay 174 = .ok (.iinc 1 1, 3) := by decide +kernel
theorem dX9_nextOnWay_177 : decode cX9_nextOnWay 177 = .ok (.goto (-175), 3) := by decide +kernel
theorem dX9_nextOnWay_180 : decode cX9_nextOnWay 180 = .ok (.iconst (-1), 1) := by decide +kernel
theorem dX9_nextOnWay_181 : decode cX9_nextOnWay 181 = .ok (.ireturn, 1) := by decide +kernel
theorem dX9_matches_0 : decode cX9_matches 0 = .ok (.iload_n 2, 1) := by decide +kernel
theorem dX9_matches_1 : decode cX9_matches 1 = .ok (.istore 5, 2) := by decide +kernel
theorem dX9_matches_3 : decode cX9_matches 3 = .ok (.iload 4, 2) := by decide +kernel
theorem dX9_matches_5 : decode cX9_matches 5 = .ok (.istore 6, 2) := by decide +kernel
theorem dX9_matches_7 : decode cX9_matches 7 = .ok (.iconst 1, 1) := by decide +kernel
theorem dX9_matches_8 : decode cX9_matches 8 = .ok (.istore 7, 2) := by decide +kernel
theorem dX9_matches_10 : decode cX9_matches 10 = .ok (.iload 7, 2) := by decide +kernel
theorem dX9_matches_12 : decode cX9_matches 12 = .ok (.ifCond .le 138, 3) := by decide +kernel
theorem dX9_matches_15 : decode cX9_matches 15 = .ok (.iload 5, 2) := by decide +kernel
theorem dX9_matches_17 : decode cX9_matches 17 = .ok (.aload_n 1, 1) := by decide +kernel
theorem dX9_matches_18 : decode cX9_matches 18 = .ok (.arraylength, 1) := by decide +kernel
theorem dX9_matches_19 : decode cX9_matches 19 = .ok (.if_icmp .ge 131, 3) := by decide +kernel
theorem dX9_matches_22 : decode cX9_matches 22 = .ok (.iload 6, 2) := by decide +kernel
theorem dX9_matches_24 : decode cX9_matches 24 = .ok (.aload_n 3, 1) := by decide +kernel
theorem dX9_matches_25 : decode cX9_matches 25 = .ok (.arraylength, 1) := by decide +kernel
theorem dX9_matches_26 : decode cX9_matches 26 = .ok (.if_icmp .ge 124, 3) := by decide +kernel
theorem dX9_matches_29 : decode cX9_matches 29 = .ok (.aload_n 1, 1) := by decide +kernel
theorem dX9_matches_30 : decode cX9_matches 30 = .ok (.iload 5, 2) := by decide +kernel
theorem dX9_matches_32 : decode cX9_matches 32 = .ok (.iaload, 1) := by decide +kernel
theorem dX9_matches_33 : decode cX9_matches 33 = .ok (.istore 8, 2) := by decide +kernel
theorem dX9_matches_35 : decode cX9_matches 35 = .ok (.iload 8, 2) := by decide +kernel
theorem dX9_matches_37 : decode cX9_matches 37 = .ok (.ifCond .lt 36, 3) := by decide +kernel
theorem dX9_matches_40 : decode cX9_matches 40 = .ok (.iload 8, 2) := by decide +kernel
theorem dX9_matches_42 : decode cX9_matches 42 = .ok (.aload_n 3, 1) := by decide +kernel
theorem dX9_matches_43 : decode cX9_matches 43 = .ok (.iload 6, 2) := by decide +kernel
theorem dX9_matches_45 : decode cX9_matches 45 = .ok (.iaload, 1) := by decide +kernel
theorem dX9_matches_46 : decode cX9_matches 46 = .ok (.if_icmp .eq 5, 3) := by decide +kernel
theorem dX9_matches_49 : decode cX9_matches 49 = .ok (.iconst 0, 1) := by decide +kernel
theorem dX9_matches_50 : decode cX9_matches 50 = .ok (.ireturn, 1) := by decide +kernel
theorem dX9_matches_51 : decode cX9_matches 51 = .ok (.iload 7, 2) := by decide +kernel
theorem dX9_matches_53 : decode cX9_matches 53 = .ok (.aload_n 0, 1) := by decide +kernel
theorem dX9_matches_54 : decode cX9_matches 54 = .ok (.getfield 55, 3) := by decide +kernel
theorem dX9_matches_57 : decode cX9_matches 57 = .ok (.iload 8, 2) := by decide +kernel
theorem dX9_matches_59 : decode cX9_matches 59 = .ok (.invokevirtual 91, 3) := by decide +kernel
theorem dX9_matches_62 : decode cX9_matches 62 = .ok (.iconst 1, 1) := by decide +kernel
theorem dX9_matches_63 : decode cX9_matches 63 = .ok (.isub, 1) := by decide +kernel
theorem dX9_matches_64 : decode cX9_matches 64 = .ok (.iadd, 1) := by decide +kernel
theorem dX9_matches_65 : decode cX9_matches 65 = .ok (.istore 7, 2) := by decide +kernel
theorem dX9_matches_67 : decode cX9_matches 67 = .ok (.iinc 6 1, 3) := by decide +kernel
theorem dX9_matches_70 : decode cX9_matches 70 = .ok (.goto 74, 3) := by decide +kernel
theorem dX9_matches_73 : decode cX9_matches 73 = .ok (.aload_n 0, 1) := by decide +kernel
theorem dX9_matches_74 : decode cX9_matches 74 = .ok (.getfield 55, 3) := by decide +kernel
theorem dX9_matches_77 : decode cX9_matches 77 = .ok (.aload_n 3, 1) := by decide +kernel
theorem dX9_matches_78 : decode cX9_matches 78 = .ok (.iload 6, 2) := by decide +kernel
theorem dX9_matches_80 : decode cX9_matches 80 = .ok (.invokevirtual 96, 3) := by decide +kernel
theorem dX9_matches_83 : decode cX9_matches 83 = .ok (.istore 9, 2) := by decide +kernel
theorem dX9_matches_85 : decode cX9_matches 85 = .ok (.bipush 19, 2) := by decide +kernel
theorem dX9_matches_87 : decode cX9_matches 87 = .ok (.iload 8, 2) := by decide +kernel
theorem dX9_matches_89 : decode cX9_matches 89 = .ok (.isub, 1) := by decide +kernel
theorem dX9_matches_90 : decode cX9_matches 90 = .ok (.istore 10, 2) := by decide +kernel
theorem dX9_matches_92 : decode cX9_matches 92 = .ok (.aload_n 0, 1) := by decide +kernel
theorem dX9_matches_93 : decode cX9_matches 93 = .ok (.getfield 15, 3) := by decide +kernel
theorem dX9_matches_96 : decode cX9_matches 96 = .ok (.iload 10, 2) := by decide +kernel
theorem dX9_matches_98 : decode cX9_matches 98 = .ok (.iaload, 1) := by decide +kernel
theorem dX9_matches_99 : decode cX9_matches 99 = .ok (.istore 11, 2) := by decide +kernel
theorem dX9_matches_101 : decode cX9_matches 101 = .ok (.iload 11, 2) := by decide +kernel
theorem dX9_matches_103 : decode cX9_matches 103 = .ok (.iconst (-1), 1) := by decide +kernel
theorem dX9_matches_104 : decode cX9_matches 104 = .ok (.if_icmp .ne 14, 3) := by decide +kernel
theorem dX9_matches_107 : decode cX9_matches 107 = .ok (.aload_n 0, 1) := by decide +kernel
theorem dX9_matches_108 : decode cX9_matches 108 = .ok (.iload 10, 2) := by decide +kernel
theorem dX9_matches_110 : decode cX9_matches 110 = .ok (.iload 6, 2) := by decide +kernel
theorem dX9_matches_112 : decode cX9_matches 112 = .ok (.invokevirtual 107, 3) := by decide +kernel
theorem dX9_matches_115 : decode cX9_matches 115 = .ok (.goto 22, 3) := by decide +kernel
theorem dX9_matches_118 : decode cX9_matches 118 = .ok (.aload_n 3, 1) := by decide +kernel
theorem dX9_matches_119 : decode cX9_matches 119 = .ok (.iload 11, 2) := by decide +kernel
theorem dX9_matches_121 : decode cX9_matches 121 = .ok (.aload_n 3, 1) := by decide +kernel
theorem dX9_matches_122 : decode cX9_matches 122 = .ok (.iload 6, 2) := by decide +kernel
theorem dX9_matches_124 : decode cX9_matches 124 = .ok (.iload 9, 2) := by decide +kernel
theorem dX9_matches_126 : decode cX9_matches 126 = .ok (.iload 6, 2) := by decide +kernel
theorem dX9_matches_128 : decode cX9_matches 128 = .ok (.isub, 1) := by decide +kernel
theorem dX9_matches_129 : decode cX9_matches 129 = .ok (.invokestatic 118, 3) := by decide +kernel
theorem dX9_matches_132 : decode cX9_matches 132 = .ok (.ifCond .ne 5, 3) := by decide +kernel
theorem dX9_matches_135 : decode cX9_matches 135 = .ok (.iconst 0, 1) := by decide +kernel
theorem dX9_matches_136 : decode cX9_matches 136 = .ok (.ireturn, 1) := by decide +kernel
theorem dX9_matches_137 : decode cX9_matches 137 = .ok (.iload 9, 2) := by decide +kernel
theorem dX9_matches_139 : decode cX9_matches 139 = .ok (.istore 6, 2) := by decide +kernel
theorem dX9_matches_141 : decode cX9_matches 141 = .ok (.iinc 7 (-1), 3) := by decide +kernel
theorem dX9_matches_144 : decode cX9_matches 144 = .ok (.iinc 5 1, 3) := by decide +kernel
theorem dX9_matches_147 : decode cX9_matches 147 = .ok (.goto (-137), 3) := by decide +kernel
theorem dX9_matches_150 : decode cX9_matches 150 = .ok (.iload 7, 2) := by decide +kernel
theorem dX9_matches_152 : decode cX9_matches 152 = .ok (.ifCond .ne 7, 3) := by decide +kernel
theorem dX9_matches_155 : decode cX9_matches 155 = .ok (.iconst 1, 1) := by decide +kernel
theorem dX9_matches_156 : decode cX9_matches 156 = .ok (.goto 4, 3) := by decide +kernel
theorem dX9_matches_159 : decode cX9_matches 159 = .ok (.iconst 0, 1) := by decide +kernel
theorem dX9_matches_160 : decode cX9_matches 160 = .ok (.ireturn, 1) := by decide +kernel
theorem dX9_isTold_0 : decode cX9_isTold 0 = .ok (.iload_n 2, 1) := by decide +kernel
theorem dX9_isTold_1 : decode cX9_isTold 1 = .ok (.istore 4, 2) := by decide +kernel
theorem dX9_isTold_3 : decode cX9_isTold 3 = .ok (.iload 4, 2) := by decide +kernel
theorem dX9_isTold_5 : decode cX9_isTold 5 = .ok (.iload_n 3, 1) := by decide +kernel
theorem dX9_isTold_6 : decode cX9_isTold 6 = .ok (.if_icmp .ge 34, 3) := by decide +kernel
theorem dX9_isTold_9 : decode cX9_isTold 9 = .ok (.aload_n 1, 1) := by decide +kernel
theorem dX9_isTold_10 : decode cX9_isTold 10 = .ok (.iload 4, 2) := by decide +kernel
theorem dX9_isTold_12 : decode cX9_isTold 12 = .ok (.iaload, 1) := by decide +kernel
theorem dX9_isTold_13 : decode cX9_isTold 13 = .ok (.ifCond .ge 21, 3) := by decide +kernel
theorem dX9_isTold_16 : decode cX9_isTold 16 = .ok (.aload_n 0, 1) := by decide +kernel
theorem dX9_isTold_17 : decode cX9_isTold 17 = .ok (.getfield 15, 3) := by decide +kernel
theorem dX9_isTold_20 : decode cX9_isTold 20 = .ok (.bipush 19, 2) := by decide +kernel
theorem dX9_isTold_22 : decode cX9_isTold 22 = .ok (.aload_n 1, 1) := by decide +kernel
theorem dX9_isTold_23 : decode cX9_isTold 23 = .ok (.iload 4, 2) := by decide +kernel
theorem dX9_isTold_25 : decode cX9_isTold 25 = .ok (.iaload, 1) := by decide +kernel
theorem dX9_isTold_26 : decode cX9_isTold 26 = .ok (.isub, 1) := by decide +kernel
theorem dX9_isTold_27 : decode cX9_isTold 27 = .ok (.iaload, 1) := by decide +kernel
theorem dX9_isTold_28 : decode cX9_isTold 28 = .ok (.iconst (-1), 1) := by decide +kernel
theorem dX9_isTold_29 : decode cX9_isTold 29 = .ok (.if_icmp .ne 5, 3) := by decide +kernel
theorem dX9_isTold_32 : decode cX9_isTold 32 = .ok (.iconst 0, 1) := by decide +kernel
theorem dX9_isTold_33 : decode cX9_isTold 33 = .ok (.ireturn, 1) := by decide +kernel
theorem dX9_isTold_34 : decode cX9_isTold 34 = .ok (.iinc 4 1, 3) := by decide +kernel
theorem dX9_isTold_37 : decode cX9_isTold 37 = .ok (.goto (-34), 3) := by decide +kernel
theorem dX9_isTold_40 : decode cX9_isTold 40 = .ok (.iconst 1, 1) := by decide +kernel
theorem dX9_isTold_41 : decode cX9_isTold 41 = .ok (.ireturn, 1) := by decide +kernel
theorem dX10_init_0 : decode cX10_init 0 = .ok (.aload_n 0, 1) := by decide +kernel
theorem dX10_init_1 : decode cX10_init 1 = .ok (.invokespecial 3, 3) := by decide +kernel
theorem dX10_init_4 : decode cX10_init 4 = .ok (.aload_n 0, 1) := by decide +kernel
theorem dX10_init_5 : decode cX10_init 5 = .ok (.bipush 7, 2) := by decide +kernel
theorem dX10_init_7 : decode cX10_init 7 = .ok (.newarray .int, 2) := by decide +kernel
theorem dX10_init_9 : decode cX10_init 9 = .ok (.putfield 9, 3) := by decide +kernel
theorem dX10_init_12 : decode cX10_init 12 = .ok (.aload_n 0, 1) := by decide +kernel
theorem dX10_init_13 : decode cX10_init 13 = .ok (.bipush 7, 2) := by decide +kernel
theorem dX10_init_15 : decode cX10_init 15 = .ok (.newarray .int, 2) := by decide +kernel
theorem dX10_init_17 : decode cX10_init 17 = .ok (.putfield 15, 3) := by decide +kernel
theorem dX10_init_20 : decode cX10_init 20 = .ok (.aload_n 0, 1) := by decide +kernel
theorem dX10_init_21 : decode cX10_init 21 = .ok (.aload_n 1, 1) := by decide +kernel
theorem dX10_init_22 : decode cX10_init 22 = .ok (.putfield 18, 3) := by decide +kernel
theorem dX10_init_25 : decode cX10_init 25 = .ok (.aload_n 0, 1) := by decide +kernel
theorem dX10_init_26 : decode cX10_init 26 = .ok (.aload_n 2, 1) := by decide +kernel
theorem dX10_init_27 : decode cX10_init 27 = .ok (.putfield 22, 3) := by decide +kernel
theorem dX10_init_30 : decode cX10_init 30 = .ok (.return_, 1) := by decide +kernel
theorem dX10_takes_0 : decode cX10_takes 0 = .ok (.aload_n 1, 1) := by decide +kernel
theorem dX10_takes_1 : decode cX10_takes 1 = .ok (.getfield 26, 3) := by decide +kernel
theorem dX10_takes_4 : decode cX10_takes 4 = .ok (.aload_n 2, 1) := by decide +kernel
theorem dX10_takes_5 : decode cX10_takes 5 = .ok (.getfield 26, 3) := by decide +kernel
theorem dX10_takes_8 : decode cX10_takes 8 = .ok (.if_icmp .gt 17, 3) := by decide +kernel
theorem dX10_takes_11 : decode cX10_takes 11 = .ok (.aload_n 1, 1) := by decide +kernel
theorem dX10_takes_12 : decode cX10_takes 12 = .ok (.getfield 32, 3) := by decide +kernel
theorem dX10_takes_15 : decode cX10_takes 15 = .ok (.aload_n 2, 1) := by decide +kernel
theorem dX10_takes_16 : decode cX10_takes 16 = .ok (.getfield 32, 3) := by decide +kernel
theorem dX10_takes_19 : decode cX10_takes 19 = .ok (.iconst (-1), 1) := by decide +kernel
theorem dX10_takes_20 : decode cX10_takes 20 = .ok (.ixor, 1) := by decide +kernel
theorem dX10_takes_21 : decode cX10_takes 21 = .ok (.iand, 1) := by decide +kernel
theorem dX10_takes_22 : decode cX10_takes 22 = .ok (.ifCond .eq 5, 3) := by decide +kernel
theorem dX10_takes_25 : decode cX10_takes 25 = .ok (.iconst 0, 1) := by decide +kernel
theorem dX10_takes_26 : decode cX10_takes 26 = .ok (.ireturn, 1) := by decide +kernel
theorem dX10_takes_27 : decode cX10_takes 27 = .ok (.aload_n 0, 1) := by decide +kernel
theorem dX10_takes_28 : decode cX10_takes 28 = .ok (.getfield 18, 3) := by decide +kernel
theorem dX10_takes_31 : decode cX10_takes 31 = .ok (.iconst 0, 1) := by decide +kernel
theorem dX10_takes_32 : decode cX10_takes 32 = .ok (.invokevirtual 35, 3) := by decide +kernel
theorem dX10_takes_35 : decode cX10_takes 35 = .ok (.iconst 0, 1) := by decide +kernel
theorem dX10_takes_36 : decode cX10_takes 36 = .ok (.istore_n 3, 1) := by decide +kernel
theorem dX10_takes_37 : decode cX10_takes 37 = .ok (.aload_n 0, 1) := by decide +kernel
theorem dX10_takes_38 : decode cX10_takes 38 = .ok (.getfield 9, 3) := by decide +kernel
theorem dX10_takes_41 : decode cX10_takes 41 = .ok (.iconst 0, 1) := by decide +kernel
theorem dX10_takes_42 : decode cX10_takes 42 = .ok (.iconst 0, 1) := by decide +kernel
theorem dX10_takes_43 : decode cX10_takes 43 = .ok (.iastore, 1) := by decide +kernel
theorem dX10_takes_44 : decode cX10_takes 44 = .ok (.aload_n 0, 1) := by decide +kernel
theorem dX10_takes_45 : decode cX10_takes 45 = .ok (.getfield 15, 3) := by decide +kernel
theorem dX10_takes_48 : decode cX10_takes 48 = .ok (.iconst 0, 1) := by decide +kernel
theorem dX10_takes_49 : decode cX10_takes 49 = .ok (.iconst 0, 1) := by decide +kernel
theorem dX10_takes_50 : decode cX10_takes 50 = .ok (.iastore, 1) := by decide +kernel
theorem dX10_takes_51 : decode cX10_takes 51 = .ok (.iconst 0, 1) := by decide +kernel
theorem dX10_takes_52 : decode cX10_takes 52 = .ok (.istore 4, 2) := by decide +kernel
theorem dX10_takes_54 : decode cX10_takes 54 = .ok (.iload 4, 2) := by decide +kernel
theorem dX10_takes_56 : decode cX10_takes 56 = .ok (.ldc 41, 2) := by decide +kernel
theorem dX10_takes_58 : decode cX10_takes 58 = .ok (.if_icmp .ge 155, 3) := by decide +kernel
theorem dX10_takes_61 : decode cX10_takes 61 = .ok (.iload_n 3, 1) := by decide +kernel
theorem dX10_takes_62 : decode cX10_takes 62 = .ok (.aload_n 1, 1) := by decide +kernel
theorem dX10_takes_63 : decode cX10_takes 63 = .ok (.getfield 26, 3) := by decide +kernel
theorem dX10_takes_66 : decode cX10_takes 66 = .ok (.if_icmp .ge 147, 3) := by decide +kernel
theorem dX10_takes_69 : decode cX10_takes 69 = .ok (.aload_n 0, 1) := by decide +kernel
theorem dX10_takes_70 : decode cX10_takes 70 = .ok (.getfield 9, 3) := by decide +kernel
theorem dX10_takes_73 : decode cX10_takes 73 = .ok (.iload_n 3, 1) := by decide +kernel
theorem dX10_takes_74 : decode cX10_takes 74 = .ok (.iaload, 1) := by decide +kernel
theorem dX10_takes_75 : decode cX10_takes 75 = .ok (.istore 5, 2) := by decide +kernel
theorem dX10_takes_77 : decode cX10_takes 77 = .ok (.iload 5, 2) := by decide +kernel
theorem dX10_takes_79 : decode cX10_takes 79 = .ok (.aload_n 2, 1) := by decide +kernel
theorem dX10_takes_80 : decode cX10_takes 80 = .ok (.getfield 26, 3) := by decide +kernel
theorem dX10_takes_83 : decode cX10_takes 83 = .ok (.if_icmp .lt 28, 3) := by decide +kernel
theorem dX10_takes_86 : decode cX10_takes 86 = .ok (.iload_n 3, 1) := by decide +kernel
theorem dX10_takes_87 : decode cX10_takes 87 = .ok (.ifCond .ne 5, 3) := by decide +kernel
theorem dX10_takes_90 : decode cX10_takes 90 = .ok (.iconst 0, 1) := by decide +kernel
theorem dX10_takes_91 : decode cX10_takes 91 = .ok (.ireturn, 1) := by decide +kernel
theorem dX10_takes_92 : decode cX10_takes 92 = .ok (.iinc 3 (-1), 3) := by decide +kernel
theorem dX10_takes_95 : decode cX10_takes 95 = .ok (.aload_n 0, 1) := by decide +kernel
theorem dX10_takes_96 : decode cX10_takes 96 = .ok (.getfield 18, 3) := by decide +kernel
theorem dX10_takes_99 : decode cX10_takes 99 = .ok (.aload_n 0, 1) := by decide +kernel
theorem dX10_takes_100 : decode cX10_takes 100 = .ok (.getfield 15, 3) := by decide +kernel
theorem dX10_takes_103 : decode cX10_takes 103 = .ok (.iload_n 3, 1) := by decide +kernel
theorem dX10_takes_104 : decode cX10_takes 104 = .ok (.iaload, 1) := by decide +kernel
theorem dX10_takes_105 : decode cX10_takes 105 = .ok (.invokevirtual 35, 3) := by decide +kernel
theorem dX10_takes_108 : decode cX10_takes 108 = .ok (.goto 99, 3) := by decide +kernel
theorem dX10_takes_111 : decode cX10_takes 111 = .ok (.aload_n 0, 1) := by decide +kernel
theorem dX10_takes_112 : decode cX10_takes 112 = .ok (.getfield 9, 3) := by decide +kernel
theorem dX10_takes_115 : decode cX10_takes 115 = .ok (.iload_n 3, 1) := by decide +kernel
theorem dX10_takes_116 : decode cX10_takes 116 = .ok (.iload 5, 2) := by decide +kernel
theorem dX10_takes_118 : decode cX10_takes 118 = .ok (.iconst 1, 1) := by decide +kernel
theorem dX10_takes_119 : decode cX10_takes 119 = .ok (.iadd, 1) := by decide +kernel
theorem dX10_takes_120 : decode cX10_takes 120 = .ok (.iastore, 1) := by decide +kernel
theorem dX10_takes_121 : decode cX10_takes 121 = .ok (.aload_n 1, 1) := by decide +kernel
theorem dX10_takes_122 : decode cX10_takes 122 = .ok (.getfield 42, 3) := by decide +kernel
theorem dX10_takes_125 : decode cX10_takes 125 = .ok (.iload_n 3, 1) := by decide +kernel
theorem dX10_takes_126 : decode cX10_takes 126 = .ok (.baload, 1) := by decide +kernel
theorem dX10_takes_127 : decode cX10_takes 127 = .ok (.aload_n 2, 1) := by decide +kernel
theorem dX10_takes_128 : decode cX10_takes 128 = .ok (.getfield 42, 3) := by decide +kernel
theorem dX10_takes_131 : decode cX10_takes 131 = .ok (.iload 5, 2) := by decide +kernel
theorem dX10_takes_133 : decode cX10_takes 133 = .ok (.baload, 1) := by decide +kernel
theorem dX10_takes_134 : decode cX10_takes 134 = .ok (.if_icmp .ne 60, 3) := by decide +kernel
theorem dX10_takes_137 : decode cX10_takes 137 = .ok (.aload_n 0, 1) := by decide +kernel
theorem dX10_takes_138 : decode cX10_takes 138 = .ok (.getfield 18, 3) := by decide +kernel
theorem dX10_takes_141 : decode cX10_takes 141 = .ok (.aload_n 1, 1) := by decide +kernel
theorem dX10_takes_142 : decode cX10_takes 142 = .ok (.getfield 46, 3) := by decide +kernel
theorem dX10_takes_145 : decode cX10_takes 145 = .ok (.aload_n 1, 1) := by decide +kernel
theorem dX10_takes_146 : decode cX10_takes 146 = .ok (.getfield 49, 3) := by decide +kernel
theorem dX10_takes_149 : decode cX10_takes 149 = .ok (.iload_n 3, 1) := by decide +kernel
theorem dX10_takes_150 : decode cX10_takes 150 = .ok (.iaload, 1) := by decide +kernel
theorem dX10_takes_151 : decode cX10_takes 151 = .ok (.aload_n 2, 1) := by decide +kernel
theorem dX10_takes_152 : decode cX10_takes 152 = .ok (.getfield 46, 3) := by decide +kernel
theorem dX10_takes_155 : decode cX10_takes 155 = .ok (.aload_n 2, 1) := by decide +kernel
theorem dX10_takes_156 : decode cX10_takes 156 = .ok (.getfield 49, 3) := by decide +kernel
theorem dX10_takes_159 : decode cX10_takes 159 = .ok (.iload 5, 2) := by decide +kernel
theorem dX10_takes_161 : decode cX10_takes 161 = .ok (.iaload, 1) := by decide +kernel
theorem dX10_takes_162 : decode cX10_takes 162 = .ok (.invokevirtual 52, 3) := by decide +kernel
theorem dX10_takes_165 : decode cX10_takes 165 = .ok (.ifCond .eq 29, 3) := by decide +kernel
theorem dX10_takes_168 : decode cX10_takes 168 = .ok (.iinc 3 1, 3) := by decide +kernel
theorem dX10_takes_171 : decode cX10_takes 171 = .ok (.aload_n 0, 1) := by decide +kernel
theorem dX10_takes_172 : decode cX10_takes 172 = .ok (.getfield 9, 3) := by decide +kernel
theorem dX10_takes_175 : decode cX10_takes 175 = .ok (.iload_n 3, 1) := by decide +kernel
theorem dX10_takes_176 : decode cX10_takes 176 = .ok (.iconst 0, 1) := by decide +kernel
theorem dX10_takes_177 : decode cX10_takes 177 = .ok (.iastore, 1) := by decide +kernel
theorem dX10_takes_178 : decode cX10_takes 178 = .ok (.aload_n 0, 1) := by decide +kernel
theorem dX10_takes_179 : decode cX10_takes 179 = .ok (.getfield 15, 3) := by decide +kernel
theorem dX10_takes_182 : decode cX10_takes 182 = .ok (.iload_n 3, 1) := by decide +kernel
theorem dX10_takes_183 : decode cX10_takes 183 = .ok (.aload_n 0, 1) := by decide +kernel
theorem dX10_takes_184 : decode cX10_takes 184 = .ok (.getfield 18, 3) := by decide +kernel
theorem dX10_takes_187 : decode cX10_takes 187 = .ok (.getfield 56, 3) := by decide +kernel
theorem dX10_takes_190 : decode cX10_takes 190 = .ok (.iastore, 1) := by decide +kernel
theorem dX10_takes_191 : decode cX10_takes 191 = .ok (.goto 16, 3) := by decide +kernel
theorem dX10_takes_194 : decode cX10_takes 194 = .ok (.aload_n 0, 1) := by decide +kernel
theorem dX10_takes_195 : decode cX10_takes 195 = .ok (.getfield 18, 3) := by decide +kernel
theorem dX10_takes_198 : decode cX10_takes 198 = .ok (.aload_n 0, 1) := by decide +kernel
theorem dX10_takes_199 : decode cX10_takes 199 = .ok (.getfield 15, 3) := by decide +kernel
theorem dX10_takes_202 : decode cX10_takes 202 = .ok (.iload_n 3, 1) := by decide +kernel
theorem dX10_takes_203 : decode cX10_takes 203 = .ok (.iaload, 1) := by decide +kernel
theorem dX10_takes_204 : decode cX10_takes 204 = .ok (.invokevirtual 35, 3) := by decide +kernel
theorem dX10_takes_207 : decode cX10_takes 207 = .ok (.iinc 4 1, 3) := by decide +kernel
theorem dX10_takes_210 : decode cX10_takes 210 = .ok (.goto (-156), 3) := by decide +kernel
theorem dX10_takes_213 : decode cX10_takes 213 = .ok (.iload_n 3, 1) := by decide +kernel
theorem dX10_takes_214 : decode cX10_takes 214 = .ok (.aload_n 1, 1) := by decide +kernel
theorem dX10_takes_215 : decode cX10_takes 215 = .ok (.getfield 26, 3) := by decide +kernel
theorem dX10_takes_218 : decode cX10_takes 218 = .ok (.if_icmp .ne 7, 3) := by decide +kernel
theorem dX10_takes_221 : decode cX10_takes 221 = .ok (.iconst 1, 1) := by decide +kernel
theorem dX10_takes_222 : decode cX10_takes 222 = .ok (.goto 4, 3) := by decide +kernel
theorem dX10_takes_225 : decode cX10_takes 225 = .ok (.iconst 0, 1) := by decide +kernel
theorem dX10_takes_226 : decode cX10_takes 226 = .ok (.ireturn, 1) := by decide +kernel
theorem dX10_isTakenIn_0 : decode cX10_isTakenIn 0 = .ok (.iconst 0, 1) := by decide +kernel
theorem dX10_isTakenIn_1 : decode cX10_isTakenIn 1 = .ok (.istore_n 2, 1) := by decide +kernel
theorem dX10_isTakenIn_2 : decode cX10_isTakenIn 2 = .ok (.iload_n 2, 1) := by decide +kernel
theorem dX10_isTakenIn_3 : decode cX10_isTakenIn 3 = .ok (.aload_n 0, 1) := by decide +kernel
theorem dX10_isTakenIn_4 : decode cX10_isTakenIn 4 = .ok (.getfield 22, 3) := by decide +kernel
theorem dX10_isTakenIn_7 : decode cX10_isTakenIn 7 = .ok (.getfield 59, 3) := by decide +kernel
theorem dX10_isTakenIn_10 : decode cX10_isTakenIn 10 = .ok (.if_icmp .ge 43, 3) := by decide +kernel
theorem dX10_isTakenIn_13 : decode cX10_isTakenIn 13 = .ok (.aload_n 0, 1) := by decide +kernel
theorem dX10_isTakenIn_14 : decode cX10_isTakenIn 14 = .ok (.getfield 22, 3) := by decide +kernel
theorem dX10_isTakenIn_17 : decode cX10_isTakenIn 17 = .ok (.iload_n 2, 1) := by decide +kernel
theorem dX10_isTakenIn_18 : decode cX10_isTakenIn 18 = .ok (.invokevirtual 64, 3) := by decide +kernel
theorem dX10_isTakenIn_21 : decode cX10_isTakenIn 21 = .ok (.astore_n 3, 1) := by decide +kernel
theorem dX10_isTakenIn_22 : decode cX10_isTakenIn 22 = .ok (.aload_n 3, 1) := by decide +kernel
theorem dX10_isTakenIn_23 : decode cX10_isTakenIn 23 = .ok (.ifnull 24, 3) := by decide +kernel
theorem dX10_isTakenIn_26 : decode cX10_isTakenIn 26 = .ok (.aload_n 3, 1) := by decide +kernel
theorem dX10_isTakenIn_27 : decode cX10_isTakenIn 27 = .ok (.invokevirtual 68, 3) := by decide +kernel
theorem dX10_isTakenIn_30 : decode cX10_isTakenIn 30 = .ok (.ifCond .eq 17, 3) := by decide +kernel
theorem dX10_isTakenIn_33 : decode cX10_isTakenIn 33 = .ok (.aload_n 0, 1) := by decide +kernel
theorem dX10_isTakenIn_34 : decode cX10_isTakenIn 34 = .ok (.aload_n 3, 1) := by decide +kernel
theorem dX10_isTakenIn_35 : decode cX10_isTakenIn 35 = .ok (.getfield 74, 3) := by decide +kernel
theorem dX10_isTakenIn_38 : decode cX10_isTakenIn 38 = .ok (.aload_n 1, 1) := by decide +kernel
theorem dX10_isTakenIn_39 : decode cX10_isTakenIn 39 = .ok (.invokevirtual 78, 3) := by decide +kernel
theorem dX10_isTakenIn_42 : decode cX10_isTakenIn 42 = .ok (.ifCond .eq 5, 3) := by decide +kernel
theorem dX10_isTakenIn_45 : decode cX10_isTakenIn 45 = .ok (.iconst 1, 1) := by decide +kernel
theorem dX10_isTakenIn_46 : decode cX10_isTakenIn 46 = .ok (.ireturn, 1) := by decide +kernel
theorem dX10_isTakenIn_47 : decode cX10_isTakenIn 47 = .ok (.iinc 2 1, 3) := by decide +kernel
theorem dX10_isTakenIn_50 : decode cX10_isTakenIn 50 = .ok (.goto (-48), 3) := by decide +kernel
theorem dX10_isTakenIn_53 : decode cX10_isTakenIn 53 = .ok (.iconst 0, 1) := by decide +kernel
theorem dX10_isTakenIn_54 : decode cX10_isTakenIn 54 = .ok (.ireturn, 1) := by decide +kernel
theorem dX10_putAway_0 : decode cX10_putAway 0 = .ok (.iconst 0, 1) := by decide +kernel
theorem dX10_putAway_1 : decode cX10_putAway 1 = .ok (.istore_n 2, 1) := by decide +kernel
theorem dX10_putAway_2 : decode cX10_putAway 2 = .ok (.iload_n 2, 1) := by decide +kernel
theorem dX10_putAway_3 : decode cX10_putAway 3 = .ok (.aload_n 0, 1) := by decide +kernel
theorem dX10_putAway_4 : decode cX10_putAway 4 = .ok (.getfield 22, 3) := by decide +kernel
theorem dX10_putAway_7 : decode cX10_putAway 7 = .ok (.getfield 59, 3) := by decide +kernel
theorem dX10_putAway_10 : decode cX10_putAway 10 = .ok (.if_icmp .ge 62, 3) := by decide +kernel
theorem dX10_putAway_13 : decode cX10_putAway 13 = .ok (.aload_n 0, 1) := by decide +kernel
theorem dX10_putAway_14 : decode cX10_putAway 14 = .ok (.getfield 22, 3) := by decide +kernel
theorem dX10_putAway_17 : decode cX10_putAway 17 = .ok (.iload_n 2, 1) := by decide +kernel
theorem dX10_putAway_18 : decode cX10_putAway 18 = .ok (.invokevirtual 64, 3) := by decide +kernel
theorem dX10_putAway_21 : decode cX10_putAway 21 = .ok (.astore_n 3, 1) := by decide +kernel
theorem dX10_putAway_22 : decode cX10_putAway 22 = .ok (.aload_n 3, 1) := by decide +kernel
theorem dX10_putAway_23 : decode cX10_putAway 23 = .ok (.ifnull 43, 3) := by decide +kernel
theorem dX10_putAway_26 : decode cX10_putAway 26 = .ok (.aload_n 3, 1) := by decide +kernel
theorem dX10_putAway_27 : decode cX10_putAway 27 = .ok (.aload_n 1, 1) := by decide +kernel
theorem dX10_putAway_28 : decode cX10_putAway 28 = .ok (.if_acmp .eq 38, 3) := by decide +kernel
theorem dX10_putAway_31 : decode cX10_putAway 31 = .ok (.aload_n 3, 1) := by decide +kernel
theorem dX10_putAway_32 : decode cX10_putAway 32 = .ok (.invokevirtual 68, 3) := by decide +kernel
theorem dX10_putAway_35 : decode cX10_putAway 35 = .ok (.ifCond .eq 31, 3) := by decide +kernel
theorem dX10_putAway_38 : decode cX10_putAway 38 = .ok (.aload_n 0, 1) := by decide +kernel
theorem dX10_putAway_39 : decode cX10_putAway 39 = .ok (.aload_n 1, 1) := by decide +kernel
theorem dX10_putAway_40 : decode cX10_putAway 40 = .ok (.getfield 74, 3) := by decide +kernel
theorem dX10_putAway_43 : decode cX10_putAway 43 = .ok (.aload_n 3, 1) := by decide +kernel
theorem dX10_putAway_44 : decode cX10_putAway 44 = .ok (.getfield 74, 3) := by decide +kernel
theorem dX10_putAway_47 : decode cX10_putAway 47 = .ok (.invokevirtual 78, 3) := by decide +kernel
theorem dX10_putAway_50 : decode cX10_putAway 50 = .ok (.ifCond .eq 16, 3) := by decide +kernel
theorem dX10_putAway_53 : decode cX10_putAway 53 = .ok (.aload_n 3, 1) := by decide +kernel
theorem dX10_putAway_54 : decode cX10_putAway 54 = .ok (.iconst 2, 1) := by decide +kernel
theorem dX10_putAway_55 : decode cX10_putAway 55 = .ok (.putfield 82, 3) := by decide +kernel
theorem dX10_putAway_58 : decode cX10_putAway 58 = .ok (.aload_n 3, 1) := by decide +kernel
theorem dX10_putAway_59 : decode cX10_putAway 59 = .ok (.aload_n 1, 1) := by decide +kernel
theorem dX10_putAway_60 : decode cX10_putAway 60 = .ok (.getfield 85, 3) := by decide +kernel
theorem dX10_putAway_63 : decode cX10_putAway 63 = .ok (.putfield 88, 3) := by decide +kernel
theorem dX10_putAway_66 : decode cX10_putAway 66 = .ok (.iinc 2 1, 3) := by decide +kernel
theorem dX10_putAway_69 : decode cX10_putAway 69 = .ok (.goto (-67), 3) := by decide +kernel
theorem dX10_putAway_72 : decode cX10_putAway 72 = .ok (.return_, 1) := by decide +kernel
theorem dX11_init_0 : decode cX11_init 0 = .ok (.aload_n 0, 1) := by decide +kernel
theorem dX11_init_1 : decode cX11_init 1 = .ok (.invokespecial 3, 3) := by decide +kernel
theorem dX11_init_4 : decode cX11_init 4 = .ok (.aload_n 0, 1) := by decide +kernel
theorem dX11_init_5 : decode cX11_init 5 = .ok (.new 9, 3) := by decide +kernel
theorem dX11_init_8 : decode cX11_init 8 = .ok (.dup, 1) := by decide +kernel
theorem dX11_init_9 : decode cX11_init 9 = .ok (.invokespecial 11, 3) := by decide +kernel
theorem dX11_init_12 : decode cX11_init 12 = .ok (.putfield 12, 3) := by decide +kernel
theorem dX11_init_15 : decode cX11_init 15 = .ok (.aload_n 0, 1) := by decide +kernel
theorem dX11_init_16 : decode cX11_init 16 = .ok (.new 16, 3) := by decide +kernel
theorem dX11_init_19 : decode cX11_init 19 = .ok (.dup, 1) := by decide +kernel
theorem dX11_init_20 : decode cX11_init 20 = .ok (.invokespecial 18, 3) := by decide +kernel
theorem dX11_init_23 : decode cX11_init 23 = .ok (.putfield 19, 3) := by decide +kernel
theorem dX11_init_26 : decode cX11_init 26 = .ok (.aload_n 0, 1) := by decide +kernel
theorem dX11_init_27 : decode cX11_init 27 = .ok (.sipush 200, 3) := by decide +kernel
theorem dX11_init_30 : decode cX11_init 30 = .ok (.newarray .int, 2) := by decide +kernel
theorem dX11_init_32 : decode cX11_init 32 = .ok (.putfield 23, 3) := by decide +kernel
theorem dX11_init_35 : decode cX11_init 35 = .ok (.aload_n 0, 1) := by decide +kernel
theorem dX11_init_36 : decode cX11_init 36 = .ok (.new 27, 3) := by decide +kernel
theorem dX11_init_39 : decode cX11_init 39 = .ok (.dup, 1) := by decide +kernel
theorem dX11_init_40 : decode cX11_init 40 = .ok (.invokespecial 29, 3) := by decide +kernel
theorem dX11_init_43 : decode cX11_init 43 = .ok (.putfield 30, 3) := by decide +kernel
theorem dX11_init_46 : decode cX11_init 46 = .ok (.aload_n 0, 1) := by decide +kernel
theorem dX11_init_47 : decode cX11_init 47 = .ok (.new 27, 3) := by decide +kernel
theorem dX11_init_50 : decode cX11_init 50 = .ok (.dup, 1) := by decide +kernel
theorem dX11_init_51 : decode cX11_init 51 = .ok (.invokespecial 29, 3) := by decide +kernel
theorem dX11_init_54 : decode cX11_init 54 = .ok (.putfield 34, 3) := by decide +kernel
theorem dX11_init_57 : decode cX11_init 57 = .ok (.aload_n 0, 1) := by decide +kernel
theorem dX11_init_58 : decode cX11_init 58 = .ok (.new 37, 3) := by decide +kernel
theorem dX11_init_61 : decode cX11_init 61 = .ok (.dup, 1) := by decide +kernel
theorem dX11_init_62 : decode cX11_init 62 = .ok (.aload_n 0, 1) := by decide +kernel
theorem dX11_init_63 : decode cX11_init 63 = .ok (.getfield 12, 3) := by decide +kernel
theorem dX11_init_66 : decode cX11_init 66 = .ok (.invokespecial 39, 3) := by decide +kernel
theorem dX11_init_69 : decode cX11_init 69 = .ok (.putfield 42, 3) := by decide +kernel
theorem dX11_init_72 : decode cX11_init 72 = .ok (.aload_n 0, 1) := by decide +kernel
theorem dX11_init_73 : decode cX11_init 73 = .ok (.new 46, 3) := by decide +kernel
theorem dX11_init_76 : decode cX11_init 76 = .ok (.dup, 1) := by decide +kernel
theorem dX11_init_77 : decode cX11_init 77 = .ok (.aload_n 0, 1) := by decide +kernel
theorem dX11_init_78 : decode cX11_init 78 = .ok (.getfield 12, 3) := by decide +kernel
theorem dX11_init_81 : decode cX11_init 81 = .ok (.invokespecial 48, 3) := by decide +kernel
theorem dX11_init_84 : decode cX11_init 84 = .ok (.putfield 49, 3) := by decide +kernel
theorem dX11_init_87 : decode cX11_init 87 = .ok (.aload_n 0, 1) := by decide +kernel
theorem dX11_init_88 : decode cX11_init 88 = .ok (.new 53, 3) := by decide +kernel
theorem dX11_init_91 : decode cX11_init 91 = .ok (.dup, 1) := by decide +kernel
theorem dX11_init_92 : decode cX11_init 92 = .ok (.aload_n 0, 1) := by decide +kernel
theorem dX11_init_93 : decode cX11_init 93 = .ok (.getfield 12, 3) := by decide +kernel
theorem dX11_init_96 : decode cX11_init 96 = .ok (.aload_n 0, 1) := by decide +kernel
theorem dX11_init_97 : decode cX11_init 97 = .ok (.getfield 42, 3) := by decide +kernel
theorem dX11_init_100 : decode cX11_init 100 = .ok (.invokespecial 55, 3) := by decide +kernel
theorem dX11_init_103 : decode cX11_init 103 = .ok (.putfield 58, 3) := by decide +kernel
theorem dX11_init_106 : decode cX11_init 106 = .ok (.aload_n 0, 1) := by decide +kernel
theorem dX11_init_107 : decode cX11_init 107 = .ok (.new 62, 3) := by decide +kernel
theorem dX11_init_110 : decode cX11_init 110 = .ok (.dup, 1) := by decide +kernel
theorem dX11_init_111 : decode cX11_init 111 = .ok (.aload_n 0, 1) := by decide +kernel
theorem dX11_init_112 : decode cX11_init 112 = .ok (.getfield 49, 3) := by decide +kernel
theorem dX11_init_115 : decode cX11_init 115 = .ok (.aload_n 0, 1) := by decide +kernel
theorem dX11_init_116 : decode cX11_init 116 = .ok (.getfield 19, 3) := by decide +kernel
theorem dX11_init_119 : decode cX11_init 119 = .ok (.invokespecial 64, 3) := by decide +kernel
theorem dX11_init_122 : decode cX11_init 122 = .ok (.putfield 67, 3) := by decide +kernel
theorem dX11_init_125 : decode cX11_init 125 = .ok (.aload_n 0, 1) := by decide +kernel
theorem dX11_init_126 : decode cX11_init 126 = .ok (.new 71, 3) := by decide +kernel
theorem dX11_init_129 : decode cX11_init 129 = .ok (.dup, 1) := by decide +kernel
theorem dX11_init_130 : decode cX11_init 130 = .ok (.aload_n 0, 1) := by decide +kernel
theorem dX11_init_131 : decode cX11_init 131 = .ok (.getfield 12, 3) := by decide +kernel
theorem dX11_init_134 : decode cX11_init 134 = .ok (.aload_n 0, 1) := by decide +kernel
theorem dX11_init_135 : decode cX11_init 135 = .ok (.getfield 42, 3) := by decide +kernel
theorem dX11_init_138 : decode cX11_init 138 = .ok (.aload_n 0, 1) := by decide +kernel
theorem dX11_init_139 : decode cX11_init 139 = .ok (.getfield 49, 3) := by decide +kernel
theorem dX11_init_142 : decode cX11_init 142 = .ok (.aload_n 0, 1) := by decide +kernel
theorem dX11_init_143 : decode cX11_init 143 = .ok (.getfield 19, 3) := by decide +kernel
theorem dX11_init_146 : decode cX11_init 146 = .ok (.invokespecial 73, 3) := by decide +kernel
theorem dX11_init_149 : decode cX11_init 149 = .ok (.putfield 76, 3) := by decide +kernel
theorem dX11_init_152 : decode cX11_init 152 = .ok (.aload_n 0, 1) := by decide +kernel
theorem dX11_init_153 : decode cX11_init 153 = .ok (.new 80, 3) := by decide +kernel
theorem dX11_init_156 : decode cX11_init 156 = .ok (.dup, 1) := by decide +kernel
theorem dX11_init_157 : decode cX11_init 157 = .ok (.aload_n 0, 1) := by decide +kernel
theorem dX11_init_158 : decode cX11_init 158 = .ok (.getfield 12, 3) := by decide +kernel
theorem dX11_init_161 : decode cX11_init 161 = .ok (.aload_n 0, 1) := by decide +kernel
theorem dX11_init_162 : decode cX11_init 162 = .ok (.getfield 42, 3) := by decide +kernel
theorem dX11_init_165 : decode cX11_init 165 = .ok (.aload_n 0, 1) := by decide +kernel
theorem dX11_init_166 : decode cX11_init 166 = .ok (.getfield 49, 3) := by decide +kernel
theorem dX11_init_169 : decode cX11_init 169 = .ok (.aload_n 0, 1) := by decide +kernel
theorem dX11_init_170 : decode cX11_init 170 = .ok (.getfield 19, 3) := by decide +kernel
theorem dX11_init_173 : decode cX11_init 173 = .ok (.invokespecial 82, 3) := by decide +kernel
theorem dX11_init_176 : decode cX11_init 176 = .ok (.putfield 83, 3) := by decide +kernel
theorem dX11_init_179 : decode cX11_init 179 = .ok (.aload_n 0, 1) := by decide +kernel
theorem dX11_init_180 : decode cX11_init 180 = .ok (.new 87, 3) := by decide +kernel
theorem dX11_init_183 : decode cX11_init 183 = .ok (.dup, 1) := by decide +kernel
theorem dX11_init_184 : decode cX11_init 184 = .ok (.aload_n 0, 1) := by decide +kernel
theorem dX11_init_185 : decode cX11_init 185 = .ok (.getfield 12, 3) := by decide +kernel
theorem dX11_init_188 : decode cX11_init 188 = .ok (.aload_n 0, 1) := by decide +kernel
theorem dX11_init_189 : decode cX11_init 189 = .ok (.getfield 19, 3) := by decide +kernel
theorem dX11_init_192 : decode cX11_init 192 = .ok (.invokespecial 89, 3) := by decide +kernel
theorem dX11_init_195 : decode cX11_init 195 = .ok (.putfield 92, 3) := by decide +kernel
theorem dX11_init_198 : decode cX11_init 198 = .ok (.aload_n 0, 1) := by decide +kernel
theorem dX11_init_199 : decode cX11_init 199 = .ok (.iconst 0, 1) := by decide +kernel
theorem dX11_init_200 : decode cX11_init 200 = .ok (.putfield 96, 3) := by decide +kernel
theorem dX11_init_203 : decode cX11_init 203 = .ok (.aload_n 0, 1) := by decide +kernel
theorem dX11_init_204 : decode cX11_init 204 = .ok (.iconst 4, 1) := by decide +kernel
theorem dX11_init_205 : decode cX11_init 205 = .ok (.putfield 100, 3) := by decide +kernel
theorem dX11_init_208 : decode cX11_init 208 = .ok (.aload_n 0, 1) := by decide +kernel
theorem dX11_init_209 : decode cX11_init 209 = .ok (.sipush 2000, 3) := by decide +kernel
theorem dX11_init_212 : decode cX11_init 212 = .ok (.putfield 103, 3) := by decide +kernel
theorem dX11_init_215 : decode cX11_init 215 = .ok (.aload_n 0, 1) := by decide +kernel
theorem dX11_init_216 : decode cX11_init 216 = .ok (.iconst 0, 1) := by decide +kernel
theorem dX11_init_217 : decode cX11_init 217 = .ok (.putfield 106, 3) := by decide +kernel
theorem dX11_init_220 : decode cX11_init 220 = .ok (.aload_n 0, 1) := by decide +kernel
theorem dX11_init_221 : decode cX11_init 221 = .ok (.iconst 0, 1) := by decide +kernel
theorem dX11_init_222 : decode cX11_init 222 = .ok (.putfield 109, 3) := by decide +kernel
theorem dX11_init_225 : decode cX11_init 225 = .ok (.aload_n 0, 1) := by decide +kernel
theorem dX11_init_226 : decode cX11_init 226 = .ok (.iconst 0, 1) := by decide +kernel
theorem dX11_init_227 : decode cX11_init 227 = .ok (.putfield 112, 3) := by decide +kernel
theorem dX11_init_230 : decode cX11_init 230 = .ok (.aload_n 0, 1) := by decide +kernel
theorem dX11_init_231 : decode cX11_init 231 = .ok (.iconst 0, 1) := by decide +kernel
theorem dX11_init_232 : decode cX11_init 232 = .ok (.putfield 115, 3) := by decide +kernel
theorem dX11_init_235 : decode cX11_init 235 = .ok (.aload_n 0, 1) := by decide +kernel
theorem dX11_init_236 : decode cX11_init 236 = .ok (.iconst 0, 1) := by decide +kernel
theorem dX11_init_237 : decode cX11_init 237 = .ok (.putfield 118, 3) := by decide +kernel
theorem dX11_init_240 : decode cX11_init 240 = .ok (.aload_n 0, 1) := by decide +kernel
theorem dX11_init_241 : decode cX11_init 241 = .ok (.iconst 0, 1) := by decide +kernel
theorem dX11_init_242 : decode cX11_init 242 = .ok (.putfield 121, 3) := by decide +kernel
theorem dX11_init_245 : decode cX11_init 245 = .ok (.return_, 1) := by decide +kernel
theorem dX11_sign_0 : decode cX11_sign 0 = .ok (.iload_n 2, 1) := by decide +kernel
theorem dX11_sign_1 : decode cX11_sign 1 = .ok (.ifCond .lt 19, 3) := by decide +kernel
theorem dX11_sign_4 : decode cX11_sign 4 = .ok (.iload_n 2, 1) := by decide +kernel
theorem dX11_sign_5 : decode cX11_sign 5 = .ok (.iconst 3, 1) := by decide +kernel
theorem dX11_sign_6 : decode cX11_sign 6 = .ok (.if_icmp .gt 14, 3) := by decide +kernel
theorem dX11_sign_9 : decode cX11_sign 9 = .ok (.iload_n 3, 1) := by decide +kernel
theorem dX11_sign_10 : decode cX11_sign 10 = .ok (.iconst 1, 1) := by decide +kernel
theorem dX11_sign_11 : decode cX11_sign 11 = .ok (.if_icmp .lt 9, 3) := by decide +kernel
theorem dX11_sign_14 : decode cX11_sign 14 = .ok (.iload_n 3, 1) := by decide +kernel
theorem dX11_sign_15 : decode cX11_sign 15 = .ok (.bipush 9, 2) := by decide +kernel
theorem dX11_sign_17 : decode cX11_sign 17 = .ok (.if_icmp .le 6, 3) := by decide +kernel
theorem dX11_sign_20 : decode cX11_sign 20 = .ok (.bipush (-2), 2) := by decide +kernel
theorem dX11_sign_22 : decode cX11_sign 22 = .ok (.ireturn, 1) := by decide +kernel
theorem dX11_sign_23 : decode cX11_sign 23 = .ok (.aload_n 0, 1) := by decide +kernel
theorem dX11_sign_24 : decode cX11_sign 24 = .ok (.getfield 19, 3) := by decide +kernel
theorem dX11_sign_27 : decode cX11_sign 27 = .ok (.getfield 124, 3) := by decide +kernel
theorem dX11_sign_30 : decode cX11_sign 30 = .ok (.ifCond .le 6, 3) := by decide +kernel
theorem dX11_sign_33 : decode cX11_sign 33 = .ok (.bipush (-3), 2) := by decide +kernel
theorem dX11_sign_35 : decode cX11_sign 35 = .ok (.ireturn, 1) := by decide +kernel
theorem dX11_sign_36 : decode cX11_sign 36 = .ok (.aload_n 0, 1) := by decide +kernel
theorem dX11_sign_37 : decode cX11_sign 37 = .ok (.getfield 12, 3) := by decide +kernel
theorem dX11_sign_40 : decode cX11_sign 40 = .ok (.iload_n 1, 1) := by decide +kernel
theorem dX11_sign_41 : decode cX11_sign 41 = .ok (.iload_n 2, 1) := by decide +kernel
theorem dX11_sign_42 : decode cX11_sign 42 = .ok (.iload_n 3, 1) := by decide +kernel
theorem dX11_sign_43 : decode cX11_sign 43 = .ok (.invokevirtual 127, 3) := by decide +kernel
theorem dX11_sign_46 : decode cX11_sign 46 = .ok (.ireturn, 1) := by decide +kernel
theorem dX11_draft_0 : decode cX11_draft 0 = .ok (.iload_n 1, 1) := by decide +kernel
theorem dX11_draft_1 : decode cX11_draft 1 = .ok (.bipush (-20), 2) := by decide +kernel
theorem dX11_draft_3 : decode cX11_draft 3 = .ok (.if_icmp .lt 10, 3) := by decide +kernel
theorem dX11_draft_6 : decode cX11_draft 6 = .ok (.iload_n 1, 1) := by decide +kernel
theorem dX11_draft_7 : decode cX11_draft 7 = .ok (.sipush 3000, 3) := by decide +kernel
theorem dX11_draft_10 : decode cX11_draft 10 = .ok (.if_icmp .le 6, 3) := by decide +kernel
theorem dX11_draft_13 : decode cX11_draft 13 = .ok (.bipush (-2), 2) := by decide +kernel
theorem dX11_draft_15 : decode cX11_draft 15 = .ok (.ireturn, 1) := by decide +kernel
theorem dX11_draft_16 : decode cX11_draft 16 = .ok (.aload_n 0, 1) := by decide +kernel
theorem dX11_draft_17 : decode cX11_draft 17 = .ok (.getfield 96, 3) := by decide +kernel
theorem dX11_draft_20 : decode cX11_draft 20 = .ok (.sipush 200, 3) := by decide +kernel
theorem dX11_draft_23 : decode cX11_draft 23 = .ok (.if_icmp .lt 6, 3) := by decide +kernel
theorem dX11_draft_26 : decode cX11_draft 26 = .ok (.bipush (-4), 2) := by decide +kernel
theorem dX11_draft_28 : decode cX11_draft 28 = .ok (.ireturn, 1) := by decide +kernel
theorem dX11_draft_29 : decode cX11_draft 29 = .ok (.aload_n 0, 1) := by decide +kernel
theorem dX11_draft_30 : decode cX11_draft 30 = .ok (.getfield 23, 3) := by decide +kernel
theorem dX11_draft_33 : decode cX11_draft 33 = .ok (.aload_n 0, 1) := by decide +kernel
theorem dX11_draft_34 : decode cX11_draft 34 = .ok (.getfield 96, 3) := by decide +kernel
theorem dX11_draft_37 : decode cX11_draft 37 = .ok (.iload_n 1, 1) := by decide +kernel
theorem dX11_draft_38 : decode cX11_draft 38 = .ok (.iastore, 1) := by decide +kernel
theorem dX11_draft_39 : decode cX11_draft 39 = .ok (.aload_n 0, 1) := by decide +kernel
theorem dX11_draft_40 : decode cX11_draft 40 = .ok (.dup, 1) := by decide +kernel
theorem dX11_draft_41 : decode cX11_draft 41 = .ok (.getfield 96, 3) := by decide +kernel
theorem dX11_draft_44 : decode cX11_draft 44 = .ok (.iconst 1, 1) := by decide +kernel
theorem dX11_draft_45 : decode cX11_draft 45 = .ok (.iadd, 1) := by decide +kernel
theorem dX11_draft_46 : decode cX11_draft 46 = .ok (.putfield 96, 3) := by decide +kernel
theorem dX11_draft_49 : decode cX11_draft 49 = .ok (.aload_n 0, 1) := by decide +kernel
theorem dX11_draft_50 : decode cX11_draft 50 = .ok (.getfield 96, 3) := by decide +kernel
theorem dX11_draft_53 : decode cX11_draft 53 = .ok (.ireturn, 1) := by decide +kernel
theorem dX11_given_0 : decode cX11_given 0 = .ok (.aload_n 0, 1) := by decide +kernel
theorem dX11_given_1 : decode cX11_given 1 = .ok (.getfield 106, 3) := by decide +kernel
theorem dX11_given_4 : decode cX11_given 4 = .ok (.ifCond .eq 6, 3) := by decide +kernel
theorem dX11_given_7 : decode cX11_given 7 = .ok (.bipush (-3), 2) := by decide +kernel
theorem dX11_given_9 : decode cX11_given 9 = .ok (.ireturn, 1) := by decide +kernel
theorem dX11_given_10 : decode cX11_given 10 = .ok (.aload_n 0, 1) := by decide +kernel
theorem dX11_given_11 : decode cX11_given 11 = .ok (.getfield 19, 3) := by decide +kernel
theorem dX11_given_14 : decode cX11_given 14 = .ok (.getfield 124, 3) := by decide +kernel
theorem dX11_given_17 : decode cX11_given 17 = .ok (.sipush 150, 3) := by decide +kernel
theorem dX11_given_20 : decode cX11_given 20 = .ok (.if_icmp .lt 6, 3) := by decide +kernel
theorem dX11_given_23 : decode cX11_given 23 = .ok (.bipush (-4), 2) := by decide +kernel
theorem dX11_given_25 : decode cX11_given 25 = .ok (.ireturn, 1) := by decide +kernel
theorem dX11_given_26 : decode cX11_given 26 = .ok (.aload_n 0, 1) := by decide +kernel
theorem dX11_given_27 : decode cX11_given 27 = .ok (.invokevirtual 131, 3) := by decide +kernel
theorem dX11_given_30 : decode cX11_given 30 = .ok (.istore_n 1, 1) := by decide +kernel
theorem dX11_given_31 : decode cX11_given 31 = .ok (.aload_n 0, 1) := by decide +kernel
theorem dX11_given_32 : decode cX11_given 32 = .ok (.iconst 0, 1) := by decide +kernel
theorem dX11_given_33 : decode cX11_given 33 = .ok (.putfield 96, 3) := by decide +kernel
theorem dX11_given_36 : decode cX11_given 36 = .ok (.iload_n 1, 1) := by decide +kernel
theorem dX11_given_37 : decode cX11_given 37 = .ok (.iconst (-1), 1) := by decide +kernel
theorem dX11_given_38 : decode cX11_given 38 = .ok (.if_icmp .eq 8, 3) := by decide +kernel
theorem dX11_given_41 : decode cX11_given 41 = .ok (.bipush (-100), 2) := by decide +kernel
theorem dX11_given_43 : decode cX11_given 43 = .ok (.iload_n 1, 1) := by decide +kernel
theorem dX11_given_44 : decode cX11_given 44 = .ok (.isub, 1) := by decide +kernel
theorem dX11_given_45 : decode cX11_given 45 = .ok (.ireturn, 1) := by decide +kernel
theorem dX11_given_46 : decode cX11_given 46 = .ok (.aload_n 0, 1) := by decide +kernel
theorem dX11_given_47 : decode cX11_given 47 = .ok (.getfield 34, 3) := by decide +kernel
theorem dX11_given_50 : decode cX11_given 50 = .ok (.aload_n 0, 1) := by decide +kernel
theorem dX11_given_51 : decode cX11_given 51 = .ok (.getfield 30, 3) := by decide +kernel
theorem dX11_given_54 : decode cX11_given 54 = .ok (.invokevirtual 135, 3) := by decide +kernel
theorem dX11_given_57 : decode cX11_given 57 = .ok (.aload_n 0, 1) := by decide +kernel
theorem dX11_given_58 : decode cX11_given 58 = .ok (.iconst 2, 1) := by decide +kernel
theorem dX11_given_59 : decode cX11_given 59 = .ok (.aload_n 0, 1) := by decide +kernel
theorem dX11_given_60 : decode cX11_given 60 = .ok (.getfield 92, 3) := by decide +kernel
theorem dX11_given_63 : decode cX11_given 63 = .ok (.invokevirtual 139, 3) := by decide +kernel
theorem dX11_given_66 : decode cX11_given 66 = .ok (.invokevirtual 143, 3) := by decide +kernel
theorem dX11_given_69 : decode cX11_given 69 = .ok (.ireturn, 1) := by decide +kernel
theorem dX11_wipe_0 : decode cX11_wipe 0 = .ok (.aload_n 0, 1) := by decide +kernel
theorem dX11_wipe_1 : decode cX11_wipe 1 = .ok (.getfield 96, 3) := by decide +kernel
theorem dX11_wipe_4 : decode cX11_wipe 4 = .ok (.istore_n 1, 1) := by decide +kernel
theorem dX11_wipe_5 : decode cX11_wipe 5 = .ok (.aload_n 0, 1) := by decide +kernel
theorem dX11_wipe_6 : decode cX11_wipe 6 = .ok (.iconst 0, 1) := by decide +kernel
theorem dX11_wipe_7 : decode cX11_wipe 7 = .ok (.putfield 96, 3) := by decide +kernel
theorem dX11_wipe_10 : decode cX11_wipe 10 = .ok (.iload_n 1, 1) := by decide +kernel
theorem dX11_wipe_11 : decode cX11_wipe 11 = .ok (.ireturn, 1) := by decide +kernel
theorem dX11_turns_0 : decode cX11_turns 0 = .ok (.iload_n 1, 1) := by decide +kernel
theorem dX11_turns_1 : decode cX11_turns 1 = .ok (.ifCond .lt 9, 3) := by decide +kernel
theorem dX11_turns_4 : decode cX11_turns 4 = .ok (.iload_n 1, 1) := by decide +kernel
theorem dX11_turns_5 : decode cX11_turns 5 = .ok (.bipush 20, 2) := by decide +kernel
theorem dX11_turns_7 : decode cX11_turns 7 = .ok (.if_icmp .le 6, 3) := by decide +kernel
theorem dX11_turns_10 : decode cX11_turns 10 = .ok (.bipush (-2), 2) := by decide +kernel
theorem dX11_turns_12 : decode cX11_turns 12 = .ok (.ireturn, 1) := by decide +kernel
theorem dX11_turns_13 : decode cX11_turns 13 = .ok (.aload_n 0, 1) := by decide +kernel
theorem dX11_turns_14 : decode cX11_turns 14 = .ok (.getfield 100, 3) := by decide +kernel
theorem dX11_turns_17 : decode cX11_turns 17 = .ok (.istore_n 2, 1) := by decide +kernel
theorem dX11_turns_18 : decode cX11_turns 18 = .ok (.aload_n 0, 1) := by decide +kernel
theorem dX11_turns_19 : decode cX11_turns 19 = .ok (.iload_n 1, 1) := by decide +kernel
theorem dX11_turns_20 : decode cX11_turns 20 = .ok (.putfield 100, 3) := by decide +kernel
theorem dX11_turns_23 : decode cX11_turns 23 = .ok (.iload_n 2, 1) := by decide +kernel
theorem dX11_turns_24 : decode cX11_turns 24 = .ok (.ireturn, 1) := by decide +kernel
theorem dX11_fuel_0 : decode cX11_fuel 0 = .ok (.iload_n 1, 1) := by decide +kernel
theorem dX11_fuel_1 : decode cX11_fuel 1 = .ok (.ifCond .lt 10, 3) := by decide +kernel
theorem dX11_fuel_4 : decode cX11_fuel 4 = .ok (.iload_n 1, 1) := by decide +kernel
theorem dX11_fuel_5 : decode cX11_fuel 5 = .ok (.sipush 4000, 3) := by decide +kernel
theorem dX11_fuel_8 : decode cX11_fuel 8 = .ok (.if_icmp .le 6, 3) := by decide +kernel
theorem dX11_fuel_11 : decode cX11_fuel 11 = .ok (.bipush (-2), 2) := by decide +kernel
theorem dX11_fuel_13 : decode cX11_fuel 13 = .ok (.ireturn, 1) := by decide +kernel
theorem dX11_fuel_14 : decode cX11_fuel 14 = .ok (.aload_n 0, 1) := by decide +kernel
theorem dX11_fuel_15 : decode cX11_fuel 15 = .ok (.getfield 103, 3) := by decide +kernel
theorem dX11_fuel_18 : decode cX11_fuel 18 = .ok (.istore_n 2, 1) := by decide +kernel
theorem dX11_fuel_19 : decode cX11_fuel 19 = .ok (.aload_n 0, 1) := by decide +kernel
theorem dX11_fuel_20 : decode cX11_fuel 20 = .ok (.iload_n 1, 1) := by decide +kernel
theorem dX11_fuel_21 : decode cX11_fuel 21 = .ok (.putfield 103, 3) := by decide +kernel
theorem dX11_fuel_24 : decode cX11_fuel 24 = .ok (.iload_n 2, 1) := by decide +kernel
theorem dX11_fuel_25 : decode cX11_fuel 25 = .ok (.ireturn, 1) := by decide +kernel
theorem dX11_run_0 : decode cX11_run 0 = .ok (.iload_n 1, 1) := by decide +kernel
theorem dX11_run_1 : decode cX11_run 1 = .ok (.iconst 1, 1) := by decide +kernel
theorem dX11_run_2 : decode cX11_run 2 = .ok (.if_icmp .lt 10, 3) := by decide +kernel
theorem dX11_run_5 : decode cX11_run 5 = .ok (.iload_n 1, 1) := by decide +kernel
theorem dX11_run_6 : decode cX11_run 6 = .ok (.sipush 200, 3) := by decide +kernel
theorem dX11_run_9 : decode cX11_run 9 = .ok (.if_icmp .le 6, 3) := by decide +kernel
theorem dX11_run_12 : decode cX11_run 12 = .ok (.bipush (-2), 2) := by decide +kernel
theorem dX11_run_14 : decode cX11_run 14 = .ok (.ireturn, 1) := by decide +kernel
theorem dX11_run_15 : decode cX11_run 15 = .ok (.iconst 0, 1) := by decide +kernel
theorem dX11_run_16 : decode cX11_run 16 = .ok (.istore_n 2, 1) := by decide +kernel
theorem dX11_run_17 : decode cX11_run 17 = .ok (.iload_n 2, 1) := by decide +kernel
theorem dX11_run_18 : decode cX11_run 18 = .ok (.iload_n 1, 1) := by decide +kernel
theorem dX11_run_19 : decode cX11_run 19 = .ok (.if_icmp .ge 121, 3) := by decide +kernel
theorem dX11_run_22 : decode cX11_run 22 = .ok (.aload_n 0, 1) := by decide +kernel
theorem dX11_run_23 : decode cX11_run 23 = .ok (.getfield 106, 3) := by decide +kernel
theorem dX11_run_26 : decode cX11_run 26 = .ok (.ifCond .ne 114, 3) := by decide +kernel
theorem dX11_run_29 : decode cX11_run 29 = .ok (.aload_n 0, 1) := by decide +kernel
theorem dX11_run_30 : decode cX11_run 30 = .ok (.getfield 92, 3) := by decide +kernel
theorem dX11_run_33 : decode cX11_run 33 = .ok (.aload_n 0, 1) := by decide +kernel
theorem dX11_run_34 : decode cX11_run 34 = .ok (.invokevirtual 147, 3) := by decide +kernel
theorem dX11_run_37 : decode cX11_run 37 = .ok (.invokevirtual 151, 3) := by decide +kernel
theorem dX11_run_40 : decode cX11_run 40 = .ok (.iconst 0, 1) := by decide +kernel
theorem dX11_run_41 : decode cX11_run 41 = .ok (.istore_n 3, 1) := by decide +kernel
theorem dX11_run_42 : decode cX11_run 42 = .ok (.iload_n 3, 1) := by decide +kernel
theorem dX11_run_43 : decode cX11_run 43 = .ok (.ldc 155, 2) := by decide +kernel
theorem dX11_run_45 : decode cX11_run 45 = .ok (.if_icmp .ge 89, 3) := by decide +kernel
theorem dX11_run_48 : decode cX11_run 48 = .ok (.aload_n 0, 1) := by decide +kernel
theorem dX11_run_49 : decode cX11_run 49 = .ok (.getfield 106, 3) := by decide +kernel
theorem dX11_run_52 : decode cX11_run 52 = .ok (.ifCond .ne 82, 3) := by decide +kernel
theorem dX11_run_55 : decode cX11_run 55 = .ok (.aload_n 0, 1) := by decide +kernel
theorem dX11_run_56 : decode cX11_run 56 = .ok (.getfield 92, 3) := by decide +kernel
theorem dX11_run_59 : decode cX11_run 59 = .ok (.invokevirtual 156, 3) := by decide +kernel
theorem dX11_run_62 : decode cX11_run 62 = .ok (.ifCond .eq 72, 3) := by decide +kernel
theorem dX11_run_65 : decode cX11_run 65 = .ok (.aload_n 0, 1) := by decide +kernel
theorem dX11_run_66 : decode cX11_run 66 = .ok (.getfield 83, 3) := by decide +kernel
theorem dX11_run_69 : decode cX11_run 69 = .ok (.aload_n 0, 1) := by decide +kernel
theorem dX11_run_70 : decode cX11_run 70 = .ok (.getfield 92, 3) := by decide +kernel
theorem dX11_run_73 : decode cX11_run 73 = .ok (.getfield 160, 3) := by decide +kernel
theorem dX11_run_76 : decode cX11_run 76 = .ok (.aload_n 0, 1) := by decide +kernel
theorem dX11_run_77 : decode cX11_run 77 = .ok (.getfield 19, 3) := by decide +kernel
theorem dX11_run_80 : decode cX11_run 80 = .ok (.getfield 124, 3) := by decide +kernel
theorem dX11_run_83 : decode cX11_run 83 = .ok (.aload_n 0, 1) := by decide +kernel
theorem dX11_run_84 : decode cX11_run 84 = .ok (.getfield 30, 3) := by decide +kernel
theorem dX11_run_87 : decode cX11_run 87 = .ok (.invokevirtual 163, 3) := by decide +kernel
theorem dX11_run_90 : decode cX11_run 90 = .ok (.istore 4, 2) := by decide +kernel
theorem dX11_run_92 : decode cX11_run 92 = .ok (.iload 4, 2) := by decide +kernel
theorem dX11_run_94 : decode cX11_run 94 = .ok (.ifCond .eq 34, 3) := by decide +kernel
theorem dX11_run_97 : decode cX11_run 97 = .ok (.aload_n 0, 1) := by decide +kernel
theorem dX11_run_98 : decode cX11_run 98 = .ok (.invokevirtual 167, 3) := by decide +kernel
theorem dX11_run_101 : decode cX11_run 101 = .ok (.ifCond .eq 27, 3) := by decide +kernel
theorem dX11_run_104 : decode cX11_run 104 = .ok (.aload_n 0, 1) := by decide +kernel
theorem dX11_run_105 : decode cX11_run 105 = .ok (.dup, 1) := by decide +kernel
theorem dX11_run_106 : decode cX11_run 106 = .ok (.getfield 118, 3) := by decide +kernel
theorem dX11_run_109 : decode cX11_run 109 = .ok (.iconst 1, 1) := by decide +kernel
theorem dX11_run_110 : decode cX11_run 110 = .ok (.iadd, 1) := by decide +kernel
theorem dX11_run_111 : decode cX11_run 111 = .ok (.putfield 118, 3) := by decide +kernel
theorem dX11_run_114 : decode cX11_run 114 = .ok (.aload_n 0, 1) := by decide +kernel
theorem dX11_run_115 : decode cX11_run 115 = .ok (.iload 4, 2) := by decide +kernel
theorem dX11_run_117 : decode cX11_run 117 = .ok (.aload_n 0, 1) := by decide +kernel
theorem dX11_run_118 : decode cX11_run 118 = .ok (.getfield 92, 3) := by decide +kernel
theorem dX11_run_121 : decode cX11_run 121 = .ok (.getfield 160, 3) := by decide +kernel
theorem dX11_run_124 : decode cX11_run 124 = .ok (.invokevirtual 143, 3) := by decide +kernel
theorem dX11_run_127 : decode cX11_run 127 = .ok (.pop, 1) := by decide +kernel
theorem dX11_run_128 : decode cX11_run 128 = .ok (.iinc 3 1, 3) := by decide +kernel
theorem dX11_run_131 : decode cX11_run 131 = .ok (.goto (-89), 3) := by decide +kernel
theorem dX11_run_134 : decode cX11_run 134 = .ok (.iinc 2 1, 3) := by decide +kernel
theorem dX11_run_137 : decode cX11_run 137 = .ok (.goto (-120), 3) := by decide +kernel
theorem dX11_run_140 : decode cX11_run 140 = .ok (.aload_n 0, 1) := by decide +kernel
theorem dX11_run_141 : decode cX11_run 141 = .ok (.getfield 106, 3) := by decide +kernel
theorem dX11_run_144 : decode cX11_run 144 = .ok (.ireturn, 1) := by decide +kernel
theorem dX11_clear_0 : decode cX11_clear 0 = .ok (.aload_n 0, 1) := by decide +kernel
theorem dX11_clear_1 : decode cX11_clear 1 = .ok (.getfield 19, 3) := by decide +kernel
theorem dX11_clear_4 : decode cX11_clear 4 = .ok (.getfield 124, 3) := by decide +kernel
theorem dX11_clear_7 : decode cX11_clear 7 = .ok (.istore_n 1, 1) := by decide +kernel
theorem dX11_clear_8 : decode cX11_clear 8 = .ok (.aload_n 0, 1) := by decide +kernel
theorem dX11_clear_9 : decode cX11_clear 9 = .ok (.getfield 19, 3) := by decide +kernel
theorem dX11_clear_12 : decode cX11_clear 12 = .ok (.iconst 0, 1) := by decide +kernel
theorem dX11_clear_13 : decode cX11_clear 13 = .ok (.putfield 124, 3) := by decide +kernel
theorem dX11_clear_16 : decode cX11_clear 16 = .ok (.aload_n 0, 1) := by decide +kernel
theorem dX11_clear_17 : decode cX11_clear 17 = .ok (.iconst 0, 1) := by decide +kernel
theorem dX11_clear_18 : decode cX11_clear 18 = .ok (.putfield 106, 3) := by decide +kernel
theorem dX11_clear_21 : decode cX11_clear 21 = .ok (.aload_n 0, 1) := by decide +kernel
theorem dX11_clear_22 : decode cX11_clear 22 = .ok (.iconst 0, 1) := by decide +kernel
theorem dX11_clear_23 : decode cX11_clear 23 = .ok (.putfield 109, 3) := by decide +kernel
theorem dX11_clear_26 : decode cX11_clear 26 = .ok (.iload_n 1, 1) := by decide +kernel
theorem dX11_clear_27 : decode cX11_clear 27 = .ok (.ireturn, 1) := by decide +kernel
theorem dX11_claim_0 : decode cX11_claim 0 = .ok (.aload_n 0, 1) := by decide +kernel
theorem dX11_claim_1 : decode cX11_claim 1 = .ok (.getfield 19, 3) := by decide +kernel
theorem dX11_claim_4 : decode cX11_claim 4 = .ok (.iload_n 1, 1) := by decide +kernel
theorem dX11_claim_5 : decode cX11_claim 5 = .ok (.invokevirtual 170, 3) := by decide +kernel
theorem dX11_claim_8 : decode cX11_claim 8 = .ok (.astore_n 3, 1) := by decide +kernel
theorem dX11_claim_9 : decode cX11_claim 9 = .ok (.aload_n 3, 1) := by decide +kernel
theorem dX11_claim_10 : decode cX11_claim 10 = .ok (.ifnonnull 6, 3) := by decide +kernel
theorem dX11_claim_13 : decode cX11_claim 13 = .ok (.bipush (-2), 2) := by decide +kernel
theorem dX11_claim_15 : decode cX11_claim 15 = .ok (.ireturn, 1) := by decide +kernel
theorem dX11_claim_16 : decode cX11_claim 16 = .ok (.iload_n 2, 1) := by decide +kernel
theorem dX11_claim_17 : decode cX11_claim 17 = .ok (.tableswitch 72 0 5 #[39, 47, 52, 57, 62, 67], 39) := by decide +kernel
theorem dX11_claim_56 : decode cX11_claim 56 = .ok (.aload_n 3, 1) := by decide +kernel
theorem dX11_claim_57 : decode cX11_claim 57 = .ok (.getfield 174, 3) := by decide +kernel
theorem dX11_claim_60 : decode cX11_claim 60 = .ok (.getfield 179, 3) := by decide +kernel
theorem dX11_claim_63 : decode cX11_claim 63 = .ok (.ireturn, 1) := by decide +kernel
theorem dX11_claim_64 : decode cX11_claim 64 = .ok (.aload_n 3, 1) := by decide +kernel
theorem dX11_claim_65 : decode cX11_claim 65 = .ok (.getfield 182, 3) := by decide +kernel
theorem dX11_claim_68 : decode cX11_claim 68 = .ok (.ireturn, 1) := by decide +kernel
theorem dX11_claim_69 : decode cX11_claim 69 = .ok (.aload_n 3, 1) := by decide +kernel
theorem dX11_claim_70 : decode cX11_claim 70 = .ok (.getfield 185, 3) := by decide +kernel
theorem dX11_claim_73 : decode cX11_claim 73 = .ok (.ireturn, 1) := by decide +kernel
theorem dX11_claim_74 : decode cX11_claim 74 = .ok (.aload_n 3, 1) := by decide +kernel
theorem dX11_claim_75 : decode cX11_claim 75 = .ok (.getfield 188, 3) := by decide +kernel
theorem dX11_claim_78 : decode cX11_claim 78 = .ok (.ireturn, 1) := by decide +kernel
theorem dX11_claim_79 : decode cX11_claim 79 = .ok (.aload_n 3, 1) := by decide +kernel
theorem dX11_claim_80 : decode cX11_claim 80 = .ok (.getfield 191, 3) := by decide +kernel
theorem dX11_claim_83 : decode cX11_claim 83 = .ok (.ireturn, 1) := by decide +kernel
theorem dX11_claim_84 : decode cX11_claim 84 = .ok (.aload_n 3, 1) := by decide +kernel
theorem dX11_claim_85 : decode cX11_claim 85 = .ok (.getfield 194, 3) := by decide +kernel
theorem dX11_claim_88 : decode cX11_claim 88 = .ok (.ireturn, 1) := by decide +kernel
theorem dX11_claim_89 : decode cX11_claim 89 = .ok (.bipush (-2), 2) := by decide +kernel
theorem dX11_claim_91 : decode cX11_claim 91 = .ok (.ireturn, 1) := by decide +kernel
theorem dX11_literal_0 : decode cX11_literal 0 = .ok (.aload_n 0, 1) := by decide +kernel
theorem dX11_literal_1 : decode cX11_literal 1 = .ok (.getfield 19, 3) := by decide +kernel
theorem dX11_literal_4 : decode cX11_literal 4 = .ok (.iload_n 1, 1) := by decide +kernel
theorem dX11_literal_5 : decode cX11_literal 5 = .ok (.invokevirtual 170, 3) := by decide +kernel
theorem dX11_literal_8 : decode cX11_literal 8 = .ok (.astore 4, 2) := by decide +kernel
theorem dX11_literal_10 : decode cX11_literal 10 = .ok (.aload 4, 2) := by decide +kernel
theorem dX11_literal_12 : decode cX11_literal 12 = .ok (.ifnull 19, 3) := by decide +kernel
theorem dX11_literal_15 : decode cX11_literal 15 = .ok (.aload 4, 2) := by decide +kernel
theorem dX11_literal_17 : decode cX11_literal 17 = .ok (.getfield 174, 3) := by decide +kernel
theorem dX11_literal_20 : decode cX11_literal 20 = .ok (.iload_n 2, 1) := by decide +kernel
theorem dX11_literal_21 : decode cX11_literal 21 = .ok (.invokevirtual 197, 3) := by decide +kernel
theorem dX11_literal_24 : decode cX11_literal 24 = .ok (.ifCond .eq 7, 3) := by decide +kernel
theorem dX11_literal_27 : decode cX11_literal 27 = .ok (.iload_n 3, 1) := by decide +kernel
theorem dX11_literal_28 : decode cX11_literal 28 = .ok (.ifCond .ge 6, 3) := by decide +kernel
theorem dX11_literal_31 : decode cX11_literal 31 = .ok (.ldc 201, 2) := by decide +kernel
theorem dX11_literal_33 : decode cX11_literal 33 = .ok (.ireturn, 1) := by decide +kernel
theorem dX11_literal_34 : decode cX11_literal 34 = .ok (.iload_n 3, 1) := by decide +kernel
theorem dX11_literal_35 : decode cX11_literal 35 = .ok (.ifCond .ne 22, 3) := by decide +kernel
theorem dX11_literal_38 : decode cX11_literal 38 = .ok (.aload 4, 2) := by decide +kernel
theorem dX11_literal_40 : decode cX11_literal 40 = .ok (.getfield 174, 3) := by decide +kernel
theorem dX11_literal_43 : decode cX11_literal 43 = .ok (.getfield 202, 3) := by decide +kernel
theorem dX11_literal_46 : decode cX11_literal 46 = .ok (.iload_n 2, 1) := by decide +kernel
theorem dX11_literal_47 : decode cX11_literal 47 = .ok (.baload, 1) := by decide +kernel
theorem dX11_literal_48 : decode cX11_literal 48 = .ok (.ifCond .eq 7, 3) := by decide +kernel
theorem dX11_literal_51 : decode cX11_literal 51 = .ok (.iconst 1, 1) := by decide +kernel
theorem dX11_literal_52 : decode cX11_literal 52 = .ok (.goto 4, 3) := by decide +kernel
theorem dX11_literal_55 : decode cX11_literal 55 = .ok (.iconst 0, 1) := by decide +kernel
theorem dX11_literal_56 : decode cX11_literal 56 = .ok (.ireturn, 1) := by decide +kernel
theorem dX11_literal_57 : decode cX11_literal 57 = .ok (.aload 4, 2) := by decide +kernel
theorem dX11_literal_59 : decode cX11_literal 59 = .ok (.getfield 174, 3) := by decide +kernel
theorem dX11_literal_62 : decode cX11_literal 62 = .ok (.iload_n 2, 1) := by decide +kernel
theorem dX11_literal_63 : decode cX11_literal 63 = .ok (.invokevirtual 206, 3) := by decide +kernel
theorem dX11_literal_66 : decode cX11_literal 66 = .ok (.istore 5, 2) := by decide +kernel
theorem dX11_literal_68 : decode cX11_literal 68 = .ok (.iload_n 3, 1) := by decide +kernel
theorem dX11_literal_69 : decode cX11_literal 69 = .ok (.iconst 1, 1) := by decide +kernel
theorem dX11_literal_70 : decode cX11_literal 70 = .ok (.if_icmp .ne 6, 3) := by decide +kernel
theorem dX11_literal_73 : decode cX11_literal 73 = .ok (.iload 5, 2) := by decide +kernel
theorem dX11_literal_75 : decode cX11_literal 75 = .ok (.ireturn, 1) := by decide +kernel
theorem dX11_literal_76 : decode cX11_literal 76 = .ok (.iload_n 3, 1) := by decide +kernel
theorem dX11_literal_77 : decode cX11_literal 77 = .ok (.iconst 2, 1) := by decide +kernel
theorem dX11_literal_78 : decode cX11_literal 78 = .ok (.isub, 1) := by decide +kernel
theorem dX11_literal_79 : decode cX11_literal 79 = .ok (.iload 5, 2) := by decide +kernel
theorem dX11_literal_81 : decode cX11_literal 81 = .ok (.if_icmp .ge 29, 3) := by decide +kernel
theorem dX11_literal_84 : decode cX11_literal 84 = .ok (.aload 4, 2) := by decide +kernel
theorem dX11_literal_86 : decode cX11_literal 86 = .ok (.getfield 174, 3) := by decide +kernel
theorem dX11_literal_89 : decode cX11_literal 89 = .ok (.getfield 210, 3) := by decide +kernel
theorem dX11_literal_92 : decode cX11_literal 92 = .ok (.aload 4, 2) := by decide +kernel
theorem dX11_literal_94 : decode cX11_literal 94 = .ok (.getfield 174, 3) := by decide +kernel
theorem dX11_literal_97 : decode cX11_literal 97 = .ok (.getfield 213, 3) := by decide +kernel
theorem dX11_literal_100 : decode cX11_literal 100 = .ok (.iload_n 2, 1) := by decide +kernel
theorem dX11_literal_101 : decode cX11_literal 101 = .ok (.iaload, 1) := by decide +kernel
theorem dX11_literal_102 : decode cX11_literal 102 = .ok (.iload_n 3, 1) := by decide +kernel
theorem dX11_literal_103 : decode cX11_literal 103 = .ok (.iadd, 1) := by decide +kernel
theorem dX11_literal_104 : decode cX11_literal 104 = .ok (.iconst 2, 1) := by decide +kernel
theorem dX11_literal_105 : decode cX11_literal 105 = .ok (.isub, 1) := by decide +kernel
theorem dX11_literal_106 : decode cX11_literal 106 = .ok (.iaload, 1) := by decide +kernel
theorem dX11_literal_107 : decode cX11_literal 107 = .ok (.goto 5, 3) := by decide +kernel
theorem dX11_literal_110 : decode cX11_literal 110 = .ok (.ldc 201, 2) := by decide +kernel
theorem dX11_literal_112 : decode cX11_literal 112 = .ok (.ireturn, 1) := by decide +kernel
theorem dX11_step_0 : decode cX11_step 0 = .ok (.aload_n 0, 1) := by decide +kernel
theorem dX11_step_1 : decode cX11_step 1 = .ok (.getfield 19, 3) := by decide +kernel
theorem dX11_step_4 : decode cX11_step 4 = .ok (.iload_n 1, 1) := by decide +kernel
theorem dX11_step_5 : decode cX11_step 5 = .ok (.invokevirtual 170, 3) := by decide +kernel
theorem dX11_step_8 : decode cX11_step 8 = .ok (.astore_n 3, 1) := by decide +kernel
theorem dX11_step_9 : decode cX11_step 9 = .ok (.aload_n 3, 1) := by decide +kernel
theorem dX11_step_10 : decode cX11_step 10 = .ok (.ifnull 7, 3) := by decide +kernel
theorem dX11_step_13 : decode cX11_step 13 = .ok (.iload_n 2, 1) := by decide +kernel
theorem dX11_step_14 : decode cX11_step 14 = .ok (.ifCond .ge 6, 3) := by decide +kernel
theorem dX11_step_17 : decode cX11_step 17 = .ok (.ldc 201, 2) := by decide +kernel
theorem dX11_step_19 : decode cX11_step 19 = .ok (.ireturn, 1) := by decide +kernel
theorem dX11_step_20 : decode cX11_step 20 = .ok (.iload_n 2, 1) := by decide +kernel
theorem dX11_step_21 : decode cX11_step 21 = .ok (.bipush 7, 2) := by decide +kernel
theorem dX11_step_23 : decode cX11_step 23 = .ok (.if_icmp .ge 10, 3) := by decide +kernel
theorem dX11_step_26 : decode cX11_step 26 = .ok (.aload_n 3, 1) := by decide +kernel
theorem dX11_step_27 : decode cX11_step 27 = .ok (.getfield 216, 3) := by decide +kernel
theorem dX11_step_30 : decode cX11_step 30 = .ok (.iload_n 2, 1) := by decide +kernel
theorem dX11_step_31 : decode cX11_step 31 = .ok (.iaload, 1) := by decide +kernel
theorem dX11_step_32 : decode cX11_step 32 = .ok (.ireturn, 1) := by decide +kernel
theorem dX11_step_33 : decode cX11_step 33 = .ok (.iload_n 2, 1) := by decide +kernel
theorem dX11_step_34 : decode cX11_step 34 = .ok (.bipush 10, 2) := by decide +kernel
theorem dX11_step_36 : decode cX11_step 36 = .ok (.if_icmp .ne 8, 3) := by decide +kernel
theorem dX11_step_39 : decode cX11_step 39 = .ok (.aload_n 3, 1) := by decide +kernel
theorem dX11_step_40 : decode cX11_step 40 = .ok (.getfield 217, 3) := by decide +kernel
theorem dX11_step_43 : decode cX11_step 43 = .ok (.ireturn, 1) := by decide +kernel
theorem dX11_step_44 : decode cX11_step 44 = .ok (.aload_n 3, 1) := by decide +kernel
theorem dX11_step_45 : decode cX11_step 45 = .ok (.iload_n 2, 1) := by decide +kernel
theorem dX11_step_46 : decode cX11_step 46 = .ok (.invokevirtual 220, 3) := by decide +kernel
theorem dX11_step_49 : decode cX11_step 49 = .ok (.ifCond .eq 15, 3) := by decide +kernel
theorem dX11_step_52 : decode cX11_step 52 = .ok (.aload_n 3, 1) := by decide +kernel
theorem dX11_step_53 : decode cX11_step 53 = .ok (.getfield 223, 3) := by decide +kernel
theorem dX11_step_56 : decode cX11_step 56 = .ok (.iload_n 2, 1) := by decide +kernel
theorem dX11_step_57 : decode cX11_step 57 = .ok (.bipush 11, 2) := by decide +kernel
theorem dX11_step_59 : decode cX11_step 59 = .ok (.isub, 1) := by decide +kernel
theorem dX11_step_60 : decode cX11_step 60 = .ok (.iaload, 1) := by decide +kernel
theorem dX11_step_61 : decode cX11_step 61 = .ok (.goto 5, 3) := by decide +kernel
theorem dX11_step_64 : decode cX11_step 64 = .ok (.ldc 201, 2) := by decide +kernel
theorem dX11_step_66 : decode cX11_step 66 = .ok (.ireturn, 1) := by decide +kernel
theorem dX11_forge_0 : decode cX11_forge 0 = .ok (.aload_n 0, 1) := by decide +kernel
theorem dX11_forge_1 : decode cX11_forge 1 = .ok (.getfield 19, 3) := by decide +kernel
theorem dX11_forge_4 : decode cX11_forge 4 = .ok (.iload_n 1, 1) := by decide +kernel
theorem dX11_forge_5 : decode cX11_forge 5 = .ok (.invokevirtual 170, 3) := by decide +kernel
theorem dX11_forge_8 : decode cX11_forge 8 = .ok (.astore 4, 2) := by decide +kernel
theorem dX11_forge_10 : decode cX11_forge 10 = .ok (.aload 4, 2) := by decide +kernel
theorem dX11_forge_12 : decode cX11_forge 12 = .ok (.ifnonnull 6, 3) := by decide +kernel
theorem dX11_forge_15 : decode cX11_forge 15 = .ok (.bipush (-2), 2) := by decide +kernel
theorem dX11_forge_17 : decode cX11_forge 17 = .ok (.ireturn, 1) := by decide +kernel
theorem dX11_forge_18 : decode cX11_forge 18 = .ok (.iload_n 2, 1) := by decide +kernel
theorem dX11_forge_19 : decode cX11_forge 19 = .ok (.iconst 1, 1) := by decide +kernel
theorem dX11_forge_20 : decode cX11_forge 20 = .ok (.if_icmp .lt 26, 3) := by decide +kernel
theorem dX11_forge_23 : decode cX11_forge 23 = .ok (.iload_n 2, 1) := by decide +kernel
theorem dX11_forge_24 : decode cX11_forge 24 = .ok (.getstatic 226, 3) := by decide +kernel
theorem dX11_forge_27 : decode cX11_forge 27 = .ok (.aload 4, 2) := by decide +kernel
theorem dX11_forge_29 : decode cX11_forge 29 = .ok (.invokevirtual 229, 3) := by decide +kernel
theorem dX11_forge_32 : decode cX11_forge 32 = .ok (.iaload, 1) := by decide +kernel
theorem dX11_forge_33 : decode cX11_forge 33 = .ok (.if_icmp .gt 13, 3) := by decide +kernel
theorem dX11_forge_36 : decode cX11_forge 36 = .ok (.aload 4, 2) := by decide +kernel
theorem dX11_forge_38 : decode cX11_forge 38 = .ok (.getfield 216, 3) := by decide +kernel
theorem dX11_forge_41 : decode cX11_forge 41 = .ok (.iload_n 2, 1) := by decide +kernel
theorem dX11_forge_42 : decode cX11_forge 42 = .ok (.iload_n 3, 1) := by decide +kernel
theorem dX11_forge_43 : decode cX11_forge 43 = .ok (.iastore, 1) := by decide +kernel
theorem dX11_forge_44 : decode cX11_forge 44 = .ok (.iconst 1, 1) := by decide +kernel
theorem dX11_forge_45 : decode cX11_forge 45 = .ok (.ireturn, 1) := by decide +kernel
theorem dX11_forge_46 : decode cX11_forge 46 = .ok (.aload 4, 2) := by decide +kernel
theorem dX11_forge_48 : decode cX11_forge 48 = .ok (.iload_n 2, 1) := by decide +kernel
theorem dX11_forge_49 : decode cX11_forge 49 = .ok (.invokevirtual 220, 3) := by decide +kernel
theorem dX11_forge_52 : decode cX11_forge 52 = .ok (.ifCond .eq 16, 3) := by decide +kernel
theorem dX11_forge_55 : decode cX11_forge 55 = .ok (.aload 4, 2) := by decide +kernel
theorem dX11_forge_57 : decode cX11_forge 57 = .ok (.getfield 223, 3) := by decide +kernel
theorem dX11_forge_60 : decode cX11_forge 60 = .ok (.iload_n 2, 1) := by decide +kernel
theorem dX11_forge_61 : decode cX11_forge 61 = .ok (.bipush 11, 2) := by decide +kernel
theorem dX11_forge_63 : decode cX11_forge 63 = .ok (.isub, 1) := by decide +kernel
theorem dX11_forge_64 : decode cX11_forge 64 = .ok (.iload_n 3, 1) := by decide +kernel
theorem dX11_forge_65 : decode cX11_forge 65 = .ok (.iastore, 1) := by decide +kernel
theorem dX11_forge_66 : decode cX11_forge 66 = .ok (.iconst 1, 1) := by decide +kernel
theorem dX11_forge_67 : decode cX11_forge 67 = .ok (.ireturn, 1) := by decide +kernel
theorem dX11_forge_68 : decode cX11_forge 68 = .ok (.bipush (-2), 2) := by decide +kernel
theorem dX11_forge_70 : decode cX11_forge 70 = .ok (.ireturn, 1) := by decide +kernel
theorem dX11_judge_0 : decode cX11_judge 0 = .ok (.aload_n 0, 1) := by decide +kernel
theorem dX11_judge_1 : decode cX11_judge 1 = .ok (.getfield 19, 3) := by decide +kernel
theorem dX11_judge_4 : decode cX11_judge 4 = .ok (.iload_n 1, 1) := by decide +kernel
theorem dX11_judge_5 : decode cX11_judge 5 = .ok (.invokevirtual 170, 3) := by decide +kernel
theorem dX11_judge_8 : decode cX11_judge 8 = .ok (.astore_n 2, 1) := by decide +kernel
theorem dX11_judge_9 : decode cX11_judge 9 = .ok (.aload_n 2, 1) := by decide +kernel
theorem dX11_judge_10 : decode cX11_judge 10 = .ok (.ifnonnull 6, 3) := by decide +kernel
theorem dX11_judge_13 : decode cX11_judge 13 = .ok (.bipush (-2), 2) := by decide +kernel
theorem dX11_judge_15 : decode cX11_judge 15 = .ok (.ireturn, 1) := by decide +kernel
theorem dX11_judge_16 : decode cX11_judge 16 = .ok (.aload_n 2, 1) := by decide +kernel
theorem dX11_judge_17 : decode cX11_judge 17 = .ok (.invokevirtual 229, 3) := by decide +kernel
theorem dX11_judge_20 : decode cX11_judge 20 = .ok (.ifCond .ne 24, 3) := by decide +kernel
theorem dX11_judge_23 : decode cX11_judge 23 = .ok (.aload_n 2, 1) := by decide +kernel
theorem dX11_judge_24 : decode cX11_judge 24 = .ok (.getfield 232, 3) := by decide +kernel
theorem dX11_judge_27 : decode cX11_judge 27 = .ok (.ifnull 17, 3) := by decide +kernel
theorem dX11_judge_30 : decode cX11_judge 30 = .ok (.aload_n 0, 1) := by decide +kernel
theorem dX11_judge_31 : decode cX11_judge 31 = .ok (.getfield 30, 3) := by decide +kernel
theorem dX11_judge_34 : decode cX11_judge 34 = .ok (.aload_n 2, 1) := by decide +kernel
theorem dX11_judge_35 : decode cX11_judge 35 = .ok (.getfield 232, 3) := by decide +kernel
theorem dX11_judge_38 : decode cX11_judge 38 = .ok (.invokevirtual 135, 3) := by decide +kernel
theorem dX11_judge_41 : decode cX11_judge 41 = .ok (.goto 25, 3) := by decide +kernel
theorem dX11_judge_44 : decode cX11_judge 44 = .ok (.aload_n 0, 1) := by decide +kernel
theorem dX11_judge_45 : decode cX11_judge 45 = .ok (.getfield 83, 3) := by decide +kernel
theorem dX11_judge_48 : decode cX11_judge 48 = .ok (.aload_n 2, 1) := by decide +kernel
theorem dX11_judge_49 : decode cX11_judge 49 = .ok (.getfield 216, 3) := by decide +kernel
theorem dX11_judge_52 : decode cX11_judge 52 = .ok (.iload_n 1, 1) := by decide +kernel
theorem dX11_judge_53 : decode cX11_judge 53 = .ok (.aload_n 0, 1) := by decide +kernel
theorem dX11_judge_54 : decode cX11_judge 54 = .ok (.getfield 30, 3) := by decide +kernel
theorem dX11_judge_57 : decode cX11_judge 57 = .ok (.invokevirtual 163, 3) := by decide +kernel
theorem dX11_judge_60 : decode cX11_judge 60 = .ok (.iconst 2, 1) := by decide +kernel
theorem dX11_judge_61 : decode cX11_judge 61 = .ok (.if_icmp .eq 5, 3) := by decide +kernel
theorem dX11_judge_64 : decode cX11_judge 64 = .ok (.iconst 0, 1) := by decide +kernel
theorem dX11_judge_65 : decode cX11_judge 65 = .ok (.ireturn, 1) := by decide +kernel
theorem dX11_judge_66 : decode cX11_judge 66 = .ok (.aload_n 0, 1) := by decide +kernel
theorem dX11_judge_67 : decode cX11_judge 67 = .ok (.getfield 58, 3) := by decide +kernel
theorem dX11_judge_70 : decode cX11_judge 70 = .ok (.aload_n 0, 1) := by decide +kernel
theorem dX11_judge_71 : decode cX11_judge 71 = .ok (.getfield 30, 3) := by decide +kernel
theorem dX11_judge_74 : decode cX11_judge 74 = .ok (.invokevirtual 233, 3) := by decide +kernel
theorem dX11_judge_77 : decode cX11_judge 77 = .ok (.ifCond .ne 5, 3) := by decide +kernel
theorem dX11_judge_80 : decode cX11_judge 80 = .ok (.iconst 0, 1) := by decide +kernel
theorem dX11_judge_81 : decode cX11_judge 81 = .ok (.ireturn, 1) := by decide +kernel
theorem dX11_judge_82 : decode cX11_judge 82 = .ok (.iconst 0, 1) := by decide +kernel
theorem dX11_judge_83 : decode cX11_judge 83 = .ok (.istore_n 3, 1) := by decide +kernel
theorem dX11_judge_84 : decode cX11_judge 84 = .ok (.iload_n 3, 1) := by decide +kernel
theorem dX11_judge_85 : decode cX11_judge 85 = .ok (.aload_n 2, 1) := by decide +kernel
theorem dX11_judge_86 : decode cX11_judge 86 = .ok (.getfield 217, 3) := by decide +kernel
theorem dX11_judge_89 : decode cX11_judge 89 = .ok (.if_icmp .ge 40, 3) := by decide +kernel
theorem dX11_judge_92 : decode cX11_judge 92 = .ok (.aload_n 0, 1) := by decide +kernel
theorem dX11_judge_93 : decode cX11_judge 93 = .ok (.getfield 76, 3) := by decide +kernel
theorem dX11_judge_96 : decode cX11_judge 96 = .ok (.aload_n 2, 1) := by decide +kernel
theorem dX11_judge_97 : decode cX11_judge 97 = .ok (.iload_n 3, 1) := by decide +kernel
theorem dX11_judge_98 : decode cX11_judge 98 = .ok (.iload_n 1, 1) := by decide +kernel
theorem dX11_judge_99 : decode cX11_judge 99 = .ok (.aload_n 0, 1) := by decide +kernel
theorem dX11_judge_100 : decode cX11_judge 100 = .ok (.getfield 30, 3) := by decide +kernel
theorem dX11_judge_103 : decode cX11_judge 103 = .ok (.invokevirtual 237, 3) := by decide +kernel
theorem dX11_judge_106 : decode cX11_judge 106 = .ok (.ifCond .ne 5, 3) := by decide +kernel
theorem dX11_judge_109 : decode cX11_judge 109 = .ok (.iconst 0, 1) := by decide +kernel
theorem dX11_judge_110 : decode cX11_judge 110 = .ok (.ireturn, 1) := by decide +kernel
theorem dX11_judge_111 : decode cX11_judge 111 = .ok (.aload_n 0, 1) := by decide +kernel
theorem dX11_judge_112 : decode cX11_judge 112 = .ok (.getfield 58, 3) := by decide +kernel
theorem dX11_judge_115 : decode cX11_judge 115 = .ok (.aload_n 0, 1) := by decide +kernel
theorem dX11_judge_116 : decode cX11_judge 116 = .ok (.getfield 30, 3) := by decide +kernel
theorem dX11_judge_119 : decode cX11_judge 119 = .ok (.invokevirtual 233, 3) := by decide +kernel
theorem dX11_judge_122 : decode cX11_judge 122 = .ok (.pop, 1) := by decide +kernel
theorem dX11_judge_123 : decode cX11_judge 123 = .ok (.iinc 3 1, 3) := by decide +kernel
theorem dX11_judge_126 : decode cX11_judge 126 = .ok (.goto (-42), 3) := by decide +kernel
theorem dX11_judge_129 : decode cX11_judge 129 = .ok (.aload_n 0, 1) := by decide +kernel
theorem dX11_judge_130 : decode cX11_judge 130 = .ok (.getfield 30, 3) := by decide +kernel
theorem dX11_judge_133 : decode cX11_judge 133 = .ok (.aload_n 2, 1) := by decide +kernel
theorem dX11_judge_134 : decode cX11_judge 134 = .ok (.getfield 174, 3) := by decide +kernel
theorem dX11_judge_137 : decode cX11_judge 137 = .ok (.invokevirtual 241, 3) := by decide +kernel
theorem dX11_judge_140 : decode cX11_judge 140 = .ok (.ifCond .eq 7, 3) := by decide +kernel
theorem dX11_judge_143 : decode cX11_judge 143 = .ok (.iconst 1, 1) := by decide +kernel
theorem dX11_judge_144 : decode cX11_judge 144 = .ok (.goto 4, 3) := by decide +kernel
theorem dX11_judge_147 : decode cX11_judge 147 = .ok (.iconst 0, 1) := by decide +kernel
theorem dX11_judge_148 : decode cX11_judge 148 = .ok (.ireturn, 1) := by decide +kernel
theorem dX11_proof_0 : decode cX11_proof 0 = .ok (.aload_n 0, 1) := by decide +kernel
theorem dX11_proof_1 : decode cX11_proof 1 = .ok (.getfield 106, 3) := by decide +kernel
theorem dX11_proof_4 : decode cX11_proof 4 = .ok (.iconst 1, 1) := by decide +kernel
theorem dX11_proof_5 : decode cX11_proof 5 = .ok (.if_icmp .ne 7, 3) := by decide +kernel
theorem dX11_proof_8 : decode cX11_proof 8 = .ok (.iload_n 1, 1) := by decide +kernel
theorem dX11_proof_9 : decode cX11_proof 9 = .ok (.ifCond .ge 5, 3) := by decide +kernel
theorem dX11_proof_12 : decode cX11_proof 12 = .ok (.iconst (-1), 1) := by decide +kernel
theorem dX11_proof_13 : decode cX11_proof 13 = .ok (.ireturn, 1) := by decide +kernel
theorem dX11_proof_14 : decode cX11_proof 14 = .ok (.aload_n 0, 1) := by decide +kernel
theorem dX11_proof_15 : decode cX11_proof 15 = .ok (.getfield 19, 3) := by decide +kernel
theorem dX11_proof_18 : decode cX11_proof 18 = .ok (.invokevirtual 244, 3) := by decide +kernel
theorem dX11_proof_21 : decode cX11_proof 21 = .ok (.iconst 0, 1) := by decide +kernel
theorem dX11_proof_22 : decode cX11_proof 22 = .ok (.istore_n 2, 1) := by decide +kernel
theorem dX11_proof_23 : decode cX11_proof 23 = .ok (.iconst 0, 1) := by decide +kernel
theorem dX11_proof_24 : decode cX11_proof 24 = .ok (.istore_n 3, 1) := by decide +kernel
theorem dX11_proof_25 : decode cX11_proof 25 = .ok (.iload_n 3, 1) := by decide +kernel
theorem dX11_proof_26 : decode cX11_proof 26 = .ok (.aload_n 0, 1) := by decide +kernel
theorem dX11_proof_27 : decode cX11_proof 27 = .ok (.getfield 19, 3) := by decide +kernel
theorem dX11_proof_30 : decode cX11_proof 30 = .ok (.getfield 124, 3) := by decide +kernel
theorem dX11_proof_33 : decode cX11_proof 33 = .ok (.if_icmp .ge 31, 3) := by decide +kernel
theorem dX11_proof_36 : decode cX11_proof 36 = .ok (.aload_n 0, 1) := by decide +kernel
theorem dX11_proof_37 : decode cX11_proof 37 = .ok (.getfield 19, 3) := by decide +kernel
theorem dX11_proof_40 : decode cX11_proof 40 = .ok (.getfield 247, 3) := by decide +kernel
theorem dX11_proof_43 : decode cX11_proof 43 = .ok (.iload_n 3, 1) := by decide +kernel
theorem dX11_proof_44 : decode cX11_proof 44 = .ok (.baload, 1) := by decide +kernel
theorem dX11_proof_45 : decode cX11_proof 45 = .ok (.ifCond .eq 13, 3) := by decide +kernel
theorem dX11_proof_48 : decode cX11_proof 48 = .ok (.iload_n 2, 1) := by decide +kernel
theorem dX11_proof_49 : decode cX11_proof 49 = .ok (.iload_n 1, 1) := by decide +kernel
theorem dX11_proof_50 : decode cX11_proof 50 = .ok (.if_icmp .ne 5, 3) := by decide +kernel
theorem dX11_proof_53 : decode cX11_proof 53 = .ok (.iload_n 3, 1) := by decide +kernel
theorem dX11_proof_54 : decode cX11_proof 54 = .ok (.ireturn, 1) := by decide +kernel
theorem dX11_proof_55 : decode cX11_proof 55 = .ok (.iinc 2 1, 3) := by decide +kernel
theorem dX11_proof_58 : decode cX11_proof 58 = .ok (.iinc 3 1, 3) := by decide +kernel
theorem dX11_proof_61 : decode cX11_proof 61 = .ok (.goto (-36), 3) := by decide +kernel
theorem dX11_proof_64 : decode cX11_proof 64 = .ok (.iconst (-1), 1) := by decide +kernel
theorem dX11_proof_65 : decode cX11_proof 65 = .ok (.ireturn, 1) := by decide +kernel
theorem dX11_order_0 : decode cX11_order 0 = .ok (.aload_n 0, 1) := by decide +kernel
theorem dX11_order_1 : decode cX11_order 1 = .ok (.getfield 19, 3) := by decide +kernel
theorem dX11_order_4 : decode cX11_order 4 = .ok (.iload_n 1, 1) := by decide +kernel
theorem dX11_order_5 : decode cX11_order 5 = .ok (.invokevirtual 170, 3) := by decide +kernel
theorem dX11_order_8 : decode cX11_order 8 = .ok (.astore 5, 2) := by decide +kernel
theorem dX11_order_10 : decode cX11_order 10 = .ok (.aload_n 0, 1) := by decide +kernel
theorem dX11_order_11 : decode cX11_order 11 = .ok (.getfield 19, 3) := by decide +kernel
theorem dX11_order_14 : decode cX11_order 14 = .ok (.iload_n 3, 1) := by decide +kernel
theorem dX11_order_15 : decode cX11_order 15 = .ok (.invokevirtual 170, 3) := by decide +kernel
theorem dX11_order_18 : decode cX11_order 18 = .ok (.astore 6, 2) := by decide +kernel
theorem dX11_order_20 : decode cX11_order 20 = .ok (.aload 5, 2) := by decide +kernel
theorem dX11_order_22 : decode cX11_order 22 = .ok (.ifnull 33, 3) := by decide +kernel
theorem dX11_order_25 : decode cX11_order 25 = .ok (.aload 6, 2) := by decide +kernel
theorem dX11_order_27 : decode cX11_order 27 = .ok (.ifnull 28, 3) := by decide +kernel
theorem dX11_order_30 : decode cX11_order 30 = .ok (.aload 5, 2) := by decide +kernel
theorem dX11_order_32 : decode cX11_order 32 = .ok (.getfield 174, 3) := by decide +kernel
theorem dX11_order_35 : decode cX11_order 35 = .ok (.iload_n 2, 1) := by decide +kernel
theorem dX11_order_36 : decode cX11_order 36 = .ok (.invokevirtual 197, 3) := by decide +kernel
theorem dX11_order_39 : decode cX11_order 39 = .ok (.ifCond .eq 16, 3) := by decide +kernel
theorem dX11_order_42 : decode cX11_order 42 = .ok (.aload 6, 2) := by decide +kernel
theorem dX11_order_44 : decode cX11_order 44 = .ok (.getfield 174, 3) := by decide +kernel
theorem dX11_order_47 : decode cX11_order 47 = .ok (.iload 4, 2) := by decide +kernel
theorem dX11_order_49 : decode cX11_order 49 = .ok (.invokevirtual 197, 3) := by decide +kernel
theorem dX11_order_52 : decode cX11_order 52 = .ok (.ifCond .ne 6, 3) := by decide +kernel
theorem dX11_order_55 : decode cX11_order 55 = .ok (.bipush (-2), 2) := by decide +kernel
theorem dX11_order_57 : decode cX11_order 57 = .ok (.ireturn, 1) := by decide +kernel
theorem dX11_order_58 : decode cX11_order 58 = .ok (.aload 5, 2) := by decide +kernel
theorem dX11_order_60 : decode cX11_order 60 = .ok (.getfield 174, 3) := by decide +kernel
theorem dX11_order_63 : decode cX11_order 63 = .ok (.getfield 213, 3) := by decide +kernel
theorem dX11_order_66 : decode cX11_order 66 = .ok (.iload_n 2, 1) := by decide +kernel
theorem dX11_order_67 : decode cX11_order 67 = .ok (.iaload, 1) := by decide +kernel
theorem dX11_order_68 : decode cX11_order 68 = .ok (.istore 7, 2) := by decide +kernel
theorem dX11_order_70 : decode cX11_order 70 = .ok (.aload 6, 2) := by decide +kernel
theorem dX11_order_72 : decode cX11_order 72 = .ok (.getfield 174, 3) := by decide +kernel
theorem dX11_order_75 : decode cX11_order 75 = .ok (.getfield 213, 3) := by decide +kernel
theorem dX11_order_78 : decode cX11_order 78 = .ok (.iload 4, 2) := by decide +kernel
theorem dX11_order_80 : decode cX11_order 80 = .ok (.iaload, 1) := by decide +kernel
theorem dX11_order_81 : decode cX11_order 81 = .ok (.istore 8, 2) := by decide +kernel
theorem dX11_order_83 : decode cX11_order 83 = .ok (.aload_n 0, 1) := by decide +kernel
theorem dX11_order_84 : decode cX11_order 84 = .ok (.getfield 12, 3) := by decide +kernel
theorem dX11_order_87 : decode cX11_order 87 = .ok (.aload 5, 2) := by decide +kernel
theorem dX11_order_89 : decode cX11_order 89 = .ok (.getfield 174, 3) := by decide +kernel
theorem dX11_order_92 : decode cX11_order 92 = .ok (.getfield 210, 3) := by decide +kernel
theorem dX11_order_95 : decode cX11_order 95 = .ok (.iload 7, 2) := by decide +kernel
theorem dX11_order_97 : decode cX11_order 97 = .ok (.iaload, 1) := by decide +kernel
theorem dX11_order_98 : decode cX11_order 98 = .ok (.invokevirtual 250, 3) := by decide +kernel
theorem dX11_order_101 : decode cX11_order 101 = .ok (.ifCond .eq 24, 3) := by decide +kernel
theorem dX11_order_104 : decode cX11_order 104 = .ok (.aload_n 0, 1) := by decide +kernel
theorem dX11_order_105 : decode cX11_order 105 = .ok (.getfield 12, 3) := by decide +kernel
theorem dX11_order_108 : decode cX11_order 108 = .ok (.aload 6, 2) := by decide +kernel
theorem dX11_order_110 : decode cX11_order 110 = .ok (.getfield 174, 3) := by decide +kernel
theorem dX11_order_113 : decode cX11_order 113 = .ok (.getfield 210, 3) := by decide +kernel
theorem dX11_order_116 : decode cX11_order 116 = .ok (.iload 8, 2) := by decide +kernel
theorem dX11_order_118 : decode cX11_order 118 = .ok (.iaload, 1) := by decide +kernel
theorem dX11_order_119 : decode cX11_order 119 = .ok (.invokevirtual 250, 3) := by decide +kernel
theorem dX11_order_122 : decode cX11_order 122 = .ok (.ifCond .ne 6, 3) := by decide +kernel
theorem dX11_order_125 : decode cX11_order 125 = .ok (.bipush (-2), 2) := by decide +kernel
theorem dX11_order_127 : decode cX11_order 127 = .ok (.ireturn, 1) := by decide +kernel
theorem dX11_order_128 : decode cX11_order 128 = .ok (.aload_n 0, 1) := by decide +kernel
theorem dX11_order_129 : decode cX11_order 129 = .ok (.getfield 42, 3) := by decide +kernel
theorem dX11_order_132 : decode cX11_order 132 = .ok (.aload 5, 2) := by decide +kernel
theorem dX11_order_134 : decode cX11_order 134 = .ok (.getfield 174, 3) := by decide +kernel
theorem dX11_order_137 : decode cX11_order 137 = .ok (.getfield 210, 3) := by decide +kernel
theorem dX11_order_140 : decode cX11_order 140 = .ok (.iload 7, 2) := by decide +kernel
theorem dX11_order_142 : decode cX11_order 142 = .ok (.iconst 1, 1) := by decide +kernel
theorem dX11_order_143 : decode cX11_order 143 = .ok (.iadd, 1) := by decide +kernel
theorem dX11_order_144 : decode cX11_order 144 = .ok (.aload 6, 2) := by decide +kernel
theorem dX11_order_146 : decode cX11_order 146 = .ok (.getfield 174, 3) := by decide +kernel
theorem dX11_order_149 : decode cX11_order 149 = .ok (.getfield 210, 3) := by decide +kernel
theorem dX11_order_152 : decode cX11_order 152 = .ok (.iload 8, 2) := by decide +kernel
theorem dX11_order_154 : decode cX11_order 154 = .ok (.iconst 1, 1) := by decide +kernel
theorem dX11_order_155 : decode cX11_order 155 = .ok (.iadd, 1) := by decide +kernel
theorem dX11_order_156 : decode cX11_order 156 = .ok (.invokevirtual 253, 3) := by decide +kernel
theorem dX11_order_159 : decode cX11_order 159 = .ok (.ireturn, 1) := by decide +kernel
theorem dX11_takesIn_0 : decode cX11_takesIn 0 = .ok (.aload_n 0, 1) := by decide +kernel
theorem dX11_takesIn_1 : decode cX11_takesIn 1 = .ok (.getfield 19, 3) := by decide +kernel
theorem dX11_takesIn_4 : decode cX11_takesIn 4 = .ok (.iload_n 1, 1) := by decide +kernel
theorem dX11_takesIn_5 : decode cX11_takesIn 5 = .ok (.invokevirtual 170, 3) := by decide +kernel
theorem dX11_takesIn_8 : decode cX11_takesIn 8 = .ok (.astore_n 3, 1) := by decide +kernel
theorem dX11_takesIn_9 : decode cX11_takesIn 9 = .ok (.aload_n 0, 1) := by decide +kernel
theorem dX11_takesIn_10 : decode cX11_takesIn 10 = .ok (.getfield 19, 3) := by decide +kernel
theorem dX11_takesIn_13 : decode cX11_takesIn 13 = .ok (.iload_n 2, 1) := by decide +kernel
theorem dX11_takesIn_14 : decode cX11_takesIn 14 = .ok (.invokevirtual 170, 3) := by decide +kernel
theorem dX11_takesIn_17 : decode cX11_takesIn 17 = .ok (.astore 4, 2) := by decide +kernel
theorem dX11_takesIn_19 : decode cX11_takesIn 19 = .ok (.aload_n 3, 1) := by decide +kernel
theorem dX11_takesIn_20 : decode cX11_takesIn 20 = .ok (.ifnull 8, 3) := by decide +kernel
theorem dX11_takesIn_23 : decode cX11_takesIn 23 = .ok (.aload 4, 2) := by decide +kernel
theorem dX11_takesIn_25 : decode cX11_takesIn 25 = .ok (.ifnonnull 6, 3) := by decide +kernel
theorem dX11_takesIn_28 : decode cX11_takesIn 28 = .ok (.bipush (-2), 2) := by decide +kernel
theorem dX11_takesIn_30 : decode cX11_takesIn 30 = .ok (.ireturn, 1) := by decide +kernel
theorem dX11_takesIn_31 : decode cX11_takesIn 31 = .ok (.aload_n 0, 1) := by decide +kernel
theorem dX11_takesIn_32 : decode cX11_takesIn 32 = .ok (.getfield 67, 3) := by decide +kernel
theorem dX11_takesIn_35 : decode cX11_takesIn 35 = .ok (.aload_n 3, 1) := by decide +kernel
theorem dX11_takesIn_36 : decode cX11_takesIn 36 = .ok (.getfield 174, 3) := by decide +kernel
theorem dX11_takesIn_39 : decode cX11_takesIn 39 = .ok (.aload 4, 2) := by decide +kernel
theorem dX11_takesIn_41 : decode cX11_takesIn 41 = .ok (.getfield 174, 3) := by decide +kernel
theorem dX11_takesIn_44 : decode cX11_takesIn 44 = .ok (.invokevirtual 257, 3) := by decide +kernel
theorem dX11_takesIn_47 : decode cX11_takesIn 47 = .ok (.ifCond .eq 7, 3) := by decide +kernel
theorem dX11_takesIn_50 : decode cX11_takesIn 50 = .ok (.iconst 1, 1) := by decide +kernel
theorem dX11_takesIn_51 : decode cX11_takesIn 51 = .ok (.goto 4, 3) := by decide +kernel
theorem dX11_takesIn_54 : decode cX11_takesIn 54 = .ok (.iconst 0, 1) := by decide +kernel
theorem dX11_takesIn_55 : decode cX11_takesIn 55 = .ok (.ireturn, 1) := by decide +kernel
theorem dX11_count_0 : decode cX11_count 0 = .ok (.iload_n 1, 1) := by decide +kernel
theorem dX11_count_1 : decode cX11_count 1 = .ok (.tableswitch 141 0 11 #[63, 71, 79, 88, 97, 106, 111, 116, 121, 126, 131, 136], 63) := by decide +kernel
theorem dX11_count_64 : decode cX11_count 64 = .ok (.aload_n 0, 1) := by decide +kernel
theorem dX11_count_65 : decode cX11_count 65 = .ok (.getfield 12, 3) := by decide +kernel
theorem dX11_count_68 : decode cX11_count 68 = .ok (.getfield 261, 3) := by decide +kernel
theorem dX11_count_71 : decode cX11_count 71 = .ok (.ireturn, 1) := by decide +kernel
theorem dX11_count_72 : decode cX11_count 72 = .ok (.aload_n 0, 1) := by decide +kernel
theorem dX11_count_73 : decode cX11_count 73 = .ok (.getfield 19, 3) := by decide +kernel
theorem dX11_count_76 : decode cX11_count 76 = .ok (.getfield 124, 3) := by decide +kernel
theorem dX11_count_79 : decode cX11_count 79 = .ok (.ireturn, 1) := by decide +kernel
theorem dX11_count_80 : decode cX11_count 80 = .ok (.aload_n 0, 1) := by decide +kernel
theorem dX11_count_81 : decode cX11_count 81 = .ok (.getfield 19, 3) := by decide +kernel
theorem dX11_count_84 : decode cX11_count 84 = .ok (.iconst 0, 1) := by decide +kernel
theorem dX11_count_85 : decode cX11_count 85 = .ok (.invokevirtual 264, 3) := by decide +kernel
theorem dX11_count_88 : decode cX11_count 88 = .ok (.ireturn, 1) := by decide +kernel
theorem dX11_count_89 : decode cX11_count 89 = .ok (.aload_n 0, 1) := by decide +kernel
theorem dX11_count_90 : decode cX11_count 90 = .ok (.getfield 19, 3) := by decide +kernel
theorem dX11_count_93 : decode cX11_count 93 = .ok (.iconst 1, 1) := by decide +kernel
theorem dX11_count_94 : decode cX11_count 94 = .ok (.invokevirtual 264, 3) := by decide +kernel
theorem dX11_count_97 : decode cX11_count 97 = .ok (.ireturn, 1) := by decide +kernel
theorem dX11_count_98 : decode cX11_count 98 = .ok (.aload_n 0, 1) := by decide +kernel
theorem dX11_count_99 : decode cX11_count 99 = .ok (.getfield 19, 3) := by decide +kernel
theorem dX11_count_102 : decode cX11_count 102 = .ok (.iconst 2, 1) := by decide +kernel
theorem dX11_count_103 : decode cX11_count 103 = .ok (.invokevirtual 264, 3) := by decide +kernel
theorem dX11_count_106 : decode cX11_count 106 = .ok (.ireturn, 1) := by decide +kernel
theorem dX11_count_107 : decode cX11_count 107 = .ok (.aload_n 0, 1) := by decide +kernel
theorem dX11_count_108 : decode cX11_count 108 = .ok (.getfield 112, 3) := by decide +kernel
theorem dX11_count_111 : decode cX11_count 111 = .ok (.ireturn, 1) := by decide +kernel
theorem dX11_count_112 : decode cX11_count 112 = .ok (.aload_n 0, 1) := by decide +kernel
theorem dX11_count_113 : decode cX11_count 113 = .ok (.getfield 115, 3) := by decide +kernel
theorem dX11_count_116 : decode cX11_count 116 = .ok (.ireturn, 1) := by decide +kernel
theorem dX11_count_117 : decode cX11_count 117 = .ok (.aload_n 0, 1) := by decide +kernel
theorem dX11_count_118 : decode cX11_count 118 = .ok (.getfield 118, 3) := by decide +kernel
theorem dX11_count_121 : decode cX11_count 121 = .ok (.ireturn, 1) := by decide +kernel
theorem dX11_count_122 : decode cX11_count 122 = .ok (.aload_n 0, 1) := by decide +kernel
theorem dX11_count_123 : decode cX11_count 123 = .ok (.getfield 121, 3) := by decide +kernel
theorem dX11_count_126 : decode cX11_count 126 = .ok (.ireturn, 1) := by decide +kernel
theorem dX11_count_127 : decode cX11_count 127 = .ok (.aload_n 0, 1) := by decide +kernel
theorem dX11_count_128 : decode cX11_count 128 = .ok (.getfield 109, 3) := by decide +kernel
theorem dX11_count_131 : decode cX11_count 131 = .ok (.ireturn, 1) := by decide +kernel
theorem dX11_count_132 : decode cX11_count 132 = .ok (.aload_n 0, 1) := by decide +kernel
theorem dX11_count_133 : decode cX11_count 133 = .ok (.getfield 106, 3) := by decide +kernel
theorem dX11_count_136 : decode cX11_count 136 = .ok (.ireturn, 1) := by decide +kernel
theorem dX11_count_137 : decode cX11_count 137 = .ok (.aload_n 0, 1) := by decide +kernel
theorem dX11_count_138 : decode cX11_count 138 = .ok (.getfield 96, 3) := by decide +kernel
theorem dX11_count_141 : decode cX11_count 141 = .ok (.ireturn, 1) := by decide +kernel
theorem dX11_count_142 : decode cX11_count 142 = .ok (.bipush (-2), 2) := by decide +kernel
theorem dX11_count_144 : decode cX11_count 144 = .ok (.ireturn, 1) := by decide +kernel
theorem dX11_digest_0 : decode cX11_digest 0 = .ok (.ldc2_w 267, 3) := by decide +kernel
theorem dX11_digest_3 : decode cX11_digest 3 = .ok (.lstore_n 1, 1) := by decide +kernel
theorem dX11_digest_4 : decode cX11_digest 4 = .ok (.iconst 0, 1) := by decide +kernel
theorem dX11_digest_5 : decode cX11_digest 5 = .ok (.istore_n 3, 1) := by decide +kernel
theorem dX11_digest_6 : decode cX11_digest 6 = .ok (.iload_n 3, 1) := by decide +kernel
theorem dX11_digest_7 : decode cX11_digest 7 = .ok (.bipush 11, 2) := by decide +kernel
theorem dX11_digest_9 : decode cX11_digest 9 = .ok (.if_icmp .gt 22, 3) := by decide +kernel
theorem dX11_digest_12 : decode cX11_digest 12 = .ok (.ldc2_w 269, 3) := by decide +kernel
theorem dX11_digest_15 : decode cX11_digest 15 = .ok (.lload_n 1, 1) := by decide +kernel
theorem dX11_digest_16 : decode cX11_digest 16 = .ok (.lmul, 1) := by decide +kernel
theorem dX11_digest_17 : decode cX11_digest 17 = .ok (.aload_n 0, 1) := by decide +kernel
theorem dX11_digest_18 : decode cX11_digest 18 = .ok (.iload_n 3, 1) := by decide +kernel
theorem dX11_digest_19 : decode cX11_digest 19 = .ok (.invokevirtual 271, 3) := by decide +kernel
theorem dX11_digest_22 : decode cX11_digest 22 = .ok (.i2l, 1) := by decide +kernel
theorem dX11_digest_23 : decode cX11_digest 23 = .ok (.ladd, 1) := by decide +kernel
theorem dX11_digest_24 : decode cX11_digest 24 = .ok (.lstore_n 1, 1) := by decide +kernel
theorem dX11_digest_25 : decode cX11_digest 25 = .ok (.iinc 3 1, 3) := by decide +kernel
theorem dX11_digest_28 : decode cX11_digest 28 = .ok (.goto (-22), 3) := by decide +kernel
theorem dX11_digest_31 : decode cX11_digest 31 = .ok (.iconst 0, 1) := by decide +kernel
theorem dX11_digest_32 : decode cX11_digest 32 = .ok (.istore_n 3, 1) := by decide +kernel
theorem dX11_digest_33 : decode cX11_digest 33 = .ok (.iload_n 3, 1) := by decide +kernel
theorem dX11_digest_34 : decode cX11_digest 34 = .ok (.aload_n 0, 1) := by decide +kernel
theorem dX11_digest_35 : decode cX11_digest 35 = .ok (.getfield 19, 3) := by decide +kernel
theorem dX11_digest_38 : decode cX11_digest 38 = .ok (.getfield 124, 3) := by decide +kernel
theorem dX11_digest_41 : decode cX11_digest 41 = .ok (.if_icmp .ge 53, 3) := by decide +kernel
theorem dX11_digest_44 : decode cX11_digest 44 = .ok (.iconst 0, 1) := by decide +kernel
theorem dX11_digest_45 : decode cX11_digest 45 = .ok (.istore 4, 2) := by decide +kernel
theorem dX11_digest_47 : decode cX11_digest 47 = .ok (.iload 4, 2) := by decide +kernel
theorem dX11_digest_49 : decode cX11_digest 49 = .ok (.iconst 5, 1) := by decide +kernel
theorem dX11_digest_50 : decode cX11_digest 50 = .ok (.if_icmp .gt 24, 3) := by decide +kernel
theorem dX11_digest_53 : decode cX11_digest 53 = .ok (.ldc2_w 269, 3) := by decide +kernel
theorem dX11_digest_56 : decode cX11_digest 56 = .ok (.lload_n 1, 1) := by decide +kernel
theorem dX11_digest_57 : decode cX11_digest 57 = .ok (.lmul, 1) := by decide +kernel
theorem dX11_digest_58 : decode cX11_digest 58 = .ok (.aload_n 0, 1) := by decide +kernel
theorem dX11_digest_59 : decode cX11_digest 59 = .ok (.iload_n 3, 1) := by decide +kernel
theorem dX11_digest_60 : decode cX11_digest 60 = .ok (.iload 4, 2) := by decide +kernel
theorem dX11_digest_62 : decode cX11_digest 62 = .ok (.invokevirtual 274, 3) := by decide +kernel
theorem dX11_digest_65 : decode cX11_digest 65 = .ok (.i2l, 1) := by decide +kernel
theorem dX11_digest_66 : decode cX11_digest 66 = .ok (.ladd, 1) := by decide +kernel
theorem dX11_digest_67 : decode cX11_digest 67 = .ok (.lstore_n 1, 1) := by decide +kernel
theorem dX11_digest_68 : decode cX11_digest 68 = .ok (.iinc 4 1, 3) := by decide +kernel
theorem dX11_digest_71 : decode cX11_digest 71 = .ok (.goto (-24), 3) := by decide +kernel
theorem dX11_digest_74 : decode cX11_digest 74 = .ok (.aload_n 0, 1) := by decide +kernel
theorem dX11_digest_75 : decode cX11_digest 75 = .ok (.lload_n 1, 1) := by decide +kernel
theorem dX11_digest_76 : decode cX11_digest 76 = .ok (.iload_n 3, 1) := by decide +kernel
theorem dX11_digest_77 : decode cX11_digest 77 = .ok (.invokevirtual 278, 3) := by decide +kernel
theorem dX11_digest_80 : decode cX11_digest 80 = .ok (.lstore_n 1, 1) := by decide +kernel
theorem dX11_digest_81 : decode cX11_digest 81 = .ok (.aload_n 0, 1) := by decide +kernel
theorem dX11_digest_82 : decode cX11_digest 82 = .ok (.lload_n 1, 1) := by decide +kernel
theorem dX11_digest_83 : decode cX11_digest 83 = .ok (.iload_n 3, 1) := by decide +kernel
theorem dX11_digest_84 : decode cX11_digest 84 = .ok (.invokevirtual 282, 3) := by decide +kernel
theorem dX11_digest_87 : decode cX11_digest 87 = .ok (.lstore_n 1, 1) := by decide +kernel
theorem dX11_digest_88 : decode cX11_digest 88 = .ok (.iinc 3 1, 3) := by decide +kernel
theorem dX11_digest_91 : decode cX11_digest 91 = .ok (.goto (-58), 3) := by decide +kernel
theorem dX11_digest_94 : decode cX11_digest 94 = .ok (.lload_n 1, 1) := by decide +kernel
theorem dX11_digest_95 : decode cX11_digest 95 = .ok (.lreturn, 1) := by decide +kernel
theorem dX11_digestLiterals_0 : decode cX11_digestLiterals 0 = .ok (.lload_n 1, 1) := by decide +kernel
theorem dX11_digestLiterals_1 : decode cX11_digestLiterals 1 = .ok (.lstore 4, 2) := by decide +kernel
theorem dX11_digestLiterals_3 : decode cX11_digestLiterals 3 = .ok (.aload_n 0, 1) := by decide +kernel
theorem dX11_digestLiterals_4 : decode cX11_digestLiterals 4 = .ok (.iload_n 3, 1) := by decide +kernel
theorem dX11_digestLiterals_5 : decode cX11_digestLiterals 5 = .ok (.iconst 0, 1) := by decide +kernel
theorem dX11_digestLiterals_6 : decode cX11_digestLiterals 6 = .ok (.invokevirtual 274, 3) := by decide +kernel
theorem dX11_digestLiterals_9 : decode cX11_digestLiterals 9 = .ok (.istore 6, 2) := by decide +kernel
theorem dX11_digestLiterals_11 : decode cX11_digestLiterals 11 = .ok (.iconst 0, 1) := by decide +kernel
theorem dX11_digestLiterals_12 : decode cX11_digestLiterals 12 = .ok (.istore 7, 2) := by decide +kernel
theorem dX11_digestLiterals_14 : decode cX11_digestLiterals 14 = .ok (.iload 7, 2) := by decide +kernel
theorem dX11_digestLiterals_16 : decode cX11_digestLiterals 16 = .ok (.iload 6, 2) := by decide +kernel
theorem dX11_digestLiterals_18 : decode cX11_digestLiterals 18 = .ok (.if_icmp .ge 56, 3) := by decide +kernel
theorem dX11_digestLiterals_21 : decode cX11_digestLiterals 21 = .ok (.iconst 1, 1) := by decide +kernel
theorem dX11_digestLiterals_22 : decode cX11_digestLiterals 22 = .ok (.aload_n 0, 1) := by decide +kernel
theorem dX11_digestLiterals_23 : decode cX11_digestLiterals 23 = .ok (.iload_n 3, 1) := by decide +kernel
theorem dX11_digestLiterals_24 : decode cX11_digestLiterals 24 = .ok (.iload 7, 2) := by decide +kernel
theorem dX11_digestLiterals_26 : decode cX11_digestLiterals 26 = .ok (.iconst 1, 1) := by decide +kernel
theorem dX11_digestLiterals_27 : decode cX11_digestLiterals 27 = .ok (.invokevirtual 285, 3) := by decide +kernel
theorem dX11_digestLiterals_30 : decode cX11_digestLiterals 30 = .ok (.iadd, 1) := by decide +kernel
theorem dX11_digestLiterals_31 : decode cX11_digestLiterals 31 = .ok (.istore 8, 2) := by decide +kernel
theorem dX11_digestLiterals_33 : decode cX11_digestLiterals 33 = .ok (.iconst 0, 1) := by decide +kernel
theorem dX11_digestLiterals_34 : decode cX11_digestLiterals 34 = .ok (.istore 9, 2) := by decide +kernel
theorem dX11_digestLiterals_36 : decode cX11_digestLiterals 36 = .ok (.iload 9, 2) := by decide +kernel
theorem dX11_digestLiterals_38 : decode cX11_digestLiterals 38 = .ok (.iload 8, 2) := by decide +kernel
theorem dX11_digestLiterals_40 : decode cX11_digestLiterals 40 = .ok (.if_icmp .gt 28, 3) := by decide +kernel
theorem dX11_digestLiterals_43 : decode cX11_digestLiterals 43 = .ok (.ldc2_w 269, 3) := by decide +kernel
theorem dX11_digestLiterals_46 : decode cX11_digestLiterals 46 = .ok (.lload 4, 2) := by decide +kernel
theorem dX11_digestLiterals_48 : decode cX11_digestLiterals 48 = .ok (.lmul, 1) := by decide +kernel
theorem dX11_digestLiterals_49 : decode cX11_digestLiterals 49 = .ok (.aload_n 0, 1) := by decide +kernel
theorem dX11_digestLiterals_50 : decode cX11_digestLiterals 50 = .ok (.iload_n 3, 1) := by decide +kernel
theorem dX11_digestLiterals_51 : decode cX11_digestLiterals 51 = .ok (.iload 7, 2) := by decide +kernel
theorem dX11_digestLiterals_53 : decode cX11_digestLiterals 53 = .ok (.iload 9, 2) := by decide +kernel
theorem dX11_digestLiterals_55 : decode cX11_digestLiterals 55 = .ok (.invokevirtual 285, 3) := by decide +kernel
theorem dX11_digestLiterals_58 : decode cX11_digestLiterals 58 = .ok (.i2l, 1) := by decide +kernel
theorem dX11_digestLiterals_59 : decode cX11_digestLiterals 59 = .ok (.ladd, 1) := by decide +kernel
theorem dX11_digestLiterals_60 : decode cX11_digestLiterals 60 = .ok (.lstore 4, 2) := by decide +kernel
theorem dX11_digestLiterals_62 : decode cX11_digestLiterals 62 = .ok (.iinc 9 1, 3) := by decide +kernel
theorem dX11_digestLiterals_65 : decode cX11_digestLiterals 65 = .ok (.goto (-29), 3) := by decide +kernel
theorem dX11_digestLiterals_68 : decode cX11_digestLiterals 68 = .ok (.iinc 7 1, 3) := by decide +kernel
theorem dX11_digestLiterals_71 : decode cX11_digestLiterals 71 = .ok (.goto (-57), 3) := by decide +kernel
theorem dX11_digestLiterals_74 : decode cX11_digestLiterals 74 = .ok (.lload 4, 2) := by decide +kernel
theorem dX11_digestLiterals_76 : decode cX11_digestLiterals 76 = .ok (.lreturn, 1) := by decide +kernel
theorem dX11_digestStep_0 : decode cX11_digestStep 0 = .ok (.lload_n 1, 1) := by decide +kernel
theorem dX11_digestStep_1 : decode cX11_digestStep 1 = .ok (.lstore 4, 2) := by decide +kernel
theorem dX11_digestStep_3 : decode cX11_digestStep 3 = .ok (.iconst 0, 1) := by decide +kernel
theorem dX11_digestStep_4 : decode cX11_digestStep 4 = .ok (.istore 6, 2) := by decide +kernel
theorem dX11_digestStep_6 : decode cX11_digestStep 6 = .ok (.iload 6, 2) := by decide +kernel
theorem dX11_digestStep_8 : decode cX11_digestStep 8 = .ok (.bipush 7, 2) := by decide +kernel
theorem dX11_digestStep_10 : decode cX11_digestStep 10 = .ok (.if_icmp .ge 26, 3) := by decide +kernel
theorem dX11_digestStep_13 : decode cX11_digestStep 13 = .ok (.ldc2_w 269, 3) := by decide +kernel
theorem dX11_digestStep_16 : decode cX11_digestStep 16 = .ok (.lload 4, 2) := by decide +kernel
theorem dX11_digestStep_18 : decode cX11_digestStep 18 = .ok (.lmul, 1) := by decide +kernel
theorem dX11_digestStep_19 : decode cX11_digestStep 19 = .ok (.aload_n 0, 1) := by decide +kernel
theorem dX11_digestStep_20 : decode cX11_digestStep 20 = .ok (.iload_n 3, 1) := by decide +kernel
theorem dX11_digestStep_21 : decode cX11_digestStep 21 = .ok (.iload 6, 2) := by decide +kernel
theorem dX11_digestStep_23 : decode cX11_digestStep 23 = .ok (.invokevirtual 289, 3) := by decide +kernel
theorem dX11_digestStep_26 : decode cX11_digestStep 26 = .ok (.i2l, 1) := by decide +kernel
theorem dX11_digestStep_27 : decode cX11_digestStep 27 = .ok (.ladd, 1) := by decide +kernel
theorem dX11_digestStep_28 : decode cX11_digestStep 28 = .ok (.lstore 4, 2) := by decide +kernel
theorem dX11_digestStep_30 : decode cX11_digestStep 30 = .ok (.iinc 6 1, 3) := by decide +kernel
theorem dX11_digestStep_33 : decode cX11_digestStep 33 = .ok (.goto (-27), 3) := by decide +kernel
theorem dX11_digestStep_36 : decode cX11_digestStep 36 = .ok (.bipush 10, 2) := by decide +kernel
theorem dX11_digestStep_38 : decode cX11_digestStep 38 = .ok (.iconst 4, 1) := by decide +kernel
theorem dX11_digestStep_39 : decode cX11_digestStep 39 = .ok (.aload_n 0, 1) := by decide +kernel
theorem dX11_digestStep_40 : decode cX11_digestStep 40 = .ok (.iload_n 3, 1) := by decide +kernel
theorem dX11_digestStep_41 : decode cX11_digestStep 41 = .ok (.bipush 10, 2) := by decide +kernel
theorem dX11_digestStep_43 : decode cX11_digestStep 43 = .ok (.invokevirtual 289, 3) := by decide +kernel
theorem dX11_digestStep_46 : decode cX11_digestStep 46 = .ok (.imul, 1) := by decide +kernel
theorem dX11_digestStep_47 : decode cX11_digestStep 47 = .ok (.iadd, 1) := by decide +kernel
theorem dX11_digestStep_48 : decode cX11_digestStep 48 = .ok (.istore 6, 2) := by decide +kernel
theorem dX11_digestStep_50 : decode cX11_digestStep 50 = .ok (.bipush 10, 2) := by decide +kernel
theorem dX11_digestStep_52 : decode cX11_digestStep 52 = .ok (.istore 7, 2) := by decide +kernel
theorem dX11_digestStep_54 : decode cX11_digestStep 54 = .ok (.iload 7, 2) := by decide +kernel
theorem dX11_digestStep_56 : decode cX11_digestStep 56 = .ok (.iload 6, 2) := by decide +kernel
theorem dX11_digestStep_58 : decode cX11_digestStep 58 = .ok (.if_icmp .gt 26, 3) := by decide +kernel
theorem dX11_digestStep_61 : decode cX11_digestStep 61 = .ok (.ldc2_w 269, 3) := by decide +kernel
theorem dX11_digestStep_64 : decode cX11_digestStep 64 = .ok (.lload 4, 2) := by decide +kernel
theorem dX11_digestStep_66 : decode cX11_digestStep 66 = .ok (.lmul, 1) := by decide +kernel
theorem dX11_digestStep_67 : decode cX11_digestStep 67 = .ok (.aload_n 0, 1) := by decide +kernel
theorem dX11_digestStep_68 : decode cX11_digestStep 68 = .ok (.iload_n 3, 1) := by decide +kernel
theorem dX11_digestStep_69 : decode cX11_digestStep 69 = .ok (.iload 7, 2) := by decide +kernel
theorem dX11_digestStep_71 : decode cX11_digestStep 71 = .ok (.invokevirtual 289, 3) := by decide +kernel
theorem dX11_digestStep_74 : decode cX11_digestStep 74 = .ok (.i2l, 1) := by decide +kernel
theorem dX11_digestStep_75 : decode cX11_digestStep 75 = .ok (.ladd, 1) := by decide +kernel
theorem dX11_digestStep_76 : decode cX11_digestStep 76 = .ok (.lstore 4, 2) := by decide +kernel
theorem dX11_digestStep_78 : decode cX11_digestStep 78 = .ok (.iinc 7 1, 3) := by decide +kernel
theorem dX11_digestStep_81 : decode cX11_digestStep 81 = .ok (.goto (-27), 3) := by decide +kernel
theorem dX11_digestStep_84 : decode cX11_digestStep 84 = .ok (.lload 4, 2) := by decide +kernel
theorem dX11_digestStep_86 : decode cX11_digestStep 86 = .ok (.lreturn, 1) := by decide +kernel
theorem dX11_readDraft_0 : decode cX11_readDraft 0 = .ok (.aload_n 0, 1) := by decide +kernel
theorem dX11_readDraft_1 : decode cX11_readDraft 1 = .ok (.getfield 30, 3) := by decide +kernel
theorem dX11_readDraft_4 : decode cX11_readDraft 4 = .ok (.invokevirtual 292, 3) := by decide +kernel
theorem dX11_readDraft_7 : decode cX11_readDraft 7 = .ok (.iconst 0, 1) := by decide +kernel
theorem dX11_readDraft_8 : decode cX11_readDraft 8 = .ok (.istore_n 1, 1) := by decide +kernel
theorem dX11_readDraft_9 : decode cX11_readDraft 9 = .ok (.iconst 0, 1) := by decide +kernel
theorem dX11_readDraft_10 : decode cX11_readDraft 10 = .ok (.istore_n 2, 1) := by decide +kernel
theorem dX11_readDraft_11 : decode cX11_readDraft 11 = .ok (.iload_n 2, 1) := by decide +kernel
theorem dX11_readDraft_12 : decode cX11_readDraft 12 = .ok (.bipush 6, 2) := by decide +kernel
theorem dX11_readDraft_14 : decode cX11_readDraft 14 = .ok (.if_icmp .gt 134, 3) := by decide +kernel
theorem dX11_readDraft_17 : decode cX11_readDraft 17 = .ok (.iload_n 1, 1) := by decide +kernel
theorem dX11_readDraft_18 : decode cX11_readDraft 18 = .ok (.aload_n 0, 1) := by decide +kernel
theorem dX11_readDraft_19 : decode cX11_readDraft 19 = .ok (.getfield 96, 3) := by decide +kernel
theorem dX11_readDraft_22 : decode cX11_readDraft 22 = .ok (.if_icmp .ge 126, 3) := by decide +kernel
theorem dX11_readDraft_25 : decode cX11_readDraft 25 = .ok (.aload_n 0, 1) := by decide +kernel
theorem dX11_readDraft_26 : decode cX11_readDraft 26 = .ok (.getfield 23, 3) := by decide +kernel
theorem dX11_readDraft_29 : decode cX11_readDraft 29 = .ok (.iload_n 1, 1) := by decide +kernel
theorem dX11_readDraft_30 : decode cX11_readDraft 30 = .ok (.iaload, 1) := by decide +kernel
theorem dX11_readDraft_31 : decode cX11_readDraft 31 = .ok (.istore_n 3, 1) := by decide +kernel
theorem dX11_readDraft_32 : decode cX11_readDraft 32 = .ok (.iload_n 3, 1) := by decide +kernel
theorem dX11_readDraft_33 : decode cX11_readDraft 33 = .ok (.sipush 2000, 3) := by decide +kernel
theorem dX11_readDraft_36 : decode cX11_readDraft 36 = .ok (.if_icmp .lt 7, 3) := by decide +kernel
theorem dX11_readDraft_39 : decode cX11_readDraft 39 = .ok (.iconst 1, 1) := by decide +kernel
theorem dX11_readDraft_40 : decode cX11_readDraft 40 = .ok (.goto 4, 3) := by decide +kernel
theorem dX11_readDraft_43 : decode cX11_readDraft 43 = .ok (.iconst 0, 1) := by decide +kernel
theorem dX11_readDraft_44 : decode cX11_readDraft 44 = .ok (.istore 4, 2) := by decide +kernel
theorem dX11_readDraft_46 : decode cX11_readDraft 46 = .ok (.iload_n 3, 1) := by decide +kernel
theorem dX11_readDraft_47 : decode cX11_readDraft 47 = .ok (.iload 4, 2) := by decide +kernel
theorem dX11_readDraft_49 : decode cX11_readDraft 49 = .ok (.ifCond .eq 9, 3) := by decide +kernel
theorem dX11_readDraft_52 : decode cX11_readDraft 52 = .ok (.sipush 2000, 3) := by decide +kernel
theorem dX11_readDraft_55 : decode cX11_readDraft 55 = .ok (.goto 6, 3) := by decide +kernel
theorem dX11_readDraft_58 : decode cX11_readDraft 58 = .ok (.sipush 1000, 3) := by decide +kernel
theorem dX11_readDraft_61 : decode cX11_readDraft 61 = .ok (.isub, 1) := by decide +kernel
theorem dX11_readDraft_62 : decode cX11_readDraft 62 = .ok (.istore 5, 2) := by decide +kernel
theorem dX11_readDraft_64 : decode cX11_readDraft 64 = .ok (.iload_n 2, 1) := by decide +kernel
theorem dX11_readDraft_65 : decode cX11_readDraft 65 = .ok (.bipush 6, 2) := by decide +kernel
theorem dX11_readDraft_67 : decode cX11_readDraft 67 = .ok (.if_icmp .eq 15, 3) := by decide +kernel
theorem dX11_readDraft_70 : decode cX11_readDraft 70 = .ok (.aload_n 0, 1) := by decide +kernel
theorem dX11_readDraft_71 : decode cX11_readDraft 71 = .ok (.getfield 12, 3) := by decide +kernel
theorem dX11_readDraft_74 : decode cX11_readDraft 74 = .ok (.iload 5, 2) := by decide +kernel
theorem dX11_readDraft_76 : decode cX11_readDraft 76 = .ok (.invokevirtual 295, 3) := by decide +kernel
theorem dX11_readDraft_79 : decode cX11_readDraft 79 = .ok (.ifCond .ne 5, 3) := by decide +kernel
theorem dX11_readDraft_82 : decode cX11_readDraft 82 = .ok (.iload_n 1, 1) := by decide +kernel
theorem dX11_readDraft_83 : decode cX11_readDraft 83 = .ok (.ireturn, 1) := by decide +kernel
theorem dX11_readDraft_84 : decode cX11_readDraft 84 = .ok (.aload_n 0, 1) := by decide +kernel
theorem dX11_readDraft_85 : decode cX11_readDraft 85 = .ok (.iload_n 1, 1) := by decide +kernel
theorem dX11_readDraft_86 : decode cX11_readDraft 86 = .ok (.iconst 1, 1) := by decide +kernel
theorem dX11_readDraft_87 : decode cX11_readDraft 87 = .ok (.iadd, 1) := by decide +kernel
theorem dX11_readDraft_88 : decode cX11_readDraft 88 = .ok (.aload_n 0, 1) := by decide +kernel
theorem dX11_readDraft_89 : decode cX11_readDraft 89 = .ok (.getfield 12, 3) := by decide +kernel
theorem dX11_readDraft_92 : decode cX11_readDraft 92 = .ok (.iload 5, 2) := by decide +kernel
theorem dX11_readDraft_94 : decode cX11_readDraft 94 = .ok (.invokevirtual 250, 3) := by decide +kernel
theorem dX11_readDraft_97 : decode cX11_readDraft 97 = .ok (.invokevirtual 298, 3) := by decide +kernel
theorem dX11_readDraft_100 : decode cX11_readDraft 100 = .ok (.istore 6, 2) := by decide +kernel
theorem dX11_readDraft_102 : decode cX11_readDraft 102 = .ok (.iload 6, 2) := by decide +kernel
theorem dX11_readDraft_104 : decode cX11_readDraft 104 = .ok (.ifCond .ge 8, 3) := by decide +kernel
theorem dX11_readDraft_107 : decode cX11_readDraft 107 = .ok (.iconst (-1), 1) := by decide +kernel
theorem dX11_readDraft_108 : decode cX11_readDraft 108 = .ok (.iload 6, 2) := by decide +kernel
theorem dX11_readDraft_110 : decode cX11_readDraft 110 = .ok (.isub, 1) := by decide +kernel
theorem dX11_readDraft_111 : decode cX11_readDraft 111 = .ok (.ireturn, 1) := by decide +kernel
theorem dX11_readDraft_112 : decode cX11_readDraft 112 = .ok (.aload_n 0, 1) := by decide +kernel
theorem dX11_readDraft_113 : decode cX11_readDraft 113 = .ok (.getfield 23, 3) := by decide +kernel
theorem dX11_readDraft_116 : decode cX11_readDraft 116 = .ok (.iload_n 1, 1) := by decide +kernel
theorem dX11_readDraft_117 : decode cX11_readDraft 117 = .ok (.iload 5, 2) := by decide +kernel
theorem dX11_readDraft_119 : decode cX11_readDraft 119 = .ok (.iastore, 1) := by decide +kernel
theorem dX11_readDraft_120 : decode cX11_readDraft 120 = .ok (.aload_n 0, 1) := by decide +kernel
theorem dX11_readDraft_121 : decode cX11_readDraft 121 = .ok (.getfield 30, 3) := by decide +kernel
theorem dX11_readDraft_124 : decode cX11_readDraft 124 = .ok (.iload 4, 2) := by decide +kernel
theorem dX11_readDraft_126 : decode cX11_readDraft 126 = .ok (.aload_n 0, 1) := by decide +kernel
theorem dX11_readDraft_127 : decode cX11_readDraft 127 = .ok (.getfield 23, 3) := by decide +kernel
theorem dX11_readDraft_130 : decode cX11_readDraft 130 = .ok (.iload_n 1, 1) := by decide +kernel
theorem dX11_readDraft_131 : decode cX11_readDraft 131 = .ok (.iload 6, 2) := by decide +kernel
theorem dX11_readDraft_133 : decode cX11_readDraft 133 = .ok (.iload_n 1, 1) := by decide +kernel
theorem dX11_readDraft_134 : decode cX11_readDraft 134 = .ok (.isub, 1) := by decide +kernel
theorem dX11_readDraft_135 : decode cX11_readDraft 135 = .ok (.invokevirtual 301, 3) := by decide +kernel
theorem dX11_readDraft_138 : decode cX11_readDraft 138 = .ok (.pop, 1) := by decide +kernel
theorem dX11_readDraft_139 : decode cX11_readDraft 139 = .ok (.iload 6, 2) := by decide +kernel
theorem dX11_readDraft_141 : decode cX11_readDraft 141 = .ok (.istore_n 1, 1) := by decide +kernel
theorem dX11_readDraft_142 : decode cX11_readDraft 142 = .ok (.iinc 2 1, 3) := by decide +kernel
theorem dX11_readDraft_145 : decode cX11_readDraft 145 = .ok (.goto (-134), 3) := by decide +kernel
theorem dX11_readDraft_148 : decode cX11_readDraft 148 = .ok (.iconst (-1), 1) := by decide +kernel
theorem dX11_readDraft_149 : decode cX11_readDraft 149 = .ok (.ireturn, 1) := by decide +kernel
theorem dX11_endOfParts_0 : decode cX11_endOfParts 0 = .ok (.iload_n 2, 1) := by decide +kernel
theorem dX11_endOfParts_1 : decode cX11_endOfParts 1 = .ok (.istore_n 3, 1) := by decide +kernel
theorem dX11_endOfParts_2 : decode cX11_endOfParts 2 = .ok (.iload_n 1, 1) := by decide +kernel
theorem dX11_endOfParts_3 : decode cX11_endOfParts 3 = .ok (.istore 4, 2) := by decide +kernel
theorem dX11_endOfParts_5 : decode cX11_endOfParts 5 = .ok (.aload_n 0, 1) := by decide +kernel
theorem dX11_endOfParts_6 : decode cX11_endOfParts 6 = .ok (.getfield 96, 3) := by decide +kernel
theorem dX11_endOfParts_9 : decode cX11_endOfParts 9 = .ok (.iload_n 1, 1) := by decide +kernel
theorem dX11_endOfParts_10 : decode cX11_endOfParts 10 = .ok (.bipush 30, 2) := by decide +kernel
theorem dX11_endOfParts_12 : decode cX11_endOfParts 12 = .ok (.iadd, 1) := by decide +kernel
theorem dX11_endOfParts_13 : decode cX11_endOfParts 13 = .ok (.iconst 1, 1) := by decide +kernel
theorem dX11_endOfParts_14 : decode cX11_endOfParts 14 = .ok (.isub, 1) := by decide +kernel
theorem dX11_endOfParts_15 : decode cX11_endOfParts 15 = .ok (.invokestatic 305, 3) := by decide +kernel
theorem dX11_endOfParts_18 : decode cX11_endOfParts 18 = .ok (.istore 5, 2) := by decide +kernel
theorem dX11_endOfParts_20 : decode cX11_endOfParts 20 = .ok (.iload_n 3, 1) := by decide +kernel
theorem dX11_endOfParts_21 : decode cX11_endOfParts 21 = .ok (.ifCond .le 61, 3) := by decide +kernel
theorem dX11_endOfParts_24 : decode cX11_endOfParts 24 = .ok (.iload 4, 2) := by decide +kernel
theorem dX11_endOfParts_26 : decode cX11_endOfParts 26 = .ok (.iload 5, 2) := by decide +kernel
theorem dX11_endOfParts_28 : decode cX11_endOfParts 28 = .ok (.if_icmp .ge 54, 3) := by decide +kernel
theorem dX11_endOfParts_31 : decode cX11_endOfParts 31 = .ok (.aload_n 0, 1) := by decide +kernel
theorem dX11_endOfParts_32 : decode cX11_endOfParts 32 = .ok (.getfield 23, 3) := by decide +kernel
theorem dX11_endOfParts_35 : decode cX11_endOfParts 35 = .ok (.iload 4, 2) := by decide +kernel
theorem dX11_endOfParts_37 : decode cX11_endOfParts 37 = .ok (.iaload, 1) := by decide +kernel
theorem dX11_endOfParts_38 : decode cX11_endOfParts 38 = .ok (.istore 6, 2) := by decide +kernel
theorem dX11_endOfParts_40 : decode cX11_endOfParts 40 = .ok (.iload 6, 2) := by decide +kernel
theorem dX11_endOfParts_42 : decode cX11_endOfParts 42 = .ok (.ifCond .lt 20, 3) := by decide +kernel
theorem dX11_endOfParts_45 : decode cX11_endOfParts 45 = .ok (.aload_n 0, 1) := by decide +kernel
theorem dX11_endOfParts_46 : decode cX11_endOfParts 46 = .ok (.getfield 12, 3) := by decide +kernel
theorem dX11_endOfParts_49 : decode cX11_endOfParts 49 = .ok (.iload 6, 2) := by decide +kernel
theorem dX11_endOfParts_51 : decode cX11_endOfParts 51 = .ok (.invokevirtual 310, 3) := by decide +kernel
theorem dX11_endOfParts_54 : decode cX11_endOfParts 54 = .ok (.ifCond .ne 8, 3) := by decide +kernel
theorem dX11_endOfParts_57 : decode cX11_endOfParts 57 = .ok (.iconst (-1), 1) := by decide +kernel
theorem dX11_endOfParts_58 : decode cX11_endOfParts 58 = .ok (.iload 4, 2) := by decide +kernel
theorem dX11_endOfParts_60 : decode cX11_endOfParts 60 = .ok (.isub, 1) := by decide +kernel
theorem dX11_endOfParts_61 : decode cX11_endOfParts 61 = .ok (.ireturn, 1) := by decide +kernel
theorem dX11_endOfParts_62 : decode cX11_endOfParts 62 = .ok (.iload_n 3, 1) := by decide +kernel
theorem dX11_endOfParts_63 : decode cX11_endOfParts 63 = .ok (.aload_n 0, 1) := by decide +kernel
theorem dX11_endOfParts_64 : decode cX11_endOfParts 64 = .ok (.getfield 12, 3) := by decide +kernel
theorem dX11_endOfParts_67 : decode cX11_endOfParts 67 = .ok (.iload 6, 2) := by decide +kernel
theorem dX11_endOfParts_69 : decode cX11_endOfParts 69 = .ok (.invokevirtual 250, 3) := by decide +kernel
theorem dX11_endOfParts_72 : decode cX11_endOfParts 72 = .ok (.iconst 1, 1) := by decide +kernel
theorem dX11_endOfParts_73 : decode cX11_endOfParts 73 = .ok (.isub, 1) := by decide +kernel
theorem dX11_endOfParts_74 : decode cX11_endOfParts 74 = .ok (.iadd, 1) := by decide +kernel
theorem dX11_endOfParts_75 : decode cX11_endOfParts 75 = .ok (.istore_n 3, 1) := by decide +kernel
theorem dX11_endOfParts_76 : decode cX11_endOfParts 76 = .ok (.iinc 4 1, 3) := by decide +kernel
theorem dX11_endOfParts_79 : decode cX11_endOfParts 79 = .ok (.goto (-59), 3) := by decide +kernel
theorem dX11_endOfParts_82 : decode cX11_endOfParts 82 = .ok (.iload_n 3, 1) := by decide +kernel
theorem dX11_endOfParts_83 : decode cX11_endOfParts 83 = .ok (.ifCond .le 10, 3) := by decide +kernel
theorem dX11_endOfParts_86 : decode cX11_endOfParts 86 = .ok (.iconst (-1), 1) := by decide +kernel
theorem dX11_endOfParts_87 : decode cX11_endOfParts 87 = .ok (.iload 4, 2) := by decide +kernel
theorem dX11_endOfParts_89 : decode cX11_endOfParts 89 = .ok (.isub, 1) := by decide +kernel
theorem dX11_endOfParts_90 : decode cX11_endOfParts 90 = .ok (.goto 5, 3) := by decide +kernel
theorem dX11_endOfParts_93 : decode cX11_endOfParts 93 = .ok (.iload 4, 2) := by decide +kernel
theorem dX11_endOfParts_95 : decode cX11_endOfParts 95 = .ok (.ireturn, 1) := by decide +kernel
theorem dX11_pick_0 : decode cX11_pick 0 = .ok (.aload_n 0, 1) := by decide +kernel
theorem dX11_pick_1 : decode cX11_pick 1 = .ok (.getfield 109, 3) := by decide +kernel
theorem dX11_pick_4 : decode cX11_pick 4 = .ok (.iconst 1, 1) := by decide +kernel
theorem dX11_pick_5 : decode cX11_pick 5 = .ok (.iadd, 1) := by decide +kernel
theorem dX11_pick_6 : decode cX11_pick 6 = .ok (.aload_n 0, 1) := by decide +kernel
theorem dX11_pick_7 : decode cX11_pick 7 = .ok (.getfield 100, 3) := by decide +kernel
theorem dX11_pick_10 : decode cX11_pick 10 = .ok (.iconst 1, 1) := by decide +kernel
theorem dX11_pick_11 : decode cX11_pick 11 = .ok (.iadd, 1) := by decide +kernel
theorem dX11_pick_12 : decode cX11_pick 12 = .ok (.irem, 1) := by decide +kernel
theorem dX11_pick_13 : decode cX11_pick 13 = .ok (.ifCond .ne 7, 3) := by decide +kernel
theorem dX11_pick_16 : decode cX11_pick 16 = .ok (.iconst 1, 1) := by decide +kernel
theorem dX11_pick_17 : decode cX11_pick 17 = .ok (.goto 4, 3) := by decide +kernel
theorem dX11_pick_20 : decode cX11_pick 20 = .ok (.iconst 0, 1) := by decide +kernel
theorem dX11_pick_21 : decode cX11_pick 21 = .ok (.istore_n 1, 1) := by decide +kernel
theorem dX11_pick_22 : decode cX11_pick 22 = .ok (.aconst_null, 1) := by decide +kernel
theorem dX11_pick_23 : decode cX11_pick 23 = .ok (.astore_n 2, 1) := by decide +kernel
theorem dX11_pick_24 : decode cX11_pick 24 = .ok (.iconst 0, 1) := by decide +kernel
theorem dX11_pick_25 : decode cX11_pick 25 = .ok (.istore_n 3, 1) := by decide +kernel
theorem dX11_pick_26 : decode cX11_pick 26 = .ok (.iload_n 3, 1) := by decide +kernel
theorem dX11_pick_27 : decode cX11_pick 27 = .ok (.aload_n 0, 1) := by decide +kernel
theorem dX11_pick_28 : decode cX11_pick 28 = .ok (.getfield 19, 3) := by decide +kernel
theorem dX11_pick_31 : decode cX11_pick 31 = .ok (.getfield 124, 3) := by decide +kernel
theorem dX11_pick_34 : decode cX11_pick 34 = .ok (.if_icmp .ge 55, 3) := by decide +kernel
theorem dX11_pick_37 : decode cX11_pick 37 = .ok (.aload_n 0, 1) := by decide +kernel
theorem dX11_pick_38 : decode cX11_pick 38 = .ok (.getfield 19, 3) := by decide +kernel
theorem dX11_pick_41 : decode cX11_pick 41 = .ok (.iload_n 3, 1) := by decide +kernel
theorem dX11_pick_42 : decode cX11_pick 42 = .ok (.invokevirtual 170, 3) := by decide +kernel
theorem dX11_pick_45 : decode cX11_pick 45 = .ok (.astore 4, 2) := by decide +kernel
theorem dX11_pick_47 : decode cX11_pick 47 = .ok (.aload 4, 2) := by decide +kernel
theorem dX11_pick_49 : decode cX11_pick 49 = .ok (.ifnull 34, 3) := by decide +kernel
theorem dX11_pick_52 : decode cX11_pick 52 = .ok (.aload 4, 2) := by decide +kernel
theorem dX11_pick_54 : decode cX11_pick 54 = .ok (.getfield 185, 3) := by decide +kernel
theorem dX11_pick_57 : decode cX11_pick 57 = .ok (.ifCond .ne 26, 3) := by decide +kernel
theorem dX11_pick_60 : decode cX11_pick 60 = .ok (.aload_n 2, 1) := by decide +kernel
theorem dX11_pick_61 : decode cX11_pick 61 = .ok (.ifnull 19, 3) := by decide +kernel
theorem dX11_pick_64 : decode cX11_pick 64 = .ok (.iload_n 1, 1) := by decide +kernel
theorem dX11_pick_65 : decode cX11_pick 65 = .ok (.ifCond .ne 18, 3) := by decide +kernel
theorem dX11_pick_68 : decode cX11_pick 68 = .ok (.aload 4, 2) := by decide +kernel
theorem dX11_pick_70 : decode cX11_pick 70 = .ok (.getfield 182, 3) := by decide +kernel
theorem dX11_pick_73 : decode cX11_pick 73 = .ok (.aload_n 2, 1) := by decide +kernel
theorem dX11_pick_74 : decode cX11_pick 74 = .ok (.getfield 182, 3) := by decide +kernel
theorem dX11_pick_77 : decode cX11_pick 77 = .ok (.if_icmp .ge 6, 3) := by decide +kernel
theorem dX11_pick_80 : decode cX11_pick 80 = .ok (.aload 4, 2) := by decide +kernel
theorem dX11_pick_82 : decode cX11_pick 82 = .ok (.astore_n 2, 1) := by decide +kernel
theorem dX11_pick_83 : decode cX11_pick 83 = .ok (.iinc 3 1, 3) := by decide +kernel
theorem dX11_pick_86 : decode cX11_pick 86 = .ok (.goto (-60), 3) := by decide +kernel
theorem dX11_pick_89 : decode cX11_pick 89 = .ok (.aload_n 2, 1) := by decide +kernel
theorem dX11_pick_90 : decode cX11_pick 90 = .ok (.ifnonnull 11, 3) := by decide +kernel
theorem dX11_pick_93 : decode cX11_pick 93 = .ok (.aload_n 0, 1) := by decide +kernel
theorem dX11_pick_94 : decode cX11_pick 94 = .ok (.iconst 2, 1) := by decide +kernel
theorem dX11_pick_95 : decode cX11_pick 95 = .ok (.putfield 106, 3) := by decide +kernel
theorem dX11_pick_98 : decode cX11_pick 98 = .ok (.goto 18, 3) := by decide +kernel
theorem dX11_pick_101 : decode cX11_pick 101 = .ok (.aload_n 2, 1) := by decide +kernel
theorem dX11_pick_102 : decode cX11_pick 102 = .ok (.iconst 1, 1) := by decide +kernel
theorem dX11_pick_103 : decode cX11_pick 103 = .ok (.putfield 185, 3) := by decide +kernel
theorem dX11_pick_106 : decode cX11_pick 106 = .ok (.aload_n 0, 1) := by decide +kernel
theorem dX11_pick_107 : decode cX11_pick 107 = .ok (.dup, 1) := by decide +kernel
theorem dX11_pick_108 : decode cX11_pick 108 = .ok (.getfield 109, 3) := by decide +kernel
theorem dX11_pick_111 : decode cX11_pick 111 = .ok (.iconst 1, 1) := by decide +kernel
theorem dX11_pick_112 : decode cX11_pick 112 = .ok (.iadd, 1) := by decide +kernel
theorem dX11_pick_113 : decode cX11_pick 113 = .ok (.putfield 109, 3) := by decide +kernel
theorem dX11_pick_116 : decode cX11_pick 116 = .ok (.aload_n 2, 1) := by decide +kernel
theorem dX11_pick_117 : decode cX11_pick 117 = .ok (.areturn, 1) := by decide +kernel
theorem dX11_hasFuel_0 : decode cX11_hasFuel 0 = .ok (.aload_n 0, 1) := by decide +kernel
theorem dX11_hasFuel_1 : decode cX11_hasFuel 1 = .ok (.getfield 103, 3) := by decide +kernel
theorem dX11_hasFuel_4 : decode cX11_hasFuel 4 = .ok (.aload_n 0, 1) := by decide +kernel
theorem dX11_hasFuel_5 : decode cX11_hasFuel 5 = .ok (.getfield 118, 3) := by decide +kernel
theorem dX11_hasFuel_8 : decode cX11_hasFuel 8 = .ok (.aload_n 0, 1) := by decide +kernel
theorem dX11_hasFuel_9 : decode cX11_hasFuel 9 = .ok (.getfield 121, 3) := by decide +kernel
theorem dX11_hasFuel_12 : decode cX11_hasFuel 12 = .ok (.iadd, 1) := by decide +kernel
theorem dX11_hasFuel_13 : decode cX11_hasFuel 13 = .ok (.if_icmp .le 5, 3) := by decide +kernel
theorem dX11_hasFuel_16 : decode cX11_hasFuel 16 = .ok (.iconst 1, 1) := by decide +kernel
theorem dX11_hasFuel_17 : decode cX11_hasFuel 17 = .ok (.ireturn, 1) := by decide +kernel
theorem dX11_hasFuel_18 : decode cX11_hasFuel 18 = .ok (.aload_n 0, 1) := by decide +kernel
theorem dX11_hasFuel_19 : decode cX11_hasFuel 19 = .ok (.iconst 3, 1) := by decide +kernel
theorem dX11_hasFuel_20 : decode cX11_hasFuel 20 = .ok (.putfield 106, 3) := by decide +kernel
theorem dX11_hasFuel_23 : decode cX11_hasFuel 23 = .ok (.iconst 0, 1) := by decide +kernel
theorem dX11_hasFuel_24 : decode cX11_hasFuel 24 = .ok (.ireturn, 1) := by decide +kernel
theorem dX11_settle_0 : decode cX11_settle 0 = .ok (.iload_n 1, 1) := by decide +kernel
theorem dX11_settle_1 : decode cX11_settle 1 = .ok (.iconst 1, 1) := by decide +kernel
theorem dX11_settle_2 : decode cX11_settle 2 = .ok (.if_icmp .eq 21, 3) := by decide +kernel
theorem dX11_settle_5 : decode cX11_settle 5 = .ok (.aload_n 0, 1) := by decide +kernel
theorem dX11_settle_6 : decode cX11_settle 6 = .ok (.getfield 58, 3) := by decide +kernel
theorem dX11_settle_9 : decode cX11_settle 9 = .ok (.aload_n 0, 1) := by decide +kernel
theorem dX11_settle_10 : decode cX11_settle 10 = .ok (.getfield 30, 3) := by decide +kernel
theorem dX11_settle_13 : decode cX11_settle 13 = .ok (.invokevirtual 233, 3) := by decide +kernel
theorem dX11_settle_16 : decode cX11_settle 16 = .ok (.ifCond .eq 7, 3) := by decide +kernel
theorem dX11_settle_19 : decode cX11_settle 19 = .ok (.iconst 1, 1) := by decide +kernel
theorem dX11_settle_20 : decode cX11_settle 20 = .ok (.goto 4, 3) := by decide +kernel
theorem dX11_settle_23 : decode cX11_settle 23 = .ok (.iconst 0, 1) := by decide +kernel
theorem dX11_settle_24 : decode cX11_settle 24 = .ok (.istore_n 3, 1) := by decide +kernel
theorem dX11_settle_25 : decode cX11_settle 25 = .ok (.iload_n 3, 1) := by decide +kernel
theorem dX11_settle_26 : decode cX11_settle 26 = .ok (.ifCond .eq 35, 3) := by decide +kernel
theorem dX11_settle_29 : decode cX11_settle 29 = .ok (.aload_n 0, 1) := by decide +kernel
theorem dX11_settle_30 : decode cX11_settle 30 = .ok (.getfield 76, 3) := by decide +kernel
theorem dX11_settle_33 : decode cX11_settle 33 = .ok (.aload_n 0, 1) := by decide +kernel
theorem dX11_settle_34 : decode cX11_settle 34 = .ok (.getfield 30, 3) := by decide +kernel
theorem dX11_settle_37 : decode cX11_settle 37 = .ok (.aload_n 0, 1) := by decide +kernel
theorem dX11_settle_38 : decode cX11_settle 38 = .ok (.getfield 58, 3) := by decide +kernel
theorem dX11_settle_41 : decode cX11_settle 41 = .ok (.invokevirtual 313, 3) := by decide +kernel
theorem dX11_settle_44 : decode cX11_settle 44 = .ok (.istore_n 3, 1) := by decide +kernel
theorem dX11_settle_45 : decode cX11_settle 45 = .ok (.aload_n 0, 1) := by decide +kernel
theorem dX11_settle_46 : decode cX11_settle 46 = .ok (.dup, 1) := by decide +kernel
theorem dX11_settle_47 : decode cX11_settle 47 = .ok (.getfield 121, 3) := by decide +kernel
theorem dX11_settle_50 : decode cX11_settle 50 = .ok (.aload_n 0, 1) := by decide +kernel
theorem dX11_settle_51 : decode cX11_settle 51 = .ok (.getfield 76, 3) := by decide +kernel
theorem dX11_settle_54 : decode cX11_settle 54 = .ok (.getfield 317, 3) := by decide +kernel
theorem dX11_settle_57 : decode cX11_settle 57 = .ok (.iadd, 1) := by decide +kernel
theorem dX11_settle_58 : decode cX11_settle 58 = .ok (.putfield 121, 3) := by decide +kernel
theorem dX11_settle_61 : decode cX11_settle 61 = .ok (.iload_n 3, 1) := by decide +kernel
theorem dX11_settle_62 : decode cX11_settle 62 = .ok (.ifCond .ne 16, 3) := by decide +kernel
theorem dX11_settle_65 : decode cX11_settle 65 = .ok (.aload_n 0, 1) := by decide +kernel
theorem dX11_settle_66 : decode cX11_settle 66 = .ok (.dup, 1) := by decide +kernel
theorem dX11_settle_67 : decode cX11_settle 67 = .ok (.getfield 115, 3) := by decide +kernel
theorem dX11_settle_70 : decode cX11_settle 70 = .ok (.iconst 1, 1) := by decide +kernel
theorem dX11_settle_71 : decode cX11_settle 71 = .ok (.iadd, 1) := by decide +kernel
theorem dX11_settle_72 : decode cX11_settle 72 = .ok (.putfield 115, 3) := by decide +kernel
theorem dX11_settle_75 : decode cX11_settle 75 = .ok (.bipush (-99), 2) := by decide +kernel
theorem dX11_settle_77 : decode cX11_settle 77 = .ok (.ireturn, 1) := by decide +kernel
theorem dX11_settle_78 : decode cX11_settle 78 = .ok (.aload_n 0, 1) := by decide +kernel
theorem dX11_settle_79 : decode cX11_settle 79 = .ok (.getfield 30, 3) := by decide +kernel
theorem dX11_settle_82 : decode cX11_settle 82 = .ok (.invokevirtual 320, 3) := by decide +kernel
theorem dX11_settle_85 : decode cX11_settle 85 = .ok (.aload_n 0, 1) := by decide +kernel
theorem dX11_settle_86 : decode cX11_settle 86 = .ok (.getfield 30, 3) := by decide +kernel
theorem dX11_settle_89 : decode cX11_settle 89 = .ok (.aload_n 0, 1) := by decide +kernel
theorem dX11_settle_90 : decode cX11_settle 90 = .ok (.getfield 12, 3) := by decide +kernel
theorem dX11_settle_93 : decode cX11_settle 93 = .ok (.invokevirtual 323, 3) := by decide +kernel
theorem dX11_settle_96 : decode cX11_settle 96 = .ok (.ifCond .ne 17, 3) := by decide +kernel
theorem dX11_settle_99 : decode cX11_settle 99 = .ok (.aload_n 0, 1) := by decide +kernel
theorem dX11_settle_100 : decode cX11_settle 100 = .ok (.getfield 67, 3) := by decide +kernel
theorem dX11_settle_103 : decode cX11_settle 103 = .ok (.aload_n 0, 1) := by decide +kernel
theorem dX11_settle_104 : decode cX11_settle 104 = .ok (.getfield 30, 3) := by decide +kernel
theorem dX11_settle_107 : decode cX11_settle 107 = .ok (.invokevirtual 327, 3) := by decide +kernel
theorem dX11_settle_110 : decode cX11_settle 110 = .ok (.ifCond .eq 15, 3) := by decide +kernel
theorem dX11_settle_113 : decode cX11_settle 113 = .ok (.aload_n 0, 1) := by decide +kernel
theorem dX11_settle_114 : decode cX11_settle 114 = .ok (.dup, 1) := by decide +kernel
theorem dX11_settle_115 : decode cX11_settle 115 = .ok (.getfield 112, 3) := by decide +kernel
theorem dX11_settle_118 : decode cX11_settle 118 = .ok (.iconst 1, 1) := by decide +kernel
theorem dX11_settle_119 : decode cX11_settle 119 = .ok (.iadd, 1) := by decide +kernel
theorem dX11_settle_120 : decode cX11_settle 120 = .ok (.putfield 112, 3) := by decide +kernel
theorem dX11_settle_123 : decode cX11_settle 123 = .ok (.iconst (-1), 1) := by decide +kernel
theorem dX11_settle_124 : decode cX11_settle 124 = .ok (.ireturn, 1) := by decide +kernel
theorem dX11_settle_125 : decode cX11_settle 125 = .ok (.aload_n 0, 1) := by decide +kernel
theorem dX11_settle_126 : decode cX11_settle 126 = .ok (.aload_n 2, 1) := by decide +kernel
theorem dX11_settle_127 : decode cX11_settle 127 = .ok (.invokevirtual 330, 3) := by decide +kernel
theorem dX11_settle_130 : decode cX11_settle 130 = .ok (.ireturn, 1) := by decide +kernel
theorem dX11_keep_0 : decode cX11_keep 0 = .ok (.aload_n 0, 1) := by decide +kernel
theorem dX11_keep_1 : decode cX11_keep 1 = .ok (.getfield 19, 3) := by decide +kernel
theorem dX11_keep_4 : decode cX11_keep 4 = .ok (.getfield 124, 3) := by decide +kernel
theorem dX11_keep_7 : decode cX11_keep 7 = .ok (.istore_n 2, 1) := by decide +kernel
theorem dX11_keep_8 : decode cX11_keep 8 = .ok (.aload_n 0, 1) := by decide +kernel
theorem dX11_keep_9 : decode cX11_keep 9 = .ok (.getfield 19, 3) := by decide +kernel
theorem dX11_keep_12 : decode cX11_keep 12 = .ok (.invokevirtual 334, 3) := by decide +kernel
theorem dX11_keep_15 : decode cX11_keep 15 = .ok (.astore_n 3, 1) := by decide +kernel
theorem dX11_keep_16 : decode cX11_keep 16 = .ok (.aload_n 3, 1) := by decide +kernel
theorem dX11_keep_17 : decode cX11_keep 17 = .ok (.ifnonnull 5, 3) := by decide +kernel
theorem dX11_keep_20 : decode cX11_keep 20 = .ok (.iconst (-1), 1) := by decide +kernel
theorem dX11_keep_21 : decode cX11_keep 21 = .ok (.ireturn, 1) := by decide +kernel
theorem dX11_keep_22 : decode cX11_keep 22 = .ok (.aload_n 3, 1) := by decide +kernel
theorem dX11_keep_23 : decode cX11_keep 23 = .ok (.aload_n 0, 1) := by decide +kernel
theorem dX11_keep_24 : decode cX11_keep 24 = .ok (.getfield 30, 3) := by decide +kernel
theorem dX11_keep_27 : decode cX11_keep 27 = .ok (.aload_n 0, 1) := by decide +kernel
theorem dX11_keep_28 : decode cX11_keep 28 = .ok (.getfield 58, 3) := by decide +kernel
theorem dX11_keep_31 : decode cX11_keep 31 = .ok (.getfield 336, 3) := by decide +kernel
theorem dX11_keep_34 : decode cX11_keep 34 = .ok (.aload_n 0, 1) := by decide +kernel
theorem dX11_keep_35 : decode cX11_keep 35 = .ok (.getfield 42, 3) := by decide +kernel
theorem dX11_keep_38 : decode cX11_keep 38 = .ok (.invokevirtual 337, 3) := by decide +kernel
theorem dX11_keep_41 : decode cX11_keep 41 = .ok (.aload_n 3, 1) := by decide +kernel
theorem dX11_keep_42 : decode cX11_keep 42 = .ok (.aload_n 0, 1) := by decide +kernel
theorem dX11_keep_43 : decode cX11_keep 43 = .ok (.getfield 12, 3) := by decide +kernel
theorem dX11_keep_46 : decode cX11_keep 46 = .ok (.aload_n 0, 1) := by decide +kernel
theorem dX11_keep_47 : decode cX11_keep 47 = .ok (.getfield 42, 3) := by decide +kernel
theorem dX11_keep_50 : decode cX11_keep 50 = .ok (.invokevirtual 341, 3) := by decide +kernel
theorem dX11_keep_53 : decode cX11_keep 53 = .ok (.aload_n 3, 1) := by decide +kernel
theorem dX11_keep_54 : decode cX11_keep 54 = .ok (.aload_n 1, 1) := by decide +kernel
theorem dX11_keep_55 : decode cX11_keep 55 = .ok (.aload_n 0, 1) := by decide +kernel
theorem dX11_keep_56 : decode cX11_keep 56 = .ok (.getfield 76, 3) := by decide +kernel
theorem dX11_keep_59 : decode cX11_keep 59 = .ok (.aload_n 0, 1) := by decide +kernel
theorem dX11_keep_60 : decode cX11_keep 60 = .ok (.getfield 34, 3) := by decide +kernel
theorem dX11_keep_63 : decode cX11_keep 63 = .ok (.invokevirtual 344, 3) := by decide +kernel
theorem dX11_keep_66 : decode cX11_keep 66 = .ok (.aload_n 0, 1) := by decide +kernel
theorem dX11_keep_67 : decode cX11_keep 67 = .ok (.getfield 67, 3) := by decide +kernel
theorem dX11_keep_70 : decode cX11_keep 70 = .ok (.aload_n 3, 1) := by decide +kernel
theorem dX11_keep_71 : decode cX11_keep 71 = .ok (.invokevirtual 348, 3) := by decide +kernel
theorem dX11_keep_74 : decode cX11_keep 74 = .ok (.aload_n 3, 1) := by decide +kernel
theorem dX11_keep_75 : decode cX11_keep 75 = .ok (.getfield 174, 3) := by decide +kernel
theorem dX11_keep_78 : decode cX11_keep 78 = .ok (.getfield 179, 3) := by decide +kernel
theorem dX11_keep_81 : decode cX11_keep 81 = .ok (.ifCond .ne 11, 3) := by decide +kernel
theorem dX11_keep_84 : decode cX11_keep 84 = .ok (.aload_n 0, 1) := by decide +kernel
theorem dX11_keep_85 : decode cX11_keep 85 = .ok (.iconst 1, 1) := by decide +kernel
theorem dX11_keep_86 : decode cX11_keep 86 = .ok (.putfield 106, 3) := by decide +kernel
theorem dX11_keep_89 : decode cX11_keep 89 = .ok (.goto 21, 3) := by decide +kernel
theorem dX11_keep_92 : decode cX11_keep 92 = .ok (.aload_n 0, 1) := by decide +kernel
theorem dX11_keep_93 : decode cX11_keep 93 = .ok (.getfield 19, 3) := by decide +kernel
theorem dX11_keep_96 : decode cX11_keep 96 = .ok (.getfield 124, 3) := by decide +kernel
theorem dX11_keep_99 : decode cX11_keep 99 = .ok (.sipush 150, 3) := by decide +kernel
theorem dX11_keep_102 : decode cX11_keep 102 = .ok (.if_icmp .lt 8, 3) := by decide +kernel
theorem dX11_keep_105 : decode cX11_keep 105 = .ok (.aload_n 0, 1) := by decide +kernel
theorem dX11_keep_106 : decode cX11_keep 106 = .ok (.iconst 3, 1) := by decide +kernel
theorem dX11_keep_107 : decode cX11_keep 107 = .ok (.putfield 106, 3) := by decide +kernel
theorem dX11_keep_110 : decode cX11_keep 110 = .ok (.iload_n 2, 1) := by decide +kernel
theorem dX11_keep_111 : decode cX11_keep 111 = .ok (.ireturn, 1) := by decide +kernel
theorem dX11_alike_0 : decode cX11_alike 0 = .ok (.iload_n 1, 1) := by decide +kernel
theorem dX11_alike_1 : decode cX11_alike 1 = .ok (.ifCond .lt 25, 3) := by decide +kernel
theorem dX11_alike_4 : decode cX11_alike 4 = .ok (.iload_n 3, 1) := by decide +kernel
theorem dX11_alike_5 : decode cX11_alike 5 = .ok (.ifCond .lt 21, 3) := by decide +kernel
theorem dX11_alike_8 : decode cX11_alike 8 = .ok (.iload_n 1, 1) := by decide +kernel
theorem dX11_alike_9 : decode cX11_alike 9 = .ok (.iload 4, 2) := by decide +kernel
theorem dX11_alike_11 : decode cX11_alike 11 = .ok (.iadd, 1) := by decide +kernel
theorem dX11_alike_12 : decode cX11_alike 12 = .ok (.aload_n 0, 1) := by decide +kernel
theorem dX11_alike_13 : decode cX11_alike 13 = .ok (.arraylength, 1) := by decide +kernel
theorem dX11_alike_14 : decode cX11_alike 14 = .ok (.if_icmp .gt 12, 3) := by decide +kernel
theorem dX11_alike_17 : decode cX11_alike 17 = .ok (.iload_n 3, 1) := by decide +kernel
theorem dX11_alike_18 : decode cX11_alike 18 = .ok (.iload 4, 2) := by decide +kernel
theorem dX11_alike_20 : decode cX11_alike 20 = .ok (.iadd, 1) := by decide +kernel
theorem dX11_alike_21 : decode cX11_alike 21 = .ok (.aload_n 2, 1) := by decide +kernel
theorem dX11_alike_22 : decode cX11_alike 22 = .ok (.arraylength, 1) := by decide +kernel
theorem dX11_alike_23 : decode cX11_alike 23 = .ok (.if_icmp .le 5, 3) := by decide +kernel
theorem dX11_alike_26 : decode cX11_alike 26 = .ok (.iconst 0, 1) := by decide +kernel
theorem dX11_alike_27 : decode cX11_alike 27 = .ok (.ireturn, 1) := by decide +kernel
theorem dX11_alike_28 : decode cX11_alike 28 = .ok (.iconst 0, 1) := by decide +kernel
theorem dX11_alike_29 : decode cX11_alike 29 = .ok (.istore 5, 2) := by decide +kernel
theorem dX11_alike_31 : decode cX11_alike 31 = .ok (.iload 5, 2) := by decide +kernel
theorem dX11_alike_33 : decode cX11_alike 33 = .ok (.iload 4, 2) := by decide +kernel
theorem dX11_alike_35 : decode cX11_alike 35 = .ok (.if_icmp .ge 26, 3) := by decide +kernel
theorem dX11_alike_38 : decode cX11_alike 38 = .ok (.aload_n 0, 1) := by decide +kernel
theorem dX11_alike_39 : decode cX11_alike 39 = .ok (.iload_n 1, 1) := by decide +kernel
theorem dX11_alike_40 : decode cX11_alike 40 = .ok (.iload 5, 2) := by decide +kernel
theorem dX11_alike_42 : decode cX11_alike 42 = .ok (.iadd, 1) := by decide +kernel
theorem dX11_alike_43 : decode cX11_alike 43 = .ok (.iaload, 1) := by decide +kernel
theorem dX11_alike_44 : decode cX11_alike 44 = .ok (.aload_n 2, 1) := by decide +kernel
theorem dX11_alike_45 : decode cX11_alike 45 = .ok (.iload_n 3, 1) := by decide +kernel
theorem dX11_alike_46 : decode cX11_alike 46 = .ok (.iload 5, 2) := by decide +kernel
theorem dX11_alike_48 : decode cX11_alike 48 = .ok (.iadd, 1) := by decide +kernel
theorem dX11_alike_49 : decode cX11_alike 49 = .ok (.iaload, 1) := by decide +kernel
theorem dX11_alike_50 : decode cX11_alike 50 = .ok (.if_icmp .eq 5, 3) := by decide +kernel
theorem dX11_alike_53 : decode cX11_alike 53 = .ok (.iconst 0, 1) := by decide +kernel
theorem dX11_alike_54 : decode cX11_alike 54 = .ok (.ireturn, 1) := by decide +kernel
theorem dX11_alike_55 : decode cX11_alike 55 = .ok (.iinc 5 1, 3) := by decide +kernel
theorem dX11_alike_58 : decode cX11_alike 58 = .ok (.goto (-27), 3) := by decide +kernel
theorem dX11_alike_61 : decode cX11_alike 61 = .ok (.iconst 1, 1) := by decide +kernel
theorem dX11_alike_62 : decode cX11_alike 62 = .ok (.ireturn, 1) := by decide +kernel
theorem dX12_init_0 : decode cX12_init 0 = .ok (.aload_n 0, 1) := by decide +kernel
theorem dX12_init_1 : decode cX12_init 1 = .ok (.invokespecial 1, 3) := by decide +kernel
theorem dX12_init_4 : decode cX12_init 4 = .ok (.aload_n 0, 1) := by decide +kernel
theorem dX12_init_5 : decode cX12_init 5 = .ok (.iconst 1, 1) := by decide +kernel
theorem dX12_init_6 : decode cX12_init 6 = .ok (.putfield 7, 3) := by decide +kernel
theorem dX12_init_9 : decode cX12_init 9 = .ok (.aload_n 0, 1) := by decide +kernel
theorem dX12_init_10 : decode cX12_init 10 = .ok (.bipush 16, 2) := by decide +kernel
theorem dX12_init_12 : decode cX12_init 12 = .ok (.newarray .boolean, 2) := by decide +kernel
theorem dX12_init_14 : decode cX12_init 14 = .ok (.putfield 13, 3) := by decide +kernel
theorem dX12_init_17 : decode cX12_init 17 = .ok (.aload_n 0, 1) := by decide +kernel
theorem dX12_init_18 : decode cX12_init 18 = .ok (.bipush 16, 2) := by decide +kernel
theorem dX12_init_20 : decode cX12_init 20 = .ok (.newarray .int, 2) := by decide +kernel
theorem dX12_init_22 : decode cX12_init 22 = .ok (.putfield 17, 3) := by decide +kernel
theorem dX12_init_25 : decode cX12_init 25 = .ok (.aload_n 0, 1) := by decide +kernel
theorem dX12_init_26 : decode cX12_init 26 = .ok (.bipush 16, 2) := by decide +kernel
theorem dX12_init_28 : decode cX12_init 28 = .ok (.newarray .int, 2) := by decide +kernel
theorem dX12_init_30 : decode cX12_init 30 = .ok (.putfield 21, 3) := by decide +kernel
theorem dX12_init_33 : decode cX12_init 33 = .ok (.aload_n 0, 1) := by decide +kernel
theorem dX12_init_34 : decode cX12_init 34 = .ok (.sipush 200, 3) := by decide +kernel
theorem dX12_init_37 : decode cX12_init 37 = .ok (.newarray .int, 2) := by decide +kernel
theorem dX12_init_39 : decode cX12_init 39 = .ok (.putfield 24, 3) := by decide +kernel
theorem dX12_init_42 : decode cX12_init 42 = .ok (.aload_n 0, 1) := by decide +kernel
theorem dX12_init_43 : decode cX12_init 43 = .ok (.sipush 27000, 3) := by decide +kernel
theorem dX12_init_46 : decode cX12_init 46 = .ok (.newarray .int, 2) := by decide +kernel
theorem dX12_init_48 : decode cX12_init 48 = .ok (.putfield 27, 3) := by decide +kernel
theorem dX12_init_51 : decode cX12_init 51 = .ok (.aload_n 0, 1) := by decide +kernel
theorem dX12_init_52 : decode cX12_init 52 = .ok (.sipush 900, 3) := by decide +kernel
theorem dX12_init_55 : decode cX12_init 55 = .ok (.newarray .int, 2) := by decide +kernel
theorem dX12_init_57 : decode cX12_init 57 = .ok (.putfield 30, 3) := by decide +kernel
theorem dX12_init_60 : decode cX12_init 60 = .ok (.aload_n 0, 1) := by decide +kernel
theorem dX12_init_61 : decode cX12_init 61 = .ok (.sipush 900, 3) := by decide +kernel
theorem dX12_init_64 : decode cX12_init 64 = .ok (.newarray .boolean, 2) := by decide +kernel
theorem dX12_init_66 : decode cX12_init 66 = .ok (.putfield 33, 3) := by decide +kernel
theorem dX12_init_69 : decode cX12_init 69 = .ok (.aload_n 0, 1) := by decide +kernel
theorem dX12_init_70 : decode cX12_init 70 = .ok (.sipush 150, 3) := by decide +kernel
theorem dX12_init_73 : decode cX12_init 73 = .ok (.newarray .int, 2) := by decide +kernel
theorem dX12_init_75 : decode cX12_init 75 = .ok (.putfield 36, 3) := by decide +kernel
theorem dX12_init_78 : decode cX12_init 78 = .ok (.aload_n 0, 1) := by decide +kernel
theorem dX12_init_79 : decode cX12_init 79 = .ok (.sipush 150, 3) := by decide +kernel
theorem dX12_init_82 : decode cX12_init 82 = .ok (.newarray .int, 2) := by decide +kernel
theorem dX12_init_84 : decode cX12_init 84 = .ok (.putfield 39, 3) := by decide +kernel
theorem dX12_init_87 : decode cX12_init 87 = .ok (.aload_n 0, 1) := by decide +kernel
theorem dX12_init_88 : decode cX12_init 88 = .ok (.sipush 150, 3) := by decide +kernel
theorem dX12_init_91 : decode cX12_init 91 = .ok (.newarray .int, 2) := by decide +kernel
theorem dX12_init_93 : decode cX12_init 93 = .ok (.putfield 42, 3) := by decide +kernel
theorem dX12_init_96 : decode cX12_init 96 = .ok (.aload_n 0, 1) := by decide +kernel
theorem dX12_init_97 : decode cX12_init 97 = .ok (.sipush 150, 3) := by decide +kernel
theorem dX12_init_100 : decode cX12_init 100 = .ok (.newarray .boolean, 2) := by decide +kernel
theorem dX12_init_102 : decode cX12_init 102 = .ok (.putfield 45, 3) := by decide +kernel
theorem dX12_init_105 : decode cX12_init 105 = .ok (.aload_n 0, 1) := by decide +kernel
theorem dX12_init_106 : decode cX12_init 106 = .ok (.sipush 27000, 3) := by decide +kernel
theorem dX12_init_109 : decode cX12_init 109 = .ok (.newarray .int, 2) := by decide +kernel
theorem dX12_init_111 : decode cX12_init 111 = .ok (.putfield 48, 3) := by decide +kernel
theorem dX12_init_114 : decode cX12_init 114 = .ok (.aload_n 0, 1) := by decide +kernel
theorem dX12_init_115 : decode cX12_init 115 = .ok (.sipush 900, 3) := by decide +kernel
theorem dX12_init_118 : decode cX12_init 118 = .ok (.newarray .int, 2) := by decide +kernel
theorem dX12_init_120 : decode cX12_init 120 = .ok (.putfield 51, 3) := by decide +kernel
theorem dX12_init_123 : decode cX12_init 123 = .ok (.aload_n 0, 1) := by decide +kernel
theorem dX12_init_124 : decode cX12_init 124 = .ok (.sipush 900, 3) := by decide +kernel
theorem dX12_init_127 : decode cX12_init 127 = .ok (.newarray .boolean, 2) := by decide +kernel
theorem dX12_init_129 : decode cX12_init 129 = .ok (.putfield 54, 3) := by decide +kernel
theorem dX12_init_132 : decode cX12_init 132 = .ok (.aload_n 0, 1) := by decide +kernel
theorem dX12_init_133 : decode cX12_init 133 = .ok (.sipush 150, 3) := by decide +kernel
theorem dX12_init_136 : decode cX12_init 136 = .ok (.newarray .int, 2) := by decide +kernel
theorem dX12_init_138 : decode cX12_init 138 = .ok (.putfield 57, 3) := by decide +kernel
theorem dX12_init_141 : decode cX12_init 141 = .ok (.aload_n 0, 1) := by decide +kernel
theorem dX12_init_142 : decode cX12_init 142 = .ok (.sipush 1050, 3) := by decide +kernel
theorem dX12_init_145 : decode cX12_init 145 = .ok (.newarray .int, 2) := by decide +kernel
theorem dX12_init_147 : decode cX12_init 147 = .ok (.putfield 60, 3) := by decide +kernel
theorem dX12_init_150 : decode cX12_init 150 = .ok (.aload_n 0, 1) := by decide +kernel
theorem dX12_init_151 : decode cX12_init 151 = .ok (.sipush 150, 3) := by decide +kernel
theorem dX12_init_154 : decode cX12_init 154 = .ok (.newarray .int, 2) := by decide +kernel
theorem dX12_init_156 : decode cX12_init 156 = .ok (.putfield 63, 3) := by decide +kernel
theorem dX12_init_159 : decode cX12_init 159 = .ok (.aload_n 0, 1) := by decide +kernel
theorem dX12_init_160 : decode cX12_init 160 = .ok (.sipush 4800, 3) := by decide +kernel
theorem dX12_init_163 : decode cX12_init 163 = .ok (.newarray .int, 2) := by decide +kernel
theorem dX12_init_165 : decode cX12_init 165 = .ok (.putfield 66, 3) := by decide +kernel
theorem dX12_init_168 : decode cX12_init 168 = .ok (.aload_n 0, 1) := by decide +kernel
theorem dX12_init_169 : decode cX12_init 169 = .ok (.sipush 180, 3) := by decide +kernel
theorem dX12_init_172 : decode cX12_init 172 = .ok (.newarray .int, 2) := by decide +kernel
theorem dX12_init_174 : decode cX12_init 174 = .ok (.putfield 69, 3) := by decide +kernel
theorem dX12_init_177 : decode cX12_init 177 = .ok (.aload_n 0, 1) := by decide +kernel
theorem dX12_init_178 : decode cX12_init 178 = .ok (.bipush 6, 2) := by decide +kernel
theorem dX12_init_180 : decode cX12_init 180 = .ok (.newarray .int, 2) := by decide +kernel
theorem dX12_init_182 : decode cX12_init 182 = .ok (.putfield 72, 3) := by decide +kernel
theorem dX12_init_185 : decode cX12_init 185 = .ok (.aload_n 0, 1) := by decide +kernel
theorem dX12_init_186 : decode cX12_init 186 = .ok (.bipush 6, 2) := by decide +kernel
theorem dX12_init_188 : decode cX12_init 188 = .ok (.newarray .boolean, 2) := by decide +kernel
theorem dX12_init_190 : decode cX12_init 190 = .ok (.putfield 75, 3) := by decide +kernel
theorem dX12_init_193 : decode cX12_init 193 = .ok (.aload_n 0, 1) := by decide +kernel
theorem dX12_init_194 : decode cX12_init 194 = .ok (.bipush 40, 2) := by decide +kernel
theorem dX12_init_196 : decode cX12_init 196 = .ok (.newarray .int, 2) := by decide +kernel
theorem dX12_init_198 : decode cX12_init 198 = .ok (.putfield 78, 3) := by decide +kernel
theorem dX12_init_201 : decode cX12_init 201 = .ok (.aload_n 0, 1) := by decide +kernel
theorem dX12_init_202 : decode cX12_init 202 = .ok (.bipush 30, 2) := by decide +kernel
theorem dX12_init_204 : decode cX12_init 204 = .ok (.newarray .int, 2) := by decide +kernel
theorem dX12_init_206 : decode cX12_init 206 = .ok (.putfield 81, 3) := by decide +kernel
theorem dX12_init_209 : decode cX12_init 209 = .ok (.aload_n 0, 1) := by decide +kernel
theorem dX12_init_210 : decode cX12_init 210 = .ok (.bipush 40, 2) := by decide +kernel
theorem dX12_init_212 : decode cX12_init 212 = .ok (.newarray .int, 2) := by decide +kernel
theorem dX12_init_214 : decode cX12_init 214 = .ok (.putfield 84, 3) := by decide +kernel
theorem dX12_init_217 : decode cX12_init 217 = .ok (.aload_n 0, 1) := by decide +kernel
theorem dX12_init_218 : decode cX12_init 218 = .ok (.bipush 20, 2) := by decide +kernel
theorem dX12_init_220 : decode cX12_init 220 = .ok (.newarray .int, 2) := by decide +kernel
theorem dX12_init_222 : decode cX12_init 222 = .ok (.putfield 87, 3) := by decide +kernel
theorem dX12_init_225 : decode cX12_init 225 = .ok (.aload_n 0, 1) := by decide +kernel
theorem dX12_init_226 : decode cX12_init 226 = .ok (.bipush 20, 2) := by decide +kernel
theorem dX12_init_228 : decode cX12_init 228 = .ok (.newarray .int, 2) := by decide +kernel
theorem dX12_init_230 : decode cX12_init 230 = .ok (.putfield 90, 3) := by decide +kernel
theorem dX12_init_233 : decode cX12_init 233 = .ok (.aload_n 0, 1) := by decide +kernel
theorem dX12_init_234 : decode cX12_init 234 = .ok (.bipush 7, 2) := by decide +kernel
theorem dX12_init_236 : decode cX12_init 236 = .ok (.newarray .int, 2) := by decide +kernel
theorem dX12_init_238 : decode cX12_init 238 = .ok (.putfield 93, 3) := by decide +kernel
theorem dX12_init_241 : decode cX12_init 241 = .ok (.aload_n 0, 1) := by decide +kernel
theorem dX12_init_242 : decode cX12_init 242 = .ok (.sipush 140, 3) := by decide +kernel
theorem dX12_init_245 : decode cX12_init 245 = .ok (.newarray .int, 2) := by decide +kernel
theorem dX12_init_247 : decode cX12_init 247 = .ok (.putfield 96, 3) := by decide +kernel
theorem dX12_init_250 : decode cX12_init 250 = .ok (.aload_n 0, 1) := by decide +kernel
theorem dX12_init_251 : decode cX12_init 251 = .ok (.sipush 140, 3) := by decide +kernel
theorem dX12_init_254 : decode cX12_init 254 = .ok (.newarray .int, 2) := by decide +kernel
theorem dX12_init_256 : decode cX12_init 256 = .ok (.putfield 99, 3) := by decide +kernel
theorem dX12_init_259 : decode cX12_init 259 = .ok (.aload_n 0, 1) := by decide +kernel
theorem dX12_init_260 : decode cX12_init 260 = .ok (.sipush 1000, 3) := by decide +kernel
theorem dX12_init_263 : decode cX12_init 263 = .ok (.newarray .int, 2) := by decide +kernel
theorem dX12_init_265 : decode cX12_init 265 = .ok (.putfield 102, 3) := by decide +kernel
theorem dX12_init_268 : decode cX12_init 268 = .ok (.aload_n 0, 1) := by decide +kernel
theorem dX12_init_269 : decode cX12_init 269 = .ok (.bipush 32, 2) := by decide +kernel
theorem dX12_init_271 : decode cX12_init 271 = .ok (.newarray .int, 2) := by decide +kernel
theorem dX12_init_273 : decode cX12_init 273 = .ok (.putfield 105, 3) := by decide +kernel
theorem dX12_init_276 : decode cX12_init 276 = .ok (.aload_n 0, 1) := by decide +kernel
theorem dX12_init_277 : decode cX12_init 277 = .ok (.sipush 360, 3) := by decide +kernel
theorem dX12_init_280 : decode cX12_init 280 = .ok (.newarray .int, 2) := by decide +kernel
theorem dX12_init_282 : decode cX12_init 282 = .ok (.putfield 108, 3) := by decide +kernel
theorem dX12_init_285 : decode cX12_init 285 = .ok (.aload_n 0, 1) := by decide +kernel
theorem dX12_init_286 : decode cX12_init 286 = .ok (.bipush 40, 2) := by decide +kernel
theorem dX12_init_288 : decode cX12_init 288 = .ok (.newarray .int, 2) := by decide +kernel
theorem dX12_init_290 : decode cX12_init 290 = .ok (.putfield 111, 3) := by decide +kernel
theorem dX12_init_293 : decode cX12_init 293 = .ok (.aload_n 0, 1) := by decide +kernel
theorem dX12_init_294 : decode cX12_init 294 = .ok (.sipush 4000, 3) := by decide +kernel
theorem dX12_init_297 : decode cX12_init 297 = .ok (.newarray .int, 2) := by decide +kernel
theorem dX12_init_299 : decode cX12_init 299 = .ok (.putfield 114, 3) := by decide +kernel
theorem dX12_init_302 : decode cX12_init 302 = .ok (.aload_n 0, 1) := by decide +kernel
theorem dX12_init_303 : decode cX12_init 303 = .ok (.sipush 4000, 3) := by decide +kernel
theorem dX12_init_306 : decode cX12_init 306 = .ok (.newarray .int, 2) := by decide +kernel
theorem dX12_init_308 : decode cX12_init 308 = .ok (.putfield 117, 3) := by decide +kernel
theorem dX12_init_311 : decode cX12_init 311 = .ok (.aload_n 0, 1) := by decide +kernel
theorem dX12_init_312 : decode cX12_init 312 = .ok (.sipush 4000, 3) := by decide +kernel
theorem dX12_init_315 : decode cX12_init 315 = .ok (.newarray .int, 2) := by decide +kernel
theorem dX12_init_317 : decode cX12_init 317 = .ok (.putfield 120, 3) := by decide +kernel
theorem dX12_init_320 : decode cX12_init 320 = .ok (.aload_n 0, 1) := by decide +kernel
theorem dX12_init_321 : decode cX12_init 321 = .ok (.bipush 31, 2) := by decide +kernel
theorem dX12_init_323 : decode cX12_init 323 = .ok (.newarray .int, 2) := by decide +kernel
theorem dX12_init_325 : decode cX12_init 325 = .ok (.putfield 123, 3) := by decide +kernel
theorem dX12_init_328 : decode cX12_init 328 = .ok (.aload_n 0, 1) := by decide +kernel
theorem dX12_init_329 : decode cX12_init 329 = .ok (.bipush 31, 2) := by decide +kernel
theorem dX12_init_331 : decode cX12_init 331 = .ok (.newarray .int, 2) := by decide +kernel
theorem dX12_init_333 : decode cX12_init 333 = .ok (.putfield 126, 3) := by decide +kernel
theorem dX12_init_336 : decode cX12_init 336 = .ok (.aload_n 0, 1) := by decide +kernel
theorem dX12_init_337 : decode cX12_init 337 = .ok (.iconst 4, 1) := by decide +kernel
theorem dX12_init_338 : decode cX12_init 338 = .ok (.putfield 129, 3) := by decide +kernel
theorem dX12_init_341 : decode cX12_init 341 = .ok (.aload_n 0, 1) := by decide +kernel
theorem dX12_init_342 : decode cX12_init 342 = .ok (.sipush 2000, 3) := by decide +kernel
theorem dX12_init_345 : decode cX12_init 345 = .ok (.putfield 132, 3) := by decide +kernel
theorem dX12_init_348 : decode cX12_init 348 = .ok (.aload_n 0, 1) := by decide +kernel
theorem dX12_init_349 : decode cX12_init 349 = .ok (.sipush 150, 3) := by decide +kernel
theorem dX12_init_352 : decode cX12_init 352 = .ok (.newarray .boolean, 2) := by decide +kernel
theorem dX12_init_354 : decode cX12_init 354 = .ok (.putfield 135, 3) := by decide +kernel
theorem dX12_init_357 : decode cX12_init 357 = .ok (.aload_n 0, 1) := by decide +kernel
theorem dX12_init_358 : decode cX12_init 358 = .ok (.getfield 13, 3) := by decide +kernel
theorem dX12_init_361 : decode cX12_init 361 = .ok (.iconst 0, 1) := by decide +kernel
theorem dX12_init_362 : decode cX12_init 362 = .ok (.iconst 1, 1) := by decide +kernel
theorem dX12_init_363 : decode cX12_init 363 = .ok (.bastore, 1) := by decide +kernel
theorem dX12_init_364 : decode cX12_init 364 = .ok (.aload_n 0, 1) := by decide +kernel
theorem dX12_init_365 : decode cX12_init 365 = .ok (.getfield 17, 3) := by decide +kernel
theorem dX12_init_368 : decode cX12_init 368 = .ok (.iconst 0, 1) := by decide +kernel
theorem dX12_init_369 : decode cX12_init 369 = .ok (.iconst 2, 1) := by decide +kernel
theorem dX12_init_370 : decode cX12_init 370 = .ok (.iastore, 1) := by decide +kernel
theorem dX12_init_371 : decode cX12_init 371 = .ok (.aload_n 0, 1) := by decide +kernel
theorem dX12_init_372 : decode cX12_init 372 = .ok (.getfield 21, 3) := by decide +kernel
theorem dX12_init_375 : decode cX12_init 375 = .ok (.iconst 0, 1) := by decide +kernel
theorem dX12_init_376 : decode cX12_init 376 = .ok (.iconst 1, 1) := by decide +kernel
theorem dX12_init_377 : decode cX12_init 377 = .ok (.iastore, 1) := by decide +kernel
theorem dX12_init_378 : decode cX12_init 378 = .ok (.return_, 1) := by decide +kernel
theorem dX12_in_0 : decode cX12_in 0 = .ok (.iload_n 0, 1) := by decide +kernel
theorem dX12_in_1 : decode cX12_in 1 = .ok (.iload_n 1, 1) := by decide +kernel
theorem dX12_in_2 : decode cX12_in 2 = .ok (.if_icmp .lt 12, 3) := by decide +kernel
theorem dX12_in_5 : decode cX12_in 5 = .ok (.iload_n 0, 1) := by decide +kernel
theorem dX12_in_6 : decode cX12_in 6 = .ok (.iload_n 2, 1) := by decide +kernel
theorem dX12_in_7 : decode cX12_in 7 = .ok (.if_icmp .gt 7, 3) := by decide +kernel
theorem dX12_in_10 : decode cX12_in 10 = .ok (.iconst 1, 1) := by decide +kernel
theorem dX12_in_11 : decode cX12_in 11 = .ok (.goto 4, 3) := by decide +kernel
theorem dX12_in_14 : decode cX12_in 14 = .ok (.iconst 0, 1) := by decide +kernel
theorem dX12_in_15 : decode cX12_in 15 = .ok (.ireturn, 1) := by decide +kernel
theorem dX12_sign_0 : decode cX12_sign 0 = .ok (.iload_n 2, 1) := by decide +kernel
theorem dX12_sign_1 : decode cX12_sign 1 = .ok (.iconst 0, 1) := by decide +kernel
theorem dX12_sign_2 : decode cX12_sign 2 = .ok (.iconst 3, 1) := by decide +kernel
theorem dX12_sign_3 : decode cX12_sign 3 = .ok (.invokestatic 138, 3) := by decide +kernel
theorem dX12_sign_6 : decode cX12_sign 6 = .ok (.ifCond .eq 13, 3) := by decide +kernel
theorem dX12_sign_9 : decode cX12_sign 9 = .ok (.iload_n 3, 1) := by decide +kernel
theorem dX12_sign_10 : decode cX12_sign 10 = .ok (.iconst 1, 1) := by decide +kernel
theorem dX12_sign_11 : decode cX12_sign 11 = .ok (.bipush 9, 2) := by decide +kernel
theorem dX12_sign_13 : decode cX12_sign 13 = .ok (.invokestatic 138, 3) := by decide +kernel
theorem dX12_sign_16 : decode cX12_sign 16 = .ok (.ifCond .ne 6, 3) := by decide +kernel
theorem dX12_sign_19 : decode cX12_sign 19 = .ok (.bipush (-2), 2) := by decide +kernel
theorem dX12_sign_21 : decode cX12_sign 21 = .ok (.ireturn, 1) := by decide +kernel
theorem dX12_sign_22 : decode cX12_sign 22 = .ok (.aload_n 0, 1) := by decide +kernel
theorem dX12_sign_23 : decode cX12_sign 23 = .ok (.getfield 142, 3) := by decide +kernel
theorem dX12_sign_26 : decode cX12_sign 26 = .ok (.ifCond .le 6, 3) := by decide +kernel
theorem dX12_sign_29 : decode cX12_sign 29 = .ok (.bipush (-3), 2) := by decide +kernel
theorem dX12_sign_31 : decode cX12_sign 31 = .ok (.ireturn, 1) := by decide +kernel
theorem dX12_sign_32 : decode cX12_sign 32 = .ok (.aload_n 0, 1) := by decide +kernel
theorem dX12_sign_33 : decode cX12_sign 33 = .ok (.getfield 7, 3) := by decide +kernel
theorem dX12_sign_36 : decode cX12_sign 36 = .ok (.bipush 16, 2) := by decide +kernel
theorem dX12_sign_38 : decode cX12_sign 38 = .ok (.if_icmp .ne 6, 3) := by decide +kernel
theorem dX12_sign_41 : decode cX12_sign 41 = .ok (.bipush (-4), 2) := by decide +kernel
theorem dX12_sign_43 : decode cX12_sign 43 = .ok (.ireturn, 1) := by decide +kernel
theorem dX12_sign_44 : decode cX12_sign 44 = .ok (.aload_n 0, 1) := by decide +kernel
theorem dX12_sign_45 : decode cX12_sign 45 = .ok (.getfield 13, 3) := by decide +kernel
theorem dX12_sign_48 : decode cX12_sign 48 = .ok (.aload_n 0, 1) := by decide +kernel
theorem dX12_sign_49 : decode cX12_sign 49 = .ok (.getfield 7, 3) := by decide +kernel
theorem dX12_sign_52 : decode cX12_sign 52 = .ok (.iload_n 1, 1) := by decide +kernel
theorem dX12_sign_53 : decode cX12_sign 53 = .ok (.bastore, 1) := by decide +kernel
theorem dX12_sign_54 : decode cX12_sign 54 = .ok (.aload_n 0, 1) := by decide +kernel
theorem dX12_sign_55 : decode cX12_sign 55 = .ok (.getfield 17, 3) := by decide +kernel
theorem dX12_sign_58 : decode cX12_sign 58 = .ok (.aload_n 0, 1) := by decide +kernel
theorem dX12_sign_59 : decode cX12_sign 59 = .ok (.getfield 7, 3) := by decide +kernel
theorem dX12_sign_62 : decode cX12_sign 62 = .ok (.iload_n 2, 1) := by decide +kernel
theorem dX12_sign_63 : decode cX12_sign 63 = .ok (.iastore, 1) := by decide +kernel
theorem dX12_sign_64 : decode cX12_sign 64 = .ok (.aload_n 0, 1) := by decide +kernel
theorem dX12_sign_65 : decode cX12_sign 65 = .ok (.getfield 21, 3) := by decide +kernel
theorem dX12_sign_68 : decode cX12_sign 68 = .ok (.aload_n 0, 1) := by decide +kernel
theorem dX12_sign_69 : decode cX12_sign 69 = .ok (.getfield 7, 3) := by decide +kernel
theorem dX12_sign_72 : decode cX12_sign 72 = .ok (.iload_n 3, 1) := by decide +kernel
theorem dX12_sign_73 : decode cX12_sign 73 = .ok (.iastore, 1) := by decide +kernel
theorem dX12_sign_74 : decode cX12_sign 74 = .ok (.aload_n 0, 1) := by decide +kernel
theorem dX12_sign_75 : decode cX12_sign 75 = .ok (.dup, 1) := by decide +kernel
theorem dX12_sign_76 : decode cX12_sign 76 = .ok (.getfield 7, 3) := by decide +kernel
theorem dX12_sign_79 : decode cX12_sign 79 = .ok (.iconst 1, 1) := by decide +kernel
theorem dX12_sign_80 : decode cX12_sign 80 = .ok (.iadd, 1) := by decide +kernel
theorem dX12_sign_81 : decode cX12_sign 81 = .ok (.putfield 7, 3) := by decide +kernel
theorem dX12_sign_84 : decode cX12_sign 84 = .ok (.aload_n 0, 1) := by decide +kernel
theorem dX12_sign_85 : decode cX12_sign 85 = .ok (.getfield 7, 3) := by decide +kernel
theorem dX12_sign_88 : decode cX12_sign 88 = .ok (.iconst 1, 1) := by decide +kernel
theorem dX12_sign_89 : decode cX12_sign 89 = .ok (.isub, 1) := by decide +kernel
theorem dX12_sign_90 : decode cX12_sign 90 = .ok (.ireturn, 1) := by decide +kernel
theorem dX12_draft_0 : decode cX12_draft 0 = .ok (.iload_n 1, 1) := by decide +kernel
theorem dX12_draft_1 : decode cX12_draft 1 = .ok (.bipush (-20), 2) := by decide +kernel
theorem dX12_draft_3 : decode cX12_draft 3 = .ok (.sipush 3000, 3) := by decide +kernel
theorem dX12_draft_6 : decode cX12_draft 6 = .ok (.invokestatic 138, 3) := by decide +kernel
theorem dX12_draft_9 : decode cX12_draft 9 = .ok (.ifCond .ne 6, 3) := by decide +kernel
theorem dX12_draft_12 : decode cX12_draft 12 = .ok (.bipush (-2), 2) := by decide +kernel
theorem dX12_draft_14 : decode cX12_draft 14 = .ok (.ireturn, 1) := by decide +kernel
theorem dX12_draft_15 : decode cX12_draft 15 = .ok (.aload_n 0, 1) := by decide +kernel
theorem dX12_draft_16 : decode cX12_draft 16 = .ok (.getfield 145, 3) := by decide +kernel
theorem dX12_draft_19 : decode cX12_draft 19 = .ok (.sipush 200, 3) := by decide +kernel
theorem dX12_draft_22 : decode cX12_draft 22 = .ok (.if_icmp .ne 6, 3) := by decide +kernel
theorem dX12_draft_25 : decode cX12_draft 25 = .ok (.bipush (-4), 2) := by decide +kernel
theorem dX12_draft_27 : decode cX12_draft 27 = .ok (.ireturn, 1) := by decide +kernel
theorem dX12_draft_28 : decode cX12_draft 28 = .ok (.aload_n 0, 1) := by decide +kernel
theorem dX12_draft_29 : decode cX12_draft 29 = .ok (.getfield 24, 3) := by decide +kernel
theorem dX12_draft_32 : decode cX12_draft 32 = .ok (.aload_n 0, 1) := by decide +kernel
theorem dX12_draft_33 : decode cX12_draft 33 = .ok (.getfield 145, 3) := by decide +kernel
theorem dX12_draft_36 : decode cX12_draft 36 = .ok (.iload_n 1, 1) := by decide +kernel
theorem dX12_draft_37 : decode cX12_draft 37 = .ok (.iastore, 1) := by decide +kernel
theorem dX12_draft_38 : decode cX12_draft 38 = .ok (.aload_n 0, 1) := by decide +kernel
theorem dX12_draft_39 : decode cX12_draft 39 = .ok (.dup, 1) := by decide +kernel
theorem dX12_draft_40 : decode cX12_draft 40 = .ok (.getfield 145, 3) := by decide +kernel
theorem dX12_draft_43 : decode cX12_draft 43 = .ok (.iconst 1, 1) := by decide +kernel
theorem dX12_draft_44 : decode cX12_draft 44 = .ok (.iadd, 1) := by decide +kernel
theorem dX12_draft_45 : decode cX12_draft 45 = .ok (.putfield 145, 3) := by decide +kernel
theorem dX12_draft_48 : decode cX12_draft 48 = .ok (.aload_n 0, 1) := by decide +kernel
theorem dX12_draft_49 : decode cX12_draft 49 = .ok (.getfield 145, 3) := by decide +kernel
theorem dX12_draft_52 : decode cX12_draft 52 = .ok (.ireturn, 1) := by decide +kernel
theorem dX12_wipe_0 : decode cX12_wipe 0 = .ok (.aload_n 0, 1) := by decide +kernel
theorem dX12_wipe_1 : decode cX12_wipe 1 = .ok (.getfield 145, 3) := by decide +kernel
theorem dX12_wipe_4 : decode cX12_wipe 4 = .ok (.istore_n 1, 1) := by decide +kernel
theorem dX12_wipe_5 : decode cX12_wipe 5 = .ok (.aload_n 0, 1) := by decide +kernel
theorem dX12_wipe_6 : decode cX12_wipe 6 = .ok (.iconst 0, 1) := by decide +kernel
theorem dX12_wipe_7 : decode cX12_wipe 7 = .ok (.putfield 145, 3) := by decide +kernel
theorem dX12_wipe_10 : decode cX12_wipe 10 = .ok (.iload_n 1, 1) := by decide +kernel
theorem dX12_wipe_11 : decode cX12_wipe 11 = .ok (.ireturn, 1) := by decide +kernel
theorem dX12_endOf_0 : decode cX12_endOf 0 = .ok (.iconst 1, 1) := by decide +kernel
theorem dX12_endOf_1 : decode cX12_endOf 1 = .ok (.istore_n 3, 1) := by decide +kernel
theorem dX12_endOf_2 : decode cX12_endOf 2 = .ok (.iload_n 2, 1) := by decide +kernel
theorem dX12_endOf_3 : decode cX12_endOf 3 = .ok (.istore 4, 2) := by decide +kernel
theorem dX12_endOf_5 : decode cX12_endOf 5 = .ok (.iload_n 3, 1) := by decide +kernel
theorem dX12_endOf_6 : decode cX12_endOf 6 = .ok (.ifCond .le 34, 3) := by decide +kernel
theorem dX12_endOf_9 : decode cX12_endOf 9 = .ok (.iload_n 3, 1) := by decide +kernel
theorem dX12_endOf_10 : decode cX12_endOf 10 = .ok (.aload_n 1, 1) := by decide +kernel
theorem dX12_endOf_11 : decode cX12_endOf 11 = .ok (.iload 4, 2) := by decide +kernel
theorem dX12_endOf_13 : decode cX12_endOf 13 = .ok (.iaload, 1) := by decide +kernel
theorem dX12_endOf_14 : decode cX12_endOf 14 = .ok (.ifCond .ge 7, 3) := by decide +kernel
theorem dX12_endOf_17 : decode cX12_endOf 17 = .ok (.iconst (-1), 1) := by decide +kernel
theorem dX12_endOf_18 : decode cX12_endOf 18 = .ok (.goto 14, 3) := by decide +kernel
theorem dX12_endOf_21 : decode cX12_endOf 21 = .ok (.aload_n 0, 1) := by decide +kernel
theorem dX12_endOf_22 : decode cX12_endOf 22 = .ok (.getfield 17, 3) := by decide +kernel
theorem dX12_endOf_25 : decode cX12_endOf 25 = .ok (.aload_n 1, 1) := by decide +kernel
theorem dX12_endOf_26 : decode cX12_endOf 26 = .ok (.iload 4, 2) := by decide +kernel
theorem dX12_endOf_28 : decode cX12_endOf 28 = .ok (.iaload, 1) := by decide +kernel
theorem dX12_endOf_29 : decode cX12_endOf 29 = .ok (.iaload, 1) := by decide +kernel
theorem dX12_endOf_30 : decode cX12_endOf 30 = .ok (.iconst 1, 1) := by decide +kernel
theorem dX12_endOf_31 : decode cX12_endOf 31 = .ok (.isub, 1) := by decide +kernel
theorem dX12_endOf_32 : decode cX12_endOf 32 = .ok (.iadd, 1) := by decide +kernel
theorem dX12_endOf_33 : decode cX12_endOf 33 = .ok (.istore_n 3, 1) := by decide +kernel
theorem dX12_endOf_34 : decode cX12_endOf 34 = .ok (.iinc 4 1, 3) := by decide +kernel
theorem dX12_endOf_37 : decode cX12_endOf 37 = .ok (.goto (-32), 3) := by decide +kernel
theorem dX12_endOf_40 : decode cX12_endOf 40 = .ok (.iload 4, 2) := by decide +kernel
theorem dX12_endOf_42 : decode cX12_endOf 42 = .ok (.ireturn, 1) := by decide +kernel
theorem dX12_weightOf_0 : decode cX12_weightOf 0 = .ok (.iconst 0, 1) := by decide +kernel
theorem dX12_weightOf_1 : decode cX12_weightOf 1 = .ok (.istore 4, 2) := by decide +kernel
theorem dX12_weightOf_3 : decode cX12_weightOf 3 = .ok (.iload_n 2, 1) := by decide +kernel
theorem dX12_weightOf_4 : decode cX12_weightOf 4 = .ok (.istore 5, 2) := by decide +kernel
theorem dX12_weightOf_6 : decode cX12_weightOf 6 = .ok (.iload 5, 2) := by decide +kernel
theorem dX12_weightOf_8 : decode cX12_weightOf 8 = .ok (.iload_n 3, 1) := by decide +kernel
theorem dX12_weightOf_9 : decode cX12_weightOf 9 = .ok (.if_icmp .ge 34, 3) := by decide +kernel
theorem dX12_weightOf_12 : decode cX12_weightOf 12 = .ok (.iload 4, 2) := by decide +kernel
theorem dX12_weightOf_14 : decode cX12_weightOf 14 = .ok (.aload_n 1, 1) := by decide +kernel
theorem dX12_weightOf_15 : decode cX12_weightOf 15 = .ok (.iload 5, 2) := by decide +kernel
theorem dX12_weightOf_17 : decode cX12_weightOf 17 = .ok (.iaload, 1) := by decide +kernel
theorem dX12_weightOf_18 : decode cX12_weightOf 18 = .ok (.ifCond .ge 7, 3) := by decide +kernel
theorem dX12_weightOf_21 : decode cX12_weightOf 21 = .ok (.iconst 1, 1) := by decide +kernel
theorem dX12_weightOf_22 : decode cX12_weightOf 22 = .ok (.goto 12, 3) := by decide +kernel
theorem dX12_weightOf_25 : decode cX12_weightOf 25 = .ok (.aload_n 0, 1) := by decide +kernel
theorem dX12_weightOf_26 : decode cX12_weightOf 26 = .ok (.getfield 21, 3) := by decide +kernel
theorem dX12_weightOf_29 : decode cX12_weightOf 29 = .ok (.aload_n 1, 1) := by decide +kernel
theorem dX12_weightOf_30 : decode cX12_weightOf 30 = .ok (.iload 5, 2) := by decide +kernel
theorem dX12_weightOf_32 : decode cX12_weightOf 32 = .ok (.iaload, 1) := by decide +kernel
theorem dX12_weightOf_33 : decode cX12_weightOf 33 = .ok (.iaload, 1) := by decide +kernel
theorem dX12_weightOf_34 : decode cX12_weightOf 34 = .ok (.iadd, 1) := by decide +kernel
theorem dX12_weightOf_35 : decode cX12_weightOf 35 = .ok (.istore 4, 2) := by decide +kernel
theorem dX12_weightOf_37 : decode cX12_weightOf 37 = .ok (.iinc 5 1, 3) := by decide +kernel
theorem dX12_weightOf_40 : decode cX12_weightOf 40 = .ok (.goto (-34), 3) := by decide +kernel
theorem dX12_weightOf_43 : decode cX12_weightOf 43 = .ok (.iload 4, 2) := by decide +kernel
theorem dX12_weightOf_45 : decode cX12_weightOf 45 = .ok (.ireturn, 1) := by decide +kernel
theorem dX12_isLike_0 : decode cX12_isLike 0 = .ok (.iconst 0, 1) := by decide +kernel
theorem dX12_isLike_1 : decode cX12_isLike 1 = .ok (.istore 5, 2) := by decide +kernel
theorem dX12_isLike_3 : decode cX12_isLike 3 = .ok (.iload 5, 2) := by decide +kernel
theorem dX12_isLike_5 : decode cX12_isLike 5 = .ok (.iload 4, 2) := by decide +kernel
theorem dX12_isLike_7 : decode cX12_isLike 7 = .ok (.if_icmp .ge 26, 3) := by decide +kernel
theorem dX12_isLike_10 : decode cX12_isLike 10 = .ok (.aload_n 0, 1) := by decide +kernel
theorem dX12_isLike_11 : decode cX12_isLike 11 = .ok (.iload_n 1, 1) := by decide +kernel
theorem dX12_isLike_12 : decode cX12_isLike 12 = .ok (.iload 5, 2) := by decide +kernel
theorem dX12_isLike_14 : decode cX12_isLike 14 = .ok (.iadd, 1) := by decide +kernel
theorem dX12_isLike_15 : decode cX12_isLike 15 = .ok (.iaload, 1) := by decide +kernel
theorem dX12_isLike_16 : decode cX12_isLike 16 = .ok (.aload_n 2, 1) := by decide +kernel
theorem dX12_isLike_17 : decode cX12_isLike 17 = .ok (.iload_n 3, 1) := by decide +kernel
theorem dX12_isLike_18 : decode cX12_isLike 18 = .ok (.iload 5, 2) := by decide +kernel
theorem dX12_isLike_20 : decode cX12_isLike 20 = .ok (.iadd, 1) := by decide +kernel
theorem dX12_isLike_21 : decode cX12_isLike 21 = .ok (.iaload, 1) := by decide +kernel
theorem dX12_isLike_22 : decode cX12_isLike 22 = .ok (.if_icmp .eq 5, 3) := by decide +kernel
theorem dX12_isLike_25 : decode cX12_isLike 25 = .ok (.iconst 0, 1) := by decide +kernel
theorem dX12_isLike_26 : decode cX12_isLike 26 = .ok (.ireturn, 1) := by decide +kernel
theorem dX12_isLike_27 : decode cX12_isLike 27 = .ok (.iinc 5 1, 3) := by decide +kernel
theorem dX12_isLike_30 : decode cX12_isLike 30 = .ok (.goto (-27), 3) := by decide +kernel
theorem dX12_isLike_33 : decode cX12_isLike 33 = .ok (.iconst 1, 1) := by decide +kernel
theorem dX12_isLike_34 : decode cX12_isLike 34 = .ok (.ireturn, 1) := by decide +kernel
theorem dX12_areLike_0 : decode cX12_areLike 0 = .ok (.aload_n 0, 1) := by decide +kernel
theorem dX12_areLike_1 : decode cX12_areLike 1 = .ok (.aload_n 1, 1) := by decide +kernel
theorem dX12_areLike_2 : decode cX12_areLike 2 = .ok (.iload_n 2, 1) := by decide +kernel
theorem dX12_areLike_3 : decode cX12_areLike 3 = .ok (.invokevirtual 148, 3) := by decide +kernel
theorem dX12_areLike_6 : decode cX12_areLike 6 = .ok (.iload_n 2, 1) := by decide +kernel
theorem dX12_areLike_7 : decode cX12_areLike 7 = .ok (.isub, 1) := by decide +kernel
theorem dX12_areLike_8 : decode cX12_areLike 8 = .ok (.istore 5, 2) := by decide +kernel
theorem dX12_areLike_10 : decode cX12_areLike 10 = .ok (.aload_n 0, 1) := by decide +kernel
theorem dX12_areLike_11 : decode cX12_areLike 11 = .ok (.aload_n 3, 1) := by decide +kernel
theorem dX12_areLike_12 : decode cX12_areLike 12 = .ok (.iload 4, 2) := by decide +kernel
theorem dX12_areLike_14 : decode cX12_areLike 14 = .ok (.invokevirtual 148, 3) := by decide +kernel
theorem dX12_areLike_17 : decode cX12_areLike 17 = .ok (.iload 4, 2) := by decide +kernel
theorem dX12_areLike_19 : decode cX12_areLike 19 = .ok (.isub, 1) := by decide +kernel
theorem dX12_areLike_20 : decode cX12_areLike 20 = .ok (.iload 5, 2) := by decide +kernel
theorem dX12_areLike_22 : decode cX12_areLike 22 = .ok (.if_icmp .ne 20, 3) := by decide +kernel
theorem dX12_areLike_25 : decode cX12_areLike 25 = .ok (.aload_n 1, 1) := by decide +kernel
theorem dX12_areLike_26 : decode cX12_areLike 26 = .ok (.iload_n 2, 1) := by decide +kernel
theorem dX12_areLike_27 : decode cX12_areLike 27 = .ok (.aload_n 3, 1) := by decide +kernel
theorem dX12_areLike_28 : decode cX12_areLike 28 = .ok (.iload 4, 2) := by decide +kernel
theorem dX12_areLike_30 : decode cX12_areLike 30 = .ok (.iload 5, 2) := by decide +kernel
theorem dX12_areLike_32 : decode cX12_areLike 32 = .ok (.invokestatic 152, 3) := by decide +kernel
theorem dX12_areLike_35 : decode cX12_areLike 35 = .ok (.ifCond .eq 7, 3) := by decide +kernel
theorem dX12_areLike_38 : decode cX12_areLike 38 = .ok (.iconst 1, 1) := by decide +kernel
theorem dX12_areLike_39 : decode cX12_areLike 39 = .ok (.goto 4, 3) := by decide +kernel
theorem dX12_areLike_42 : decode cX12_areLike 42 = .ok (.iconst 0, 1) := by decide +kernel
theorem dX12_areLike_43 : decode cX12_areLike 43 = .ok (.ireturn, 1) := by decide +kernel
theorem dX12_hasLetters_0 : decode cX12_hasLetters 0 = .ok (.iconst 0, 1) := by decide +kernel
theorem dX12_hasLetters_1 : decode cX12_hasLetters 1 = .ok (.istore 5, 2) := by decide +kernel
theorem dX12_hasLetters_3 : decode cX12_hasLetters 3 = .ok (.iload 5, 2) := by decide +kernel
theorem dX12_hasLetters_5 : decode cX12_hasLetters 5 = .ok (.bipush 40, 2) := by decide +kernel
theorem dX12_hasLetters_7 : decode cX12_hasLetters 7 = .ok (.if_icmp .ge 17, 3) := by decide +kernel
theorem dX12_hasLetters_10 : decode cX12_hasLetters 10 = .ok (.aload_n 0, 1) := by decide +kernel
theorem dX12_hasLetters_11 : decode cX12_hasLetters 11 = .ok (.getfield 78, 3) := by decide +kernel
theorem dX12_hasLetters_14 : decode cX12_hasLetters 14 = .ok (.iload 5, 2) := by decide +kernel
theorem dX12_hasLetters_16 : decode cX12_hasLetters 16 = .ok (.iconst 0, 1) := by decide +kernel
theorem dX12_hasLetters_17 : decode cX12_hasLetters 17 = .ok (.iastore, 1) := by decide +kernel
theorem dX12_hasLetters_18 : decode cX12_hasLetters 18 = .ok (.iinc 5 1, 3) := by decide +kernel
theorem dX12_hasLetters_21 : decode cX12_hasLetters 21 = .ok (.goto (-18), 3) := by decide +kernel
theorem dX12_hasLetters_24 : decode cX12_hasLetters 24 = .ok (.aload_n 0, 1) := by decide +kernel
theorem dX12_hasLetters_25 : decode cX12_hasLetters 25 = .ok (.aload_n 1, 1) := by decide +kernel
theorem dX12_hasLetters_26 : decode cX12_hasLetters 26 = .ok (.iload_n 2, 1) := by decide +kernel
theorem dX12_hasLetters_27 : decode cX12_hasLetters 27 = .ok (.invokevirtual 148, 3) := by decide +kernel
theorem dX12_hasLetters_30 : decode cX12_hasLetters 30 = .ok (.iconst 1, 1) := by decide +kernel
theorem dX12_hasLetters_31 : decode cX12_hasLetters 31 = .ok (.isub, 1) := by decide +kernel
theorem dX12_hasLetters_32 : decode cX12_hasLetters 32 = .ok (.istore 5, 2) := by decide +kernel
theorem dX12_hasLetters_34 : decode cX12_hasLetters 34 = .ok (.iload 5, 2) := by decide +kernel
theorem dX12_hasLetters_36 : decode cX12_hasLetters 36 = .ok (.iload_n 2, 1) := by decide +kernel
theorem dX12_hasLetters_37 : decode cX12_hasLetters 37 = .ok (.if_icmp .lt 31, 3) := by decide +kernel
theorem dX12_hasLetters_40 : decode cX12_hasLetters 40 = .ok (.aload_n 1, 1) := by decide +kernel
theorem dX12_hasLetters_41 : decode cX12_hasLetters 41 = .ok (.iload 5, 2) := by decide +kernel
theorem dX12_hasLetters_43 : decode cX12_hasLetters 43 = .ok (.iaload, 1) := by decide +kernel
theorem dX12_hasLetters_44 : decode cX12_hasLetters 44 = .ok (.ifCond .ge 18, 3) := by decide +kernel
theorem dX12_hasLetters_47 : decode cX12_hasLetters 47 = .ok (.aload_n 0, 1) := by decide +kernel
theorem dX12_hasLetters_48 : decode cX12_hasLetters 48 = .ok (.getfield 78, 3) := by decide +kernel
theorem dX12_hasLetters_51 : decode cX12_hasLetters 51 = .ok (.iconst (-1), 1) := by decide +kernel
theorem dX12_hasLetters_52 : decode cX12_hasLetters 52 = .ok (.aload_n 1, 1) := by decide +kernel
theorem dX12_hasLetters_53 : decode cX12_hasLetters 53 = .ok (.iload 5, 2) := by decide +kernel
theorem dX12_hasLetters_55 : decode cX12_hasLetters 55 = .ok (.iaload, 1) := by decide +kernel
theorem dX12_hasLetters_56 : decode cX12_hasLetters 56 = .ok (.isub, 1) := by decide +kernel
theorem dX12_hasLetters_57 : decode cX12_hasLetters 57 = .ok (.dup2, 1) := by decide +kernel
theorem dX12_hasLetters_58 : decode cX12_hasLetters 58 = .ok (.iaload, 1) := by decide +kernel
theorem dX12_hasLetters_59 : decode cX12_hasLetters 59 = .ok (.iconst 1, 1) := by decide +kernel
theorem dX12_hasLetters_60 : decode cX12_hasLetters 60 = .ok (.iadd, 1) := by decide +kernel
theorem dX12_hasLetters_61 : decode cX12_hasLetters 61 = .ok (.iastore, 1) := by decide +kernel
theorem dX12_hasLetters_62 : decode cX12_hasLetters 62 = .ok (.iinc 5 (-1), 3) := by decide +kernel
theorem dX12_hasLetters_65 : decode cX12_hasLetters 65 = .ok (.goto (-31), 3) := by decide +kernel
theorem dX12_hasLetters_68 : decode cX12_hasLetters 68 = .ok (.aload_n 0, 1) := by decide +kernel
theorem dX12_hasLetters_69 : decode cX12_hasLetters 69 = .ok (.aload_n 3, 1) := by decide +kernel
theorem dX12_hasLetters_70 : decode cX12_hasLetters 70 = .ok (.iload 4, 2) := by decide +kernel
theorem dX12_hasLetters_72 : decode cX12_hasLetters 72 = .ok (.invokevirtual 148, 3) := by decide +kernel
theorem dX12_hasLetters_75 : decode cX12_hasLetters 75 = .ok (.iconst 1, 1) := by decide +kernel
theorem dX12_hasLetters_76 : decode cX12_hasLetters 76 = .ok (.isub, 1) := by decide +kernel
theorem dX12_hasLetters_77 : decode cX12_hasLetters 77 = .ok (.istore 5, 2) := by decide +kernel
theorem dX12_hasLetters_79 : decode cX12_hasLetters 79 = .ok (.iload 5, 2) := by decide +kernel
theorem dX12_hasLetters_81 : decode cX12_hasLetters 81 = .ok (.iload 4, 2) := by decide +kernel
theorem dX12_hasLetters_83 : decode cX12_hasLetters 83 = .ok (.if_icmp .lt 31, 3) := by decide +kernel
theorem dX12_hasLetters_86 : decode cX12_hasLetters 86 = .ok (.aload_n 3, 1) := by decide +kernel
theorem dX12_hasLetters_87 : decode cX12_hasLetters 87 = .ok (.iload 5, 2) := by decide +kernel
theorem dX12_hasLetters_89 : decode cX12_hasLetters 89 = .ok (.iaload, 1) := by decide +kernel
theorem dX12_hasLetters_90 : decode cX12_hasLetters 90 = .ok (.ifCond .ge 18, 3) := by decide +kernel
theorem dX12_hasLetters_93 : decode cX12_hasLetters 93 = .ok (.aload_n 0, 1) := by decide +kernel
theorem dX12_hasLetters_94 : decode cX12_hasLetters 94 = .ok (.getfield 78, 3) := by decide +kernel
theorem dX12_hasLetters_97 : decode cX12_hasLetters 97 = .ok (.iconst (-1), 1) := by decide +kernel
theorem dX12_hasLetters_98 : decode cX12_hasLetters 98 = .ok (.aload_n 3, 1) := by decide +kernel
theorem dX12_hasLetters_99 : decode cX12_hasLetters 99 = .ok (.iload 5, 2) := by decide +kernel
theorem dX12_hasLetters_101 : decode cX12_hasLetters 101 = .ok (.iaload, 1) := by decide +kernel
theorem dX12_hasLetters_102 : decode cX12_hasLetters 102 = .ok (.isub, 1) := by decide +kernel
theorem dX12_hasLetters_103 : decode cX12_hasLetters 103 = .ok (.dup2, 1) := by decide +kernel
theorem dX12_hasLetters_104 : decode cX12_hasLetters 104 = .ok (.iaload, 1) := by decide +kernel
theorem dX12_hasLetters_105 : decode cX12_hasLetters 105 = .ok (.iconst 1, 1) := by decide +kernel
theorem dX12_hasLetters_106 : decode cX12_hasLetters 106 = .ok (.isub, 1) := by decide +kernel
theorem dX12_hasLetters_107 : decode cX12_hasLetters 107 = .ok (.iastore, 1) := by decide +kernel
theorem dX12_hasLetters_108 : decode cX12_hasLetters 108 = .ok (.iinc 5 (-1), 3) := by decide +kernel
theorem dX12_hasLetters_111 : decode cX12_hasLetters 111 = .ok (.goto (-32), 3) := by decide +kernel
theorem dX12_hasLetters_114 : decode cX12_hasLetters 114 = .ok (.iconst 0, 1) := by decide +kernel
theorem dX12_hasLetters_115 : decode cX12_hasLetters 115 = .ok (.istore 5, 2) := by decide +kernel
theorem dX12_hasLetters_117 : decode cX12_hasLetters 117 = .ok (.iload 5, 2) := by decide +kernel
theorem dX12_hasLetters_119 : decode cX12_hasLetters 119 = .ok (.bipush 40, 2) := by decide +kernel
theorem dX12_hasLetters_121 : decode cX12_hasLetters 121 = .ok (.if_icmp .ge 21, 3) := by decide +kernel
theorem dX12_hasLetters_124 : decode cX12_hasLetters 124 = .ok (.aload_n 0, 1) := by decide +kernel
theorem dX12_hasLetters_125 : decode cX12_hasLetters 125 = .ok (.getfield 78, 3) := by decide +kernel
theorem dX12_hasLetters_128 : decode cX12_hasLetters 128 = .ok (.iload 5, 2) := by decide +kernel
theorem dX12_hasLetters_130 : decode cX12_hasLetters 130 = .ok (.iaload, 1) := by decide +kernel
theorem dX12_hasLetters_131 : decode cX12_hasLetters 131 = .ok (.ifCond .ge 5, 3) := by decide +kernel
theorem dX12_hasLetters_134 : decode cX12_hasLetters 134 = .ok (.iconst 0, 1) := by decide +kernel
theorem dX12_hasLetters_135 : decode cX12_hasLetters 135 = .ok (.ireturn, 1) := by decide +kernel
theorem dX12_hasLetters_136 : decode cX12_hasLetters 136 = .ok (.iinc 5 1, 3) := by decide +kernel
theorem dX12_hasLetters_139 : decode cX12_hasLetters 139 = .ok (.goto (-22), 3) := by decide +kernel
theorem dX12_hasLetters_142 : decode cX12_hasLetters 142 = .ok (.iconst 1, 1) := by decide +kernel
theorem dX12_hasLetters_143 : decode cX12_hasLetters 143 = .ok (.ireturn, 1) := by decide +kernel
theorem dX12_isGreater_0 : decode cX12_isGreater 0 = .ok (.iload_n 2, 1) := by decide +kernel
theorem dX12_isGreater_1 : decode cX12_isGreater 1 = .ok (.istore 5, 2) := by decide +kernel
theorem dX12_isGreater_3 : decode cX12_isGreater 3 = .ok (.iload 4, 2) := by decide +kernel
theorem dX12_isGreater_5 : decode cX12_isGreater 5 = .ok (.istore 6, 2) := by decide +kernel
theorem dX12_isGreater_7 : decode cX12_isGreater 7 = .ok (.aload_n 0, 1) := by decide +kernel
theorem dX12_isGreater_8 : decode cX12_isGreater 8 = .ok (.aload_n 1, 1) := by decide +kernel
theorem dX12_isGreater_9 : decode cX12_isGreater 9 = .ok (.iload 5, 2) := by decide +kernel
theorem dX12_isGreater_11 : decode cX12_isGreater 11 = .ok (.aload_n 3, 1) := by decide +kernel
theorem dX12_isGreater_12 : decode cX12_isGreater 12 = .ok (.iload 6, 2) := by decide +kernel
theorem dX12_isGreater_14 : decode cX12_isGreater 14 = .ok (.invokevirtual 156, 3) := by decide +kernel
theorem dX12_isGreater_17 : decode cX12_isGreater 17 = .ok (.ifCond .ne 5, 3) := by decide +kernel
theorem dX12_isGreater_20 : decode cX12_isGreater 20 = .ok (.iconst 0, 1) := by decide +kernel
theorem dX12_isGreater_21 : decode cX12_isGreater 21 = .ok (.ireturn, 1) := by decide +kernel
theorem dX12_isGreater_22 : decode cX12_isGreater 22 = .ok (.aload_n 0, 1) := by decide +kernel
theorem dX12_isGreater_23 : decode cX12_isGreater 23 = .ok (.aload_n 1, 1) := by decide +kernel
theorem dX12_isGreater_24 : decode cX12_isGreater 24 = .ok (.iload 5, 2) := by decide +kernel
theorem dX12_isGreater_26 : decode cX12_isGreater 26 = .ok (.aload_n 0, 1) := by decide +kernel
theorem dX12_isGreater_27 : decode cX12_isGreater 27 = .ok (.aload_n 1, 1) := by decide +kernel
theorem dX12_isGreater_28 : decode cX12_isGreater 28 = .ok (.iload 5, 2) := by decide +kernel
theorem dX12_isGreater_30 : decode cX12_isGreater 30 = .ok (.invokevirtual 148, 3) := by decide +kernel
theorem dX12_isGreater_33 : decode cX12_isGreater 33 = .ok (.invokevirtual 160, 3) := by decide +kernel
theorem dX12_isGreater_36 : decode cX12_isGreater 36 = .ok (.istore 7, 2) := by decide +kernel
theorem dX12_isGreater_38 : decode cX12_isGreater 38 = .ok (.aload_n 0, 1) := by decide +kernel
theorem dX12_isGreater_39 : decode cX12_isGreater 39 = .ok (.aload_n 3, 1) := by decide +kernel
theorem dX12_isGreater_40 : decode cX12_isGreater 40 = .ok (.iload 6, 2) := by decide +kernel
theorem dX12_isGreater_42 : decode cX12_isGreater 42 = .ok (.aload_n 0, 1) := by decide +kernel
theorem dX12_isGreater_43 : decode cX12_isGreater 43 = .ok (.aload_n 3, 1) := by decide +kernel
theorem dX12_isGreater_44 : decode cX12_isGreater 44 = .ok (.iload 6, 2) := by decide +kernel
theorem dX12_isGreater_46 : decode cX12_isGreater 46 = .ok (.invokevirtual 148, 3) := by decide +kernel
theorem dX12_isGreater_49 : decode cX12_isGreater 49 = .ok (.invokevirtual 160, 3) := by decide +kernel
theorem dX12_isGreater_52 : decode cX12_isGreater 52 = .ok (.istore 8, 2) := by decide +kernel
theorem dX12_isGreater_54 : decode cX12_isGreater 54 = .ok (.iload 7, 2) := by decide +kernel
theorem dX12_isGreater_56 : decode cX12_isGreater 56 = .ok (.iload 8, 2) := by decide +kernel
theorem dX12_isGreater_58 : decode cX12_isGreater 58 = .ok (.if_icmp .eq 16, 3) := by decide +kernel
theorem dX12_isGreater_61 : decode cX12_isGreater 61 = .ok (.iload 7, 2) := by decide +kernel
theorem dX12_isGreater_63 : decode cX12_isGreater 63 = .ok (.iload 8, 2) := by decide +kernel
theorem dX12_isGreater_65 : decode cX12_isGreater 65 = .ok (.if_icmp .le 7, 3) := by decide +kernel
theorem dX12_isGreater_68 : decode cX12_isGreater 68 = .ok (.iconst 1, 1) := by decide +kernel
theorem dX12_isGreater_69 : decode cX12_isGreater 69 = .ok (.goto 4, 3) := by decide +kernel
theorem dX12_isGreater_72 : decode cX12_isGreater 72 = .ok (.iconst 0, 1) := by decide +kernel
theorem dX12_isGreater_73 : decode cX12_isGreater 73 = .ok (.ireturn, 1) := by decide +kernel
theorem dX12_isGreater_74 : decode cX12_isGreater 74 = .ok (.aload_n 1, 1) := by decide +kernel
theorem dX12_isGreater_75 : decode cX12_isGreater 75 = .ok (.iload 5, 2) := by decide +kernel
theorem dX12_isGreater_77 : decode cX12_isGreater 77 = .ok (.iaload, 1) := by decide +kernel
theorem dX12_isGreater_78 : decode cX12_isGreater 78 = .ok (.ifCond .lt 10, 3) := by decide +kernel
theorem dX12_isGreater_81 : decode cX12_isGreater 81 = .ok (.aload_n 3, 1) := by decide +kernel
theorem dX12_isGreater_82 : decode cX12_isGreater 82 = .ok (.iload 6, 2) := by decide +kernel
theorem dX12_isGreater_84 : decode cX12_isGreater 84 = .ok (.iaload, 1) := by decide +kernel
theorem dX12_isGreater_85 : decode cX12_isGreater 85 = .ok (.ifCond .ge 5, 3) := by decide +kernel
theorem dX12_isGreater_88 : decode cX12_isGreater 88 = .ok (.iconst 0, 1) := by decide +kernel
theorem dX12_isGreater_89 : decode cX12_isGreater 89 = .ok (.ireturn, 1) := by decide +kernel
theorem dX12_isGreater_90 : decode cX12_isGreater 90 = .ok (.aload_n 1, 1) := by decide +kernel
theorem dX12_isGreater_91 : decode cX12_isGreater 91 = .ok (.iload 5, 2) := by decide +kernel
theorem dX12_isGreater_93 : decode cX12_isGreater 93 = .ok (.iaload, 1) := by decide +kernel
theorem dX12_isGreater_94 : decode cX12_isGreater 94 = .ok (.aload_n 3, 1) := by decide +kernel
theorem dX12_isGreater_95 : decode cX12_isGreater 95 = .ok (.iload 6, 2) := by decide +kernel
theorem dX12_isGreater_97 : decode cX12_isGreater 97 = .ok (.iaload, 1) := by decide +kernel
theorem dX12_isGreater_98 : decode cX12_isGreater 98 = .ok (.if_icmp .eq 20, 3) := by decide +kernel
theorem dX12_isGreater_101 : decode cX12_isGreater 101 = .ok (.aload_n 1, 1) := by decide +kernel
theorem dX12_isGreater_102 : decode cX12_isGreater 102 = .ok (.iload 5, 2) := by decide +kernel
theorem dX12_isGreater_104 : decode cX12_isGreater 104 = .ok (.iaload, 1) := by decide +kernel
theorem dX12_isGreater_105 : decode cX12_isGreater 105 = .ok (.aload_n 3, 1) := by decide +kernel
theorem dX12_isGreater_106 : decode cX12_isGreater 106 = .ok (.iload 6, 2) := by decide +kernel
theorem dX12_isGreater_108 : decode cX12_isGreater 108 = .ok (.iaload, 1) := by decide +kernel
theorem dX12_isGreater_109 : decode cX12_isGreater 109 = .ok (.if_icmp .le 7, 3) := by decide +kernel
theorem dX12_isGreater_112 : decode cX12_isGreater 112 = .ok (.iconst 1, 1) := by decide +kernel
theorem dX12_isGreater_113 : decode cX12_isGreater 113 = .ok (.goto 4, 3) := by decide +kernel
theorem dX12_isGreater_116 : decode cX12_isGreater 116 = .ok (.iconst 0, 1) := by decide +kernel
theorem dX12_isGreater_117 : decode cX12_isGreater 117 = .ok (.ireturn, 1) := by decide +kernel
theorem dX12_isGreater_118 : decode cX12_isGreater 118 = .ok (.aload_n 0, 1) := by decide +kernel
theorem dX12_isGreater_119 : decode cX12_isGreater 119 = .ok (.getfield 17, 3) := by decide +kernel
theorem dX12_isGreater_122 : decode cX12_isGreater 122 = .ok (.aload_n 1, 1) := by decide +kernel
theorem dX12_isGreater_123 : decode cX12_isGreater 123 = .ok (.iload 5, 2) := by decide +kernel
theorem dX12_isGreater_125 : decode cX12_isGreater 125 = .ok (.iaload, 1) := by decide +kernel
theorem dX12_isGreater_126 : decode cX12_isGreater 126 = .ok (.iaload, 1) := by decide +kernel
theorem dX12_isGreater_127 : decode cX12_isGreater 127 = .ok (.istore 9, 2) := by decide +kernel
theorem dX12_isGreater_129 : decode cX12_isGreater 129 = .ok (.iinc 5 1, 3) := by decide +kernel
theorem dX12_isGreater_132 : decode cX12_isGreater 132 = .ok (.iinc 6 1, 3) := by decide +kernel
theorem dX12_isGreater_135 : decode cX12_isGreater 135 = .ok (.iload 9, 2) := by decide +kernel
theorem dX12_isGreater_137 : decode cX12_isGreater 137 = .ok (.ifCond .le 40, 3) := by decide +kernel
theorem dX12_isGreater_140 : decode cX12_isGreater 140 = .ok (.aload_n 0, 1) := by decide +kernel
theorem dX12_isGreater_141 : decode cX12_isGreater 141 = .ok (.aload_n 1, 1) := by decide +kernel
theorem dX12_isGreater_142 : decode cX12_isGreater 142 = .ok (.iload 5, 2) := by decide +kernel
theorem dX12_isGreater_144 : decode cX12_isGreater 144 = .ok (.aload_n 3, 1) := by decide +kernel
theorem dX12_isGreater_145 : decode cX12_isGreater 145 = .ok (.iload 6, 2) := by decide +kernel
theorem dX12_isGreater_147 : decode cX12_isGreater 147 = .ok (.invokevirtual 164, 3) := by decide +kernel
theorem dX12_isGreater_150 : decode cX12_isGreater 150 = .ok (.ifCond .eq 27, 3) := by decide +kernel
theorem dX12_isGreater_153 : decode cX12_isGreater 153 = .ok (.aload_n 0, 1) := by decide +kernel
theorem dX12_isGreater_154 : decode cX12_isGreater 154 = .ok (.aload_n 1, 1) := by decide +kernel
theorem dX12_isGreater_155 : decode cX12_isGreater 155 = .ok (.iload 5, 2) := by decide +kernel
theorem dX12_isGreater_157 : decode cX12_isGreater 157 = .ok (.invokevirtual 148, 3) := by decide +kernel
theorem dX12_isGreater_160 : decode cX12_isGreater 160 = .ok (.istore 5, 2) := by decide +kernel
theorem dX12_isGreater_162 : decode cX12_isGreater 162 = .ok (.aload_n 0, 1) := by decide +kernel
theorem dX12_isGreater_163 : decode cX12_isGreater 163 = .ok (.aload_n 3, 1) := by decide +kernel
theorem dX12_isGreater_164 : decode cX12_isGreater 164 = .ok (.iload 6, 2) := by decide +kernel
theorem dX12_isGreater_166 : decode cX12_isGreater 166 = .ok (.invokevirtual 148, 3) := by decide +kernel
theorem dX12_isGreater_169 : decode cX12_isGreater 169 = .ok (.istore 6, 2) := by decide +kernel
theorem dX12_isGreater_171 : decode cX12_isGreater 171 = .ok (.iinc 9 (-1), 3) := by decide +kernel
theorem dX12_isGreater_174 : decode cX12_isGreater 174 = .ok (.goto (-39), 3) := by decide +kernel
theorem dX12_isGreater_177 : decode cX12_isGreater 177 = .ok (.iload 9, 2) := by decide +kernel
theorem dX12_isGreater_179 : decode cX12_isGreater 179 = .ok (.ifCond .ne 5, 3) := by decide +kernel
theorem dX12_isGreater_182 : decode cX12_isGreater 182 = .ok (.iconst 0, 1) := by decide +kernel
theorem dX12_isGreater_183 : decode cX12_isGreater 183 = .ok (.ireturn, 1) := by decide +kernel
theorem dX12_isGreater_184 : decode cX12_isGreater 184 = .ok (.goto (-177), 3) := by decide +kernel
theorem dX12_exchange_0 : decode cX12_exchange 0 = .ok (.bipush 30, 2) := by decide +kernel
theorem dX12_exchange_2 : decode cX12_exchange 2 = .ok (.iload_n 1, 1) := by decide +kernel
theorem dX12_exchange_3 : decode cX12_exchange 3 = .ok (.imul, 1) := by decide +kernel
theorem dX12_exchange_4 : decode cX12_exchange 4 = .ok (.iconst 1, 1) := by decide +kernel
theorem dX12_exchange_5 : decode cX12_exchange 5 = .ok (.iadd, 1) := by decide +kernel
theorem dX12_exchange_6 : decode cX12_exchange 6 = .ok (.istore_n 2, 1) := by decide +kernel
theorem dX12_exchange_7 : decode cX12_exchange 7 = .ok (.aload_n 0, 1) := by decide +kernel
theorem dX12_exchange_8 : decode cX12_exchange 8 = .ok (.aload_n 0, 1) := by decide +kernel
theorem dX12_exchange_9 : decode cX12_exchange 9 = .ok (.getfield 69, 3) := by decide +kernel
theorem dX12_exchange_12 : decode cX12_exchange 12 = .ok (.iload_n 2, 1) := by decide +kernel
theorem dX12_exchange_13 : decode cX12_exchange 13 = .ok (.invokevirtual 148, 3) := by decide +kernel
theorem dX12_exchange_16 : decode cX12_exchange 16 = .ok (.istore_n 3, 1) := by decide +kernel
theorem dX12_exchange_17 : decode cX12_exchange 17 = .ok (.bipush 30, 2) := by decide +kernel
theorem dX12_exchange_19 : decode cX12_exchange 19 = .ok (.iload_n 1, 1) := by decide +kernel
theorem dX12_exchange_20 : decode cX12_exchange 20 = .ok (.imul, 1) := by decide +kernel
theorem dX12_exchange_21 : decode cX12_exchange 21 = .ok (.aload_n 0, 1) := by decide +kernel
theorem dX12_exchange_22 : decode cX12_exchange 22 = .ok (.getfield 72, 3) := by decide +kernel
theorem dX12_exchange_25 : decode cX12_exchange 25 = .ok (.iload_n 1, 1) := by decide +kernel
theorem dX12_exchange_26 : decode cX12_exchange 26 = .ok (.iaload, 1) := by decide +kernel
theorem dX12_exchange_27 : decode cX12_exchange 27 = .ok (.iadd, 1) := by decide +kernel
theorem dX12_exchange_28 : decode cX12_exchange 28 = .ok (.istore 4, 2) := by decide +kernel
theorem dX12_exchange_30 : decode cX12_exchange 30 = .ok (.iload_n 3, 1) := by decide +kernel
theorem dX12_exchange_31 : decode cX12_exchange 31 = .ok (.iload_n 2, 1) := by decide +kernel
theorem dX12_exchange_32 : decode cX12_exchange 32 = .ok (.isub, 1) := by decide +kernel
theorem dX12_exchange_33 : decode cX12_exchange 33 = .ok (.istore 5, 2) := by decide +kernel
theorem dX12_exchange_35 : decode cX12_exchange 35 = .ok (.iconst 0, 1) := by decide +kernel
theorem dX12_exchange_36 : decode cX12_exchange 36 = .ok (.istore 6, 2) := by decide +kernel
theorem dX12_exchange_38 : decode cX12_exchange 38 = .ok (.iload 6, 2) := by decide +kernel
theorem dX12_exchange_40 : decode cX12_exchange 40 = .ok (.iload 4, 2) := by decide +kernel
theorem dX12_exchange_42 : decode cX12_exchange 42 = .ok (.iload_n 2, 1) := by decide +kernel
theorem dX12_exchange_43 : decode cX12_exchange 43 = .ok (.isub, 1) := by decide +kernel
theorem dX12_exchange_44 : decode cX12_exchange 44 = .ok (.if_icmp .ge 33, 3) := by decide +kernel
theorem dX12_exchange_47 : decode cX12_exchange 47 = .ok (.aload_n 0, 1) := by decide +kernel
theorem dX12_exchange_48 : decode cX12_exchange 48 = .ok (.getfield 81, 3) := by decide +kernel
theorem dX12_exchange_51 : decode cX12_exchange 51 = .ok (.iload 6, 2) := by decide +kernel
theorem dX12_exchange_53 : decode cX12_exchange 53 = .ok (.aload_n 0, 1) := by decide +kernel
theorem dX12_exchange_54 : decode cX12_exchange 54 = .ok (.getfield 69, 3) := by decide +kernel
theorem dX12_exchange_57 : decode cX12_exchange 57 = .ok (.iload_n 2, 1) := by decide +kernel
theorem dX12_exchange_58 : decode cX12_exchange 58 = .ok (.iload 6, 2) := by decide +kernel
theorem dX12_exchange_60 : decode cX12_exchange 60 = .ok (.iload 5, 2) := by decide +kernel
theorem dX12_exchange_62 : decode cX12_exchange 62 = .ok (.iadd, 1) := by decide +kernel
theorem dX12_exchange_63 : decode cX12_exchange 63 = .ok (.iload 4, 2) := by decide +kernel
theorem dX12_exchange_65 : decode cX12_exchange 65 = .ok (.iload_n 2, 1) := by decide +kernel
theorem dX12_exchange_66 : decode cX12_exchange 66 = .ok (.isub, 1) := by decide +kernel
theorem dX12_exchange_67 : decode cX12_exchange 67 = .ok (.irem, 1) := by decide +kernel
theorem dX12_exchange_68 : decode cX12_exchange 68 = .ok (.iadd, 1) := by decide +kernel
theorem dX12_exchange_69 : decode cX12_exchange 69 = .ok (.iaload, 1) := by decide +kernel
theorem dX12_exchange_70 : decode cX12_exchange 70 = .ok (.iastore, 1) := by decide +kernel
theorem dX12_exchange_71 : decode cX12_exchange 71 = .ok (.iinc 6 1, 3) := by decide +kernel
theorem dX12_exchange_74 : decode cX12_exchange 74 = .ok (.goto (-36), 3) := by decide +kernel
theorem dX12_exchange_77 : decode cX12_exchange 77 = .ok (.iconst 0, 1) := by decide +kernel
theorem dX12_exchange_78 : decode cX12_exchange 78 = .ok (.istore 6, 2) := by decide +kernel
theorem dX12_exchange_80 : decode cX12_exchange 80 = .ok (.iload 6, 2) := by decide +kernel
theorem dX12_exchange_82 : decode cX12_exchange 82 = .ok (.iload 4, 2) := by decide +kernel
theorem dX12_exchange_84 : decode cX12_exchange 84 = .ok (.iload_n 2, 1) := by decide +kernel
theorem dX12_exchange_85 : decode cX12_exchange 85 = .ok (.isub, 1) := by decide +kernel
theorem dX12_exchange_86 : decode cX12_exchange 86 = .ok (.if_icmp .ge 25, 3) := by decide +kernel
theorem dX12_exchange_89 : decode cX12_exchange 89 = .ok (.aload_n 0, 1) := by decide +kernel
theorem dX12_exchange_90 : decode cX12_exchange 90 = .ok (.getfield 69, 3) := by decide +kernel
theorem dX12_exchange_93 : decode cX12_exchange 93 = .ok (.iload_n 2, 1) := by decide +kernel
theorem dX12_exchange_94 : decode cX12_exchange 94 = .ok (.iload 6, 2) := by decide +kernel
theorem dX12_exchange_96 : decode cX12_exchange 96 = .ok (.iadd, 1) := by decide +kernel
theorem dX12_exchange_97 : decode cX12_exchange 97 = .ok (.aload_n 0, 1) := by decide +kernel
theorem dX12_exchange_98 : decode cX12_exchange 98 = .ok (.getfield 81, 3) := by decide +kernel
theorem dX12_exchange_101 : decode cX12_exchange 101 = .ok (.iload 6, 2) := by decide +kernel
theorem dX12_exchange_103 : decode cX12_exchange 103 = .ok (.iaload, 1) := by decide +kernel
theorem dX12_exchange_104 : decode cX12_exchange 104 = .ok (.iastore, 1) := by decide +kernel
theorem dX12_exchange_105 : decode cX12_exchange 105 = .ok (.iinc 6 1, 3) := by decide +kernel
theorem dX12_exchange_108 : decode cX12_exchange 108 = .ok (.goto (-28), 3) := by decide +kernel
theorem dX12_exchange_111 : decode cX12_exchange 111 = .ok (.return_, 1) := by decide +kernel
theorem dX12_hasLikeSides_0 : decode cX12_hasLikeSides 0 = .ok (.bipush 30, 2) := by decide +kernel
theorem dX12_hasLikeSides_2 : decode cX12_hasLikeSides 2 = .ok (.iload_n 1, 1) := by decide +kernel
theorem dX12_hasLikeSides_3 : decode cX12_hasLikeSides 3 = .ok (.imul, 1) := by decide +kernel
theorem dX12_hasLikeSides_4 : decode cX12_hasLikeSides 4 = .ok (.iconst 1, 1) := by decide +kernel
theorem dX12_hasLikeSides_5 : decode cX12_hasLikeSides 5 = .ok (.iadd, 1) := by decide +kernel
theorem dX12_hasLikeSides_6 : decode cX12_hasLikeSides 6 = .ok (.istore_n 2, 1) := by decide +kernel
theorem dX12_hasLikeSides_7 : decode cX12_hasLikeSides 7 = .ok (.aload_n 0, 1) := by decide +kernel
theorem dX12_hasLikeSides_8 : decode cX12_hasLikeSides 8 = .ok (.aload_n 0, 1) := by decide +kernel
theorem dX12_hasLikeSides_9 : decode cX12_hasLikeSides 9 = .ok (.getfield 69, 3) := by decide +kernel
theorem dX12_hasLikeSides_12 : decode cX12_hasLikeSides 12 = .ok (.iload_n 2, 1) := by decide +kernel
theorem dX12_hasLikeSides_13 : decode cX12_hasLikeSides 13 = .ok (.aload_n 0, 1) := by decide +kernel
theorem dX12_hasLikeSides_14 : decode cX12_hasLikeSides 14 = .ok (.getfield 69, 3) := by decide +kernel
theorem dX12_hasLikeSides_17 : decode cX12_hasLikeSides 17 = .ok (.aload_n 0, 1) := by decide +kernel
theorem dX12_hasLikeSides_18 : decode cX12_hasLikeSides 18 = .ok (.aload_n 0, 1) := by decide +kernel
theorem dX12_hasLikeSides_19 : decode cX12_hasLikeSides 19 = .ok (.getfield 69, 3) := by decide +kernel
theorem dX12_hasLikeSides_22 : decode cX12_hasLikeSides 22 = .ok (.iload_n 2, 1) := by decide +kernel
theorem dX12_hasLikeSides_23 : decode cX12_hasLikeSides 23 = .ok (.invokevirtual 148, 3) := by decide +kernel
theorem dX12_hasLikeSides_26 : decode cX12_hasLikeSides 26 = .ok (.invokevirtual 164, 3) := by decide +kernel
theorem dX12_hasLikeSides_29 : decode cX12_hasLikeSides 29 = .ok (.ireturn, 1) := by decide +kernel
theorem dX12_areAlike_0 : decode cX12_areAlike 0 = .ok (.aload_n 0, 1) := by decide +kernel
theorem dX12_areAlike_1 : decode cX12_areAlike 1 = .ok (.getfield 72, 3) := by decide +kernel
theorem dX12_areAlike_4 : decode cX12_areAlike 4 = .ok (.iload_n 1, 1) := by decide +kernel
theorem dX12_areAlike_5 : decode cX12_areAlike 5 = .ok (.iaload, 1) := by decide +kernel
theorem dX12_areAlike_6 : decode cX12_areAlike 6 = .ok (.aload_n 0, 1) := by decide +kernel
theorem dX12_areAlike_7 : decode cX12_areAlike 7 = .ok (.getfield 72, 3) := by decide +kernel
theorem dX12_areAlike_10 : decode cX12_areAlike 10 = .ok (.iload_n 2, 1) := by decide +kernel
theorem dX12_areAlike_11 : decode cX12_areAlike 11 = .ok (.iaload, 1) := by decide +kernel
theorem dX12_areAlike_12 : decode cX12_areAlike 12 = .ok (.if_icmp .ne 35, 3) := by decide +kernel
theorem dX12_areAlike_15 : decode cX12_areAlike 15 = .ok (.aload_n 0, 1) := by decide +kernel
theorem dX12_areAlike_16 : decode cX12_areAlike 16 = .ok (.getfield 69, 3) := by decide +kernel
theorem dX12_areAlike_19 : decode cX12_areAlike 19 = .ok (.bipush 30, 2) := by decide +kernel
theorem dX12_areAlike_21 : decode cX12_areAlike 21 = .ok (.iload_n 1, 1) := by decide +kernel
theorem dX12_areAlike_22 : decode cX12_areAlike 22 = .ok (.imul, 1) := by decide +kernel
theorem dX12_areAlike_23 : decode cX12_areAlike 23 = .ok (.aload_n 0, 1) := by decide +kernel
theorem dX12_areAlike_24 : decode cX12_areAlike 24 = .ok (.getfield 69, 3) := by decide +kernel
theorem dX12_areAlike_27 : decode cX12_areAlike 27 = .ok (.bipush 30, 2) := by decide +kernel
theorem dX12_areAlike_29 : decode cX12_areAlike 29 = .ok (.iload_n 2, 1) := by decide +kernel
theorem dX12_areAlike_30 : decode cX12_areAlike 30 = .ok (.imul, 1) := by decide +kernel
theorem dX12_areAlike_31 : decode cX12_areAlike 31 = .ok (.aload_n 0, 1) := by decide +kernel
theorem dX12_areAlike_32 : decode cX12_areAlike 32 = .ok (.getfield 72, 3) := by decide +kernel
theorem dX12_areAlike_35 : decode cX12_areAlike 35 = .ok (.iload_n 1, 1) := by decide +kernel
theorem dX12_areAlike_36 : decode cX12_areAlike 36 = .ok (.iaload, 1) := by decide +kernel
theorem dX12_areAlike_37 : decode cX12_areAlike 37 = .ok (.invokestatic 152, 3) := by decide +kernel
theorem dX12_areAlike_40 : decode cX12_areAlike 40 = .ok (.ifCond .eq 7, 3) := by decide +kernel
theorem dX12_areAlike_43 : decode cX12_areAlike 43 = .ok (.iconst 1, 1) := by decide +kernel
theorem dX12_areAlike_44 : decode cX12_areAlike 44 = .ok (.goto 4, 3) := by decide +kernel
theorem dX12_areAlike_47 : decode cX12_areAlike 47 = .ok (.iconst 0, 1) := by decide +kernel
theorem dX12_areAlike_48 : decode cX12_areAlike 48 = .ok (.ireturn, 1) := by decide +kernel
theorem dX12_clean_0 : decode cX12_clean 0 = .ok (.iconst 0, 1) := by decide +kernel
theorem dX12_clean_1 : decode cX12_clean 1 = .ok (.istore_n 1, 1) := by decide +kernel
theorem dX12_clean_2 : decode cX12_clean 2 = .ok (.iconst 0, 1) := by decide +kernel
theorem dX12_clean_3 : decode cX12_clean 3 = .ok (.istore_n 2, 1) := by decide +kernel
theorem dX12_clean_4 : decode cX12_clean 4 = .ok (.iload_n 2, 1) := by decide +kernel
theorem dX12_clean_5 : decode cX12_clean 5 = .ok (.aload_n 0, 1) := by decide +kernel
theorem dX12_clean_6 : decode cX12_clean 6 = .ok (.getfield 167, 3) := by decide +kernel
theorem dX12_clean_9 : decode cX12_clean 9 = .ok (.if_icmp .ge 211, 3) := by decide +kernel
theorem dX12_clean_12 : decode cX12_clean 12 = .ok (.iconst 0, 1) := by decide +kernel
theorem dX12_clean_13 : decode cX12_clean 13 = .ok (.istore_n 3, 1) := by decide +kernel
theorem dX12_clean_14 : decode cX12_clean 14 = .ok (.iload_n 3, 1) := by decide +kernel
theorem dX12_clean_15 : decode cX12_clean 15 = .ok (.aload_n 0, 1) := by decide +kernel
theorem dX12_clean_16 : decode cX12_clean 16 = .ok (.getfield 72, 3) := by decide +kernel
theorem dX12_clean_19 : decode cX12_clean 19 = .ok (.iload_n 2, 1) := by decide +kernel
theorem dX12_clean_20 : decode cX12_clean 20 = .ok (.iaload, 1) := by decide +kernel
theorem dX12_clean_21 : decode cX12_clean 21 = .ok (.if_icmp .ge 31, 3) := by decide +kernel
theorem dX12_clean_24 : decode cX12_clean 24 = .ok (.aload_n 0, 1) := by decide +kernel
theorem dX12_clean_25 : decode cX12_clean 25 = .ok (.getfield 69, 3) := by decide +kernel
theorem dX12_clean_28 : decode cX12_clean 28 = .ok (.bipush 30, 2) := by decide +kernel
theorem dX12_clean_30 : decode cX12_clean 30 = .ok (.iload_n 1, 1) := by decide +kernel
theorem dX12_clean_31 : decode cX12_clean 31 = .ok (.imul, 1) := by decide +kernel
theorem dX12_clean_32 : decode cX12_clean 32 = .ok (.iload_n 3, 1) := by decide +kernel
theorem dX12_clean_33 : decode cX12_clean 33 = .ok (.iadd, 1) := by decide +kernel
theorem dX12_clean_34 : decode cX12_clean 34 = .ok (.aload_n 0, 1) := by decide +kernel
theorem dX12_clean_35 : decode cX12_clean 35 = .ok (.getfield 69, 3) := by decide +kernel
theorem dX12_clean_38 : decode cX12_clean 38 = .ok (.bipush 30, 2) := by decide +kernel
theorem dX12_clean_40 : decode cX12_clean 40 = .ok (.iload_n 2, 1) := by decide +kernel
theorem dX12_clean_41 : decode cX12_clean 41 = .ok (.imul, 1) := by decide +kernel
theorem dX12_clean_42 : decode cX12_clean 42 = .ok (.iload_n 3, 1) := by decide +kernel
theorem dX12_clean_43 : decode cX12_clean 43 = .ok (.iadd, 1) := by decide +kernel
theorem dX12_clean_44 : decode cX12_clean 44 = .ok (.iaload, 1) := by decide +kernel
theorem dX12_clean_45 : decode cX12_clean 45 = .ok (.iastore, 1) := by decide +kernel
theorem dX12_clean_46 : decode cX12_clean 46 = .ok (.iinc 3 1, 3) := by decide +kernel
theorem dX12_clean_49 : decode cX12_clean 49 = .ok (.goto (-35), 3) := by decide +kernel
theorem dX12_clean_52 : decode cX12_clean 52 = .ok (.aload_n 0, 1) := by decide +kernel
theorem dX12_clean_53 : decode cX12_clean 53 = .ok (.getfield 72, 3) := by decide +kernel
theorem dX12_clean_56 : decode cX12_clean 56 = .ok (.iload_n 1, 1) := by decide +kernel
theorem dX12_clean_57 : decode cX12_clean 57 = .ok (.aload_n 0, 1) := by decide +kernel
theorem dX12_clean_58 : decode cX12_clean 58 = .ok (.getfield 72, 3) := by decide +kernel
theorem dX12_clean_61 : decode cX12_clean 61 = .ok (.iload_n 2, 1) := by decide +kernel
theorem dX12_clean_62 : decode cX12_clean 62 = .ok (.iaload, 1) := by decide +kernel
theorem dX12_clean_63 : decode cX12_clean 63 = .ok (.iastore, 1) := by decide +kernel
theorem dX12_clean_64 : decode cX12_clean 64 = .ok (.aload_n 0, 1) := by decide +kernel
theorem dX12_clean_65 : decode cX12_clean 65 = .ok (.getfield 75, 3) := by decide +kernel
theorem dX12_clean_68 : decode cX12_clean 68 = .ok (.iload_n 1, 1) := by decide +kernel
theorem dX12_clean_69 : decode cX12_clean 69 = .ok (.aload_n 0, 1) := by decide +kernel
theorem dX12_clean_70 : decode cX12_clean 70 = .ok (.getfield 75, 3) := by decide +kernel
theorem dX12_clean_73 : decode cX12_clean 73 = .ok (.iload_n 2, 1) := by decide +kernel
theorem dX12_clean_74 : decode cX12_clean 74 = .ok (.baload, 1) := by decide +kernel
theorem dX12_clean_75 : decode cX12_clean 75 = .ok (.bastore, 1) := by decide +kernel
theorem dX12_clean_76 : decode cX12_clean 76 = .ok (.iconst 0, 1) := by decide +kernel
theorem dX12_clean_77 : decode cX12_clean 77 = .ok (.istore_n 3, 1) := by decide +kernel
theorem dX12_clean_78 : decode cX12_clean 78 = .ok (.aload_n 0, 1) := by decide +kernel
theorem dX12_clean_79 : decode cX12_clean 79 = .ok (.getfield 69, 3) := by decide +kernel
theorem dX12_clean_82 : decode cX12_clean 82 = .ok (.bipush 30, 2) := by decide +kernel
theorem dX12_clean_84 : decode cX12_clean 84 = .ok (.iload_n 1, 1) := by decide +kernel
theorem dX12_clean_85 : decode cX12_clean 85 = .ok (.imul, 1) := by decide +kernel
theorem dX12_clean_86 : decode cX12_clean 86 = .ok (.iaload, 1) := by decide +kernel
theorem dX12_clean_87 : decode cX12_clean 87 = .ok (.ifCond .ne 66, 3) := by decide +kernel
theorem dX12_clean_90 : decode cX12_clean 90 = .ok (.bipush 30, 2) := by decide +kernel
theorem dX12_clean_92 : decode cX12_clean 92 = .ok (.iload_n 1, 1) := by decide +kernel
theorem dX12_clean_93 : decode cX12_clean 93 = .ok (.imul, 1) := by decide +kernel
theorem dX12_clean_94 : decode cX12_clean 94 = .ok (.iconst 1, 1) := by decide +kernel
theorem dX12_clean_95 : decode cX12_clean 95 = .ok (.iadd, 1) := by decide +kernel
theorem dX12_clean_96 : decode cX12_clean 96 = .ok (.istore 4, 2) := by decide +kernel
theorem dX12_clean_98 : decode cX12_clean 98 = .ok (.aload_n 0, 1) := by decide +kernel
theorem dX12_clean_99 : decode cX12_clean 99 = .ok (.aload_n 0, 1) := by decide +kernel
theorem dX12_clean_100 : decode cX12_clean 100 = .ok (.getfield 69, 3) := by decide +kernel
theorem dX12_clean_103 : decode cX12_clean 103 = .ok (.aload_n 0, 1) := by decide +kernel
theorem dX12_clean_104 : decode cX12_clean 104 = .ok (.aload_n 0, 1) := by decide +kernel
theorem dX12_clean_105 : decode cX12_clean 105 = .ok (.getfield 69, 3) := by decide +kernel
theorem dX12_clean_108 : decode cX12_clean 108 = .ok (.iload 4, 2) := by decide +kernel
theorem dX12_clean_110 : decode cX12_clean 110 = .ok (.invokevirtual 148, 3) := by decide +kernel
theorem dX12_clean_113 : decode cX12_clean 113 = .ok (.aload_n 0, 1) := by decide +kernel
theorem dX12_clean_114 : decode cX12_clean 114 = .ok (.getfield 69, 3) := by decide +kernel
theorem dX12_clean_117 : decode cX12_clean 117 = .ok (.iload 4, 2) := by decide +kernel
theorem dX12_clean_119 : decode cX12_clean 119 = .ok (.invokevirtual 170, 3) := by decide +kernel
theorem dX12_clean_122 : decode cX12_clean 122 = .ok (.ifCond .eq 8, 3) := by decide +kernel
theorem dX12_clean_125 : decode cX12_clean 125 = .ok (.aload_n 0, 1) := by decide +kernel
theorem dX12_clean_126 : decode cX12_clean 126 = .ok (.iload_n 1, 1) := by decide +kernel
theorem dX12_clean_127 : decode cX12_clean 127 = .ok (.invokevirtual 173, 3) := by decide +kernel
theorem dX12_clean_130 : decode cX12_clean 130 = .ok (.aload_n 0, 1) := by decide +kernel
theorem dX12_clean_131 : decode cX12_clean 131 = .ok (.getfield 75, 3) := by decide +kernel
theorem dX12_clean_134 : decode cX12_clean 134 = .ok (.iload_n 1, 1) := by decide +kernel
theorem dX12_clean_135 : decode cX12_clean 135 = .ok (.baload, 1) := by decide +kernel
theorem dX12_clean_136 : decode cX12_clean 136 = .ok (.ifCond .eq 15, 3) := by decide +kernel
theorem dX12_clean_139 : decode cX12_clean 139 = .ok (.aload_n 0, 1) := by decide +kernel
theorem dX12_clean_140 : decode cX12_clean 140 = .ok (.iload_n 1, 1) := by decide +kernel
theorem dX12_clean_141 : decode cX12_clean 141 = .ok (.invokevirtual 177, 3) := by decide +kernel
theorem dX12_clean_144 : decode cX12_clean 144 = .ok (.ifCond .eq 7, 3) := by decide +kernel
theorem dX12_clean_147 : decode cX12_clean 147 = .ok (.iconst 1, 1) := by decide +kernel
theorem dX12_clean_148 : decode cX12_clean 148 = .ok (.goto 4, 3) := by decide +kernel
theorem dX12_clean_151 : decode cX12_clean 151 = .ok (.iconst 0, 1) := by decide +kernel
theorem dX12_clean_152 : decode cX12_clean 152 = .ok (.istore_n 3, 1) := by decide +kernel
theorem dX12_clean_153 : decode cX12_clean 153 = .ok (.iconst 0, 1) := by decide +kernel
theorem dX12_clean_154 : decode cX12_clean 154 = .ok (.istore 4, 2) := by decide +kernel
theorem dX12_clean_156 : decode cX12_clean 156 = .ok (.iload 4, 2) := by decide +kernel
theorem dX12_clean_158 : decode cX12_clean 158 = .ok (.iload_n 1, 1) := by decide +kernel
theorem dX12_clean_159 : decode cX12_clean 159 = .ok (.if_icmp .ge 43, 3) := by decide +kernel
theorem dX12_clean_162 : decode cX12_clean 162 = .ok (.iload_n 3, 1) := by decide +kernel
theorem dX12_clean_163 : decode cX12_clean 163 = .ok (.aload_n 0, 1) := by decide +kernel
theorem dX12_clean_164 : decode cX12_clean 164 = .ok (.getfield 75, 3) := by decide +kernel
theorem dX12_clean_167 : decode cX12_clean 167 = .ok (.iload 4, 2) := by decide +kernel
theorem dX12_clean_169 : decode cX12_clean 169 = .ok (.baload, 1) := by decide +kernel
theorem dX12_clean_170 : decode cX12_clean 170 = .ok (.aload_n 0, 1) := by decide +kernel
theorem dX12_clean_171 : decode cX12_clean 171 = .ok (.getfield 75, 3) := by decide +kernel
theorem dX12_clean_174 : decode cX12_clean 174 = .ok (.iload_n 1, 1) := by decide +kernel
theorem dX12_clean_175 : decode cX12_clean 175 = .ok (.baload, 1) := by decide +kernel
theorem dX12_clean_176 : decode cX12_clean 176 = .ok (.if_icmp .ne 17, 3) := by decide +kernel
theorem dX12_clean_179 : decode cX12_clean 179 = .ok (.aload_n 0, 1) := by decide +kernel
theorem dX12_clean_180 : decode cX12_clean 180 = .ok (.iload 4, 2) := by decide +kernel
theorem dX12_clean_182 : decode cX12_clean 182 = .ok (.iload_n 1, 1) := by decide +kernel
theorem dX12_clean_183 : decode cX12_clean 183 = .ok (.invokevirtual 181, 3) := by decide +kernel
theorem dX12_clean_186 : decode cX12_clean 186 = .ok (.ifCond .eq 7, 3) := by decide +kernel
theorem dX12_clean_189 : decode cX12_clean 189 = .ok (.iconst 1, 1) := by decide +kernel
theorem dX12_clean_190 : decode cX12_clean 190 = .ok (.goto 4, 3) := by decide +kernel
theorem dX12_clean_193 : decode cX12_clean 193 = .ok (.iconst 0, 1) := by decide +kernel
theorem dX12_clean_194 : decode cX12_clean 194 = .ok (.ior, 1) := by decide +kernel
theorem dX12_clean_195 : decode cX12_clean 195 = .ok (.istore_n 3, 1) := by decide +kernel
theorem dX12_clean_196 : decode cX12_clean 196 = .ok (.iinc 4 1, 3) := by decide +kernel
theorem dX12_clean_199 : decode cX12_clean 199 = .ok (.goto (-43), 3) := by decide +kernel
theorem dX12_clean_202 : decode cX12_clean 202 = .ok (.iload_n 1, 1) := by decide +kernel
theorem dX12_clean_203 : decode cX12_clean 203 = .ok (.iload_n 3, 1) := by decide +kernel
theorem dX12_clean_204 : decode cX12_clean 204 = .ok (.ifCond .eq 7, 3) := by decide +kernel
theorem dX12_clean_207 : decode cX12_clean 207 = .ok (.iconst 0, 1) := by decide +kernel
theorem dX12_clean_208 : decode cX12_clean 208 = .ok (.goto 4, 3) := by decide +kernel
theorem dX12_clean_211 : decode cX12_clean 211 = .ok (.iconst 1, 1) := by decide +kernel
theorem dX12_clean_212 : decode cX12_clean 212 = .ok (.iadd, 1) := by decide +kernel
theorem dX12_clean_213 : decode cX12_clean 213 = .ok (.istore_n 1, 1) := by decide +kernel
theorem dX12_clean_214 : decode cX12_clean 214 = .ok (.iinc 2 1, 3) := by decide +kernel
theorem dX12_clean_217 : decode cX12_clean 217 = .ok (.goto (-213), 3) := by decide +kernel
theorem dX12_clean_220 : decode cX12_clean 220 = .ok (.aload_n 0, 1) := by decide +kernel
theorem dX12_clean_221 : decode cX12_clean 221 = .ok (.iload_n 1, 1) := by decide +kernel
theorem dX12_clean_222 : decode cX12_clean 222 = .ok (.putfield 167, 3) := by decide +kernel
theorem dX12_clean_225 : decode cX12_clean 225 = .ok (.aload_n 0, 1) := by decide +kernel
theorem dX12_clean_226 : decode cX12_clean 226 = .ok (.iconst 0, 1) := by decide +kernel
theorem dX12_clean_227 : decode cX12_clean 227 = .ok (.putfield 185, 3) := by decide +kernel
theorem dX12_clean_230 : decode cX12_clean 230 = .ok (.iconst 0, 1) := by decide +kernel
theorem dX12_clean_231 : decode cX12_clean 231 = .ok (.istore_n 2, 1) := by decide +kernel
theorem dX12_clean_232 : decode cX12_clean 232 = .ok (.iload_n 2, 1) := by decide +kernel
theorem dX12_clean_233 : decode cX12_clean 233 = .ok (.bipush 40, 2) := by decide +kernel
theorem dX12_clean_235 : decode cX12_clean 235 = .ok (.if_icmp .ge 16, 3) := by decide +kernel
theorem dX12_clean_238 : decode cX12_clean 238 = .ok (.aload_n 0, 1) := by decide +kernel
theorem dX12_clean_239 : decode cX12_clean 239 = .ok (.getfield 84, 3) := by decide +kernel
theorem dX12_clean_242 : decode cX12_clean 242 = .ok (.iload_n 2, 1) := by decide +kernel
theorem dX12_clean_243 : decode cX12_clean 243 = .ok (.iconst (-1), 1) := by decide +kernel
theorem dX12_clean_244 : decode cX12_clean 244 = .ok (.iastore, 1) := by decide +kernel
theorem dX12_clean_245 : decode cX12_clean 245 = .ok (.iinc 2 1, 3) := by decide +kernel
theorem dX12_clean_248 : decode cX12_clean 248 = .ok (.goto (-16), 3) := by decide +kernel
theorem dX12_clean_251 : decode cX12_clean 251 = .ok (.iconst 0, 1) := by decide +kernel
theorem dX12_clean_252 : decode cX12_clean 252 = .ok (.istore_n 2, 1) := by decide +kernel
theorem dX12_clean_253 : decode cX12_clean 253 = .ok (.iload_n 2, 1) := by decide +kernel
theorem dX12_clean_254 : decode cX12_clean 254 = .ok (.aload_n 0, 1) := by decide +kernel
theorem dX12_clean_255 : decode cX12_clean 255 = .ok (.getfield 167, 3) := by decide +kernel
theorem dX12_clean_258 : decode cX12_clean 258 = .ok (.if_icmp .ge 101, 3) := by decide +kernel
theorem dX12_clean_261 : decode cX12_clean 261 = .ok (.bipush 30, 2) := by decide +kernel
theorem dX12_clean_263 : decode cX12_clean 263 = .ok (.iload_n 2, 1) := by decide +kernel
theorem dX12_clean_264 : decode cX12_clean 264 = .ok (.imul, 1) := by decide +kernel
theorem dX12_clean_265 : decode cX12_clean 265 = .ok (.istore_n 3, 1) := by decide +kernel
theorem dX12_clean_266 : decode cX12_clean 266 = .ok (.iload_n 3, 1) := by decide +kernel
theorem dX12_clean_267 : decode cX12_clean 267 = .ok (.bipush 30, 2) := by decide +kernel
theorem dX12_clean_269 : decode cX12_clean 269 = .ok (.iload_n 2, 1) := by decide +kernel
theorem dX12_clean_270 : decode cX12_clean 270 = .ok (.imul, 1) := by decide +kernel
theorem dX12_clean_271 : decode cX12_clean 271 = .ok (.aload_n 0, 1) := by decide +kernel
theorem dX12_clean_272 : decode cX12_clean 272 = .ok (.getfield 72, 3) := by decide +kernel
theorem dX12_clean_275 : decode cX12_clean 275 = .ok (.iload_n 2, 1) := by decide +kernel
theorem dX12_clean_276 : decode cX12_clean 276 = .ok (.iaload, 1) := by decide +kernel
theorem dX12_clean_277 : decode cX12_clean 277 = .ok (.iadd, 1) := by decide +kernel
theorem dX12_clean_278 : decode cX12_clean 278 = .ok (.if_icmp .ge 75, 3) := by decide +kernel
theorem dX12_clean_281 : decode cX12_clean 281 = .ok (.aload_n 0, 1) := by decide +kernel
theorem dX12_clean_282 : decode cX12_clean 282 = .ok (.getfield 69, 3) := by decide +kernel
theorem dX12_clean_285 : decode cX12_clean 285 = .ok (.iload_n 3, 1) := by decide +kernel
theorem dX12_clean_286 : decode cX12_clean 286 = .ok (.iaload, 1) := by decide +kernel
theorem dX12_clean_287 : decode cX12_clean 287 = .ok (.ifCond .ge 60, 3) := by decide +kernel
theorem dX12_clean_290 : decode cX12_clean 290 = .ok (.iconst (-1), 1) := by decide +kernel
theorem dX12_clean_291 : decode cX12_clean 291 = .ok (.aload_n 0, 1) := by decide +kernel
theorem dX12_clean_292 : decode cX12_clean 292 = .ok (.getfield 69, 3) := by decide +kernel
theorem dX12_clean_295 : decode cX12_clean 295 = .ok (.iload_n 3, 1) := by decide +kernel
theorem dX12_clean_296 : decode cX12_clean 296 = .ok (.iaload, 1) := by decide +kernel
theorem dX12_clean_297 : decode cX12_clean 297 = .ok (.isub, 1) := by decide +kernel
theorem dX12_clean_298 : decode cX12_clean 298 = .ok (.istore 4, 2) := by decide +kernel
theorem dX12_clean_300 : decode cX12_clean 300 = .ok (.aload_n 0, 1) := by decide +kernel
theorem dX12_clean_301 : decode cX12_clean 301 = .ok (.getfield 84, 3) := by decide +kernel
theorem dX12_clean_304 : decode cX12_clean 304 = .ok (.iload 4, 2) := by decide +kernel
theorem dX12_clean_306 : decode cX12_clean 306 = .ok (.iaload, 1) := by decide +kernel
theorem dX12_clean_307 : decode cX12_clean 307 = .ok (.iconst (-1), 1) := by decide +kernel
theorem dX12_clean_308 : decode cX12_clean 308 = .ok (.if_icmp .ne 24, 3) := by decide +kernel
theorem dX12_clean_311 : decode cX12_clean 311 = .ok (.aload_n 0, 1) := by decide +kernel
theorem dX12_clean_312 : decode cX12_clean 312 = .ok (.getfield 84, 3) := by decide +kernel
theorem dX12_clean_315 : decode cX12_clean 315 = .ok (.iload 4, 2) := by decide +kernel
theorem dX12_clean_317 : decode cX12_clean 317 = .ok (.aload_n 0, 1) := by decide +kernel
theorem dX12_clean_318 : decode cX12_clean 318 = .ok (.getfield 185, 3) := by decide +kernel
theorem dX12_clean_321 : decode cX12_clean 321 = .ok (.iastore, 1) := by decide +kernel
theorem dX12_clean_322 : decode cX12_clean 322 = .ok (.aload_n 0, 1) := by decide +kernel
theorem dX12_clean_323 : decode cX12_clean 323 = .ok (.dup, 1) := by decide +kernel
theorem dX12_clean_324 : decode cX12_clean 324 = .ok (.getfield 185, 3) := by decide +kernel
theorem dX12_clean_327 : decode cX12_clean 327 = .ok (.iconst 1, 1) := by decide +kernel
theorem dX12_clean_328 : decode cX12_clean 328 = .ok (.iadd, 1) := by decide +kernel
theorem dX12_clean_329 : decode cX12_clean 329 = .ok (.putfield 185, 3) := by decide +kernel
theorem dX12_clean_332 : decode cX12_clean 332 = .ok (.aload_n 0, 1) := by decide +kernel
theorem dX12_clean_333 : decode cX12_clean 333 = .ok (.getfield 69, 3) := by decide +kernel
theorem dX12_clean_336 : decode cX12_clean 336 = .ok (.iload_n 3, 1) := by decide +kernel
theorem dX12_clean_337 : decode cX12_clean 337 = .ok (.iconst (-1), 1) := by decide +kernel
theorem dX12_clean_338 : decode cX12_clean 338 = .ok (.aload_n 0, 1) := by decide +kernel
theorem dX12_clean_339 : decode cX12_clean 339 = .ok (.getfield 84, 3) := by decide +kernel
theorem dX12_clean_342 : decode cX12_clean 342 = .ok (.iload 4, 2) := by decide +kernel
theorem dX12_clean_344 : decode cX12_clean 344 = .ok (.iaload, 1) := by decide +kernel
theorem dX12_clean_345 : decode cX12_clean 345 = .ok (.isub, 1) := by decide +kernel
theorem dX12_clean_346 : decode cX12_clean 346 = .ok (.iastore, 1) := by decide +kernel
theorem dX12_clean_347 : decode cX12_clean 347 = .ok (.iinc 3 1, 3) := by decide +kernel
theorem dX12_clean_350 : decode cX12_clean 350 = .ok (.goto (-84), 3) := by decide +kernel
theorem dX12_clean_353 : decode cX12_clean 353 = .ok (.iinc 2 1, 3) := by decide +kernel
theorem dX12_clean_356 : decode cX12_clean 356 = .ok (.goto (-103), 3) := by decide +kernel
theorem dX12_clean_359 : decode cX12_clean 359 = .ok (.return_, 1) := by decide +kernel
theorem dX12_isTrivial_0 : decode cX12_isTrivial 0 = .ok (.iconst 0, 1) := by decide +kernel
theorem dX12_isTrivial_1 : decode cX12_isTrivial 1 = .ok (.istore_n 1, 1) := by decide +kernel
theorem dX12_isTrivial_2 : decode cX12_isTrivial 2 = .ok (.iload_n 1, 1) := by decide +kernel
theorem dX12_isTrivial_3 : decode cX12_isTrivial 3 = .ok (.aload_n 0, 1) := by decide +kernel
theorem dX12_isTrivial_4 : decode cX12_isTrivial 4 = .ok (.getfield 167, 3) := by decide +kernel
theorem dX12_isTrivial_7 : decode cX12_isTrivial 7 = .ok (.if_icmp .ge 85, 3) := by decide +kernel
theorem dX12_isTrivial_10 : decode cX12_isTrivial 10 = .ok (.aload_n 0, 1) := by decide +kernel
theorem dX12_isTrivial_11 : decode cX12_isTrivial 11 = .ok (.getfield 75, 3) := by decide +kernel
theorem dX12_isTrivial_14 : decode cX12_isTrivial 14 = .ok (.iload_n 1, 1) := by decide +kernel
theorem dX12_isTrivial_15 : decode cX12_isTrivial 15 = .ok (.baload, 1) := by decide +kernel
theorem dX12_isTrivial_16 : decode cX12_isTrivial 16 = .ok (.ifCond .ne 25, 3) := by decide +kernel
theorem dX12_isTrivial_19 : decode cX12_isTrivial 19 = .ok (.aload_n 0, 1) := by decide +kernel
theorem dX12_isTrivial_20 : decode cX12_isTrivial 20 = .ok (.getfield 69, 3) := by decide +kernel
theorem dX12_isTrivial_23 : decode cX12_isTrivial 23 = .ok (.bipush 30, 2) := by decide +kernel
theorem dX12_isTrivial_25 : decode cX12_isTrivial 25 = .ok (.iload_n 1, 1) := by decide +kernel
theorem dX12_isTrivial_26 : decode cX12_isTrivial 26 = .ok (.imul, 1) := by decide +kernel
theorem dX12_isTrivial_27 : decode cX12_isTrivial 27 = .ok (.iaload, 1) := by decide +kernel
theorem dX12_isTrivial_28 : decode cX12_isTrivial 28 = .ok (.ifCond .ne 13, 3) := by decide +kernel
theorem dX12_isTrivial_31 : decode cX12_isTrivial 31 = .ok (.aload_n 0, 1) := by decide +kernel
theorem dX12_isTrivial_32 : decode cX12_isTrivial 32 = .ok (.iload_n 1, 1) := by decide +kernel
theorem dX12_isTrivial_33 : decode cX12_isTrivial 33 = .ok (.invokevirtual 177, 3) := by decide +kernel
theorem dX12_isTrivial_36 : decode cX12_isTrivial 36 = .ok (.ifCond .eq 5, 3) := by decide +kernel
theorem dX12_isTrivial_39 : decode cX12_isTrivial 39 = .ok (.iconst 1, 1) := by decide +kernel
theorem dX12_isTrivial_40 : decode cX12_isTrivial 40 = .ok (.ireturn, 1) := by decide +kernel
theorem dX12_isTrivial_41 : decode cX12_isTrivial 41 = .ok (.iconst 0, 1) := by decide +kernel
theorem dX12_isTrivial_42 : decode cX12_isTrivial 42 = .ok (.istore_n 2, 1) := by decide +kernel
theorem dX12_isTrivial_43 : decode cX12_isTrivial 43 = .ok (.iload_n 2, 1) := by decide +kernel
theorem dX12_isTrivial_44 : decode cX12_isTrivial 44 = .ok (.aload_n 0, 1) := by decide +kernel
theorem dX12_isTrivial_45 : decode cX12_isTrivial 45 = .ok (.getfield 167, 3) := by decide +kernel
theorem dX12_isTrivial_48 : decode cX12_isTrivial 48 = .ok (.if_icmp .ge 38, 3) := by decide +kernel
theorem dX12_isTrivial_51 : decode cX12_isTrivial 51 = .ok (.aload_n 0, 1) := by decide +kernel
theorem dX12_isTrivial_52 : decode cX12_isTrivial 52 = .ok (.getfield 75, 3) := by decide +kernel
theorem dX12_isTrivial_55 : decode cX12_isTrivial 55 = .ok (.iload_n 1, 1) := by decide +kernel
theorem dX12_isTrivial_56 : decode cX12_isTrivial 56 = .ok (.baload, 1) := by decide +kernel
theorem dX12_isTrivial_57 : decode cX12_isTrivial 57 = .ok (.ifCond .eq 23, 3) := by decide +kernel
theorem dX12_isTrivial_60 : decode cX12_isTrivial 60 = .ok (.aload_n 0, 1) := by decide +kernel
theorem dX12_isTrivial_61 : decode cX12_isTrivial 61 = .ok (.getfield 75, 3) := by decide +kernel
theorem dX12_isTrivial_64 : decode cX12_isTrivial 64 = .ok (.iload_n 2, 1) := by decide +kernel
theorem dX12_isTrivial_65 : decode cX12_isTrivial 65 = .ok (.baload, 1) := by decide +kernel
theorem dX12_isTrivial_66 : decode cX12_isTrivial 66 = .ok (.ifCond .ne 14, 3) := by decide +kernel
theorem dX12_isTrivial_69 : decode cX12_isTrivial 69 = .ok (.aload_n 0, 1) := by decide +kernel
theorem dX12_isTrivial_70 : decode cX12_isTrivial 70 = .ok (.iload_n 1, 1) := by decide +kernel
theorem dX12_isTrivial_71 : decode cX12_isTrivial 71 = .ok (.iload_n 2, 1) := by decide +kernel
theorem dX12_isTrivial_72 : decode cX12_isTrivial 72 = .ok (.invokevirtual 181, 3) := by decide +kernel
theorem dX12_isTrivial_75 : decode cX12_isTrivial 75 = .ok (.ifCond .eq 5, 3) := by decide +kernel
theorem dX12_isTrivial_78 : decode cX12_isTrivial 78 = .ok (.iconst 1, 1) := by decide +kernel
theorem dX12_isTrivial_79 : decode cX12_isTrivial 79 = .ok (.ireturn, 1) := by decide +kernel
theorem dX12_isTrivial_80 : decode cX12_isTrivial 80 = .ok (.iinc 2 1, 3) := by decide +kernel
theorem dX12_isTrivial_83 : decode cX12_isTrivial 83 = .ok (.goto (-40), 3) := by decide +kernel
theorem dX12_isTrivial_86 : decode cX12_isTrivial 86 = .ok (.iinc 1 1, 3) := by decide +kernel
theorem dX12_isTrivial_89 : decode cX12_isTrivial 89 = .ok (.goto (-87), 3) := by decide +kernel
theorem dX12_isTrivial_92 : decode cX12_isTrivial 92 = .ok (.iconst 0, 1) := by decide +kernel
theorem dX12_isTrivial_93 : decode cX12_isTrivial 93 = .ok (.ireturn, 1) := by decide +kernel
theorem dX12_unbind_0 : decode cX12_unbind 0 = .ok (.iconst 0, 1) := by decide +kernel
theorem dX12_unbind_1 : decode cX12_unbind 1 = .ok (.istore_n 1, 1) := by decide +kernel
theorem dX12_unbind_2 : decode cX12_unbind 2 = .ok (.iload_n 1, 1) := by decide +kernel
theorem dX12_unbind_3 : decode cX12_unbind 3 = .ok (.bipush 20, 2) := by decide +kernel
theorem dX12_unbind_5 : decode cX12_unbind 5 = .ok (.if_icmp .ge 16, 3) := by decide +kernel
theorem dX12_unbind_8 : decode cX12_unbind 8 = .ok (.aload_n 0, 1) := by decide +kernel
theorem dX12_unbind_9 : decode cX12_unbind 9 = .ok (.getfield 87, 3) := by decide +kernel
theorem dX12_unbind_12 : decode cX12_unbind 12 = .ok (.iload_n 1, 1) := by decide +kernel
theorem dX12_unbind_13 : decode cX12_unbind 13 = .ok (.iconst (-1), 1) := by decide +kernel
theorem dX12_unbind_14 : decode cX12_unbind 14 = .ok (.iastore, 1) := by decide +kernel
theorem dX12_unbind_15 : decode cX12_unbind 15 = .ok (.iinc 1 1, 3) := by decide +kernel
theorem dX12_unbind_18 : decode cX12_unbind 18 = .ok (.goto (-16), 3) := by decide +kernel
theorem dX12_unbind_21 : decode cX12_unbind 21 = .ok (.return_, 1) := by decide +kernel
theorem dX12_goesOnMatching_0 : decode cX12_goesOnMatching 0 = .ok (.iload 5, 2) := by decide +kernel
theorem dX12_goesOnMatching_2 : decode cX12_goesOnMatching 2 = .ok (.istore 6, 2) := by decide +kernel
theorem dX12_goesOnMatching_4 : decode cX12_goesOnMatching 4 = .ok (.iload_n 2, 1) := by decide +kernel
theorem dX12_goesOnMatching_5 : decode cX12_goesOnMatching 5 = .ok (.istore 7, 2) := by decide +kernel
theorem dX12_goesOnMatching_7 : decode cX12_goesOnMatching 7 = .ok (.iload 7, 2) := by decide +kernel
theorem dX12_goesOnMatching_9 : decode cX12_goesOnMatching 9 = .ok (.iload_n 3, 1) := by decide +kernel
theorem dX12_goesOnMatching_10 : decode cX12_goesOnMatching 10 = .ok (.if_icmp .ge 131, 3) := by decide +kernel
theorem dX12_goesOnMatching_13 : decode cX12_goesOnMatching 13 = .ok (.aload_n 1, 1) := by decide +kernel
theorem dX12_goesOnMatching_14 : decode cX12_goesOnMatching 14 = .ok (.iload 7, 2) := by decide +kernel
theorem dX12_goesOnMatching_16 : decode cX12_goesOnMatching 16 = .ok (.iaload, 1) := by decide +kernel
theorem dX12_goesOnMatching_17 : decode cX12_goesOnMatching 17 = .ok (.ifCond .lt 23, 3) := by decide +kernel
theorem dX12_goesOnMatching_20 : decode cX12_goesOnMatching 20 = .ok (.aload_n 1, 1) := by decide +kernel
theorem dX12_goesOnMatching_21 : decode cX12_goesOnMatching 21 = .ok (.iload 7, 2) := by decide +kernel
theorem dX12_goesOnMatching_23 : decode cX12_goesOnMatching 23 = .ok (.iaload, 1) := by decide +kernel
theorem dX12_goesOnMatching_24 : decode cX12_goesOnMatching 24 = .ok (.aload 4, 2) := by decide +kernel
theorem dX12_goesOnMatching_26 : decode cX12_goesOnMatching 26 = .ok (.iload 6, 2) := by decide +kernel
theorem dX12_goesOnMatching_28 : decode cX12_goesOnMatching 28 = .ok (.iaload, 1) := by decide +kernel
theorem dX12_goesOnMatching_29 : decode cX12_goesOnMatching 29 = .ok (.if_icmp .eq 5, 3) := by decide +kernel
theorem dX12_goesOnMatching_32 : decode cX12_goesOnMatching 32 = .ok (.iconst 0, 1) := by decide +kernel
theorem dX12_goesOnMatching_33 : decode cX12_goesOnMatching 33 = .ok (.ireturn, 1) := by decide +kernel
theorem dX12_goesOnMatching_34 : decode cX12_goesOnMatching 34 = .ok (.iinc 6 1, 3) := by decide +kernel
theorem dX12_goesOnMatching_37 : decode cX12_goesOnMatching 37 = .ok (.goto 98, 3) := by decide +kernel
theorem dX12_goesOnMatching_40 : decode cX12_goesOnMatching 40 = .ok (.iconst (-1), 1) := by decide +kernel
theorem dX12_goesOnMatching_41 : decode cX12_goesOnMatching 41 = .ok (.aload_n 1, 1) := by decide +kernel
theorem dX12_goesOnMatching_42 : decode cX12_goesOnMatching 42 = .ok (.iload 7, 2) := by decide +kernel
theorem dX12_goesOnMatching_44 : decode cX12_goesOnMatching 44 = .ok (.iaload, 1) := by decide +kernel
theorem dX12_goesOnMatching_45 : decode cX12_goesOnMatching 45 = .ok (.isub, 1) := by decide +kernel
theorem dX12_goesOnMatching_46 : decode cX12_goesOnMatching 46 = .ok (.istore 8, 2) := by decide +kernel
theorem dX12_goesOnMatching_48 : decode cX12_goesOnMatching 48 = .ok (.aload_n 0, 1) := by decide +kernel
theorem dX12_goesOnMatching_49 : decode cX12_goesOnMatching 49 = .ok (.aload 4, 2) := by decide +kernel
theorem dX12_goesOnMatching_51 : decode cX12_goesOnMatching 51 = .ok (.iload 6, 2) := by decide +kernel
theorem dX12_goesOnMatching_53 : decode cX12_goesOnMatching 53 = .ok (.invokevirtual 148, 3) := by decide +kernel
theorem dX12_goesOnMatching_56 : decode cX12_goesOnMatching 56 = .ok (.iload 6, 2) := by decide +kernel
theorem dX12_goesOnMatching_58 : decode cX12_goesOnMatching 58 = .ok (.isub, 1) := by decide +kernel
theorem dX12_goesOnMatching_59 : decode cX12_goesOnMatching 59 = .ok (.istore 9, 2) := by decide +kernel
theorem dX12_goesOnMatching_61 : decode cX12_goesOnMatching 61 = .ok (.aload_n 0, 1) := by decide +kernel
theorem dX12_goesOnMatching_62 : decode cX12_goesOnMatching 62 = .ok (.getfield 87, 3) := by decide +kernel
theorem dX12_goesOnMatching_65 : decode cX12_goesOnMatching 65 = .ok (.iload 8, 2) := by decide +kernel
theorem dX12_goesOnMatching_67 : decode cX12_goesOnMatching 67 = .ok (.iaload, 1) := by decide +kernel
theorem dX12_goesOnMatching_68 : decode cX12_goesOnMatching 68 = .ok (.iconst (-1), 1) := by decide +kernel
theorem dX12_goesOnMatching_69 : decode cX12_goesOnMatching 69 = .ok (.if_icmp .ne 24, 3) := by decide +kernel
theorem dX12_goesOnMatching_72 : decode cX12_goesOnMatching 72 = .ok (.aload_n 0, 1) := by decide +kernel
theorem dX12_goesOnMatching_73 : decode cX12_goesOnMatching 73 = .ok (.getfield 87, 3) := by decide +kernel
theorem dX12_goesOnMatching_76 : decode cX12_goesOnMatching 76 = .ok (.iload 8, 2) := by decide +kernel
theorem dX12_goesOnMatching_78 : decode cX12_goesOnMatching 78 = .ok (.iload 6, 2) := by decide +kernel
theorem dX12_goesOnMatching_80 : decode cX12_goesOnMatching 80 = .ok (.iastore, 1) := by decide +kernel
theorem dX12_goesOnMatching_81 : decode cX12_goesOnMatching 81 = .ok (.aload_n 0, 1) := by decide +kernel
theorem dX12_goesOnMatching_82 : decode cX12_goesOnMatching 82 = .ok (.getfield 90, 3) := by decide +kernel
theorem dX12_goesOnMatching_85 : decode cX12_goesOnMatching 85 = .ok (.iload 8, 2) := by decide +kernel
theorem dX12_goesOnMatching_87 : decode cX12_goesOnMatching 87 = .ok (.iload 9, 2) := by decide +kernel
theorem dX12_goesOnMatching_89 : decode cX12_goesOnMatching 89 = .ok (.iastore, 1) := by decide +kernel
theorem dX12_goesOnMatching_90 : decode cX12_goesOnMatching 90 = .ok (.goto 38, 3) := by decide +kernel
theorem dX12_goesOnMatching_93 : decode cX12_goesOnMatching 93 = .ok (.aload_n 0, 1) := by decide +kernel
theorem dX12_goesOnMatching_94 : decode cX12_goesOnMatching 94 = .ok (.getfield 90, 3) := by decide +kernel
theorem dX12_goesOnMatching_97 : decode cX12_goesOnMatching 97 = .ok (.iload 8, 2) := by decide +kernel
theorem dX12_goesOnMatching_99 : decode cX12_goesOnMatching 99 = .ok (.iaload, 1) := by decide +kernel
theorem dX12_goesOnMatching_100 : decode cX12_goesOnMatching 100 = .ok (.iload 9, 2) := by decide +kernel
theorem dX12_goesOnMatching_102 : decode cX12_goesOnMatching 102 = .ok (.if_icmp .ne 24, 3) := by decide +kernel
theorem dX12_goesOnMatching_105 : decode cX12_goesOnMatching 105 = .ok (.aload 4, 2) := by decide +kernel
theorem dX12_goesOnMatching_107 : decode cX12_goesOnMatching 107 = .ok (.aload_n 0, 1) := by decide +kernel
theorem dX12_goesOnMatching_108 : decode cX12_goesOnMatching 108 = .ok (.getfield 87, 3) := by decide +kernel
theorem dX12_goesOnMatching_111 : decode cX12_goesOnMatching 111 = .ok (.iload 8, 2) := by decide +kernel
theorem dX12_goesOnMatching_113 : decode cX12_goesOnMatching 113 = .ok (.iaload, 1) := by decide +kernel
theorem dX12_goesOnMatching_114 : decode cX12_goesOnMatching 114 = .ok (.aload 4, 2) := by decide +kernel
theorem dX12_goesOnMatching_116 : decode cX12_goesOnMatching 116 = .ok (.iload 6, 2) := by decide +kernel
theorem dX12_goesOnMatching_118 : decode cX12_goesOnMatching 118 = .ok (.iload 9, 2) := by decide +kernel
theorem dX12_goesOnMatching_120 : decode cX12_goesOnMatching 120 = .ok (.invokestatic 152, 3) := by decide +kernel
theorem dX12_goesOnMatching_123 : decode cX12_goesOnMatching 123 = .ok (.ifCond .ne 5, 3) := by decide +kernel
theorem dX12_goesOnMatching_126 : decode cX12_goesOnMatching 126 = .ok (.iconst 0, 1) := by decide +kernel
theorem dX12_goesOnMatching_127 : decode cX12_goesOnMatching 127 = .ok (.ireturn, 1) := by decide +kernel
theorem dX12_goesOnMatching_128 : decode cX12_goesOnMatching 128 = .ok (.iload 6, 2) := by decide +kernel
theorem dX12_goesOnMatching_130 : decode cX12_goesOnMatching 130 = .ok (.iload 9, 2) := by decide +kernel
theorem dX12_goesOnMatching_132 : decode cX12_goesOnMatching 132 = .ok (.iadd, 1) := by decide +kernel
theorem dX12_goesOnMatching_133 : decode cX12_goesOnMatching 133 = .ok (.istore 6, 2) := by decide +kernel
theorem dX12_goesOnMatching_135 : decode cX12_goesOnMatching 135 = .ok (.iinc 7 1, 3) := by decide +kernel
theorem dX12_goesOnMatching_138 : decode cX12_goesOnMatching 138 = .ok (.goto (-131), 3) := by decide +kernel
theorem dX12_goesOnMatching_141 : decode cX12_goesOnMatching 141 = .ok (.iconst 1, 1) := by decide +kernel
theorem dX12_goesOnMatching_142 : decode cX12_goesOnMatching 142 = .ok (.ireturn, 1) := by decide +kernel
theorem dX12_save_0 : decode cX12_save 0 = .ok (.iconst 0, 1) := by decide +kernel
theorem dX12_save_1 : decode cX12_save 1 = .ok (.istore_n 2, 1) := by decide +kernel
theorem dX12_save_2 : decode cX12_save 2 = .ok (.iload_n 2, 1) := by decide +kernel
theorem dX12_save_3 : decode cX12_save 3 = .ok (.bipush 20, 2) := by decide +kernel
theorem dX12_save_5 : decode cX12_save 5 = .ok (.if_icmp .ge 43, 3) := by decide +kernel
theorem dX12_save_8 : decode cX12_save 8 = .ok (.aload_n 0, 1) := by decide +kernel
theorem dX12_save_9 : decode cX12_save 9 = .ok (.getfield 96, 3) := by decide +kernel
theorem dX12_save_12 : decode cX12_save 12 = .ok (.bipush 20, 2) := by decide +kernel
theorem dX12_save_14 : decode cX12_save 14 = .ok (.iload_n 1, 1) := by decide +kernel
theorem dX12_save_15 : decode cX12_save 15 = .ok (.imul, 1) := by decide +kernel
theorem dX12_save_16 : decode cX12_save 16 = .ok (.iload_n 2, 1) := by decide +kernel
theorem dX12_save_17 : decode cX12_save 17 = .ok (.iadd, 1) := by decide +kernel
theorem dX12_save_18 : decode cX12_save 18 = .ok (.aload_n 0, 1) := by decide +kernel
theorem dX12_save_19 : decode cX12_save 19 = .ok (.getfield 87, 3) := by decide +kernel
theorem dX12_save_22 : decode cX12_save 22 = .ok (.iload_n 2, 1) := by decide +kernel
theorem dX12_save_23 : decode cX12_save 23 = .ok (.iaload, 1) := by decide +kernel
theorem dX12_save_24 : decode cX12_save 24 = .ok (.iastore, 1) := by decide +kernel
theorem dX12_save_25 : decode cX12_save 25 = .ok (.aload_n 0, 1) := by decide +kernel
theorem dX12_save_26 : decode cX12_save 26 = .ok (.getfield 99, 3) := by decide +kernel
theorem dX12_save_29 : decode cX12_save 29 = .ok (.bipush 20, 2) := by decide +kernel
theorem dX12_save_31 : decode cX12_save 31 = .ok (.iload_n 1, 1) := by decide +kernel
theorem dX12_save_32 : decode cX12_save 32 = .ok (.imul, 1) := by decide +kernel
theorem dX12_save_33 : decode cX12_save 33 = .ok (.iload_n 2, 1) := by decide +kernel
theorem dX12_save_34 : decode cX12_save 34 = .ok (.iadd, 1) := by decide +kernel
theorem dX12_save_35 : decode cX12_save 35 = .ok (.aload_n 0, 1) := by decide +kernel
theorem dX12_save_36 : decode cX12_save 36 = .ok (.getfield 90, 3) := by decide +kernel
theorem dX12_save_39 : decode cX12_save 39 = .ok (.iload_n 2, 1) := by decide +kernel
theorem dX12_save_40 : decode cX12_save 40 = .ok (.iaload, 1) := by decide +kernel
theorem dX12_save_41 : decode cX12_save 41 = .ok (.iastore, 1) := by decide +kernel
theorem dX12_save_42 : decode cX12_save 42 = .ok (.iinc 2 1, 3) := by decide +kernel
theorem dX12_save_45 : decode cX12_save 45 = .ok (.goto (-43), 3) := by decide +kernel
theorem dX12_save_48 : decode cX12_save 48 = .ok (.return_, 1) := by decide +kernel
theorem dX12_restore_0 : decode cX12_restore 0 = .ok (.iconst 0, 1) := by decide +kernel
theorem dX12_restore_1 : decode cX12_restore 1 = .ok (.istore_n 2, 1) := by decide +kernel
theorem dX12_restore_2 : decode cX12_restore 2 = .ok (.iload_n 2, 1) := by decide +kernel
theorem dX12_restore_3 : decode cX12_restore 3 = .ok (.bipush 20, 2) := by decide +kernel
theorem dX12_restore_5 : decode cX12_restore 5 = .ok (.if_icmp .ge 43, 3) := by decide +kernel
theorem dX12_restore_8 : decode cX12_restore 8 = .ok (.aload_n 0, 1) := by decide +kernel
theorem dX12_restore_9 : decode cX12_restore 9 = .ok (.getfield 87, 3) := by decide +kernel
theorem dX12_restore_12 : decode cX12_restore 12 = .ok (.iload_n 2, 1) := by decide +kernel
theorem dX12_restore_13 : decode cX12_restore 13 = .ok (.aload_n 0, 1) := by decide +kernel
theorem dX12_restore_14 : decode cX12_restore 14 = .ok (.getfield 96, 3) := by decide +kernel
theorem dX12_restore_17 : decode cX12_restore 17 = .ok (.bipush 20, 2) := by decide +kernel
theorem dX12_restore_19 : decode cX12_restore 19 = .ok (.iload_n 1, 1) := by decide +kernel
theorem dX12_restore_20 : decode cX12_restore 20 = .ok (.imul, 1) := by decide +kernel
theorem dX12_restore_21 : decode cX12_restore 21 = .ok (.iload_n 2, 1) := by decide +kernel
theorem dX12_restore_22 : decode cX12_restore 22 = .ok (.iadd, 1) := by decide +kernel
theorem dX12_restore_23 : decode cX12_restore 23 = .ok (.iaload, 1) := by decide +kernel
theorem dX12_restore_24 : decode cX12_restore 24 = .ok (.iastore, 1) := by decide +kernel
theorem dX12_restore_25 : decode cX12_restore 25 = .ok (.aload_n 0, 1) := by decide +kernel
theorem dX12_restore_26 : decode cX12_restore 26 = .ok (.getfield 90, 3) := by decide +kernel
theorem dX12_restore_29 : decode cX12_restore 29 = .ok (.iload_n 2, 1) := by decide +kernel
theorem dX12_restore_30 : decode cX12_restore 30 = .ok (.aload_n 0, 1) := by decide +kernel
theorem dX12_restore_31 : decode cX12_restore 31 = .ok (.getfield 99, 3) := by decide +kernel
theorem dX12_restore_34 : decode cX12_restore 34 = .ok (.bipush 20, 2) := by decide +kernel
theorem dX12_restore_36 : decode cX12_restore 36 = .ok (.iload_n 1, 1) := by decide +kernel
theorem dX12_restore_37 : decode cX12_restore 37 = .ok (.imul, 1) := by decide +kernel
theorem dX12_restore_38 : decode cX12_restore 38 = .ok (.iload_n 2, 1) := by decide +kernel
theorem dX12_restore_39 : decode cX12_restore 39 = .ok (.iadd, 1) := by decide +kernel
theorem dX12_restore_40 : decode cX12_restore 40 = .ok (.iaload, 1) := by decide +kernel
theorem dX12_restore_41 : decode cX12_restore 41 = .ok (.iastore, 1) := by decide +kernel
theorem dX12_restore_42 : decode cX12_restore 42 = .ok (.iinc 2 1, 3) := by decide +kernel
theorem dX12_restore_45 : decode cX12_restore 45 = .ok (.goto (-43), 3) := by decide +kernel
theorem dX12_restore_48 : decode cX12_restore 48 = .ok (.return_, 1) := by decide +kernel
theorem dX12_takes_0 : decode cX12_takes 0 = .ok (.iload 5, 2) := by decide +kernel
theorem dX12_takes_2 : decode cX12_takes 2 = .ok (.iload 10, 2) := by decide +kernel
theorem dX12_takes_4 : decode cX12_takes 4 = .ok (.if_icmp .le 5, 3) := by decide +kernel
theorem dX12_takes_7 : decode cX12_takes 7 = .ok (.iconst 0, 1) := by decide +kernel
theorem dX12_takes_8 : decode cX12_takes 8 = .ok (.ireturn, 1) := by decide +kernel
theorem dX12_takes_9 : decode cX12_takes 9 = .ok (.aload_n 0, 1) := by decide +kernel
theorem dX12_takes_10 : decode cX12_takes 10 = .ok (.invokevirtual 188, 3) := by decide +kernel
theorem dX12_takes_13 : decode cX12_takes 13 = .ok (.iconst 0, 1) := by decide +kernel
theorem dX12_takes_14 : decode cX12_takes 14 = .ok (.istore 11, 2) := by decide +kernel
theorem dX12_takes_16 : decode cX12_takes 16 = .ok (.aload_n 0, 1) := by decide +kernel
theorem dX12_takes_17 : decode cX12_takes 17 = .ok (.getfield 93, 3) := by decide +kernel
theorem dX12_takes_20 : decode cX12_takes 20 = .ok (.iconst 0, 1) := by decide +kernel
theorem dX12_takes_21 : decode cX12_takes 21 = .ok (.iconst 0, 1) := by decide +kernel
theorem dX12_takes_22 : decode cX12_takes 22 = .ok (.iastore, 1) := by decide +kernel
theorem dX12_takes_23 : decode cX12_takes 23 = .ok (.aload_n 0, 1) := by decide +kernel
theorem dX12_takes_24 : decode cX12_takes 24 = .ok (.iconst 0, 1) := by decide +kernel
theorem dX12_takes_25 : decode cX12_takes 25 = .ok (.invokevirtual 191, 3) := by decide +kernel
theorem dX12_takes_28 : decode cX12_takes 28 = .ok (.iload 11, 2) := by decide +kernel
theorem dX12_takes_30 : decode cX12_takes 30 = .ok (.iload 5, 2) := by decide +kernel
theorem dX12_takes_32 : decode cX12_takes 32 = .ok (.if_icmp .ge 171, 3) := by decide +kernel
theorem dX12_takes_35 : decode cX12_takes 35 = .ok (.aload_n 0, 1) := by decide +kernel
theorem dX12_takes_36 : decode cX12_takes 36 = .ok (.getfield 93, 3) := by decide +kernel
theorem dX12_takes_39 : decode cX12_takes 39 = .ok (.iload 11, 2) := by decide +kernel
theorem dX12_takes_41 : decode cX12_takes 41 = .ok (.iaload, 1) := by decide +kernel
theorem dX12_takes_42 : decode cX12_takes 42 = .ok (.istore 12, 2) := by decide +kernel
theorem dX12_takes_44 : decode cX12_takes 44 = .ok (.iload 12, 2) := by decide +kernel
theorem dX12_takes_46 : decode cX12_takes 46 = .ok (.iload 10, 2) := by decide +kernel
theorem dX12_takes_48 : decode cX12_takes 48 = .ok (.if_icmp .ne 27, 3) := by decide +kernel
theorem dX12_takes_51 : decode cX12_takes 51 = .ok (.iload 11, 2) := by decide +kernel
theorem dX12_takes_53 : decode cX12_takes 53 = .ok (.ifCond .ne 5, 3) := by decide +kernel
theorem dX12_takes_56 : decode cX12_takes 56 = .ok (.iconst 0, 1) := by decide +kernel
theorem dX12_takes_57 : decode cX12_takes 57 = .ok (.ireturn, 1) := by decide +kernel
theorem dX12_takes_58 : decode cX12_takes 58 = .ok (.iinc 11 (-1), 3) := by decide +kernel
theorem dX12_takes_61 : decode cX12_takes 61 = .ok (.aload_n 0, 1) := by decide +kernel
theorem dX12_takes_62 : decode cX12_takes 62 = .ok (.getfield 93, 3) := by decide +kernel
theorem dX12_takes_65 : decode cX12_takes 65 = .ok (.iload 11, 2) := by decide +kernel
theorem dX12_takes_67 : decode cX12_takes 67 = .ok (.dup2, 1) := by decide +kernel
theorem dX12_takes_68 : decode cX12_takes 68 = .ok (.iaload, 1) := by decide +kernel
theorem dX12_takes_69 : decode cX12_takes 69 = .ok (.iconst 1, 1) := by decide +kernel
theorem dX12_takes_70 : decode cX12_takes 70 = .ok (.iadd, 1) := by decide +kernel
theorem dX12_takes_71 : decode cX12_takes 71 = .ok (.iastore, 1) := by decide +kernel
theorem dX12_takes_72 : decode cX12_takes 72 = .ok (.goto 128, 3) := by decide +kernel
theorem dX12_takes_75 : decode cX12_takes 75 = .ok (.aload_n 0, 1) := by decide +kernel
theorem dX12_takes_76 : decode cX12_takes 76 = .ok (.iload 11, 2) := by decide +kernel
theorem dX12_takes_78 : decode cX12_takes 78 = .ok (.invokevirtual 194, 3) := by decide +kernel
theorem dX12_takes_81 : decode cX12_takes 81 = .ok (.bipush 30, 2) := by decide +kernel
theorem dX12_takes_83 : decode cX12_takes 83 = .ok (.iload 4, 2) := by decide +kernel
theorem dX12_takes_85 : decode cX12_takes 85 = .ok (.iload 11, 2) := by decide +kernel
theorem dX12_takes_87 : decode cX12_takes 87 = .ok (.iadd, 1) := by decide +kernel
theorem dX12_takes_88 : decode cX12_takes 88 = .ok (.imul, 1) := by decide +kernel
theorem dX12_takes_89 : decode cX12_takes 89 = .ok (.istore 13, 2) := by decide +kernel
theorem dX12_takes_91 : decode cX12_takes 91 = .ok (.aload_n 3, 1) := by decide +kernel
theorem dX12_takes_92 : decode cX12_takes 92 = .ok (.iload 4, 2) := by decide +kernel
theorem dX12_takes_94 : decode cX12_takes 94 = .ok (.iload 11, 2) := by decide +kernel
theorem dX12_takes_96 : decode cX12_takes 96 = .ok (.iadd, 1) := by decide +kernel
theorem dX12_takes_97 : decode cX12_takes 97 = .ok (.baload, 1) := by decide +kernel
theorem dX12_takes_98 : decode cX12_takes 98 = .ok (.aload 8, 2) := by decide +kernel
theorem dX12_takes_100 : decode cX12_takes 100 = .ok (.iload 9, 2) := by decide +kernel
theorem dX12_takes_102 : decode cX12_takes 102 = .ok (.iload 12, 2) := by decide +kernel
theorem dX12_takes_104 : decode cX12_takes 104 = .ok (.iadd, 1) := by decide +kernel
theorem dX12_takes_105 : decode cX12_takes 105 = .ok (.baload, 1) := by decide +kernel
theorem dX12_takes_106 : decode cX12_takes 106 = .ok (.if_icmp .ne 55, 3) := by decide +kernel
theorem dX12_takes_109 : decode cX12_takes 109 = .ok (.aload_n 1, 1) := by decide +kernel
theorem dX12_takes_110 : decode cX12_takes 110 = .ok (.iload 13, 2) := by decide +kernel
theorem dX12_takes_112 : decode cX12_takes 112 = .ok (.iaload, 1) := by decide +kernel
theorem dX12_takes_113 : decode cX12_takes 113 = .ok (.aload 6, 2) := by decide +kernel
theorem dX12_takes_115 : decode cX12_takes 115 = .ok (.bipush 30, 2) := by decide +kernel
theorem dX12_takes_117 : decode cX12_takes 117 = .ok (.iload 9, 2) := by decide +kernel
theorem dX12_takes_119 : decode cX12_takes 119 = .ok (.iload 12, 2) := by decide +kernel
theorem dX12_takes_121 : decode cX12_takes 121 = .ok (.iadd, 1) := by decide +kernel
theorem dX12_takes_122 : decode cX12_takes 122 = .ok (.imul, 1) := by decide +kernel
theorem dX12_takes_123 : decode cX12_takes 123 = .ok (.iaload, 1) := by decide +kernel
theorem dX12_takes_124 : decode cX12_takes 124 = .ok (.if_icmp .ne 37, 3) := by decide +kernel
theorem dX12_takes_127 : decode cX12_takes 127 = .ok (.aload_n 0, 1) := by decide +kernel
theorem dX12_takes_128 : decode cX12_takes 128 = .ok (.aload_n 1, 1) := by decide +kernel
theorem dX12_takes_129 : decode cX12_takes 129 = .ok (.iload 13, 2) := by decide +kernel
theorem dX12_takes_131 : decode cX12_takes 131 = .ok (.iload 13, 2) := by decide +kernel
theorem dX12_takes_133 : decode cX12_takes 133 = .ok (.aload_n 2, 1) := by decide +kernel
theorem dX12_takes_134 : decode cX12_takes 134 = .ok (.iload 4, 2) := by decide +kernel
theorem dX12_takes_136 : decode cX12_takes 136 = .ok (.iload 11, 2) := by decide +kernel
theorem dX12_takes_138 : decode cX12_takes 138 = .ok (.iadd, 1) := by decide +kernel
theorem dX12_takes_139 : decode cX12_takes 139 = .ok (.iaload, 1) := by decide +kernel
theorem dX12_takes_140 : decode cX12_takes 140 = .ok (.iadd, 1) := by decide +kernel
theorem dX12_takes_141 : decode cX12_takes 141 = .ok (.aload 6, 2) := by decide +kernel
theorem dX12_takes_143 : decode cX12_takes 143 = .ok (.bipush 30, 2) := by decide +kernel
theorem dX12_takes_145 : decode cX12_takes 145 = .ok (.iload 9, 2) := by decide +kernel
theorem dX12_takes_147 : decode cX12_takes 147 = .ok (.iload 12, 2) := by decide +kernel
theorem dX12_takes_149 : decode cX12_takes 149 = .ok (.iadd, 1) := by decide +kernel
theorem dX12_takes_150 : decode cX12_takes 150 = .ok (.imul, 1) := by decide +kernel
theorem dX12_takes_151 : decode cX12_takes 151 = .ok (.invokevirtual 197, 3) := by decide +kernel
theorem dX12_takes_154 : decode cX12_takes 154 = .ok (.ifCond .eq 7, 3) := by decide +kernel
theorem dX12_takes_157 : decode cX12_takes 157 = .ok (.iconst 1, 1) := by decide +kernel
theorem dX12_takes_158 : decode cX12_takes 158 = .ok (.goto 4, 3) := by decide +kernel
theorem dX12_takes_161 : decode cX12_takes 161 = .ok (.iconst 0, 1) := by decide +kernel
theorem dX12_takes_162 : decode cX12_takes 162 = .ok (.istore 14, 2) := by decide +kernel
theorem dX12_takes_164 : decode cX12_takes 164 = .ok (.iload 14, 2) := by decide +kernel
theorem dX12_takes_166 : decode cX12_takes 166 = .ok (.ifCond .eq 23, 3) := by decide +kernel
theorem dX12_takes_169 : decode cX12_takes 169 = .ok (.iinc 11 1, 3) := by decide +kernel
theorem dX12_takes_172 : decode cX12_takes 172 = .ok (.aload_n 0, 1) := by decide +kernel
theorem dX12_takes_173 : decode cX12_takes 173 = .ok (.getfield 93, 3) := by decide +kernel
theorem dX12_takes_176 : decode cX12_takes 176 = .ok (.iload 11, 2) := by decide +kernel
theorem dX12_takes_178 : decode cX12_takes 178 = .ok (.iconst 0, 1) := by decide +kernel
theorem dX12_takes_179 : decode cX12_takes 179 = .ok (.iastore, 1) := by decide +kernel
theorem dX12_takes_180 : decode cX12_takes 180 = .ok (.aload_n 0, 1) := by decide +kernel
theorem dX12_takes_181 : decode cX12_takes 181 = .ok (.iload 11, 2) := by decide +kernel
theorem dX12_takes_183 : decode cX12_takes 183 = .ok (.invokevirtual 191, 3) := by decide +kernel
theorem dX12_takes_186 : decode cX12_takes 186 = .ok (.goto 14, 3) := by decide +kernel
theorem dX12_takes_189 : decode cX12_takes 189 = .ok (.aload_n 0, 1) := by decide +kernel
theorem dX12_takes_190 : decode cX12_takes 190 = .ok (.getfield 93, 3) := by decide +kernel
theorem dX12_takes_193 : decode cX12_takes 193 = .ok (.iload 11, 2) := by decide +kernel
theorem dX12_takes_195 : decode cX12_takes 195 = .ok (.dup2, 1) := by decide +kernel
theorem dX12_takes_196 : decode cX12_takes 196 = .ok (.iaload, 1) := by decide +kernel
theorem dX12_takes_197 : decode cX12_takes 197 = .ok (.iconst 1, 1) := by decide +kernel
theorem dX12_takes_198 : decode cX12_takes 198 = .ok (.iadd, 1) := by decide +kernel
theorem dX12_takes_199 : decode cX12_takes 199 = .ok (.iastore, 1) := by decide +kernel
theorem dX12_takes_200 : decode cX12_takes 200 = .ok (.goto (-172), 3) := by decide +kernel
theorem dX12_takes_203 : decode cX12_takes 203 = .ok (.iconst 1, 1) := by decide +kernel
theorem dX12_takes_204 : decode cX12_takes 204 = .ok (.ireturn, 1) := by decide +kernel
theorem dX12_claimTakes_0 : decode cX12_claimTakes 0 = .ok (.aload_n 0, 1) := by decide +kernel
theorem dX12_claimTakes_1 : decode cX12_claimTakes 1 = .ok (.aload_n 0, 1) := by decide +kernel
theorem dX12_claimTakes_2 : decode cX12_claimTakes 2 = .ok (.getfield 27, 3) := by decide +kernel
theorem dX12_claimTakes_5 : decode cX12_claimTakes 5 = .ok (.aload_n 0, 1) := by decide +kernel
theorem dX12_claimTakes_6 : decode cX12_claimTakes 6 = .ok (.getfield 30, 3) := by decide +kernel
theorem dX12_claimTakes_9 : decode cX12_claimTakes 9 = .ok (.aload_n 0, 1) := by decide +kernel
theorem dX12_claimTakes_10 : decode cX12_claimTakes 10 = .ok (.getfield 33, 3) := by decide +kernel
theorem dX12_claimTakes_13 : decode cX12_claimTakes 13 = .ok (.bipush 6, 2) := by decide +kernel
theorem dX12_claimTakes_15 : decode cX12_claimTakes 15 = .ok (.iload_n 1, 1) := by decide +kernel
theorem dX12_claimTakes_16 : decode cX12_claimTakes 16 = .ok (.imul, 1) := by decide +kernel
theorem dX12_claimTakes_17 : decode cX12_claimTakes 17 = .ok (.aload_n 0, 1) := by decide +kernel
theorem dX12_claimTakes_18 : decode cX12_claimTakes 18 = .ok (.getfield 36, 3) := by decide +kernel
theorem dX12_claimTakes_21 : decode cX12_claimTakes 21 = .ok (.iload_n 1, 1) := by decide +kernel
theorem dX12_claimTakes_22 : decode cX12_claimTakes 22 = .ok (.iaload, 1) := by decide +kernel
theorem dX12_claimTakes_23 : decode cX12_claimTakes 23 = .ok (.aload_n 0, 1) := by decide +kernel
theorem dX12_claimTakes_24 : decode cX12_claimTakes 24 = .ok (.getfield 27, 3) := by decide +kernel
theorem dX12_claimTakes_27 : decode cX12_claimTakes 27 = .ok (.aload_n 0, 1) := by decide +kernel
theorem dX12_claimTakes_28 : decode cX12_claimTakes 28 = .ok (.getfield 30, 3) := by decide +kernel
theorem dX12_claimTakes_31 : decode cX12_claimTakes 31 = .ok (.aload_n 0, 1) := by decide +kernel
theorem dX12_claimTakes_32 : decode cX12_claimTakes 32 = .ok (.getfield 33, 3) := by decide +kernel
theorem dX12_claimTakes_35 : decode cX12_claimTakes 35 = .ok (.bipush 6, 2) := by decide +kernel
theorem dX12_claimTakes_37 : decode cX12_claimTakes 37 = .ok (.iload_n 2, 1) := by decide +kernel
theorem dX12_claimTakes_38 : decode cX12_claimTakes 38 = .ok (.imul, 1) := by decide +kernel
theorem dX12_claimTakes_39 : decode cX12_claimTakes 39 = .ok (.aload_n 0, 1) := by decide +kernel
theorem dX12_claimTakes_40 : decode cX12_claimTakes 40 = .ok (.getfield 36, 3) := by decide +kernel
theorem dX12_claimTakes_43 : decode cX12_claimTakes 43 = .ok (.iload_n 2, 1) := by decide +kernel
theorem dX12_claimTakes_44 : decode cX12_claimTakes 44 = .ok (.iaload, 1) := by decide +kernel
theorem dX12_claimTakes_45 : decode cX12_claimTakes 45 = .ok (.invokevirtual 201, 3) := by decide +kernel
theorem dX12_claimTakes_48 : decode cX12_claimTakes 48 = .ok (.ireturn, 1) := by decide +kernel
theorem dX12_claimTakesWork_0 : decode cX12_claimTakesWork 0 = .ok (.aload_n 0, 1) := by decide +kernel
theorem dX12_claimTakesWork_1 : decode cX12_claimTakesWork 1 = .ok (.aload_n 0, 1) := by decide +kernel
theorem dX12_claimTakesWork_2 : decode cX12_claimTakesWork 2 = .ok (.getfield 27, 3) := by decide +kernel
theorem dX12_claimTakesWork_5 : decode cX12_claimTakesWork 5 = .ok (.aload_n 0, 1) := by decide +kernel
theorem dX12_claimTakesWork_6 : decode cX12_claimTakesWork 6 = .ok (.getfield 30, 3) := by decide +kernel
theorem dX12_claimTakesWork_9 : decode cX12_claimTakesWork 9 = .ok (.aload_n 0, 1) := by decide +kernel
theorem dX12_claimTakesWork_10 : decode cX12_claimTakesWork 10 = .ok (.getfield 33, 3) := by decide +kernel
theorem dX12_claimTakesWork_13 : decode cX12_claimTakesWork 13 = .ok (.bipush 6, 2) := by decide +kernel
theorem dX12_claimTakesWork_15 : decode cX12_claimTakesWork 15 = .ok (.iload_n 1, 1) := by decide +kernel
theorem dX12_claimTakesWork_16 : decode cX12_claimTakesWork 16 = .ok (.imul, 1) := by decide +kernel
theorem dX12_claimTakesWork_17 : decode cX12_claimTakesWork 17 = .ok (.aload_n 0, 1) := by decide +kernel
theorem dX12_claimTakesWork_18 : decode cX12_claimTakesWork 18 = .ok (.getfield 36, 3) := by decide +kernel
theorem dX12_claimTakesWork_21 : decode cX12_claimTakesWork 21 = .ok (.iload_n 1, 1) := by decide +kernel
theorem dX12_claimTakesWork_22 : decode cX12_claimTakesWork 22 = .ok (.iaload, 1) := by decide +kernel
theorem dX12_claimTakesWork_23 : decode cX12_claimTakesWork 23 = .ok (.aload_n 0, 1) := by decide +kernel
theorem dX12_claimTakesWork_24 : decode cX12_claimTakesWork 24 = .ok (.getfield 69, 3) := by decide +kernel
theorem dX12_claimTakesWork_27 : decode cX12_claimTakesWork 27 = .ok (.aload_n 0, 1) := by decide +kernel
theorem dX12_claimTakesWork_28 : decode cX12_claimTakesWork 28 = .ok (.getfield 72, 3) := by decide +kernel
theorem dX12_claimTakesWork_31 : decode cX12_claimTakesWork 31 = .ok (.aload_n 0, 1) := by decide +kernel
theorem dX12_claimTakesWork_32 : decode cX12_claimTakesWork 32 = .ok (.getfield 75, 3) := by decide +kernel
theorem dX12_claimTakesWork_35 : decode cX12_claimTakesWork 35 = .ok (.iconst 0, 1) := by decide +kernel
theorem dX12_claimTakesWork_36 : decode cX12_claimTakesWork 36 = .ok (.aload_n 0, 1) := by decide +kernel
theorem dX12_claimTakesWork_37 : decode cX12_claimTakesWork 37 = .ok (.getfield 167, 3) := by decide +kernel
theorem dX12_claimTakesWork_40 : decode cX12_claimTakesWork 40 = .ok (.invokevirtual 201, 3) := by decide +kernel
theorem dX12_claimTakesWork_43 : decode cX12_claimTakesWork 43 = .ok (.ireturn, 1) := by decide +kernel
theorem dX12_makeOther_0 : decode cX12_makeOther 0 = .ok (.iconst 0, 1) := by decide +kernel
theorem dX12_makeOther_1 : decode cX12_makeOther 1 = .ok (.istore_n 3, 1) := by decide +kernel
theorem dX12_makeOther_2 : decode cX12_makeOther 2 = .ok (.iload_n 1, 1) := by decide +kernel
theorem dX12_makeOther_3 : decode cX12_makeOther 3 = .ok (.istore 4, 2) := by decide +kernel
theorem dX12_makeOther_5 : decode cX12_makeOther 5 = .ok (.iload 4, 2) := by decide +kernel
theorem dX12_makeOther_7 : decode cX12_makeOther 7 = .ok (.iload_n 2, 1) := by decide +kernel
theorem dX12_makeOther_8 : decode cX12_makeOther 8 = .ok (.if_icmp .ge 107, 3) := by decide +kernel
theorem dX12_makeOther_11 : decode cX12_makeOther 11 = .ok (.aload_n 0, 1) := by decide +kernel
theorem dX12_makeOther_12 : decode cX12_makeOther 12 = .ok (.getfield 27, 3) := by decide +kernel
theorem dX12_makeOther_15 : decode cX12_makeOther 15 = .ok (.iload 4, 2) := by decide +kernel
theorem dX12_makeOther_17 : decode cX12_makeOther 17 = .ok (.iaload, 1) := by decide +kernel
theorem dX12_makeOther_18 : decode cX12_makeOther 18 = .ok (.ifCond .lt 22, 3) := by decide +kernel
theorem dX12_makeOther_21 : decode cX12_makeOther 21 = .ok (.aload_n 0, 1) := by decide +kernel
theorem dX12_makeOther_22 : decode cX12_makeOther 22 = .ok (.getfield 102, 3) := by decide +kernel
theorem dX12_makeOther_25 : decode cX12_makeOther 25 = .ok (.iload_n 3, 1) := by decide +kernel
theorem dX12_makeOther_26 : decode cX12_makeOther 26 = .ok (.aload_n 0, 1) := by decide +kernel
theorem dX12_makeOther_27 : decode cX12_makeOther 27 = .ok (.getfield 27, 3) := by decide +kernel
theorem dX12_makeOther_30 : decode cX12_makeOther 30 = .ok (.iload 4, 2) := by decide +kernel
theorem dX12_makeOther_32 : decode cX12_makeOther 32 = .ok (.iaload, 1) := by decide +kernel
theorem dX12_makeOther_33 : decode cX12_makeOther 33 = .ok (.iastore, 1) := by decide +kernel
theorem dX12_makeOther_34 : decode cX12_makeOther 34 = .ok (.iinc 3 1, 3) := by decide +kernel
theorem dX12_makeOther_37 : decode cX12_makeOther 37 = .ok (.goto 72, 3) := by decide +kernel
theorem dX12_makeOther_40 : decode cX12_makeOther 40 = .ok (.iconst (-1), 1) := by decide +kernel
theorem dX12_makeOther_41 : decode cX12_makeOther 41 = .ok (.aload_n 0, 1) := by decide +kernel
theorem dX12_makeOther_42 : decode cX12_makeOther 42 = .ok (.getfield 27, 3) := by decide +kernel
theorem dX12_makeOther_45 : decode cX12_makeOther 45 = .ok (.iload 4, 2) := by decide +kernel
theorem dX12_makeOther_47 : decode cX12_makeOther 47 = .ok (.iaload, 1) := by decide +kernel
theorem dX12_makeOther_48 : decode cX12_makeOther 48 = .ok (.isub, 1) := by decide +kernel
theorem dX12_makeOther_49 : decode cX12_makeOther 49 = .ok (.istore 5, 2) := by decide +kernel
theorem dX12_makeOther_51 : decode cX12_makeOther 51 = .ok (.aload_n 0, 1) := by decide +kernel
theorem dX12_makeOther_52 : decode cX12_makeOther 52 = .ok (.getfield 87, 3) := by decide +kernel
theorem dX12_makeOther_55 : decode cX12_makeOther 55 = .ok (.iload 5, 2) := by decide +kernel
theorem dX12_makeOther_57 : decode cX12_makeOther 57 = .ok (.iaload, 1) := by decide +kernel
theorem dX12_makeOther_58 : decode cX12_makeOther 58 = .ok (.iconst (-1), 1) := by decide +kernel
theorem dX12_makeOther_59 : decode cX12_makeOther 59 = .ok (.if_icmp .ne 5, 3) := by decide +kernel
theorem dX12_makeOther_62 : decode cX12_makeOther 62 = .ok (.iconst (-1), 1) := by decide +kernel
theorem dX12_makeOther_63 : decode cX12_makeOther 63 = .ok (.ireturn, 1) := by decide +kernel
theorem dX12_makeOther_64 : decode cX12_makeOther 64 = .ok (.iconst 0, 1) := by decide +kernel
theorem dX12_makeOther_65 : decode cX12_makeOther 65 = .ok (.istore 6, 2) := by decide +kernel
theorem dX12_makeOther_67 : decode cX12_makeOther 67 = .ok (.iload 6, 2) := by decide +kernel
theorem dX12_makeOther_69 : decode cX12_makeOther 69 = .ok (.aload_n 0, 1) := by decide +kernel
theorem dX12_makeOther_70 : decode cX12_makeOther 70 = .ok (.getfield 90, 3) := by decide +kernel
theorem dX12_makeOther_73 : decode cX12_makeOther 73 = .ok (.iload 5, 2) := by decide +kernel
theorem dX12_makeOther_75 : decode cX12_makeOther 75 = .ok (.iaload, 1) := by decide +kernel
theorem dX12_makeOther_76 : decode cX12_makeOther 76 = .ok (.if_icmp .ge 33, 3) := by decide +kernel
theorem dX12_makeOther_79 : decode cX12_makeOther 79 = .ok (.aload_n 0, 1) := by decide +kernel
theorem dX12_makeOther_80 : decode cX12_makeOther 80 = .ok (.getfield 102, 3) := by decide +kernel
theorem dX12_makeOther_83 : decode cX12_makeOther 83 = .ok (.iload_n 3, 1) := by decide +kernel
theorem dX12_makeOther_84 : decode cX12_makeOther 84 = .ok (.aload_n 0, 1) := by decide +kernel
theorem dX12_makeOther_85 : decode cX12_makeOther 85 = .ok (.getfield 69, 3) := by decide +kernel
theorem dX12_makeOther_88 : decode cX12_makeOther 88 = .ok (.aload_n 0, 1) := by decide +kernel
theorem dX12_makeOther_89 : decode cX12_makeOther 89 = .ok (.getfield 87, 3) := by decide +kernel
theorem dX12_makeOther_92 : decode cX12_makeOther 92 = .ok (.iload 5, 2) := by decide +kernel
theorem dX12_makeOther_94 : decode cX12_makeOther 94 = .ok (.iaload, 1) := by decide +kernel
theorem dX12_makeOther_95 : decode cX12_makeOther 95 = .ok (.iload 6, 2) := by decide +kernel
theorem dX12_makeOther_97 : decode cX12_makeOther 97 = .ok (.iadd, 1) := by decide +kernel
theorem dX12_makeOther_98 : decode cX12_makeOther 98 = .ok (.iaload, 1) := by decide +kernel
theorem dX12_makeOther_99 : decode cX12_makeOther 99 = .ok (.iastore, 1) := by decide +kernel
theorem dX12_makeOther_100 : decode cX12_makeOther 100 = .ok (.iinc 3 1, 3) := by decide +kernel
theorem dX12_makeOther_103 : decode cX12_makeOther 103 = .ok (.iinc 6 1, 3) := by decide +kernel
theorem dX12_makeOther_106 : decode cX12_makeOther 106 = .ok (.goto (-39), 3) := by decide +kernel
theorem dX12_makeOther_109 : decode cX12_makeOther 109 = .ok (.iinc 4 1, 3) := by decide +kernel
theorem dX12_makeOther_112 : decode cX12_makeOther 112 = .ok (.goto (-107), 3) := by decide +kernel
theorem dX12_makeOther_115 : decode cX12_makeOther 115 = .ok (.iload_n 3, 1) := by decide +kernel
theorem dX12_makeOther_116 : decode cX12_makeOther 116 = .ok (.ireturn, 1) := by decide +kernel
theorem dX12_isEquation_0 : decode cX12_isEquation 0 = .ok (.aload_n 0, 1) := by decide +kernel
theorem dX12_isEquation_1 : decode cX12_isEquation 1 = .ok (.getfield 36, 3) := by decide +kernel
theorem dX12_isEquation_4 : decode cX12_isEquation 4 = .ok (.iload_n 1, 1) := by decide +kernel
theorem dX12_isEquation_5 : decode cX12_isEquation 5 = .ok (.iaload, 1) := by decide +kernel
theorem dX12_isEquation_6 : decode cX12_isEquation 6 = .ok (.iconst 1, 1) := by decide +kernel
theorem dX12_isEquation_7 : decode cX12_isEquation 7 = .ok (.if_icmp .ne 32, 3) := by decide +kernel
theorem dX12_isEquation_10 : decode cX12_isEquation 10 = .ok (.aload_n 0, 1) := by decide +kernel
theorem dX12_isEquation_11 : decode cX12_isEquation 11 = .ok (.getfield 33, 3) := by decide +kernel
theorem dX12_isEquation_14 : decode cX12_isEquation 14 = .ok (.bipush 6, 2) := by decide +kernel
theorem dX12_isEquation_16 : decode cX12_isEquation 16 = .ok (.iload_n 1, 1) := by decide +kernel
theorem dX12_isEquation_17 : decode cX12_isEquation 17 = .ok (.imul, 1) := by decide +kernel
theorem dX12_isEquation_18 : decode cX12_isEquation 18 = .ok (.baload, 1) := by decide +kernel
theorem dX12_isEquation_19 : decode cX12_isEquation 19 = .ok (.ifCond .ne 20, 3) := by decide +kernel
theorem dX12_isEquation_22 : decode cX12_isEquation 22 = .ok (.aload_n 0, 1) := by decide +kernel
theorem dX12_isEquation_23 : decode cX12_isEquation 23 = .ok (.getfield 27, 3) := by decide +kernel
theorem dX12_isEquation_26 : decode cX12_isEquation 26 = .ok (.sipush 180, 3) := by decide +kernel
theorem dX12_isEquation_29 : decode cX12_isEquation 29 = .ok (.iload_n 1, 1) := by decide +kernel
theorem dX12_isEquation_30 : decode cX12_isEquation 30 = .ok (.imul, 1) := by decide +kernel
theorem dX12_isEquation_31 : decode cX12_isEquation 31 = .ok (.iaload, 1) := by decide +kernel
theorem dX12_isEquation_32 : decode cX12_isEquation 32 = .ok (.ifCond .ne 7, 3) := by decide +kernel
theorem dX12_isEquation_35 : decode cX12_isEquation 35 = .ok (.iconst 1, 1) := by decide +kernel
theorem dX12_isEquation_36 : decode cX12_isEquation 36 = .ok (.goto 4, 3) := by decide +kernel
theorem dX12_isEquation_39 : decode cX12_isEquation 39 = .ok (.iconst 0, 1) := by decide +kernel
theorem dX12_isEquation_40 : decode cX12_isEquation 40 = .ok (.ireturn, 1) := by decide +kernel
theorem dX12_rewrites_0 : decode cX12_rewrites 0 = .ok (.sipush 180, 3) := by decide +kernel
theorem dX12_rewrites_3 : decode cX12_rewrites 3 = .ok (.iload_n 1, 1) := by decide +kernel
theorem dX12_rewrites_4 : decode cX12_rewrites 4 = .ok (.imul, 1) := by decide +kernel
theorem dX12_rewrites_5 : decode cX12_rewrites 5 = .ok (.iconst 1, 1) := by decide +kernel
theorem dX12_rewrites_6 : decode cX12_rewrites 6 = .ok (.iadd, 1) := by decide +kernel
theorem dX12_rewrites_7 : decode cX12_rewrites 7 = .ok (.istore 5, 2) := by decide +kernel
theorem dX12_rewrites_9 : decode cX12_rewrites 9 = .ok (.aload_n 0, 1) := by decide +kernel
theorem dX12_rewrites_10 : decode cX12_rewrites 10 = .ok (.aload_n 0, 1) := by decide +kernel
theorem dX12_rewrites_11 : decode cX12_rewrites 11 = .ok (.getfield 27, 3) := by decide +kernel
theorem dX12_rewrites_14 : decode cX12_rewrites 14 = .ok (.iload 5, 2) := by decide +kernel
theorem dX12_rewrites_16 : decode cX12_rewrites 16 = .ok (.invokevirtual 148, 3) := by decide +kernel
theorem dX12_rewrites_19 : decode cX12_rewrites 19 = .ok (.istore 6, 2) := by decide +kernel
theorem dX12_rewrites_21 : decode cX12_rewrites 21 = .ok (.sipush 180, 3) := by decide +kernel
theorem dX12_rewrites_24 : decode cX12_rewrites 24 = .ok (.iload_n 1, 1) := by decide +kernel
theorem dX12_rewrites_25 : decode cX12_rewrites 25 = .ok (.imul, 1) := by decide +kernel
theorem dX12_rewrites_26 : decode cX12_rewrites 26 = .ok (.aload_n 0, 1) := by decide +kernel
theorem dX12_rewrites_27 : decode cX12_rewrites 27 = .ok (.getfield 30, 3) := by decide +kernel
theorem dX12_rewrites_30 : decode cX12_rewrites 30 = .ok (.bipush 6, 2) := by decide +kernel
theorem dX12_rewrites_32 : decode cX12_rewrites 32 = .ok (.iload_n 1, 1) := by decide +kernel
theorem dX12_rewrites_33 : decode cX12_rewrites 33 = .ok (.imul, 1) := by decide +kernel
theorem dX12_rewrites_34 : decode cX12_rewrites 34 = .ok (.iaload, 1) := by decide +kernel
theorem dX12_rewrites_35 : decode cX12_rewrites 35 = .ok (.iadd, 1) := by decide +kernel
theorem dX12_rewrites_36 : decode cX12_rewrites 36 = .ok (.istore 7, 2) := by decide +kernel
theorem dX12_rewrites_38 : decode cX12_rewrites 38 = .ok (.iload_n 2, 1) := by decide +kernel
theorem dX12_rewrites_39 : decode cX12_rewrites 39 = .ok (.ifCond .ne 8, 3) := by decide +kernel
theorem dX12_rewrites_42 : decode cX12_rewrites 42 = .ok (.iload 5, 2) := by decide +kernel
theorem dX12_rewrites_44 : decode cX12_rewrites 44 = .ok (.goto 5, 3) := by decide +kernel
theorem dX12_rewrites_47 : decode cX12_rewrites 47 = .ok (.iload 6, 2) := by decide +kernel
theorem dX12_rewrites_49 : decode cX12_rewrites 49 = .ok (.istore 8, 2) := by decide +kernel
theorem dX12_rewrites_51 : decode cX12_rewrites 51 = .ok (.iload_n 2, 1) := by decide +kernel
theorem dX12_rewrites_52 : decode cX12_rewrites 52 = .ok (.ifCond .ne 8, 3) := by decide +kernel
theorem dX12_rewrites_55 : decode cX12_rewrites 55 = .ok (.iload 6, 2) := by decide +kernel
theorem dX12_rewrites_57 : decode cX12_rewrites 57 = .ok (.goto 5, 3) := by decide +kernel
theorem dX12_rewrites_60 : decode cX12_rewrites 60 = .ok (.iload 7, 2) := by decide +kernel
theorem dX12_rewrites_62 : decode cX12_rewrites 62 = .ok (.istore 9, 2) := by decide +kernel
theorem dX12_rewrites_64 : decode cX12_rewrites 64 = .ok (.bipush 30, 2) := by decide +kernel
theorem dX12_rewrites_66 : decode cX12_rewrites 66 = .ok (.iload_n 3, 1) := by decide +kernel
theorem dX12_rewrites_67 : decode cX12_rewrites 67 = .ok (.imul, 1) := by decide +kernel
theorem dX12_rewrites_68 : decode cX12_rewrites 68 = .ok (.iload 4, 2) := by decide +kernel
theorem dX12_rewrites_70 : decode cX12_rewrites 70 = .ok (.iadd, 1) := by decide +kernel
theorem dX12_rewrites_71 : decode cX12_rewrites 71 = .ok (.istore 10, 2) := by decide +kernel
theorem dX12_rewrites_73 : decode cX12_rewrites 73 = .ok (.aload_n 0, 1) := by decide +kernel
theorem dX12_rewrites_74 : decode cX12_rewrites 74 = .ok (.invokevirtual 188, 3) := by decide +kernel
theorem dX12_rewrites_77 : decode cX12_rewrites 77 = .ok (.aload_n 0, 1) := by decide +kernel
theorem dX12_rewrites_78 : decode cX12_rewrites 78 = .ok (.getfield 27, 3) := by decide +kernel
theorem dX12_rewrites_81 : decode cX12_rewrites 81 = .ok (.iload 8, 2) := by decide +kernel
theorem dX12_rewrites_83 : decode cX12_rewrites 83 = .ok (.iaload, 1) := by decide +kernel
theorem dX12_rewrites_84 : decode cX12_rewrites 84 = .ok (.ifCond .lt 22, 3) := by decide +kernel
theorem dX12_rewrites_87 : decode cX12_rewrites 87 = .ok (.aload_n 0, 1) := by decide +kernel
theorem dX12_rewrites_88 : decode cX12_rewrites 88 = .ok (.getfield 27, 3) := by decide +kernel
theorem dX12_rewrites_91 : decode cX12_rewrites 91 = .ok (.iload 8, 2) := by decide +kernel
theorem dX12_rewrites_93 : decode cX12_rewrites 93 = .ok (.iaload, 1) := by decide +kernel
theorem dX12_rewrites_94 : decode cX12_rewrites 94 = .ok (.aload_n 0, 1) := by decide +kernel
theorem dX12_rewrites_95 : decode cX12_rewrites 95 = .ok (.getfield 69, 3) := by decide +kernel
theorem dX12_rewrites_98 : decode cX12_rewrites 98 = .ok (.iload 10, 2) := by decide +kernel
theorem dX12_rewrites_100 : decode cX12_rewrites 100 = .ok (.iaload, 1) := by decide +kernel
theorem dX12_rewrites_101 : decode cX12_rewrites 101 = .ok (.if_icmp .eq 5, 3) := by decide +kernel
theorem dX12_rewrites_104 : decode cX12_rewrites 104 = .ok (.iconst 0, 1) := by decide +kernel
theorem dX12_rewrites_105 : decode cX12_rewrites 105 = .ok (.ireturn, 1) := by decide +kernel
theorem dX12_rewrites_106 : decode cX12_rewrites 106 = .ok (.aload_n 0, 1) := by decide +kernel
theorem dX12_rewrites_107 : decode cX12_rewrites 107 = .ok (.iload 8, 2) := by decide +kernel
theorem dX12_rewrites_109 : decode cX12_rewrites 109 = .ok (.iload 9, 2) := by decide +kernel
theorem dX12_rewrites_111 : decode cX12_rewrites 111 = .ok (.iload 10, 2) := by decide +kernel
theorem dX12_rewrites_113 : decode cX12_rewrites 113 = .ok (.invokevirtual 205, 3) := by decide +kernel
theorem dX12_rewrites_116 : decode cX12_rewrites 116 = .ok (.ifCond .ne 5, 3) := by decide +kernel
theorem dX12_rewrites_119 : decode cX12_rewrites 119 = .ok (.iconst 0, 1) := by decide +kernel
theorem dX12_rewrites_120 : decode cX12_rewrites 120 = .ok (.ireturn, 1) := by decide +kernel
theorem dX12_rewrites_121 : decode cX12_rewrites 121 = .ok (.aload_n 0, 1) := by decide +kernel
theorem dX12_rewrites_122 : decode cX12_rewrites 122 = .ok (.iload_n 2, 1) := by decide +kernel
theorem dX12_rewrites_123 : decode cX12_rewrites 123 = .ok (.ifCond .ne 14, 3) := by decide +kernel
theorem dX12_rewrites_126 : decode cX12_rewrites 126 = .ok (.aload_n 0, 1) := by decide +kernel
theorem dX12_rewrites_127 : decode cX12_rewrites 127 = .ok (.iload 6, 2) := by decide +kernel
theorem dX12_rewrites_129 : decode cX12_rewrites 129 = .ok (.iload 7, 2) := by decide +kernel
theorem dX12_rewrites_131 : decode cX12_rewrites 131 = .ok (.invokevirtual 208, 3) := by decide +kernel
theorem dX12_rewrites_134 : decode cX12_rewrites 134 = .ok (.goto 11, 3) := by decide +kernel
theorem dX12_rewrites_137 : decode cX12_rewrites 137 = .ok (.aload_n 0, 1) := by decide +kernel
theorem dX12_rewrites_138 : decode cX12_rewrites 138 = .ok (.iload 5, 2) := by decide +kernel
theorem dX12_rewrites_140 : decode cX12_rewrites 140 = .ok (.iload 6, 2) := by decide +kernel
theorem dX12_rewrites_142 : decode cX12_rewrites 142 = .ok (.invokevirtual 208, 3) := by decide +kernel
theorem dX12_rewrites_145 : decode cX12_rewrites 145 = .ok (.putfield 212, 3) := by decide +kernel
theorem dX12_rewrites_148 : decode cX12_rewrites 148 = .ok (.aload_n 0, 1) := by decide +kernel
theorem dX12_rewrites_149 : decode cX12_rewrites 149 = .ok (.getfield 212, 3) := by decide +kernel
theorem dX12_rewrites_152 : decode cX12_rewrites 152 = .ok (.iconst (-1), 1) := by decide +kernel
theorem dX12_rewrites_153 : decode cX12_rewrites 153 = .ok (.if_icmp .eq 25, 3) := by decide +kernel
theorem dX12_rewrites_156 : decode cX12_rewrites 156 = .ok (.aload_n 0, 1) := by decide +kernel
theorem dX12_rewrites_157 : decode cX12_rewrites 157 = .ok (.aload_n 0, 1) := by decide +kernel
theorem dX12_rewrites_158 : decode cX12_rewrites 158 = .ok (.getfield 69, 3) := by decide +kernel
theorem dX12_rewrites_161 : decode cX12_rewrites 161 = .ok (.iload 10, 2) := by decide +kernel
theorem dX12_rewrites_163 : decode cX12_rewrites 163 = .ok (.aload_n 0, 1) := by decide +kernel
theorem dX12_rewrites_164 : decode cX12_rewrites 164 = .ok (.getfield 102, 3) := by decide +kernel
theorem dX12_rewrites_167 : decode cX12_rewrites 167 = .ok (.iconst 0, 1) := by decide +kernel
theorem dX12_rewrites_168 : decode cX12_rewrites 168 = .ok (.invokevirtual 170, 3) := by decide +kernel
theorem dX12_rewrites_171 : decode cX12_rewrites 171 = .ok (.ifCond .eq 7, 3) := by decide +kernel
theorem dX12_rewrites_174 : decode cX12_rewrites 174 = .ok (.iconst 1, 1) := by decide +kernel
theorem dX12_rewrites_175 : decode cX12_rewrites 175 = .ok (.goto 4, 3) := by decide +kernel
theorem dX12_rewrites_178 : decode cX12_rewrites 178 = .ok (.iconst 0, 1) := by decide +kernel
theorem dX12_rewrites_179 : decode cX12_rewrites 179 = .ok (.ireturn, 1) := by decide +kernel
theorem dX12_matchesTerm_0 : decode cX12_matchesTerm 0 = .ok (.iload_n 3, 1) := by decide +kernel
theorem dX12_matchesTerm_1 : decode cX12_matchesTerm 1 = .ok (.istore 4, 2) := by decide +kernel
theorem dX12_matchesTerm_3 : decode cX12_matchesTerm 3 = .ok (.aload_n 0, 1) := by decide +kernel
theorem dX12_matchesTerm_4 : decode cX12_matchesTerm 4 = .ok (.aload_n 0, 1) := by decide +kernel
theorem dX12_matchesTerm_5 : decode cX12_matchesTerm 5 = .ok (.getfield 69, 3) := by decide +kernel
theorem dX12_matchesTerm_8 : decode cX12_matchesTerm 8 = .ok (.iload_n 3, 1) := by decide +kernel
theorem dX12_matchesTerm_9 : decode cX12_matchesTerm 9 = .ok (.invokevirtual 148, 3) := by decide +kernel
theorem dX12_matchesTerm_12 : decode cX12_matchesTerm 12 = .ok (.istore 5, 2) := by decide +kernel
theorem dX12_matchesTerm_14 : decode cX12_matchesTerm 14 = .ok (.iload_n 1, 1) := by decide +kernel
theorem dX12_matchesTerm_15 : decode cX12_matchesTerm 15 = .ok (.istore 6, 2) := by decide +kernel
theorem dX12_matchesTerm_17 : decode cX12_matchesTerm 17 = .ok (.iload 6, 2) := by decide +kernel
theorem dX12_matchesTerm_19 : decode cX12_matchesTerm 19 = .ok (.iload_n 2, 1) := by decide +kernel
theorem dX12_matchesTerm_20 : decode cX12_matchesTerm 20 = .ok (.if_icmp .ge 164, 3) := by decide +kernel
theorem dX12_matchesTerm_23 : decode cX12_matchesTerm 23 = .ok (.aload_n 0, 1) := by decide +kernel
theorem dX12_matchesTerm_24 : decode cX12_matchesTerm 24 = .ok (.getfield 27, 3) := by decide +kernel
theorem dX12_matchesTerm_27 : decode cX12_matchesTerm 27 = .ok (.iload 6, 2) := by decide +kernel
theorem dX12_matchesTerm_29 : decode cX12_matchesTerm 29 = .ok (.iaload, 1) := by decide +kernel
theorem dX12_matchesTerm_30 : decode cX12_matchesTerm 30 = .ok (.ifCond .lt 35, 3) := by decide +kernel
theorem dX12_matchesTerm_33 : decode cX12_matchesTerm 33 = .ok (.iload 4, 2) := by decide +kernel
theorem dX12_matchesTerm_35 : decode cX12_matchesTerm 35 = .ok (.iload 5, 2) := by decide +kernel
theorem dX12_matchesTerm_37 : decode cX12_matchesTerm 37 = .ok (.if_icmp .ge 20, 3) := by decide +kernel
theorem dX12_matchesTerm_40 : decode cX12_matchesTerm 40 = .ok (.aload_n 0, 1) := by decide +kernel
theorem dX12_matchesTerm_41 : decode cX12_matchesTerm 41 = .ok (.getfield 27, 3) := by decide +kernel
theorem dX12_matchesTerm_44 : decode cX12_matchesTerm 44 = .ok (.iload 6, 2) := by decide +kernel
theorem dX12_matchesTerm_46 : decode cX12_matchesTerm 46 = .ok (.iaload, 1) := by decide +kernel
theorem dX12_matchesTerm_47 : decode cX12_matchesTerm 47 = .ok (.aload_n 0, 1) := by decide +kernel
theorem dX12_matchesTerm_48 : decode cX12_matchesTerm 48 = .ok (.getfield 69, 3) := by decide +kernel
theorem dX12_matchesTerm_51 : decode cX12_matchesTerm 51 = .ok (.iload 4, 2) := by decide +kernel
theorem dX12_matchesTerm_53 : decode cX12_matchesTerm 53 = .ok (.iaload, 1) := by decide +kernel
theorem dX12_matchesTerm_54 : decode cX12_matchesTerm 54 = .ok (.if_icmp .eq 5, 3) := by decide +kernel
theorem dX12_matchesTerm_57 : decode cX12_matchesTerm 57 = .ok (.iconst 0, 1) := by decide +kernel
theorem dX12_matchesTerm_58 : decode cX12_matchesTerm 58 = .ok (.ireturn, 1) := by decide +kernel
theorem dX12_matchesTerm_59 : decode cX12_matchesTerm 59 = .ok (.iinc 4 1, 3) := by decide +kernel
theorem dX12_matchesTerm_62 : decode cX12_matchesTerm 62 = .ok (.goto 116, 3) := by decide +kernel
theorem dX12_matchesTerm_65 : decode cX12_matchesTerm 65 = .ok (.iload 4, 2) := by decide +kernel
theorem dX12_matchesTerm_67 : decode cX12_matchesTerm 67 = .ok (.iload 5, 2) := by decide +kernel
theorem dX12_matchesTerm_69 : decode cX12_matchesTerm 69 = .ok (.if_icmp .lt 5, 3) := by decide +kernel
theorem dX12_matchesTerm_72 : decode cX12_matchesTerm 72 = .ok (.iconst 0, 1) := by decide +kernel
theorem dX12_matchesTerm_73 : decode cX12_matchesTerm 73 = .ok (.ireturn, 1) := by decide +kernel
theorem dX12_matchesTerm_74 : decode cX12_matchesTerm 74 = .ok (.iconst (-1), 1) := by decide +kernel
theorem dX12_matchesTerm_75 : decode cX12_matchesTerm 75 = .ok (.aload_n 0, 1) := by decide +kernel
theorem dX12_matchesTerm_76 : decode cX12_matchesTerm 76 = .ok (.getfield 27, 3) := by decide +kernel
theorem dX12_matchesTerm_79 : decode cX12_matchesTerm 79 = .ok (.iload 6, 2) := by decide +kernel
theorem dX12_matchesTerm_81 : decode cX12_matchesTerm 81 = .ok (.iaload, 1) := by decide +kernel
theorem dX12_matchesTerm_82 : decode cX12_matchesTerm 82 = .ok (.isub, 1) := by decide +kernel
theorem dX12_matchesTerm_83 : decode cX12_matchesTerm 83 = .ok (.istore 7, 2) := by decide +kernel
theorem dX12_matchesTerm_85 : decode cX12_matchesTerm 85 = .ok (.aload_n 0, 1) := by decide +kernel
theorem dX12_matchesTerm_86 : decode cX12_matchesTerm 86 = .ok (.aload_n 0, 1) := by decide +kernel
theorem dX12_matchesTerm_87 : decode cX12_matchesTerm 87 = .ok (.getfield 69, 3) := by decide +kernel
theorem dX12_matchesTerm_90 : decode cX12_matchesTerm 90 = .ok (.iload 4, 2) := by decide +kernel
theorem dX12_matchesTerm_92 : decode cX12_matchesTerm 92 = .ok (.invokevirtual 148, 3) := by decide +kernel
theorem dX12_matchesTerm_95 : decode cX12_matchesTerm 95 = .ok (.iload 4, 2) := by decide +kernel
theorem dX12_matchesTerm_97 : decode cX12_matchesTerm 97 = .ok (.isub, 1) := by decide +kernel
theorem dX12_matchesTerm_98 : decode cX12_matchesTerm 98 = .ok (.istore 8, 2) := by decide +kernel
theorem dX12_matchesTerm_100 : decode cX12_matchesTerm 100 = .ok (.aload_n 0, 1) := by decide +kernel
theorem dX12_matchesTerm_101 : decode cX12_matchesTerm 101 = .ok (.getfield 87, 3) := by decide +kernel
theorem dX12_matchesTerm_104 : decode cX12_matchesTerm 104 = .ok (.iload 7, 2) := by decide +kernel
theorem dX12_matchesTerm_106 : decode cX12_matchesTerm 106 = .ok (.iaload, 1) := by decide +kernel
theorem dX12_matchesTerm_107 : decode cX12_matchesTerm 107 = .ok (.iconst (-1), 1) := by decide +kernel
theorem dX12_matchesTerm_108 : decode cX12_matchesTerm 108 = .ok (.if_icmp .ne 24, 3) := by decide +kernel
theorem dX12_matchesTerm_111 : decode cX12_matchesTerm 111 = .ok (.aload_n 0, 1) := by decide +kernel
theorem dX12_matchesTerm_112 : decode cX12_matchesTerm 112 = .ok (.getfield 87, 3) := by decide +kernel
theorem dX12_matchesTerm_115 : decode cX12_matchesTerm 115 = .ok (.iload 7, 2) := by decide +kernel
theorem dX12_matchesTerm_117 : decode cX12_matchesTerm 117 = .ok (.iload 4, 2) := by decide +kernel
theorem dX12_matchesTerm_119 : decode cX12_matchesTerm 119 = .ok (.iastore, 1) := by decide +kernel
theorem dX12_matchesTerm_120 : decode cX12_matchesTerm 120 = .ok (.aload_n 0, 1) := by decide +kernel
theorem dX12_matchesTerm_121 : decode cX12_matchesTerm 121 = .ok (.getfield 90, 3) := by decide +kernel
theorem dX12_matchesTerm_124 : decode cX12_matchesTerm 124 = .ok (.iload 7, 2) := by decide +kernel
theorem dX12_matchesTerm_126 : decode cX12_matchesTerm 126 = .ok (.iload 8, 2) := by decide +kernel
theorem dX12_matchesTerm_128 : decode cX12_matchesTerm 128 = .ok (.iastore, 1) := by decide +kernel
theorem dX12_matchesTerm_129 : decode cX12_matchesTerm 129 = .ok (.goto 42, 3) := by decide +kernel
theorem dX12_matchesTerm_132 : decode cX12_matchesTerm 132 = .ok (.aload_n 0, 1) := by decide +kernel
theorem dX12_matchesTerm_133 : decode cX12_matchesTerm 133 = .ok (.getfield 90, 3) := by decide +kernel
theorem dX12_matchesTerm_136 : decode cX12_matchesTerm 136 = .ok (.iload 7, 2) := by decide +kernel
theorem dX12_matchesTerm_138 : decode cX12_matchesTerm 138 = .ok (.iaload, 1) := by decide +kernel
theorem dX12_matchesTerm_139 : decode cX12_matchesTerm 139 = .ok (.iload 8, 2) := by decide +kernel
theorem dX12_matchesTerm_141 : decode cX12_matchesTerm 141 = .ok (.if_icmp .ne 28, 3) := by decide +kernel
theorem dX12_matchesTerm_144 : decode cX12_matchesTerm 144 = .ok (.aload_n 0, 1) := by decide +kernel
theorem dX12_matchesTerm_145 : decode cX12_matchesTerm 145 = .ok (.getfield 69, 3) := by decide +kernel
theorem dX12_matchesTerm_148 : decode cX12_matchesTerm 148 = .ok (.aload_n 0, 1) := by decide +kernel
theorem dX12_matchesTerm_149 : decode cX12_matchesTerm 149 = .ok (.getfield 87, 3) := by decide +kernel
theorem dX12_matchesTerm_152 : decode cX12_matchesTerm 152 = .ok (.iload 7, 2) := by decide +kernel
theorem dX12_matchesTerm_154 : decode cX12_matchesTerm 154 = .ok (.iaload, 1) := by decide +kernel
theorem dX12_matchesTerm_155 : decode cX12_matchesTerm 155 = .ok (.aload_n 0, 1) := by decide +kernel
theorem dX12_matchesTerm_156 : decode cX12_matchesTerm 156 = .ok (.getfield 69, 3) := by decide +kernel
theorem dX12_matchesTerm_159 : decode cX12_matchesTerm 159 = .ok (.iload 4, 2) := by decide +kernel
theorem dX12_matchesTerm_161 : decode cX12_matchesTerm 161 = .ok (.iload 8, 2) := by decide +kernel
theorem dX12_matchesTerm_163 : decode cX12_matchesTerm 163 = .ok (.invokestatic 152, 3) := by decide +kernel
theorem dX12_matchesTerm_166 : decode cX12_matchesTerm 166 = .ok (.ifCond .ne 5, 3) := by decide +kernel
theorem dX12_matchesTerm_169 : decode cX12_matchesTerm 169 = .ok (.iconst 0, 1) := by decide +kernel
theorem dX12_matchesTerm_170 : decode cX12_matchesTerm 170 = .ok (.ireturn, 1) := by decide +kernel
theorem dX12_matchesTerm_171 : decode cX12_matchesTerm 171 = .ok (.iload 4, 2) := by decide +kernel
theorem dX12_matchesTerm_173 : decode cX12_matchesTerm 173 = .ok (.iload 8, 2) := by decide +kernel
theorem dX12_matchesTerm_175 : decode cX12_matchesTerm 175 = .ok (.iadd, 1) := by decide +kernel
theorem dX12_matchesTerm_176 : decode cX12_matchesTerm 176 = .ok (.istore 4, 2) := by decide +kernel
theorem dX12_matchesTerm_178 : decode cX12_matchesTerm 178 = .ok (.iinc 6 1, 3) := by decide +kernel
theorem dX12_matchesTerm_181 : decode cX12_matchesTerm 181 = .ok (.goto (-164), 3) := by decide +kernel
theorem dX12_matchesTerm_184 : decode cX12_matchesTerm 184 = .ok (.iload 4, 2) := by decide +kernel
theorem dX12_matchesTerm_186 : decode cX12_matchesTerm 186 = .ok (.iload 5, 2) := by decide +kernel
theorem dX12_matchesTerm_188 : decode cX12_matchesTerm 188 = .ok (.if_icmp .ne 7, 3) := by decide +kernel
theorem dX12_matchesTerm_191 : decode cX12_matchesTerm 191 = .ok (.iconst 1, 1) := by decide +kernel
theorem dX12_matchesTerm_192 : decode cX12_matchesTerm 192 = .ok (.goto 4, 3) := by decide +kernel
theorem dX12_matchesTerm_195 : decode cX12_matchesTerm 195 = .ok (.iconst 0, 1) := by decide +kernel
theorem dX12_matchesTerm_196 : decode cX12_matchesTerm 196 = .ok (.ireturn, 1) := by decide +kernel
theorem dX12_lays_0 : decode cX12_lays 0 = .ok (.bipush 30, 2) := by decide +kernel
theorem dX12_lays_2 : decode cX12_lays 2 = .ok (.iload_n 1, 1) := by decide +kernel
theorem dX12_lays_3 : decode cX12_lays 3 = .ok (.imul, 1) := by decide +kernel
theorem dX12_lays_4 : decode cX12_lays 4 = .ok (.iload_n 2, 1) := by decide +kernel
theorem dX12_lays_5 : decode cX12_lays 5 = .ok (.iadd, 1) := by decide +kernel
theorem dX12_lays_6 : decode cX12_lays 6 = .ok (.istore_n 3, 1) := by decide +kernel
theorem dX12_lays_7 : decode cX12_lays 7 = .ok (.aload_n 0, 1) := by decide +kernel
theorem dX12_lays_8 : decode cX12_lays 8 = .ok (.aload_n 0, 1) := by decide +kernel
theorem dX12_lays_9 : decode cX12_lays 9 = .ok (.getfield 69, 3) := by decide +kernel
theorem dX12_lays_12 : decode cX12_lays 12 = .ok (.iload_n 3, 1) := by decide +kernel
theorem dX12_lays_13 : decode cX12_lays 13 = .ok (.invokevirtual 148, 3) := by decide +kernel
theorem dX12_lays_16 : decode cX12_lays 16 = .ok (.istore 4, 2) := by decide +kernel
theorem dX12_lays_18 : decode cX12_lays 18 = .ok (.aload_n 0, 1) := by decide +kernel
theorem dX12_lays_19 : decode cX12_lays 19 = .ok (.getfield 72, 3) := by decide +kernel
theorem dX12_lays_22 : decode cX12_lays 22 = .ok (.iload_n 1, 1) := by decide +kernel
theorem dX12_lays_23 : decode cX12_lays 23 = .ok (.iaload, 1) := by decide +kernel
theorem dX12_lays_24 : decode cX12_lays 24 = .ok (.iload 4, 2) := by decide +kernel
theorem dX12_lays_26 : decode cX12_lays 26 = .ok (.iload_n 3, 1) := by decide +kernel
theorem dX12_lays_27 : decode cX12_lays 27 = .ok (.isub, 1) := by decide +kernel
theorem dX12_lays_28 : decode cX12_lays 28 = .ok (.isub, 1) := by decide +kernel
theorem dX12_lays_29 : decode cX12_lays 29 = .ok (.aload_n 0, 1) := by decide +kernel
theorem dX12_lays_30 : decode cX12_lays 30 = .ok (.getfield 212, 3) := by decide +kernel
theorem dX12_lays_33 : decode cX12_lays 33 = .ok (.iadd, 1) := by decide +kernel
theorem dX12_lays_34 : decode cX12_lays 34 = .ok (.istore 5, 2) := by decide +kernel
theorem dX12_lays_36 : decode cX12_lays 36 = .ok (.iload 5, 2) := by decide +kernel
theorem dX12_lays_38 : decode cX12_lays 38 = .ok (.bipush 30, 2) := by decide +kernel
theorem dX12_lays_40 : decode cX12_lays 40 = .ok (.if_icmp .le 5, 3) := by decide +kernel
theorem dX12_lays_43 : decode cX12_lays 43 = .ok (.iconst 0, 1) := by decide +kernel
theorem dX12_lays_44 : decode cX12_lays 44 = .ok (.ireturn, 1) := by decide +kernel
theorem dX12_lays_45 : decode cX12_lays 45 = .ok (.bipush 30, 2) := by decide +kernel
theorem dX12_lays_47 : decode cX12_lays 47 = .ok (.iload_n 1, 1) := by decide +kernel
theorem dX12_lays_48 : decode cX12_lays 48 = .ok (.imul, 1) := by decide +kernel
theorem dX12_lays_49 : decode cX12_lays 49 = .ok (.aload_n 0, 1) := by decide +kernel
theorem dX12_lays_50 : decode cX12_lays 50 = .ok (.getfield 72, 3) := by decide +kernel
theorem dX12_lays_53 : decode cX12_lays 53 = .ok (.iload_n 1, 1) := by decide +kernel
theorem dX12_lays_54 : decode cX12_lays 54 = .ok (.iaload, 1) := by decide +kernel
theorem dX12_lays_55 : decode cX12_lays 55 = .ok (.iadd, 1) := by decide +kernel
theorem dX12_lays_56 : decode cX12_lays 56 = .ok (.iload 4, 2) := by decide +kernel
theorem dX12_lays_58 : decode cX12_lays 58 = .ok (.isub, 1) := by decide +kernel
theorem dX12_lays_59 : decode cX12_lays 59 = .ok (.istore 6, 2) := by decide +kernel
theorem dX12_lays_61 : decode cX12_lays 61 = .ok (.iconst 0, 1) := by decide +kernel
theorem dX12_lays_62 : decode cX12_lays 62 = .ok (.istore 7, 2) := by decide +kernel
theorem dX12_lays_64 : decode cX12_lays 64 = .ok (.iload 7, 2) := by decide +kernel
theorem dX12_lays_66 : decode cX12_lays 66 = .ok (.iload 6, 2) := by decide +kernel
theorem dX12_lays_68 : decode cX12_lays 68 = .ok (.if_icmp .ge 26, 3) := by decide +kernel
theorem dX12_lays_71 : decode cX12_lays 71 = .ok (.aload_n 0, 1) := by decide +kernel
theorem dX12_lays_72 : decode cX12_lays 72 = .ok (.getfield 81, 3) := by decide +kernel
theorem dX12_lays_75 : decode cX12_lays 75 = .ok (.iload 7, 2) := by decide +kernel
theorem dX12_lays_77 : decode cX12_lays 77 = .ok (.aload_n 0, 1) := by decide +kernel
theorem dX12_lays_78 : decode cX12_lays 78 = .ok (.getfield 69, 3) := by decide +kernel
theorem dX12_lays_81 : decode cX12_lays 81 = .ok (.iload 4, 2) := by decide +kernel
theorem dX12_lays_83 : decode cX12_lays 83 = .ok (.iload 7, 2) := by decide +kernel
theorem dX12_lays_85 : decode cX12_lays 85 = .ok (.iadd, 1) := by decide +kernel
theorem dX12_lays_86 : decode cX12_lays 86 = .ok (.iaload, 1) := by decide +kernel
theorem dX12_lays_87 : decode cX12_lays 87 = .ok (.iastore, 1) := by decide +kernel
theorem dX12_lays_88 : decode cX12_lays 88 = .ok (.iinc 7 1, 3) := by decide +kernel
theorem dX12_lays_91 : decode cX12_lays 91 = .ok (.goto (-27), 3) := by decide +kernel
theorem dX12_lays_94 : decode cX12_lays 94 = .ok (.iconst 0, 1) := by decide +kernel
theorem dX12_lays_95 : decode cX12_lays 95 = .ok (.istore 7, 2) := by decide +kernel
theorem dX12_lays_97 : decode cX12_lays 97 = .ok (.iload 7, 2) := by decide +kernel
theorem dX12_lays_99 : decode cX12_lays 99 = .ok (.aload_n 0, 1) := by decide +kernel
theorem dX12_lays_100 : decode cX12_lays 100 = .ok (.getfield 212, 3) := by decide +kernel
theorem dX12_lays_103 : decode cX12_lays 103 = .ok (.if_icmp .ge 25, 3) := by decide +kernel
theorem dX12_lays_106 : decode cX12_lays 106 = .ok (.aload_n 0, 1) := by decide +kernel
theorem dX12_lays_107 : decode cX12_lays 107 = .ok (.getfield 69, 3) := by decide +kernel
theorem dX12_lays_110 : decode cX12_lays 110 = .ok (.iload_n 3, 1) := by decide +kernel
theorem dX12_lays_111 : decode cX12_lays 111 = .ok (.iload 7, 2) := by decide +kernel
theorem dX12_lays_113 : decode cX12_lays 113 = .ok (.iadd, 1) := by decide +kernel
theorem dX12_lays_114 : decode cX12_lays 114 = .ok (.aload_n 0, 1) := by decide +kernel
theorem dX12_lays_115 : decode cX12_lays 115 = .ok (.getfield 102, 3) := by decide +kernel
theorem dX12_lays_118 : decode cX12_lays 118 = .ok (.iload 7, 2) := by decide +kernel
theorem dX12_lays_120 : decode cX12_lays 120 = .ok (.iaload, 1) := by decide +kernel
theorem dX12_lays_121 : decode cX12_lays 121 = .ok (.iastore, 1) := by decide +kernel
theorem dX12_lays_122 : decode cX12_lays 122 = .ok (.iinc 7 1, 3) := by decide +kernel
theorem dX12_lays_125 : decode cX12_lays 125 = .ok (.goto (-28), 3) := by decide +kernel
theorem dX12_lays_128 : decode cX12_lays 128 = .ok (.iconst 0, 1) := by decide +kernel
theorem dX12_lays_129 : decode cX12_lays 129 = .ok (.istore 7, 2) := by decide +kernel
theorem dX12_lays_131 : decode cX12_lays 131 = .ok (.iload 7, 2) := by decide +kernel
theorem dX12_lays_133 : decode cX12_lays 133 = .ok (.iload 6, 2) := by decide +kernel
theorem dX12_lays_135 : decode cX12_lays 135 = .ok (.if_icmp .ge 30, 3) := by decide +kernel
theorem dX12_lays_138 : decode cX12_lays 138 = .ok (.aload_n 0, 1) := by decide +kernel
theorem dX12_lays_139 : decode cX12_lays 139 = .ok (.getfield 69, 3) := by decide +kernel
theorem dX12_lays_142 : decode cX12_lays 142 = .ok (.iload_n 3, 1) := by decide +kernel
theorem dX12_lays_143 : decode cX12_lays 143 = .ok (.aload_n 0, 1) := by decide +kernel
theorem dX12_lays_144 : decode cX12_lays 144 = .ok (.getfield 212, 3) := by decide +kernel
theorem dX12_lays_147 : decode cX12_lays 147 = .ok (.iadd, 1) := by decide +kernel
theorem dX12_lays_148 : decode cX12_lays 148 = .ok (.iload 7, 2) := by decide +kernel
theorem dX12_lays_150 : decode cX12_lays 150 = .ok (.iadd, 1) := by decide +kernel
theorem dX12_lays_151 : decode cX12_lays 151 = .ok (.aload_n 0, 1) := by decide +kernel
theorem dX12_lays_152 : decode cX12_lays 152 = .ok (.getfield 81, 3) := by decide +kernel
theorem dX12_lays_155 : decode cX12_lays 155 = .ok (.iload 7, 2) := by decide +kernel
theorem dX12_lays_157 : decode cX12_lays 157 = .ok (.iaload, 1) := by decide +kernel
theorem dX12_lays_158 : decode cX12_lays 158 = .ok (.iastore, 1) := by decide +kernel
theorem dX12_lays_159 : decode cX12_lays 159 = .ok (.iinc 7 1, 3) := by decide +kernel
theorem dX12_lays_162 : decode cX12_lays 162 = .ok (.goto (-31), 3) := by decide +kernel
theorem dX12_lays_165 : decode cX12_lays 165 = .ok (.aload_n 0, 1) := by decide +kernel
theorem dX12_lays_166 : decode cX12_lays 166 = .ok (.getfield 72, 3) := by decide +kernel
theorem dX12_lays_169 : decode cX12_lays 169 = .ok (.iload_n 1, 1) := by decide +kernel
theorem dX12_lays_170 : decode cX12_lays 170 = .ok (.iload 5, 2) := by decide +kernel
theorem dX12_lays_172 : decode cX12_lays 172 = .ok (.iastore, 1) := by decide +kernel
theorem dX12_lays_173 : decode cX12_lays 173 = .ok (.iconst 1, 1) := by decide +kernel
theorem dX12_lays_174 : decode cX12_lays 174 = .ok (.ireturn, 1) := by decide +kernel
theorem dX12_findRewriting_0 : decode cX12_findRewriting 0 = .ok (.aload_n 0, 1) := by decide +kernel
theorem dX12_findRewriting_1 : decode cX12_findRewriting 1 = .ok (.iconst 0, 1) := by decide +kernel
theorem dX12_findRewriting_2 : decode cX12_findRewriting 2 = .ok (.putfield 215, 3) := by decide +kernel
theorem dX12_findRewriting_5 : decode cX12_findRewriting 5 = .ok (.aload_n 0, 1) := by decide +kernel
theorem dX12_findRewriting_6 : decode cX12_findRewriting 6 = .ok (.getfield 215, 3) := by decide +kernel
theorem dX12_findRewriting_9 : decode cX12_findRewriting 9 = .ok (.aload_n 0, 1) := by decide +kernel
theorem dX12_findRewriting_10 : decode cX12_findRewriting 10 = .ok (.getfield 167, 3) := by decide +kernel
theorem dX12_findRewriting_13 : decode cX12_findRewriting 13 = .ok (.if_icmp .ge 174, 3) := by decide +kernel
theorem dX12_findRewriting_16 : decode cX12_findRewriting 16 = .ok (.aload_n 0, 1) := by decide +kernel
theorem dX12_findRewriting_17 : decode cX12_findRewriting 17 = .ok (.iconst 1, 1) := by decide +kernel
theorem dX12_findRewriting_18 : decode cX12_findRewriting 18 = .ok (.putfield 218, 3) := by decide +kernel
theorem dX12_findRewriting_21 : decode cX12_findRewriting 21 = .ok (.aload_n 0, 1) := by decide +kernel
theorem dX12_findRewriting_22 : decode cX12_findRewriting 22 = .ok (.getfield 218, 3) := by decide +kernel
theorem dX12_findRewriting_25 : decode cX12_findRewriting 25 = .ok (.aload_n 0, 1) := by decide +kernel
theorem dX12_findRewriting_26 : decode cX12_findRewriting 26 = .ok (.getfield 72, 3) := by decide +kernel
theorem dX12_findRewriting_29 : decode cX12_findRewriting 29 = .ok (.aload_n 0, 1) := by decide +kernel
theorem dX12_findRewriting_30 : decode cX12_findRewriting 30 = .ok (.getfield 215, 3) := by decide +kernel
theorem dX12_findRewriting_33 : decode cX12_findRewriting 33 = .ok (.iaload, 1) := by decide +kernel
theorem dX12_findRewriting_34 : decode cX12_findRewriting 34 = .ok (.if_icmp .ge 140, 3) := by decide +kernel
theorem dX12_findRewriting_37 : decode cX12_findRewriting 37 = .ok (.aload_n 0, 1) := by decide +kernel
theorem dX12_findRewriting_38 : decode cX12_findRewriting 38 = .ok (.iconst 0, 1) := by decide +kernel
theorem dX12_findRewriting_39 : decode cX12_findRewriting 39 = .ok (.putfield 221, 3) := by decide +kernel
theorem dX12_findRewriting_42 : decode cX12_findRewriting 42 = .ok (.aload_n 0, 1) := by decide +kernel
theorem dX12_findRewriting_43 : decode cX12_findRewriting 43 = .ok (.getfield 221, 3) := by decide +kernel
theorem dX12_findRewriting_46 : decode cX12_findRewriting 46 = .ok (.aload_n 0, 1) := by decide +kernel
theorem dX12_findRewriting_47 : decode cX12_findRewriting 47 = .ok (.getfield 142, 3) := by decide +kernel
theorem dX12_findRewriting_50 : decode cX12_findRewriting 50 = .ok (.if_icmp .ge 111, 3) := by decide +kernel
theorem dX12_findRewriting_53 : decode cX12_findRewriting 53 = .ok (.aload_n 0, 1) := by decide +kernel
theorem dX12_findRewriting_54 : decode cX12_findRewriting 54 = .ok (.getfield 69, 3) := by decide +kernel
theorem dX12_findRewriting_57 : decode cX12_findRewriting 57 = .ok (.bipush 30, 2) := by decide +kernel
theorem dX12_findRewriting_59 : decode cX12_findRewriting 59 = .ok (.aload_n 0, 1) := by decide +kernel
theorem dX12_findRewriting_60 : decode cX12_findRewriting 60 = .ok (.getfield 215, 3) := by decide +kernel
theorem dX12_findRewriting_63 : decode cX12_findRewriting 63 = .ok (.imul, 1) := by decide +kernel
theorem dX12_findRewriting_64 : decode cX12_findRewriting 64 = .ok (.aload_n 0, 1) := by decide +kernel
theorem dX12_findRewriting_65 : decode cX12_findRewriting 65 = .ok (.getfield 218, 3) := by decide +kernel
theorem dX12_findRewriting_68 : decode cX12_findRewriting 68 = .ok (.iadd, 1) := by decide +kernel
theorem dX12_findRewriting_69 : decode cX12_findRewriting 69 = .ok (.iaload, 1) := by decide +kernel
theorem dX12_findRewriting_70 : decode cX12_findRewriting 70 = .ok (.ifCond .lt 91, 3) := by decide +kernel
theorem dX12_findRewriting_73 : decode cX12_findRewriting 73 = .ok (.aload_n 0, 1) := by decide +kernel
theorem dX12_findRewriting_74 : decode cX12_findRewriting 74 = .ok (.iconst 0, 1) := by decide +kernel
theorem dX12_findRewriting_75 : decode cX12_findRewriting 75 = .ok (.putfield 224, 3) := by decide +kernel
theorem dX12_findRewriting_78 : decode cX12_findRewriting 78 = .ok (.aload_n 0, 1) := by decide +kernel
theorem dX12_findRewriting_79 : decode cX12_findRewriting 79 = .ok (.getfield 224, 3) := by decide +kernel
theorem dX12_findRewriting_82 : decode cX12_findRewriting 82 = .ok (.iconst 2, 1) := by decide +kernel
theorem dX12_findRewriting_83 : decode cX12_findRewriting 83 = .ok (.if_icmp .ge 65, 3) := by decide +kernel
theorem dX12_findRewriting_86 : decode cX12_findRewriting 86 = .ok (.aload_n 0, 1) := by decide +kernel
theorem dX12_findRewriting_87 : decode cX12_findRewriting 87 = .ok (.getfield 39, 3) := by decide +kernel
theorem dX12_findRewriting_90 : decode cX12_findRewriting 90 = .ok (.aload_n 0, 1) := by decide +kernel
theorem dX12_findRewriting_91 : decode cX12_findRewriting 91 = .ok (.getfield 221, 3) := by decide +kernel
theorem dX12_findRewriting_94 : decode cX12_findRewriting 94 = .ok (.iaload, 1) := by decide +kernel
theorem dX12_findRewriting_95 : decode cX12_findRewriting 95 = .ok (.iconst 2, 1) := by decide +kernel
theorem dX12_findRewriting_96 : decode cX12_findRewriting 96 = .ok (.if_icmp .eq 52, 3) := by decide +kernel
theorem dX12_findRewriting_99 : decode cX12_findRewriting 99 = .ok (.aload_n 0, 1) := by decide +kernel
theorem dX12_findRewriting_100 : decode cX12_findRewriting 100 = .ok (.aload_n 0, 1) := by decide +kernel
theorem dX12_findRewriting_101 : decode cX12_findRewriting 101 = .ok (.getfield 221, 3) := by decide +kernel
theorem dX12_findRewriting_104 : decode cX12_findRewriting 104 = .ok (.invokevirtual 227, 3) := by decide +kernel
theorem dX12_findRewriting_107 : decode cX12_findRewriting 107 = .ok (.ifCond .eq 41, 3) := by decide +kernel
theorem dX12_findRewriting_110 : decode cX12_findRewriting 110 = .ok (.aload_n 0, 1) := by decide +kernel
theorem dX12_findRewriting_111 : decode cX12_findRewriting 111 = .ok (.aload_n 0, 1) := by decide +kernel
theorem dX12_findRewriting_112 : decode cX12_findRewriting 112 = .ok (.getfield 221, 3) := by decide +kernel
theorem dX12_findRewriting_115 : decode cX12_findRewriting 115 = .ok (.aload_n 0, 1) := by decide +kernel
theorem dX12_findRewriting_116 : decode cX12_findRewriting 116 = .ok (.getfield 224, 3) := by decide +kernel
theorem dX12_findRewriting_119 : decode cX12_findRewriting 119 = .ok (.aload_n 0, 1) := by decide +kernel
theorem dX12_findRewriting_120 : decode cX12_findRewriting 120 = .ok (.getfield 215, 3) := by decide +kernel
theorem dX12_findRewriting_123 : decode cX12_findRewriting 123 = .ok (.aload_n 0, 1) := by decide +kernel
theorem dX12_findRewriting_124 : decode cX12_findRewriting 124 = .ok (.getfield 218, 3) := by decide +kernel
theorem dX12_findRewriting_127 : decode cX12_findRewriting 127 = .ok (.invokevirtual 230, 3) := by decide +kernel
theorem dX12_findRewriting_130 : decode cX12_findRewriting 130 = .ok (.ifCond .eq 5, 3) := by decide +kernel
theorem dX12_findRewriting_133 : decode cX12_findRewriting 133 = .ok (.iconst 1, 1) := by decide +kernel
theorem dX12_findRewriting_134 : decode cX12_findRewriting 134 = .ok (.ireturn, 1) := by decide +kernel
theorem dX12_findRewriting_135 : decode cX12_findRewriting 135 = .ok (.aload_n 0, 1) := by decide +kernel
theorem dX12_findRewriting_136 : decode cX12_findRewriting 136 = .ok (.dup, 1) := by decide +kernel
theorem dX12_findRewriting_137 : decode cX12_findRewriting 137 = .ok (.getfield 224, 3) := by decide +kernel
theorem dX12_findRewriting_140 : decode cX12_findRewriting 140 = .ok (.iconst 1, 1) := by decide +kernel
theorem dX12_findRewriting_141 : decode cX12_findRewriting 141 = .ok (.iadd, 1) := by decide +kernel
theorem dX12_findRewriting_142 : decode cX12_findRewriting 142 = .ok (.putfield 224, 3) := by decide +kernel
theorem dX12_findRewriting_145 : decode cX12_findRewriting 145 = .ok (.goto (-67), 3) := by decide +kernel
theorem dX12_findRewriting_148 : decode cX12_findRewriting 148 = .ok (.aload_n 0, 1) := by decide +kernel
theorem dX12_findRewriting_149 : decode cX12_findRewriting 149 = .ok (.dup, 1) := by decide +kernel
theorem dX12_findRewriting_150 : decode cX12_findRewriting 150 = .ok (.getfield 221, 3) := by decide +kernel
theorem dX12_findRewriting_153 : decode cX12_findRewriting 153 = .ok (.iconst 1, 1) := by decide +kernel
theorem dX12_findRewriting_154 : decode cX12_findRewriting 154 = .ok (.iadd, 1) := by decide +kernel
theorem dX12_findRewriting_155 : decode cX12_findRewriting 155 = .ok (.putfield 221, 3) := by decide +kernel
theorem dX12_findRewriting_158 : decode cX12_findRewriting 158 = .ok (.goto (-116), 3) := by decide +kernel
theorem dX12_findRewriting_161 : decode cX12_findRewriting 161 = .ok (.aload_n 0, 1) := by decide +kernel
theorem dX12_findRewriting_162 : decode cX12_findRewriting 162 = .ok (.dup, 1) := by decide +kernel
theorem dX12_findRewriting_163 : decode cX12_findRewriting 163 = .ok (.getfield 218, 3) := by decide +kernel
theorem dX12_findRewriting_166 : decode cX12_findRewriting 166 = .ok (.iconst 1, 1) := by decide +kernel
theorem dX12_findRewriting_167 : decode cX12_findRewriting 167 = .ok (.iadd, 1) := by decide +kernel
theorem dX12_findRewriting_168 : decode cX12_findRewriting 168 = .ok (.putfield 218, 3) := by decide +kernel
theorem dX12_findRewriting_171 : decode cX12_findRewriting 171 = .ok (.goto (-150), 3) := by decide +kernel
theorem dX12_findRewriting_174 : decode cX12_findRewriting 174 = .ok (.aload_n 0, 1) := by decide +kernel
theorem dX12_findRewriting_175 : decode cX12_findRewriting 175 = .ok (.dup, 1) := by decide +kernel
theorem dX12_findRewriting_176 : decode cX12_findRewriting 176 = .ok (.getfield 215, 3) := by decide +kernel
theorem dX12_findRewriting_179 : decode cX12_findRewriting 179 = .ok (.iconst 1, 1) := by decide +kernel
theorem dX12_findRewriting_180 : decode cX12_findRewriting 180 = .ok (.iadd, 1) := by decide +kernel
theorem dX12_findRewriting_181 : decode cX12_findRewriting 181 = .ok (.putfield 215, 3) := by decide +kernel
theorem dX12_findRewriting_184 : decode cX12_findRewriting 184 = .ok (.goto (-179), 3) := by decide +kernel
theorem dX12_findRewriting_187 : decode cX12_findRewriting 187 = .ok (.iconst 0, 1) := by decide +kernel
theorem dX12_findRewriting_188 : decode cX12_findRewriting 188 = .ok (.ireturn, 1) := by decide +kernel
theorem dX12_finishes_0 : decode cX12_finishes 0 = .ok (.aload_n 0, 1) := by decide +kernel
theorem dX12_finishes_1 : decode cX12_finishes 1 = .ok (.iconst 0, 1) := by decide +kernel
theorem dX12_finishes_2 : decode cX12_finishes 2 = .ok (.putfield 233, 3) := by decide +kernel
theorem dX12_finishes_5 : decode cX12_finishes 5 = .ok (.aload_n 0, 1) := by decide +kernel
theorem dX12_finishes_6 : decode cX12_finishes 6 = .ok (.invokevirtual 236, 3) := by decide +kernel
theorem dX12_finishes_9 : decode cX12_finishes 9 = .ok (.aload_n 0, 1) := by decide +kernel
theorem dX12_finishes_10 : decode cX12_finishes 10 = .ok (.getfield 185, 3) := by decide +kernel
theorem dX12_finishes_13 : decode cX12_finishes 13 = .ok (.bipush 20, 2) := by decide +kernel
theorem dX12_finishes_15 : decode cX12_finishes 15 = .ok (.if_icmp .le 5, 3) := by decide +kernel
theorem dX12_finishes_18 : decode cX12_finishes 18 = .ok (.iconst 0, 1) := by decide +kernel
theorem dX12_finishes_19 : decode cX12_finishes 19 = .ok (.ireturn, 1) := by decide +kernel
theorem dX12_finishes_20 : decode cX12_finishes 20 = .ok (.aload_n 0, 1) := by decide +kernel
theorem dX12_finishes_21 : decode cX12_finishes 21 = .ok (.getfield 233, 3) := by decide +kernel
theorem dX12_finishes_24 : decode cX12_finishes 24 = .ok (.bipush 8, 2) := by decide +kernel
theorem dX12_finishes_26 : decode cX12_finishes 26 = .ok (.if_icmp .ge 120, 3) := by decide +kernel
theorem dX12_finishes_29 : decode cX12_finishes 29 = .ok (.aload_n 0, 1) := by decide +kernel
theorem dX12_finishes_30 : decode cX12_finishes 30 = .ok (.invokevirtual 239, 3) := by decide +kernel
theorem dX12_finishes_33 : decode cX12_finishes 33 = .ok (.ifCond .eq 113, 3) := by decide +kernel
theorem dX12_finishes_36 : decode cX12_finishes 36 = .ok (.aload_n 0, 1) := by decide +kernel
theorem dX12_finishes_37 : decode cX12_finishes 37 = .ok (.aload_n 0, 1) := by decide +kernel
theorem dX12_finishes_38 : decode cX12_finishes 38 = .ok (.getfield 215, 3) := by decide +kernel
theorem dX12_finishes_41 : decode cX12_finishes 41 = .ok (.aload_n 0, 1) := by decide +kernel
theorem dX12_finishes_42 : decode cX12_finishes 42 = .ok (.getfield 218, 3) := by decide +kernel
theorem dX12_finishes_45 : decode cX12_finishes 45 = .ok (.invokevirtual 243, 3) := by decide +kernel
theorem dX12_finishes_48 : decode cX12_finishes 48 = .ok (.ifCond .ne 5, 3) := by decide +kernel
theorem dX12_finishes_51 : decode cX12_finishes 51 = .ok (.iconst 0, 1) := by decide +kernel
theorem dX12_finishes_52 : decode cX12_finishes 52 = .ok (.ireturn, 1) := by decide +kernel
theorem dX12_finishes_53 : decode cX12_finishes 53 = .ok (.aload_n 0, 1) := by decide +kernel
theorem dX12_finishes_54 : decode cX12_finishes 54 = .ok (.getfield 105, 3) := by decide +kernel
theorem dX12_finishes_57 : decode cX12_finishes 57 = .ok (.iconst 4, 1) := by decide +kernel
theorem dX12_finishes_58 : decode cX12_finishes 58 = .ok (.aload_n 0, 1) := by decide +kernel
theorem dX12_finishes_59 : decode cX12_finishes 59 = .ok (.getfield 233, 3) := by decide +kernel
theorem dX12_finishes_62 : decode cX12_finishes 62 = .ok (.imul, 1) := by decide +kernel
theorem dX12_finishes_63 : decode cX12_finishes 63 = .ok (.aload_n 0, 1) := by decide +kernel
theorem dX12_finishes_64 : decode cX12_finishes 64 = .ok (.getfield 221, 3) := by decide +kernel
theorem dX12_finishes_67 : decode cX12_finishes 67 = .ok (.iastore, 1) := by decide +kernel
theorem dX12_finishes_68 : decode cX12_finishes 68 = .ok (.aload_n 0, 1) := by decide +kernel
theorem dX12_finishes_69 : decode cX12_finishes 69 = .ok (.getfield 105, 3) := by decide +kernel
theorem dX12_finishes_72 : decode cX12_finishes 72 = .ok (.iconst 4, 1) := by decide +kernel
theorem dX12_finishes_73 : decode cX12_finishes 73 = .ok (.aload_n 0, 1) := by decide +kernel
theorem dX12_finishes_74 : decode cX12_finishes 74 = .ok (.getfield 233, 3) := by decide +kernel
theorem dX12_finishes_77 : decode cX12_finishes 77 = .ok (.imul, 1) := by decide +kernel
theorem dX12_finishes_78 : decode cX12_finishes 78 = .ok (.iconst 1, 1) := by decide +kernel
theorem dX12_finishes_79 : decode cX12_finishes 79 = .ok (.iadd, 1) := by decide +kernel
theorem dX12_finishes_80 : decode cX12_finishes 80 = .ok (.aload_n 0, 1) := by decide +kernel
theorem dX12_finishes_81 : decode cX12_finishes 81 = .ok (.getfield 224, 3) := by decide +kernel
theorem dX12_finishes_84 : decode cX12_finishes 84 = .ok (.iastore, 1) := by decide +kernel
theorem dX12_finishes_85 : decode cX12_finishes 85 = .ok (.aload_n 0, 1) := by decide +kernel
theorem dX12_finishes_86 : decode cX12_finishes 86 = .ok (.getfield 105, 3) := by decide +kernel
theorem dX12_finishes_89 : decode cX12_finishes 89 = .ok (.iconst 4, 1) := by decide +kernel
theorem dX12_finishes_90 : decode cX12_finishes 90 = .ok (.aload_n 0, 1) := by decide +kernel
theorem dX12_finishes_91 : decode cX12_finishes 91 = .ok (.getfield 233, 3) := by decide +kernel
theorem dX12_finishes_94 : decode cX12_finishes 94 = .ok (.imul, 1) := by decide +kernel
theorem dX12_finishes_95 : decode cX12_finishes 95 = .ok (.iconst 2, 1) := by decide +kernel
theorem dX12_finishes_96 : decode cX12_finishes 96 = .ok (.iadd, 1) := by decide +kernel
theorem dX12_finishes_97 : decode cX12_finishes 97 = .ok (.aload_n 0, 1) := by decide +kernel
theorem dX12_finishes_98 : decode cX12_finishes 98 = .ok (.getfield 215, 3) := by decide +kernel
theorem dX12_finishes_101 : decode cX12_finishes 101 = .ok (.iastore, 1) := by decide +kernel
theorem dX12_finishes_102 : decode cX12_finishes 102 = .ok (.aload_n 0, 1) := by decide +kernel
theorem dX12_finishes_103 : decode cX12_finishes 103 = .ok (.getfield 105, 3) := by decide +kernel
theorem dX12_finishes_106 : decode cX12_finishes 106 = .ok (.iconst 4, 1) := by decide +kernel
theorem dX12_finishes_107 : decode cX12_finishes 107 = .ok (.aload_n 0, 1) := by decide +kernel
theorem dX12_finishes_108 : decode cX12_finishes 108 = .ok (.getfield 233, 3) := by decide +kernel
theorem dX12_finishes_111 : decode cX12_finishes 111 = .ok (.imul, 1) := by decide +kernel
theorem dX12_finishes_112 : decode cX12_finishes 112 = .ok (.iconst 3, 1) := by decide +kernel
theorem dX12_finishes_113 : decode cX12_finishes 113 = .ok (.iadd, 1) := by decide +kernel
theorem dX12_finishes_114 : decode cX12_finishes 114 = .ok (.aload_n 0, 1) := by decide +kernel
theorem dX12_finishes_115 : decode cX12_finishes 115 = .ok (.getfield 218, 3) := by decide +kernel
theorem dX12_finishes_118 : decode cX12_finishes 118 = .ok (.iastore, 1) := by decide +kernel
theorem dX12_finishes_119 : decode cX12_finishes 119 = .ok (.aload_n 0, 1) := by decide +kernel
theorem dX12_finishes_120 : decode cX12_finishes 120 = .ok (.dup, 1) := by decide +kernel
theorem dX12_finishes_121 : decode cX12_finishes 121 = .ok (.getfield 233, 3) := by decide +kernel
theorem dX12_finishes_124 : decode cX12_finishes 124 = .ok (.iconst 1, 1) := by decide +kernel
theorem dX12_finishes_125 : decode cX12_finishes 125 = .ok (.iadd, 1) := by decide +kernel
theorem dX12_finishes_126 : decode cX12_finishes 126 = .ok (.putfield 233, 3) := by decide +kernel
theorem dX12_finishes_129 : decode cX12_finishes 129 = .ok (.aload_n 0, 1) := by decide +kernel
theorem dX12_finishes_130 : decode cX12_finishes 130 = .ok (.dup, 1) := by decide +kernel
theorem dX12_finishes_131 : decode cX12_finishes 131 = .ok (.getfield 246, 3) := by decide +kernel
theorem dX12_finishes_134 : decode cX12_finishes 134 = .ok (.iconst 1, 1) := by decide +kernel
theorem dX12_finishes_135 : decode cX12_finishes 135 = .ok (.iadd, 1) := by decide +kernel
theorem dX12_finishes_136 : decode cX12_finishes 136 = .ok (.putfield 246, 3) := by decide +kernel
theorem dX12_finishes_139 : decode cX12_finishes 139 = .ok (.aload_n 0, 1) := by decide +kernel
theorem dX12_finishes_140 : decode cX12_finishes 140 = .ok (.invokevirtual 236, 3) := by decide +kernel
theorem dX12_finishes_143 : decode cX12_finishes 143 = .ok (.goto (-123), 3) := by decide +kernel
theorem dX12_finishes_146 : decode cX12_finishes 146 = .ok (.iconst 1, 1) := by decide +kernel
theorem dX12_finishes_147 : decode cX12_finishes 147 = .ok (.ireturn, 1) := by decide +kernel
theorem dX12_take_0 : decode cX12_take 0 = .ok (.iconst 0, 1) := by decide +kernel
theorem dX12_take_1 : decode cX12_take 1 = .ok (.istore_n 3, 1) := by decide +kernel
theorem dX12_take_2 : decode cX12_take 2 = .ok (.iload_n 3, 1) := by decide +kernel
theorem dX12_take_3 : decode cX12_take 3 = .ok (.sipush 180, 3) := by decide +kernel
theorem dX12_take_6 : decode cX12_take 6 = .ok (.if_icmp .ge 66, 3) := by decide +kernel
theorem dX12_take_9 : decode cX12_take 9 = .ok (.aload_n 0, 1) := by decide +kernel
theorem dX12_take_10 : decode cX12_take 10 = .ok (.getfield 108, 3) := by decide +kernel
theorem dX12_take_13 : decode cX12_take 13 = .ok (.iload_n 3, 1) := by decide +kernel
theorem dX12_take_14 : decode cX12_take 14 = .ok (.aload_n 0, 1) := by decide +kernel
theorem dX12_take_15 : decode cX12_take 15 = .ok (.getfield 27, 3) := by decide +kernel
theorem dX12_take_18 : decode cX12_take 18 = .ok (.sipush 180, 3) := by decide +kernel
theorem dX12_take_21 : decode cX12_take 21 = .ok (.iload_n 1, 1) := by decide +kernel
theorem dX12_take_22 : decode cX12_take 22 = .ok (.imul, 1) := by decide +kernel
theorem dX12_take_23 : decode cX12_take 23 = .ok (.iload_n 3, 1) := by decide +kernel
theorem dX12_take_24 : decode cX12_take 24 = .ok (.iadd, 1) := by decide +kernel
theorem dX12_take_25 : decode cX12_take 25 = .ok (.iaload, 1) := by decide +kernel
theorem dX12_take_26 : decode cX12_take 26 = .ok (.iastore, 1) := by decide +kernel
theorem dX12_take_27 : decode cX12_take 27 = .ok (.aload_n 0, 1) := by decide +kernel
theorem dX12_take_28 : decode cX12_take 28 = .ok (.getfield 27, 3) := by decide +kernel
theorem dX12_take_31 : decode cX12_take 31 = .ok (.sipush 180, 3) := by decide +kernel
theorem dX12_take_34 : decode cX12_take 34 = .ok (.iload_n 2, 1) := by decide +kernel
theorem dX12_take_35 : decode cX12_take 35 = .ok (.imul, 1) := by decide +kernel
theorem dX12_take_36 : decode cX12_take 36 = .ok (.iload_n 3, 1) := by decide +kernel
theorem dX12_take_37 : decode cX12_take 37 = .ok (.iadd, 1) := by decide +kernel
theorem dX12_take_38 : decode cX12_take 38 = .ok (.iaload, 1) := by decide +kernel
theorem dX12_take_39 : decode cX12_take 39 = .ok (.istore 4, 2) := by decide +kernel
theorem dX12_take_41 : decode cX12_take 41 = .ok (.aload_n 0, 1) := by decide +kernel
theorem dX12_take_42 : decode cX12_take 42 = .ok (.getfield 108, 3) := by decide +kernel
theorem dX12_take_45 : decode cX12_take 45 = .ok (.sipush 180, 3) := by decide +kernel
theorem dX12_take_48 : decode cX12_take 48 = .ok (.iload_n 3, 1) := by decide +kernel
theorem dX12_take_49 : decode cX12_take 49 = .ok (.iadd, 1) := by decide +kernel
theorem dX12_take_50 : decode cX12_take 50 = .ok (.iload 4, 2) := by decide +kernel
theorem dX12_take_52 : decode cX12_take 52 = .ok (.ifCond .ge 11, 3) := by decide +kernel
theorem dX12_take_55 : decode cX12_take 55 = .ok (.iload 4, 2) := by decide +kernel
theorem dX12_take_57 : decode cX12_take 57 = .ok (.bipush 20, 2) := by decide +kernel
theorem dX12_take_59 : decode cX12_take 59 = .ok (.isub, 1) := by decide +kernel
theorem dX12_take_60 : decode cX12_take 60 = .ok (.goto 5, 3) := by decide +kernel
theorem dX12_take_63 : decode cX12_take 63 = .ok (.iload 4, 2) := by decide +kernel
theorem dX12_take_65 : decode cX12_take 65 = .ok (.iastore, 1) := by decide +kernel
theorem dX12_take_66 : decode cX12_take 66 = .ok (.iinc 3 1, 3) := by decide +kernel
theorem dX12_take_69 : decode cX12_take 69 = .ok (.goto (-67), 3) := by decide +kernel
theorem dX12_take_72 : decode cX12_take 72 = .ok (.iconst 0, 1) := by decide +kernel
theorem dX12_take_73 : decode cX12_take 73 = .ok (.istore_n 3, 1) := by decide +kernel
theorem dX12_take_74 : decode cX12_take 74 = .ok (.iload_n 3, 1) := by decide +kernel
theorem dX12_take_75 : decode cX12_take 75 = .ok (.bipush 40, 2) := by decide +kernel
theorem dX12_take_77 : decode cX12_take 77 = .ok (.if_icmp .ge 16, 3) := by decide +kernel
theorem dX12_take_80 : decode cX12_take 80 = .ok (.aload_n 0, 1) := by decide +kernel
theorem dX12_take_81 : decode cX12_take 81 = .ok (.getfield 111, 3) := by decide +kernel
theorem dX12_take_84 : decode cX12_take 84 = .ok (.iload_n 3, 1) := by decide +kernel
theorem dX12_take_85 : decode cX12_take 85 = .ok (.iconst (-1), 1) := by decide +kernel
theorem dX12_take_86 : decode cX12_take 86 = .ok (.iastore, 1) := by decide +kernel
theorem dX12_take_87 : decode cX12_take 87 = .ok (.iinc 3 1, 3) := by decide +kernel
theorem dX12_take_90 : decode cX12_take 90 = .ok (.goto (-16), 3) := by decide +kernel
theorem dX12_take_93 : decode cX12_take 93 = .ok (.return_, 1) := by decide +kernel
theorem dX12_standsAt_0 : decode cX12_standsAt 0 = .ok (.iload_n 1, 1) := by decide +kernel
theorem dX12_standsAt_1 : decode cX12_standsAt 1 = .ok (.istore_n 2, 1) := by decide +kernel
theorem dX12_standsAt_2 : decode cX12_standsAt 2 = .ok (.aload_n 0, 1) := by decide +kernel
theorem dX12_standsAt_3 : decode cX12_standsAt 3 = .ok (.getfield 108, 3) := by decide +kernel
theorem dX12_standsAt_6 : decode cX12_standsAt 6 = .ok (.iload_n 2, 1) := by decide +kernel
theorem dX12_standsAt_7 : decode cX12_standsAt 7 = .ok (.iaload, 1) := by decide +kernel
theorem dX12_standsAt_8 : decode cX12_standsAt 8 = .ok (.ifCond .ge 37, 3) := by decide +kernel
theorem dX12_standsAt_11 : decode cX12_standsAt 11 = .ok (.aload_n 0, 1) := by decide +kernel
theorem dX12_standsAt_12 : decode cX12_standsAt 12 = .ok (.getfield 111, 3) := by decide +kernel
theorem dX12_standsAt_15 : decode cX12_standsAt 15 = .ok (.iconst (-1), 1) := by decide +kernel
theorem dX12_standsAt_16 : decode cX12_standsAt 16 = .ok (.aload_n 0, 1) := by decide +kernel
theorem dX12_standsAt_17 : decode cX12_standsAt 17 = .ok (.getfield 108, 3) := by decide +kernel
theorem dX12_standsAt_20 : decode cX12_standsAt 20 = .ok (.iload_n 2, 1) := by decide +kernel
theorem dX12_standsAt_21 : decode cX12_standsAt 21 = .ok (.iaload, 1) := by decide +kernel
theorem dX12_standsAt_22 : decode cX12_standsAt 22 = .ok (.isub, 1) := by decide +kernel
theorem dX12_standsAt_23 : decode cX12_standsAt 23 = .ok (.iaload, 1) := by decide +kernel
theorem dX12_standsAt_24 : decode cX12_standsAt 24 = .ok (.iconst (-1), 1) := by decide +kernel
theorem dX12_standsAt_25 : decode cX12_standsAt 25 = .ok (.if_icmp .eq 20, 3) := by decide +kernel
theorem dX12_standsAt_28 : decode cX12_standsAt 28 = .ok (.aload_n 0, 1) := by decide +kernel
theorem dX12_standsAt_29 : decode cX12_standsAt 29 = .ok (.getfield 111, 3) := by decide +kernel
theorem dX12_standsAt_32 : decode cX12_standsAt 32 = .ok (.iconst (-1), 1) := by decide +kernel
theorem dX12_standsAt_33 : decode cX12_standsAt 33 = .ok (.aload_n 0, 1) := by decide +kernel
theorem dX12_standsAt_34 : decode cX12_standsAt 34 = .ok (.getfield 108, 3) := by decide +kernel
theorem dX12_standsAt_37 : decode cX12_standsAt 37 = .ok (.iload_n 2, 1) := by decide +kernel
theorem dX12_standsAt_38 : decode cX12_standsAt 38 = .ok (.iaload, 1) := by decide +kernel
theorem dX12_standsAt_39 : decode cX12_standsAt 39 = .ok (.isub, 1) := by decide +kernel
theorem dX12_standsAt_40 : decode cX12_standsAt 40 = .ok (.iaload, 1) := by decide +kernel
theorem dX12_standsAt_41 : decode cX12_standsAt 41 = .ok (.istore_n 2, 1) := by decide +kernel
theorem dX12_standsAt_42 : decode cX12_standsAt 42 = .ok (.goto (-40), 3) := by decide +kernel
theorem dX12_standsAt_45 : decode cX12_standsAt 45 = .ok (.iload_n 2, 1) := by decide +kernel
theorem dX12_standsAt_46 : decode cX12_standsAt 46 = .ok (.ireturn, 1) := by decide +kernel
theorem dX12_occurs_0 : decode cX12_occurs 0 = .ok (.iconst 1, 1) := by decide +kernel
theorem dX12_occurs_1 : decode cX12_occurs 1 = .ok (.istore_n 3, 1) := by decide +kernel
theorem dX12_occurs_2 : decode cX12_occurs 2 = .ok (.aload_n 0, 1) := by decide +kernel
theorem dX12_occurs_3 : decode cX12_occurs 3 = .ok (.getfield 114, 3) := by decide +kernel
theorem dX12_occurs_6 : decode cX12_occurs 6 = .ok (.sipush 2000, 3) := by decide +kernel
theorem dX12_occurs_9 : decode cX12_occurs 9 = .ok (.iload_n 2, 1) := by decide +kernel
theorem dX12_occurs_10 : decode cX12_occurs 10 = .ok (.iastore, 1) := by decide +kernel
theorem dX12_occurs_11 : decode cX12_occurs 11 = .ok (.aload_n 0, 1) := by decide +kernel
theorem dX12_occurs_12 : decode cX12_occurs 12 = .ok (.getfield 120, 3) := by decide +kernel
theorem dX12_occurs_15 : decode cX12_occurs 15 = .ok (.sipush 2000, 3) := by decide +kernel
theorem dX12_occurs_18 : decode cX12_occurs 18 = .ok (.iconst 1, 1) := by decide +kernel
theorem dX12_occurs_19 : decode cX12_occurs 19 = .ok (.iastore, 1) := by decide +kernel
theorem dX12_occurs_20 : decode cX12_occurs 20 = .ok (.iload_n 3, 1) := by decide +kernel
theorem dX12_occurs_21 : decode cX12_occurs 21 = .ok (.ifCond .le 152, 3) := by decide +kernel
theorem dX12_occurs_24 : decode cX12_occurs 24 = .ok (.sipush 1999, 3) := by decide +kernel
theorem dX12_occurs_27 : decode cX12_occurs 27 = .ok (.iload_n 3, 1) := by decide +kernel
theorem dX12_occurs_28 : decode cX12_occurs 28 = .ok (.iadd, 1) := by decide +kernel
theorem dX12_occurs_29 : decode cX12_occurs 29 = .ok (.istore 4, 2) := by decide +kernel
theorem dX12_occurs_31 : decode cX12_occurs 31 = .ok (.aload_n 0, 1) := by decide +kernel
theorem dX12_occurs_32 : decode cX12_occurs 32 = .ok (.getfield 120, 3) := by decide +kernel
theorem dX12_occurs_35 : decode cX12_occurs 35 = .ok (.iload 4, 2) := by decide +kernel
theorem dX12_occurs_37 : decode cX12_occurs 37 = .ok (.iaload, 1) := by decide +kernel
theorem dX12_occurs_38 : decode cX12_occurs 38 = .ok (.ifCond .ne 9, 3) := by decide +kernel
theorem dX12_occurs_41 : decode cX12_occurs 41 = .ok (.iinc 3 (-1), 3) := by decide +kernel
theorem dX12_occurs_44 : decode cX12_occurs 44 = .ok (.goto 126, 3) := by decide +kernel
theorem dX12_occurs_47 : decode cX12_occurs 47 = .ok (.aload_n 0, 1) := by decide +kernel
theorem dX12_occurs_48 : decode cX12_occurs 48 = .ok (.aload_n 0, 1) := by decide +kernel
theorem dX12_occurs_49 : decode cX12_occurs 49 = .ok (.getfield 114, 3) := by decide +kernel
theorem dX12_occurs_52 : decode cX12_occurs 52 = .ok (.iload 4, 2) := by decide +kernel
theorem dX12_occurs_54 : decode cX12_occurs 54 = .ok (.iaload, 1) := by decide +kernel
theorem dX12_occurs_55 : decode cX12_occurs 55 = .ok (.invokevirtual 249, 3) := by decide +kernel
theorem dX12_occurs_58 : decode cX12_occurs 58 = .ok (.istore 5, 2) := by decide +kernel
theorem dX12_occurs_60 : decode cX12_occurs 60 = .ok (.aload_n 0, 1) := by decide +kernel
theorem dX12_occurs_61 : decode cX12_occurs 61 = .ok (.getfield 114, 3) := by decide +kernel
theorem dX12_occurs_64 : decode cX12_occurs 64 = .ok (.iload 4, 2) := by decide +kernel
theorem dX12_occurs_66 : decode cX12_occurs 66 = .ok (.aload_n 0, 1) := by decide +kernel
theorem dX12_occurs_67 : decode cX12_occurs 67 = .ok (.aload_n 0, 1) := by decide +kernel
theorem dX12_occurs_68 : decode cX12_occurs 68 = .ok (.getfield 108, 3) := by decide +kernel
theorem dX12_occurs_71 : decode cX12_occurs 71 = .ok (.aload_n 0, 1) := by decide +kernel
theorem dX12_occurs_72 : decode cX12_occurs 72 = .ok (.getfield 114, 3) := by decide +kernel
theorem dX12_occurs_75 : decode cX12_occurs 75 = .ok (.iload 4, 2) := by decide +kernel
theorem dX12_occurs_77 : decode cX12_occurs 77 = .ok (.iaload, 1) := by decide +kernel
theorem dX12_occurs_78 : decode cX12_occurs 78 = .ok (.invokevirtual 148, 3) := by decide +kernel
theorem dX12_occurs_81 : decode cX12_occurs 81 = .ok (.iastore, 1) := by decide +kernel
theorem dX12_occurs_82 : decode cX12_occurs 82 = .ok (.aload_n 0, 1) := by decide +kernel
theorem dX12_occurs_83 : decode cX12_occurs 83 = .ok (.getfield 120, 3) := by decide +kernel
theorem dX12_occurs_86 : decode cX12_occurs 86 = .ok (.iload 4, 2) := by decide +kernel
theorem dX12_occurs_88 : decode cX12_occurs 88 = .ok (.dup2, 1) := by decide +kernel
theorem dX12_occurs_89 : decode cX12_occurs 89 = .ok (.iaload, 1) := by decide +kernel
theorem dX12_occurs_90 : decode cX12_occurs 90 = .ok (.iconst 1, 1) := by decide +kernel
theorem dX12_occurs_91 : decode cX12_occurs 91 = .ok (.isub, 1) := by decide +kernel
theorem dX12_occurs_92 : decode cX12_occurs 92 = .ok (.iastore, 1) := by decide +kernel
theorem dX12_occurs_93 : decode cX12_occurs 93 = .ok (.aload_n 0, 1) := by decide +kernel
theorem dX12_occurs_94 : decode cX12_occurs 94 = .ok (.getfield 108, 3) := by decide +kernel
theorem dX12_occurs_97 : decode cX12_occurs 97 = .ok (.iload 5, 2) := by decide +kernel
theorem dX12_occurs_99 : decode cX12_occurs 99 = .ok (.iaload, 1) := by decide +kernel
theorem dX12_occurs_100 : decode cX12_occurs 100 = .ok (.iload_n 1, 1) := by decide +kernel
theorem dX12_occurs_101 : decode cX12_occurs 101 = .ok (.if_icmp .ne 5, 3) := by decide +kernel
theorem dX12_occurs_104 : decode cX12_occurs 104 = .ok (.iconst 1, 1) := by decide +kernel
theorem dX12_occurs_105 : decode cX12_occurs 105 = .ok (.ireturn, 1) := by decide +kernel
theorem dX12_occurs_106 : decode cX12_occurs 106 = .ok (.aload_n 0, 1) := by decide +kernel
theorem dX12_occurs_107 : decode cX12_occurs 107 = .ok (.getfield 108, 3) := by decide +kernel
theorem dX12_occurs_110 : decode cX12_occurs 110 = .ok (.iload 5, 2) := by decide +kernel
theorem dX12_occurs_112 : decode cX12_occurs 112 = .ok (.iaload, 1) := by decide +kernel
theorem dX12_occurs_113 : decode cX12_occurs 113 = .ok (.ifCond .lt 57, 3) := by decide +kernel
theorem dX12_occurs_116 : decode cX12_occurs 116 = .ok (.aload_n 0, 1) := by decide +kernel
theorem dX12_occurs_117 : decode cX12_occurs 117 = .ok (.getfield 17, 3) := by decide +kernel
theorem dX12_occurs_120 : decode cX12_occurs 120 = .ok (.aload_n 0, 1) := by decide +kernel
theorem dX12_occurs_121 : decode cX12_occurs 121 = .ok (.getfield 108, 3) := by decide +kernel
theorem dX12_occurs_124 : decode cX12_occurs 124 = .ok (.iload 5, 2) := by decide +kernel
theorem dX12_occurs_126 : decode cX12_occurs 126 = .ok (.iaload, 1) := by decide +kernel
theorem dX12_occurs_127 : decode cX12_occurs 127 = .ok (.iaload, 1) := by decide +kernel
theorem dX12_occurs_128 : decode cX12_occurs 128 = .ok (.ifCond .le 42, 3) := by decide +kernel
theorem dX12_occurs_131 : decode cX12_occurs 131 = .ok (.aload_n 0, 1) := by decide +kernel
theorem dX12_occurs_132 : decode cX12_occurs 132 = .ok (.getfield 114, 3) := by decide +kernel
theorem dX12_occurs_135 : decode cX12_occurs 135 = .ok (.sipush 2000, 3) := by decide +kernel
theorem dX12_occurs_138 : decode cX12_occurs 138 = .ok (.iload_n 3, 1) := by decide +kernel
theorem dX12_occurs_139 : decode cX12_occurs 139 = .ok (.iadd, 1) := by decide +kernel
theorem dX12_occurs_140 : decode cX12_occurs 140 = .ok (.iload 5, 2) := by decide +kernel
theorem dX12_occurs_142 : decode cX12_occurs 142 = .ok (.iconst 1, 1) := by decide +kernel
theorem dX12_occurs_143 : decode cX12_occurs 143 = .ok (.iadd, 1) := by decide +kernel
theorem dX12_occurs_144 : decode cX12_occurs 144 = .ok (.iastore, 1) := by decide +kernel
theorem dX12_occurs_145 : decode cX12_occurs 145 = .ok (.aload_n 0, 1) := by decide +kernel
theorem dX12_occurs_146 : decode cX12_occurs 146 = .ok (.getfield 120, 3) := by decide +kernel
theorem dX12_occurs_149 : decode cX12_occurs 149 = .ok (.sipush 2000, 3) := by decide +kernel
theorem dX12_occurs_152 : decode cX12_occurs 152 = .ok (.iload_n 3, 1) := by decide +kernel
theorem dX12_occurs_153 : decode cX12_occurs 153 = .ok (.iadd, 1) := by decide +kernel
theorem dX12_occurs_154 : decode cX12_occurs 154 = .ok (.aload_n 0, 1) := by decide +kernel
theorem dX12_occurs_155 : decode cX12_occurs 155 = .ok (.getfield 17, 3) := by decide +kernel
theorem dX12_occurs_158 : decode cX12_occurs 158 = .ok (.aload_n 0, 1) := by decide +kernel
theorem dX12_occurs_159 : decode cX12_occurs 159 = .ok (.getfield 108, 3) := by decide +kernel
theorem dX12_occurs_162 : decode cX12_occurs 162 = .ok (.iload 5, 2) := by decide +kernel
theorem dX12_occurs_164 : decode cX12_occurs 164 = .ok (.iaload, 1) := by decide +kernel
theorem dX12_occurs_165 : decode cX12_occurs 165 = .ok (.iaload, 1) := by decide +kernel
theorem dX12_occurs_166 : decode cX12_occurs 166 = .ok (.iastore, 1) := by decide +kernel
theorem dX12_occurs_167 : decode cX12_occurs 167 = .ok (.iinc 3 1, 3) := by decide +kernel
theorem dX12_occurs_170 : decode cX12_occurs 170 = .ok (.goto (-150), 3) := by decide +kernel
theorem dX12_occurs_173 : decode cX12_occurs 173 = .ok (.iconst 0, 1) := by decide +kernel
theorem dX12_occurs_174 : decode cX12_occurs 174 = .ok (.ireturn, 1) := by decide +kernel
theorem dX12_unites_0 : decode cX12_unites 0 = .ok (.iconst 1, 1) := by decide +kernel
theorem dX12_unites_1 : decode cX12_unites 1 = .ok (.istore_n 3, 1) := by decide +kernel
theorem dX12_unites_2 : decode cX12_unites 2 = .ok (.aload_n 0, 1) := by decide +kernel
theorem dX12_unites_3 : decode cX12_unites 3 = .ok (.getfield 114, 3) := by decide +kernel
theorem dX12_unites_6 : decode cX12_unites 6 = .ok (.iconst 0, 1) := by decide +kernel
theorem dX12_unites_7 : decode cX12_unites 7 = .ok (.iload_n 1, 1) := by decide +kernel
theorem dX12_unites_8 : decode cX12_unites 8 = .ok (.iastore, 1) := by decide +kernel
theorem dX12_unites_9 : decode cX12_unites 9 = .ok (.aload_n 0, 1) := by decide +kernel
theorem dX12_unites_10 : decode cX12_unites 10 = .ok (.getfield 117, 3) := by decide +kernel
theorem dX12_unites_13 : decode cX12_unites 13 = .ok (.iconst 0, 1) := by decide +kernel
theorem dX12_unites_14 : decode cX12_unites 14 = .ok (.iload_n 2, 1) := by decide +kernel
theorem dX12_unites_15 : decode cX12_unites 15 = .ok (.iastore, 1) := by decide +kernel
theorem dX12_unites_16 : decode cX12_unites 16 = .ok (.aload_n 0, 1) := by decide +kernel
theorem dX12_unites_17 : decode cX12_unites 17 = .ok (.getfield 120, 3) := by decide +kernel
theorem dX12_unites_20 : decode cX12_unites 20 = .ok (.iconst 0, 1) := by decide +kernel
theorem dX12_unites_21 : decode cX12_unites 21 = .ok (.iconst 1, 1) := by decide +kernel
theorem dX12_unites_22 : decode cX12_unites 22 = .ok (.iastore, 1) := by decide +kernel
theorem dX12_unites_23 : decode cX12_unites 23 = .ok (.iload_n 3, 1) := by decide +kernel
theorem dX12_unites_24 : decode cX12_unites 24 = .ok (.ifCond .le 240, 3) := by decide +kernel
theorem dX12_unites_27 : decode cX12_unites 27 = .ok (.iload_n 3, 1) := by decide +kernel
theorem dX12_unites_28 : decode cX12_unites 28 = .ok (.iconst 1, 1) := by decide +kernel
theorem dX12_unites_29 : decode cX12_unites 29 = .ok (.isub, 1) := by decide +kernel
theorem dX12_unites_30 : decode cX12_unites 30 = .ok (.istore 4, 2) := by decide +kernel
theorem dX12_unites_32 : decode cX12_unites 32 = .ok (.aload_n 0, 1) := by decide +kernel
theorem dX12_unites_33 : decode cX12_unites 33 = .ok (.getfield 120, 3) := by decide +kernel
theorem dX12_unites_36 : decode cX12_unites 36 = .ok (.iload 4, 2) := by decide +kernel
theorem dX12_unites_38 : decode cX12_unites 38 = .ok (.iaload, 1) := by decide +kernel
theorem dX12_unites_39 : decode cX12_unites 39 = .ok (.ifCond .ne 9, 3) := by decide +kernel
theorem dX12_unites_42 : decode cX12_unites 42 = .ok (.iinc 3 (-1), 3) := by decide +kernel
theorem dX12_unites_45 : decode cX12_unites 45 = .ok (.goto 216, 3) := by decide +kernel
theorem dX12_unites_48 : decode cX12_unites 48 = .ok (.aload_n 0, 1) := by decide +kernel
theorem dX12_unites_49 : decode cX12_unites 49 = .ok (.aload_n 0, 1) := by decide +kernel
theorem dX12_unites_50 : decode cX12_unites 50 = .ok (.getfield 114, 3) := by decide +kernel
theorem dX12_unites_53 : decode cX12_unites 53 = .ok (.iload 4, 2) := by decide +kernel
theorem dX12_unites_55 : decode cX12_unites 55 = .ok (.iaload, 1) := by decide +kernel
theorem dX12_unites_56 : decode cX12_unites 56 = .ok (.invokevirtual 249, 3) := by decide +kernel
theorem dX12_unites_59 : decode cX12_unites 59 = .ok (.istore 5, 2) := by decide +kernel
theorem dX12_unites_61 : decode cX12_unites 61 = .ok (.aload_n 0, 1) := by decide +kernel
theorem dX12_unites_62 : decode cX12_unites 62 = .ok (.aload_n 0, 1) := by decide +kernel
theorem dX12_unites_63 : decode cX12_unites 63 = .ok (.getfield 117, 3) := by decide +kernel
theorem dX12_unites_66 : decode cX12_unites 66 = .ok (.iload 4, 2) := by decide +kernel
theorem dX12_unites_68 : decode cX12_unites 68 = .ok (.iaload, 1) := by decide +kernel
theorem dX12_unites_69 : decode cX12_unites 69 = .ok (.invokevirtual 249, 3) := by decide +kernel
theorem dX12_unites_72 : decode cX12_unites 72 = .ok (.istore 6, 2) := by decide +kernel
theorem dX12_unites_74 : decode cX12_unites 74 = .ok (.aload_n 0, 1) := by decide +kernel
theorem dX12_unites_75 : decode cX12_unites 75 = .ok (.getfield 114, 3) := by decide +kernel
theorem dX12_unites_78 : decode cX12_unites 78 = .ok (.iload 4, 2) := by decide +kernel
theorem dX12_unites_80 : decode cX12_unites 80 = .ok (.aload_n 0, 1) := by decide +kernel
theorem dX12_unites_81 : decode cX12_unites 81 = .ok (.aload_n 0, 1) := by decide +kernel
theorem dX12_unites_82 : decode cX12_unites 82 = .ok (.getfield 108, 3) := by decide +kernel
theorem dX12_unites_85 : decode cX12_unites 85 = .ok (.aload_n 0, 1) := by decide +kernel
theorem dX12_unites_86 : decode cX12_unites 86 = .ok (.getfield 114, 3) := by decide +kernel
theorem dX12_unites_89 : decode cX12_unites 89 = .ok (.iload 4, 2) := by decide +kernel
theorem dX12_unites_91 : decode cX12_unites 91 = .ok (.iaload, 1) := by decide +kernel
theorem dX12_unites_92 : decode cX12_unites 92 = .ok (.invokevirtual 148, 3) := by decide +kernel
theorem dX12_unites_95 : decode cX12_unites 95 = .ok (.iastore, 1) := by decide +kernel
theorem dX12_unites_96 : decode cX12_unites 96 = .ok (.aload_n 0, 1) := by decide +kernel
theorem dX12_unites_97 : decode cX12_unites 97 = .ok (.getfield 117, 3) := by decide +kernel
theorem dX12_unites_100 : decode cX12_unites 100 = .ok (.iload 4, 2) := by decide +kernel
theorem dX12_unites_102 : decode cX12_unites 102 = .ok (.aload_n 0, 1) := by decide +kernel
theorem dX12_unites_103 : decode cX12_unites 103 = .ok (.aload_n 0, 1) := by decide +kernel
theorem dX12_unites_104 : decode cX12_unites 104 = .ok (.getfield 108, 3) := by decide +kernel
theorem dX12_unites_107 : decode cX12_unites 107 = .ok (.aload_n 0, 1) := by decide +kernel
theorem dX12_unites_108 : decode cX12_unites 108 = .ok (.getfield 117, 3) := by decide +kernel
theorem dX12_unites_111 : decode cX12_unites 111 = .ok (.iload 4, 2) := by decide +kernel
theorem dX12_unites_113 : decode cX12_unites 113 = .ok (.iaload, 1) := by decide +kernel
theorem dX12_unites_114 : decode cX12_unites 114 = .ok (.invokevirtual 148, 3) := by decide +kernel
theorem dX12_unites_117 : decode cX12_unites 117 = .ok (.iastore, 1) := by decide +kernel
theorem dX12_unites_118 : decode cX12_unites 118 = .ok (.aload_n 0, 1) := by decide +kernel
theorem dX12_unites_119 : decode cX12_unites 119 = .ok (.getfield 120, 3) := by decide +kernel
theorem dX12_unites_122 : decode cX12_unites 122 = .ok (.iload 4, 2) := by decide +kernel
theorem dX12_unites_124 : decode cX12_unites 124 = .ok (.dup2, 1) := by decide +kernel
theorem dX12_unites_125 : decode cX12_unites 125 = .ok (.iaload, 1) := by decide +kernel
theorem dX12_unites_126 : decode cX12_unites 126 = .ok (.iconst 1, 1) := by decide +kernel
theorem dX12_unites_127 : decode cX12_unites 127 = .ok (.isub, 1) := by decide +kernel
theorem dX12_unites_128 : decode cX12_unites 128 = .ok (.iastore, 1) := by decide +kernel
theorem dX12_unites_129 : decode cX12_unites 129 = .ok (.aload_n 0, 1) := by decide +kernel
theorem dX12_unites_130 : decode cX12_unites 130 = .ok (.getfield 108, 3) := by decide +kernel
theorem dX12_unites_133 : decode cX12_unites 133 = .ok (.iload 5, 2) := by decide +kernel
theorem dX12_unites_135 : decode cX12_unites 135 = .ok (.iaload, 1) := by decide +kernel
theorem dX12_unites_136 : decode cX12_unites 136 = .ok (.ifCond .lt 13, 3) := by decide +kernel
theorem dX12_unites_139 : decode cX12_unites 139 = .ok (.aload_n 0, 1) := by decide +kernel
theorem dX12_unites_140 : decode cX12_unites 140 = .ok (.getfield 108, 3) := by decide +kernel
theorem dX12_unites_143 : decode cX12_unites 143 = .ok (.iload 6, 2) := by decide +kernel
theorem dX12_unites_145 : decode cX12_unites 145 = .ok (.iaload, 1) := by decide +kernel
theorem dX12_unites_146 : decode cX12_unites 146 = .ok (.ifCond .ge 33, 3) := by decide +kernel
theorem dX12_unites_149 : decode cX12_unites 149 = .ok (.aload_n 0, 1) := by decide +kernel
theorem dX12_unites_150 : decode cX12_unites 150 = .ok (.getfield 108, 3) := by decide +kernel
theorem dX12_unites_153 : decode cX12_unites 153 = .ok (.iload 5, 2) := by decide +kernel
theorem dX12_unites_155 : decode cX12_unites 155 = .ok (.iaload, 1) := by decide +kernel
theorem dX12_unites_156 : decode cX12_unites 156 = .ok (.aload_n 0, 1) := by decide +kernel
theorem dX12_unites_157 : decode cX12_unites 157 = .ok (.getfield 108, 3) := by decide +kernel
theorem dX12_unites_160 : decode cX12_unites 160 = .ok (.iload 6, 2) := by decide +kernel
theorem dX12_unites_162 : decode cX12_unites 162 = .ok (.iaload, 1) := by decide +kernel
theorem dX12_unites_163 : decode cX12_unites 163 = .ok (.if_icmp .eq 98, 3) := by decide +kernel
theorem dX12_unites_166 : decode cX12_unites 166 = .ok (.aload_n 0, 1) := by decide +kernel
theorem dX12_unites_167 : decode cX12_unites 167 = .ok (.iload 5, 2) := by decide +kernel
theorem dX12_unites_169 : decode cX12_unites 169 = .ok (.iload 6, 2) := by decide +kernel
theorem dX12_unites_171 : decode cX12_unites 171 = .ok (.invokevirtual 253, 3) := by decide +kernel
theorem dX12_unites_174 : decode cX12_unites 174 = .ok (.ifCond .ne 87, 3) := by decide +kernel
theorem dX12_unites_177 : decode cX12_unites 177 = .ok (.iconst 0, 1) := by decide +kernel
theorem dX12_unites_178 : decode cX12_unites 178 = .ok (.ireturn, 1) := by decide +kernel
theorem dX12_unites_179 : decode cX12_unites 179 = .ok (.aload_n 0, 1) := by decide +kernel
theorem dX12_unites_180 : decode cX12_unites 180 = .ok (.getfield 108, 3) := by decide +kernel
theorem dX12_unites_183 : decode cX12_unites 183 = .ok (.iload 5, 2) := by decide +kernel
theorem dX12_unites_185 : decode cX12_unites 185 = .ok (.iaload, 1) := by decide +kernel
theorem dX12_unites_186 : decode cX12_unites 186 = .ok (.aload_n 0, 1) := by decide +kernel
theorem dX12_unites_187 : decode cX12_unites 187 = .ok (.getfield 108, 3) := by decide +kernel
theorem dX12_unites_190 : decode cX12_unites 190 = .ok (.iload 6, 2) := by decide +kernel
theorem dX12_unites_192 : decode cX12_unites 192 = .ok (.iaload, 1) := by decide +kernel
theorem dX12_unites_193 : decode cX12_unites 193 = .ok (.if_icmp .eq 5, 3) := by decide +kernel
theorem dX12_unites_196 : decode cX12_unites 196 = .ok (.iconst 0, 1) := by decide +kernel
theorem dX12_unites_197 : decode cX12_unites 197 = .ok (.ireturn, 1) := by decide +kernel
theorem dX12_unites_198 : decode cX12_unites 198 = .ok (.aload_n 0, 1) := by decide +kernel
theorem dX12_unites_199 : decode cX12_unites 199 = .ok (.getfield 17, 3) := by decide +kernel
theorem dX12_unites_202 : decode cX12_unites 202 = .ok (.aload_n 0, 1) := by decide +kernel
theorem dX12_unites_203 : decode cX12_unites 203 = .ok (.getfield 108, 3) := by decide +kernel
theorem dX12_unites_206 : decode cX12_unites 206 = .ok (.iload 5, 2) := by decide +kernel
theorem dX12_unites_208 : decode cX12_unites 208 = .ok (.iaload, 1) := by decide +kernel
theorem dX12_unites_209 : decode cX12_unites 209 = .ok (.iaload, 1) := by decide +kernel
theorem dX12_unites_210 : decode cX12_unites 210 = .ok (.ifCond .le 51, 3) := by decide +kernel
theorem dX12_unites_213 : decode cX12_unites 213 = .ok (.iload 5, 2) := by decide +kernel
theorem dX12_unites_215 : decode cX12_unites 215 = .ok (.iload 6, 2) := by decide +kernel
theorem dX12_unites_217 : decode cX12_unites 217 = .ok (.if_icmp .eq 44, 3) := by decide +kernel
theorem dX12_unites_220 : decode cX12_unites 220 = .ok (.aload_n 0, 1) := by decide +kernel
theorem dX12_unites_221 : decode cX12_unites 221 = .ok (.getfield 114, 3) := by decide +kernel
theorem dX12_unites_224 : decode cX12_unites 224 = .ok (.iload_n 3, 1) := by decide +kernel
theorem dX12_unites_225 : decode cX12_unites 225 = .ok (.iload 5, 2) := by decide +kernel
theorem dX12_unites_227 : decode cX12_unites 227 = .ok (.iconst 1, 1) := by decide +kernel
theorem dX12_unites_228 : decode cX12_unites 228 = .ok (.iadd, 1) := by decide +kernel
theorem dX12_unites_229 : decode cX12_unites 229 = .ok (.iastore, 1) := by decide +kernel
theorem dX12_unites_230 : decode cX12_unites 230 = .ok (.aload_n 0, 1) := by decide +kernel
theorem dX12_unites_231 : decode cX12_unites 231 = .ok (.getfield 117, 3) := by decide +kernel
theorem dX12_unites_234 : decode cX12_unites 234 = .ok (.iload_n 3, 1) := by decide +kernel
theorem dX12_unites_235 : decode cX12_unites 235 = .ok (.iload 6, 2) := by decide +kernel
theorem dX12_unites_237 : decode cX12_unites 237 = .ok (.iconst 1, 1) := by decide +kernel
theorem dX12_unites_238 : decode cX12_unites 238 = .ok (.iadd, 1) := by decide +kernel
theorem dX12_unites_239 : decode cX12_unites 239 = .ok (.iastore, 1) := by decide +kernel
theorem dX12_unites_240 : decode cX12_unites 240 = .ok (.aload_n 0, 1) := by decide +kernel
theorem dX12_unites_241 : decode cX12_unites 241 = .ok (.getfield 120, 3) := by decide +kernel
theorem dX12_unites_244 : decode cX12_unites 244 = .ok (.iload_n 3, 1) := by decide +kernel
theorem dX12_unites_245 : decode cX12_unites 245 = .ok (.aload_n 0, 1) := by decide +kernel
theorem dX12_unites_246 : decode cX12_unites 246 = .ok (.getfield 17, 3) := by decide +kernel
theorem dX12_unites_249 : decode cX12_unites 249 = .ok (.aload_n 0, 1) := by decide +kernel
theorem dX12_unites_250 : decode cX12_unites 250 = .ok (.getfield 108, 3) := by decide +kernel
theorem dX12_unites_253 : decode cX12_unites 253 = .ok (.iload 5, 2) := by decide +kernel
theorem dX12_unites_255 : decode cX12_unites 255 = .ok (.iaload, 1) := by decide +kernel
theorem dX12_unites_256 : decode cX12_unites 256 = .ok (.iaload, 1) := by decide +kernel
theorem dX12_unites_257 : decode cX12_unites 257 = .ok (.iastore, 1) := by decide +kernel
theorem dX12_unites_258 : decode cX12_unites 258 = .ok (.iinc 3 1, 3) := by decide +kernel
theorem dX12_unites_261 : decode cX12_unites 261 = .ok (.goto (-238), 3) := by decide +kernel
theorem dX12_unites_264 : decode cX12_unites 264 = .ok (.iconst 1, 1) := by decide +kernel
theorem dX12_unites_265 : decode cX12_unites 265 = .ok (.ireturn, 1) := by decide +kernel
theorem dX12_binds_0 : decode cX12_binds 0 = .ok (.aload_n 0, 1) := by decide +kernel
theorem dX12_binds_1 : decode cX12_binds 1 = .ok (.getfield 108, 3) := by decide +kernel
theorem dX12_binds_4 : decode cX12_binds 4 = .ok (.iload_n 1, 1) := by decide +kernel
theorem dX12_binds_5 : decode cX12_binds 5 = .ok (.iaload, 1) := by decide +kernel
theorem dX12_binds_6 : decode cX12_binds 6 = .ok (.ifCond .ge 7, 3) := by decide +kernel
theorem dX12_binds_9 : decode cX12_binds 9 = .ok (.iload_n 1, 1) := by decide +kernel
theorem dX12_binds_10 : decode cX12_binds 10 = .ok (.goto 4, 3) := by decide +kernel
theorem dX12_binds_13 : decode cX12_binds 13 = .ok (.iload_n 2, 1) := by decide +kernel
theorem dX12_binds_14 : decode cX12_binds 14 = .ok (.istore_n 3, 1) := by decide +kernel
theorem dX12_binds_15 : decode cX12_binds 15 = .ok (.aload_n 0, 1) := by decide +kernel
theorem dX12_binds_16 : decode cX12_binds 16 = .ok (.getfield 108, 3) := by decide +kernel
theorem dX12_binds_19 : decode cX12_binds 19 = .ok (.iload_n 1, 1) := by decide +kernel
theorem dX12_binds_20 : decode cX12_binds 20 = .ok (.iaload, 1) := by decide +kernel
theorem dX12_binds_21 : decode cX12_binds 21 = .ok (.ifCond .ge 7, 3) := by decide +kernel
theorem dX12_binds_24 : decode cX12_binds 24 = .ok (.iload_n 2, 1) := by decide +kernel
theorem dX12_binds_25 : decode cX12_binds 25 = .ok (.goto 4, 3) := by decide +kernel
theorem dX12_binds_28 : decode cX12_binds 28 = .ok (.iload_n 1, 1) := by decide +kernel
theorem dX12_binds_29 : decode cX12_binds 29 = .ok (.istore 4, 2) := by decide +kernel
theorem dX12_binds_31 : decode cX12_binds 31 = .ok (.aload_n 0, 1) := by decide +kernel
theorem dX12_binds_32 : decode cX12_binds 32 = .ok (.aload_n 0, 1) := by decide +kernel
theorem dX12_binds_33 : decode cX12_binds 33 = .ok (.getfield 108, 3) := by decide +kernel
theorem dX12_binds_36 : decode cX12_binds 36 = .ok (.iload_n 3, 1) := by decide +kernel
theorem dX12_binds_37 : decode cX12_binds 37 = .ok (.iaload, 1) := by decide +kernel
theorem dX12_binds_38 : decode cX12_binds 38 = .ok (.iload 4, 2) := by decide +kernel
theorem dX12_binds_40 : decode cX12_binds 40 = .ok (.invokevirtual 256, 3) := by decide +kernel
theorem dX12_binds_43 : decode cX12_binds 43 = .ok (.ifCond .eq 5, 3) := by decide +kernel
theorem dX12_binds_46 : decode cX12_binds 46 = .ok (.iconst 0, 1) := by decide +kernel
theorem dX12_binds_47 : decode cX12_binds 47 = .ok (.ireturn, 1) := by decide +kernel
theorem dX12_binds_48 : decode cX12_binds 48 = .ok (.aload_n 0, 1) := by decide +kernel
theorem dX12_binds_49 : decode cX12_binds 49 = .ok (.getfield 111, 3) := by decide +kernel
theorem dX12_binds_52 : decode cX12_binds 52 = .ok (.iconst (-1), 1) := by decide +kernel
theorem dX12_binds_53 : decode cX12_binds 53 = .ok (.aload_n 0, 1) := by decide +kernel
theorem dX12_binds_54 : decode cX12_binds 54 = .ok (.getfield 108, 3) := by decide +kernel
theorem dX12_binds_57 : decode cX12_binds 57 = .ok (.iload_n 3, 1) := by decide +kernel
theorem dX12_binds_58 : decode cX12_binds 58 = .ok (.iaload, 1) := by decide +kernel
theorem dX12_binds_59 : decode cX12_binds 59 = .ok (.isub, 1) := by decide +kernel
theorem dX12_binds_60 : decode cX12_binds 60 = .ok (.iload 4, 2) := by decide +kernel
theorem dX12_binds_62 : decode cX12_binds 62 = .ok (.iastore, 1) := by decide +kernel
theorem dX12_binds_63 : decode cX12_binds 63 = .ok (.iconst 1, 1) := by decide +kernel
theorem dX12_binds_64 : decode cX12_binds 64 = .ok (.ireturn, 1) := by decide +kernel
theorem dX12_put_0 : decode cX12_put 0 = .ok (.aload_n 0, 1) := by decide +kernel
theorem dX12_put_1 : decode cX12_put 1 = .ok (.getfield 259, 3) := by decide +kernel
theorem dX12_put_4 : decode cX12_put 4 = .ok (.bipush 31, 2) := by decide +kernel
theorem dX12_put_6 : decode cX12_put 6 = .ok (.if_icmp .ge 23, 3) := by decide +kernel
theorem dX12_put_9 : decode cX12_put 9 = .ok (.aload_n 0, 1) := by decide +kernel
theorem dX12_put_10 : decode cX12_put 10 = .ok (.getfield 123, 3) := by decide +kernel
theorem dX12_put_13 : decode cX12_put 13 = .ok (.aload_n 0, 1) := by decide +kernel
theorem dX12_put_14 : decode cX12_put 14 = .ok (.getfield 259, 3) := by decide +kernel
theorem dX12_put_17 : decode cX12_put 17 = .ok (.iload_n 1, 1) := by decide +kernel
theorem dX12_put_18 : decode cX12_put 18 = .ok (.iastore, 1) := by decide +kernel
theorem dX12_put_19 : decode cX12_put 19 = .ok (.aload_n 0, 1) := by decide +kernel
theorem dX12_put_20 : decode cX12_put 20 = .ok (.dup, 1) := by decide +kernel
theorem dX12_put_21 : decode cX12_put 21 = .ok (.getfield 259, 3) := by decide +kernel
theorem dX12_put_24 : decode cX12_put 24 = .ok (.iconst 1, 1) := by decide +kernel
theorem dX12_put_25 : decode cX12_put 25 = .ok (.iadd, 1) := by decide +kernel
theorem dX12_put_26 : decode cX12_put 26 = .ok (.putfield 259, 3) := by decide +kernel
theorem dX12_put_29 : decode cX12_put 29 = .ok (.return_, 1) := by decide +kernel
theorem dX12_write_0 : decode cX12_write 0 = .ok (.iconst 1, 1) := by decide +kernel
theorem dX12_write_1 : decode cX12_write 1 = .ok (.istore_n 2, 1) := by decide +kernel
theorem dX12_write_2 : decode cX12_write 2 = .ok (.aload_n 0, 1) := by decide +kernel
theorem dX12_write_3 : decode cX12_write 3 = .ok (.getfield 114, 3) := by decide +kernel
theorem dX12_write_6 : decode cX12_write 6 = .ok (.iconst 0, 1) := by decide +kernel
theorem dX12_write_7 : decode cX12_write 7 = .ok (.iload_n 1, 1) := by decide +kernel
theorem dX12_write_8 : decode cX12_write 8 = .ok (.iastore, 1) := by decide +kernel
theorem dX12_write_9 : decode cX12_write 9 = .ok (.aload_n 0, 1) := by decide +kernel
theorem dX12_write_10 : decode cX12_write 10 = .ok (.getfield 120, 3) := by decide +kernel
theorem dX12_write_13 : decode cX12_write 13 = .ok (.iconst 0, 1) := by decide +kernel
theorem dX12_write_14 : decode cX12_write 14 = .ok (.iconst 1, 1) := by decide +kernel
theorem dX12_write_15 : decode cX12_write 15 = .ok (.iastore, 1) := by decide +kernel
theorem dX12_write_16 : decode cX12_write 16 = .ok (.iload_n 2, 1) := by decide +kernel
theorem dX12_write_17 : decode cX12_write 17 = .ok (.ifCond .le 143, 3) := by decide +kernel
theorem dX12_write_20 : decode cX12_write 20 = .ok (.aload_n 0, 1) := by decide +kernel
theorem dX12_write_21 : decode cX12_write 21 = .ok (.getfield 259, 3) := by decide +kernel
theorem dX12_write_24 : decode cX12_write 24 = .ok (.bipush 31, 2) := by decide +kernel
theorem dX12_write_26 : decode cX12_write 26 = .ok (.if_icmp .ge 134, 3) := by decide +kernel
theorem dX12_write_29 : decode cX12_write 29 = .ok (.iload_n 2, 1) := by decide +kernel
theorem dX12_write_30 : decode cX12_write 30 = .ok (.iconst 1, 1) := by decide +kernel
theorem dX12_write_31 : decode cX12_write 31 = .ok (.isub, 1) := by decide +kernel
theorem dX12_write_32 : decode cX12_write 32 = .ok (.istore_n 3, 1) := by decide +kernel
theorem dX12_write_33 : decode cX12_write 33 = .ok (.aload_n 0, 1) := by decide +kernel
theorem dX12_write_34 : decode cX12_write 34 = .ok (.getfield 120, 3) := by decide +kernel
theorem dX12_write_37 : decode cX12_write 37 = .ok (.iload_n 3, 1) := by decide +kernel
theorem dX12_write_38 : decode cX12_write 38 = .ok (.iaload, 1) := by decide +kernel
theorem dX12_write_39 : decode cX12_write 39 = .ok (.ifCond .ne 9, 3) := by decide +kernel
theorem dX12_write_42 : decode cX12_write 42 = .ok (.iinc 2 (-1), 3) := by decide +kernel
theorem dX12_write_45 : decode cX12_write 45 = .ok (.goto 112, 3) := by decide +kernel
theorem dX12_write_48 : decode cX12_write 48 = .ok (.aload_n 0, 1) := by decide +kernel
