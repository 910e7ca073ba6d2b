theorem dX12_write_49 : decode cX12_write 49 = .ok (.aload_n 0, 1) := by decide +kernel
theorem dX12_write_50 : decode cX12_write 50 = .ok (.getfield 114, 3) := by decide +kernel
theorem dX12_write_53 : decode cX12_write 53 = .ok (.iload_n 3, 1) := by decide +kernel
theorem dX12_write_54 : decode cX12_write 54 = .ok (.iaload, 1) := by decide +kernel
theorem dX12_write_55 : decode cX12_write 55 = .ok (.invokevirtual 249, 3) := by decide +kernel
theorem dX12_write_58 : decode cX12_write 58 = .ok (.istore 4, 2) := by decide +kernel
theorem dX12_write_60 : decode cX12_write 60 = .ok (.aload_n 0, 1) := by decide +kernel
theorem dX12_write_61 : decode cX12_write 61 = .ok (.getfield 114, 3) := by decide +kernel
theorem dX12_write_64 : decode cX12_write 64 = .ok (.iload_n 3, 1) := by decide +kernel
theorem dX12_write_65 : decode cX12_write 65 = .ok (.aload_n 0, 1) := by decide +kernel
theorem dX12_write_66 : decode cX12_write 66 = .ok (.aload_n 0, 1) := by decide +kernel
theorem dX12_write_67 : decode cX12_write 67 = .ok (.getfield 108, 3) := by decide +kernel
theorem dX12_write_70 : decode cX12_write 70 = .ok (.aload_n 0, 1) := by decide +kernel
theorem dX12_write_71 : decode cX12_write 71 = .ok (.getfield 114, 3) := by decide +kernel
theorem dX12_write_74 : decode cX12_write 74 = .ok (.iload_n 3, 1) := by decide +kernel
theorem dX12_write_75 : decode cX12_write 75 = .ok (.iaload, 1) := by decide +kernel
theorem dX12_write_76 : decode cX12_write 76 = .ok (.invokevirtual 148, 3) := by decide +kernel
theorem dX12_write_79 : decode cX12_write 79 = .ok (.iastore, 1) := by decide +kernel
theorem dX12_write_80 : decode cX12_write 80 = .ok (.aload_n 0, 1) := by decide +kernel
theorem dX12_write_81 : decode cX12_write 81 = .ok (.getfield 120, 3) := by decide +kernel
theorem dX12_write_84 : decode cX12_write 84 = .ok (.iload_n 3, 1) := by decide +kernel
theorem dX12_write_85 : decode cX12_write 85 = .ok (.dup2, 1) := by decide +kernel
theorem dX12_write_86 : decode cX12_write 86 = .ok (.iaload, 1) := by decide +kernel
theorem dX12_write_87 : decode cX12_write 87 = .ok (.iconst 1, 1) := by decide +kernel
theorem dX12_write_88 : decode cX12_write 88 = .ok (.isub, 1) := by decide +kernel
theorem dX12_write_89 : decode cX12_write 89 = .ok (.iastore, 1) := by decide +kernel
theorem dX12_write_90 : decode cX12_write 90 = .ok (.aload_n 0, 1) := by decide +kernel
theorem dX12_write_91 : decode cX12_write 91 = .ok (.aload_n 0, 1) := by decide +kernel
theorem dX12_write_92 : decode cX12_write 92 = .ok (.getfield 108, 3) := by decide +kernel
theorem dX12_write_95 : decode cX12_write 95 = .ok (.iload 4, 2) := by decide +kernel
theorem dX12_write_97 : decode cX12_write 97 = .ok (.iaload, 1) := by decide +kernel
theorem dX12_write_98 : decode cX12_write 98 = .ok (.invokevirtual 262, 3) := by decide +kernel
theorem dX12_write_101 : decode cX12_write 101 = .ok (.aload_n 0, 1) := by decide +kernel
theorem dX12_write_102 : decode cX12_write 102 = .ok (.getfield 108, 3) := by decide +kernel
theorem dX12_write_105 : decode cX12_write 105 = .ok (.iload 4, 2) := by decide +kernel
theorem dX12_write_107 : decode cX12_write 107 = .ok (.iaload, 1) := by decide +kernel
theorem dX12_write_108 : decode cX12_write 108 = .ok (.ifCond .lt 49, 3) := by decide +kernel
theorem dX12_write_111 : decode cX12_write 111 = .ok (.aload_n 0, 1) := by decide +kernel
theorem dX12_write_112 : decode cX12_write 112 = .ok (.getfield 17, 3) := by decide +kernel
theorem dX12_write_115 : decode cX12_write 115 = .ok (.aload_n 0, 1) := by decide +kernel
theorem dX12_write_116 : decode cX12_write 116 = .ok (.getfield 108, 3) := by decide +kernel
theorem dX12_write_119 : decode cX12_write 119 = .ok (.iload 4, 2) := by decide +kernel
theorem dX12_write_121 : decode cX12_write 121 = .ok (.iaload, 1) := by decide +kernel
theorem dX12_write_122 : decode cX12_write 122 = .ok (.iaload, 1) := by decide +kernel
theorem dX12_write_123 : decode cX12_write 123 = .ok (.ifCond .le 34, 3) := by decide +kernel
theorem dX12_write_126 : decode cX12_write 126 = .ok (.aload_n 0, 1) := by decide +kernel
theorem dX12_write_127 : decode cX12_write 127 = .ok (.getfield 114, 3) := by decide +kernel
theorem dX12_write_130 : decode cX12_write 130 = .ok (.iload_n 2, 1) := by decide +kernel
theorem dX12_write_131 : decode cX12_write 131 = .ok (.iload 4, 2) := by decide +kernel
theorem dX12_write_133 : decode cX12_write 133 = .ok (.iconst 1, 1) := by decide +kernel
theorem dX12_write_134 : decode cX12_write 134 = .ok (.iadd, 1) := by decide +kernel
theorem dX12_write_135 : decode cX12_write 135 = .ok (.iastore, 1) := by decide +kernel
theorem dX12_write_136 : decode cX12_write 136 = .ok (.aload_n 0, 1) := by decide +kernel
theorem dX12_write_137 : decode cX12_write 137 = .ok (.getfield 120, 3) := by decide +kernel
theorem dX12_write_140 : decode cX12_write 140 = .ok (.iload_n 2, 1) := by decide +kernel
theorem dX12_write_141 : decode cX12_write 141 = .ok (.aload_n 0, 1) := by decide +kernel
theorem dX12_write_142 : decode cX12_write 142 = .ok (.getfield 17, 3) := by decide +kernel
theorem dX12_write_145 : decode cX12_write 145 = .ok (.aload_n 0, 1) := by decide +kernel
theorem dX12_write_146 : decode cX12_write 146 = .ok (.getfield 108, 3) := by decide +kernel
theorem dX12_write_149 : decode cX12_write 149 = .ok (.iload 4, 2) := by decide +kernel
theorem dX12_write_151 : decode cX12_write 151 = .ok (.iaload, 1) := by decide +kernel
theorem dX12_write_152 : decode cX12_write 152 = .ok (.iaload, 1) := by decide +kernel
theorem dX12_write_153 : decode cX12_write 153 = .ok (.iastore, 1) := by decide +kernel
theorem dX12_write_154 : decode cX12_write 154 = .ok (.iinc 2 1, 3) := by decide +kernel
theorem dX12_write_157 : decode cX12_write 157 = .ok (.goto (-141), 3) := by decide +kernel
theorem dX12_write_160 : decode cX12_write 160 = .ok (.return_, 1) := by decide +kernel
theorem dX12_comes_0 : decode cX12_comes 0 = .ok (.aload_n 0, 1) := by decide +kernel
theorem dX12_comes_1 : decode cX12_comes 1 = .ok (.getfield 259, 3) := by decide +kernel
theorem dX12_comes_4 : decode cX12_comes 4 = .ok (.bipush 30, 2) := by decide +kernel
theorem dX12_comes_6 : decode cX12_comes 6 = .ok (.if_icmp .gt 12, 3) := by decide +kernel
theorem dX12_comes_9 : decode cX12_comes 9 = .ok (.aload_n 0, 1) := by decide +kernel
theorem dX12_comes_10 : decode cX12_comes 10 = .ok (.getfield 167, 3) := by decide +kernel
theorem dX12_comes_13 : decode cX12_comes 13 = .ok (.bipush 6, 2) := by decide +kernel
theorem dX12_comes_15 : decode cX12_comes 15 = .ok (.if_icmp .ne 5, 3) := by decide +kernel
theorem dX12_comes_18 : decode cX12_comes 18 = .ok (.iconst 0, 1) := by decide +kernel
theorem dX12_comes_19 : decode cX12_comes 19 = .ok (.ireturn, 1) := by decide +kernel
theorem dX12_comes_20 : decode cX12_comes 20 = .ok (.iconst 0, 1) := by decide +kernel
theorem dX12_comes_21 : decode cX12_comes 21 = .ok (.istore_n 2, 1) := by decide +kernel
theorem dX12_comes_22 : decode cX12_comes 22 = .ok (.iload_n 2, 1) := by decide +kernel
theorem dX12_comes_23 : decode cX12_comes 23 = .ok (.aload_n 0, 1) := by decide +kernel
theorem dX12_comes_24 : decode cX12_comes 24 = .ok (.getfield 259, 3) := by decide +kernel
theorem dX12_comes_27 : decode cX12_comes 27 = .ok (.if_icmp .ge 29, 3) := by decide +kernel
theorem dX12_comes_30 : decode cX12_comes 30 = .ok (.aload_n 0, 1) := by decide +kernel
theorem dX12_comes_31 : decode cX12_comes 31 = .ok (.getfield 69, 3) := by decide +kernel
theorem dX12_comes_34 : decode cX12_comes 34 = .ok (.bipush 30, 2) := by decide +kernel
theorem dX12_comes_36 : decode cX12_comes 36 = .ok (.aload_n 0, 1) := by decide +kernel
theorem dX12_comes_37 : decode cX12_comes 37 = .ok (.getfield 167, 3) := by decide +kernel
theorem dX12_comes_40 : decode cX12_comes 40 = .ok (.imul, 1) := by decide +kernel
theorem dX12_comes_41 : decode cX12_comes 41 = .ok (.iload_n 2, 1) := by decide +kernel
theorem dX12_comes_42 : decode cX12_comes 42 = .ok (.iadd, 1) := by decide +kernel
theorem dX12_comes_43 : decode cX12_comes 43 = .ok (.aload_n 0, 1) := by decide +kernel
theorem dX12_comes_44 : decode cX12_comes 44 = .ok (.getfield 123, 3) := by decide +kernel
theorem dX12_comes_47 : decode cX12_comes 47 = .ok (.iload_n 2, 1) := by decide +kernel
theorem dX12_comes_48 : decode cX12_comes 48 = .ok (.iaload, 1) := by decide +kernel
theorem dX12_comes_49 : decode cX12_comes 49 = .ok (.iastore, 1) := by decide +kernel
theorem dX12_comes_50 : decode cX12_comes 50 = .ok (.iinc 2 1, 3) := by decide +kernel
theorem dX12_comes_53 : decode cX12_comes 53 = .ok (.goto (-31), 3) := by decide +kernel
theorem dX12_comes_56 : decode cX12_comes 56 = .ok (.aload_n 0, 1) := by decide +kernel
theorem dX12_comes_57 : decode cX12_comes 57 = .ok (.getfield 72, 3) := by decide +kernel
theorem dX12_comes_60 : decode cX12_comes 60 = .ok (.aload_n 0, 1) := by decide +kernel
theorem dX12_comes_61 : decode cX12_comes 61 = .ok (.getfield 167, 3) := by decide +kernel
theorem dX12_comes_64 : decode cX12_comes 64 = .ok (.aload_n 0, 1) := by decide +kernel
theorem dX12_comes_65 : decode cX12_comes 65 = .ok (.getfield 259, 3) := by decide +kernel
theorem dX12_comes_68 : decode cX12_comes 68 = .ok (.iastore, 1) := by decide +kernel
theorem dX12_comes_69 : decode cX12_comes 69 = .ok (.aload_n 0, 1) := by decide +kernel
theorem dX12_comes_70 : decode cX12_comes 70 = .ok (.getfield 75, 3) := by decide +kernel
theorem dX12_comes_73 : decode cX12_comes 73 = .ok (.aload_n 0, 1) := by decide +kernel
theorem dX12_comes_74 : decode cX12_comes 74 = .ok (.getfield 167, 3) := by decide +kernel
theorem dX12_comes_77 : decode cX12_comes 77 = .ok (.iload_n 1, 1) := by decide +kernel
theorem dX12_comes_78 : decode cX12_comes 78 = .ok (.bastore, 1) := by decide +kernel
theorem dX12_comes_79 : decode cX12_comes 79 = .ok (.aload_n 0, 1) := by decide +kernel
theorem dX12_comes_80 : decode cX12_comes 80 = .ok (.dup, 1) := by decide +kernel
theorem dX12_comes_81 : decode cX12_comes 81 = .ok (.getfield 167, 3) := by decide +kernel
theorem dX12_comes_84 : decode cX12_comes 84 = .ok (.iconst 1, 1) := by decide +kernel
theorem dX12_comes_85 : decode cX12_comes 85 = .ok (.iadd, 1) := by decide +kernel
theorem dX12_comes_86 : decode cX12_comes 86 = .ok (.putfield 167, 3) := by decide +kernel
theorem dX12_comes_89 : decode cX12_comes 89 = .ok (.iconst 1, 1) := by decide +kernel
theorem dX12_comes_90 : decode cX12_comes 90 = .ok (.ireturn, 1) := by decide +kernel
theorem dX12_writesAll_0 : decode cX12_writesAll 0 = .ok (.iconst 0, 1) := by decide +kernel
theorem dX12_writesAll_1 : decode cX12_writesAll 1 = .ok (.istore 4, 2) := by decide +kernel
theorem dX12_writesAll_3 : decode cX12_writesAll 3 = .ok (.iload 4, 2) := by decide +kernel
theorem dX12_writesAll_5 : decode cX12_writesAll 5 = .ok (.aload_n 0, 1) := by decide +kernel
theorem dX12_writesAll_6 : decode cX12_writesAll 6 = .ok (.getfield 36, 3) := by decide +kernel
theorem dX12_writesAll_9 : decode cX12_writesAll 9 = .ok (.iload_n 1, 1) := by decide +kernel
theorem dX12_writesAll_10 : decode cX12_writesAll 10 = .ok (.iaload, 1) := by decide +kernel
theorem dX12_writesAll_11 : decode cX12_writesAll 11 = .ok (.if_icmp .ge 52, 3) := by decide +kernel
theorem dX12_writesAll_14 : decode cX12_writesAll 14 = .ok (.iload 4, 2) := by decide +kernel
theorem dX12_writesAll_16 : decode cX12_writesAll 16 = .ok (.iload_n 3, 1) := by decide +kernel
theorem dX12_writesAll_17 : decode cX12_writesAll 17 = .ok (.if_icmp .eq 40, 3) := by decide +kernel
theorem dX12_writesAll_20 : decode cX12_writesAll 20 = .ok (.aload_n 0, 1) := by decide +kernel
theorem dX12_writesAll_21 : decode cX12_writesAll 21 = .ok (.iconst 0, 1) := by decide +kernel
theorem dX12_writesAll_22 : decode cX12_writesAll 22 = .ok (.putfield 259, 3) := by decide +kernel
theorem dX12_writesAll_25 : decode cX12_writesAll 25 = .ok (.aload_n 0, 1) := by decide +kernel
theorem dX12_writesAll_26 : decode cX12_writesAll 26 = .ok (.iload_n 2, 1) := by decide +kernel
theorem dX12_writesAll_27 : decode cX12_writesAll 27 = .ok (.bipush 30, 2) := by decide +kernel
theorem dX12_writesAll_29 : decode cX12_writesAll 29 = .ok (.iload 4, 2) := by decide +kernel
theorem dX12_writesAll_31 : decode cX12_writesAll 31 = .ok (.imul, 1) := by decide +kernel
theorem dX12_writesAll_32 : decode cX12_writesAll 32 = .ok (.iadd, 1) := by decide +kernel
theorem dX12_writesAll_33 : decode cX12_writesAll 33 = .ok (.invokevirtual 265, 3) := by decide +kernel
theorem dX12_writesAll_36 : decode cX12_writesAll 36 = .ok (.aload_n 0, 1) := by decide +kernel
theorem dX12_writesAll_37 : decode cX12_writesAll 37 = .ok (.aload_n 0, 1) := by decide +kernel
theorem dX12_writesAll_38 : decode cX12_writesAll 38 = .ok (.getfield 33, 3) := by decide +kernel
theorem dX12_writesAll_41 : decode cX12_writesAll 41 = .ok (.bipush 6, 2) := by decide +kernel
theorem dX12_writesAll_43 : decode cX12_writesAll 43 = .ok (.iload_n 1, 1) := by decide +kernel
theorem dX12_writesAll_44 : decode cX12_writesAll 44 = .ok (.imul, 1) := by decide +kernel
theorem dX12_writesAll_45 : decode cX12_writesAll 45 = .ok (.iload 4, 2) := by decide +kernel
theorem dX12_writesAll_47 : decode cX12_writesAll 47 = .ok (.iadd, 1) := by decide +kernel
theorem dX12_writesAll_48 : decode cX12_writesAll 48 = .ok (.baload, 1) := by decide +kernel
theorem dX12_writesAll_49 : decode cX12_writesAll 49 = .ok (.invokevirtual 268, 3) := by decide +kernel
theorem dX12_writesAll_52 : decode cX12_writesAll 52 = .ok (.ifCond .ne 5, 3) := by decide +kernel
theorem dX12_writesAll_55 : decode cX12_writesAll 55 = .ok (.iconst 0, 1) := by decide +kernel
theorem dX12_writesAll_56 : decode cX12_writesAll 56 = .ok (.ireturn, 1) := by decide +kernel
theorem dX12_writesAll_57 : decode cX12_writesAll 57 = .ok (.iinc 4 1, 3) := by decide +kernel
theorem dX12_writesAll_60 : decode cX12_writesAll 60 = .ok (.goto (-57), 3) := by decide +kernel
theorem dX12_writesAll_63 : decode cX12_writesAll 63 = .ok (.iconst 1, 1) := by decide +kernel
theorem dX12_writesAll_64 : decode cX12_writesAll 64 = .ok (.ireturn, 1) := by decide +kernel
theorem dX12_chosenOf_0 : decode cX12_chosenOf 0 = .ok (.iconst (-1), 1) := by decide +kernel
theorem dX12_chosenOf_1 : decode cX12_chosenOf 1 = .ok (.istore_n 2, 1) := by decide +kernel
theorem dX12_chosenOf_2 : decode cX12_chosenOf 2 = .ok (.iconst 0, 1) := by decide +kernel
theorem dX12_chosenOf_3 : decode cX12_chosenOf 3 = .ok (.istore_n 3, 1) := by decide +kernel
theorem dX12_chosenOf_4 : decode cX12_chosenOf 4 = .ok (.iconst 0, 1) := by decide +kernel
theorem dX12_chosenOf_5 : decode cX12_chosenOf 5 = .ok (.istore 4, 2) := by decide +kernel
theorem dX12_chosenOf_7 : decode cX12_chosenOf 7 = .ok (.iload 4, 2) := by decide +kernel
theorem dX12_chosenOf_9 : decode cX12_chosenOf 9 = .ok (.aload_n 0, 1) := by decide +kernel
theorem dX12_chosenOf_10 : decode cX12_chosenOf 10 = .ok (.getfield 36, 3) := by decide +kernel
theorem dX12_chosenOf_13 : decode cX12_chosenOf 13 = .ok (.iload_n 1, 1) := by decide +kernel
theorem dX12_chosenOf_14 : decode cX12_chosenOf 14 = .ok (.iaload, 1) := by decide +kernel
theorem dX12_chosenOf_15 : decode cX12_chosenOf 15 = .ok (.if_icmp .ge 80, 3) := by decide +kernel
theorem dX12_chosenOf_18 : decode cX12_chosenOf 18 = .ok (.bipush 30, 2) := by decide +kernel
theorem dX12_chosenOf_20 : decode cX12_chosenOf 20 = .ok (.bipush 6, 2) := by decide +kernel
theorem dX12_chosenOf_22 : decode cX12_chosenOf 22 = .ok (.iload_n 1, 1) := by decide +kernel
theorem dX12_chosenOf_23 : decode cX12_chosenOf 23 = .ok (.imul, 1) := by decide +kernel
theorem dX12_chosenOf_24 : decode cX12_chosenOf 24 = .ok (.iload 4, 2) := by decide +kernel
theorem dX12_chosenOf_26 : decode cX12_chosenOf 26 = .ok (.iadd, 1) := by decide +kernel
theorem dX12_chosenOf_27 : decode cX12_chosenOf 27 = .ok (.imul, 1) := by decide +kernel
theorem dX12_chosenOf_28 : decode cX12_chosenOf 28 = .ok (.istore 5, 2) := by decide +kernel
theorem dX12_chosenOf_30 : decode cX12_chosenOf 30 = .ok (.aload_n 0, 1) := by decide +kernel
theorem dX12_chosenOf_31 : decode cX12_chosenOf 31 = .ok (.aload_n 0, 1) := by decide +kernel
theorem dX12_chosenOf_32 : decode cX12_chosenOf 32 = .ok (.getfield 27, 3) := by decide +kernel
theorem dX12_chosenOf_35 : decode cX12_chosenOf 35 = .ok (.iload 5, 2) := by decide +kernel
theorem dX12_chosenOf_37 : decode cX12_chosenOf 37 = .ok (.iload 5, 2) := by decide +kernel
theorem dX12_chosenOf_39 : decode cX12_chosenOf 39 = .ok (.aload_n 0, 1) := by decide +kernel
theorem dX12_chosenOf_40 : decode cX12_chosenOf 40 = .ok (.getfield 30, 3) := by decide +kernel
theorem dX12_chosenOf_43 : decode cX12_chosenOf 43 = .ok (.bipush 6, 2) := by decide +kernel
theorem dX12_chosenOf_45 : decode cX12_chosenOf 45 = .ok (.iload_n 1, 1) := by decide +kernel
theorem dX12_chosenOf_46 : decode cX12_chosenOf 46 = .ok (.imul, 1) := by decide +kernel
theorem dX12_chosenOf_47 : decode cX12_chosenOf 47 = .ok (.iload 4, 2) := by decide +kernel
theorem dX12_chosenOf_49 : decode cX12_chosenOf 49 = .ok (.iadd, 1) := by decide +kernel
theorem dX12_chosenOf_50 : decode cX12_chosenOf 50 = .ok (.iaload, 1) := by decide +kernel
theorem dX12_chosenOf_51 : decode cX12_chosenOf 51 = .ok (.iadd, 1) := by decide +kernel
theorem dX12_chosenOf_52 : decode cX12_chosenOf 52 = .ok (.invokevirtual 160, 3) := by decide +kernel
theorem dX12_chosenOf_55 : decode cX12_chosenOf 55 = .ok (.istore 6, 2) := by decide +kernel
theorem dX12_chosenOf_57 : decode cX12_chosenOf 57 = .ok (.aload_n 0, 1) := by decide +kernel
theorem dX12_chosenOf_58 : decode cX12_chosenOf 58 = .ok (.getfield 33, 3) := by decide +kernel
theorem dX12_chosenOf_61 : decode cX12_chosenOf 61 = .ok (.bipush 6, 2) := by decide +kernel
theorem dX12_chosenOf_63 : decode cX12_chosenOf 63 = .ok (.iload_n 1, 1) := by decide +kernel
theorem dX12_chosenOf_64 : decode cX12_chosenOf 64 = .ok (.imul, 1) := by decide +kernel
theorem dX12_chosenOf_65 : decode cX12_chosenOf 65 = .ok (.iload 4, 2) := by decide +kernel
theorem dX12_chosenOf_67 : decode cX12_chosenOf 67 = .ok (.iadd, 1) := by decide +kernel
theorem dX12_chosenOf_68 : decode cX12_chosenOf 68 = .ok (.baload, 1) := by decide +kernel
theorem dX12_chosenOf_69 : decode cX12_chosenOf 69 = .ok (.ifCond .eq 20, 3) := by decide +kernel
theorem dX12_chosenOf_72 : decode cX12_chosenOf 72 = .ok (.iload_n 2, 1) := by decide +kernel
theorem dX12_chosenOf_73 : decode cX12_chosenOf 73 = .ok (.iconst (-1), 1) := by decide +kernel
theorem dX12_chosenOf_74 : decode cX12_chosenOf 74 = .ok (.if_icmp .eq 9, 3) := by decide +kernel
theorem dX12_chosenOf_77 : decode cX12_chosenOf 77 = .ok (.iload 6, 2) := by decide +kernel
theorem dX12_chosenOf_79 : decode cX12_chosenOf 79 = .ok (.iload_n 3, 1) := by decide +kernel
theorem dX12_chosenOf_80 : decode cX12_chosenOf 80 = .ok (.if_icmp .le 9, 3) := by decide +kernel
theorem dX12_chosenOf_83 : decode cX12_chosenOf 83 = .ok (.iload 4, 2) := by decide +kernel
theorem dX12_chosenOf_85 : decode cX12_chosenOf 85 = .ok (.istore_n 2, 1) := by decide +kernel
theorem dX12_chosenOf_86 : decode cX12_chosenOf 86 = .ok (.iload 6, 2) := by decide +kernel
theorem dX12_chosenOf_88 : decode cX12_chosenOf 88 = .ok (.istore_n 3, 1) := by decide +kernel
theorem dX12_chosenOf_89 : decode cX12_chosenOf 89 = .ok (.iinc 4 1, 3) := by decide +kernel
theorem dX12_chosenOf_92 : decode cX12_chosenOf 92 = .ok (.goto (-85), 3) := by decide +kernel
theorem dX12_chosenOf_95 : decode cX12_chosenOf 95 = .ok (.iload_n 2, 1) := by decide +kernel
theorem dX12_chosenOf_96 : decode cX12_chosenOf 96 = .ok (.ireturn, 1) := by decide +kernel
theorem dX12_isPositive_0 : decode cX12_isPositive 0 = .ok (.aload_n 0, 1) := by decide +kernel
theorem dX12_isPositive_1 : decode cX12_isPositive 1 = .ok (.iload_n 1, 1) := by decide +kernel
theorem dX12_isPositive_2 : decode cX12_isPositive 2 = .ok (.invokevirtual 272, 3) := by decide +kernel
theorem dX12_isPositive_5 : decode cX12_isPositive 5 = .ok (.iconst (-1), 1) := by decide +kernel
theorem dX12_isPositive_6 : decode cX12_isPositive 6 = .ok (.if_icmp .ne 7, 3) := by decide +kernel
theorem dX12_isPositive_9 : decode cX12_isPositive 9 = .ok (.iconst 1, 1) := by decide +kernel
theorem dX12_isPositive_10 : decode cX12_isPositive 10 = .ok (.goto 4, 3) := by decide +kernel
theorem dX12_isPositive_13 : decode cX12_isPositive 13 = .ok (.iconst 0, 1) := by decide +kernel
theorem dX12_isPositive_14 : decode cX12_isPositive 14 = .ok (.ireturn, 1) := by decide +kernel
theorem dX12_isLiteral_0 : decode cX12_isLiteral 0 = .ok (.iload_n 2, 1) := by decide +kernel
theorem dX12_isLiteral_1 : decode cX12_isLiteral 1 = .ok (.iconst 0, 1) := by decide +kernel
theorem dX12_isLiteral_2 : decode cX12_isLiteral 2 = .ok (.aload_n 0, 1) := by decide +kernel
theorem dX12_isLiteral_3 : decode cX12_isLiteral 3 = .ok (.getfield 36, 3) := by decide +kernel
theorem dX12_isLiteral_6 : decode cX12_isLiteral 6 = .ok (.iload_n 1, 1) := by decide +kernel
theorem dX12_isLiteral_7 : decode cX12_isLiteral 7 = .ok (.iaload, 1) := by decide +kernel
theorem dX12_isLiteral_8 : decode cX12_isLiteral 8 = .ok (.iconst 1, 1) := by decide +kernel
theorem dX12_isLiteral_9 : decode cX12_isLiteral 9 = .ok (.isub, 1) := by decide +kernel
theorem dX12_isLiteral_10 : decode cX12_isLiteral 10 = .ok (.invokestatic 138, 3) := by decide +kernel
theorem dX12_isLiteral_13 : decode cX12_isLiteral 13 = .ok (.ireturn, 1) := by decide +kernel
theorem dX12_clash_0 : decode cX12_clash 0 = .ok (.aload_n 0, 1) := by decide +kernel
theorem dX12_clash_1 : decode cX12_clash 1 = .ok (.iload_n 1, 1) := by decide +kernel
theorem dX12_clash_2 : decode cX12_clash 2 = .ok (.invokevirtual 275, 3) := by decide +kernel
theorem dX12_clash_5 : decode cX12_clash 5 = .ok (.ifCond .eq 20, 3) := by decide +kernel
theorem dX12_clash_8 : decode cX12_clash 8 = .ok (.aload_n 0, 1) := by decide +kernel
theorem dX12_clash_9 : decode cX12_clash 9 = .ok (.iload_n 1, 1) := by decide +kernel
theorem dX12_clash_10 : decode cX12_clash 10 = .ok (.iload_n 2, 1) := by decide +kernel
theorem dX12_clash_11 : decode cX12_clash 11 = .ok (.invokevirtual 278, 3) := by decide +kernel
theorem dX12_clash_14 : decode cX12_clash 14 = .ok (.ifCond .eq 11, 3) := by decide +kernel
theorem dX12_clash_17 : decode cX12_clash 17 = .ok (.aload_n 0, 1) := by decide +kernel
theorem dX12_clash_18 : decode cX12_clash 18 = .ok (.iload_n 3, 1) := by decide +kernel
theorem dX12_clash_19 : decode cX12_clash 19 = .ok (.invokevirtual 275, 3) := by decide +kernel
theorem dX12_clash_22 : decode cX12_clash 22 = .ok (.ifCond .eq 5, 3) := by decide +kernel
theorem dX12_clash_25 : decode cX12_clash 25 = .ok (.iconst (-1), 1) := by decide +kernel
theorem dX12_clash_26 : decode cX12_clash 26 = .ok (.ireturn, 1) := by decide +kernel
theorem dX12_clash_27 : decode cX12_clash 27 = .ok (.aload_n 0, 1) := by decide +kernel
theorem dX12_clash_28 : decode cX12_clash 28 = .ok (.iload_n 3, 1) := by decide +kernel
theorem dX12_clash_29 : decode cX12_clash 29 = .ok (.invokevirtual 272, 3) := by decide +kernel
theorem dX12_clash_32 : decode cX12_clash 32 = .ok (.istore 4, 2) := by decide +kernel
theorem dX12_clash_34 : decode cX12_clash 34 = .ok (.aload_n 0, 1) := by decide +kernel
theorem dX12_clash_35 : decode cX12_clash 35 = .ok (.iload_n 1, 1) := by decide +kernel
theorem dX12_clash_36 : decode cX12_clash 36 = .ok (.iload_n 3, 1) := by decide +kernel
theorem dX12_clash_37 : decode cX12_clash 37 = .ok (.invokevirtual 281, 3) := by decide +kernel
theorem dX12_clash_40 : decode cX12_clash 40 = .ok (.aload_n 0, 1) := by decide +kernel
theorem dX12_clash_41 : decode cX12_clash 41 = .ok (.bipush 30, 2) := by decide +kernel
theorem dX12_clash_43 : decode cX12_clash 43 = .ok (.iload_n 2, 1) := by decide +kernel
theorem dX12_clash_44 : decode cX12_clash 44 = .ok (.imul, 1) := by decide +kernel
theorem dX12_clash_45 : decode cX12_clash 45 = .ok (.sipush 180, 3) := by decide +kernel
theorem dX12_clash_48 : decode cX12_clash 48 = .ok (.bipush 30, 2) := by decide +kernel
theorem dX12_clash_50 : decode cX12_clash 50 = .ok (.iload 4, 2) := by decide +kernel
theorem dX12_clash_52 : decode cX12_clash 52 = .ok (.imul, 1) := by decide +kernel
theorem dX12_clash_53 : decode cX12_clash 53 = .ok (.iadd, 1) := by decide +kernel
theorem dX12_clash_54 : decode cX12_clash 54 = .ok (.invokevirtual 285, 3) := by decide +kernel
theorem dX12_clash_57 : decode cX12_clash 57 = .ok (.ifCond .ne 5, 3) := by decide +kernel
theorem dX12_clash_60 : decode cX12_clash 60 = .ok (.iconst (-1), 1) := by decide +kernel
theorem dX12_clash_61 : decode cX12_clash 61 = .ok (.ireturn, 1) := by decide +kernel
theorem dX12_clash_62 : decode cX12_clash 62 = .ok (.aload_n 0, 1) := by decide +kernel
theorem dX12_clash_63 : decode cX12_clash 63 = .ok (.iconst 0, 1) := by decide +kernel
theorem dX12_clash_64 : decode cX12_clash 64 = .ok (.putfield 167, 3) := by decide +kernel
theorem dX12_clash_67 : decode cX12_clash 67 = .ok (.aload_n 0, 1) := by decide +kernel
theorem dX12_clash_68 : decode cX12_clash 68 = .ok (.getfield 36, 3) := by decide +kernel
theorem dX12_clash_71 : decode cX12_clash 71 = .ok (.iload_n 1, 1) := by decide +kernel
theorem dX12_clash_72 : decode cX12_clash 72 = .ok (.iaload, 1) := by decide +kernel
theorem dX12_clash_73 : decode cX12_clash 73 = .ok (.aload_n 0, 1) := by decide +kernel
theorem dX12_clash_74 : decode cX12_clash 74 = .ok (.getfield 36, 3) := by decide +kernel
theorem dX12_clash_77 : decode cX12_clash 77 = .ok (.iload_n 3, 1) := by decide +kernel
theorem dX12_clash_78 : decode cX12_clash 78 = .ok (.iaload, 1) := by decide +kernel
theorem dX12_clash_79 : decode cX12_clash 79 = .ok (.iadd, 1) := by decide +kernel
theorem dX12_clash_80 : decode cX12_clash 80 = .ok (.bipush 8, 2) := by decide +kernel
theorem dX12_clash_82 : decode cX12_clash 82 = .ok (.if_icmp .gt 30, 3) := by decide +kernel
theorem dX12_clash_85 : decode cX12_clash 85 = .ok (.aload_n 0, 1) := by decide +kernel
theorem dX12_clash_86 : decode cX12_clash 86 = .ok (.iload_n 1, 1) := by decide +kernel
theorem dX12_clash_87 : decode cX12_clash 87 = .ok (.iconst 0, 1) := by decide +kernel
theorem dX12_clash_88 : decode cX12_clash 88 = .ok (.iload_n 2, 1) := by decide +kernel
theorem dX12_clash_89 : decode cX12_clash 89 = .ok (.invokevirtual 288, 3) := by decide +kernel
theorem dX12_clash_92 : decode cX12_clash 92 = .ok (.ifCond .eq 20, 3) := by decide +kernel
theorem dX12_clash_95 : decode cX12_clash 95 = .ok (.aload_n 0, 1) := by decide +kernel
theorem dX12_clash_96 : decode cX12_clash 96 = .ok (.iload_n 3, 1) := by decide +kernel
theorem dX12_clash_97 : decode cX12_clash 97 = .ok (.sipush 180, 3) := by decide +kernel
theorem dX12_clash_100 : decode cX12_clash 100 = .ok (.iload 4, 2) := by decide +kernel
theorem dX12_clash_102 : decode cX12_clash 102 = .ok (.invokevirtual 288, 3) := by decide +kernel
theorem dX12_clash_105 : decode cX12_clash 105 = .ok (.ifCond .eq 7, 3) := by decide +kernel
theorem dX12_clash_108 : decode cX12_clash 108 = .ok (.iconst 1, 1) := by decide +kernel
theorem dX12_clash_109 : decode cX12_clash 109 = .ok (.goto 4, 3) := by decide +kernel
theorem dX12_clash_112 : decode cX12_clash 112 = .ok (.iconst 0, 1) := by decide +kernel
theorem dX12_clash_113 : decode cX12_clash 113 = .ok (.ireturn, 1) := by decide +kernel
theorem dX12_factor_0 : decode cX12_factor 0 = .ok (.aload_n 0, 1) := by decide +kernel
theorem dX12_factor_1 : decode cX12_factor 1 = .ok (.iload_n 1, 1) := by decide +kernel
theorem dX12_factor_2 : decode cX12_factor 2 = .ok (.invokevirtual 275, 3) := by decide +kernel
theorem dX12_factor_5 : decode cX12_factor 5 = .ok (.ifCond .eq 26, 3) := by decide +kernel
theorem dX12_factor_8 : decode cX12_factor 8 = .ok (.aload_n 0, 1) := by decide +kernel
theorem dX12_factor_9 : decode cX12_factor 9 = .ok (.iload_n 1, 1) := by decide +kernel
theorem dX12_factor_10 : decode cX12_factor 10 = .ok (.iload_n 2, 1) := by decide +kernel
theorem dX12_factor_11 : decode cX12_factor 11 = .ok (.invokevirtual 278, 3) := by decide +kernel
theorem dX12_factor_14 : decode cX12_factor 14 = .ok (.ifCond .eq 17, 3) := by decide +kernel
theorem dX12_factor_17 : decode cX12_factor 17 = .ok (.aload_n 0, 1) := by decide +kernel
theorem dX12_factor_18 : decode cX12_factor 18 = .ok (.iload_n 1, 1) := by decide +kernel
theorem dX12_factor_19 : decode cX12_factor 19 = .ok (.iload_n 3, 1) := by decide +kernel
theorem dX12_factor_20 : decode cX12_factor 20 = .ok (.invokevirtual 278, 3) := by decide +kernel
theorem dX12_factor_23 : decode cX12_factor 23 = .ok (.ifCond .eq 8, 3) := by decide +kernel
theorem dX12_factor_26 : decode cX12_factor 26 = .ok (.iload_n 2, 1) := by decide +kernel
theorem dX12_factor_27 : decode cX12_factor 27 = .ok (.iload_n 3, 1) := by decide +kernel
theorem dX12_factor_28 : decode cX12_factor 28 = .ok (.if_icmp .lt 5, 3) := by decide +kernel
theorem dX12_factor_31 : decode cX12_factor 31 = .ok (.iconst (-1), 1) := by decide +kernel
theorem dX12_factor_32 : decode cX12_factor 32 = .ok (.ireturn, 1) := by decide +kernel
theorem dX12_factor_33 : decode cX12_factor 33 = .ok (.aload_n 0, 1) := by decide +kernel
theorem dX12_factor_34 : decode cX12_factor 34 = .ok (.iload_n 1, 1) := by decide +kernel
theorem dX12_factor_35 : decode cX12_factor 35 = .ok (.iload_n 1, 1) := by decide +kernel
theorem dX12_factor_36 : decode cX12_factor 36 = .ok (.invokevirtual 281, 3) := by decide +kernel
theorem dX12_factor_39 : decode cX12_factor 39 = .ok (.aload_n 0, 1) := by decide +kernel
theorem dX12_factor_40 : decode cX12_factor 40 = .ok (.bipush 30, 2) := by decide +kernel
theorem dX12_factor_42 : decode cX12_factor 42 = .ok (.iload_n 2, 1) := by decide +kernel
theorem dX12_factor_43 : decode cX12_factor 43 = .ok (.imul, 1) := by decide +kernel
theorem dX12_factor_44 : decode cX12_factor 44 = .ok (.bipush 30, 2) := by decide +kernel
theorem dX12_factor_46 : decode cX12_factor 46 = .ok (.iload_n 3, 1) := by decide +kernel
theorem dX12_factor_47 : decode cX12_factor 47 = .ok (.imul, 1) := by decide +kernel
theorem dX12_factor_48 : decode cX12_factor 48 = .ok (.invokevirtual 285, 3) := by decide +kernel
theorem dX12_factor_51 : decode cX12_factor 51 = .ok (.ifCond .ne 5, 3) := by decide +kernel
theorem dX12_factor_54 : decode cX12_factor 54 = .ok (.iconst (-1), 1) := by decide +kernel
theorem dX12_factor_55 : decode cX12_factor 55 = .ok (.ireturn, 1) := by decide +kernel
theorem dX12_factor_56 : decode cX12_factor 56 = .ok (.aload_n 0, 1) := by decide +kernel
theorem dX12_factor_57 : decode cX12_factor 57 = .ok (.iconst 0, 1) := by decide +kernel
theorem dX12_factor_58 : decode cX12_factor 58 = .ok (.putfield 167, 3) := by decide +kernel
theorem dX12_factor_61 : decode cX12_factor 61 = .ok (.aload_n 0, 1) := by decide +kernel
theorem dX12_factor_62 : decode cX12_factor 62 = .ok (.iload_n 1, 1) := by decide +kernel
theorem dX12_factor_63 : decode cX12_factor 63 = .ok (.iconst 0, 1) := by decide +kernel
theorem dX12_factor_64 : decode cX12_factor 64 = .ok (.iload_n 3, 1) := by decide +kernel
theorem dX12_factor_65 : decode cX12_factor 65 = .ok (.invokevirtual 288, 3) := by decide +kernel
theorem dX12_factor_68 : decode cX12_factor 68 = .ok (.ifCond .eq 7, 3) := by decide +kernel
theorem dX12_factor_71 : decode cX12_factor 71 = .ok (.iconst 1, 1) := by decide +kernel
theorem dX12_factor_72 : decode cX12_factor 72 = .ok (.goto 4, 3) := by decide +kernel
theorem dX12_factor_75 : decode cX12_factor 75 = .ok (.iconst 0, 1) := by decide +kernel
theorem dX12_factor_76 : decode cX12_factor 76 = .ok (.ireturn, 1) := by decide +kernel
theorem dX12_drop_0 : decode cX12_drop 0 = .ok (.aload_n 0, 1) := by decide +kernel
theorem dX12_drop_1 : decode cX12_drop 1 = .ok (.iload_n 1, 1) := by decide +kernel
theorem dX12_drop_2 : decode cX12_drop 2 = .ok (.invokevirtual 272, 3) := by decide +kernel
theorem dX12_drop_5 : decode cX12_drop 5 = .ok (.istore_n 2, 1) := by decide +kernel
theorem dX12_drop_6 : decode cX12_drop 6 = .ok (.iload_n 2, 1) := by decide +kernel
theorem dX12_drop_7 : decode cX12_drop 7 = .ok (.iconst (-1), 1) := by decide +kernel
theorem dX12_drop_8 : decode cX12_drop 8 = .ok (.if_icmp .eq 21, 3) := by decide +kernel
theorem dX12_drop_11 : decode cX12_drop 11 = .ok (.aload_n 0, 1) := by decide +kernel
theorem dX12_drop_12 : decode cX12_drop 12 = .ok (.getfield 27, 3) := by decide +kernel
theorem dX12_drop_15 : decode cX12_drop 15 = .ok (.sipush 180, 3) := by decide +kernel
theorem dX12_drop_18 : decode cX12_drop 18 = .ok (.iload_n 1, 1) := by decide +kernel
theorem dX12_drop_19 : decode cX12_drop 19 = .ok (.imul, 1) := by decide +kernel
theorem dX12_drop_20 : decode cX12_drop 20 = .ok (.bipush 30, 2) := by decide +kernel
theorem dX12_drop_22 : decode cX12_drop 22 = .ok (.iload_n 2, 1) := by decide +kernel
theorem dX12_drop_23 : decode cX12_drop 23 = .ok (.imul, 1) := by decide +kernel
theorem dX12_drop_24 : decode cX12_drop 24 = .ok (.iadd, 1) := by decide +kernel
theorem dX12_drop_25 : decode cX12_drop 25 = .ok (.iaload, 1) := by decide +kernel
theorem dX12_drop_26 : decode cX12_drop 26 = .ok (.ifCond .eq 5, 3) := by decide +kernel
theorem dX12_drop_29 : decode cX12_drop 29 = .ok (.iconst (-1), 1) := by decide +kernel
theorem dX12_drop_30 : decode cX12_drop 30 = .ok (.ireturn, 1) := by decide +kernel
theorem dX12_drop_31 : decode cX12_drop 31 = .ok (.aload_n 0, 1) := by decide +kernel
theorem dX12_drop_32 : decode cX12_drop 32 = .ok (.iload_n 1, 1) := by decide +kernel
theorem dX12_drop_33 : decode cX12_drop 33 = .ok (.iload_n 1, 1) := by decide +kernel
theorem dX12_drop_34 : decode cX12_drop 34 = .ok (.invokevirtual 281, 3) := by decide +kernel
theorem dX12_drop_37 : decode cX12_drop 37 = .ok (.bipush 30, 2) := by decide +kernel
theorem dX12_drop_39 : decode cX12_drop 39 = .ok (.iload_n 2, 1) := by decide +kernel
theorem dX12_drop_40 : decode cX12_drop 40 = .ok (.imul, 1) := by decide +kernel
theorem dX12_drop_41 : decode cX12_drop 41 = .ok (.iconst 1, 1) := by decide +kernel
theorem dX12_drop_42 : decode cX12_drop 42 = .ok (.iadd, 1) := by decide +kernel
theorem dX12_drop_43 : decode cX12_drop 43 = .ok (.istore_n 3, 1) := by decide +kernel
theorem dX12_drop_44 : decode cX12_drop 44 = .ok (.aload_n 0, 1) := by decide +kernel
theorem dX12_drop_45 : decode cX12_drop 45 = .ok (.iload_n 3, 1) := by decide +kernel
theorem dX12_drop_46 : decode cX12_drop 46 = .ok (.aload_n 0, 1) := by decide +kernel
theorem dX12_drop_47 : decode cX12_drop 47 = .ok (.aload_n 0, 1) := by decide +kernel
theorem dX12_drop_48 : decode cX12_drop 48 = .ok (.getfield 108, 3) := by decide +kernel
theorem dX12_drop_51 : decode cX12_drop 51 = .ok (.iload_n 3, 1) := by decide +kernel
theorem dX12_drop_52 : decode cX12_drop 52 = .ok (.invokevirtual 148, 3) := by decide +kernel
theorem dX12_drop_55 : decode cX12_drop 55 = .ok (.invokevirtual 285, 3) := by decide +kernel
theorem dX12_drop_58 : decode cX12_drop 58 = .ok (.ifCond .ne 5, 3) := by decide +kernel
theorem dX12_drop_61 : decode cX12_drop 61 = .ok (.iconst (-1), 1) := by decide +kernel
theorem dX12_drop_62 : decode cX12_drop 62 = .ok (.ireturn, 1) := by decide +kernel
theorem dX12_drop_63 : decode cX12_drop 63 = .ok (.aload_n 0, 1) := by decide +kernel
theorem dX12_drop_64 : decode cX12_drop 64 = .ok (.iconst 0, 1) := by decide +kernel
theorem dX12_drop_65 : decode cX12_drop 65 = .ok (.putfield 167, 3) := by decide +kernel
theorem dX12_drop_68 : decode cX12_drop 68 = .ok (.aload_n 0, 1) := by decide +kernel
theorem dX12_drop_69 : decode cX12_drop 69 = .ok (.iload_n 1, 1) := by decide +kernel
theorem dX12_drop_70 : decode cX12_drop 70 = .ok (.iconst 0, 1) := by decide +kernel
theorem dX12_drop_71 : decode cX12_drop 71 = .ok (.iload_n 2, 1) := by decide +kernel
theorem dX12_drop_72 : decode cX12_drop 72 = .ok (.invokevirtual 288, 3) := by decide +kernel
theorem dX12_drop_75 : decode cX12_drop 75 = .ok (.ifCond .eq 7, 3) := by decide +kernel
theorem dX12_drop_78 : decode cX12_drop 78 = .ok (.iconst 1, 1) := by decide +kernel
theorem dX12_drop_79 : decode cX12_drop 79 = .ok (.goto 4, 3) := by decide +kernel
theorem dX12_drop_82 : decode cX12_drop 82 = .ok (.iconst 0, 1) := by decide +kernel
theorem dX12_drop_83 : decode cX12_drop 83 = .ok (.ireturn, 1) := by decide +kernel
theorem dX12_turn_0 : decode cX12_turn 0 = .ok (.aload_n 0, 1) := by decide +kernel
theorem dX12_turn_1 : decode cX12_turn 1 = .ok (.iload_n 1, 1) := by decide +kernel
theorem dX12_turn_2 : decode cX12_turn 2 = .ok (.invokevirtual 275, 3) := by decide +kernel
theorem dX12_turn_5 : decode cX12_turn 5 = .ok (.ifCond .eq 56, 3) := by decide +kernel
theorem dX12_turn_8 : decode cX12_turn 8 = .ok (.aload_n 0, 1) := by decide +kernel
theorem dX12_turn_9 : decode cX12_turn 9 = .ok (.iload_n 1, 1) := by decide +kernel
theorem dX12_turn_10 : decode cX12_turn 10 = .ok (.iload_n 2, 1) := by decide +kernel
theorem dX12_turn_11 : decode cX12_turn 11 = .ok (.invokevirtual 278, 3) := by decide +kernel
theorem dX12_turn_14 : decode cX12_turn 14 = .ok (.ifCond .eq 47, 3) := by decide +kernel
theorem dX12_turn_17 : decode cX12_turn 17 = .ok (.iload_n 3, 1) := by decide +kernel
theorem dX12_turn_18 : decode cX12_turn 18 = .ok (.iconst 0, 1) := by decide +kernel
theorem dX12_turn_19 : decode cX12_turn 19 = .ok (.iconst 1, 1) := by decide +kernel
theorem dX12_turn_20 : decode cX12_turn 20 = .ok (.invokestatic 138, 3) := by decide +kernel
theorem dX12_turn_23 : decode cX12_turn 23 = .ok (.ifCond .eq 38, 3) := by decide +kernel
theorem dX12_turn_26 : decode cX12_turn 26 = .ok (.aload_n 0, 1) := by decide +kernel
theorem dX12_turn_27 : decode cX12_turn 27 = .ok (.iload 4, 2) := by decide +kernel
theorem dX12_turn_29 : decode cX12_turn 29 = .ok (.iload 5, 2) := by decide +kernel
theorem dX12_turn_31 : decode cX12_turn 31 = .ok (.invokevirtual 278, 3) := by decide +kernel
theorem dX12_turn_34 : decode cX12_turn 34 = .ok (.ifCond .eq 27, 3) := by decide +kernel
theorem dX12_turn_37 : decode cX12_turn 37 = .ok (.iload 6, 2) := by decide +kernel
theorem dX12_turn_39 : decode cX12_turn 39 = .ok (.iconst 1, 1) := by decide +kernel
theorem dX12_turn_40 : decode cX12_turn 40 = .ok (.aload_n 0, 1) := by decide +kernel
theorem dX12_turn_41 : decode cX12_turn 41 = .ok (.getfield 30, 3) := by decide +kernel
theorem dX12_turn_44 : decode cX12_turn 44 = .ok (.bipush 6, 2) := by decide +kernel
theorem dX12_turn_46 : decode cX12_turn 46 = .ok (.iload 4, 2) := by decide +kernel
theorem dX12_turn_48 : decode cX12_turn 48 = .ok (.imul, 1) := by decide +kernel
theorem dX12_turn_49 : decode cX12_turn 49 = .ok (.iload 5, 2) := by decide +kernel
theorem dX12_turn_51 : decode cX12_turn 51 = .ok (.iadd, 1) := by decide +kernel
theorem dX12_turn_52 : decode cX12_turn 52 = .ok (.iaload, 1) := by decide +kernel
theorem dX12_turn_53 : decode cX12_turn 53 = .ok (.iconst 1, 1) := by decide +kernel
theorem dX12_turn_54 : decode cX12_turn 54 = .ok (.isub, 1) := by decide +kernel
theorem dX12_turn_55 : decode cX12_turn 55 = .ok (.invokestatic 138, 3) := by decide +kernel
theorem dX12_turn_58 : decode cX12_turn 58 = .ok (.ifCond .ne 5, 3) := by decide +kernel
theorem dX12_turn_61 : decode cX12_turn 61 = .ok (.iconst (-1), 1) := by decide +kernel
theorem dX12_turn_62 : decode cX12_turn 62 = .ok (.ireturn, 1) := by decide +kernel
theorem dX12_turn_63 : decode cX12_turn 63 = .ok (.aload_n 0, 1) := by decide +kernel
theorem dX12_turn_64 : decode cX12_turn 64 = .ok (.iload 4, 2) := by decide +kernel
theorem dX12_turn_66 : decode cX12_turn 66 = .ok (.invokevirtual 272, 3) := by decide +kernel
theorem dX12_turn_69 : decode cX12_turn 69 = .ok (.istore 7, 2) := by decide +kernel
theorem dX12_turn_71 : decode cX12_turn 71 = .ok (.aload_n 0, 1) := by decide +kernel
theorem dX12_turn_72 : decode cX12_turn 72 = .ok (.getfield 27, 3) := by decide +kernel
theorem dX12_turn_75 : decode cX12_turn 75 = .ok (.sipush 180, 3) := by decide +kernel
theorem dX12_turn_78 : decode cX12_turn 78 = .ok (.iload_n 1, 1) := by decide +kernel
theorem dX12_turn_79 : decode cX12_turn 79 = .ok (.imul, 1) := by decide +kernel
theorem dX12_turn_80 : decode cX12_turn 80 = .ok (.bipush 30, 2) := by decide +kernel
theorem dX12_turn_82 : decode cX12_turn 82 = .ok (.iload_n 2, 1) := by decide +kernel
theorem dX12_turn_83 : decode cX12_turn 83 = .ok (.imul, 1) := by decide +kernel
theorem dX12_turn_84 : decode cX12_turn 84 = .ok (.iadd, 1) := by decide +kernel
theorem dX12_turn_85 : decode cX12_turn 85 = .ok (.iaload, 1) := by decide +kernel
theorem dX12_turn_86 : decode cX12_turn 86 = .ok (.ifCond .ne 39, 3) := by decide +kernel
theorem dX12_turn_89 : decode cX12_turn 89 = .ok (.iload 7, 2) := by decide +kernel
theorem dX12_turn_91 : decode cX12_turn 91 = .ok (.iconst (-1), 1) := by decide +kernel
theorem dX12_turn_92 : decode cX12_turn 92 = .ok (.if_icmp .eq 10, 3) := by decide +kernel
theorem dX12_turn_95 : decode cX12_turn 95 = .ok (.iload 7, 2) := by decide +kernel
theorem dX12_turn_97 : decode cX12_turn 97 = .ok (.iload 5, 2) := by decide +kernel
theorem dX12_turn_99 : decode cX12_turn 99 = .ok (.if_icmp .ne 26, 3) := by decide +kernel
theorem dX12_turn_102 : decode cX12_turn 102 = .ok (.aload_n 0, 1) := by decide +kernel
theorem dX12_turn_103 : decode cX12_turn 103 = .ok (.getfield 27, 3) := by decide +kernel
theorem dX12_turn_106 : decode cX12_turn 106 = .ok (.sipush 180, 3) := by decide +kernel
theorem dX12_turn_109 : decode cX12_turn 109 = .ok (.iload 4, 2) := by decide +kernel
theorem dX12_turn_111 : decode cX12_turn 111 = .ok (.imul, 1) := by decide +kernel
theorem dX12_turn_112 : decode cX12_turn 112 = .ok (.bipush 30, 2) := by decide +kernel
theorem dX12_turn_114 : decode cX12_turn 114 = .ok (.iload 5, 2) := by decide +kernel
theorem dX12_turn_116 : decode cX12_turn 116 = .ok (.imul, 1) := by decide +kernel
theorem dX12_turn_117 : decode cX12_turn 117 = .ok (.iadd, 1) := by decide +kernel
theorem dX12_turn_118 : decode cX12_turn 118 = .ok (.iload 6, 2) := by decide +kernel
theorem dX12_turn_120 : decode cX12_turn 120 = .ok (.iadd, 1) := by decide +kernel
theorem dX12_turn_121 : decode cX12_turn 121 = .ok (.iaload, 1) := by decide +kernel
theorem dX12_turn_122 : decode cX12_turn 122 = .ok (.ifCond .ge 5, 3) := by decide +kernel
theorem dX12_turn_125 : decode cX12_turn 125 = .ok (.iconst (-1), 1) := by decide +kernel
theorem dX12_turn_126 : decode cX12_turn 126 = .ok (.ireturn, 1) := by decide +kernel
theorem dX12_turn_127 : decode cX12_turn 127 = .ok (.aload_n 0, 1) := by decide +kernel
theorem dX12_turn_128 : decode cX12_turn 128 = .ok (.iload_n 1, 1) := by decide +kernel
theorem dX12_turn_129 : decode cX12_turn 129 = .ok (.iload 4, 2) := by decide +kernel
theorem dX12_turn_131 : decode cX12_turn 131 = .ok (.invokevirtual 281, 3) := by decide +kernel
theorem dX12_turn_134 : decode cX12_turn 134 = .ok (.bipush 30, 2) := by decide +kernel
theorem dX12_turn_136 : decode cX12_turn 136 = .ok (.iload_n 2, 1) := by decide +kernel
theorem dX12_turn_137 : decode cX12_turn 137 = .ok (.imul, 1) := by decide +kernel
theorem dX12_turn_138 : decode cX12_turn 138 = .ok (.iconst 1, 1) := by decide +kernel
theorem dX12_turn_139 : decode cX12_turn 139 = .ok (.iadd, 1) := by decide +kernel
theorem dX12_turn_140 : decode cX12_turn 140 = .ok (.istore 8, 2) := by decide +kernel
theorem dX12_turn_142 : decode cX12_turn 142 = .ok (.aload_n 0, 1) := by decide +kernel
theorem dX12_turn_143 : decode cX12_turn 143 = .ok (.aload_n 0, 1) := by decide +kernel
theorem dX12_turn_144 : decode cX12_turn 144 = .ok (.getfield 108, 3) := by decide +kernel
theorem dX12_turn_147 : decode cX12_turn 147 = .ok (.iload 8, 2) := by decide +kernel
theorem dX12_turn_149 : decode cX12_turn 149 = .ok (.invokevirtual 148, 3) := by decide +kernel
theorem dX12_turn_152 : decode cX12_turn 152 = .ok (.istore 9, 2) := by decide +kernel
theorem dX12_turn_154 : decode cX12_turn 154 = .ok (.iload_n 3, 1) := by decide +kernel
theorem dX12_turn_155 : decode cX12_turn 155 = .ok (.ifCond .ne 8, 3) := by decide +kernel
theorem dX12_turn_158 : decode cX12_turn 158 = .ok (.iload 8, 2) := by decide +kernel
theorem dX12_turn_160 : decode cX12_turn 160 = .ok (.goto 5, 3) := by decide +kernel
theorem dX12_turn_163 : decode cX12_turn 163 = .ok (.iload 9, 2) := by decide +kernel
theorem dX12_turn_165 : decode cX12_turn 165 = .ok (.istore 10, 2) := by decide +kernel
theorem dX12_turn_167 : decode cX12_turn 167 = .ok (.iload_n 3, 1) := by decide +kernel
theorem dX12_turn_168 : decode cX12_turn 168 = .ok (.ifCond .ne 8, 3) := by decide +kernel
theorem dX12_turn_171 : decode cX12_turn 171 = .ok (.iload 9, 2) := by decide +kernel
theorem dX12_turn_173 : decode cX12_turn 173 = .ok (.goto 5, 3) := by decide +kernel
theorem dX12_turn_176 : decode cX12_turn 176 = .ok (.iload 8, 2) := by decide +kernel
theorem dX12_turn_178 : decode cX12_turn 178 = .ok (.istore 11, 2) := by decide +kernel
theorem dX12_turn_180 : decode cX12_turn 180 = .ok (.sipush 180, 3) := by decide +kernel
theorem dX12_turn_183 : decode cX12_turn 183 = .ok (.bipush 30, 2) := by decide +kernel
theorem dX12_turn_185 : decode cX12_turn 185 = .ok (.iload 5, 2) := by decide +kernel
theorem dX12_turn_187 : decode cX12_turn 187 = .ok (.imul, 1) := by decide +kernel
theorem dX12_turn_188 : decode cX12_turn 188 = .ok (.iadd, 1) := by decide +kernel
theorem dX12_turn_189 : decode cX12_turn 189 = .ok (.iload 6, 2) := by decide +kernel
theorem dX12_turn_191 : decode cX12_turn 191 = .ok (.iadd, 1) := by decide +kernel
theorem dX12_turn_192 : decode cX12_turn 192 = .ok (.istore 12, 2) := by decide +kernel
theorem dX12_turn_194 : decode cX12_turn 194 = .ok (.aload_n 0, 1) := by decide +kernel
theorem dX12_turn_195 : decode cX12_turn 195 = .ok (.iload 10, 2) := by decide +kernel
theorem dX12_turn_197 : decode cX12_turn 197 = .ok (.iload 12, 2) := by decide +kernel
theorem dX12_turn_199 : decode cX12_turn 199 = .ok (.invokevirtual 285, 3) := by decide +kernel
theorem dX12_turn_202 : decode cX12_turn 202 = .ok (.ifCond .ne 5, 3) := by decide +kernel
theorem dX12_turn_205 : decode cX12_turn 205 = .ok (.iconst (-1), 1) := by decide +kernel
theorem dX12_turn_206 : decode cX12_turn 206 = .ok (.ireturn, 1) := by decide +kernel
theorem dX12_turn_207 : decode cX12_turn 207 = .ok (.aload_n 0, 1) := by decide +kernel
theorem dX12_turn_208 : decode cX12_turn 208 = .ok (.iconst 0, 1) := by decide +kernel
theorem dX12_turn_209 : decode cX12_turn 209 = .ok (.putfield 259, 3) := by decide +kernel
theorem dX12_turn_212 : decode cX12_turn 212 = .ok (.aload_n 0, 1) := by decide +kernel
theorem dX12_turn_213 : decode cX12_turn 213 = .ok (.iload 10, 2) := by decide +kernel
theorem dX12_turn_215 : decode cX12_turn 215 = .ok (.invokevirtual 265, 3) := by decide +kernel
theorem dX12_turn_218 : decode cX12_turn 218 = .ok (.aload_n 0, 1) := by decide +kernel
theorem dX12_turn_219 : decode cX12_turn 219 = .ok (.getfield 259, 3) := by decide +kernel
theorem dX12_turn_222 : decode cX12_turn 222 = .ok (.istore 13, 2) := by decide +kernel
theorem dX12_turn_224 : decode cX12_turn 224 = .ok (.iconst 0, 1) := by decide +kernel
theorem dX12_turn_225 : decode cX12_turn 225 = .ok (.istore 14, 2) := by decide +kernel
theorem dX12_turn_227 : decode cX12_turn 227 = .ok (.iload 14, 2) := by decide +kernel
theorem dX12_turn_229 : decode cX12_turn 229 = .ok (.aload_n 0, 1) := by decide +kernel
theorem dX12_turn_230 : decode cX12_turn 230 = .ok (.getfield 259, 3) := by decide +kernel
theorem dX12_turn_233 : decode cX12_turn 233 = .ok (.if_icmp .ge 23, 3) := by decide +kernel
theorem dX12_turn_236 : decode cX12_turn 236 = .ok (.aload_n 0, 1) := by decide +kernel
theorem dX12_turn_237 : decode cX12_turn 237 = .ok (.getfield 126, 3) := by decide +kernel
theorem dX12_turn_240 : decode cX12_turn 240 = .ok (.iload 14, 2) := by decide +kernel
theorem dX12_turn_242 : decode cX12_turn 242 = .ok (.aload_n 0, 1) := by decide +kernel
theorem dX12_turn_243 : decode cX12_turn 243 = .ok (.getfield 123, 3) := by decide +kernel
theorem dX12_turn_246 : decode cX12_turn 246 = .ok (.iload 14, 2) := by decide +kernel
theorem dX12_turn_248 : decode cX12_turn 248 = .ok (.iaload, 1) := by decide +kernel
theorem dX12_turn_249 : decode cX12_turn 249 = .ok (.iastore, 1) := by decide +kernel
theorem dX12_turn_250 : decode cX12_turn 250 = .ok (.iinc 14 1, 3) := by decide +kernel
theorem dX12_turn_253 : decode cX12_turn 253 = .ok (.goto (-26), 3) := by decide +kernel
theorem dX12_turn_256 : decode cX12_turn 256 = .ok (.aload_n 0, 1) := by decide +kernel
theorem dX12_turn_257 : decode cX12_turn 257 = .ok (.iconst 0, 1) := by decide +kernel
theorem dX12_turn_258 : decode cX12_turn 258 = .ok (.putfield 259, 3) := by decide +kernel
theorem dX12_turn_261 : decode cX12_turn 261 = .ok (.aload_n 0, 1) := by decide +kernel
theorem dX12_turn_262 : decode cX12_turn 262 = .ok (.iload 11, 2) := by decide +kernel
theorem dX12_turn_264 : decode cX12_turn 264 = .ok (.invokevirtual 265, 3) := by decide +kernel
theorem dX12_turn_267 : decode cX12_turn 267 = .ok (.iload 13, 2) := by decide +kernel
theorem dX12_turn_269 : decode cX12_turn 269 = .ok (.bipush 30, 2) := by decide +kernel
theorem dX12_turn_271 : decode cX12_turn 271 = .ok (.if_icmp .gt 12, 3) := by decide +kernel
theorem dX12_turn_274 : decode cX12_turn 274 = .ok (.aload_n 0, 1) := by decide +kernel
theorem dX12_turn_275 : decode cX12_turn 275 = .ok (.getfield 259, 3) := by decide +kernel
theorem dX12_turn_278 : decode cX12_turn 278 = .ok (.bipush 30, 2) := by decide +kernel
theorem dX12_turn_280 : decode cX12_turn 280 = .ok (.if_icmp .le 5, 3) := by decide +kernel
theorem dX12_turn_283 : decode cX12_turn 283 = .ok (.iconst 0, 1) := by decide +kernel
theorem dX12_turn_284 : decode cX12_turn 284 = .ok (.ireturn, 1) := by decide +kernel
theorem dX12_turn_285 : decode cX12_turn 285 = .ok (.aload_n 0, 1) := by decide +kernel
theorem dX12_turn_286 : decode cX12_turn 286 = .ok (.aload_n 0, 1) := by decide +kernel
theorem dX12_turn_287 : decode cX12_turn 287 = .ok (.getfield 123, 3) := by decide +kernel
theorem dX12_turn_290 : decode cX12_turn 290 = .ok (.iconst 0, 1) := by decide +kernel
theorem dX12_turn_291 : decode cX12_turn 291 = .ok (.aload_n 0, 1) := by decide +kernel
theorem dX12_turn_292 : decode cX12_turn 292 = .ok (.getfield 126, 3) := by decide +kernel
theorem dX12_turn_295 : decode cX12_turn 295 = .ok (.iconst 0, 1) := by decide +kernel
theorem dX12_turn_296 : decode cX12_turn 296 = .ok (.invokevirtual 170, 3) := by decide +kernel
theorem dX12_turn_299 : decode cX12_turn 299 = .ok (.ifCond .eq 5, 3) := by decide +kernel
theorem dX12_turn_302 : decode cX12_turn 302 = .ok (.iconst (-1), 1) := by decide +kernel
theorem dX12_turn_303 : decode cX12_turn 303 = .ok (.ireturn, 1) := by decide +kernel
theorem dX12_turn_304 : decode cX12_turn 304 = .ok (.aload_n 0, 1) := by decide +kernel
theorem dX12_turn_305 : decode cX12_turn 305 = .ok (.iconst 0, 1) := by decide +kernel
theorem dX12_turn_306 : decode cX12_turn 306 = .ok (.putfield 167, 3) := by decide +kernel
theorem dX12_turn_309 : decode cX12_turn 309 = .ok (.aload_n 0, 1) := by decide +kernel
theorem dX12_turn_310 : decode cX12_turn 310 = .ok (.iload_n 1, 1) := by decide +kernel
theorem dX12_turn_311 : decode cX12_turn 311 = .ok (.iload_n 2, 1) := by decide +kernel
theorem dX12_turn_312 : decode cX12_turn 312 = .ok (.iload 4, 2) := by decide +kernel
theorem dX12_turn_314 : decode cX12_turn 314 = .ok (.iload 5, 2) := by decide +kernel
theorem dX12_turn_316 : decode cX12_turn 316 = .ok (.iload 12, 2) := by decide +kernel
theorem dX12_turn_318 : decode cX12_turn 318 = .ok (.iload 11, 2) := by decide +kernel
theorem dX12_turn_320 : decode cX12_turn 320 = .ok (.invokevirtual 291, 3) := by decide +kernel
theorem dX12_turn_323 : decode cX12_turn 323 = .ok (.ifCond .eq 7, 3) := by decide +kernel
theorem dX12_turn_326 : decode cX12_turn 326 = .ok (.iconst 1, 1) := by decide +kernel
theorem dX12_turn_327 : decode cX12_turn 327 = .ok (.goto 4, 3) := by decide +kernel
theorem dX12_turn_330 : decode cX12_turn 330 = .ok (.iconst 0, 1) := by decide +kernel
theorem dX12_turn_331 : decode cX12_turn 331 = .ok (.ireturn, 1) := by decide +kernel
theorem dX12_turnWrites_0 : decode cX12_turnWrites 0 = .ok (.aload_n 0, 1) := by decide +kernel
theorem dX12_turnWrites_1 : decode cX12_turnWrites 1 = .ok (.getfield 36, 3) := by decide +kernel
theorem dX12_turnWrites_4 : decode cX12_turnWrites 4 = .ok (.iload_n 1, 1) := by decide +kernel
theorem dX12_turnWrites_5 : decode cX12_turnWrites 5 = .ok (.iaload, 1) := by decide +kernel
theorem dX12_turnWrites_6 : decode cX12_turnWrites 6 = .ok (.iconst 1, 1) := by decide +kernel
theorem dX12_turnWrites_7 : decode cX12_turnWrites 7 = .ok (.isub, 1) := by decide +kernel
theorem dX12_turnWrites_8 : decode cX12_turnWrites 8 = .ok (.aload_n 0, 1) := by decide +kernel
theorem dX12_turnWrites_9 : decode cX12_turnWrites 9 = .ok (.getfield 36, 3) := by decide +kernel
theorem dX12_turnWrites_12 : decode cX12_turnWrites 12 = .ok (.iload_n 3, 1) := by decide +kernel
theorem dX12_turnWrites_13 : decode cX12_turnWrites 13 = .ok (.iaload, 1) := by decide +kernel
theorem dX12_turnWrites_14 : decode cX12_turnWrites 14 = .ok (.iadd, 1) := by decide +kernel
theorem dX12_turnWrites_15 : decode cX12_turnWrites 15 = .ok (.bipush 6, 2) := by decide +kernel
theorem dX12_turnWrites_17 : decode cX12_turnWrites 17 = .ok (.if_icmp .gt 13, 3) := by decide +kernel
theorem dX12_turnWrites_20 : decode cX12_turnWrites 20 = .ok (.aload_n 0, 1) := by decide +kernel
theorem dX12_turnWrites_21 : decode cX12_turnWrites 21 = .ok (.iload_n 1, 1) := by decide +kernel
theorem dX12_turnWrites_22 : decode cX12_turnWrites 22 = .ok (.iconst 0, 1) := by decide +kernel
theorem dX12_turnWrites_23 : decode cX12_turnWrites 23 = .ok (.iload_n 2, 1) := by decide +kernel
theorem dX12_turnWrites_24 : decode cX12_turnWrites 24 = .ok (.invokevirtual 288, 3) := by decide +kernel
theorem dX12_turnWrites_27 : decode cX12_turnWrites 27 = .ok (.ifCond .ne 5, 3) := by decide +kernel
theorem dX12_turnWrites_30 : decode cX12_turnWrites 30 = .ok (.iconst 0, 1) := by decide +kernel
theorem dX12_turnWrites_31 : decode cX12_turnWrites 31 = .ok (.ireturn, 1) := by decide +kernel
theorem dX12_turnWrites_32 : decode cX12_turnWrites 32 = .ok (.iconst 0, 1) := by decide +kernel
theorem dX12_turnWrites_33 : decode cX12_turnWrites 33 = .ok (.istore 7, 2) := by decide +kernel
theorem dX12_turnWrites_35 : decode cX12_turnWrites 35 = .ok (.iload 7, 2) := by decide +kernel
theorem dX12_turnWrites_37 : decode cX12_turnWrites 37 = .ok (.aload_n 0, 1) := by decide +kernel
theorem dX12_turnWrites_38 : decode cX12_turnWrites 38 = .ok (.getfield 36, 3) := by decide +kernel
theorem dX12_turnWrites_41 : decode cX12_turnWrites 41 = .ok (.iload_n 3, 1) := by decide +kernel
theorem dX12_turnWrites_42 : decode cX12_turnWrites 42 = .ok (.iaload, 1) := by decide +kernel
theorem dX12_turnWrites_43 : decode cX12_turnWrites 43 = .ok (.if_icmp .ge 87, 3) := by decide +kernel
theorem dX12_turnWrites_46 : decode cX12_turnWrites 46 = .ok (.aload_n 0, 1) := by decide +kernel
theorem dX12_turnWrites_47 : decode cX12_turnWrites 47 = .ok (.iconst 0, 1) := by decide +kernel
theorem dX12_turnWrites_48 : decode cX12_turnWrites 48 = .ok (.putfield 259, 3) := by decide +kernel
theorem dX12_turnWrites_51 : decode cX12_turnWrites 51 = .ok (.iload 7, 2) := by decide +kernel
theorem dX12_turnWrites_53 : decode cX12_turnWrites 53 = .ok (.iload 4, 2) := by decide +kernel
theorem dX12_turnWrites_55 : decode cX12_turnWrites 55 = .ok (.if_icmp .ne 35, 3) := by decide +kernel
theorem dX12_turnWrites_58 : decode cX12_turnWrites 58 = .ok (.aload_n 0, 1) := by decide +kernel
theorem dX12_turnWrites_59 : decode cX12_turnWrites 59 = .ok (.sipush 180, 3) := by decide +kernel
theorem dX12_turnWrites_62 : decode cX12_turnWrites 62 = .ok (.bipush 30, 2) := by decide +kernel
theorem dX12_turnWrites_64 : decode cX12_turnWrites 64 = .ok (.iload 7, 2) := by decide +kernel
theorem dX12_turnWrites_66 : decode cX12_turnWrites 66 = .ok (.imul, 1) := by decide +kernel
theorem dX12_turnWrites_67 : decode cX12_turnWrites 67 = .ok (.iadd, 1) := by decide +kernel
theorem dX12_turnWrites_68 : decode cX12_turnWrites 68 = .ok (.aload_n 0, 1) := by decide +kernel
theorem dX12_turnWrites_69 : decode cX12_turnWrites 69 = .ok (.getfield 30, 3) := by decide +kernel
theorem dX12_turnWrites_72 : decode cX12_turnWrites 72 = .ok (.bipush 6, 2) := by decide +kernel
theorem dX12_turnWrites_74 : decode cX12_turnWrites 74 = .ok (.iload_n 3, 1) := by decide +kernel
theorem dX12_turnWrites_75 : decode cX12_turnWrites 75 = .ok (.imul, 1) := by decide +kernel
theorem dX12_turnWrites_76 : decode cX12_turnWrites 76 = .ok (.iload 7, 2) := by decide +kernel
theorem dX12_turnWrites_78 : decode cX12_turnWrites 78 = .ok (.iadd, 1) := by decide +kernel
theorem dX12_turnWrites_79 : decode cX12_turnWrites 79 = .ok (.iaload, 1) := by decide +kernel
theorem dX12_turnWrites_80 : decode cX12_turnWrites 80 = .ok (.iload 5, 2) := by decide +kernel
theorem dX12_turnWrites_82 : decode cX12_turnWrites 82 = .ok (.iload 6, 2) := by decide +kernel
theorem dX12_turnWrites_84 : decode cX12_turnWrites 84 = .ok (.invokevirtual 295, 3) := by decide +kernel
theorem dX12_turnWrites_87 : decode cX12_turnWrites 87 = .ok (.goto 16, 3) := by decide +kernel
theorem dX12_turnWrites_90 : decode cX12_turnWrites 90 = .ok (.aload_n 0, 1) := by decide +kernel
theorem dX12_turnWrites_91 : decode cX12_turnWrites 91 = .ok (.sipush 180, 3) := by decide +kernel
theorem dX12_turnWrites_94 : decode cX12_turnWrites 94 = .ok (.bipush 30, 2) := by decide +kernel
theorem dX12_turnWrites_96 : decode cX12_turnWrites 96 = .ok (.iload 7, 2) := by decide +kernel
theorem dX12_turnWrites_98 : decode cX12_turnWrites 98 = .ok (.imul, 1) := by decide +kernel
theorem dX12_turnWrites_99 : decode cX12_turnWrites 99 = .ok (.iadd, 1) := by decide +kernel
theorem dX12_turnWrites_100 : decode cX12_turnWrites 100 = .ok (.invokevirtual 265, 3) := by decide +kernel
theorem dX12_turnWrites_103 : decode cX12_turnWrites 103 = .ok (.aload_n 0, 1) := by decide +kernel
theorem dX12_turnWrites_104 : decode cX12_turnWrites 104 = .ok (.aload_n 0, 1) := by decide +kernel
theorem dX12_turnWrites_105 : decode cX12_turnWrites 105 = .ok (.getfield 33, 3) := by decide +kernel
theorem dX12_turnWrites_108 : decode cX12_turnWrites 108 = .ok (.bipush 6, 2) := by decide +kernel
theorem dX12_turnWrites_110 : decode cX12_turnWrites 110 = .ok (.iload_n 3, 1) := by decide +kernel
theorem dX12_turnWrites_111 : decode cX12_turnWrites 111 = .ok (.imul, 1) := by decide +kernel
theorem dX12_turnWrites_112 : decode cX12_turnWrites 112 = .ok (.iload 7, 2) := by decide +kernel
theorem dX12_turnWrites_114 : decode cX12_turnWrites 114 = .ok (.iadd, 1) := by decide +kernel
theorem dX12_turnWrites_115 : decode cX12_turnWrites 115 = .ok (.baload, 1) := by decide +kernel
theorem dX12_turnWrites_116 : decode cX12_turnWrites 116 = .ok (.invokevirtual 268, 3) := by decide +kernel
theorem dX12_turnWrites_119 : decode cX12_turnWrites 119 = .ok (.ifCond .ne 5, 3) := by decide +kernel
theorem dX12_turnWrites_122 : decode cX12_turnWrites 122 = .ok (.iconst 0, 1) := by decide +kernel
theorem dX12_turnWrites_123 : decode cX12_turnWrites 123 = .ok (.ireturn, 1) := by decide +kernel
theorem dX12_turnWrites_124 : decode cX12_turnWrites 124 = .ok (.iinc 7 1, 3) := by decide +kernel
theorem dX12_turnWrites_127 : decode cX12_turnWrites 127 = .ok (.goto (-92), 3) := by decide +kernel
theorem dX12_turnWrites_130 : decode cX12_turnWrites 130 = .ok (.iconst 1, 1) := by decide +kernel
theorem dX12_turnWrites_131 : decode cX12_turnWrites 131 = .ok (.ireturn, 1) := by decide +kernel
theorem dX12_writeTurned_0 : decode cX12_writeTurned 0 = .ok (.iload_n 1, 1) := by decide +kernel
theorem dX12_writeTurned_1 : decode cX12_writeTurned 1 = .ok (.istore 5, 2) := by decide +kernel
theorem dX12_writeTurned_3 : decode cX12_writeTurned 3 = .ok (.iload 5, 2) := by decide +kernel
theorem dX12_writeTurned_5 : decode cX12_writeTurned 5 = .ok (.iload_n 1, 1) := by decide +kernel
theorem dX12_writeTurned_6 : decode cX12_writeTurned 6 = .ok (.iload_n 2, 1) := by decide +kernel
theorem dX12_writeTurned_7 : decode cX12_writeTurned 7 = .ok (.iadd, 1) := by decide +kernel
theorem dX12_writeTurned_8 : decode cX12_writeTurned 8 = .ok (.if_icmp .ge 66, 3) := by decide +kernel
theorem dX12_writeTurned_11 : decode cX12_writeTurned 11 = .ok (.iload 5, 2) := by decide +kernel
theorem dX12_writeTurned_13 : decode cX12_writeTurned 13 = .ok (.iload_n 3, 1) := by decide +kernel
theorem dX12_writeTurned_14 : decode cX12_writeTurned 14 = .ok (.if_icmp .ne 24, 3) := by decide +kernel
theorem dX12_writeTurned_17 : decode cX12_writeTurned 17 = .ok (.aload_n 0, 1) := by decide +kernel
theorem dX12_writeTurned_18 : decode cX12_writeTurned 18 = .ok (.iload 4, 2) := by decide +kernel
theorem dX12_writeTurned_20 : decode cX12_writeTurned 20 = .ok (.invokevirtual 265, 3) := by decide +kernel
theorem dX12_writeTurned_23 : decode cX12_writeTurned 23 = .ok (.aload_n 0, 1) := by decide +kernel
theorem dX12_writeTurned_24 : decode cX12_writeTurned 24 = .ok (.aload_n 0, 1) := by decide +kernel
theorem dX12_writeTurned_25 : decode cX12_writeTurned 25 = .ok (.getfield 108, 3) := by decide +kernel
theorem dX12_writeTurned_28 : decode cX12_writeTurned 28 = .ok (.iload 5, 2) := by decide +kernel
theorem dX12_writeTurned_30 : decode cX12_writeTurned 30 = .ok (.invokevirtual 148, 3) := by decide +kernel
theorem dX12_writeTurned_33 : decode cX12_writeTurned 33 = .ok (.istore 5, 2) := by decide +kernel
theorem dX12_writeTurned_35 : decode cX12_writeTurned 35 = .ok (.goto (-32), 3) := by decide +kernel
theorem dX12_writeTurned_38 : decode cX12_writeTurned 38 = .ok (.aload_n 0, 1) := by decide +kernel
theorem dX12_writeTurned_39 : decode cX12_writeTurned 39 = .ok (.getfield 108, 3) := by decide +kernel
theorem dX12_writeTurned_42 : decode cX12_writeTurned 42 = .ok (.iload 5, 2) := by decide +kernel
theorem dX12_writeTurned_44 : decode cX12_writeTurned 44 = .ok (.iaload, 1) := by decide +kernel
theorem dX12_writeTurned_45 : decode cX12_writeTurned 45 = .ok (.ifCond .ge 12, 3) := by decide +kernel
theorem dX12_writeTurned_48 : decode cX12_writeTurned 48 = .ok (.aload_n 0, 1) := by decide +kernel
theorem dX12_writeTurned_49 : decode cX12_writeTurned 49 = .ok (.iload 5, 2) := by decide +kernel
theorem dX12_writeTurned_51 : decode cX12_writeTurned 51 = .ok (.invokevirtual 265, 3) := by decide +kernel
theorem dX12_writeTurned_54 : decode cX12_writeTurned 54 = .ok (.goto 14, 3) := by decide +kernel
theorem dX12_writeTurned_57 : decode cX12_writeTurned 57 = .ok (.aload_n 0, 1) := by decide +kernel
theorem dX12_writeTurned_58 : decode cX12_writeTurned 58 = .ok (.aload_n 0, 1) := by decide +kernel
theorem dX12_writeTurned_59 : decode cX12_writeTurned 59 = .ok (.getfield 108, 3) := by decide +kernel
theorem dX12_writeTurned_62 : decode cX12_writeTurned 62 = .ok (.iload 5, 2) := by decide +kernel
theorem dX12_writeTurned_64 : decode cX12_writeTurned 64 = .ok (.iaload, 1) := by decide +kernel
theorem dX12_writeTurned_65 : decode cX12_writeTurned 65 = .ok (.invokevirtual 262, 3) := by decide +kernel
theorem dX12_writeTurned_68 : decode cX12_writeTurned 68 = .ok (.iinc 5 1, 3) := by decide +kernel
theorem dX12_writeTurned_71 : decode cX12_writeTurned 71 = .ok (.goto (-68), 3) := by decide +kernel
theorem dX12_writeTurned_74 : decode cX12_writeTurned 74 = .ok (.return_, 1) := by decide +kernel
theorem dX12_makes_0 : decode cX12_makes 0 = .ok (.iload_n 1, 1) := by decide +kernel
theorem dX12_makes_1 : decode cX12_makes 1 = .ok (.tableswitch 51 1 3 #[27, 36, 45], 27) := by decide +kernel
theorem dX12_makes_28 : decode cX12_makes 28 = .ok (.aload_n 0, 1) := by decide +kernel
theorem dX12_makes_29 : decode cX12_makes 29 = .ok (.iload_n 2, 1) := by decide +kernel
theorem dX12_makes_30 : decode cX12_makes 30 = .ok (.iload_n 3, 1) := by decide +kernel
theorem dX12_makes_31 : decode cX12_makes 31 = .ok (.iload 4, 2) := by decide +kernel
theorem dX12_makes_33 : decode cX12_makes 33 = .ok (.invokevirtual 299, 3) := by decide +kernel
theorem dX12_makes_36 : decode cX12_makes 36 = .ok (.ireturn, 1) := by decide +kernel
theorem dX12_makes_37 : decode cX12_makes 37 = .ok (.aload_n 0, 1) := by decide +kernel
theorem dX12_makes_38 : decode cX12_makes 38 = .ok (.iload_n 2, 1) := by decide +kernel
theorem dX12_makes_39 : decode cX12_makes 39 = .ok (.iload_n 3, 1) := by decide +kernel
theorem dX12_makes_40 : decode cX12_makes 40 = .ok (.iload 4, 2) := by decide +kernel
theorem dX12_makes_42 : decode cX12_makes 42 = .ok (.invokevirtual 303, 3) := by decide +kernel
theorem dX12_makes_45 : decode cX12_makes 45 = .ok (.ireturn, 1) := by decide +kernel
theorem dX12_makes_46 : decode cX12_makes 46 = .ok (.aload_n 0, 1) := by decide +kernel
theorem dX12_makes_47 : decode cX12_makes 47 = .ok (.iload_n 2, 1) := by decide +kernel
theorem dX12_makes_48 : decode cX12_makes 48 = .ok (.invokevirtual 306, 3) := by decide +kernel
theorem dX12_makes_51 : decode cX12_makes 51 = .ok (.ireturn, 1) := by decide +kernel
theorem dX12_makes_52 : decode cX12_makes 52 = .ok (.aload_n 0, 1) := by decide +kernel
theorem dX12_makes_53 : decode cX12_makes 53 = .ok (.iload_n 2, 1) := by decide +kernel
theorem dX12_makes_54 : decode cX12_makes 54 = .ok (.iload_n 3, 1) := by decide +kernel
theorem dX12_makes_55 : decode cX12_makes 55 = .ok (.iload 4, 2) := by decide +kernel
theorem dX12_makes_57 : decode cX12_makes 57 = .ok (.iload 5, 2) := by decide +kernel
theorem dX12_makes_59 : decode cX12_makes 59 = .ok (.iload 6, 2) := by decide +kernel
theorem dX12_makes_61 : decode cX12_makes 61 = .ok (.iload 7, 2) := by decide +kernel
theorem dX12_makes_63 : decode cX12_makes 63 = .ok (.invokevirtual 309, 3) := by decide +kernel
theorem dX12_makes_66 : decode cX12_makes 66 = .ok (.ireturn, 1) := by decide +kernel
theorem dX12_isTakenIn_0 : decode cX12_isTakenIn 0 = .ok (.iconst 0, 1) := by decide +kernel
theorem dX12_isTakenIn_1 : decode cX12_isTakenIn 1 = .ok (.istore_n 1, 1) := by decide +kernel
theorem dX12_isTakenIn_2 : decode cX12_isTakenIn 2 = .ok (.iload_n 1, 1) := by decide +kernel
theorem dX12_isTakenIn_3 : decode cX12_isTakenIn 3 = .ok (.aload_n 0, 1) := by decide +kernel
theorem dX12_isTakenIn_4 : decode cX12_isTakenIn 4 = .ok (.getfield 142, 3) := by decide +kernel
theorem dX12_isTakenIn_7 : decode cX12_isTakenIn 7 = .ok (.if_icmp .ge 29, 3) := by decide +kernel
theorem dX12_isTakenIn_10 : decode cX12_isTakenIn 10 = .ok (.aload_n 0, 1) := by decide +kernel
theorem dX12_isTakenIn_11 : decode cX12_isTakenIn 11 = .ok (.getfield 39, 3) := by decide +kernel
theorem dX12_isTakenIn_14 : decode cX12_isTakenIn 14 = .ok (.iload_n 1, 1) := by decide +kernel
theorem dX12_isTakenIn_15 : decode cX12_isTakenIn 15 = .ok (.iaload, 1) := by decide +kernel
theorem dX12_isTakenIn_16 : decode cX12_isTakenIn 16 = .ok (.iconst 2, 1) := by decide +kernel
theorem dX12_isTakenIn_17 : decode cX12_isTakenIn 17 = .ok (.if_icmp .eq 13, 3) := by decide +kernel
theorem dX12_isTakenIn_20 : decode cX12_isTakenIn 20 = .ok (.aload_n 0, 1) := by decide +kernel
theorem dX12_isTakenIn_21 : decode cX12_isTakenIn 21 = .ok (.iload_n 1, 1) := by decide +kernel
theorem dX12_isTakenIn_22 : decode cX12_isTakenIn 22 = .ok (.invokevirtual 313, 3) := by decide +kernel
theorem dX12_isTakenIn_25 : decode cX12_isTakenIn 25 = .ok (.ifCond .eq 5, 3) := by decide +kernel
theorem dX12_isTakenIn_28 : decode cX12_isTakenIn 28 = .ok (.iconst 1, 1) := by decide +kernel
theorem dX12_isTakenIn_29 : decode cX12_isTakenIn 29 = .ok (.ireturn, 1) := by decide +kernel
theorem dX12_isTakenIn_30 : decode cX12_isTakenIn 30 = .ok (.iinc 1 1, 3) := by decide +kernel
theorem dX12_isTakenIn_33 : decode cX12_isTakenIn 33 = .ok (.goto (-31), 3) := by decide +kernel
theorem dX12_isTakenIn_36 : decode cX12_isTakenIn 36 = .ok (.iconst 0, 1) := by decide +kernel
theorem dX12_isTakenIn_37 : decode cX12_isTakenIn 37 = .ok (.ireturn, 1) := by decide +kernel
theorem dX12_layWork_0 : decode cX12_layWork 0 = .ok (.aload_n 0, 1) := by decide +kernel
theorem dX12_layWork_1 : decode cX12_layWork 1 = .ok (.getfield 36, 3) := by decide +kernel
theorem dX12_layWork_4 : decode cX12_layWork 4 = .ok (.iload_n 1, 1) := by decide +kernel
theorem dX12_layWork_5 : decode cX12_layWork 5 = .ok (.aload_n 0, 1) := by decide +kernel
theorem dX12_layWork_6 : decode cX12_layWork 6 = .ok (.getfield 167, 3) := by decide +kernel
theorem dX12_layWork_9 : decode cX12_layWork 9 = .ok (.iastore, 1) := by decide +kernel
theorem dX12_layWork_10 : decode cX12_layWork 10 = .ok (.iconst 0, 1) := by decide +kernel
theorem dX12_layWork_11 : decode cX12_layWork 11 = .ok (.istore_n 2, 1) := by decide +kernel
theorem dX12_layWork_12 : decode cX12_layWork 12 = .ok (.iload_n 2, 1) := by decide +kernel
theorem dX12_layWork_13 : decode cX12_layWork 13 = .ok (.aload_n 0, 1) := by decide +kernel
theorem dX12_layWork_14 : decode cX12_layWork 14 = .ok (.getfield 167, 3) := by decide +kernel
theorem dX12_layWork_17 : decode cX12_layWork 17 = .ok (.if_icmp .ge 88, 3) := by decide +kernel
theorem dX12_layWork_20 : decode cX12_layWork 20 = .ok (.aload_n 0, 1) := by decide +kernel
theorem dX12_layWork_21 : decode cX12_layWork 21 = .ok (.getfield 30, 3) := by decide +kernel
theorem dX12_layWork_24 : decode cX12_layWork 24 = .ok (.bipush 6, 2) := by decide +kernel
theorem dX12_layWork_26 : decode cX12_layWork 26 = .ok (.iload_n 1, 1) := by decide +kernel
theorem dX12_layWork_27 : decode cX12_layWork 27 = .ok (.imul, 1) := by decide +kernel
theorem dX12_layWork_28 : decode cX12_layWork 28 = .ok (.iload_n 2, 1) := by decide +kernel
theorem dX12_layWork_29 : decode cX12_layWork 29 = .ok (.iadd, 1) := by decide +kernel
theorem dX12_layWork_30 : decode cX12_layWork 30 = .ok (.aload_n 0, 1) := by decide +kernel
theorem dX12_layWork_31 : decode cX12_layWork 31 = .ok (.getfield 72, 3) := by decide +kernel
theorem dX12_layWork_34 : decode cX12_layWork 34 = .ok (.iload_n 2, 1) := by decide +kernel
theorem dX12_layWork_35 : decode cX12_layWork 35 = .ok (.iaload, 1) := by decide +kernel
theorem dX12_layWork_36 : decode cX12_layWork 36 = .ok (.iastore, 1) := by decide +kernel
theorem dX12_layWork_37 : decode cX12_layWork 37 = .ok (.aload_n 0, 1) := by decide +kernel
theorem dX12_layWork_38 : decode cX12_layWork 38 = .ok (.getfield 33, 3) := by decide +kernel
theorem dX12_layWork_41 : decode cX12_layWork 41 = .ok (.bipush 6, 2) := by decide +kernel
theorem dX12_layWork_43 : decode cX12_layWork 43 = .ok (.iload_n 1, 1) := by decide +kernel
theorem dX12_layWork_44 : decode cX12_layWork 44 = .ok (.imul, 1) := by decide +kernel
theorem dX12_layWork_45 : decode cX12_layWork 45 = .ok (.iload_n 2, 1) := by decide +kernel
theorem dX12_layWork_46 : decode cX12_layWork 46 = .ok (.iadd, 1) := by decide +kernel
theorem dX12_layWork_47 : decode cX12_layWork 47 = .ok (.aload_n 0, 1) := by decide +kernel
theorem dX12_layWork_48 : decode cX12_layWork 48 = .ok (.getfield 75, 3) := by decide +kernel
theorem dX12_layWork_51 : decode cX12_layWork 51 = .ok (.iload_n 2, 1) := by decide +kernel
theorem dX12_layWork_52 : decode cX12_layWork 52 = .ok (.baload, 1) := by decide +kernel
theorem dX12_layWork_53 : decode cX12_layWork 53 = .ok (.bastore, 1) := by decide +kernel
theorem dX12_layWork_54 : decode cX12_layWork 54 = .ok (.iconst 0, 1) := by decide +kernel
theorem dX12_layWork_55 : decode cX12_layWork 55 = .ok (.istore_n 3, 1) := by decide +kernel
theorem dX12_layWork_56 : decode cX12_layWork 56 = .ok (.iload_n 3, 1) := by decide +kernel
theorem dX12_layWork_57 : decode cX12_layWork 57 = .ok (.aload_n 0, 1) := by decide +kernel
theorem dX12_layWork_58 : decode cX12_layWork 58 = .ok (.getfield 72, 3) := by decide +kernel
theorem dX12_layWork_61 : decode cX12_layWork 61 = .ok (.iload_n 2, 1) := by decide +kernel
theorem dX12_layWork_62 : decode cX12_layWork 62 = .ok (.iaload, 1) := by decide +kernel
theorem dX12_layWork_63 : decode cX12_layWork 63 = .ok (.if_icmp .ge 36, 3) := by decide +kernel
theorem dX12_layWork_66 : decode cX12_layWork 66 = .ok (.aload_n 0, 1) := by decide +kernel
theorem dX12_layWork_67 : decode cX12_layWork 67 = .ok (.getfield 27, 3) := by decide +kernel
theorem dX12_layWork_70 : decode cX12_layWork 70 = .ok (.bipush 30, 2) := by decide +kernel
theorem dX12_layWork_72 : decode cX12_layWork 72 = .ok (.bipush 6, 2) := by decide +kernel
theorem dX12_layWork_74 : decode cX12_layWork 74 = .ok (.iload_n 1, 1) := by decide +kernel
theorem dX12_layWork_75 : decode cX12_layWork 75 = .ok (.imul, 1) := by decide +kernel
theorem dX12_layWork_76 : decode cX12_layWork 76 = .ok (.iload_n 2, 1) := by decide +kernel
theorem dX12_layWork_77 : decode cX12_layWork 77 = .ok (.iadd, 1) := by decide +kernel
theorem dX12_layWork_78 : decode cX12_layWork 78 = .ok (.imul, 1) := by decide +kernel
theorem dX12_layWork_79 : decode cX12_layWork 79 = .ok (.iload_n 3, 1) := by decide +kernel
theorem dX12_layWork_80 : decode cX12_layWork 80 = .ok (.iadd, 1) := by decide +kernel
theorem dX12_layWork_81 : decode cX12_layWork 81 = .ok (.aload_n 0, 1) := by decide +kernel
theorem dX12_layWork_82 : decode cX12_layWork 82 = .ok (.getfield 69, 3) := by decide +kernel
theorem dX12_layWork_85 : decode cX12_layWork 85 = .ok (.bipush 30, 2) := by decide +kernel
theorem dX12_layWork_87 : decode cX12_layWork 87 = .ok (.iload_n 2, 1) := by decide +kernel
theorem dX12_layWork_88 : decode cX12_layWork 88 = .ok (.imul, 1) := by decide +kernel
theorem dX12_layWork_89 : decode cX12_layWork 89 = .ok (.iload_n 3, 1) := by decide +kernel
theorem dX12_layWork_90 : decode cX12_layWork 90 = .ok (.iadd, 1) := by decide +kernel
theorem dX12_layWork_91 : decode cX12_layWork 91 = .ok (.iaload, 1) := by decide +kernel
theorem dX12_layWork_92 : decode cX12_layWork 92 = .ok (.iastore, 1) := by decide +kernel
theorem dX12_layWork_93 : decode cX12_layWork 93 = .ok (.iinc 3 1, 3) := by decide +kernel
theorem dX12_layWork_96 : decode cX12_layWork 96 = .ok (.goto (-40), 3) := by decide +kernel
theorem dX12_layWork_99 : decode cX12_layWork 99 = .ok (.iinc 2 1, 3) := by decide +kernel
theorem dX12_layWork_102 : decode cX12_layWork 102 = .ok (.goto (-90), 3) := by decide +kernel
theorem dX12_layWork_105 : decode cX12_layWork 105 = .ok (.return_, 1) := by decide +kernel
theorem dX12_ends_0 : decode cX12_ends 0 = .ok (.aload_n 0, 1) := by decide +kernel
theorem dX12_ends_1 : decode cX12_ends 1 = .ok (.invokevirtual 316, 3) := by decide +kernel
theorem dX12_ends_4 : decode cX12_ends 4 = .ok (.ifCond .ne 16, 3) := by decide +kernel
theorem dX12_ends_7 : decode cX12_ends 7 = .ok (.aload_n 0, 1) := by decide +kernel
theorem dX12_ends_8 : decode cX12_ends 8 = .ok (.dup, 1) := by decide +kernel
theorem dX12_ends_9 : decode cX12_ends 9 = .ok (.getfield 319, 3) := by decide +kernel
theorem dX12_ends_12 : decode cX12_ends 12 = .ok (.iconst 1, 1) := by decide +kernel
theorem dX12_ends_13 : decode cX12_ends 13 = .ok (.iadd, 1) := by decide +kernel
theorem dX12_ends_14 : decode cX12_ends 14 = .ok (.putfield 319, 3) := by decide +kernel
theorem dX12_ends_17 : decode cX12_ends 17 = .ok (.bipush (-99), 2) := by decide +kernel
theorem dX12_ends_19 : decode cX12_ends 19 = .ok (.ireturn, 1) := by decide +kernel
theorem dX12_ends_20 : decode cX12_ends 20 = .ok (.aload_n 0, 1) := by decide +kernel
theorem dX12_ends_21 : decode cX12_ends 21 = .ok (.invokevirtual 322, 3) := by decide +kernel
theorem dX12_ends_24 : decode cX12_ends 24 = .ok (.ifCond .ne 10, 3) := by decide +kernel
theorem dX12_ends_27 : decode cX12_ends 27 = .ok (.aload_n 0, 1) := by decide +kernel
theorem dX12_ends_28 : decode cX12_ends 28 = .ok (.invokevirtual 325, 3) := by decide +kernel
theorem dX12_ends_31 : decode cX12_ends 31 = .ok (.ifCond .eq 15, 3) := by decide +kernel
theorem dX12_ends_34 : decode cX12_ends 34 = .ok (.aload_n 0, 1) := by decide +kernel
theorem dX12_ends_35 : decode cX12_ends 35 = .ok (.dup, 1) := by decide +kernel
theorem dX12_ends_36 : decode cX12_ends 36 = .ok (.getfield 328, 3) := by decide +kernel
theorem dX12_ends_39 : decode cX12_ends 39 = .ok (.iconst 1, 1) := by decide +kernel
theorem dX12_ends_40 : decode cX12_ends 40 = .ok (.iadd, 1) := by decide +kernel
theorem dX12_ends_41 : decode cX12_ends 41 = .ok (.putfield 328, 3) := by decide +kernel
theorem dX12_ends_44 : decode cX12_ends 44 = .ok (.iconst (-1), 1) := by decide +kernel
theorem dX12_ends_45 : decode cX12_ends 45 = .ok (.ireturn, 1) := by decide +kernel
theorem dX12_ends_46 : decode cX12_ends 46 = .ok (.aload_n 0, 1) := by decide +kernel
theorem dX12_ends_47 : decode cX12_ends 47 = .ok (.getfield 142, 3) := by decide +kernel
theorem dX12_ends_50 : decode cX12_ends 50 = .ok (.istore 8, 2) := by decide +kernel
theorem dX12_ends_52 : decode cX12_ends 52 = .ok (.aload_n 0, 1) := by decide +kernel
theorem dX12_ends_53 : decode cX12_ends 53 = .ok (.iload 8, 2) := by decide +kernel
theorem dX12_ends_55 : decode cX12_ends 55 = .ok (.invokevirtual 331, 3) := by decide +kernel
theorem dX12_ends_58 : decode cX12_ends 58 = .ok (.aload_n 0, 1) := by decide +kernel
theorem dX12_ends_59 : decode cX12_ends 59 = .ok (.getfield 39, 3) := by decide +kernel
theorem dX12_ends_62 : decode cX12_ends 62 = .ok (.iload 8, 2) := by decide +kernel
theorem dX12_ends_64 : decode cX12_ends 64 = .ok (.iconst 0, 1) := by decide +kernel
theorem dX12_ends_65 : decode cX12_ends 65 = .ok (.iastore, 1) := by decide +kernel
theorem dX12_ends_66 : decode cX12_ends 66 = .ok (.aload_n 0, 1) := by decide +kernel
theorem dX12_ends_67 : decode cX12_ends 67 = .ok (.getfield 42, 3) := by decide +kernel
theorem dX12_ends_70 : decode cX12_ends 70 = .ok (.iload 8, 2) := by decide +kernel
theorem dX12_ends_72 : decode cX12_ends 72 = .ok (.iconst (-1), 1) := by decide +kernel
theorem dX12_ends_73 : decode cX12_ends 73 = .ok (.iastore, 1) := by decide +kernel
theorem dX12_ends_74 : decode cX12_ends 74 = .ok (.aload_n 0, 1) := by decide +kernel
theorem dX12_ends_75 : decode cX12_ends 75 = .ok (.getfield 45, 3) := by decide +kernel
theorem dX12_ends_78 : decode cX12_ends 78 = .ok (.iload 8, 2) := by decide +kernel
theorem dX12_ends_80 : decode cX12_ends 80 = .ok (.iload_n 1, 1) := by decide +kernel
theorem dX12_ends_81 : decode cX12_ends 81 = .ok (.ifCond .ne 7, 3) := by decide +kernel
theorem dX12_ends_84 : decode cX12_ends 84 = .ok (.iconst 1, 1) := by decide +kernel
theorem dX12_ends_85 : decode cX12_ends 85 = .ok (.goto 4, 3) := by decide +kernel
theorem dX12_ends_88 : decode cX12_ends 88 = .ok (.iconst 0, 1) := by decide +kernel
theorem dX12_ends_89 : decode cX12_ends 89 = .ok (.bastore, 1) := by decide +kernel
theorem dX12_ends_90 : decode cX12_ends 90 = .ok (.aload_n 0, 1) := by decide +kernel
theorem dX12_ends_91 : decode cX12_ends 91 = .ok (.getfield 60, 3) := by decide +kernel
theorem dX12_ends_94 : decode cX12_ends 94 = .ok (.bipush 7, 2) := by decide +kernel
theorem dX12_ends_96 : decode cX12_ends 96 = .ok (.iload 8, 2) := by decide +kernel
theorem dX12_ends_98 : decode cX12_ends 98 = .ok (.imul, 1) := by decide +kernel
theorem dX12_ends_99 : decode cX12_ends 99 = .ok (.iload_n 1, 1) := by decide +kernel
theorem dX12_ends_100 : decode cX12_ends 100 = .ok (.iastore, 1) := by decide +kernel
theorem dX12_ends_101 : decode cX12_ends 101 = .ok (.aload_n 0, 1) := by decide +kernel
theorem dX12_ends_102 : decode cX12_ends 102 = .ok (.getfield 60, 3) := by decide +kernel
theorem dX12_ends_105 : decode cX12_ends 105 = .ok (.bipush 7, 2) := by decide +kernel
theorem dX12_ends_107 : decode cX12_ends 107 = .ok (.iload 8, 2) := by decide +kernel
theorem dX12_ends_109 : decode cX12_ends 109 = .ok (.imul, 1) := by decide +kernel
theorem dX12_ends_110 : decode cX12_ends 110 = .ok (.iconst 1, 1) := by decide +kernel
theorem dX12_ends_111 : decode cX12_ends 111 = .ok (.iadd, 1) := by decide +kernel
theorem dX12_ends_112 : decode cX12_ends 112 = .ok (.iload_n 2, 1) := by decide +kernel
theorem dX12_ends_113 : decode cX12_ends 113 = .ok (.iastore, 1) := by decide +kernel
theorem dX12_ends_114 : decode cX12_ends 114 = .ok (.aload_n 0, 1) := by decide +kernel
theorem dX12_ends_115 : decode cX12_ends 115 = .ok (.getfield 60, 3) := by decide +kernel
theorem dX12_ends_118 : decode cX12_ends 118 = .ok (.bipush 7, 2) := by decide +kernel
theorem dX12_ends_120 : decode cX12_ends 120 = .ok (.iload 8, 2) := by decide +kernel
theorem dX12_ends_122 : decode cX12_ends 122 = .ok (.imul, 1) := by decide +kernel
theorem dX12_ends_123 : decode cX12_ends 123 = .ok (.iconst 2, 1) := by decide +kernel
theorem dX12_ends_124 : decode cX12_ends 124 = .ok (.iadd, 1) := by decide +kernel
theorem dX12_ends_125 : decode cX12_ends 125 = .ok (.iload_n 3, 1) := by decide +kernel
theorem dX12_ends_126 : decode cX12_ends 126 = .ok (.iastore, 1) := by decide +kernel
theorem dX12_ends_127 : decode cX12_ends 127 = .ok (.aload_n 0, 1) := by decide +kernel
theorem dX12_ends_128 : decode cX12_ends 128 = .ok (.getfield 60, 3) := by decide +kernel
theorem dX12_ends_131 : decode cX12_ends 131 = .ok (.bipush 7, 2) := by decide +kernel
theorem dX12_ends_133 : decode cX12_ends 133 = .ok (.iload 8, 2) := by decide +kernel
theorem dX12_ends_135 : decode cX12_ends 135 = .ok (.imul, 1) := by decide +kernel
theorem dX12_ends_136 : decode cX12_ends 136 = .ok (.iconst 3, 1) := by decide +kernel
theorem dX12_ends_137 : decode cX12_ends 137 = .ok (.iadd, 1) := by decide +kernel
theorem dX12_ends_138 : decode cX12_ends 138 = .ok (.iload 4, 2) := by decide +kernel
theorem dX12_ends_140 : decode cX12_ends 140 = .ok (.iastore, 1) := by decide +kernel
theorem dX12_ends_141 : decode cX12_ends 141 = .ok (.aload_n 0, 1) := by decide +kernel
theorem dX12_ends_142 : decode cX12_ends 142 = .ok (.getfield 60, 3) := by decide +kernel
theorem dX12_ends_145 : decode cX12_ends 145 = .ok (.bipush 7, 2) := by decide +kernel
theorem dX12_ends_147 : decode cX12_ends 147 = .ok (.iload 8, 2) := by decide +kernel
theorem dX12_ends_149 : decode cX12_ends 149 = .ok (.imul, 1) := by decide +kernel
theorem dX12_ends_150 : decode cX12_ends 150 = .ok (.iconst 4, 1) := by decide +kernel
theorem dX12_ends_151 : decode cX12_ends 151 = .ok (.iadd, 1) := by decide +kernel
theorem dX12_ends_152 : decode cX12_ends 152 = .ok (.iload 5, 2) := by decide +kernel
theorem dX12_ends_154 : decode cX12_ends 154 = .ok (.iastore, 1) := by decide +kernel
theorem dX12_ends_155 : decode cX12_ends 155 = .ok (.aload_n 0, 1) := by decide +kernel
theorem dX12_ends_156 : decode cX12_ends 156 = .ok (.getfield 60, 3) := by decide +kernel
theorem dX12_ends_159 : decode cX12_ends 159 = .ok (.bipush 7, 2) := by decide +kernel
theorem dX12_ends_161 : decode cX12_ends 161 = .ok (.iload 8, 2) := by decide +kernel
theorem dX12_ends_163 : decode cX12_ends 163 = .ok (.imul, 1) := by decide +kernel
theorem dX12_ends_164 : decode cX12_ends 164 = .ok (.iconst 5, 1) := by decide +kernel
theorem dX12_ends_165 : decode cX12_ends 165 = .ok (.iadd, 1) := by decide +kernel
theorem dX12_ends_166 : decode cX12_ends 166 = .ok (.iload 6, 2) := by decide +kernel
theorem dX12_ends_168 : decode cX12_ends 168 = .ok (.iastore, 1) := by decide +kernel
theorem dX12_ends_169 : decode cX12_ends 169 = .ok (.aload_n 0, 1) := by decide +kernel
theorem dX12_ends_170 : decode cX12_ends 170 = .ok (.getfield 60, 3) := by decide +kernel
theorem dX12_ends_173 : decode cX12_ends 173 = .ok (.bipush 7, 2) := by decide +kernel
theorem dX12_ends_175 : decode cX12_ends 175 = .ok (.iload 8, 2) := by decide +kernel
theorem dX12_ends_177 : decode cX12_ends 177 = .ok (.imul, 1) := by decide +kernel
theorem dX12_ends_178 : decode cX12_ends 178 = .ok (.bipush 6, 2) := by decide +kernel
theorem dX12_ends_180 : decode cX12_ends 180 = .ok (.iadd, 1) := by decide +kernel
theorem dX12_ends_181 : decode cX12_ends 181 = .ok (.iload 7, 2) := by decide +kernel
theorem dX12_ends_183 : decode cX12_ends 183 = .ok (.iastore, 1) := by decide +kernel
theorem dX12_ends_184 : decode cX12_ends 184 = .ok (.aload_n 0, 1) := by decide +kernel
theorem dX12_ends_185 : decode cX12_ends 185 = .ok (.getfield 63, 3) := by decide +kernel
theorem dX12_ends_188 : decode cX12_ends 188 = .ok (.iload 8, 2) := by decide +kernel
theorem dX12_ends_190 : decode cX12_ends 190 = .ok (.aload_n 0, 1) := by decide +kernel
theorem dX12_ends_191 : decode cX12_ends 191 = .ok (.getfield 233, 3) := by decide +kernel
theorem dX12_ends_194 : decode cX12_ends 194 = .ok (.iastore, 1) := by decide +kernel
theorem dX12_ends_195 : decode cX12_ends 195 = .ok (.iconst 0, 1) := by decide +kernel
theorem dX12_ends_196 : decode cX12_ends 196 = .ok (.istore 9, 2) := by decide +kernel
theorem dX12_ends_198 : decode cX12_ends 198 = .ok (.iload 9, 2) := by decide +kernel
theorem dX12_ends_200 : decode cX12_ends 200 = .ok (.iconst 4, 1) := by decide +kernel
theorem dX12_ends_201 : decode cX12_ends 201 = .ok (.aload_n 0, 1) := by decide +kernel
theorem dX12_ends_202 : decode cX12_ends 202 = .ok (.getfield 233, 3) := by decide +kernel
theorem dX12_ends_205 : decode cX12_ends 205 = .ok (.imul, 1) := by decide +kernel
theorem dX12_ends_206 : decode cX12_ends 206 = .ok (.if_icmp .ge 29, 3) := by decide +kernel
theorem dX12_ends_209 : decode cX12_ends 209 = .ok (.aload_n 0, 1) := by decide +kernel
theorem dX12_ends_210 : decode cX12_ends 210 = .ok (.getfield 66, 3) := by decide +kernel
theorem dX12_ends_213 : decode cX12_ends 213 = .ok (.bipush 32, 2) := by decide +kernel
theorem dX12_ends_215 : decode cX12_ends 215 = .ok (.iload 8, 2) := by decide +kernel
theorem dX12_ends_217 : decode cX12_ends 217 = .ok (.imul, 1) := by decide +kernel
theorem dX12_ends_218 : decode cX12_ends 218 = .ok (.iload 9, 2) := by decide +kernel
theorem dX12_ends_220 : decode cX12_ends 220 = .ok (.iadd, 1) := by decide +kernel
theorem dX12_ends_221 : decode cX12_ends 221 = .ok (.aload_n 0, 1) := by decide +kernel
theorem dX12_ends_222 : decode cX12_ends 222 = .ok (.getfield 105, 3) := by decide +kernel
theorem dX12_ends_225 : decode cX12_ends 225 = .ok (.iload 9, 2) := by decide +kernel
theorem dX12_ends_227 : decode cX12_ends 227 = .ok (.iaload, 1) := by decide +kernel
theorem dX12_ends_228 : decode cX12_ends 228 = .ok (.iastore, 1) := by decide +kernel
theorem dX12_ends_229 : decode cX12_ends 229 = .ok (.iinc 9 1, 3) := by decide +kernel
theorem dX12_ends_232 : decode cX12_ends 232 = .ok (.goto (-34), 3) := by decide +kernel
theorem dX12_ends_235 : decode cX12_ends 235 = .ok (.aload_n 0, 1) := by decide +kernel
theorem dX12_ends_236 : decode cX12_ends 236 = .ok (.dup, 1) := by decide +kernel
theorem dX12_ends_237 : decode cX12_ends 237 = .ok (.getfield 142, 3) := by decide +kernel
theorem dX12_ends_240 : decode cX12_ends 240 = .ok (.iconst 1, 1) := by decide +kernel
theorem dX12_ends_241 : decode cX12_ends 241 = .ok (.iadd, 1) := by decide +kernel
theorem dX12_ends_242 : decode cX12_ends 242 = .ok (.putfield 142, 3) := by decide +kernel
theorem dX12_ends_245 : decode cX12_ends 245 = .ok (.iconst 0, 1) := by decide +kernel
theorem dX12_ends_246 : decode cX12_ends 246 = .ok (.istore 9, 2) := by decide +kernel
theorem dX12_ends_248 : decode cX12_ends 248 = .ok (.iload 9, 2) := by decide +kernel
theorem dX12_ends_250 : decode cX12_ends 250 = .ok (.iload 8, 2) := by decide +kernel
theorem dX12_ends_252 : decode cX12_ends 252 = .ok (.if_icmp .ge 48, 3) := by decide +kernel
theorem dX12_ends_255 : decode cX12_ends 255 = .ok (.aload_n 0, 1) := by decide +kernel
theorem dX12_ends_256 : decode cX12_ends 256 = .ok (.getfield 39, 3) := by decide +kernel
theorem dX12_ends_259 : decode cX12_ends 259 = .ok (.iload 9, 2) := by decide +kernel
theorem dX12_ends_261 : decode cX12_ends 261 = .ok (.iaload, 1) := by decide +kernel
theorem dX12_ends_262 : decode cX12_ends 262 = .ok (.iconst 2, 1) := by decide +kernel
theorem dX12_ends_263 : decode cX12_ends 263 = .ok (.if_icmp .eq 31, 3) := by decide +kernel
theorem dX12_ends_266 : decode cX12_ends 266 = .ok (.aload_n 0, 1) := by decide +kernel
theorem dX12_ends_267 : decode cX12_ends 267 = .ok (.iload 8, 2) := by decide +kernel
theorem dX12_ends_269 : decode cX12_ends 269 = .ok (.iload 9, 2) := by decide +kernel
theorem dX12_ends_271 : decode cX12_ends 271 = .ok (.invokevirtual 334, 3) := by decide +kernel
theorem dX12_ends_274 : decode cX12_ends 274 = .ok (.ifCond .eq 20, 3) := by decide +kernel
theorem dX12_ends_277 : decode cX12_ends 277 = .ok (.aload_n 0, 1) := by decide +kernel
theorem dX12_ends_278 : decode cX12_ends 278 = .ok (.getfield 39, 3) := by decide +kernel
theorem dX12_ends_281 : decode cX12_ends 281 = .ok (.iload 9, 2) := by decide +kernel
theorem dX12_ends_283 : decode cX12_ends 283 = .ok (.iconst 2, 1) := by decide +kernel
theorem dX12_ends_284 : decode cX12_ends 284 = .ok (.iastore, 1) := by decide +kernel
theorem dX12_ends_285 : decode cX12_ends 285 = .ok (.aload_n 0, 1) := by decide +kernel
theorem dX12_ends_286 : decode cX12_ends 286 = .ok (.getfield 42, 3) := by decide +kernel
theorem dX12_ends_289 : decode cX12_ends 289 = .ok (.iload 9, 2) := by decide +kernel
theorem dX12_ends_291 : decode cX12_ends 291 = .ok (.iload 8, 2) := by decide +kernel
theorem dX12_ends_293 : decode cX12_ends 293 = .ok (.iastore, 1) := by decide +kernel
theorem dX12_ends_294 : decode cX12_ends 294 = .ok (.iinc 9 1, 3) := by decide +kernel
theorem dX12_ends_297 : decode cX12_ends 297 = .ok (.goto (-49), 3) := by decide +kernel
theorem dX12_ends_300 : decode cX12_ends 300 = .ok (.aload_n 0, 1) := by decide +kernel
theorem dX12_ends_301 : decode cX12_ends 301 = .ok (.aload_n 0, 1) := by decide +kernel
theorem dX12_ends_302 : decode cX12_ends 302 = .ok (.getfield 167, 3) := by decide +kernel
theorem dX12_ends_305 : decode cX12_ends 305 = .ok (.ifCond .ne 7, 3) := by decide +kernel
theorem dX12_ends_308 : decode cX12_ends 308 = .ok (.iconst 1, 1) := by decide +kernel
theorem dX12_ends_309 : decode cX12_ends 309 = .ok (.goto 21, 3) := by decide +kernel
theorem dX12_ends_312 : decode cX12_ends 312 = .ok (.aload_n 0, 1) := by decide +kernel
theorem dX12_ends_313 : decode cX12_ends 313 = .ok (.getfield 142, 3) := by decide +kernel
theorem dX12_ends_316 : decode cX12_ends 316 = .ok (.sipush 150, 3) := by decide +kernel
theorem dX12_ends_319 : decode cX12_ends 319 = .ok (.if_icmp .ne 7, 3) := by decide +kernel
theorem dX12_ends_322 : decode cX12_ends 322 = .ok (.iconst 3, 1) := by decide +kernel
theorem dX12_ends_323 : decode cX12_ends 323 = .ok (.goto 7, 3) := by decide +kernel
theorem dX12_ends_326 : decode cX12_ends 326 = .ok (.aload_n 0, 1) := by decide +kernel
theorem dX12_ends_327 : decode cX12_ends 327 = .ok (.getfield 337, 3) := by decide +kernel
theorem dX12_ends_330 : decode cX12_ends 330 = .ok (.putfield 337, 3) := by decide +kernel
theorem dX12_ends_333 : decode cX12_ends 333 = .ok (.iload 8, 2) := by decide +kernel
theorem dX12_ends_335 : decode cX12_ends 335 = .ok (.ireturn, 1) := by decide +kernel
theorem dX12_reads_0 : decode cX12_reads 0 = .ok (.aload_n 0, 1) := by decide +kernel
theorem dX12_reads_1 : decode cX12_reads 1 = .ok (.iconst 0, 1) := by decide +kernel
theorem dX12_reads_2 : decode cX12_reads 2 = .ok (.putfield 167, 3) := by decide +kernel
theorem dX12_reads_5 : decode cX12_reads 5 = .ok (.iconst 0, 1) := by decide +kernel
theorem dX12_reads_6 : decode cX12_reads 6 = .ok (.istore_n 1, 1) := by decide +kernel
theorem dX12_reads_7 : decode cX12_reads 7 = .ok (.aload_n 0, 1) := by decide +kernel
theorem dX12_reads_8 : decode cX12_reads 8 = .ok (.iconst (-1), 1) := by decide +kernel
theorem dX12_reads_9 : decode cX12_reads 9 = .ok (.putfield 340, 3) := by decide +kernel
theorem dX12_reads_12 : decode cX12_reads 12 = .ok (.iload_n 1, 1) := by decide +kernel
theorem dX12_reads_13 : decode cX12_reads 13 = .ok (.aload_n 0, 1) := by decide +kernel
theorem dX12_reads_14 : decode cX12_reads 14 = .ok (.getfield 145, 3) := by decide +kernel
theorem dX12_reads_17 : decode cX12_reads 17 = .ok (.if_icmp .ge 311, 3) := by decide +kernel
theorem dX12_reads_20 : decode cX12_reads 20 = .ok (.aload_n 0, 1) := by decide +kernel
theorem dX12_reads_21 : decode cX12_reads 21 = .ok (.getfield 24, 3) := by decide +kernel
theorem dX12_reads_24 : decode cX12_reads 24 = .ok (.iload_n 1, 1) := by decide +kernel
theorem dX12_reads_25 : decode cX12_reads 25 = .ok (.iaload, 1) := by decide +kernel
theorem dX12_reads_26 : decode cX12_reads 26 = .ok (.sipush 2000, 3) := by decide +kernel
theorem dX12_reads_29 : decode cX12_reads 29 = .ok (.if_icmp .lt 16, 3) := by decide +kernel
theorem dX12_reads_32 : decode cX12_reads 32 = .ok (.aload_n 0, 1) := by decide +kernel
theorem dX12_reads_33 : decode cX12_reads 33 = .ok (.getfield 24, 3) := by decide +kernel
theorem dX12_reads_36 : decode cX12_reads 36 = .ok (.iload_n 1, 1) := by decide +kernel
theorem dX12_reads_37 : decode cX12_reads 37 = .ok (.iaload, 1) := by decide +kernel
theorem dX12_reads_38 : decode cX12_reads 38 = .ok (.sipush 2000, 3) := by decide +kernel
theorem dX12_reads_41 : decode cX12_reads 41 = .ok (.isub, 1) := by decide +kernel
theorem dX12_reads_42 : decode cX12_reads 42 = .ok (.goto 13, 3) := by decide +kernel
theorem dX12_reads_45 : decode cX12_reads 45 = .ok (.aload_n 0, 1) := by decide +kernel
theorem dX12_reads_46 : decode cX12_reads 46 = .ok (.getfield 24, 3) := by decide +kernel
theorem dX12_reads_49 : decode cX12_reads 49 = .ok (.iload_n 1, 1) := by decide +kernel
theorem dX12_reads_50 : decode cX12_reads 50 = .ok (.iaload, 1) := by decide +kernel
theorem dX12_reads_51 : decode cX12_reads 51 = .ok (.sipush 1000, 3) := by decide +kernel
theorem dX12_reads_54 : decode cX12_reads 54 = .ok (.isub, 1) := by decide +kernel
theorem dX12_reads_55 : decode cX12_reads 55 = .ok (.istore_n 2, 1) := by decide +kernel
theorem dX12_reads_56 : decode cX12_reads 56 = .ok (.aload_n 0, 1) := by decide +kernel
theorem dX12_reads_57 : decode cX12_reads 57 = .ok (.getfield 24, 3) := by decide +kernel
theorem dX12_reads_60 : decode cX12_reads 60 = .ok (.iload_n 1, 1) := by decide +kernel
theorem dX12_reads_61 : decode cX12_reads 61 = .ok (.iaload, 1) := by decide +kernel
theorem dX12_reads_62 : decode cX12_reads 62 = .ok (.sipush 1000, 3) := by decide +kernel
theorem dX12_reads_65 : decode cX12_reads 65 = .ok (.if_icmp .lt 35, 3) := by decide +kernel
theorem dX12_reads_68 : decode cX12_reads 68 = .ok (.iload_n 2, 1) := by decide +kernel
theorem dX12_reads_69 : decode cX12_reads 69 = .ok (.iconst 0, 1) := by decide +kernel
theorem dX12_reads_70 : decode cX12_reads 70 = .ok (.aload_n 0, 1) := by decide +kernel
theorem dX12_reads_71 : decode cX12_reads 71 = .ok (.getfield 7, 3) := by decide +kernel
theorem dX12_reads_74 : decode cX12_reads 74 = .ok (.iconst 1, 1) := by decide +kernel
theorem dX12_reads_75 : decode cX12_reads 75 = .ok (.isub, 1) := by decide +kernel
theorem dX12_reads_76 : decode cX12_reads 76 = .ok (.invokestatic 138, 3) := by decide +kernel
theorem dX12_reads_79 : decode cX12_reads 79 = .ok (.ifCond .eq 21, 3) := by decide +kernel
theorem dX12_reads_82 : decode cX12_reads 82 = .ok (.aload_n 0, 1) := by decide +kernel
theorem dX12_reads_83 : decode cX12_reads 83 = .ok (.getfield 13, 3) := by decide +kernel
theorem dX12_reads_86 : decode cX12_reads 86 = .ok (.iload_n 2, 1) := by decide +kernel
theorem dX12_reads_87 : decode cX12_reads 87 = .ok (.baload, 1) := by decide +kernel
theorem dX12_reads_88 : decode cX12_reads 88 = .ok (.ifCond .eq 12, 3) := by decide +kernel
theorem dX12_reads_91 : decode cX12_reads 91 = .ok (.aload_n 0, 1) := by decide +kernel
theorem dX12_reads_92 : decode cX12_reads 92 = .ok (.getfield 167, 3) := by decide +kernel
theorem dX12_reads_95 : decode cX12_reads 95 = .ok (.bipush 6, 2) := by decide +kernel
theorem dX12_reads_97 : decode cX12_reads 97 = .ok (.if_icmp .ne 10, 3) := by decide +kernel
theorem dX12_reads_100 : decode cX12_reads 100 = .ok (.aload_n 0, 1) := by decide +kernel
theorem dX12_reads_101 : decode cX12_reads 101 = .ok (.iload_n 1, 1) := by decide +kernel
theorem dX12_reads_102 : decode cX12_reads 102 = .ok (.putfield 340, 3) := by decide +kernel
theorem dX12_reads_105 : decode cX12_reads 105 = .ok (.iconst 0, 1) := by decide +kernel
theorem dX12_reads_106 : decode cX12_reads 106 = .ok (.ireturn, 1) := by decide +kernel
theorem dX12_reads_107 : decode cX12_reads 107 = .ok (.aload_n 0, 1) := by decide +kernel
theorem dX12_reads_108 : decode cX12_reads 108 = .ok (.getfield 69, 3) := by decide +kernel
theorem dX12_reads_111 : decode cX12_reads 111 = .ok (.bipush 30, 2) := by decide +kernel
theorem dX12_reads_113 : decode cX12_reads 113 = .ok (.aload_n 0, 1) := by decide +kernel
theorem dX12_reads_114 : decode cX12_reads 114 = .ok (.getfield 167, 3) := by decide +kernel
theorem dX12_reads_117 : decode cX12_reads 117 = .ok (.imul, 1) := by decide +kernel
theorem dX12_reads_118 : decode cX12_reads 118 = .ok (.iload_n 2, 1) := by decide +kernel
theorem dX12_reads_119 : decode cX12_reads 119 = .ok (.iastore, 1) := by decide +kernel
theorem dX12_reads_120 : decode cX12_reads 120 = .ok (.aload_n 0, 1) := by decide +kernel
theorem dX12_reads_121 : decode cX12_reads 121 = .ok (.getfield 75, 3) := by decide +kernel
theorem dX12_reads_124 : decode cX12_reads 124 = .ok (.aload_n 0, 1) := by decide +kernel
theorem dX12_reads_125 : decode cX12_reads 125 = .ok (.getfield 167, 3) := by decide +kernel
theorem dX12_reads_128 : decode cX12_reads 128 = .ok (.aload_n 0, 1) := by decide +kernel
theorem dX12_reads_129 : decode cX12_reads 129 = .ok (.getfield 24, 3) := by decide +kernel
theorem dX12_reads_132 : decode cX12_reads 132 = .ok (.iload_n 1, 1) := by decide +kernel
theorem dX12_reads_133 : decode cX12_reads 133 = .ok (.iaload, 1) := by decide +kernel
theorem dX12_reads_134 : decode cX12_reads 134 = .ok (.sipush 2000, 3) := by decide +kernel
theorem dX12_reads_137 : decode cX12_reads 137 = .ok (.if_icmp .lt 7, 3) := by decide +kernel
theorem dX12_reads_140 : decode cX12_reads 140 = .ok (.iconst 1, 1) := by decide +kernel
theorem dX12_reads_141 : decode cX12_reads 141 = .ok (.goto 4, 3) := by decide +kernel
theorem dX12_reads_144 : decode cX12_reads 144 = .ok (.iconst 0, 1) := by decide +kernel
theorem dX12_reads_145 : decode cX12_reads 145 = .ok (.bastore, 1) := by decide +kernel
theorem dX12_reads_146 : decode cX12_reads 146 = .ok (.iinc 1 1, 3) := by decide +kernel
theorem dX12_reads_149 : decode cX12_reads 149 = .ok (.iconst 1, 1) := by decide +kernel
theorem dX12_reads_150 : decode cX12_reads 150 = .ok (.istore_n 3, 1) := by decide +kernel
theorem dX12_reads_151 : decode cX12_reads 151 = .ok (.aload_n 0, 1) := by decide +kernel
theorem dX12_reads_152 : decode cX12_reads 152 = .ok (.getfield 17, 3) := by decide +kernel
theorem dX12_reads_155 : decode cX12_reads 155 = .ok (.iload_n 2, 1) := by decide +kernel
theorem dX12_reads_156 : decode cX12_reads 156 = .ok (.iaload, 1) := by decide +kernel
theorem dX12_reads_157 : decode cX12_reads 157 = .ok (.istore 4, 2) := by decide +kernel
theorem dX12_reads_159 : decode cX12_reads 159 = .ok (.iload 4, 2) := by decide +kernel
theorem dX12_reads_161 : decode cX12_reads 161 = .ok (.ifCond .le 144, 3) := by decide +kernel
theorem dX12_reads_164 : decode cX12_reads 164 = .ok (.iload_n 1, 1) := by decide +kernel
theorem dX12_reads_165 : decode cX12_reads 165 = .ok (.aload_n 0, 1) := by decide +kernel
theorem dX12_reads_166 : decode cX12_reads 166 = .ok (.getfield 145, 3) := by decide +kernel
theorem dX12_reads_169 : decode cX12_reads 169 = .ok (.if_icmp .ge 61, 3) := by decide +kernel
theorem dX12_reads_172 : decode cX12_reads 172 = .ok (.iload_n 3, 1) := by decide +kernel
theorem dX12_reads_173 : decode cX12_reads 173 = .ok (.bipush 30, 2) := by decide +kernel
theorem dX12_reads_175 : decode cX12_reads 175 = .ok (.if_icmp .ge 55, 3) := by decide +kernel
theorem dX12_reads_178 : decode cX12_reads 178 = .ok (.aload_n 0, 1) := by decide +kernel
theorem dX12_reads_179 : decode cX12_reads 179 = .ok (.getfield 24, 3) := by decide +kernel
theorem dX12_reads_182 : decode cX12_reads 182 = .ok (.iload_n 1, 1) := by decide +kernel
theorem dX12_reads_183 : decode cX12_reads 183 = .ok (.iaload, 1) := by decide +kernel
theorem dX12_reads_184 : decode cX12_reads 184 = .ok (.bipush (-20), 2) := by decide +kernel
theorem dX12_reads_186 : decode cX12_reads 186 = .ok (.iconst (-1), 1) := by decide +kernel
theorem dX12_reads_187 : decode cX12_reads 187 = .ok (.invokestatic 138, 3) := by decide +kernel
theorem dX12_reads_190 : decode cX12_reads 190 = .ok (.ifCond .ne 36, 3) := by decide +kernel
theorem dX12_reads_193 : decode cX12_reads 193 = .ok (.aload_n 0, 1) := by decide +kernel
theorem dX12_reads_194 : decode cX12_reads 194 = .ok (.getfield 24, 3) := by decide +kernel
theorem dX12_reads_197 : decode cX12_reads 197 = .ok (.iload_n 1, 1) := by decide +kernel
theorem dX12_reads_198 : decode cX12_reads 198 = .ok (.iaload, 1) := by decide +kernel
theorem dX12_reads_199 : decode cX12_reads 199 = .ok (.iconst 1, 1) := by decide +kernel
theorem dX12_reads_200 : decode cX12_reads 200 = .ok (.aload_n 0, 1) := by decide +kernel
theorem dX12_reads_201 : decode cX12_reads 201 = .ok (.getfield 7, 3) := by decide +kernel
theorem dX12_reads_204 : decode cX12_reads 204 = .ok (.iconst 1, 1) := by decide +kernel
theorem dX12_reads_205 : decode cX12_reads 205 = .ok (.isub, 1) := by decide +kernel
theorem dX12_reads_206 : decode cX12_reads 206 = .ok (.invokestatic 138, 3) := by decide +kernel
theorem dX12_reads_209 : decode cX12_reads 209 = .ok (.ifCond .eq 21, 3) := by decide +kernel
theorem dX12_reads_212 : decode cX12_reads 212 = .ok (.aload_n 0, 1) := by decide +kernel
theorem dX12_reads_213 : decode cX12_reads 213 = .ok (.getfield 13, 3) := by decide +kernel
theorem dX12_reads_216 : decode cX12_reads 216 = .ok (.aload_n 0, 1) := by decide +kernel
theorem dX12_reads_217 : decode cX12_reads 217 = .ok (.getfield 24, 3) := by decide +kernel
theorem dX12_reads_220 : decode cX12_reads 220 = .ok (.iload_n 1, 1) := by decide +kernel
theorem dX12_reads_221 : decode cX12_reads 221 = .ok (.iaload, 1) := by decide +kernel
theorem dX12_reads_222 : decode cX12_reads 222 = .ok (.baload, 1) := by decide +kernel
theorem dX12_reads_223 : decode cX12_reads 223 = .ok (.ifCond .ne 7, 3) := by decide +kernel
theorem dX12_reads_226 : decode cX12_reads 226 = .ok (.iconst 1, 1) := by decide +kernel
theorem dX12_reads_227 : decode cX12_reads 227 = .ok (.goto 4, 3) := by decide +kernel
theorem dX12_reads_230 : decode cX12_reads 230 = .ok (.iconst 0, 1) := by decide +kernel
theorem dX12_reads_231 : decode cX12_reads 231 = .ok (.istore 5, 2) := by decide +kernel
theorem dX12_reads_233 : decode cX12_reads 233 = .ok (.iload 5, 2) := by decide +kernel
theorem dX12_reads_235 : decode cX12_reads 235 = .ok (.ifCond .ne 10, 3) := by decide +kernel
theorem dX12_reads_238 : decode cX12_reads 238 = .ok (.aload_n 0, 1) := by decide +kernel
theorem dX12_reads_239 : decode cX12_reads 239 = .ok (.iload_n 1, 1) := by decide +kernel
theorem dX12_reads_240 : decode cX12_reads 240 = .ok (.putfield 340, 3) := by decide +kernel
theorem dX12_reads_243 : decode cX12_reads 243 = .ok (.iconst 0, 1) := by decide +kernel
theorem dX12_reads_244 : decode cX12_reads 244 = .ok (.ireturn, 1) := by decide +kernel
theorem dX12_reads_245 : decode cX12_reads 245 = .ok (.aload_n 0, 1) := by decide +kernel
theorem dX12_reads_246 : decode cX12_reads 246 = .ok (.getfield 69, 3) := by decide +kernel
theorem dX12_reads_249 : decode cX12_reads 249 = .ok (.bipush 30, 2) := by decide +kernel
theorem dX12_reads_251 : decode cX12_reads 251 = .ok (.aload_n 0, 1) := by decide +kernel
theorem dX12_reads_252 : decode cX12_reads 252 = .ok (.getfield 167, 3) := by decide +kernel
theorem dX12_reads_255 : decode cX12_reads 255 = .ok (.imul, 1) := by decide +kernel
theorem dX12_reads_256 : decode cX12_reads 256 = .ok (.iload_n 3, 1) := by decide +kernel
theorem dX12_reads_257 : decode cX12_reads 257 = .ok (.iadd, 1) := by decide +kernel
theorem dX12_reads_258 : decode cX12_reads 258 = .ok (.aload_n 0, 1) := by decide +kernel
theorem dX12_reads_259 : decode cX12_reads 259 = .ok (.getfield 24, 3) := by decide +kernel
theorem dX12_reads_262 : decode cX12_reads 262 = .ok (.iload_n 1, 1) := by decide +kernel
theorem dX12_reads_263 : decode cX12_reads 263 = .ok (.iaload, 1) := by decide +kernel
theorem dX12_reads_264 : decode cX12_reads 264 = .ok (.iastore, 1) := by decide +kernel
theorem dX12_reads_265 : decode cX12_reads 265 = .ok (.iload 4, 2) := by decide +kernel
theorem dX12_reads_267 : decode cX12_reads 267 = .ok (.aload_n 0, 1) := by decide +kernel
theorem dX12_reads_268 : decode cX12_reads 268 = .ok (.getfield 24, 3) := by decide +kernel
theorem dX12_reads_271 : decode cX12_reads 271 = .ok (.iload_n 1, 1) := by decide +kernel
theorem dX12_reads_272 : decode cX12_reads 272 = .ok (.iaload, 1) := by decide +kernel
theorem dX12_reads_273 : decode cX12_reads 273 = .ok (.ifCond .ge 7, 3) := by decide +kernel
theorem dX12_reads_276 : decode cX12_reads 276 = .ok (.iconst (-1), 1) := by decide +kernel
theorem dX12_reads_277 : decode cX12_reads 277 = .ok (.goto 16, 3) := by decide +kernel
theorem dX12_reads_280 : decode cX12_reads 280 = .ok (.aload_n 0, 1) := by decide +kernel
theorem dX12_reads_281 : decode cX12_reads 281 = .ok (.getfield 17, 3) := by decide +kernel
theorem dX12_reads_284 : decode cX12_reads 284 = .ok (.aload_n 0, 1) := by decide +kernel
theorem dX12_reads_285 : decode cX12_reads 285 = .ok (.getfield 24, 3) := by decide +kernel
theorem dX12_reads_288 : decode cX12_reads 288 = .ok (.iload_n 1, 1) := by decide +kernel
theorem dX12_reads_289 : decode cX12_reads 289 = .ok (.iaload, 1) := by decide +kernel
theorem dX12_reads_290 : decode cX12_reads 290 = .ok (.iaload, 1) := by decide +kernel
theorem dX12_reads_291 : decode cX12_reads 291 = .ok (.iconst 1, 1) := by decide +kernel
theorem dX12_reads_292 : decode cX12_reads 292 = .ok (.isub, 1) := by decide +kernel
theorem dX12_reads_293 : decode cX12_reads 293 = .ok (.iadd, 1) := by decide +kernel
theorem dX12_reads_294 : decode cX12_reads 294 = .ok (.istore 4, 2) := by decide +kernel
theorem dX12_reads_296 : decode cX12_reads 296 = .ok (.iinc 3 1, 3) := by decide +kernel
theorem dX12_reads_299 : decode cX12_reads 299 = .ok (.iinc 1 1, 3) := by decide +kernel
theorem dX12_reads_302 : decode cX12_reads 302 = .ok (.goto (-143), 3) := by decide +kernel
theorem dX12_reads_305 : decode cX12_reads 305 = .ok (.aload_n 0, 1) := by decide +kernel
theorem dX12_reads_306 : decode cX12_reads 306 = .ok (.getfield 72, 3) := by decide +kernel
theorem dX12_reads_309 : decode cX12_reads 309 = .ok (.aload_n 0, 1) := by decide +kernel
theorem dX12_reads_310 : decode cX12_reads 310 = .ok (.getfield 167, 3) := by decide +kernel
theorem dX12_reads_313 : decode cX12_reads 313 = .ok (.iload_n 3, 1) := by decide +kernel
theorem dX12_reads_314 : decode cX12_reads 314 = .ok (.iastore, 1) := by decide +kernel
theorem dX12_reads_315 : decode cX12_reads 315 = .ok (.aload_n 0, 1) := by decide +kernel
theorem dX12_reads_316 : decode cX12_reads 316 = .ok (.dup, 1) := by decide +kernel
theorem dX12_reads_317 : decode cX12_reads 317 = .ok (.getfield 167, 3) := by decide +kernel
theorem dX12_reads_320 : decode cX12_reads 320 = .ok (.iconst 1, 1) := by decide +kernel
theorem dX12_reads_321 : decode cX12_reads 321 = .ok (.iadd, 1) := by decide +kernel
theorem dX12_reads_322 : decode cX12_reads 322 = .ok (.putfield 167, 3) := by decide +kernel
theorem dX12_reads_325 : decode cX12_reads 325 = .ok (.goto (-313), 3) := by decide +kernel
theorem dX12_reads_328 : decode cX12_reads 328 = .ok (.iconst 1, 1) := by decide +kernel
theorem dX12_reads_329 : decode cX12_reads 329 = .ok (.ireturn, 1) := by decide +kernel
theorem dX12_given_0 : decode cX12_given 0 = .ok (.aload_n 0, 1) := by decide +kernel
theorem dX12_given_1 : decode cX12_given 1 = .ok (.getfield 337, 3) := by decide +kernel
theorem dX12_given_4 : decode cX12_given 4 = .ok (.ifCond .eq 6, 3) := by decide +kernel
theorem dX12_given_7 : decode cX12_given 7 = .ok (.bipush (-3), 2) := by decide +kernel
theorem dX12_given_9 : decode cX12_given 9 = .ok (.ireturn, 1) := by decide +kernel
theorem dX12_given_10 : decode cX12_given 10 = .ok (.aload_n 0, 1) := by decide +kernel
theorem dX12_given_11 : decode cX12_given 11 = .ok (.getfield 142, 3) := by decide +kernel
theorem dX12_given_14 : decode cX12_given 14 = .ok (.sipush 150, 3) := by decide +kernel
theorem dX12_given_17 : decode cX12_given 17 = .ok (.if_icmp .ne 6, 3) := by decide +kernel
theorem dX12_given_20 : decode cX12_given 20 = .ok (.bipush (-4), 2) := by decide +kernel
theorem dX12_given_22 : decode cX12_given 22 = .ok (.ireturn, 1) := by decide +kernel
theorem dX12_given_23 : decode cX12_given 23 = .ok (.aload_n 0, 1) := by decide +kernel
theorem dX12_given_24 : decode cX12_given 24 = .ok (.invokevirtual 343, 3) := by decide +kernel
theorem dX12_given_27 : decode cX12_given 27 = .ok (.istore_n 1, 1) := by decide +kernel
theorem dX12_given_28 : decode cX12_given 28 = .ok (.aload_n 0, 1) := by decide +kernel
theorem dX12_given_29 : decode cX12_given 29 = .ok (.iconst 0, 1) := by decide +kernel
theorem dX12_given_30 : decode cX12_given 30 = .ok (.putfield 145, 3) := by decide +kernel
theorem dX12_given_33 : decode cX12_given 33 = .ok (.iload_n 1, 1) := by decide +kernel
theorem dX12_given_34 : decode cX12_given 34 = .ok (.ifCond .ne 11, 3) := by decide +kernel
theorem dX12_given_37 : decode cX12_given 37 = .ok (.bipush (-100), 2) := by decide +kernel
theorem dX12_given_39 : decode cX12_given 39 = .ok (.aload_n 0, 1) := by decide +kernel
theorem dX12_given_40 : decode cX12_given 40 = .ok (.getfield 340, 3) := by decide +kernel
theorem dX12_given_43 : decode cX12_given 43 = .ok (.isub, 1) := by decide +kernel
theorem dX12_given_44 : decode cX12_given 44 = .ok (.ireturn, 1) := by decide +kernel
theorem dX12_given_45 : decode cX12_given 45 = .ok (.aload_n 0, 1) := by decide +kernel
theorem dX12_given_46 : decode cX12_given 46 = .ok (.getfield 57, 3) := by decide +kernel
theorem dX12_given_49 : decode cX12_given 49 = .ok (.aload_n 0, 1) := by decide +kernel
theorem dX12_given_50 : decode cX12_given 50 = .ok (.getfield 142, 3) := by decide +kernel
theorem dX12_given_53 : decode cX12_given 53 = .ok (.aload_n 0, 1) := by decide +kernel
theorem dX12_given_54 : decode cX12_given 54 = .ok (.getfield 167, 3) := by decide +kernel
theorem dX12_given_57 : decode cX12_given 57 = .ok (.iastore, 1) := by decide +kernel
theorem dX12_given_58 : decode cX12_given 58 = .ok (.iconst 0, 1) := by decide +kernel
theorem dX12_given_59 : decode cX12_given 59 = .ok (.istore_n 2, 1) := by decide +kernel
theorem dX12_given_60 : decode cX12_given 60 = .ok (.iload_n 2, 1) := by decide +kernel
theorem dX12_given_61 : decode cX12_given 61 = .ok (.aload_n 0, 1) := by decide +kernel
theorem dX12_given_62 : decode cX12_given 62 = .ok (.getfield 167, 3) := by decide +kernel
theorem dX12_given_65 : decode cX12_given 65 = .ok (.if_icmp .ge 97, 3) := by decide +kernel
theorem dX12_given_68 : decode cX12_given 68 = .ok (.aload_n 0, 1) := by decide +kernel
theorem dX12_given_69 : decode cX12_given 69 = .ok (.getfield 51, 3) := by decide +kernel
theorem dX12_given_72 : decode cX12_given 72 = .ok (.bipush 6, 2) := by decide +kernel
theorem dX12_given_74 : decode cX12_given 74 = .ok (.aload_n 0, 1) := by decide +kernel
theorem dX12_given_75 : decode cX12_given 75 = .ok (.getfield 142, 3) := by decide +kernel
theorem dX12_given_78 : decode cX12_given 78 = .ok (.imul, 1) := by decide +kernel
theorem dX12_given_79 : decode cX12_given 79 = .ok (.iload_n 2, 1) := by decide +kernel
theorem dX12_given_80 : decode cX12_given 80 = .ok (.iadd, 1) := by decide +kernel
theorem dX12_given_81 : decode cX12_given 81 = .ok (.aload_n 0, 1) := by decide +kernel
theorem dX12_given_82 : decode cX12_given 82 = .ok (.getfield 72, 3) := by decide +kernel
theorem dX12_given_85 : decode cX12_given 85 = .ok (.iload_n 2, 1) := by decide +kernel
theorem dX12_given_86 : decode cX12_given 86 = .ok (.iaload, 1) := by decide +kernel
theorem dX12_given_87 : decode cX12_given 87 = .ok (.iastore, 1) := by decide +kernel
theorem dX12_given_88 : decode cX12_given 88 = .ok (.aload_n 0, 1) := by decide +kernel
theorem dX12_given_89 : decode cX12_given 89 = .ok (.getfield 54, 3) := by decide +kernel
theorem dX12_given_92 : decode cX12_given 92 = .ok (.bipush 6, 2) := by decide +kernel
theorem dX12_given_94 : decode cX12_given 94 = .ok (.aload_n 0, 1) := by decide +kernel
theorem dX12_given_95 : decode cX12_given 95 = .ok (.getfield 142, 3) := by decide +kernel
theorem dX12_given_98 : decode cX12_given 98 = .ok (.imul, 1) := by decide +kernel
theorem dX12_given_99 : decode cX12_given 99 = .ok (.iload_n 2, 1) := by decide +kernel
theorem dX12_given_100 : decode cX12_given 100 = .ok (.iadd, 1) := by decide +kernel
theorem dX12_given_101 : decode cX12_given 101 = .ok (.aload_n 0, 1) := by decide +kernel
theorem dX12_given_102 : decode cX12_given 102 = .ok (.getfield 75, 3) := by decide +kernel
theorem dX12_given_105 : decode cX12_given 105 = .ok (.iload_n 2, 1) := by decide +kernel
theorem dX12_given_106 : decode cX12_given 106 = .ok (.baload, 1) := by decide +kernel
theorem dX12_given_107 : decode cX12_given 107 = .ok (.bastore, 1) := by decide +kernel
theorem dX12_given_108 : decode cX12_given 108 = .ok (.iconst 0, 1) := by decide +kernel
theorem dX12_given_109 : decode cX12_given 109 = .ok (.istore_n 3, 1) := by decide +kernel
theorem dX12_given_110 : decode cX12_given 110 = .ok (.iload_n 3, 1) := by decide +kernel
theorem dX12_given_111 : decode cX12_given 111 = .ok (.aload_n 0, 1) := by decide +kernel
theorem dX12_given_112 : decode cX12_given 112 = .ok (.getfield 72, 3) := by decide +kernel
theorem dX12_given_115 : decode cX12_given 115 = .ok (.iload_n 2, 1) := by decide +kernel
theorem dX12_given_116 : decode cX12_given 116 = .ok (.iaload, 1) := by decide +kernel
theorem dX12_given_117 : decode cX12_given 117 = .ok (.if_icmp .ge 39, 3) := by decide +kernel
theorem dX12_given_120 : decode cX12_given 120 = .ok (.aload_n 0, 1) := by decide +kernel
theorem dX12_given_121 : decode cX12_given 121 = .ok (.getfield 48, 3) := by decide +kernel
theorem dX12_given_124 : decode cX12_given 124 = .ok (.bipush 30, 2) := by decide +kernel
theorem dX12_given_126 : decode cX12_given 126 = .ok (.bipush 6, 2) := by decide +kernel
theorem dX12_given_128 : decode cX12_given 128 = .ok (.aload_n 0, 1) := by decide +kernel
theorem dX12_given_129 : decode cX12_given 129 = .ok (.getfield 142, 3) := by decide +kernel
theorem dX12_given_132 : decode cX12_given 132 = .ok (.imul, 1) := by decide +kernel
theorem dX12_given_133 : decode cX12_given 133 = .ok (.iload_n 2, 1) := by decide +kernel
theorem dX12_given_134 : decode cX12_given 134 = .ok (.iadd, 1) := by decide +kernel
theorem dX12_given_135 : decode cX12_given 135 = .ok (.imul, 1) := by decide +kernel
theorem dX12_given_136 : decode cX12_given 136 = .ok (.iload_n 3, 1) := by decide +kernel
theorem dX12_given_137 : decode cX12_given 137 = .ok (.iadd, 1) := by decide +kernel
theorem dX12_given_138 : decode cX12_given 138 = .ok (.aload_n 0, 1) := by decide +kernel
theorem dX12_given_139 : decode cX12_given 139 = .ok (.getfield 69, 3) := by decide +kernel
theorem dX12_given_142 : decode cX12_given 142 = .ok (.bipush 30, 2) := by decide +kernel
theorem dX12_given_144 : decode cX12_given 144 = .ok (.iload_n 2, 1) := by decide +kernel
theorem dX12_given_145 : decode cX12_given 145 = .ok (.imul, 1) := by decide +kernel
theorem dX12_given_146 : decode cX12_given 146 = .ok (.iload_n 3, 1) := by decide +kernel
theorem dX12_given_147 : decode cX12_given 147 = .ok (.iadd, 1) := by decide +kernel
theorem dX12_given_148 : decode cX12_given 148 = .ok (.iaload, 1) := by decide +kernel
theorem dX12_given_149 : decode cX12_given 149 = .ok (.iastore, 1) := by decide +kernel
theorem dX12_given_150 : decode cX12_given 150 = .ok (.iinc 3 1, 3) := by decide +kernel
theorem dX12_given_153 : decode cX12_given 153 = .ok (.goto (-43), 3) := by decide +kernel
theorem dX12_given_156 : decode cX12_given 156 = .ok (.iinc 2 1, 3) := by decide +kernel
theorem dX12_given_159 : decode cX12_given 159 = .ok (.goto (-99), 3) := by decide +kernel
theorem dX12_given_162 : decode cX12_given 162 = .ok (.aload_n 0, 1) := by decide +kernel
theorem dX12_given_163 : decode cX12_given 163 = .ok (.iconst 0, 1) := by decide +kernel
theorem dX12_given_164 : decode cX12_given 164 = .ok (.iconst 0, 1) := by decide +kernel
theorem dX12_given_165 : decode cX12_given 165 = .ok (.iconst 0, 1) := by decide +kernel
theorem dX12_given_166 : decode cX12_given 166 = .ok (.iconst 0, 1) := by decide +kernel
theorem dX12_given_167 : decode cX12_given 167 = .ok (.iconst 0, 1) := by decide +kernel
theorem dX12_given_168 : decode cX12_given 168 = .ok (.iconst 0, 1) := by decide +kernel
theorem dX12_given_169 : decode cX12_given 169 = .ok (.iconst 0, 1) := by decide +kernel
theorem dX12_given_170 : decode cX12_given 170 = .ok (.invokevirtual 346, 3) := by decide +kernel
theorem dX12_given_173 : decode cX12_given 173 = .ok (.ireturn, 1) := by decide +kernel
theorem dX12_turns_0 : decode cX12_turns 0 = .ok (.iload_n 1, 1) := by decide +kernel
theorem dX12_turns_1 : decode cX12_turns 1 = .ok (.iconst 0, 1) := by decide +kernel
theorem dX12_turns_2 : decode cX12_turns 2 = .ok (.bipush 20, 2) := by decide +kernel
theorem dX12_turns_4 : decode cX12_turns 4 = .ok (.invokestatic 138, 3) := by decide +kernel
theorem dX12_turns_7 : decode cX12_turns 7 = .ok (.ifCond .ne 6, 3) := by decide +kernel
theorem dX12_turns_10 : decode cX12_turns 10 = .ok (.bipush (-2), 2) := by decide +kernel
theorem dX12_turns_12 : decode cX12_turns 12 = .ok (.ireturn, 1) := by decide +kernel
theorem dX12_turns_13 : decode cX12_turns 13 = .ok (.aload_n 0, 1) := by decide +kernel
theorem dX12_turns_14 : decode cX12_turns 14 = .ok (.getfield 129, 3) := by decide +kernel
theorem dX12_turns_17 : decode cX12_turns 17 = .ok (.istore_n 2, 1) := by decide +kernel
theorem dX12_turns_18 : decode cX12_turns 18 = .ok (.aload_n 0, 1) := by decide +kernel
theorem dX12_turns_19 : decode cX12_turns 19 = .ok (.iload_n 1, 1) := by decide +kernel
theorem dX12_turns_20 : decode cX12_turns 20 = .ok (.putfield 129, 3) := by decide +kernel
theorem dX12_turns_23 : decode cX12_turns 23 = .ok (.iload_n 2, 1) := by decide +kernel
theorem dX12_turns_24 : decode cX12_turns 24 = .ok (.ireturn, 1) := by decide +kernel
theorem dX12_fuel_0 : decode cX12_fuel 0 = .ok (.iload_n 1, 1) := by decide +kernel
theorem dX12_fuel_1 : decode cX12_fuel 1 = .ok (.iconst 0, 1) := by decide +kernel
theorem dX12_fuel_2 : decode cX12_fuel 2 = .ok (.sipush 4000, 3) := by decide +kernel
theorem dX12_fuel_5 : decode cX12_fuel 5 = .ok (.invokestatic 138, 3) := by decide +kernel
theorem dX12_fuel_8 : decode cX12_fuel 8 = .ok (.ifCond .ne 6, 3) := by decide +kernel
theorem dX12_fuel_11 : decode cX12_fuel 11 = .ok (.bipush (-2), 2) := by decide +kernel
theorem dX12_fuel_13 : decode cX12_fuel 13 = .ok (.ireturn, 1) := by decide +kernel
theorem dX12_fuel_14 : decode cX12_fuel 14 = .ok (.aload_n 0, 1) := by decide +kernel
theorem dX12_fuel_15 : decode cX12_fuel 15 = .ok (.getfield 132, 3) := by decide +kernel
theorem dX12_fuel_18 : decode cX12_fuel 18 = .ok (.istore_n 2, 1) := by decide +kernel
theorem dX12_fuel_19 : decode cX12_fuel 19 = .ok (.aload_n 0, 1) := by decide +kernel
theorem dX12_fuel_20 : decode cX12_fuel 20 = .ok (.iload_n 1, 1) := by decide +kernel
theorem dX12_fuel_21 : decode cX12_fuel 21 = .ok (.putfield 132, 3) := by decide +kernel
theorem dX12_fuel_24 : decode cX12_fuel 24 = .ok (.iload_n 2, 1) := by decide +kernel
theorem dX12_fuel_25 : decode cX12_fuel 25 = .ok (.ireturn, 1) := by decide +kernel
theorem dX12_tries_0 : decode cX12_tries 0 = .ok (.aload_n 0, 1) := by decide +kernel
theorem dX12_tries_1 : decode cX12_tries 1 = .ok (.iload_n 1, 1) := by decide +kernel
theorem dX12_tries_2 : decode cX12_tries 2 = .ok (.iload_n 2, 1) := by decide +kernel
theorem dX12_tries_3 : decode cX12_tries 3 = .ok (.iload_n 3, 1) := by decide +kernel
theorem dX12_tries_4 : decode cX12_tries 4 = .ok (.iload 4, 2) := by decide +kernel
theorem dX12_tries_6 : decode cX12_tries 6 = .ok (.iload 5, 2) := by decide +kernel
theorem dX12_tries_8 : decode cX12_tries 8 = .ok (.iload 6, 2) := by decide +kernel
theorem dX12_tries_10 : decode cX12_tries 10 = .ok (.iload 7, 2) := by decide +kernel
theorem dX12_tries_12 : decode cX12_tries 12 = .ok (.invokevirtual 350, 3) := by decide +kernel
theorem dX12_tries_15 : decode cX12_tries 15 = .ok (.istore 8, 2) := by decide +kernel
theorem dX12_tries_17 : decode cX12_tries 17 = .ok (.iload 8, 2) := by decide +kernel
theorem dX12_tries_19 : decode cX12_tries 19 = .ok (.ifCond .ge 4, 3) := by decide +kernel
theorem dX12_tries_22 : decode cX12_tries 22 = .ok (.return_, 1) := by decide +kernel
theorem dX12_tries_23 : decode cX12_tries 23 = .ok (.aload_n 0, 1) := by decide +kernel
theorem dX12_tries_24 : decode cX12_tries 24 = .ok (.getfield 353, 3) := by decide +kernel
theorem dX12_tries_27 : decode cX12_tries 27 = .ok (.aload_n 0, 1) := by decide +kernel
theorem dX12_tries_28 : decode cX12_tries 28 = .ok (.getfield 246, 3) := by decide +kernel
theorem dX12_tries_31 : decode cX12_tries 31 = .ok (.iadd, 1) := by decide +kernel
theorem dX12_tries_32 : decode cX12_tries 32 = .ok (.aload_n 0, 1) := by decide +kernel
theorem dX12_tries_33 : decode cX12_tries 33 = .ok (.getfield 132, 3) := by decide +kernel
theorem dX12_tries_36 : decode cX12_tries 36 = .ok (.if_icmp .lt 9, 3) := by decide +kernel
theorem dX12_tries_39 : decode cX12_tries 39 = .ok (.aload_n 0, 1) := by decide +kernel
theorem dX12_tries_40 : decode cX12_tries 40 = .ok (.iconst 3, 1) := by decide +kernel
theorem dX12_tries_41 : decode cX12_tries 41 = .ok (.putfield 337, 3) := by decide +kernel
theorem dX12_tries_44 : decode cX12_tries 44 = .ok (.return_, 1) := by decide +kernel
theorem dX12_tries_45 : decode cX12_tries 45 = .ok (.aload_n 0, 1) := by decide +kernel
theorem dX12_tries_46 : decode cX12_tries 46 = .ok (.dup, 1) := by decide +kernel
theorem dX12_tries_47 : decode cX12_tries 47 = .ok (.getfield 353, 3) := by decide +kernel
theorem dX12_tries_50 : decode cX12_tries 50 = .ok (.iconst 1, 1) := by decide +kernel
theorem dX12_tries_51 : decode cX12_tries 51 = .ok (.iadd, 1) := by decide +kernel
theorem dX12_tries_52 : decode cX12_tries 52 = .ok (.putfield 353, 3) := by decide +kernel
theorem dX12_tries_55 : decode cX12_tries 55 = .ok (.iload 8, 2) := by decide +kernel
theorem dX12_tries_57 : decode cX12_tries 57 = .ok (.ifCond .ne 14, 3) := by decide +kernel
theorem dX12_tries_60 : decode cX12_tries 60 = .ok (.aload_n 0, 1) := by decide +kernel
theorem dX12_tries_61 : decode cX12_tries 61 = .ok (.dup, 1) := by decide +kernel
theorem dX12_tries_62 : decode cX12_tries 62 = .ok (.getfield 319, 3) := by decide +kernel
theorem dX12_tries_65 : decode cX12_tries 65 = .ok (.iconst 1, 1) := by decide +kernel
theorem dX12_tries_66 : decode cX12_tries 66 = .ok (.iadd, 1) := by decide +kernel
theorem dX12_tries_67 : decode cX12_tries 67 = .ok (.putfield 319, 3) := by decide +kernel
theorem dX12_tries_70 : decode cX12_tries 70 = .ok (.return_, 1) := by decide +kernel
theorem dX12_tries_71 : decode cX12_tries 71 = .ok (.aload_n 0, 1) := by decide +kernel
theorem dX12_tries_72 : decode cX12_tries 72 = .ok (.iload_n 1, 1) := by decide +kernel
theorem dX12_tries_73 : decode cX12_tries 73 = .ok (.iload_n 2, 1) := by decide +kernel
theorem dX12_tries_74 : decode cX12_tries 74 = .ok (.iload_n 3, 1) := by decide +kernel
theorem dX12_tries_75 : decode cX12_tries 75 = .ok (.iload 4, 2) := by decide +kernel
theorem dX12_tries_77 : decode cX12_tries 77 = .ok (.iload 5, 2) := by decide +kernel
theorem dX12_tries_79 : decode cX12_tries 79 = .ok (.iload 6, 2) := by decide +kernel
theorem dX12_tries_81 : decode cX12_tries 81 = .ok (.iload 7, 2) := by decide +kernel
theorem dX12_tries_83 : decode cX12_tries 83 = .ok (.invokevirtual 346, 3) := by decide +kernel
theorem dX12_tries_86 : decode cX12_tries 86 = .ok (.istore 9, 2) := by decide +kernel
theorem dX12_tries_88 : decode cX12_tries 88 = .ok (.return_, 1) := by decide +kernel
theorem dX12_goesOn_0 : decode cX12_goesOn 0 = .ok (.aload_n 0, 1) := by decide +kernel
theorem dX12_goesOn_1 : decode cX12_goesOn 1 = .ok (.getfield 337, 3) := by decide +kernel
theorem dX12_goesOn_4 : decode cX12_goesOn 4 = .ok (.ifCond .ne 27, 3) := by decide +kernel
theorem dX12_goesOn_7 : decode cX12_goesOn 7 = .ok (.aload_n 0, 1) := by decide +kernel
theorem dX12_goesOn_8 : decode cX12_goesOn 8 = .ok (.getfield 39, 3) := by decide +kernel
theorem dX12_goesOn_11 : decode cX12_goesOn 11 = .ok (.iload_n 1, 1) := by decide +kernel
theorem dX12_goesOn_12 : decode cX12_goesOn 12 = .ok (.iaload, 1) := by decide +kernel
theorem dX12_goesOn_13 : decode cX12_goesOn 13 = .ok (.iconst 2, 1) := by decide +kernel
theorem dX12_goesOn_14 : decode cX12_goesOn 14 = .ok (.if_icmp .eq 17, 3) := by decide +kernel
theorem dX12_goesOn_17 : decode cX12_goesOn 17 = .ok (.aload_n 0, 1) := by decide +kernel
theorem dX12_goesOn_18 : decode cX12_goesOn 18 = .ok (.getfield 39, 3) := by decide +kernel
theorem dX12_goesOn_21 : decode cX12_goesOn 21 = .ok (.iload_n 2, 1) := by decide +kernel
theorem dX12_goesOn_22 : decode cX12_goesOn 22 = .ok (.iaload, 1) := by decide +kernel
theorem dX12_goesOn_23 : decode cX12_goesOn 23 = .ok (.iconst 2, 1) := by decide +kernel
theorem dX12_goesOn_24 : decode cX12_goesOn 24 = .ok (.if_icmp .eq 7, 3) := by decide +kernel
theorem dX12_goesOn_27 : decode cX12_goesOn 27 = .ok (.iconst 1, 1) := by decide +kernel
theorem dX12_goesOn_28 : decode cX12_goesOn 28 = .ok (.goto 4, 3) := by decide +kernel
theorem dX12_goesOn_31 : decode cX12_goesOn 31 = .ok (.iconst 0, 1) := by decide +kernel
theorem dX12_goesOn_32 : decode cX12_goesOn 32 = .ok (.ireturn, 1) := by decide +kernel
theorem dX12_clashes_0 : decode cX12_clashes 0 = .ok (.iconst 0, 1) := by decide +kernel
theorem dX12_clashes_1 : decode cX12_clashes 1 = .ok (.istore 5, 2) := by decide +kernel
theorem dX12_clashes_3 : decode cX12_clashes 3 = .ok (.iload 5, 2) := by decide +kernel
theorem dX12_clashes_5 : decode cX12_clashes 5 = .ok (.aload_n 0, 1) := by decide +kernel
theorem dX12_clashes_6 : decode cX12_clashes 6 = .ok (.getfield 36, 3) := by decide +kernel
theorem dX12_clashes_9 : decode cX12_clashes 9 = .ok (.iload_n 1, 1) := by decide +kernel
theorem dX12_clashes_10 : decode cX12_clashes 10 = .ok (.iaload, 1) := by decide +kernel
theorem dX12_clashes_11 : decode cX12_clashes 11 = .ok (.if_icmp .ge 31, 3) := by decide +kernel
theorem dX12_clashes_14 : decode cX12_clashes 14 = .ok (.aload_n 0, 1) := by decide +kernel
theorem dX12_clashes_15 : decode cX12_clashes 15 = .ok (.iload_n 3, 1) := by decide +kernel
theorem dX12_clashes_16 : decode cX12_clashes 16 = .ok (.iload 4, 2) := by decide +kernel
theorem dX12_clashes_18 : decode cX12_clashes 18 = .ok (.invokevirtual 356, 3) := by decide +kernel
theorem dX12_clashes_21 : decode cX12_clashes 21 = .ok (.ifCond .eq 21, 3) := by decide +kernel
theorem dX12_clashes_24 : decode cX12_clashes 24 = .ok (.aload_n 0, 1) := by decide +kernel
theorem dX12_clashes_25 : decode cX12_clashes 25 = .ok (.iconst 1, 1) := by decide +kernel
theorem dX12_clashes_26 : decode cX12_clashes 26 = .ok (.iload_n 1, 1) := by decide +kernel
theorem dX12_clashes_27 : decode cX12_clashes 27 = .ok (.iload 5, 2) := by decide +kernel
theorem dX12_clashes_29 : decode cX12_clashes 29 = .ok (.iload_n 2, 1) := by decide +kernel
theorem dX12_clashes_30 : decode cX12_clashes 30 = .ok (.iconst 0, 1) := by decide +kernel
theorem dX12_clashes_31 : decode cX12_clashes 31 = .ok (.iconst 0, 1) := by decide +kernel
theorem dX12_clashes_32 : decode cX12_clashes 32 = .ok (.iconst 0, 1) := by decide +kernel
theorem dX12_clashes_33 : decode cX12_clashes 33 = .ok (.invokevirtual 359, 3) := by decide +kernel
theorem dX12_clashes_36 : decode cX12_clashes 36 = .ok (.iinc 5 1, 3) := by decide +kernel
theorem dX12_clashes_39 : decode cX12_clashes 39 = .ok (.goto (-36), 3) := by decide +kernel
theorem dX12_clashes_42 : decode cX12_clashes 42 = .ok (.return_, 1) := by decide +kernel
theorem dX12_allTurns_0 : decode cX12_allTurns 0 = .ok (.iconst 0, 1) := by decide +kernel
theorem dX12_allTurns_1 : decode cX12_allTurns 1 = .ok (.istore 5, 2) := by decide +kernel
theorem dX12_allTurns_3 : decode cX12_allTurns 3 = .ok (.iload 5, 2) := by decide +kernel
theorem dX12_allTurns_5 : decode cX12_allTurns 5 = .ok (.aload_n 0, 1) := by decide +kernel
theorem dX12_allTurns_6 : decode cX12_allTurns 6 = .ok (.getfield 36, 3) := by decide +kernel
theorem dX12_allTurns_9 : decode cX12_allTurns 9 = .ok (.iload_n 1, 1) := by decide +kernel
theorem dX12_allTurns_10 : decode cX12_allTurns 10 = .ok (.iaload, 1) := by decide +kernel
theorem dX12_allTurns_11 : decode cX12_allTurns 11 = .ok (.if_icmp .ge 125, 3) := by decide +kernel
theorem dX12_allTurns_14 : decode cX12_allTurns 14 = .ok (.aload_n 0, 1) := by decide +kernel
theorem dX12_allTurns_15 : decode cX12_allTurns 15 = .ok (.iload_n 3, 1) := by decide +kernel
theorem dX12_allTurns_16 : decode cX12_allTurns 16 = .ok (.iload 4, 2) := by decide +kernel
theorem dX12_allTurns_18 : decode cX12_allTurns 18 = .ok (.invokevirtual 356, 3) := by decide +kernel
theorem dX12_allTurns_21 : decode cX12_allTurns 21 = .ok (.ifCond .eq 115, 3) := by decide +kernel
theorem dX12_allTurns_24 : decode cX12_allTurns 24 = .ok (.iconst 0, 1) := by decide +kernel
theorem dX12_allTurns_25 : decode cX12_allTurns 25 = .ok (.istore 6, 2) := by decide +kernel
theorem dX12_allTurns_27 : decode cX12_allTurns 27 = .ok (.iload 6, 2) := by decide +kernel
theorem dX12_allTurns_29 : decode cX12_allTurns 29 = .ok (.iconst 2, 1) := by decide +kernel
theorem dX12_allTurns_30 : decode cX12_allTurns 30 = .ok (.if_icmp .ge 100, 3) := by decide +kernel
theorem dX12_allTurns_33 : decode cX12_allTurns 33 = .ok (.aload_n 0, 1) := by decide +kernel
theorem dX12_allTurns_34 : decode cX12_allTurns 34 = .ok (.iload_n 3, 1) := by decide +kernel
theorem dX12_allTurns_35 : decode cX12_allTurns 35 = .ok (.iload 4, 2) := by decide +kernel
theorem dX12_allTurns_37 : decode cX12_allTurns 37 = .ok (.invokevirtual 356, 3) := by decide +kernel
theorem dX12_allTurns_40 : decode cX12_allTurns 40 = .ok (.ifCond .eq 90, 3) := by decide +kernel
theorem dX12_allTurns_43 : decode cX12_allTurns 43 = .ok (.iconst 0, 1) := by decide +kernel
theorem dX12_allTurns_44 : decode cX12_allTurns 44 = .ok (.istore 7, 2) := by decide +kernel
theorem dX12_allTurns_46 : decode cX12_allTurns 46 = .ok (.iload 7, 2) := by decide +kernel
theorem dX12_allTurns_48 : decode cX12_allTurns 48 = .ok (.aload_n 0, 1) := by decide +kernel
theorem dX12_allTurns_49 : decode cX12_allTurns 49 = .ok (.getfield 36, 3) := by decide +kernel
theorem dX12_allTurns_52 : decode cX12_allTurns 52 = .ok (.iload_n 2, 1) := by decide +kernel
theorem dX12_allTurns_53 : decode cX12_allTurns 53 = .ok (.iaload, 1) := by decide +kernel
theorem dX12_allTurns_54 : decode cX12_allTurns 54 = .ok (.if_icmp .ge 70, 3) := by decide +kernel
theorem dX12_allTurns_57 : decode cX12_allTurns 57 = .ok (.aload_n 0, 1) := by decide +kernel
theorem dX12_allTurns_58 : decode cX12_allTurns 58 = .ok (.iload_n 3, 1) := by decide +kernel
theorem dX12_allTurns_59 : decode cX12_allTurns 59 = .ok (.iload 4, 2) := by decide +kernel
theorem dX12_allTurns_61 : decode cX12_allTurns 61 = .ok (.invokevirtual 356, 3) := by decide +kernel
theorem dX12_allTurns_64 : decode cX12_allTurns 64 = .ok (.ifCond .eq 60, 3) := by decide +kernel
theorem dX12_allTurns_67 : decode cX12_allTurns 67 = .ok (.iconst 1, 1) := by decide +kernel
theorem dX12_allTurns_68 : decode cX12_allTurns 68 = .ok (.istore 8, 2) := by decide +kernel
theorem dX12_allTurns_70 : decode cX12_allTurns 70 = .ok (.iload 8, 2) := by decide +kernel
theorem dX12_allTurns_72 : decode cX12_allTurns 72 = .ok (.aload_n 0, 1) := by decide +kernel
theorem dX12_allTurns_73 : decode cX12_allTurns 73 = .ok (.getfield 30, 3) := by decide +kernel
theorem dX12_allTurns_76 : decode cX12_allTurns 76 = .ok (.bipush 6, 2) := by decide +kernel
theorem dX12_allTurns_78 : decode cX12_allTurns 78 = .ok (.iload_n 2, 1) := by decide +kernel
theorem dX12_allTurns_79 : decode cX12_allTurns 79 = .ok (.imul, 1) := by decide +kernel
theorem dX12_allTurns_80 : decode cX12_allTurns 80 = .ok (.iload 7, 2) := by decide +kernel
theorem dX12_allTurns_82 : decode cX12_allTurns 82 = .ok (.iadd, 1) := by decide +kernel
theorem dX12_allTurns_83 : decode cX12_allTurns 83 = .ok (.iaload, 1) := by decide +kernel
theorem dX12_allTurns_84 : decode cX12_allTurns 84 = .ok (.if_icmp .ge 34, 3) := by decide +kernel
theorem dX12_allTurns_87 : decode cX12_allTurns 87 = .ok (.aload_n 0, 1) := by decide +kernel
theorem dX12_allTurns_88 : decode cX12_allTurns 88 = .ok (.iload_n 3, 1) := by decide +kernel
theorem dX12_allTurns_89 : decode cX12_allTurns 89 = .ok (.iload 4, 2) := by decide +kernel
theorem dX12_allTurns_91 : decode cX12_allTurns 91 = .ok (.invokevirtual 356, 3) := by decide +kernel
theorem dX12_allTurns_94 : decode cX12_allTurns 94 = .ok (.ifCond .eq 24, 3) := by decide +kernel
theorem dX12_allTurns_97 : decode cX12_allTurns 97 = .ok (.aload_n 0, 1) := by decide +kernel
theorem dX12_allTurns_98 : decode cX12_allTurns 98 = .ok (.iconst 4, 1) := by decide +kernel
theorem dX12_allTurns_99 : decode cX12_allTurns 99 = .ok (.iload_n 1, 1) := by decide +kernel
theorem dX12_allTurns_100 : decode cX12_allTurns 100 = .ok (.iload 5, 2) := by decide +kernel
theorem dX12_allTurns_102 : decode cX12_allTurns 102 = .ok (.iload 6, 2) := by decide +kernel
theorem dX12_allTurns_104 : decode cX12_allTurns 104 = .ok (.iload_n 2, 1) := by decide +kernel
theorem dX12_allTurns_105 : decode cX12_allTurns 105 = .ok (.iload 7, 2) := by decide +kernel
theorem dX12_allTurns_107 : decode cX12_allTurns 107 = .ok (.iload 8, 2) := by decide +kernel
theorem dX12_allTurns_109 : decode cX12_allTurns 109 = .ok (.invokevirtual 359, 3) := by decide +kernel
theorem dX12_allTurns_112 : decode cX12_allTurns 112 = .ok (.iinc 8 1, 3) := by decide +kernel
theorem dX12_allTurns_115 : decode cX12_allTurns 115 = .ok (.goto (-45), 3) := by decide +kernel
theorem dX12_allTurns_118 : decode cX12_allTurns 118 = .ok (.iinc 7 1, 3) := by decide +kernel
theorem dX12_allTurns_121 : decode cX12_allTurns 121 = .ok (.goto (-75), 3) := by decide +kernel
theorem dX12_allTurns_124 : decode cX12_allTurns 124 = .ok (.iinc 6 1, 3) := by decide +kernel
theorem dX12_allTurns_127 : decode cX12_allTurns 127 = .ok (.goto (-100), 3) := by decide +kernel
theorem dX12_allTurns_130 : decode cX12_allTurns 130 = .ok (.iinc 5 1, 3) := by decide +kernel
theorem dX12_allTurns_133 : decode cX12_allTurns 133 = .ok (.goto (-130), 3) := by decide +kernel
theorem dX12_allTurns_136 : decode cX12_allTurns 136 = .ok (.return_, 1) := by decide +kernel
theorem dX12_works_0 : decode cX12_works 0 = .ok (.iconst 0, 1) := by decide +kernel
theorem dX12_works_1 : decode cX12_works 1 = .ok (.istore_n 2, 1) := by decide +kernel
theorem dX12_works_2 : decode cX12_works 2 = .ok (.iload_n 2, 1) := by decide +kernel
theorem dX12_works_3 : decode cX12_works 3 = .ok (.aload_n 0, 1) := by decide +kernel
theorem dX12_works_4 : decode cX12_works 4 = .ok (.getfield 142, 3) := by decide +kernel
theorem dX12_works_7 : decode cX12_works 7 = .ok (.if_icmp .ge 70, 3) := by decide +kernel
theorem dX12_works_10 : decode cX12_works 10 = .ok (.aload_n 0, 1) := by decide +kernel
theorem dX12_works_11 : decode cX12_works 11 = .ok (.iload_n 1, 1) := by decide +kernel
theorem dX12_works_12 : decode cX12_works 12 = .ok (.iload_n 1, 1) := by decide +kernel
theorem dX12_works_13 : decode cX12_works 13 = .ok (.invokevirtual 356, 3) := by decide +kernel
theorem dX12_works_16 : decode cX12_works 16 = .ok (.ifCond .eq 61, 3) := by decide +kernel
theorem dX12_works_19 : decode cX12_works 19 = .ok (.aload_n 0, 1) := by decide +kernel
theorem dX12_works_20 : decode cX12_works 20 = .ok (.getfield 39, 3) := by decide +kernel
theorem dX12_works_23 : decode cX12_works 23 = .ok (.iload_n 2, 1) := by decide +kernel
theorem dX12_works_24 : decode cX12_works 24 = .ok (.iaload, 1) := by decide +kernel
theorem dX12_works_25 : decode cX12_works 25 = .ok (.iconst 1, 1) := by decide +kernel
theorem dX12_works_26 : decode cX12_works 26 = .ok (.if_icmp .ne 45, 3) := by decide +kernel
theorem dX12_works_29 : decode cX12_works 29 = .ok (.aload_n 0, 1) := by decide +kernel
theorem dX12_works_30 : decode cX12_works 30 = .ok (.iload_n 1, 1) := by decide +kernel
theorem dX12_works_31 : decode cX12_works 31 = .ok (.iload_n 2, 1) := by decide +kernel
theorem dX12_works_32 : decode cX12_works 32 = .ok (.iload_n 1, 1) := by decide +kernel
theorem dX12_works_33 : decode cX12_works 33 = .ok (.iload_n 2, 1) := by decide +kernel
theorem dX12_works_34 : decode cX12_works 34 = .ok (.invokevirtual 362, 3) := by decide +kernel
theorem dX12_works_37 : decode cX12_works 37 = .ok (.iload_n 2, 1) := by decide +kernel
theorem dX12_works_38 : decode cX12_works 38 = .ok (.iload_n 1, 1) := by decide +kernel
theorem dX12_works_39 : decode cX12_works 39 = .ok (.if_icmp .eq 11, 3) := by decide +kernel
theorem dX12_works_42 : decode cX12_works 42 = .ok (.aload_n 0, 1) := by decide +kernel
theorem dX12_works_43 : decode cX12_works 43 = .ok (.iload_n 2, 1) := by decide +kernel
theorem dX12_works_44 : decode cX12_works 44 = .ok (.iload_n 1, 1) := by decide +kernel
theorem dX12_works_45 : decode cX12_works 45 = .ok (.iload_n 1, 1) := by decide +kernel
theorem dX12_works_46 : decode cX12_works 46 = .ok (.iload_n 2, 1) := by decide +kernel
theorem dX12_works_47 : decode cX12_works 47 = .ok (.invokevirtual 362, 3) := by decide +kernel
theorem dX12_works_50 : decode cX12_works 50 = .ok (.aload_n 0, 1) := by decide +kernel
theorem dX12_works_51 : decode cX12_works 51 = .ok (.iload_n 1, 1) := by decide +kernel
theorem dX12_works_52 : decode cX12_works 52 = .ok (.iload_n 2, 1) := by decide +kernel
theorem dX12_works_53 : decode cX12_works 53 = .ok (.iload_n 1, 1) := by decide +kernel
theorem dX12_works_54 : decode cX12_works 54 = .ok (.iload_n 2, 1) := by decide +kernel
theorem dX12_works_55 : decode cX12_works 55 = .ok (.invokevirtual 365, 3) := by decide +kernel
theorem dX12_works_58 : decode cX12_works 58 = .ok (.iload_n 2, 1) := by decide +kernel
theorem dX12_works_59 : decode cX12_works 59 = .ok (.iload_n 1, 1) := by decide +kernel
theorem dX12_works_60 : decode cX12_works 60 = .ok (.if_icmp .eq 11, 3) := by decide +kernel
theorem dX12_works_63 : decode cX12_works 63 = .ok (.aload_n 0, 1) := by decide +kernel
theorem dX12_works_64 : decode cX12_works 64 = .ok (.iload_n 2, 1) := by decide +kernel
theorem dX12_works_65 : decode cX12_works 65 = .ok (.iload_n 1, 1) := by decide +kernel
theorem dX12_works_66 : decode cX12_works 66 = .ok (.iload_n 1, 1) := by decide +kernel
theorem dX12_works_67 : decode cX12_works 67 = .ok (.iload_n 2, 1) := by decide +kernel
theorem dX12_works_68 : decode cX12_works 68 = .ok (.invokevirtual 365, 3) := by decide +kernel
theorem dX12_works_71 : decode cX12_works 71 = .ok (.iinc 2 1, 3) := by decide +kernel
theorem dX12_works_74 : decode cX12_works 74 = .ok (.goto (-72), 3) := by decide +kernel
theorem dX12_works_77 : decode cX12_works 77 = .ok (.iconst 0, 1) := by decide +kernel
theorem dX12_works_78 : decode cX12_works 78 = .ok (.istore_n 2, 1) := by decide +kernel
theorem dX12_works_79 : decode cX12_works 79 = .ok (.iload_n 2, 1) := by decide +kernel
theorem dX12_works_80 : decode cX12_works 80 = .ok (.aload_n 0, 1) := by decide +kernel
theorem dX12_works_81 : decode cX12_works 81 = .ok (.getfield 36, 3) := by decide +kernel
theorem dX12_works_84 : decode cX12_works 84 = .ok (.iload_n 1, 1) := by decide +kernel
theorem dX12_works_85 : decode cX12_works 85 = .ok (.iaload, 1) := by decide +kernel
theorem dX12_works_86 : decode cX12_works 86 = .ok (.if_icmp .ge 58, 3) := by decide +kernel
theorem dX12_works_89 : decode cX12_works 89 = .ok (.aload_n 0, 1) := by decide +kernel
theorem dX12_works_90 : decode cX12_works 90 = .ok (.iload_n 1, 1) := by decide +kernel
theorem dX12_works_91 : decode cX12_works 91 = .ok (.iload_n 1, 1) := by decide +kernel
theorem dX12_works_92 : decode cX12_works 92 = .ok (.invokevirtual 356, 3) := by decide +kernel
theorem dX12_works_95 : decode cX12_works 95 = .ok (.ifCond .eq 49, 3) := by decide +kernel
theorem dX12_works_98 : decode cX12_works 98 = .ok (.iload_n 2, 1) := by decide +kernel
theorem dX12_works_99 : decode cX12_works 99 = .ok (.iconst 1, 1) := by decide +kernel
theorem dX12_works_100 : decode cX12_works 100 = .ok (.iadd, 1) := by decide +kernel
theorem dX12_works_101 : decode cX12_works 101 = .ok (.istore_n 3, 1) := by decide +kernel
theorem dX12_works_102 : decode cX12_works 102 = .ok (.iload_n 3, 1) := by decide +kernel
theorem dX12_works_103 : decode cX12_works 103 = .ok (.aload_n 0, 1) := by decide +kernel
theorem dX12_works_104 : decode cX12_works 104 = .ok (.getfield 36, 3) := by decide +kernel
theorem dX12_works_107 : decode cX12_works 107 = .ok (.iload_n 1, 1) := by decide +kernel
theorem dX12_works_108 : decode cX12_works 108 = .ok (.iaload, 1) := by decide +kernel
theorem dX12_works_109 : decode cX12_works 109 = .ok (.if_icmp .ge 29, 3) := by decide +kernel
theorem dX12_works_112 : decode cX12_works 112 = .ok (.aload_n 0, 1) := by decide +kernel
theorem dX12_works_113 : decode cX12_works 113 = .ok (.iload_n 1, 1) := by decide +kernel
theorem dX12_works_114 : decode cX12_works 114 = .ok (.iload_n 1, 1) := by decide +kernel
theorem dX12_works_115 : decode cX12_works 115 = .ok (.invokevirtual 356, 3) := by decide +kernel
theorem dX12_works_118 : decode cX12_works 118 = .ok (.ifCond .eq 20, 3) := by decide +kernel
theorem dX12_works_121 : decode cX12_works 121 = .ok (.aload_n 0, 1) := by decide +kernel
theorem dX12_works_122 : decode cX12_works 122 = .ok (.iconst 2, 1) := by decide +kernel
theorem dX12_works_123 : decode cX12_works 123 = .ok (.iload_n 1, 1) := by decide +kernel
theorem dX12_works_124 : decode cX12_works 124 = .ok (.iload_n 2, 1) := by decide +kernel
theorem dX12_works_125 : decode cX12_works 125 = .ok (.iload_n 3, 1) := by decide +kernel
theorem dX12_works_126 : decode cX12_works 126 = .ok (.iconst 0, 1) := by decide +kernel
theorem dX12_works_127 : decode cX12_works 127 = .ok (.iconst 0, 1) := by decide +kernel
theorem dX12_works_128 : decode cX12_works 128 = .ok (.iconst 0, 1) := by decide +kernel
theorem dX12_works_129 : decode cX12_works 129 = .ok (.invokevirtual 359, 3) := by decide +kernel
theorem dX12_works_132 : decode cX12_works 132 = .ok (.iinc 3 1, 3) := by decide +kernel
theorem dX12_works_135 : decode cX12_works 135 = .ok (.goto (-33), 3) := by decide +kernel
theorem dX12_works_138 : decode cX12_works 138 = .ok (.iinc 2 1, 3) := by decide +kernel
theorem dX12_works_141 : decode cX12_works 141 = .ok (.goto (-62), 3) := by decide +kernel
theorem dX12_works_144 : decode cX12_works 144 = .ok (.aload_n 0, 1) := by decide +kernel
theorem dX12_works_145 : decode cX12_works 145 = .ok (.iload_n 1, 1) := by decide +kernel
theorem dX12_works_146 : decode cX12_works 146 = .ok (.iload_n 1, 1) := by decide +kernel
theorem dX12_works_147 : decode cX12_works 147 = .ok (.invokevirtual 356, 3) := by decide +kernel
theorem dX12_works_150 : decode cX12_works 150 = .ok (.ifCond .eq 14, 3) := by decide +kernel
theorem dX12_works_153 : decode cX12_works 153 = .ok (.aload_n 0, 1) := by decide +kernel
theorem dX12_works_154 : decode cX12_works 154 = .ok (.iconst 3, 1) := by decide +kernel
theorem dX12_works_155 : decode cX12_works 155 = .ok (.iload_n 1, 1) := by decide +kernel
theorem dX12_works_156 : decode cX12_works 156 = .ok (.iconst 0, 1) := by decide +kernel
theorem dX12_works_157 : decode cX12_works 157 = .ok (.iconst 0, 1) := by decide +kernel
theorem dX12_works_158 : decode cX12_works 158 = .ok (.iconst 0, 1) := by decide +kernel
theorem dX12_works_159 : decode cX12_works 159 = .ok (.iconst 0, 1) := by decide +kernel
theorem dX12_works_160 : decode cX12_works 160 = .ok (.iconst 0, 1) := by decide +kernel
theorem dX12_works_161 : decode cX12_works 161 = .ok (.invokevirtual 359, 3) := by decide +kernel
theorem dX12_works_164 : decode cX12_works 164 = .ok (.return_, 1) := by decide +kernel
theorem dX12_weightOfClaim_0 : decode cX12_weightOfClaim 0 = .ok (.iconst 0, 1) := by decide +kernel
theorem dX12_weightOfClaim_1 : decode cX12_weightOfClaim 1 = .ok (.istore_n 2, 1) := by decide +kernel
theorem dX12_weightOfClaim_2 : decode cX12_weightOfClaim 2 = .ok (.iconst 0, 1) := by decide +kernel
theorem dX12_weightOfClaim_3 : decode cX12_weightOfClaim 3 = .ok (.istore_n 3, 1) := by decide +kernel
theorem dX12_weightOfClaim_4 : decode cX12_weightOfClaim 4 = .ok (.iload_n 3, 1) := by decide +kernel
theorem dX12_weightOfClaim_5 : decode cX12_weightOfClaim 5 = .ok (.aload_n 0, 1) := by decide +kernel
theorem dX12_weightOfClaim_6 : decode cX12_weightOfClaim 6 = .ok (.getfield 36, 3) := by decide +kernel
theorem dX12_weightOfClaim_9 : decode cX12_weightOfClaim 9 = .ok (.iload_n 1, 1) := by decide +kernel
theorem dX12_weightOfClaim_10 : decode cX12_weightOfClaim 10 = .ok (.iaload, 1) := by decide +kernel
theorem dX12_weightOfClaim_11 : decode cX12_weightOfClaim 11 = .ok (.if_icmp .ge 47, 3) := by decide +kernel
theorem dX12_weightOfClaim_14 : decode cX12_weightOfClaim 14 = .ok (.bipush 30, 2) := by decide +kernel
theorem dX12_weightOfClaim_16 : decode cX12_weightOfClaim 16 = .ok (.bipush 6, 2) := by decide +kernel
theorem dX12_weightOfClaim_18 : decode cX12_weightOfClaim 18 = .ok (.iload_n 1, 1) := by decide +kernel
theorem dX12_weightOfClaim_19 : decode cX12_weightOfClaim 19 = .ok (.imul, 1) := by decide +kernel
theorem dX12_weightOfClaim_20 : decode cX12_weightOfClaim 20 = .ok (.iload_n 3, 1) := by decide +kernel
theorem dX12_weightOfClaim_21 : decode cX12_weightOfClaim 21 = .ok (.iadd, 1) := by decide +kernel
theorem dX12_weightOfClaim_22 : decode cX12_weightOfClaim 22 = .ok (.imul, 1) := by decide +kernel
theorem dX12_weightOfClaim_23 : decode cX12_weightOfClaim 23 = .ok (.istore 4, 2) := by decide +kernel
theorem dX12_weightOfClaim_25 : decode cX12_weightOfClaim 25 = .ok (.iload_n 2, 1) := by decide +kernel
theorem dX12_weightOfClaim_26 : decode cX12_weightOfClaim 26 = .ok (.aload_n 0, 1) := by decide +kernel
theorem dX12_weightOfClaim_27 : decode cX12_weightOfClaim 27 = .ok (.aload_n 0, 1) := by decide +kernel
theorem dX12_weightOfClaim_28 : decode cX12_weightOfClaim 28 = .ok (.getfield 27, 3) := by decide +kernel
theorem dX12_weightOfClaim_31 : decode cX12_weightOfClaim 31 = .ok (.iload 4, 2) := by decide +kernel
theorem dX12_weightOfClaim_33 : decode cX12_weightOfClaim 33 = .ok (.iload 4, 2) := by decide +kernel
theorem dX12_weightOfClaim_35 : decode cX12_weightOfClaim 35 = .ok (.aload_n 0, 1) := by decide +kernel
theorem dX12_weightOfClaim_36 : decode cX12_weightOfClaim 36 = .ok (.getfield 30, 3) := by decide +kernel
theorem dX12_weightOfClaim_39 : decode cX12_weightOfClaim 39 = .ok (.bipush 6, 2) := by decide +kernel
theorem dX12_weightOfClaim_41 : decode cX12_weightOfClaim 41 = .ok (.iload_n 1, 1) := by decide +kernel
theorem dX12_weightOfClaim_42 : decode cX12_weightOfClaim 42 = .ok (.imul, 1) := by decide +kernel
theorem dX12_weightOfClaim_43 : decode cX12_weightOfClaim 43 = .ok (.iload_n 3, 1) := by decide +kernel
theorem dX12_weightOfClaim_44 : decode cX12_weightOfClaim 44 = .ok (.iadd, 1) := by decide +kernel
theorem dX12_weightOfClaim_45 : decode cX12_weightOfClaim 45 = .ok (.iaload, 1) := by decide +kernel
theorem dX12_weightOfClaim_46 : decode cX12_weightOfClaim 46 = .ok (.iadd, 1) := by decide +kernel
theorem dX12_weightOfClaim_47 : decode cX12_weightOfClaim 47 = .ok (.invokevirtual 160, 3) := by decide +kernel
theorem dX12_weightOfClaim_50 : decode cX12_weightOfClaim 50 = .ok (.iadd, 1) := by decide +kernel
theorem dX12_weightOfClaim_51 : decode cX12_weightOfClaim 51 = .ok (.istore_n 2, 1) := by decide +kernel
theorem dX12_weightOfClaim_52 : decode cX12_weightOfClaim 52 = .ok (.iinc 3 1, 3) := by decide +kernel
theorem dX12_weightOfClaim_55 : decode cX12_weightOfClaim 55 = .ok (.goto (-51), 3) := by decide +kernel
theorem dX12_weightOfClaim_58 : decode cX12_weightOfClaim 58 = .ok (.iload_n 2, 1) := by decide +kernel
theorem dX12_weightOfClaim_59 : decode cX12_weightOfClaim 59 = .ok (.ireturn, 1) := by decide +kernel
theorem dX12_pick_0 : decode cX12_pick 0 = .ok (.aload_n 0, 1) := by decide +kernel
theorem dX12_pick_1 : decode cX12_pick 1 = .ok (.getfield 368, 3) := by decide +kernel
theorem dX12_pick_4 : decode cX12_pick 4 = .ok (.iconst 1, 1) := by decide +kernel
theorem dX12_pick_5 : decode cX12_pick 5 = .ok (.iadd, 1) := by decide +kernel
theorem dX12_pick_6 : decode cX12_pick 6 = .ok (.aload_n 0, 1) := by decide +kernel
theorem dX12_pick_7 : decode cX12_pick 7 = .ok (.getfield 129, 3) := by decide +kernel
theorem dX12_pick_10 : decode cX12_pick 10 = .ok (.iconst 1, 1) := by decide +kernel
theorem dX12_pick_11 : decode cX12_pick 11 = .ok (.iadd, 1) := by decide +kernel
theorem dX12_pick_12 : decode cX12_pick 12 = .ok (.irem, 1) := by decide +kernel
theorem dX12_pick_13 : decode cX12_pick 13 = .ok (.ifCond .ne 7, 3) := by decide +kernel
theorem dX12_pick_16 : decode cX12_pick 16 = .ok (.iconst 1, 1) := by decide +kernel
theorem dX12_pick_17 : decode cX12_pick 17 = .ok (.goto 4, 3) := by decide +kernel
theorem dX12_pick_20 : decode cX12_pick 20 = .ok (.iconst 0, 1) := by decide +kernel
theorem dX12_pick_21 : decode cX12_pick 21 = .ok (.istore_n 1, 1) := by decide +kernel
theorem dX12_pick_22 : decode cX12_pick 22 = .ok (.iconst (-1), 1) := by decide +kernel
theorem dX12_pick_23 : decode cX12_pick 23 = .ok (.istore_n 2, 1) := by decide +kernel
theorem dX12_pick_24 : decode cX12_pick 24 = .ok (.iconst 0, 1) := by decide +kernel
theorem dX12_pick_25 : decode cX12_pick 25 = .ok (.istore_n 3, 1) := by decide +kernel
theorem dX12_pick_26 : decode cX12_pick 26 = .ok (.iconst 0, 1) := by decide +kernel
theorem dX12_pick_27 : decode cX12_pick 27 = .ok (.istore 4, 2) := by decide +kernel
theorem dX12_pick_29 : decode cX12_pick 29 = .ok (.iload 4, 2) := by decide +kernel
theorem dX12_pick_31 : decode cX12_pick 31 = .ok (.aload_n 0, 1) := by decide +kernel
theorem dX12_pick_32 : decode cX12_pick 32 = .ok (.getfield 142, 3) := by decide +kernel
theorem dX12_pick_35 : decode cX12_pick 35 = .ok (.if_icmp .ge 48, 3) := by decide +kernel
theorem dX12_pick_38 : decode cX12_pick 38 = .ok (.aload_n 0, 1) := by decide +kernel
theorem dX12_pick_39 : decode cX12_pick 39 = .ok (.getfield 39, 3) := by decide +kernel
theorem dX12_pick_42 : decode cX12_pick 42 = .ok (.iload 4, 2) := by decide +kernel
theorem dX12_pick_44 : decode cX12_pick 44 = .ok (.iaload, 1) := by decide +kernel
theorem dX12_pick_45 : decode cX12_pick 45 = .ok (.ifCond .ne 32, 3) := by decide +kernel
theorem dX12_pick_48 : decode cX12_pick 48 = .ok (.aload_n 0, 1) := by decide +kernel
theorem dX12_pick_49 : decode cX12_pick 49 = .ok (.iload 4, 2) := by decide +kernel
theorem dX12_pick_51 : decode cX12_pick 51 = .ok (.invokevirtual 371, 3) := by decide +kernel
theorem dX12_pick_54 : decode cX12_pick 54 = .ok (.istore 5, 2) := by decide +kernel
theorem dX12_pick_56 : decode cX12_pick 56 = .ok (.iload_n 2, 1) := by decide +kernel
theorem dX12_pick_57 : decode cX12_pick 57 = .ok (.iconst (-1), 1) := by decide +kernel
theorem dX12_pick_58 : decode cX12_pick 58 = .ok (.if_icmp .eq 13, 3) := by decide +kernel
theorem dX12_pick_61 : decode cX12_pick 61 = .ok (.iload_n 1, 1) := by decide +kernel
theorem dX12_pick_62 : decode cX12_pick 62 = .ok (.ifCond .ne 15, 3) := by decide +kernel
theorem dX12_pick_65 : decode cX12_pick 65 = .ok (.iload 5, 2) := by decide +kernel
theorem dX12_pick_67 : decode cX12_pick 67 = .ok (.iload_n 3, 1) := by decide +kernel
theorem dX12_pick_68 : decode cX12_pick 68 = .ok (.if_icmp .ge 9, 3) := by decide +kernel
theorem dX12_pick_71 : decode cX12_pick 71 = .ok (.iload 4, 2) := by decide +kernel
theorem dX12_pick_73 : decode cX12_pick 73 = .ok (.istore_n 2, 1) := by decide +kernel
theorem dX12_pick_74 : decode cX12_pick 74 = .ok (.iload 5, 2) := by decide +kernel
theorem dX12_pick_76 : decode cX12_pick 76 = .ok (.istore_n 3, 1) := by decide +kernel
theorem dX12_pick_77 : decode cX12_pick 77 = .ok (.iinc 4 1, 3) := by decide +kernel
theorem dX12_pick_80 : decode cX12_pick 80 = .ok (.goto (-51), 3) := by decide +kernel
theorem dX12_pick_83 : decode cX12_pick 83 = .ok (.iload_n 2, 1) := by decide +kernel
theorem dX12_pick_84 : decode cX12_pick 84 = .ok (.ireturn, 1) := by decide +kernel
theorem dX12_run_0 : decode cX12_run 0 = .ok (.iload_n 1, 1) := by decide +kernel
theorem dX12_run_1 : decode cX12_run 1 = .ok (.iconst 1, 1) := by decide +kernel
theorem dX12_run_2 : decode cX12_run 2 = .ok (.sipush 200, 3) := by decide +kernel
theorem dX12_run_5 : decode cX12_run 5 = .ok (.invokestatic 138, 3) := by decide +kernel
theorem dX12_run_8 : decode cX12_run 8 = .ok (.ifCond .ne 6, 3) := by decide +kernel
theorem dX12_run_11 : decode cX12_run 11 = .ok (.bipush (-2), 2) := by decide +kernel
theorem dX12_run_13 : decode cX12_run 13 = .ok (.ireturn, 1) := by decide +kernel
theorem dX12_run_14 : decode cX12_run 14 = .ok (.iconst 0, 1) := by decide +kernel
theorem dX12_run_15 : decode cX12_run 15 = .ok (.istore_n 2, 1) := by decide +kernel
theorem dX12_run_16 : decode cX12_run 16 = .ok (.iload_n 2, 1) := by decide +kernel
theorem dX12_run_17 : decode cX12_run 17 = .ok (.iload_n 1, 1) := by decide +kernel
theorem dX12_run_18 : decode cX12_run 18 = .ok (.if_icmp .ge 56, 3) := by decide +kernel
theorem dX12_run_21 : decode cX12_run 21 = .ok (.aload_n 0, 1) := by decide +kernel
theorem dX12_run_22 : decode cX12_run 22 = .ok (.getfield 337, 3) := by decide +kernel
theorem dX12_run_25 : decode cX12_run 25 = .ok (.ifCond .ne 49, 3) := by decide +kernel
theorem dX12_run_28 : decode cX12_run 28 = .ok (.aload_n 0, 1) := by decide +kernel
theorem dX12_run_29 : decode cX12_run 29 = .ok (.invokevirtual 374, 3) := by decide +kernel
theorem dX12_run_32 : decode cX12_run 32 = .ok (.istore_n 3, 1) := by decide +kernel
theorem dX12_run_33 : decode cX12_run 33 = .ok (.iload_n 3, 1) := by decide +kernel
theorem dX12_run_34 : decode cX12_run 34 = .ok (.iconst (-1), 1) := by decide +kernel
theorem dX12_run_35 : decode cX12_run 35 = .ok (.if_icmp .ne 11, 3) := by decide +kernel
theorem dX12_run_38 : decode cX12_run 38 = .ok (.aload_n 0, 1) := by decide +kernel
theorem dX12_run_39 : decode cX12_run 39 = .ok (.iconst 2, 1) := by decide +kernel
theorem dX12_run_40 : decode cX12_run 40 = .ok (.putfield 337, 3) := by decide +kernel
theorem dX12_run_43 : decode cX12_run 43 = .ok (.goto 25, 3) := by decide +kernel
theorem dX12_run_46 : decode cX12_run 46 = .ok (.aload_n 0, 1) := by decide +kernel
theorem dX12_run_47 : decode cX12_run 47 = .ok (.dup, 1) := by decide +kernel
theorem dX12_run_48 : decode cX12_run 48 = .ok (.getfield 368, 3) := by decide +kernel
theorem dX12_run_51 : decode cX12_run 51 = .ok (.iconst 1, 1) := by decide +kernel
theorem dX12_run_52 : decode cX12_run 52 = .ok (.iadd, 1) := by decide +kernel
theorem dX12_run_53 : decode cX12_run 53 = .ok (.putfield 368, 3) := by decide +kernel
theorem dX12_run_56 : decode cX12_run 56 = .ok (.aload_n 0, 1) := by decide +kernel
theorem dX12_run_57 : decode cX12_run 57 = .ok (.getfield 39, 3) := by decide +kernel
theorem dX12_run_60 : decode cX12_run 60 = .ok (.iload_n 3, 1) := by decide +kernel
theorem dX12_run_61 : decode cX12_run 61 = .ok (.iconst 1, 1) := by decide +kernel
theorem dX12_run_62 : decode cX12_run 62 = .ok (.iastore, 1) := by decide +kernel
theorem dX12_run_63 : decode cX12_run 63 = .ok (.aload_n 0, 1) := by decide +kernel
theorem dX12_run_64 : decode cX12_run 64 = .ok (.iload_n 3, 1) := by decide +kernel
theorem dX12_run_65 : decode cX12_run 65 = .ok (.invokevirtual 378, 3) := by decide +kernel
theorem dX12_run_68 : decode cX12_run 68 = .ok (.iinc 2 1, 3) := by decide +kernel
theorem dX12_run_71 : decode cX12_run 71 = .ok (.goto (-55), 3) := by decide +kernel
theorem dX12_run_74 : decode cX12_run 74 = .ok (.aload_n 0, 1) := by decide +kernel
theorem dX12_run_75 : decode cX12_run 75 = .ok (.getfield 337, 3) := by decide +kernel
theorem dX12_run_78 : decode cX12_run 78 = .ok (.ireturn, 1) := by decide +kernel
theorem dX12_clear_0 : decode cX12_clear 0 = .ok (.aload_n 0, 1) := by decide +kernel
theorem dX12_clear_1 : decode cX12_clear 1 = .ok (.getfield 142, 3) := by decide +kernel
theorem dX12_clear_4 : decode cX12_clear 4 = .ok (.istore_n 1, 1) := by decide +kernel
theorem dX12_clear_5 : decode cX12_clear 5 = .ok (.aload_n 0, 1) := by decide +kernel
theorem dX12_clear_6 : decode cX12_clear 6 = .ok (.iconst 0, 1) := by decide +kernel
theorem dX12_clear_7 : decode cX12_clear 7 = .ok (.putfield 142, 3) := by decide +kernel
theorem dX12_clear_10 : decode cX12_clear 10 = .ok (.aload_n 0, 1) := by decide +kernel
theorem dX12_clear_11 : decode cX12_clear 11 = .ok (.iconst 0, 1) := by decide +kernel
theorem dX12_clear_12 : decode cX12_clear 12 = .ok (.putfield 337, 3) := by decide +kernel
theorem dX12_clear_15 : decode cX12_clear 15 = .ok (.aload_n 0, 1) := by decide +kernel
theorem dX12_clear_16 : decode cX12_clear 16 = .ok (.iconst 0, 1) := by decide +kernel
theorem dX12_clear_17 : decode cX12_clear 17 = .ok (.putfield 368, 3) := by decide +kernel
theorem dX12_clear_20 : decode cX12_clear 20 = .ok (.iload_n 1, 1) := by decide +kernel
theorem dX12_clear_21 : decode cX12_clear 21 = .ok (.ireturn, 1) := by decide +kernel
theorem dX12_hasNumber_0 : decode cX12_hasNumber 0 = .ok (.iload_n 0, 1) := by decide +kernel
theorem dX12_hasNumber_1 : decode cX12_hasNumber 1 = .ok (.tableswitch 57 1 4 #[31, 31, 38, 49], 31) := by decide +kernel
theorem dX12_hasNumber_32 : decode cX12_hasNumber 32 = .ok (.iload_n 1, 1) := by decide +kernel
theorem dX12_hasNumber_33 : decode cX12_hasNumber 33 = .ok (.iconst 1, 1) := by decide +kernel
theorem dX12_hasNumber_34 : decode cX12_hasNumber 34 = .ok (.iconst 3, 1) := by decide +kernel
theorem dX12_hasNumber_35 : decode cX12_hasNumber 35 = .ok (.invokestatic 138, 3) := by decide +kernel
theorem dX12_hasNumber_38 : decode cX12_hasNumber 38 = .ok (.ireturn, 1) := by decide +kernel
theorem dX12_hasNumber_39 : decode cX12_hasNumber 39 = .ok (.iload_n 1, 1) := by decide +kernel
theorem dX12_hasNumber_40 : decode cX12_hasNumber 40 = .ok (.iconst 1, 1) := by decide +kernel
theorem dX12_hasNumber_41 : decode cX12_hasNumber 41 = .ok (.if_icmp .ne 7, 3) := by decide +kernel
theorem dX12_hasNumber_44 : decode cX12_hasNumber 44 = .ok (.iconst 1, 1) := by decide +kernel
theorem dX12_hasNumber_45 : decode cX12_hasNumber 45 = .ok (.goto 4, 3) := by decide +kernel
theorem dX12_hasNumber_48 : decode cX12_hasNumber 48 = .ok (.iconst 0, 1) := by decide +kernel
theorem dX12_hasNumber_49 : decode cX12_hasNumber 49 = .ok (.ireturn, 1) := by decide +kernel
theorem dX12_hasNumber_50 : decode cX12_hasNumber 50 = .ok (.iload_n 1, 1) := by decide +kernel
theorem dX12_hasNumber_51 : decode cX12_hasNumber 51 = .ok (.iconst 1, 1) := by decide +kernel
theorem dX12_hasNumber_52 : decode cX12_hasNumber 52 = .ok (.bipush 6, 2) := by decide +kernel
theorem dX12_hasNumber_54 : decode cX12_hasNumber 54 = .ok (.invokestatic 138, 3) := by decide +kernel
theorem dX12_hasNumber_57 : decode cX12_hasNumber 57 = .ok (.ireturn, 1) := by decide +kernel
theorem dX12_hasNumber_58 : decode cX12_hasNumber 58 = .ok (.iconst 0, 1) := by decide +kernel
theorem dX12_hasNumber_59 : decode cX12_hasNumber 59 = .ok (.ireturn, 1) := by decide +kernel
theorem dX12_isClaim_0 : decode cX12_isClaim 0 = .ok (.iload_n 1, 1) := by decide +kernel
theorem dX12_isClaim_1 : decode cX12_isClaim 1 = .ok (.iconst 0, 1) := by decide +kernel
theorem dX12_isClaim_2 : decode cX12_isClaim 2 = .ok (.aload_n 0, 1) := by decide +kernel
theorem dX12_isClaim_3 : decode cX12_isClaim 3 = .ok (.getfield 142, 3) := by decide +kernel
theorem dX12_isClaim_6 : decode cX12_isClaim 6 = .ok (.iconst 1, 1) := by decide +kernel
theorem dX12_isClaim_7 : decode cX12_isClaim 7 = .ok (.isub, 1) := by decide +kernel
theorem dX12_isClaim_8 : decode cX12_isClaim 8 = .ok (.invokestatic 138, 3) := by decide +kernel
theorem dX12_isClaim_11 : decode cX12_isClaim 11 = .ok (.ireturn, 1) := by decide +kernel
theorem dX12_step_0 : decode cX12_step 0 = .ok (.aload_n 0, 1) := by decide +kernel
theorem dX12_step_1 : decode cX12_step 1 = .ok (.iload_n 1, 1) := by decide +kernel
theorem dX12_step_2 : decode cX12_step 2 = .ok (.invokevirtual 380, 3) := by decide +kernel
theorem dX12_step_5 : decode cX12_step 5 = .ok (.ifCond .ne 7, 3) := by decide +kernel
theorem dX12_step_8 : decode cX12_step 8 = .ok (.ldc_w 383, 3) := by decide +kernel
theorem dX12_step_11 : decode cX12_step 11 = .ok (.ireturn, 1) := by decide +kernel
theorem dX12_step_12 : decode cX12_step 12 = .ok (.iload_n 2, 1) := by decide +kernel
theorem dX12_step_13 : decode cX12_step 13 = .ok (.ifCond .ne 13, 3) := by decide +kernel
theorem dX12_step_16 : decode cX12_step 16 = .ok (.aload_n 0, 1) := by decide +kernel
theorem dX12_step_17 : decode cX12_step 17 = .ok (.getfield 60, 3) := by decide +kernel
theorem dX12_step_20 : decode cX12_step 20 = .ok (.bipush 7, 2) := by decide +kernel
theorem dX12_step_22 : decode cX12_step 22 = .ok (.iload_n 1, 1) := by decide +kernel
theorem dX12_step_23 : decode cX12_step 23 = .ok (.imul, 1) := by decide +kernel
theorem dX12_step_24 : decode cX12_step 24 = .ok (.iaload, 1) := by decide +kernel
theorem dX12_step_25 : decode cX12_step 25 = .ok (.ireturn, 1) := by decide +kernel
theorem dX12_step_26 : decode cX12_step 26 = .ok (.iload_n 2, 1) := by decide +kernel
theorem dX12_step_27 : decode cX12_step 27 = .ok (.iconst 1, 1) := by decide +kernel
theorem dX12_step_28 : decode cX12_step 28 = .ok (.bipush 6, 2) := by decide +kernel
theorem dX12_step_30 : decode cX12_step 30 = .ok (.invokestatic 138, 3) := by decide +kernel
theorem dX12_step_33 : decode cX12_step 33 = .ok (.ifCond .eq 35, 3) := by decide +kernel
theorem dX12_step_36 : decode cX12_step 36 = .ok (.aload_n 0, 1) := by decide +kernel
theorem dX12_step_37 : decode cX12_step 37 = .ok (.getfield 60, 3) := by decide +kernel
theorem dX12_step_40 : decode cX12_step 40 = .ok (.bipush 7, 2) := by decide +kernel
theorem dX12_step_42 : decode cX12_step 42 = .ok (.iload_n 1, 1) := by decide +kernel
theorem dX12_step_43 : decode cX12_step 43 = .ok (.imul, 1) := by decide +kernel
theorem dX12_step_44 : decode cX12_step 44 = .ok (.iaload, 1) := by decide +kernel
theorem dX12_step_45 : decode cX12_step 45 = .ok (.iload_n 2, 1) := by decide +kernel
theorem dX12_step_46 : decode cX12_step 46 = .ok (.invokestatic 384, 3) := by decide +kernel
theorem dX12_step_49 : decode cX12_step 49 = .ok (.ifCond .eq 17, 3) := by decide +kernel
theorem dX12_step_52 : decode cX12_step 52 = .ok (.aload_n 0, 1) := by decide +kernel
theorem dX12_step_53 : decode cX12_step 53 = .ok (.getfield 60, 3) := by decide +kernel
theorem dX12_step_56 : decode cX12_step 56 = .ok (.bipush 7, 2) := by decide +kernel
theorem dX12_step_58 : decode cX12_step 58 = .ok (.iload_n 1, 1) := by decide +kernel
theorem dX12_step_59 : decode cX12_step 59 = .ok (.imul, 1) := by decide +kernel
theorem dX12_step_60 : decode cX12_step 60 = .ok (.iload_n 2, 1) := by decide +kernel
theorem dX12_step_61 : decode cX12_step 61 = .ok (.iadd, 1) := by decide +kernel
theorem dX12_step_62 : decode cX12_step 62 = .ok (.iaload, 1) := by decide +kernel
theorem dX12_step_63 : decode cX12_step 63 = .ok (.goto 4, 3) := by decide +kernel
theorem dX12_step_66 : decode cX12_step 66 = .ok (.iconst 0, 1) := by decide +kernel
theorem dX12_step_67 : decode cX12_step 67 = .ok (.ireturn, 1) := by decide +kernel
theorem dX12_step_68 : decode cX12_step 68 = .ok (.iload_n 2, 1) := by decide +kernel
theorem dX12_step_69 : decode cX12_step 69 = .ok (.bipush 10, 2) := by decide +kernel
theorem dX12_step_71 : decode cX12_step 71 = .ok (.if_icmp .ne 10, 3) := by decide +kernel
theorem dX12_step_74 : decode cX12_step 74 = .ok (.aload_n 0, 1) := by decide +kernel
theorem dX12_step_75 : decode cX12_step 75 = .ok (.getfield 63, 3) := by decide +kernel
theorem dX12_step_78 : decode cX12_step 78 = .ok (.iload_n 1, 1) := by decide +kernel
theorem dX12_step_79 : decode cX12_step 79 = .ok (.iaload, 1) := by decide +kernel
theorem dX12_step_80 : decode cX12_step 80 = .ok (.ireturn, 1) := by decide +kernel
theorem dX12_step_81 : decode cX12_step 81 = .ok (.iload_n 2, 1) := by decide +kernel
theorem dX12_step_82 : decode cX12_step 82 = .ok (.bipush 11, 2) := by decide +kernel
theorem dX12_step_84 : decode cX12_step 84 = .ok (.bipush 10, 2) := by decide +kernel
theorem dX12_step_86 : decode cX12_step 86 = .ok (.iconst 4, 1) := by decide +kernel
theorem dX12_step_87 : decode cX12_step 87 = .ok (.aload_n 0, 1) := by decide +kernel
theorem dX12_step_88 : decode cX12_step 88 = .ok (.getfield 63, 3) := by decide +kernel
theorem dX12_step_91 : decode cX12_step 91 = .ok (.iload_n 1, 1) := by decide +kernel
theorem dX12_step_92 : decode cX12_step 92 = .ok (.iaload, 1) := by decide +kernel
theorem dX12_step_93 : decode cX12_step 93 = .ok (.imul, 1) := by decide +kernel
theorem dX12_step_94 : decode cX12_step 94 = .ok (.iadd, 1) := by decide +kernel
theorem dX12_step_95 : decode cX12_step 95 = .ok (.invokestatic 138, 3) := by decide +kernel
theorem dX12_step_98 : decode cX12_step 98 = .ok (.ifCond .eq 20, 3) := by decide +kernel
theorem dX12_step_101 : decode cX12_step 101 = .ok (.aload_n 0, 1) := by decide +kernel
theorem dX12_step_102 : decode cX12_step 102 = .ok (.getfield 66, 3) := by decide +kernel
theorem dX12_step_105 : decode cX12_step 105 = .ok (.bipush 32, 2) := by decide +kernel
theorem dX12_step_107 : decode cX12_step 107 = .ok (.iload_n 1, 1) := by decide +kernel
theorem dX12_step_108 : decode cX12_step 108 = .ok (.imul, 1) := by decide +kernel
theorem dX12_step_109 : decode cX12_step 109 = .ok (.iload_n 2, 1) := by decide +kernel
theorem dX12_step_110 : decode cX12_step 110 = .ok (.iadd, 1) := by decide +kernel
theorem dX12_step_111 : decode cX12_step 111 = .ok (.bipush 11, 2) := by decide +kernel
theorem dX12_step_113 : decode cX12_step 113 = .ok (.isub, 1) := by decide +kernel
theorem dX12_step_114 : decode cX12_step 114 = .ok (.iaload, 1) := by decide +kernel
theorem dX12_step_115 : decode cX12_step 115 = .ok (.goto 6, 3) := by decide +kernel
theorem dX12_step_118 : decode cX12_step 118 = .ok (.ldc_w 383, 3) := by decide +kernel
theorem dX12_step_121 : decode cX12_step 121 = .ok (.ireturn, 1) := by decide +kernel
theorem dX12_forge_0 : decode cX12_forge 0 = .ok (.aload_n 0, 1) := by decide +kernel
theorem dX12_forge_1 : decode cX12_forge 1 = .ok (.iload_n 1, 1) := by decide +kernel
theorem dX12_forge_2 : decode cX12_forge 2 = .ok (.invokevirtual 380, 3) := by decide +kernel
theorem dX12_forge_5 : decode cX12_forge 5 = .ok (.ifCond .ne 6, 3) := by decide +kernel
theorem dX12_forge_8 : decode cX12_forge 8 = .ok (.bipush (-2), 2) := by decide +kernel
theorem dX12_forge_10 : decode cX12_forge 10 = .ok (.ireturn, 1) := by decide +kernel
theorem dX12_forge_11 : decode cX12_forge 11 = .ok (.aload_n 0, 1) := by decide +kernel
theorem dX12_forge_12 : decode cX12_forge 12 = .ok (.getfield 60, 3) := by decide +kernel
theorem dX12_forge_15 : decode cX12_forge 15 = .ok (.bipush 7, 2) := by decide +kernel
theorem dX12_forge_17 : decode cX12_forge 17 = .ok (.iload_n 1, 1) := by decide +kernel
theorem dX12_forge_18 : decode cX12_forge 18 = .ok (.imul, 1) := by decide +kernel
theorem dX12_forge_19 : decode cX12_forge 19 = .ok (.iaload, 1) := by decide +kernel
theorem dX12_forge_20 : decode cX12_forge 20 = .ok (.iload_n 2, 1) := by decide +kernel
theorem dX12_forge_21 : decode cX12_forge 21 = .ok (.invokestatic 384, 3) := by decide +kernel
theorem dX12_forge_24 : decode cX12_forge 24 = .ok (.ifCond .eq 17, 3) := by decide +kernel
theorem dX12_forge_27 : decode cX12_forge 27 = .ok (.aload_n 0, 1) := by decide +kernel
theorem dX12_forge_28 : decode cX12_forge 28 = .ok (.getfield 60, 3) := by decide +kernel
theorem dX12_forge_31 : decode cX12_forge 31 = .ok (.bipush 7, 2) := by decide +kernel
theorem dX12_forge_33 : decode cX12_forge 33 = .ok (.iload_n 1, 1) := by decide +kernel
theorem dX12_forge_34 : decode cX12_forge 34 = .ok (.imul, 1) := by decide +kernel
theorem dX12_forge_35 : decode cX12_forge 35 = .ok (.iload_n 2, 1) := by decide +kernel
theorem dX12_forge_36 : decode cX12_forge 36 = .ok (.iadd, 1) := by decide +kernel
theorem dX12_forge_37 : decode cX12_forge 37 = .ok (.iload_n 3, 1) := by decide +kernel
theorem dX12_forge_38 : decode cX12_forge 38 = .ok (.iastore, 1) := by decide +kernel
theorem dX12_forge_39 : decode cX12_forge 39 = .ok (.iconst 1, 1) := by decide +kernel
theorem dX12_forge_40 : decode cX12_forge 40 = .ok (.ireturn, 1) := by decide +kernel
theorem dX12_forge_41 : decode cX12_forge 41 = .ok (.iload_n 2, 1) := by decide +kernel
theorem dX12_forge_42 : decode cX12_forge 42 = .ok (.bipush 11, 2) := by decide +kernel
theorem dX12_forge_44 : decode cX12_forge 44 = .ok (.bipush 10, 2) := by decide +kernel
theorem dX12_forge_46 : decode cX12_forge 46 = .ok (.iconst 4, 1) := by decide +kernel
theorem dX12_forge_47 : decode cX12_forge 47 = .ok (.aload_n 0, 1) := by decide +kernel
theorem dX12_forge_48 : decode cX12_forge 48 = .ok (.getfield 63, 3) := by decide +kernel
theorem dX12_forge_51 : decode cX12_forge 51 = .ok (.iload_n 1, 1) := by decide +kernel
theorem dX12_forge_52 : decode cX12_forge 52 = .ok (.iaload, 1) := by decide +kernel
theorem dX12_forge_53 : decode cX12_forge 53 = .ok (.imul, 1) := by decide +kernel
theorem dX12_forge_54 : decode cX12_forge 54 = .ok (.iadd, 1) := by decide +kernel
theorem dX12_forge_55 : decode cX12_forge 55 = .ok (.invokestatic 138, 3) := by decide +kernel
theorem dX12_forge_58 : decode cX12_forge 58 = .ok (.ifCond .eq 20, 3) := by decide +kernel
theorem dX12_forge_61 : decode cX12_forge 61 = .ok (.aload_n 0, 1) := by decide +kernel
theorem dX12_forge_62 : decode cX12_forge 62 = .ok (.getfield 66, 3) := by decide +kernel
theorem dX12_forge_65 : decode cX12_forge 65 = .ok (.bipush 32, 2) := by decide +kernel
theorem dX12_forge_67 : decode cX12_forge 67 = .ok (.iload_n 1, 1) := by decide +kernel
theorem dX12_forge_68 : decode cX12_forge 68 = .ok (.imul, 1) := by decide +kernel
theorem dX12_forge_69 : decode cX12_forge 69 = .ok (.iload_n 2, 1) := by decide +kernel
theorem dX12_forge_70 : decode cX12_forge 70 = .ok (.iadd, 1) := by decide +kernel
theorem dX12_forge_71 : decode cX12_forge 71 = .ok (.bipush 11, 2) := by decide +kernel
theorem dX12_forge_73 : decode cX12_forge 73 = .ok (.isub, 1) := by decide +kernel
theorem dX12_forge_74 : decode cX12_forge 74 = .ok (.iload_n 3, 1) := by decide +kernel
theorem dX12_forge_75 : decode cX12_forge 75 = .ok (.iastore, 1) := by decide +kernel
theorem dX12_forge_76 : decode cX12_forge 76 = .ok (.iconst 1, 1) := by decide +kernel
theorem dX12_forge_77 : decode cX12_forge 77 = .ok (.ireturn, 1) := by decide +kernel
theorem dX12_forge_78 : decode cX12_forge 78 = .ok (.bipush (-2), 2) := by decide +kernel
theorem dX12_forge_80 : decode cX12_forge 80 = .ok (.ireturn, 1) := by decide +kernel
theorem dX12_namesEarlier_0 : decode cX12_namesEarlier 0 = .ok (.bipush 7, 2) := by decide +kernel
theorem dX12_namesEarlier_2 : decode cX12_namesEarlier 2 = .ok (.iload_n 1, 1) := by decide +kernel
theorem dX12_namesEarlier_3 : decode cX12_namesEarlier 3 = .ok (.imul, 1) := by decide +kernel
theorem dX12_namesEarlier_4 : decode cX12_namesEarlier 4 = .ok (.istore_n 2, 1) := by decide +kernel
theorem dX12_namesEarlier_5 : decode cX12_namesEarlier 5 = .ok (.aload_n 0, 1) := by decide +kernel
theorem dX12_namesEarlier_6 : decode cX12_namesEarlier 6 = .ok (.getfield 60, 3) := by decide +kernel
theorem dX12_namesEarlier_9 : decode cX12_namesEarlier 9 = .ok (.iload_n 2, 1) := by decide +kernel
theorem dX12_namesEarlier_10 : decode cX12_namesEarlier 10 = .ok (.iaload, 1) := by decide +kernel
theorem dX12_namesEarlier_11 : decode cX12_namesEarlier 11 = .ok (.tableswitch 129 1 4 #[29, 71, 71, 87], 29) := by decide +kernel
theorem dX12_namesEarlier_40 : decode cX12_namesEarlier 40 = .ok (.aload_n 0, 1) := by decide +kernel
theorem dX12_namesEarlier_41 : decode cX12_namesEarlier 41 = .ok (.getfield 60, 3) := by decide +kernel
theorem dX12_namesEarlier_44 : decode cX12_namesEarlier 44 = .ok (.iload_n 2, 1) := by decide +kernel
theorem dX12_namesEarlier_45 : decode cX12_namesEarlier 45 = .ok (.iconst 1, 1) := by decide +kernel
theorem dX12_namesEarlier_46 : decode cX12_namesEarlier 46 = .ok (.iadd, 1) := by decide +kernel
theorem dX12_namesEarlier_47 : decode cX12_namesEarlier 47 = .ok (.iaload, 1) := by decide +kernel
theorem dX12_namesEarlier_48 : decode cX12_namesEarlier 48 = .ok (.iconst 0, 1) := by decide +kernel
theorem dX12_namesEarlier_49 : decode cX12_namesEarlier 49 = .ok (.iload_n 1, 1) := by decide +kernel
theorem dX12_namesEarlier_50 : decode cX12_namesEarlier 50 = .ok (.iconst 1, 1) := by decide +kernel
theorem dX12_namesEarlier_51 : decode cX12_namesEarlier 51 = .ok (.isub, 1) := by decide +kernel
theorem dX12_namesEarlier_52 : decode cX12_namesEarlier 52 = .ok (.invokestatic 138, 3) := by decide +kernel
theorem dX12_namesEarlier_55 : decode cX12_namesEarlier 55 = .ok (.ifCond .eq 25, 3) := by decide +kernel
theorem dX12_namesEarlier_58 : decode cX12_namesEarlier 58 = .ok (.aload_n 0, 1) := by decide +kernel
theorem dX12_namesEarlier_59 : decode cX12_namesEarlier 59 = .ok (.getfield 60, 3) := by decide +kernel
theorem dX12_namesEarlier_62 : decode cX12_namesEarlier 62 = .ok (.iload_n 2, 1) := by decide +kernel
theorem dX12_namesEarlier_63 : decode cX12_namesEarlier 63 = .ok (.iconst 3, 1) := by decide +kernel
theorem dX12_namesEarlier_64 : decode cX12_namesEarlier 64 = .ok (.iadd, 1) := by decide +kernel
theorem dX12_namesEarlier_65 : decode cX12_namesEarlier 65 = .ok (.iaload, 1) := by decide +kernel
theorem dX12_namesEarlier_66 : decode cX12_namesEarlier 66 = .ok (.iconst 0, 1) := by decide +kernel
theorem dX12_namesEarlier_67 : decode cX12_namesEarlier 67 = .ok (.iload_n 1, 1) := by decide +kernel
theorem dX12_namesEarlier_68 : decode cX12_namesEarlier 68 = .ok (.iconst 1, 1) := by decide +kernel
theorem dX12_namesEarlier_69 : decode cX12_namesEarlier 69 = .ok (.isub, 1) := by decide +kernel
theorem dX12_namesEarlier_70 : decode cX12_namesEarlier 70 = .ok (.invokestatic 138, 3) := by decide +kernel
theorem dX12_namesEarlier_73 : decode cX12_namesEarlier 73 = .ok (.ifCond .eq 7, 3) := by decide +kernel
theorem dX12_namesEarlier_76 : decode cX12_namesEarlier 76 = .ok (.iconst 1, 1) := by decide +kernel
theorem dX12_namesEarlier_77 : decode cX12_namesEarlier 77 = .ok (.goto 4, 3) := by decide +kernel
theorem dX12_namesEarlier_80 : decode cX12_namesEarlier 80 = .ok (.iconst 0, 1) := by decide +kernel
theorem dX12_namesEarlier_81 : decode cX12_namesEarlier 81 = .ok (.ireturn, 1) := by decide +kernel
theorem dX12_namesEarlier_82 : decode cX12_namesEarlier 82 = .ok (.aload_n 0, 1) := by decide +kernel
theorem dX12_namesEarlier_83 : decode cX12_namesEarlier 83 = .ok (.getfield 60, 3) := by decide +kernel
theorem dX12_namesEarlier_86 : decode cX12_namesEarlier 86 = .ok (.iload_n 2, 1) := by decide +kernel
theorem dX12_namesEarlier_87 : decode cX12_namesEarlier 87 = .ok (.iconst 1, 1) := by decide +kernel
theorem dX12_namesEarlier_88 : decode cX12_namesEarlier 88 = .ok (.iadd, 1) := by decide +kernel
theorem dX12_namesEarlier_89 : decode cX12_namesEarlier 89 = .ok (.iaload, 1) := by decide +kernel
theorem dX12_namesEarlier_90 : decode cX12_namesEarlier 90 = .ok (.iconst 0, 1) := by decide +kernel
theorem dX12_namesEarlier_91 : decode cX12_namesEarlier 91 = .ok (.iload_n 1, 1) := by decide +kernel
theorem dX12_namesEarlier_92 : decode cX12_namesEarlier 92 = .ok (.iconst 1, 1) := by decide +kernel
theorem dX12_namesEarlier_93 : decode cX12_namesEarlier 93 = .ok (.isub, 1) := by decide +kernel
theorem dX12_namesEarlier_94 : decode cX12_namesEarlier 94 = .ok (.invokestatic 138, 3) := by decide +kernel
theorem dX12_namesEarlier_97 : decode cX12_namesEarlier 97 = .ok (.ireturn, 1) := by decide +kernel
theorem dX12_namesEarlier_98 : decode cX12_namesEarlier 98 = .ok (.aload_n 0, 1) := by decide +kernel
theorem dX12_namesEarlier_99 : decode cX12_namesEarlier 99 = .ok (.getfield 60, 3) := by decide +kernel
theorem dX12_namesEarlier_102 : decode cX12_namesEarlier 102 = .ok (.iload_n 2, 1) := by decide +kernel
theorem dX12_namesEarlier_103 : decode cX12_namesEarlier 103 = .ok (.iconst 1, 1) := by decide +kernel
theorem dX12_namesEarlier_104 : decode cX12_namesEarlier 104 = .ok (.iadd, 1) := by decide +kernel
theorem dX12_namesEarlier_105 : decode cX12_namesEarlier 105 = .ok (.iaload, 1) := by decide +kernel
theorem dX12_namesEarlier_106 : decode cX12_namesEarlier 106 = .ok (.iconst 0, 1) := by decide +kernel
theorem dX12_namesEarlier_107 : decode cX12_namesEarlier 107 = .ok (.iload_n 1, 1) := by decide +kernel
theorem dX12_namesEarlier_108 : decode cX12_namesEarlier 108 = .ok (.iconst 1, 1) := by decide +kernel
theorem dX12_namesEarlier_109 : decode cX12_namesEarlier 109 = .ok (.isub, 1) := by decide +kernel
theorem dX12_namesEarlier_110 : decode cX12_namesEarlier 110 = .ok (.invokestatic 138, 3) := by decide +kernel
theorem dX12_namesEarlier_113 : decode cX12_namesEarlier 113 = .ok (.ifCond .eq 25, 3) := by decide +kernel
theorem dX12_namesEarlier_116 : decode cX12_namesEarlier 116 = .ok (.aload_n 0, 1) := by decide +kernel
theorem dX12_namesEarlier_117 : decode cX12_namesEarlier 117 = .ok (.getfield 60, 3) := by decide +kernel
theorem dX12_namesEarlier_120 : decode cX12_namesEarlier 120 = .ok (.iload_n 2, 1) := by decide +kernel
theorem dX12_namesEarlier_121 : decode cX12_namesEarlier 121 = .ok (.iconst 4, 1) := by decide +kernel
theorem dX12_namesEarlier_122 : decode cX12_namesEarlier 122 = .ok (.iadd, 1) := by decide +kernel
theorem dX12_namesEarlier_123 : decode cX12_namesEarlier 123 = .ok (.iaload, 1) := by decide +kernel
theorem dX12_namesEarlier_124 : decode cX12_namesEarlier 124 = .ok (.iconst 0, 1) := by decide +kernel
theorem dX12_namesEarlier_125 : decode cX12_namesEarlier 125 = .ok (.iload_n 1, 1) := by decide +kernel
theorem dX12_namesEarlier_126 : decode cX12_namesEarlier 126 = .ok (.iconst 1, 1) := by decide +kernel
theorem dX12_namesEarlier_127 : decode cX12_namesEarlier 127 = .ok (.isub, 1) := by decide +kernel
theorem dX12_namesEarlier_128 : decode cX12_namesEarlier 128 = .ok (.invokestatic 138, 3) := by decide +kernel
theorem dX12_namesEarlier_131 : decode cX12_namesEarlier 131 = .ok (.ifCond .eq 7, 3) := by decide +kernel
theorem dX12_namesEarlier_134 : decode cX12_namesEarlier 134 = .ok (.iconst 1, 1) := by decide +kernel
theorem dX12_namesEarlier_135 : decode cX12_namesEarlier 135 = .ok (.goto 4, 3) := by decide +kernel
theorem dX12_namesEarlier_138 : decode cX12_namesEarlier 138 = .ok (.iconst 0, 1) := by decide +kernel
theorem dX12_namesEarlier_139 : decode cX12_namesEarlier 139 = .ok (.ireturn, 1) := by decide +kernel
theorem dX12_namesEarlier_140 : decode cX12_namesEarlier 140 = .ok (.iconst 0, 1) := by decide +kernel
theorem dX12_namesEarlier_141 : decode cX12_namesEarlier 141 = .ok (.ireturn, 1) := by decide +kernel
theorem dX12_makesAgain_0 : decode cX12_makesAgain 0 = .ok (.bipush 7, 2) := by decide +kernel
theorem dX12_makesAgain_2 : decode cX12_makesAgain 2 = .ok (.iload_n 1, 1) := by decide +kernel
theorem dX12_makesAgain_3 : decode cX12_makesAgain 3 = .ok (.imul, 1) := by decide +kernel
theorem dX12_makesAgain_4 : decode cX12_makesAgain 4 = .ok (.istore_n 2, 1) := by decide +kernel
theorem dX12_makesAgain_5 : decode cX12_makesAgain 5 = .ok (.aload_n 0, 1) := by decide +kernel
theorem dX12_makesAgain_6 : decode cX12_makesAgain 6 = .ok (.getfield 60, 3) := by decide +kernel
theorem dX12_makesAgain_9 : decode cX12_makesAgain 9 = .ok (.iload_n 2, 1) := by decide +kernel
theorem dX12_makesAgain_10 : decode cX12_makesAgain 10 = .ok (.iaload, 1) := by decide +kernel
theorem dX12_makesAgain_11 : decode cX12_makesAgain 11 = .ok (.ifCond .ne 119, 3) := by decide +kernel
theorem dX12_makesAgain_14 : decode cX12_makesAgain 14 = .ok (.aload_n 0, 1) := by decide +kernel
theorem dX12_makesAgain_15 : decode cX12_makesAgain 15 = .ok (.aload_n 0, 1) := by decide +kernel
theorem dX12_makesAgain_16 : decode cX12_makesAgain 16 = .ok (.getfield 57, 3) := by decide +kernel
theorem dX12_makesAgain_19 : decode cX12_makesAgain 19 = .ok (.iload_n 1, 1) := by decide +kernel
theorem dX12_makesAgain_20 : decode cX12_makesAgain 20 = .ok (.iaload, 1) := by decide +kernel
theorem dX12_makesAgain_21 : decode cX12_makesAgain 21 = .ok (.putfield 167, 3) := by decide +kernel
theorem dX12_makesAgain_24 : decode cX12_makesAgain 24 = .ok (.iconst 0, 1) := by decide +kernel
theorem dX12_makesAgain_25 : decode cX12_makesAgain 25 = .ok (.istore_n 3, 1) := by decide +kernel
theorem dX12_makesAgain_26 : decode cX12_makesAgain 26 = .ok (.iload_n 3, 1) := by decide +kernel
theorem dX12_makesAgain_27 : decode cX12_makesAgain 27 = .ok (.aload_n 0, 1) := by decide +kernel
theorem dX12_makesAgain_28 : decode cX12_makesAgain 28 = .ok (.getfield 167, 3) := by decide +kernel
theorem dX12_makesAgain_31 : decode cX12_makesAgain 31 = .ok (.if_icmp .ge 92, 3) := by decide +kernel
theorem dX12_makesAgain_34 : decode cX12_makesAgain 34 = .ok (.aload_n 0, 1) := by decide +kernel
theorem dX12_makesAgain_35 : decode cX12_makesAgain 35 = .ok (.getfield 72, 3) := by decide +kernel
theorem dX12_makesAgain_38 : decode cX12_makesAgain 38 = .ok (.iload_n 3, 1) := by decide +kernel
theorem dX12_makesAgain_39 : decode cX12_makesAgain 39 = .ok (.aload_n 0, 1) := by decide +kernel
theorem dX12_makesAgain_40 : decode cX12_makesAgain 40 = .ok (.getfield 51, 3) := by decide +kernel
theorem dX12_makesAgain_43 : decode cX12_makesAgain 43 = .ok (.bipush 6, 2) := by decide +kernel
theorem dX12_makesAgain_45 : decode cX12_makesAgain 45 = .ok (.iload_n 1, 1) := by decide +kernel
theorem dX12_makesAgain_46 : decode cX12_makesAgain 46 = .ok (.imul, 1) := by decide +kernel
theorem dX12_makesAgain_47 : decode cX12_makesAgain 47 = .ok (.iload_n 3, 1) := by decide +kernel
theorem dX12_makesAgain_48 : decode cX12_makesAgain 48 = .ok (.iadd, 1) := by decide +kernel
theorem dX12_makesAgain_49 : decode cX12_makesAgain 49 = .ok (.iaload, 1) := by decide +kernel
theorem dX12_makesAgain_50 : decode cX12_makesAgain 50 = .ok (.iastore, 1) := by decide +kernel
theorem dX12_makesAgain_51 : decode cX12_makesAgain 51 = .ok (.aload_n 0, 1) := by decide +kernel
theorem dX12_makesAgain_52 : decode cX12_makesAgain 52 = .ok (.getfield 75, 3) := by decide +kernel
theorem dX12_makesAgain_55 : decode cX12_makesAgain 55 = .ok (.iload_n 3, 1) := by decide +kernel
theorem dX12_makesAgain_56 : decode cX12_makesAgain 56 = .ok (.aload_n 0, 1) := by decide +kernel
theorem dX12_makesAgain_57 : decode cX12_makesAgain 57 = .ok (.getfield 54, 3) := by decide +kernel
theorem dX12_makesAgain_60 : decode cX12_makesAgain 60 = .ok (.bipush 6, 2) := by decide +kernel
theorem dX12_makesAgain_62 : decode cX12_makesAgain 62 = .ok (.iload_n 1, 1) := by decide +kernel
theorem dX12_makesAgain_63 : decode cX12_makesAgain 63 = .ok (.imul, 1) := by decide +kernel
theorem dX12_makesAgain_64 : decode cX12_makesAgain 64 = .ok (.iload_n 3, 1) := by decide +kernel
theorem dX12_makesAgain_65 : decode cX12_makesAgain 65 = .ok (.iadd, 1) := by decide +kernel
theorem dX12_makesAgain_66 : decode cX12_makesAgain 66 = .ok (.baload, 1) := by decide +kernel
theorem dX12_makesAgain_67 : decode cX12_makesAgain 67 = .ok (.bastore, 1) := by decide +kernel
theorem dX12_makesAgain_68 : decode cX12_makesAgain 68 = .ok (.iconst 0, 1) := by decide +kernel
theorem dX12_makesAgain_69 : decode cX12_makesAgain 69 = .ok (.istore 4, 2) := by decide +kernel
theorem dX12_makesAgain_71 : decode cX12_makesAgain 71 = .ok (.iload 4, 2) := by decide +kernel
theorem dX12_makesAgain_73 : decode cX12_makesAgain 73 = .ok (.aload_n 0, 1) := by decide +kernel
theorem dX12_makesAgain_74 : decode cX12_makesAgain 74 = .ok (.getfield 72, 3) := by decide +kernel
theorem dX12_makesAgain_77 : decode cX12_makesAgain 77 = .ok (.iload_n 3, 1) := by decide +kernel
theorem dX12_makesAgain_78 : decode cX12_makesAgain 78 = .ok (.iaload, 1) := by decide +kernel
theorem dX12_makesAgain_79 : decode cX12_makesAgain 79 = .ok (.if_icmp .ge 38, 3) := by decide +kernel
theorem dX12_makesAgain_82 : decode cX12_makesAgain 82 = .ok (.aload_n 0, 1) := by decide +kernel
theorem dX12_makesAgain_83 : decode cX12_makesAgain 83 = .ok (.getfield 69, 3) := by decide +kernel
theorem dX12_makesAgain_86 : decode cX12_makesAgain 86 = .ok (.bipush 30, 2) := by decide +kernel
theorem dX12_makesAgain_88 : decode cX12_makesAgain 88 = .ok (.iload_n 3, 1) := by decide +kernel
theorem dX12_makesAgain_89 : decode cX12_makesAgain 89 = .ok (.imul, 1) := by decide +kernel
theorem dX12_makesAgain_90 : decode cX12_makesAgain 90 = .ok (.iload 4, 2) := by decide +kernel
theorem dX12_makesAgain_92 : decode cX12_makesAgain 92 = .ok (.iadd, 1) := by decide +kernel
theorem dX12_makesAgain_93 : decode cX12_makesAgain 93 = .ok (.aload_n 0, 1) := by decide +kernel
theorem dX12_makesAgain_94 : decode cX12_makesAgain 94 = .ok (.getfield 48, 3) := by decide +kernel
theorem dX12_makesAgain_97 : decode cX12_makesAgain 97 = .ok (.bipush 30, 2) := by decide +kernel
theorem dX12_makesAgain_99 : decode cX12_makesAgain 99 = .ok (.bipush 6, 2) := by decide +kernel
theorem dX12_makesAgain_101 : decode cX12_makesAgain 101 = .ok (.iload_n 1, 1) := by decide +kernel
theorem dX12_makesAgain_102 : decode cX12_makesAgain 102 = .ok (.imul, 1) := by decide +kernel
theorem dX12_makesAgain_103 : decode cX12_makesAgain 103 = .ok (.iload_n 3, 1) := by decide +kernel
theorem dX12_makesAgain_104 : decode cX12_makesAgain 104 = .ok (.iadd, 1) := by decide +kernel
theorem dX12_makesAgain_105 : decode cX12_makesAgain 105 = .ok (.imul, 1) := by decide +kernel
theorem dX12_makesAgain_106 : decode cX12_makesAgain 106 = .ok (.iload 4, 2) := by decide +kernel
theorem dX12_makesAgain_108 : decode cX12_makesAgain 108 = .ok (.iadd, 1) := by decide +kernel
theorem dX12_makesAgain_109 : decode cX12_makesAgain 109 = .ok (.iaload, 1) := by decide +kernel
theorem dX12_makesAgain_110 : decode cX12_makesAgain 110 = .ok (.iastore, 1) := by decide +kernel
theorem dX12_makesAgain_111 : decode cX12_makesAgain 111 = .ok (.iinc 4 1, 3) := by decide +kernel
theorem dX12_makesAgain_114 : decode cX12_makesAgain 114 = .ok (.goto (-43), 3) := by decide +kernel
theorem dX12_makesAgain_117 : decode cX12_makesAgain 117 = .ok (.iinc 3 1, 3) := by decide +kernel
theorem dX12_makesAgain_120 : decode cX12_makesAgain 120 = .ok (.goto (-94), 3) := by decide +kernel
theorem dX12_makesAgain_123 : decode cX12_makesAgain 123 = .ok (.aload_n 0, 1) := by decide +kernel
theorem dX12_makesAgain_124 : decode cX12_makesAgain 124 = .ok (.getfield 45, 3) := by decide +kernel
theorem dX12_makesAgain_127 : decode cX12_makesAgain 127 = .ok (.iload_n 1, 1) := by decide +kernel
theorem dX12_makesAgain_128 : decode cX12_makesAgain 128 = .ok (.baload, 1) := by decide +kernel
theorem dX12_makesAgain_129 : decode cX12_makesAgain 129 = .ok (.ireturn, 1) := by decide +kernel
theorem dX12_makesAgain_130 : decode cX12_makesAgain 130 = .ok (.aload_n 0, 1) := by decide +kernel
theorem dX12_makesAgain_131 : decode cX12_makesAgain 131 = .ok (.iload_n 1, 1) := by decide +kernel
theorem dX12_makesAgain_132 : decode cX12_makesAgain 132 = .ok (.invokevirtual 387, 3) := by decide +kernel
theorem dX12_makesAgain_135 : decode cX12_makesAgain 135 = .ok (.ifCond .eq 70, 3) := by decide +kernel
theorem dX12_makesAgain_138 : decode cX12_makesAgain 138 = .ok (.aload_n 0, 1) := by decide +kernel
theorem dX12_makesAgain_139 : decode cX12_makesAgain 139 = .ok (.aload_n 0, 1) := by decide +kernel
theorem dX12_makesAgain_140 : decode cX12_makesAgain 140 = .ok (.getfield 60, 3) := by decide +kernel
theorem dX12_makesAgain_143 : decode cX12_makesAgain 143 = .ok (.iload_n 2, 1) := by decide +kernel
theorem dX12_makesAgain_144 : decode cX12_makesAgain 144 = .ok (.iaload, 1) := by decide +kernel
theorem dX12_makesAgain_145 : decode cX12_makesAgain 145 = .ok (.aload_n 0, 1) := by decide +kernel
theorem dX12_makesAgain_146 : decode cX12_makesAgain 146 = .ok (.getfield 60, 3) := by decide +kernel
theorem dX12_makesAgain_149 : decode cX12_makesAgain 149 = .ok (.iload_n 2, 1) := by decide +kernel
theorem dX12_makesAgain_150 : decode cX12_makesAgain 150 = .ok (.iconst 1, 1) := by decide +kernel
theorem dX12_makesAgain_151 : decode cX12_makesAgain 151 = .ok (.iadd, 1) := by decide +kernel
theorem dX12_makesAgain_152 : decode cX12_makesAgain 152 = .ok (.iaload, 1) := by decide +kernel
theorem dX12_makesAgain_153 : decode cX12_makesAgain 153 = .ok (.aload_n 0, 1) := by decide +kernel
theorem dX12_makesAgain_154 : decode cX12_makesAgain 154 = .ok (.getfield 60, 3) := by decide +kernel
theorem dX12_makesAgain_157 : decode cX12_makesAgain 157 = .ok (.iload_n 2, 1) := by decide +kernel
theorem dX12_makesAgain_158 : decode cX12_makesAgain 158 = .ok (.iconst 2, 1) := by decide +kernel
theorem dX12_makesAgain_159 : decode cX12_makesAgain 159 = .ok (.iadd, 1) := by decide +kernel
theorem dX12_makesAgain_160 : decode cX12_makesAgain 160 = .ok (.iaload, 1) := by decide +kernel
theorem dX12_makesAgain_161 : decode cX12_makesAgain 161 = .ok (.aload_n 0, 1) := by decide +kernel
theorem dX12_makesAgain_162 : decode cX12_makesAgain 162 = .ok (.getfield 60, 3) := by decide +kernel
theorem dX12_makesAgain_165 : decode cX12_makesAgain 165 = .ok (.iload_n 2, 1) := by decide +kernel
theorem dX12_makesAgain_166 : decode cX12_makesAgain 166 = .ok (.iconst 3, 1) := by decide +kernel
theorem dX12_makesAgain_167 : decode cX12_makesAgain 167 = .ok (.iadd, 1) := by decide +kernel
theorem dX12_makesAgain_168 : decode cX12_makesAgain 168 = .ok (.iaload, 1) := by decide +kernel
theorem dX12_makesAgain_169 : decode cX12_makesAgain 169 = .ok (.aload_n 0, 1) := by decide +kernel
theorem dX12_makesAgain_170 : decode cX12_makesAgain 170 = .ok (.getfield 60, 3) := by decide +kernel
theorem dX12_makesAgain_173 : decode cX12_makesAgain 173 = .ok (.iload_n 2, 1) := by decide +kernel
theorem dX12_makesAgain_174 : decode cX12_makesAgain 174 = .ok (.iconst 4, 1) := by decide +kernel
theorem dX12_makesAgain_175 : decode cX12_makesAgain 175 = .ok (.iadd, 1) := by decide +kernel
theorem dX12_makesAgain_176 : decode cX12_makesAgain 176 = .ok (.iaload, 1) := by decide +kernel
theorem dX12_makesAgain_177 : decode cX12_makesAgain 177 = .ok (.aload_n 0, 1) := by decide +kernel
theorem dX12_makesAgain_178 : decode cX12_makesAgain 178 = .ok (.getfield 60, 3) := by decide +kernel
theorem dX12_makesAgain_181 : decode cX12_makesAgain 181 = .ok (.iload_n 2, 1) := by decide +kernel
theorem dX12_makesAgain_182 : decode cX12_makesAgain 182 = .ok (.iconst 5, 1) := by decide +kernel
theorem dX12_makesAgain_183 : decode cX12_makesAgain 183 = .ok (.iadd, 1) := by decide +kernel
theorem dX12_makesAgain_184 : decode cX12_makesAgain 184 = .ok (.iaload, 1) := by decide +kernel
theorem dX12_makesAgain_185 : decode cX12_makesAgain 185 = .ok (.aload_n 0, 1) := by decide +kernel
theorem dX12_makesAgain_186 : decode cX12_makesAgain 186 = .ok (.getfield 60, 3) := by decide +kernel
theorem dX12_makesAgain_189 : decode cX12_makesAgain 189 = .ok (.iload_n 2, 1) := by decide +kernel
theorem dX12_makesAgain_190 : decode cX12_makesAgain 190 = .ok (.bipush 6, 2) := by decide +kernel
theorem dX12_makesAgain_192 : decode cX12_makesAgain 192 = .ok (.iadd, 1) := by decide +kernel
theorem dX12_makesAgain_193 : decode cX12_makesAgain 193 = .ok (.iaload, 1) := by decide +kernel
theorem dX12_makesAgain_194 : decode cX12_makesAgain 194 = .ok (.invokevirtual 350, 3) := by decide +kernel
theorem dX12_makesAgain_197 : decode cX12_makesAgain 197 = .ok (.iconst 1, 1) := by decide +kernel
theorem dX12_makesAgain_198 : decode cX12_makesAgain 198 = .ok (.if_icmp .ne 7, 3) := by decide +kernel
theorem dX12_makesAgain_201 : decode cX12_makesAgain 201 = .ok (.iconst 1, 1) := by decide +kernel
theorem dX12_makesAgain_202 : decode cX12_makesAgain 202 = .ok (.goto 4, 3) := by decide +kernel
theorem dX12_makesAgain_205 : decode cX12_makesAgain 205 = .ok (.iconst 0, 1) := by decide +kernel
theorem dX12_makesAgain_206 : decode cX12_makesAgain 206 = .ok (.ireturn, 1) := by decide +kernel
theorem dX12_rewritesAgain_0 : decode cX12_rewritesAgain 0 = .ok (.iconst 0, 1) := by decide +kernel
theorem dX12_rewritesAgain_1 : decode cX12_rewritesAgain 1 = .ok (.istore_n 2, 1) := by decide +kernel
theorem dX12_rewritesAgain_2 : decode cX12_rewritesAgain 2 = .ok (.iload_n 2, 1) := by decide +kernel
theorem dX12_rewritesAgain_3 : decode cX12_rewritesAgain 3 = .ok (.aload_n 0, 1) := by decide +kernel
theorem dX12_rewritesAgain_4 : decode cX12_rewritesAgain 4 = .ok (.getfield 63, 3) := by decide +kernel
theorem dX12_rewritesAgain_7 : decode cX12_rewritesAgain 7 = .ok (.iload_n 1, 1) := by decide +kernel
theorem dX12_rewritesAgain_8 : decode cX12_rewritesAgain 8 = .ok (.iaload, 1) := by decide +kernel
theorem dX12_rewritesAgain_9 : decode cX12_rewritesAgain 9 = .ok (.if_icmp .ge 194, 3) := by decide +kernel
theorem dX12_rewritesAgain_12 : decode cX12_rewritesAgain 12 = .ok (.bipush 32, 2) := by decide +kernel
theorem dX12_rewritesAgain_14 : decode cX12_rewritesAgain 14 = .ok (.iload_n 1, 1) := by decide +kernel
theorem dX12_rewritesAgain_15 : decode cX12_rewritesAgain 15 = .ok (.imul, 1) := by decide +kernel
theorem dX12_rewritesAgain_16 : decode cX12_rewritesAgain 16 = .ok (.iconst 4, 1) := by decide +kernel
theorem dX12_rewritesAgain_17 : decode cX12_rewritesAgain 17 = .ok (.iload_n 2, 1) := by decide +kernel
theorem dX12_rewritesAgain_18 : decode cX12_rewritesAgain 18 = .ok (.imul, 1) := by decide +kernel
theorem dX12_rewritesAgain_19 : decode cX12_rewritesAgain 19 = .ok (.iadd, 1) := by decide +kernel
theorem dX12_rewritesAgain_20 : decode cX12_rewritesAgain 20 = .ok (.istore_n 3, 1) := by decide +kernel
theorem dX12_rewritesAgain_21 : decode cX12_rewritesAgain 21 = .ok (.aload_n 0, 1) := by decide +kernel
theorem dX12_rewritesAgain_22 : decode cX12_rewritesAgain 22 = .ok (.getfield 66, 3) := by decide +kernel
theorem dX12_rewritesAgain_25 : decode cX12_rewritesAgain 25 = .ok (.iload_n 3, 1) := by decide +kernel
theorem dX12_rewritesAgain_26 : decode cX12_rewritesAgain 26 = .ok (.iaload, 1) := by decide +kernel
theorem dX12_rewritesAgain_27 : decode cX12_rewritesAgain 27 = .ok (.istore 4, 2) := by decide +kernel
theorem dX12_rewritesAgain_29 : decode cX12_rewritesAgain 29 = .ok (.aload_n 0, 1) := by decide +kernel
theorem dX12_rewritesAgain_30 : decode cX12_rewritesAgain 30 = .ok (.getfield 66, 3) := by decide +kernel
theorem dX12_rewritesAgain_33 : decode cX12_rewritesAgain 33 = .ok (.iload_n 3, 1) := by decide +kernel
theorem dX12_rewritesAgain_34 : decode cX12_rewritesAgain 34 = .ok (.iconst 1, 1) := by decide +kernel
theorem dX12_rewritesAgain_35 : decode cX12_rewritesAgain 35 = .ok (.iadd, 1) := by decide +kernel
theorem dX12_rewritesAgain_36 : decode cX12_rewritesAgain 36 = .ok (.iaload, 1) := by decide +kernel
theorem dX12_rewritesAgain_37 : decode cX12_rewritesAgain 37 = .ok (.istore 5, 2) := by decide +kernel
theorem dX12_rewritesAgain_39 : decode cX12_rewritesAgain 39 = .ok (.aload_n 0, 1) := by decide +kernel
theorem dX12_rewritesAgain_40 : decode cX12_rewritesAgain 40 = .ok (.getfield 66, 3) := by decide +kernel
theorem dX12_rewritesAgain_43 : decode cX12_rewritesAgain 43 = .ok (.iload_n 3, 1) := by decide +kernel
theorem dX12_rewritesAgain_44 : decode cX12_rewritesAgain 44 = .ok (.iconst 2, 1) := by decide +kernel
theorem dX12_rewritesAgain_45 : decode cX12_rewritesAgain 45 = .ok (.iadd, 1) := by decide +kernel
theorem dX12_rewritesAgain_46 : decode cX12_rewritesAgain 46 = .ok (.iaload, 1) := by decide +kernel
theorem dX12_rewritesAgain_47 : decode cX12_rewritesAgain 47 = .ok (.istore 6, 2) := by decide +kernel
theorem dX12_rewritesAgain_49 : decode cX12_rewritesAgain 49 = .ok (.aload_n 0, 1) := by decide +kernel
theorem dX12_rewritesAgain_50 : decode cX12_rewritesAgain 50 = .ok (.getfield 66, 3) := by decide +kernel
theorem dX12_rewritesAgain_53 : decode cX12_rewritesAgain 53 = .ok (.iload_n 3, 1) := by decide +kernel
theorem dX12_rewritesAgain_54 : decode cX12_rewritesAgain 54 = .ok (.iconst 3, 1) := by decide +kernel
theorem dX12_rewritesAgain_55 : decode cX12_rewritesAgain 55 = .ok (.iadd, 1) := by decide +kernel
theorem dX12_rewritesAgain_56 : decode cX12_rewritesAgain 56 = .ok (.iaload, 1) := by decide +kernel
theorem dX12_rewritesAgain_57 : decode cX12_rewritesAgain 57 = .ok (.istore 7, 2) := by decide +kernel
theorem dX12_rewritesAgain_59 : decode cX12_rewritesAgain 59 = .ok (.iload 4, 2) := by decide +kernel
theorem dX12_rewritesAgain_61 : decode cX12_rewritesAgain 61 = .ok (.iconst 0, 1) := by decide +kernel
theorem dX12_rewritesAgain_62 : decode cX12_rewritesAgain 62 = .ok (.iload_n 1, 1) := by decide +kernel
theorem dX12_rewritesAgain_63 : decode cX12_rewritesAgain 63 = .ok (.iconst 1, 1) := by decide +kernel
theorem dX12_rewritesAgain_64 : decode cX12_rewritesAgain 64 = .ok (.isub, 1) := by decide +kernel
theorem dX12_rewritesAgain_65 : decode cX12_rewritesAgain 65 = .ok (.invokestatic 138, 3) := by decide +kernel
theorem dX12_rewritesAgain_68 : decode cX12_rewritesAgain 68 = .ok (.ifCond .eq 73, 3) := by decide +kernel
theorem dX12_rewritesAgain_71 : decode cX12_rewritesAgain 71 = .ok (.aload_n 0, 1) := by decide +kernel
theorem dX12_rewritesAgain_72 : decode cX12_rewritesAgain 72 = .ok (.iload 4, 2) := by decide +kernel
theorem dX12_rewritesAgain_74 : decode cX12_rewritesAgain 74 = .ok (.invokevirtual 227, 3) := by decide +kernel
theorem dX12_rewritesAgain_77 : decode cX12_rewritesAgain 77 = .ok (.ifCond .eq 64, 3) := by decide +kernel
theorem dX12_rewritesAgain_80 : decode cX12_rewritesAgain 80 = .ok (.iload 5, 2) := by decide +kernel
theorem dX12_rewritesAgain_82 : decode cX12_rewritesAgain 82 = .ok (.iconst 0, 1) := by decide +kernel
theorem dX12_rewritesAgain_83 : decode cX12_rewritesAgain 83 = .ok (.iconst 1, 1) := by decide +kernel
theorem dX12_rewritesAgain_84 : decode cX12_rewritesAgain 84 = .ok (.invokestatic 138, 3) := by decide +kernel
theorem dX12_rewritesAgain_87 : decode cX12_rewritesAgain 87 = .ok (.ifCond .eq 54, 3) := by decide +kernel
theorem dX12_rewritesAgain_90 : decode cX12_rewritesAgain 90 = .ok (.iload 6, 2) := by decide +kernel
theorem dX12_rewritesAgain_92 : decode cX12_rewritesAgain 92 = .ok (.iconst 0, 1) := by decide +kernel
theorem dX12_rewritesAgain_93 : decode cX12_rewritesAgain 93 = .ok (.aload_n 0, 1) := by decide +kernel
theorem dX12_rewritesAgain_94 : decode cX12_rewritesAgain 94 = .ok (.getfield 167, 3) := by decide +kernel
theorem dX12_rewritesAgain_97 : decode cX12_rewritesAgain 97 = .ok (.iconst 1, 1) := by decide +kernel
theorem dX12_rewritesAgain_98 : decode cX12_rewritesAgain 98 = .ok (.isub, 1) := by decide +kernel
theorem dX12_rewritesAgain_99 : decode cX12_rewritesAgain 99 = .ok (.invokestatic 138, 3) := by decide +kernel
theorem dX12_rewritesAgain_102 : decode cX12_rewritesAgain 102 = .ok (.ifCond .eq 39, 3) := by decide +kernel
theorem dX12_rewritesAgain_105 : decode cX12_rewritesAgain 105 = .ok (.iload 7, 2) := by decide +kernel
theorem dX12_rewritesAgain_107 : decode cX12_rewritesAgain 107 = .ok (.iconst 1, 1) := by decide +kernel
theorem dX12_rewritesAgain_108 : decode cX12_rewritesAgain 108 = .ok (.aload_n 0, 1) := by decide +kernel
theorem dX12_rewritesAgain_109 : decode cX12_rewritesAgain 109 = .ok (.getfield 72, 3) := by decide +kernel
theorem dX12_rewritesAgain_112 : decode cX12_rewritesAgain 112 = .ok (.iload 6, 2) := by decide +kernel
theorem dX12_rewritesAgain_114 : decode cX12_rewritesAgain 114 = .ok (.iconst 0, 1) := by decide +kernel
theorem dX12_rewritesAgain_115 : decode cX12_rewritesAgain 115 = .ok (.iconst 5, 1) := by decide +kernel
theorem dX12_rewritesAgain_116 : decode cX12_rewritesAgain 116 = .ok (.invokestatic 138, 3) := by decide +kernel
theorem dX12_rewritesAgain_119 : decode cX12_rewritesAgain 119 = .ok (.ifCond .eq 8, 3) := by decide +kernel
theorem dX12_rewritesAgain_122 : decode cX12_rewritesAgain 122 = .ok (.iload 6, 2) := by decide +kernel
theorem dX12_rewritesAgain_124 : decode cX12_rewritesAgain 124 = .ok (.goto 4, 3) := by decide +kernel
theorem dX12_rewritesAgain_127 : decode cX12_rewritesAgain 127 = .ok (.iconst 0, 1) := by decide +kernel
theorem dX12_rewritesAgain_128 : decode cX12_rewritesAgain 128 = .ok (.iaload, 1) := by decide +kernel
theorem dX12_rewritesAgain_129 : decode cX12_rewritesAgain 129 = .ok (.iconst 1, 1) := by decide +kernel
theorem dX12_rewritesAgain_130 : decode cX12_rewritesAgain 130 = .ok (.isub, 1) := by decide +kernel
theorem dX12_rewritesAgain_131 : decode cX12_rewritesAgain 131 = .ok (.invokestatic 138, 3) := by decide +kernel
theorem dX12_rewritesAgain_134 : decode cX12_rewritesAgain 134 = .ok (.ifCond .eq 7, 3) := by decide +kernel
theorem dX12_rewritesAgain_137 : decode cX12_rewritesAgain 137 = .ok (.iconst 1, 1) := by decide +kernel
theorem dX12_rewritesAgain_138 : decode cX12_rewritesAgain 138 = .ok (.goto 4, 3) := by decide +kernel
theorem dX12_rewritesAgain_141 : decode cX12_rewritesAgain 141 = .ok (.iconst 0, 1) := by decide +kernel
theorem dX12_rewritesAgain_142 : decode cX12_rewritesAgain 142 = .ok (.istore 8, 2) := by decide +kernel
theorem dX12_rewritesAgain_144 : decode cX12_rewritesAgain 144 = .ok (.iload 8, 2) := by decide +kernel
theorem dX12_rewritesAgain_146 : decode cX12_rewritesAgain 146 = .ok (.ifCond .eq 45, 3) := by decide +kernel
theorem dX12_rewritesAgain_149 : decode cX12_rewritesAgain 149 = .ok (.aload_n 0, 1) := by decide +kernel
theorem dX12_rewritesAgain_150 : decode cX12_rewritesAgain 150 = .ok (.getfield 69, 3) := by decide +kernel
theorem dX12_rewritesAgain_153 : decode cX12_rewritesAgain 153 = .ok (.bipush 30, 2) := by decide +kernel
theorem dX12_rewritesAgain_155 : decode cX12_rewritesAgain 155 = .ok (.iload 6, 2) := by decide +kernel
theorem dX12_rewritesAgain_157 : decode cX12_rewritesAgain 157 = .ok (.imul, 1) := by decide +kernel
theorem dX12_rewritesAgain_158 : decode cX12_rewritesAgain 158 = .ok (.iload 7, 2) := by decide +kernel
theorem dX12_rewritesAgain_160 : decode cX12_rewritesAgain 160 = .ok (.iadd, 1) := by decide +kernel
theorem dX12_rewritesAgain_161 : decode cX12_rewritesAgain 161 = .ok (.iaload, 1) := by decide +kernel
theorem dX12_rewritesAgain_162 : decode cX12_rewritesAgain 162 = .ok (.ifCond .lt 29, 3) := by decide +kernel
theorem dX12_rewritesAgain_165 : decode cX12_rewritesAgain 165 = .ok (.aload_n 0, 1) := by decide +kernel
theorem dX12_rewritesAgain_166 : decode cX12_rewritesAgain 166 = .ok (.iload 4, 2) := by decide +kernel
theorem dX12_rewritesAgain_168 : decode cX12_rewritesAgain 168 = .ok (.iload 5, 2) := by decide +kernel
theorem dX12_rewritesAgain_170 : decode cX12_rewritesAgain 170 = .ok (.iload 6, 2) := by decide +kernel
theorem dX12_rewritesAgain_172 : decode cX12_rewritesAgain 172 = .ok (.iload 7, 2) := by decide +kernel
theorem dX12_rewritesAgain_174 : decode cX12_rewritesAgain 174 = .ok (.invokevirtual 230, 3) := by decide +kernel
theorem dX12_rewritesAgain_177 : decode cX12_rewritesAgain 177 = .ok (.ifCond .eq 14, 3) := by decide +kernel
theorem dX12_rewritesAgain_180 : decode cX12_rewritesAgain 180 = .ok (.aload_n 0, 1) := by decide +kernel
theorem dX12_rewritesAgain_181 : decode cX12_rewritesAgain 181 = .ok (.iload 6, 2) := by decide +kernel
theorem dX12_rewritesAgain_183 : decode cX12_rewritesAgain 183 = .ok (.iload 7, 2) := by decide +kernel
theorem dX12_rewritesAgain_185 : decode cX12_rewritesAgain 185 = .ok (.invokevirtual 243, 3) := by decide +kernel
theorem dX12_rewritesAgain_188 : decode cX12_rewritesAgain 188 = .ok (.ifCond .ne 5, 3) := by decide +kernel
theorem dX12_rewritesAgain_191 : decode cX12_rewritesAgain 191 = .ok (.iconst 0, 1) := by decide +kernel
theorem dX12_rewritesAgain_192 : decode cX12_rewritesAgain 192 = .ok (.ireturn, 1) := by decide +kernel
theorem dX12_rewritesAgain_193 : decode cX12_rewritesAgain 193 = .ok (.aload_n 0, 1) := by decide +kernel
theorem dX12_rewritesAgain_194 : decode cX12_rewritesAgain 194 = .ok (.invokevirtual 236, 3) := by decide +kernel
theorem dX12_rewritesAgain_197 : decode cX12_rewritesAgain 197 = .ok (.iinc 2 1, 3) := by decide +kernel
theorem dX12_rewritesAgain_200 : decode cX12_rewritesAgain 200 = .ok (.goto (-198), 3) := by decide +kernel
theorem dX12_rewritesAgain_203 : decode cX12_rewritesAgain 203 = .ok (.iconst 1, 1) := by decide +kernel
theorem dX12_rewritesAgain_204 : decode cX12_rewritesAgain 204 = .ok (.ireturn, 1) := by decide +kernel
theorem dX12_isWork_0 : decode cX12_isWork 0 = .ok (.aload_n 0, 1) := by decide +kernel
theorem dX12_isWork_1 : decode cX12_isWork 1 = .ok (.getfield 167, 3) := by decide +kernel
theorem dX12_isWork_4 : decode cX12_isWork 4 = .ok (.aload_n 0, 1) := by decide +kernel
theorem dX12_isWork_5 : decode cX12_isWork 5 = .ok (.getfield 36, 3) := by decide +kernel
theorem dX12_isWork_8 : decode cX12_isWork 8 = .ok (.iload_n 1, 1) := by decide +kernel
theorem dX12_isWork_9 : decode cX12_isWork 9 = .ok (.iaload, 1) := by decide +kernel
theorem dX12_isWork_10 : decode cX12_isWork 10 = .ok (.if_icmp .ne 7, 3) := by decide +kernel
theorem dX12_isWork_13 : decode cX12_isWork 13 = .ok (.iconst 1, 1) := by decide +kernel
theorem dX12_isWork_14 : decode cX12_isWork 14 = .ok (.goto 4, 3) := by decide +kernel
theorem dX12_isWork_17 : decode cX12_isWork 17 = .ok (.iconst 0, 1) := by decide +kernel
theorem dX12_isWork_18 : decode cX12_isWork 18 = .ok (.istore_n 2, 1) := by decide +kernel
theorem dX12_isWork_19 : decode cX12_isWork 19 = .ok (.iconst 0, 1) := by decide +kernel
theorem dX12_isWork_20 : decode cX12_isWork 20 = .ok (.istore_n 3, 1) := by decide +kernel
theorem dX12_isWork_21 : decode cX12_isWork 21 = .ok (.iload_n 3, 1) := by decide +kernel
theorem dX12_isWork_22 : decode cX12_isWork 22 = .ok (.aload_n 0, 1) := by decide +kernel
theorem dX12_isWork_23 : decode cX12_isWork 23 = .ok (.getfield 167, 3) := by decide +kernel
theorem dX12_isWork_26 : decode cX12_isWork 26 = .ok (.if_icmp .ge 89, 3) := by decide +kernel
theorem dX12_isWork_29 : decode cX12_isWork 29 = .ok (.iload_n 2, 1) := by decide +kernel
theorem dX12_isWork_30 : decode cX12_isWork 30 = .ok (.ifCond .eq 85, 3) := by decide +kernel
theorem dX12_isWork_33 : decode cX12_isWork 33 = .ok (.bipush 6, 2) := by decide +kernel
theorem dX12_isWork_35 : decode cX12_isWork 35 = .ok (.iload_n 1, 1) := by decide +kernel
theorem dX12_isWork_36 : decode cX12_isWork 36 = .ok (.imul, 1) := by decide +kernel
theorem dX12_isWork_37 : decode cX12_isWork 37 = .ok (.iload_n 3, 1) := by decide +kernel
theorem dX12_isWork_38 : decode cX12_isWork 38 = .ok (.iadd, 1) := by decide +kernel
theorem dX12_isWork_39 : decode cX12_isWork 39 = .ok (.istore 4, 2) := by decide +kernel
theorem dX12_isWork_41 : decode cX12_isWork 41 = .ok (.aload_n 0, 1) := by decide +kernel
theorem dX12_isWork_42 : decode cX12_isWork 42 = .ok (.getfield 75, 3) := by decide +kernel
theorem dX12_isWork_45 : decode cX12_isWork 45 = .ok (.iload_n 3, 1) := by decide +kernel
theorem dX12_isWork_46 : decode cX12_isWork 46 = .ok (.baload, 1) := by decide +kernel
theorem dX12_isWork_47 : decode cX12_isWork 47 = .ok (.aload_n 0, 1) := by decide +kernel
theorem dX12_isWork_48 : decode cX12_isWork 48 = .ok (.getfield 33, 3) := by decide +kernel
theorem dX12_isWork_51 : decode cX12_isWork 51 = .ok (.iload 4, 2) := by decide +kernel
theorem dX12_isWork_53 : decode cX12_isWork 53 = .ok (.baload, 1) := by decide +kernel
theorem dX12_isWork_54 : decode cX12_isWork 54 = .ok (.if_icmp .ne 53, 3) := by decide +kernel
theorem dX12_isWork_57 : decode cX12_isWork 57 = .ok (.aload_n 0, 1) := by decide +kernel
theorem dX12_isWork_58 : decode cX12_isWork 58 = .ok (.getfield 72, 3) := by decide +kernel
theorem dX12_isWork_61 : decode cX12_isWork 61 = .ok (.iload_n 3, 1) := by decide +kernel
theorem dX12_isWork_62 : decode cX12_isWork 62 = .ok (.iaload, 1) := by decide +kernel
theorem dX12_isWork_63 : decode cX12_isWork 63 = .ok (.aload_n 0, 1) := by decide +kernel
theorem dX12_isWork_64 : decode cX12_isWork 64 = .ok (.getfield 30, 3) := by decide +kernel
theorem dX12_isWork_67 : decode cX12_isWork 67 = .ok (.iload 4, 2) := by decide +kernel
theorem dX12_isWork_69 : decode cX12_isWork 69 = .ok (.iaload, 1) := by decide +kernel
theorem dX12_isWork_70 : decode cX12_isWork 70 = .ok (.if_icmp .ne 37, 3) := by decide +kernel
theorem dX12_isWork_73 : decode cX12_isWork 73 = .ok (.aload_n 0, 1) := by decide +kernel
theorem dX12_isWork_74 : decode cX12_isWork 74 = .ok (.getfield 69, 3) := by decide +kernel
theorem dX12_isWork_77 : decode cX12_isWork 77 = .ok (.bipush 30, 2) := by decide +kernel
theorem dX12_isWork_79 : decode cX12_isWork 79 = .ok (.iload_n 3, 1) := by decide +kernel
theorem dX12_isWork_80 : decode cX12_isWork 80 = .ok (.imul, 1) := by decide +kernel
theorem dX12_isWork_81 : decode cX12_isWork 81 = .ok (.aload_n 0, 1) := by decide +kernel
theorem dX12_isWork_82 : decode cX12_isWork 82 = .ok (.getfield 27, 3) := by decide +kernel
theorem dX12_isWork_85 : decode cX12_isWork 85 = .ok (.bipush 30, 2) := by decide +kernel
theorem dX12_isWork_87 : decode cX12_isWork 87 = .ok (.iload 4, 2) := by decide +kernel
theorem dX12_isWork_89 : decode cX12_isWork 89 = .ok (.imul, 1) := by decide +kernel
theorem dX12_isWork_90 : decode cX12_isWork 90 = .ok (.aload_n 0, 1) := by decide +kernel
theorem dX12_isWork_91 : decode cX12_isWork 91 = .ok (.getfield 30, 3) := by decide +kernel
theorem dX12_isWork_94 : decode cX12_isWork 94 = .ok (.iload 4, 2) := by decide +kernel
theorem dX12_isWork_96 : decode cX12_isWork 96 = .ok (.iaload, 1) := by decide +kernel
theorem dX12_isWork_97 : decode cX12_isWork 97 = .ok (.invokestatic 152, 3) := by decide +kernel
theorem dX12_isWork_100 : decode cX12_isWork 100 = .ok (.ifCond .eq 7, 3) := by decide +kernel
theorem dX12_isWork_103 : decode cX12_isWork 103 = .ok (.iconst 1, 1) := by decide +kernel
theorem dX12_isWork_104 : decode cX12_isWork 104 = .ok (.goto 4, 3) := by decide +kernel
theorem dX12_isWork_107 : decode cX12_isWork 107 = .ok (.iconst 0, 1) := by decide +kernel
theorem dX12_isWork_108 : decode cX12_isWork 108 = .ok (.istore_n 2, 1) := by decide +kernel
theorem dX12_isWork_109 : decode cX12_isWork 109 = .ok (.iinc 3 1, 3) := by decide +kernel
theorem dX12_isWork_112 : decode cX12_isWork 112 = .ok (.goto (-91), 3) := by decide +kernel
theorem dX12_isWork_115 : decode cX12_isWork 115 = .ok (.iload_n 2, 1) := by decide +kernel
theorem dX12_isWork_116 : decode cX12_isWork 116 = .ok (.ireturn, 1) := by decide +kernel
theorem dX12_judge_0 : decode cX12_judge 0 = .ok (.aload_n 0, 1) := by decide +kernel
theorem dX12_judge_1 : decode cX12_judge 1 = .ok (.iload_n 1, 1) := by decide +kernel
theorem dX12_judge_2 : decode cX12_judge 2 = .ok (.invokevirtual 380, 3) := by decide +kernel
theorem dX12_judge_5 : decode cX12_judge 5 = .ok (.ifCond .ne 6, 3) := by decide +kernel
theorem dX12_judge_8 : decode cX12_judge 8 = .ok (.bipush (-2), 2) := by decide +kernel
theorem dX12_judge_10 : decode cX12_judge 10 = .ok (.ireturn, 1) := by decide +kernel
theorem dX12_judge_11 : decode cX12_judge 11 = .ok (.aload_n 0, 1) := by decide +kernel
theorem dX12_judge_12 : decode cX12_judge 12 = .ok (.iload_n 1, 1) := by decide +kernel
theorem dX12_judge_13 : decode cX12_judge 13 = .ok (.invokevirtual 390, 3) := by decide +kernel
theorem dX12_judge_16 : decode cX12_judge 16 = .ok (.ifCond .ne 5, 3) := by decide +kernel
theorem dX12_judge_19 : decode cX12_judge 19 = .ok (.iconst 0, 1) := by decide +kernel
theorem dX12_judge_20 : decode cX12_judge 20 = .ok (.ireturn, 1) := by decide +kernel
theorem dX12_judge_21 : decode cX12_judge 21 = .ok (.aload_n 0, 1) := by decide +kernel
theorem dX12_judge_22 : decode cX12_judge 22 = .ok (.invokevirtual 236, 3) := by decide +kernel
theorem dX12_judge_25 : decode cX12_judge 25 = .ok (.aload_n 0, 1) := by decide +kernel
theorem dX12_judge_26 : decode cX12_judge 26 = .ok (.getfield 185, 3) := by decide +kernel
theorem dX12_judge_29 : decode cX12_judge 29 = .ok (.bipush 20, 2) := by decide +kernel
theorem dX12_judge_31 : decode cX12_judge 31 = .ok (.if_icmp .gt 23, 3) := by decide +kernel
theorem dX12_judge_34 : decode cX12_judge 34 = .ok (.aload_n 0, 1) := by decide +kernel
theorem dX12_judge_35 : decode cX12_judge 35 = .ok (.iload_n 1, 1) := by decide +kernel
theorem dX12_judge_36 : decode cX12_judge 36 = .ok (.invokevirtual 393, 3) := by decide +kernel
theorem dX12_judge_39 : decode cX12_judge 39 = .ok (.ifCond .eq 15, 3) := by decide +kernel
theorem dX12_judge_42 : decode cX12_judge 42 = .ok (.aload_n 0, 1) := by decide +kernel
theorem dX12_judge_43 : decode cX12_judge 43 = .ok (.iload_n 1, 1) := by decide +kernel
theorem dX12_judge_44 : decode cX12_judge 44 = .ok (.invokevirtual 396, 3) := by decide +kernel
theorem dX12_judge_47 : decode cX12_judge 47 = .ok (.ifCond .eq 7, 3) := by decide +kernel
theorem dX12_judge_50 : decode cX12_judge 50 = .ok (.iconst 1, 1) := by decide +kernel
theorem dX12_judge_51 : decode cX12_judge 51 = .ok (.goto 4, 3) := by decide +kernel
theorem dX12_judge_54 : decode cX12_judge 54 = .ok (.iconst 0, 1) := by decide +kernel
theorem dX12_judge_55 : decode cX12_judge 55 = .ok (.ireturn, 1) := by decide +kernel
theorem dX12_names_0 : decode cX12_names 0 = .ok (.aload_n 0, 1) := by decide +kernel
theorem dX12_names_1 : decode cX12_names 1 = .ok (.iload_n 1, 1) := by decide +kernel
theorem dX12_names_2 : decode cX12_names 2 = .ok (.invokevirtual 380, 3) := by decide +kernel
theorem dX12_names_5 : decode cX12_names 5 = .ok (.ifCond .eq 24, 3) := by decide +kernel
theorem dX12_names_8 : decode cX12_names 8 = .ok (.aload_n 0, 1) := by decide +kernel
theorem dX12_names_9 : decode cX12_names 9 = .ok (.getfield 135, 3) := by decide +kernel
theorem dX12_names_12 : decode cX12_names 12 = .ok (.iload_n 1, 1) := by decide +kernel
theorem dX12_names_13 : decode cX12_names 13 = .ok (.baload, 1) := by decide +kernel
theorem dX12_names_14 : decode cX12_names 14 = .ok (.ifCond .ne 15, 3) := by decide +kernel
theorem dX12_names_17 : decode cX12_names 17 = .ok (.aload_n 0, 1) := by decide +kernel
theorem dX12_names_18 : decode cX12_names 18 = .ok (.getfield 135, 3) := by decide +kernel
theorem dX12_names_21 : decode cX12_names 21 = .ok (.iload_n 1, 1) := by decide +kernel
theorem dX12_names_22 : decode cX12_names 22 = .ok (.iconst 1, 1) := by decide +kernel
theorem dX12_names_23 : decode cX12_names 23 = .ok (.bastore, 1) := by decide +kernel
theorem dX12_names_24 : decode cX12_names 24 = .ok (.aload_n 0, 1) := by decide +kernel
theorem dX12_names_25 : decode cX12_names 25 = .ok (.iconst 1, 1) := by decide +kernel
theorem dX12_names_26 : decode cX12_names 26 = .ok (.putfield 399, 3) := by decide +kernel
theorem dX12_names_29 : decode cX12_names 29 = .ok (.return_, 1) := by decide +kernel
theorem dX12_proof_0 : decode cX12_proof 0 = .ok (.aload_n 0, 1) := by decide +kernel
theorem dX12_proof_1 : decode cX12_proof 1 = .ok (.getfield 337, 3) := by decide +kernel
theorem dX12_proof_4 : decode cX12_proof 4 = .ok (.iconst 1, 1) := by decide +kernel
theorem dX12_proof_5 : decode cX12_proof 5 = .ok (.if_icmp .eq 5, 3) := by decide +kernel
theorem dX12_proof_8 : decode cX12_proof 8 = .ok (.iconst (-1), 1) := by decide +kernel
theorem dX12_proof_9 : decode cX12_proof 9 = .ok (.ireturn, 1) := by decide +kernel
theorem dX12_proof_10 : decode cX12_proof 10 = .ok (.iconst 0, 1) := by decide +kernel
theorem dX12_proof_11 : decode cX12_proof 11 = .ok (.istore_n 2, 1) := by decide +kernel
theorem dX12_proof_12 : decode cX12_proof 12 = .ok (.iload_n 2, 1) := by decide +kernel
theorem dX12_proof_13 : decode cX12_proof 13 = .ok (.aload_n 0, 1) := by decide +kernel
theorem dX12_proof_14 : decode cX12_proof 14 = .ok (.getfield 142, 3) := by decide +kernel
theorem dX12_proof_17 : decode cX12_proof 17 = .ok (.if_icmp .ge 29, 3) := by decide +kernel
theorem dX12_proof_20 : decode cX12_proof 20 = .ok (.aload_n 0, 1) := by decide +kernel
theorem dX12_proof_21 : decode cX12_proof 21 = .ok (.getfield 135, 3) := by decide +kernel
theorem dX12_proof_24 : decode cX12_proof 24 = .ok (.iload_n 2, 1) := by decide +kernel
theorem dX12_proof_25 : decode cX12_proof 25 = .ok (.aload_n 0, 1) := by decide +kernel
theorem dX12_proof_26 : decode cX12_proof 26 = .ok (.getfield 36, 3) := by decide +kernel
theorem dX12_proof_29 : decode cX12_proof 29 = .ok (.iload_n 2, 1) := by decide +kernel
theorem dX12_proof_30 : decode cX12_proof 30 = .ok (.iaload, 1) := by decide +kernel
theorem dX12_proof_31 : decode cX12_proof 31 = .ok (.ifCond .ne 7, 3) := by decide +kernel
theorem dX12_proof_34 : decode cX12_proof 34 = .ok (.iconst 1, 1) := by decide +kernel
theorem dX12_proof_35 : decode cX12_proof 35 = .ok (.goto 4, 3) := by decide +kernel
theorem dX12_proof_38 : decode cX12_proof 38 = .ok (.iconst 0, 1) := by decide +kernel
theorem dX12_proof_39 : decode cX12_proof 39 = .ok (.bastore, 1) := by decide +kernel
theorem dX12_proof_40 : decode cX12_proof 40 = .ok (.iinc 2 1, 3) := by decide +kernel
theorem dX12_proof_43 : decode cX12_proof 43 = .ok (.goto (-31), 3) := by decide +kernel
theorem dX12_proof_46 : decode cX12_proof 46 = .ok (.aload_n 0, 1) := by decide +kernel
theorem dX12_proof_47 : decode cX12_proof 47 = .ok (.iconst 1, 1) := by decide +kernel
theorem dX12_proof_48 : decode cX12_proof 48 = .ok (.putfield 399, 3) := by decide +kernel
theorem dX12_proof_51 : decode cX12_proof 51 = .ok (.aload_n 0, 1) := by decide +kernel
theorem dX12_proof_52 : decode cX12_proof 52 = .ok (.getfield 399, 3) := by decide +kernel
theorem dX12_proof_55 : decode cX12_proof 55 = .ok (.ifCond .eq 149, 3) := by decide +kernel
theorem dX12_proof_58 : decode cX12_proof 58 = .ok (.aload_n 0, 1) := by decide +kernel
theorem dX12_proof_59 : decode cX12_proof 59 = .ok (.iconst 0, 1) := by decide +kernel
theorem dX12_proof_60 : decode cX12_proof 60 = .ok (.putfield 399, 3) := by decide +kernel
theorem dX12_proof_63 : decode cX12_proof 63 = .ok (.aload_n 0, 1) := by decide +kernel
theorem dX12_proof_64 : decode cX12_proof 64 = .ok (.getfield 142, 3) := by decide +kernel
theorem dX12_proof_67 : decode cX12_proof 67 = .ok (.iconst 1, 1) := by decide +kernel
theorem dX12_proof_68 : decode cX12_proof 68 = .ok (.isub, 1) := by decide +kernel
theorem dX12_proof_69 : decode cX12_proof 69 = .ok (.istore_n 2, 1) := by decide +kernel
theorem dX12_proof_70 : decode cX12_proof 70 = .ok (.iload_n 2, 1) := by decide +kernel
theorem dX12_proof_71 : decode cX12_proof 71 = .ok (.ifCond .lt 130, 3) := by decide +kernel
theorem dX12_proof_74 : decode cX12_proof 74 = .ok (.bipush 7, 2) := by decide +kernel
theorem dX12_proof_76 : decode cX12_proof 76 = .ok (.iload_n 2, 1) := by decide +kernel
theorem dX12_proof_77 : decode cX12_proof 77 = .ok (.imul, 1) := by decide +kernel
theorem dX12_proof_78 : decode cX12_proof 78 = .ok (.istore_n 3, 1) := by decide +kernel
theorem dX12_proof_79 : decode cX12_proof 79 = .ok (.aload_n 0, 1) := by decide +kernel
theorem dX12_proof_80 : decode cX12_proof 80 = .ok (.getfield 135, 3) := by decide +kernel
theorem dX12_proof_83 : decode cX12_proof 83 = .ok (.iload_n 2, 1) := by decide +kernel
theorem dX12_proof_84 : decode cX12_proof 84 = .ok (.baload, 1) := by decide +kernel
theorem dX12_proof_85 : decode cX12_proof 85 = .ok (.ifCond .eq 110, 3) := by decide +kernel
theorem dX12_proof_88 : decode cX12_proof 88 = .ok (.aload_n 0, 1) := by decide +kernel
theorem dX12_proof_89 : decode cX12_proof 89 = .ok (.getfield 60, 3) := by decide +kernel
theorem dX12_proof_92 : decode cX12_proof 92 = .ok (.iload_n 3, 1) := by decide +kernel
theorem dX12_proof_93 : decode cX12_proof 93 = .ok (.iaload, 1) := by decide +kernel
theorem dX12_proof_94 : decode cX12_proof 94 = .ok (.iconst 1, 1) := by decide +kernel
theorem dX12_proof_95 : decode cX12_proof 95 = .ok (.invokestatic 384, 3) := by decide +kernel
theorem dX12_proof_98 : decode cX12_proof 98 = .ok (.ifCond .eq 15, 3) := by decide +kernel
theorem dX12_proof_101 : decode cX12_proof 101 = .ok (.aload_n 0, 1) := by decide +kernel
theorem dX12_proof_102 : decode cX12_proof 102 = .ok (.aload_n 0, 1) := by decide +kernel
theorem dX12_proof_103 : decode cX12_proof 103 = .ok (.getfield 60, 3) := by decide +kernel
theorem dX12_proof_106 : decode cX12_proof 106 = .ok (.iload_n 3, 1) := by decide +kernel
theorem dX12_proof_107 : decode cX12_proof 107 = .ok (.iconst 1, 1) := by decide +kernel
theorem dX12_proof_108 : decode cX12_proof 108 = .ok (.iadd, 1) := by decide +kernel
theorem dX12_proof_109 : decode cX12_proof 109 = .ok (.iaload, 1) := by decide +kernel
theorem dX12_proof_110 : decode cX12_proof 110 = .ok (.invokevirtual 403, 3) := by decide +kernel
theorem dX12_proof_113 : decode cX12_proof 113 = .ok (.aload_n 0, 1) := by decide +kernel
theorem dX12_proof_114 : decode cX12_proof 114 = .ok (.getfield 60, 3) := by decide +kernel
theorem dX12_proof_117 : decode cX12_proof 117 = .ok (.iload_n 3, 1) := by decide +kernel
theorem dX12_proof_118 : decode cX12_proof 118 = .ok (.iaload, 1) := by decide +kernel
theorem dX12_proof_119 : decode cX12_proof 119 = .ok (.iconst 1, 1) := by decide +kernel
theorem dX12_proof_120 : decode cX12_proof 120 = .ok (.if_icmp .ne 15, 3) := by decide +kernel
theorem dX12_proof_123 : decode cX12_proof 123 = .ok (.aload_n 0, 1) := by decide +kernel
theorem dX12_proof_124 : decode cX12_proof 124 = .ok (.aload_n 0, 1) := by decide +kernel
theorem dX12_proof_125 : decode cX12_proof 125 = .ok (.getfield 60, 3) := by decide +kernel
theorem dX12_proof_128 : decode cX12_proof 128 = .ok (.iload_n 3, 1) := by decide +kernel
theorem dX12_proof_129 : decode cX12_proof 129 = .ok (.iconst 3, 1) := by decide +kernel
theorem dX12_proof_130 : decode cX12_proof 130 = .ok (.iadd, 1) := by decide +kernel
theorem dX12_proof_131 : decode cX12_proof 131 = .ok (.iaload, 1) := by decide +kernel
theorem dX12_proof_132 : decode cX12_proof 132 = .ok (.invokevirtual 403, 3) := by decide +kernel
theorem dX12_proof_135 : decode cX12_proof 135 = .ok (.aload_n 0, 1) := by decide +kernel
theorem dX12_proof_136 : decode cX12_proof 136 = .ok (.getfield 60, 3) := by decide +kernel
theorem dX12_proof_139 : decode cX12_proof 139 = .ok (.iload_n 3, 1) := by decide +kernel
theorem dX12_proof_140 : decode cX12_proof 140 = .ok (.iaload, 1) := by decide +kernel
theorem dX12_proof_141 : decode cX12_proof 141 = .ok (.iconst 4, 1) := by decide +kernel
theorem dX12_proof_142 : decode cX12_proof 142 = .ok (.if_icmp .ne 15, 3) := by decide +kernel
theorem dX12_proof_145 : decode cX12_proof 145 = .ok (.aload_n 0, 1) := by decide +kernel
theorem dX12_proof_146 : decode cX12_proof 146 = .ok (.aload_n 0, 1) := by decide +kernel
theorem dX12_proof_147 : decode cX12_proof 147 = .ok (.getfield 60, 3) := by decide +kernel
theorem dX12_proof_150 : decode cX12_proof 150 = .ok (.iload_n 3, 1) := by decide +kernel
theorem dX12_proof_151 : decode cX12_proof 151 = .ok (.iconst 4, 1) := by decide +kernel
theorem dX12_proof_152 : decode cX12_proof 152 = .ok (.iadd, 1) := by decide +kernel
theorem dX12_proof_153 : decode cX12_proof 153 = .ok (.iaload, 1) := by decide +kernel
theorem dX12_proof_154 : decode cX12_proof 154 = .ok (.invokevirtual 403, 3) := by decide +kernel
theorem dX12_proof_157 : decode cX12_proof 157 = .ok (.iconst 0, 1) := by decide +kernel
theorem dX12_proof_158 : decode cX12_proof 158 = .ok (.istore 4, 2) := by decide +kernel
theorem dX12_proof_160 : decode cX12_proof 160 = .ok (.iload 4, 2) := by decide +kernel
theorem dX12_proof_162 : decode cX12_proof 162 = .ok (.aload_n 0, 1) := by decide +kernel
theorem dX12_proof_163 : decode cX12_proof 163 = .ok (.getfield 63, 3) := by decide +kernel
theorem dX12_proof_166 : decode cX12_proof 166 = .ok (.iload_n 2, 1) := by decide +kernel
theorem dX12_proof_167 : decode cX12_proof 167 = .ok (.iaload, 1) := by decide +kernel
theorem dX12_proof_168 : decode cX12_proof 168 = .ok (.if_icmp .ge 27, 3) := by decide +kernel
theorem dX12_proof_171 : decode cX12_proof 171 = .ok (.aload_n 0, 1) := by decide +kernel
theorem dX12_proof_172 : decode cX12_proof 172 = .ok (.aload_n 0, 1) := by decide +kernel
theorem dX12_proof_173 : decode cX12_proof 173 = .ok (.getfield 66, 3) := by decide +kernel
theorem dX12_proof_176 : decode cX12_proof 176 = .ok (.bipush 32, 2) := by decide +kernel
theorem dX12_proof_178 : decode cX12_proof 178 = .ok (.iload_n 2, 1) := by decide +kernel
theorem dX12_proof_179 : decode cX12_proof 179 = .ok (.imul, 1) := by decide +kernel
theorem dX12_proof_180 : decode cX12_proof 180 = .ok (.iconst 4, 1) := by decide +kernel
theorem dX12_proof_181 : decode cX12_proof 181 = .ok (.iload 4, 2) := by decide +kernel
theorem dX12_proof_183 : decode cX12_proof 183 = .ok (.imul, 1) := by decide +kernel
theorem dX12_proof_184 : decode cX12_proof 184 = .ok (.iadd, 1) := by decide +kernel
theorem dX12_proof_185 : decode cX12_proof 185 = .ok (.iaload, 1) := by decide +kernel
theorem dX12_proof_186 : decode cX12_proof 186 = .ok (.invokevirtual 403, 3) := by decide +kernel
theorem dX12_proof_189 : decode cX12_proof 189 = .ok (.iinc 4 1, 3) := by decide +kernel
theorem dX12_proof_192 : decode cX12_proof 192 = .ok (.goto (-32), 3) := by decide +kernel
theorem dX12_proof_195 : decode cX12_proof 195 = .ok (.iinc 2 (-1), 3) := by decide +kernel
theorem dX12_proof_198 : decode cX12_proof 198 = .ok (.goto (-128), 3) := by decide +kernel
theorem dX12_proof_201 : decode cX12_proof 201 = .ok (.goto (-150), 3) := by decide +kernel
theorem dX12_proof_204 : decode cX12_proof 204 = .ok (.iload_n 1, 1) := by decide +kernel
theorem dX12_proof_205 : decode cX12_proof 205 = .ok (.istore_n 2, 1) := by decide +kernel
theorem dX12_proof_206 : decode cX12_proof 206 = .ok (.iconst 0, 1) := by decide +kernel
theorem dX12_proof_207 : decode cX12_proof 207 = .ok (.istore_n 3, 1) := by decide +kernel
theorem dX12_proof_208 : decode cX12_proof 208 = .ok (.iload_n 3, 1) := by decide +kernel
theorem dX12_proof_209 : decode cX12_proof 209 = .ok (.aload_n 0, 1) := by decide +kernel
theorem dX12_proof_210 : decode cX12_proof 210 = .ok (.getfield 142, 3) := by decide +kernel
theorem dX12_proof_213 : decode cX12_proof 213 = .ok (.if_icmp .ge 31, 3) := by decide +kernel
theorem dX12_proof_216 : decode cX12_proof 216 = .ok (.iload_n 1, 1) := by decide +kernel
theorem dX12_proof_217 : decode cX12_proof 217 = .ok (.ifCond .lt 27, 3) := by decide +kernel
theorem dX12_proof_220 : decode cX12_proof 220 = .ok (.aload_n 0, 1) := by decide +kernel
theorem dX12_proof_221 : decode cX12_proof 221 = .ok (.getfield 135, 3) := by decide +kernel
theorem dX12_proof_224 : decode cX12_proof 224 = .ok (.iload_n 3, 1) := by decide +kernel
theorem dX12_proof_225 : decode cX12_proof 225 = .ok (.baload, 1) := by decide +kernel
theorem dX12_proof_226 : decode cX12_proof 226 = .ok (.ifCond .eq 12, 3) := by decide +kernel
theorem dX12_proof_229 : decode cX12_proof 229 = .ok (.iload_n 2, 1) := by decide +kernel
theorem dX12_proof_230 : decode cX12_proof 230 = .ok (.ifCond .ne 5, 3) := by decide +kernel
theorem dX12_proof_233 : decode cX12_proof 233 = .ok (.iload_n 3, 1) := by decide +kernel
theorem dX12_proof_234 : decode cX12_proof 234 = .ok (.ireturn, 1) := by decide +kernel
theorem dX12_proof_235 : decode cX12_proof 235 = .ok (.iinc 2 (-1), 3) := by decide +kernel
theorem dX12_proof_238 : decode cX12_proof 238 = .ok (.iinc 3 1, 3) := by decide +kernel
theorem dX12_proof_241 : decode cX12_proof 241 = .ok (.goto (-33), 3) := by decide +kernel
theorem dX12_proof_244 : decode cX12_proof 244 = .ok (.iconst (-1), 1) := by decide +kernel
theorem dX12_proof_245 : decode cX12_proof 245 = .ok (.ireturn, 1) := by decide +kernel
theorem dX12_lettersOf_0 : decode cX12_lettersOf 0 = .ok (.iconst 0, 1) := by decide +kernel
theorem dX12_lettersOf_1 : decode cX12_lettersOf 1 = .ok (.istore_n 2, 1) := by decide +kernel
theorem dX12_lettersOf_2 : decode cX12_lettersOf 2 = .ok (.iconst 0, 1) := by decide +kernel
theorem dX12_lettersOf_3 : decode cX12_lettersOf 3 = .ok (.istore_n 3, 1) := by decide +kernel
theorem dX12_lettersOf_4 : decode cX12_lettersOf 4 = .ok (.iload_n 3, 1) := by decide +kernel
theorem dX12_lettersOf_5 : decode cX12_lettersOf 5 = .ok (.aload_n 0, 1) := by decide +kernel
theorem dX12_lettersOf_6 : decode cX12_lettersOf 6 = .ok (.getfield 36, 3) := by decide +kernel
theorem dX12_lettersOf_9 : decode cX12_lettersOf 9 = .ok (.iload_n 1, 1) := by decide +kernel
theorem dX12_lettersOf_10 : decode cX12_lettersOf 10 = .ok (.iaload, 1) := by decide +kernel
theorem dX12_lettersOf_11 : decode cX12_lettersOf 11 = .ok (.if_icmp .ge 74, 3) := by decide +kernel
theorem dX12_lettersOf_14 : decode cX12_lettersOf 14 = .ok (.bipush 30, 2) := by decide +kernel
theorem dX12_lettersOf_16 : decode cX12_lettersOf 16 = .ok (.bipush 6, 2) := by decide +kernel
theorem dX12_lettersOf_18 : decode cX12_lettersOf 18 = .ok (.iload_n 1, 1) := by decide +kernel
theorem dX12_lettersOf_19 : decode cX12_lettersOf 19 = .ok (.imul, 1) := by decide +kernel
theorem dX12_lettersOf_20 : decode cX12_lettersOf 20 = .ok (.iload_n 3, 1) := by decide +kernel
theorem dX12_lettersOf_21 : decode cX12_lettersOf 21 = .ok (.iadd, 1) := by decide +kernel
theorem dX12_lettersOf_22 : decode cX12_lettersOf 22 = .ok (.imul, 1) := by decide +kernel
theorem dX12_lettersOf_23 : decode cX12_lettersOf 23 = .ok (.istore 4, 2) := by decide +kernel
theorem dX12_lettersOf_25 : decode cX12_lettersOf 25 = .ok (.iload 4, 2) := by decide +kernel
theorem dX12_lettersOf_27 : decode cX12_lettersOf 27 = .ok (.istore 5, 2) := by decide +kernel
theorem dX12_lettersOf_29 : decode cX12_lettersOf 29 = .ok (.iload 5, 2) := by decide +kernel
theorem dX12_lettersOf_31 : decode cX12_lettersOf 31 = .ok (.iload 4, 2) := by decide +kernel
theorem dX12_lettersOf_33 : decode cX12_lettersOf 33 = .ok (.aload_n 0, 1) := by decide +kernel
theorem dX12_lettersOf_34 : decode cX12_lettersOf 34 = .ok (.getfield 30, 3) := by decide +kernel
theorem dX12_lettersOf_37 : decode cX12_lettersOf 37 = .ok (.bipush 6, 2) := by decide +kernel
theorem dX12_lettersOf_39 : decode cX12_lettersOf 39 = .ok (.iload_n 1, 1) := by decide +kernel
theorem dX12_lettersOf_40 : decode cX12_lettersOf 40 = .ok (.imul, 1) := by decide +kernel
theorem dX12_lettersOf_41 : decode cX12_lettersOf 41 = .ok (.iload_n 3, 1) := by decide +kernel
theorem dX12_lettersOf_42 : decode cX12_lettersOf 42 = .ok (.iadd, 1) := by decide +kernel
theorem dX12_lettersOf_43 : decode cX12_lettersOf 43 = .ok (.iaload, 1) := by decide +kernel
theorem dX12_lettersOf_44 : decode cX12_lettersOf 44 = .ok (.iadd, 1) := by decide +kernel
theorem dX12_lettersOf_45 : decode cX12_lettersOf 45 = .ok (.if_icmp .ge 34, 3) := by decide +kernel
theorem dX12_lettersOf_48 : decode cX12_lettersOf 48 = .ok (.aload_n 0, 1) := by decide +kernel
theorem dX12_lettersOf_49 : decode cX12_lettersOf 49 = .ok (.getfield 27, 3) := by decide +kernel
theorem dX12_lettersOf_52 : decode cX12_lettersOf 52 = .ok (.iload 5, 2) := by decide +kernel
theorem dX12_lettersOf_54 : decode cX12_lettersOf 54 = .ok (.iaload, 1) := by decide +kernel
theorem dX12_lettersOf_55 : decode cX12_lettersOf 55 = .ok (.ineg, 1) := by decide +kernel
theorem dX12_lettersOf_56 : decode cX12_lettersOf 56 = .ok (.iload_n 2, 1) := by decide +kernel
theorem dX12_lettersOf_57 : decode cX12_lettersOf 57 = .ok (.if_icmp .le 14, 3) := by decide +kernel
theorem dX12_lettersOf_60 : decode cX12_lettersOf 60 = .ok (.aload_n 0, 1) := by decide +kernel
theorem dX12_lettersOf_61 : decode cX12_lettersOf 61 = .ok (.getfield 27, 3) := by decide +kernel
theorem dX12_lettersOf_64 : decode cX12_lettersOf 64 = .ok (.iload 5, 2) := by decide +kernel
theorem dX12_lettersOf_66 : decode cX12_lettersOf 66 = .ok (.iaload, 1) := by decide +kernel
theorem dX12_lettersOf_67 : decode cX12_lettersOf 67 = .ok (.ineg, 1) := by decide +kernel
theorem dX12_lettersOf_68 : decode cX12_lettersOf 68 = .ok (.goto 4, 3) := by decide +kernel
theorem dX12_lettersOf_71 : decode cX12_lettersOf 71 = .ok (.iload_n 2, 1) := by decide +kernel
theorem dX12_lettersOf_72 : decode cX12_lettersOf 72 = .ok (.istore_n 2, 1) := by decide +kernel
theorem dX12_lettersOf_73 : decode cX12_lettersOf 73 = .ok (.iinc 5 1, 3) := by decide +kernel
theorem dX12_lettersOf_76 : decode cX12_lettersOf 76 = .ok (.goto (-47), 3) := by decide +kernel
theorem dX12_lettersOf_79 : decode cX12_lettersOf 79 = .ok (.iinc 3 1, 3) := by decide +kernel
theorem dX12_lettersOf_82 : decode cX12_lettersOf 82 = .ok (.goto (-78), 3) := by decide +kernel
theorem dX12_lettersOf_85 : decode cX12_lettersOf 85 = .ok (.iload_n 2, 1) := by decide +kernel
theorem dX12_lettersOf_86 : decode cX12_lettersOf 86 = .ok (.ireturn, 1) := by decide +kernel
theorem dX12_claim_0 : decode cX12_claim 0 = .ok (.aload_n 0, 1) := by decide +kernel
theorem dX12_claim_1 : decode cX12_claim 1 = .ok (.iload_n 1, 1) := by decide +kernel
theorem dX12_claim_2 : decode cX12_claim 2 = .ok (.invokevirtual 380, 3) := by decide +kernel
theorem dX12_claim_5 : decode cX12_claim 5 = .ok (.ifCond .ne 6, 3) := by decide +kernel
theorem dX12_claim_8 : decode cX12_claim 8 = .ok (.bipush (-2), 2) := by decide +kernel
theorem dX12_claim_10 : decode cX12_claim 10 = .ok (.ireturn, 1) := by decide +kernel
theorem dX12_claim_11 : decode cX12_claim 11 = .ok (.iload_n 2, 1) := by decide +kernel
theorem dX12_claim_12 : decode cX12_claim 12 = .ok (.tableswitch 79 0 5 #[40, 47, 53, 60, 67, 73], 40) := by decide +kernel
theorem dX12_claim_52 : decode cX12_claim 52 = .ok (.aload_n 0, 1) := by decide +kernel
theorem dX12_claim_53 : decode cX12_claim 53 = .ok (.getfield 36, 3) := by decide +kernel
theorem dX12_claim_56 : decode cX12_claim 56 = .ok (.iload_n 1, 1) := by decide +kernel
theorem dX12_claim_57 : decode cX12_claim 57 = .ok (.iaload, 1) := by decide +kernel
theorem dX12_claim_58 : decode cX12_claim 58 = .ok (.ireturn, 1) := by decide +kernel
theorem dX12_claim_59 : decode cX12_claim 59 = .ok (.aload_n 0, 1) := by decide +kernel
theorem dX12_claim_60 : decode cX12_claim 60 = .ok (.iload_n 1, 1) := by decide +kernel
theorem dX12_claim_61 : decode cX12_claim 61 = .ok (.invokevirtual 371, 3) := by decide +kernel
theorem dX12_claim_64 : decode cX12_claim 64 = .ok (.ireturn, 1) := by decide +kernel
theorem dX12_claim_65 : decode cX12_claim 65 = .ok (.aload_n 0, 1) := by decide +kernel
theorem dX12_claim_66 : decode cX12_claim 66 = .ok (.getfield 39, 3) := by decide +kernel
theorem dX12_claim_69 : decode cX12_claim 69 = .ok (.iload_n 1, 1) := by decide +kernel
theorem dX12_claim_70 : decode cX12_claim 70 = .ok (.iaload, 1) := by decide +kernel
theorem dX12_claim_71 : decode cX12_claim 71 = .ok (.ireturn, 1) := by decide +kernel
theorem dX12_claim_72 : decode cX12_claim 72 = .ok (.aload_n 0, 1) := by decide +kernel
theorem dX12_claim_73 : decode cX12_claim 73 = .ok (.getfield 42, 3) := by decide +kernel
theorem dX12_claim_76 : decode cX12_claim 76 = .ok (.iload_n 1, 1) := by decide +kernel
theorem dX12_claim_77 : decode cX12_claim 77 = .ok (.iaload, 1) := by decide +kernel
theorem dX12_claim_78 : decode cX12_claim 78 = .ok (.ireturn, 1) := by decide +kernel
theorem dX12_claim_79 : decode cX12_claim 79 = .ok (.aload_n 0, 1) := by decide +kernel
theorem dX12_claim_80 : decode cX12_claim 80 = .ok (.iload_n 1, 1) := by decide +kernel
theorem dX12_claim_81 : decode cX12_claim 81 = .ok (.invokevirtual 272, 3) := by decide +kernel
theorem dX12_claim_84 : decode cX12_claim 84 = .ok (.ireturn, 1) := by decide +kernel
theorem dX12_claim_85 : decode cX12_claim 85 = .ok (.aload_n 0, 1) := by decide +kernel
theorem dX12_claim_86 : decode cX12_claim 86 = .ok (.iload_n 1, 1) := by decide +kernel
theorem dX12_claim_87 : decode cX12_claim 87 = .ok (.invokevirtual 406, 3) := by decide +kernel
theorem dX12_claim_90 : decode cX12_claim 90 = .ok (.ireturn, 1) := by decide +kernel
theorem dX12_claim_91 : decode cX12_claim 91 = .ok (.bipush (-2), 2) := by decide +kernel
theorem dX12_claim_93 : decode cX12_claim 93 = .ok (.ireturn, 1) := by decide +kernel
theorem dX12_literal_0 : decode cX12_literal 0 = .ok (.aload_n 0, 1) := by decide +kernel
theorem dX12_literal_1 : decode cX12_literal 1 = .ok (.iload_n 1, 1) := by decide +kernel
theorem dX12_literal_2 : decode cX12_literal 2 = .ok (.invokevirtual 380, 3) := by decide +kernel
theorem dX12_literal_5 : decode cX12_literal 5 = .ok (.ifCond .eq 12, 3) := by decide +kernel
theorem dX12_literal_8 : decode cX12_literal 8 = .ok (.aload_n 0, 1) := by decide +kernel
theorem dX12_literal_9 : decode cX12_literal 9 = .ok (.iload_n 1, 1) := by decide +kernel
theorem dX12_literal_10 : decode cX12_literal 10 = .ok (.iload_n 2, 1) := by decide +kernel
theorem dX12_literal_11 : decode cX12_literal 11 = .ok (.invokevirtual 278, 3) := by decide +kernel
theorem dX12_literal_14 : decode cX12_literal 14 = .ok (.ifCond .ne 7, 3) := by decide +kernel
theorem dX12_literal_17 : decode cX12_literal 17 = .ok (.ldc_w 383, 3) := by decide +kernel
theorem dX12_literal_20 : decode cX12_literal 20 = .ok (.ireturn, 1) := by decide +kernel
theorem dX12_literal_21 : decode cX12_literal 21 = .ok (.bipush 6, 2) := by decide +kernel
theorem dX12_literal_23 : decode cX12_literal 23 = .ok (.iload_n 1, 1) := by decide +kernel
theorem dX12_literal_24 : decode cX12_literal 24 = .ok (.imul, 1) := by decide +kernel
theorem dX12_literal_25 : decode cX12_literal 25 = .ok (.iload_n 2, 1) := by decide +kernel
theorem dX12_literal_26 : decode cX12_literal 26 = .ok (.iadd, 1) := by decide +kernel
theorem dX12_literal_27 : decode cX12_literal 27 = .ok (.istore 4, 2) := by decide +kernel
theorem dX12_literal_29 : decode cX12_literal 29 = .ok (.iload_n 3, 1) := by decide +kernel
theorem dX12_literal_30 : decode cX12_literal 30 = .ok (.ifCond .ne 19, 3) := by decide +kernel
theorem dX12_literal_33 : decode cX12_literal 33 = .ok (.aload_n 0, 1) := by decide +kernel
theorem dX12_literal_34 : decode cX12_literal 34 = .ok (.getfield 33, 3) := by decide +kernel
theorem dX12_literal_37 : decode cX12_literal 37 = .ok (.iload 4, 2) := by decide +kernel
theorem dX12_literal_39 : decode cX12_literal 39 = .ok (.baload, 1) := by decide +kernel
theorem dX12_literal_40 : decode cX12_literal 40 = .ok (.ifCond .eq 7, 3) := by decide +kernel
theorem dX12_literal_43 : decode cX12_literal 43 = .ok (.iconst 1, 1) := by decide +kernel
theorem dX12_literal_44 : decode cX12_literal 44 = .ok (.goto 4, 3) := by decide +kernel
theorem dX12_literal_47 : decode cX12_literal 47 = .ok (.iconst 0, 1) := by decide +kernel
theorem dX12_literal_48 : decode cX12_literal 48 = .ok (.ireturn, 1) := by decide +kernel
theorem dX12_literal_49 : decode cX12_literal 49 = .ok (.iload_n 3, 1) := by decide +kernel
theorem dX12_literal_50 : decode cX12_literal 50 = .ok (.iconst 1, 1) := by decide +kernel
theorem dX12_literal_51 : decode cX12_literal 51 = .ok (.if_icmp .ne 11, 3) := by decide +kernel
theorem dX12_literal_54 : decode cX12_literal 54 = .ok (.aload_n 0, 1) := by decide +kernel
theorem dX12_literal_55 : decode cX12_literal 55 = .ok (.getfield 30, 3) := by decide +kernel
theorem dX12_literal_58 : decode cX12_literal 58 = .ok (.iload 4, 2) := by decide +kernel
theorem dX12_literal_60 : decode cX12_literal 60 = .ok (.iaload, 1) := by decide +kernel
theorem dX12_literal_61 : decode cX12_literal 61 = .ok (.ireturn, 1) := by decide +kernel
theorem dX12_literal_62 : decode cX12_literal 62 = .ok (.iload_n 3, 1) := by decide +kernel
theorem dX12_literal_63 : decode cX12_literal 63 = .ok (.iconst 2, 1) := by decide +kernel
theorem dX12_literal_64 : decode cX12_literal 64 = .ok (.iconst 1, 1) := by decide +kernel
theorem dX12_literal_65 : decode cX12_literal 65 = .ok (.aload_n 0, 1) := by decide +kernel
theorem dX12_literal_66 : decode cX12_literal 66 = .ok (.getfield 30, 3) := by decide +kernel
theorem dX12_literal_69 : decode cX12_literal 69 = .ok (.iload 4, 2) := by decide +kernel
theorem dX12_literal_71 : decode cX12_literal 71 = .ok (.iaload, 1) := by decide +kernel
theorem dX12_literal_72 : decode cX12_literal 72 = .ok (.iadd, 1) := by decide +kernel
theorem dX12_literal_73 : decode cX12_literal 73 = .ok (.invokestatic 138, 3) := by decide +kernel
theorem dX12_literal_76 : decode cX12_literal 76 = .ok (.ifCond .eq 20, 3) := by decide +kernel
theorem dX12_literal_79 : decode cX12_literal 79 = .ok (.aload_n 0, 1) := by decide +kernel
theorem dX12_literal_80 : decode cX12_literal 80 = .ok (.getfield 27, 3) := by decide +kernel
theorem dX12_literal_83 : decode cX12_literal 83 = .ok (.bipush 30, 2) := by decide +kernel
theorem dX12_literal_85 : decode cX12_literal 85 = .ok (.iload 4, 2) := by decide +kernel
theorem dX12_literal_87 : decode cX12_literal 87 = .ok (.imul, 1) := by decide +kernel
theorem dX12_literal_88 : decode cX12_literal 88 = .ok (.iload_n 3, 1) := by decide +kernel
theorem dX12_literal_89 : decode cX12_literal 89 = .ok (.iadd, 1) := by decide +kernel
theorem dX12_literal_90 : decode cX12_literal 90 = .ok (.iconst 2, 1) := by decide +kernel
theorem dX12_literal_91 : decode cX12_literal 91 = .ok (.isub, 1) := by decide +kernel
theorem dX12_literal_92 : decode cX12_literal 92 = .ok (.iaload, 1) := by decide +kernel
theorem dX12_literal_93 : decode cX12_literal 93 = .ok (.goto 6, 3) := by decide +kernel
theorem dX12_literal_96 : decode cX12_literal 96 = .ok (.ldc_w 383, 3) := by decide +kernel
theorem dX12_literal_99 : decode cX12_literal 99 = .ok (.ireturn, 1) := by decide +kernel
theorem dX12_order_0 : decode cX12_order 0 = .ok (.aload_n 0, 1) := by decide +kernel
theorem dX12_order_1 : decode cX12_order 1 = .ok (.iload_n 1, 1) := by decide +kernel
theorem dX12_order_2 : decode cX12_order 2 = .ok (.invokevirtual 380, 3) := by decide +kernel
theorem dX12_order_5 : decode cX12_order 5 = .ok (.ifCond .eq 30, 3) := by decide +kernel
theorem dX12_order_8 : decode cX12_order 8 = .ok (.aload_n 0, 1) := by decide +kernel
theorem dX12_order_9 : decode cX12_order 9 = .ok (.iload_n 3, 1) := by decide +kernel
theorem dX12_order_10 : decode cX12_order 10 = .ok (.invokevirtual 380, 3) := by decide +kernel
theorem dX12_order_13 : decode cX12_order 13 = .ok (.ifCond .eq 22, 3) := by decide +kernel
theorem dX12_order_16 : decode cX12_order 16 = .ok (.aload_n 0, 1) := by decide +kernel
theorem dX12_order_17 : decode cX12_order 17 = .ok (.iload_n 1, 1) := by decide +kernel
theorem dX12_order_18 : decode cX12_order 18 = .ok (.iload_n 2, 1) := by decide +kernel
theorem dX12_order_19 : decode cX12_order 19 = .ok (.invokevirtual 278, 3) := by decide +kernel
theorem dX12_order_22 : decode cX12_order 22 = .ok (.ifCond .eq 13, 3) := by decide +kernel
theorem dX12_order_25 : decode cX12_order 25 = .ok (.aload_n 0, 1) := by decide +kernel
theorem dX12_order_26 : decode cX12_order 26 = .ok (.iload_n 3, 1) := by decide +kernel
theorem dX12_order_27 : decode cX12_order 27 = .ok (.iload 4, 2) := by decide +kernel
theorem dX12_order_29 : decode cX12_order 29 = .ok (.invokevirtual 278, 3) := by decide +kernel
theorem dX12_order_32 : decode cX12_order 32 = .ok (.ifCond .ne 6, 3) := by decide +kernel
theorem dX12_order_35 : decode cX12_order 35 = .ok (.bipush (-2), 2) := by decide +kernel
theorem dX12_order_37 : decode cX12_order 37 = .ok (.ireturn, 1) := by decide +kernel
theorem dX12_order_38 : decode cX12_order 38 = .ok (.bipush 30, 2) := by decide +kernel
theorem dX12_order_40 : decode cX12_order 40 = .ok (.bipush 6, 2) := by decide +kernel
theorem dX12_order_42 : decode cX12_order 42 = .ok (.iload_n 1, 1) := by decide +kernel
theorem dX12_order_43 : decode cX12_order 43 = .ok (.imul, 1) := by decide +kernel
theorem dX12_order_44 : decode cX12_order 44 = .ok (.iload_n 2, 1) := by decide +kernel
theorem dX12_order_45 : decode cX12_order 45 = .ok (.iadd, 1) := by decide +kernel
theorem dX12_order_46 : decode cX12_order 46 = .ok (.imul, 1) := by decide +kernel
theorem dX12_order_47 : decode cX12_order 47 = .ok (.istore 5, 2) := by decide +kernel
theorem dX12_order_49 : decode cX12_order 49 = .ok (.bipush 30, 2) := by decide +kernel
theorem dX12_order_51 : decode cX12_order 51 = .ok (.bipush 6, 2) := by decide +kernel
theorem dX12_order_53 : decode cX12_order 53 = .ok (.iload_n 3, 1) := by decide +kernel
theorem dX12_order_54 : decode cX12_order 54 = .ok (.imul, 1) := by decide +kernel
theorem dX12_order_55 : decode cX12_order 55 = .ok (.iload 4, 2) := by decide +kernel
theorem dX12_order_57 : decode cX12_order 57 = .ok (.iadd, 1) := by decide +kernel
theorem dX12_order_58 : decode cX12_order 58 = .ok (.imul, 1) := by decide +kernel
theorem dX12_order_59 : decode cX12_order 59 = .ok (.istore 6, 2) := by decide +kernel
theorem dX12_order_61 : decode cX12_order 61 = .ok (.aload_n 0, 1) := by decide +kernel
theorem dX12_order_62 : decode cX12_order 62 = .ok (.getfield 17, 3) := by decide +kernel
theorem dX12_order_65 : decode cX12_order 65 = .ok (.aload_n 0, 1) := by decide +kernel
theorem dX12_order_66 : decode cX12_order 66 = .ok (.getfield 27, 3) := by decide +kernel
theorem dX12_order_69 : decode cX12_order 69 = .ok (.iload 5, 2) := by decide +kernel
theorem dX12_order_71 : decode cX12_order 71 = .ok (.iaload, 1) := by decide +kernel
theorem dX12_order_72 : decode cX12_order 72 = .ok (.iaload, 1) := by decide +kernel
theorem dX12_order_73 : decode cX12_order 73 = .ok (.ifCond .eq 18, 3) := by decide +kernel
theorem dX12_order_76 : decode cX12_order 76 = .ok (.aload_n 0, 1) := by decide +kernel
theorem dX12_order_77 : decode cX12_order 77 = .ok (.getfield 17, 3) := by decide +kernel
theorem dX12_order_80 : decode cX12_order 80 = .ok (.aload_n 0, 1) := by decide +kernel
theorem dX12_order_81 : decode cX12_order 81 = .ok (.getfield 27, 3) := by decide +kernel
theorem dX12_order_84 : decode cX12_order 84 = .ok (.iload 6, 2) := by decide +kernel
theorem dX12_order_86 : decode cX12_order 86 = .ok (.iaload, 1) := by decide +kernel
theorem dX12_order_87 : decode cX12_order 87 = .ok (.iaload, 1) := by decide +kernel
theorem dX12_order_88 : decode cX12_order 88 = .ok (.ifCond .ne 6, 3) := by decide +kernel
theorem dX12_order_91 : decode cX12_order 91 = .ok (.bipush (-2), 2) := by decide +kernel
theorem dX12_order_93 : decode cX12_order 93 = .ok (.ireturn, 1) := by decide +kernel
theorem dX12_order_94 : decode cX12_order 94 = .ok (.aload_n 0, 1) := by decide +kernel
theorem dX12_order_95 : decode cX12_order 95 = .ok (.aload_n 0, 1) := by decide +kernel
theorem dX12_order_96 : decode cX12_order 96 = .ok (.getfield 27, 3) := by decide +kernel
theorem dX12_order_99 : decode cX12_order 99 = .ok (.iload 5, 2) := by decide +kernel
theorem dX12_order_101 : decode cX12_order 101 = .ok (.iconst 1, 1) := by decide +kernel
theorem dX12_order_102 : decode cX12_order 102 = .ok (.iadd, 1) := by decide +kernel
theorem dX12_order_103 : decode cX12_order 103 = .ok (.aload_n 0, 1) := by decide +kernel
theorem dX12_order_104 : decode cX12_order 104 = .ok (.getfield 27, 3) := by decide +kernel
theorem dX12_order_107 : decode cX12_order 107 = .ok (.iload 6, 2) := by decide +kernel
theorem dX12_order_109 : decode cX12_order 109 = .ok (.iconst 1, 1) := by decide +kernel
theorem dX12_order_110 : decode cX12_order 110 = .ok (.iadd, 1) := by decide +kernel
theorem dX12_order_111 : decode cX12_order 111 = .ok (.invokevirtual 164, 3) := by decide +kernel
theorem dX12_order_114 : decode cX12_order 114 = .ok (.ifCond .eq 5, 3) := by decide +kernel
theorem dX12_order_117 : decode cX12_order 117 = .ok (.iconst 2, 1) := by decide +kernel
theorem dX12_order_118 : decode cX12_order 118 = .ok (.ireturn, 1) := by decide +kernel
theorem dX12_order_119 : decode cX12_order 119 = .ok (.aload_n 0, 1) := by decide +kernel
theorem dX12_order_120 : decode cX12_order 120 = .ok (.aload_n 0, 1) := by decide +kernel
theorem dX12_order_121 : decode cX12_order 121 = .ok (.getfield 27, 3) := by decide +kernel
theorem dX12_order_124 : decode cX12_order 124 = .ok (.iload 5, 2) := by decide +kernel
theorem dX12_order_126 : decode cX12_order 126 = .ok (.iconst 1, 1) := by decide +kernel
theorem dX12_order_127 : decode cX12_order 127 = .ok (.iadd, 1) := by decide +kernel
theorem dX12_order_128 : decode cX12_order 128 = .ok (.aload_n 0, 1) := by decide +kernel
theorem dX12_order_129 : decode cX12_order 129 = .ok (.getfield 27, 3) := by decide +kernel
theorem dX12_order_132 : decode cX12_order 132 = .ok (.iload 6, 2) := by decide +kernel
theorem dX12_order_134 : decode cX12_order 134 = .ok (.iconst 1, 1) := by decide +kernel
theorem dX12_order_135 : decode cX12_order 135 = .ok (.iadd, 1) := by decide +kernel
theorem dX12_order_136 : decode cX12_order 136 = .ok (.invokevirtual 170, 3) := by decide +kernel
theorem dX12_order_139 : decode cX12_order 139 = .ok (.ifCond .eq 7, 3) := by decide +kernel
theorem dX12_order_142 : decode cX12_order 142 = .ok (.iconst 1, 1) := by decide +kernel
theorem dX12_order_143 : decode cX12_order 143 = .ok (.goto 31, 3) := by decide +kernel
theorem dX12_order_146 : decode cX12_order 146 = .ok (.aload_n 0, 1) := by decide +kernel
theorem dX12_order_147 : decode cX12_order 147 = .ok (.aload_n 0, 1) := by decide +kernel
theorem dX12_order_148 : decode cX12_order 148 = .ok (.getfield 27, 3) := by decide +kernel
theorem dX12_order_151 : decode cX12_order 151 = .ok (.iload 6, 2) := by decide +kernel
theorem dX12_order_153 : decode cX12_order 153 = .ok (.iconst 1, 1) := by decide +kernel
theorem dX12_order_154 : decode cX12_order 154 = .ok (.iadd, 1) := by decide +kernel
theorem dX12_order_155 : decode cX12_order 155 = .ok (.aload_n 0, 1) := by decide +kernel
theorem dX12_order_156 : decode cX12_order 156 = .ok (.getfield 27, 3) := by decide +kernel
theorem dX12_order_159 : decode cX12_order 159 = .ok (.iload 5, 2) := by decide +kernel
theorem dX12_order_161 : decode cX12_order 161 = .ok (.iconst 1, 1) := by decide +kernel
theorem dX12_order_162 : decode cX12_order 162 = .ok (.iadd, 1) := by decide +kernel
theorem dX12_order_163 : decode cX12_order 163 = .ok (.invokevirtual 170, 3) := by decide +kernel
theorem dX12_order_166 : decode cX12_order 166 = .ok (.ifCond .eq 7, 3) := by decide +kernel
theorem dX12_order_169 : decode cX12_order 169 = .ok (.iconst (-1), 1) := by decide +kernel
theorem dX12_order_170 : decode cX12_order 170 = .ok (.goto 4, 3) := by decide +kernel
theorem dX12_order_173 : decode cX12_order 173 = .ok (.iconst 0, 1) := by decide +kernel
theorem dX12_order_174 : decode cX12_order 174 = .ok (.ireturn, 1) := by decide +kernel
theorem dX12_takesIn_0 : decode cX12_takesIn 0 = .ok (.aload_n 0, 1) := by decide +kernel
theorem dX12_takesIn_1 : decode cX12_takesIn 1 = .ok (.iload_n 1, 1) := by decide +kernel
theorem dX12_takesIn_2 : decode cX12_takesIn 2 = .ok (.invokevirtual 380, 3) := by decide +kernel
theorem dX12_takesIn_5 : decode cX12_takesIn 5 = .ok (.ifCond .eq 28, 3) := by decide +kernel
theorem dX12_takesIn_8 : decode cX12_takesIn 8 = .ok (.aload_n 0, 1) := by decide +kernel
theorem dX12_takesIn_9 : decode cX12_takesIn 9 = .ok (.iload_n 2, 1) := by decide +kernel
theorem dX12_takesIn_10 : decode cX12_takesIn 10 = .ok (.invokevirtual 380, 3) := by decide +kernel
theorem dX12_takesIn_13 : decode cX12_takesIn 13 = .ok (.ifCond .eq 20, 3) := by decide +kernel
theorem dX12_takesIn_16 : decode cX12_takesIn 16 = .ok (.aload_n 0, 1) := by decide +kernel
theorem dX12_takesIn_17 : decode cX12_takesIn 17 = .ok (.iload_n 1, 1) := by decide +kernel
theorem dX12_takesIn_18 : decode cX12_takesIn 18 = .ok (.iload_n 2, 1) := by decide +kernel
theorem dX12_takesIn_19 : decode cX12_takesIn 19 = .ok (.invokevirtual 334, 3) := by decide +kernel
theorem dX12_takesIn_22 : decode cX12_takesIn 22 = .ok (.ifCond .eq 7, 3) := by decide +kernel
theorem dX12_takesIn_25 : decode cX12_takesIn 25 = .ok (.iconst 1, 1) := by decide +kernel
theorem dX12_takesIn_26 : decode cX12_takesIn 26 = .ok (.goto 9, 3) := by decide +kernel
theorem dX12_takesIn_29 : decode cX12_takesIn 29 = .ok (.iconst 0, 1) := by decide +kernel
theorem dX12_takesIn_30 : decode cX12_takesIn 30 = .ok (.goto 5, 3) := by decide +kernel
theorem dX12_takesIn_33 : decode cX12_takesIn 33 = .ok (.bipush (-2), 2) := by decide +kernel
theorem dX12_takesIn_35 : decode cX12_takesIn 35 = .ok (.ireturn, 1) := by decide +kernel
theorem dX12_inStatus_0 : decode cX12_inStatus 0 = .ok (.iconst 0, 1) := by decide +kernel
theorem dX12_inStatus_1 : decode cX12_inStatus 1 = .ok (.istore_n 2, 1) := by decide +kernel
theorem dX12_inStatus_2 : decode cX12_inStatus 2 = .ok (.iconst 0, 1) := by decide +kernel
theorem dX12_inStatus_3 : decode cX12_inStatus 3 = .ok (.istore_n 3, 1) := by decide +kernel
theorem dX12_inStatus_4 : decode cX12_inStatus 4 = .ok (.iload_n 3, 1) := by decide +kernel
theorem dX12_inStatus_5 : decode cX12_inStatus 5 = .ok (.aload_n 0, 1) := by decide +kernel
theorem dX12_inStatus_6 : decode cX12_inStatus 6 = .ok (.getfield 142, 3) := by decide +kernel
theorem dX12_inStatus_9 : decode cX12_inStatus 9 = .ok (.if_icmp .ge 27, 3) := by decide +kernel
theorem dX12_inStatus_12 : decode cX12_inStatus 12 = .ok (.iload_n 2, 1) := by decide +kernel
theorem dX12_inStatus_13 : decode cX12_inStatus 13 = .ok (.aload_n 0, 1) := by decide +kernel
theorem dX12_inStatus_14 : decode cX12_inStatus 14 = .ok (.getfield 39, 3) := by decide +kernel
theorem dX12_inStatus_17 : decode cX12_inStatus 17 = .ok (.iload_n 3, 1) := by decide +kernel
theorem dX12_inStatus_18 : decode cX12_inStatus 18 = .ok (.iaload, 1) := by decide +kernel
theorem dX12_inStatus_19 : decode cX12_inStatus 19 = .ok (.iload_n 1, 1) := by decide +kernel
theorem dX12_inStatus_20 : decode cX12_inStatus 20 = .ok (.if_icmp .ne 7, 3) := by decide +kernel
theorem dX12_inStatus_23 : decode cX12_inStatus 23 = .ok (.iconst 1, 1) := by decide +kernel
theorem dX12_inStatus_24 : decode cX12_inStatus 24 = .ok (.goto 4, 3) := by decide +kernel
theorem dX12_inStatus_27 : decode cX12_inStatus 27 = .ok (.iconst 0, 1) := by decide +kernel
theorem dX12_inStatus_28 : decode cX12_inStatus 28 = .ok (.iadd, 1) := by decide +kernel
theorem dX12_inStatus_29 : decode cX12_inStatus 29 = .ok (.istore_n 2, 1) := by decide +kernel
theorem dX12_inStatus_30 : decode cX12_inStatus 30 = .ok (.iinc 3 1, 3) := by decide +kernel
theorem dX12_inStatus_33 : decode cX12_inStatus 33 = .ok (.goto (-29), 3) := by decide +kernel
theorem dX12_inStatus_36 : decode cX12_inStatus 36 = .ok (.iload_n 2, 1) := by decide +kernel
theorem dX12_inStatus_37 : decode cX12_inStatus 37 = .ok (.ireturn, 1) := by decide +kernel
theorem dX12_count_0 : decode cX12_count 0 = .ok (.iload_n 1, 1) := by decide +kernel
theorem dX12_count_1 : decode cX12_count 1 = .ok (.tableswitch 126 0 11 #[63, 68, 73, 79, 85, 91, 96, 101, 106, 111, 116, 121], 63) := by decide +kernel
theorem dX12_count_64 : decode cX12_count 64 = .ok (.aload_n 0, 1) := by decide +kernel
theorem dX12_count_65 : decode cX12_count 65 = .ok (.getfield 7, 3) := by decide +kernel
theorem dX12_count_68 : decode cX12_count 68 = .ok (.ireturn, 1) := by decide +kernel
theorem dX12_count_69 : decode cX12_count 69 = .ok (.aload_n 0, 1) := by decide +kernel
theorem dX12_count_70 : decode cX12_count 70 = .ok (.getfield 142, 3) := by decide +kernel
theorem dX12_count_73 : decode cX12_count 73 = .ok (.ireturn, 1) := by decide +kernel
theorem dX12_count_74 : decode cX12_count 74 = .ok (.aload_n 0, 1) := by decide +kernel
theorem dX12_count_75 : decode cX12_count 75 = .ok (.iconst 0, 1) := by decide +kernel
theorem dX12_count_76 : decode cX12_count 76 = .ok (.invokevirtual 409, 3) := by decide +kernel
theorem dX12_count_79 : decode cX12_count 79 = .ok (.ireturn, 1) := by decide +kernel
theorem dX12_count_80 : decode cX12_count 80 = .ok (.aload_n 0, 1) := by decide +kernel
theorem dX12_count_81 : decode cX12_count 81 = .ok (.iconst 1, 1) := by decide +kernel
theorem dX12_count_82 : decode cX12_count 82 = .ok (.invokevirtual 409, 3) := by decide +kernel
theorem dX12_count_85 : decode cX12_count 85 = .ok (.ireturn, 1) := by decide +kernel
theorem dX12_count_86 : decode cX12_count 86 = .ok (.aload_n 0, 1) := by decide +kernel
theorem dX12_count_87 : decode cX12_count 87 = .ok (.iconst 2, 1) := by decide +kernel
theorem dX12_count_88 : decode cX12_count 88 = .ok (.invokevirtual 409, 3) := by decide +kernel
theorem dX12_count_91 : decode cX12_count 91 = .ok (.ireturn, 1) := by decide +kernel
theorem dX12_count_92 : decode cX12_count 92 = .ok (.aload_n 0, 1) := by decide +kernel
theorem dX12_count_93 : decode cX12_count 93 = .ok (.getfield 328, 3) := by decide +kernel
theorem dX12_count_96 : decode cX12_count 96 = .ok (.ireturn, 1) := by decide +kernel
theorem dX12_count_97 : decode cX12_count 97 = .ok (.aload_n 0, 1) := by decide +kernel
theorem dX12_count_98 : decode cX12_count 98 = .ok (.getfield 319, 3) := by decide +kernel
theorem dX12_count_101 : decode cX12_count 101 = .ok (.ireturn, 1) := by decide +kernel
theorem dX12_count_102 : decode cX12_count 102 = .ok (.aload_n 0, 1) := by decide +kernel
theorem dX12_count_103 : decode cX12_count 103 = .ok (.getfield 353, 3) := by decide +kernel
theorem dX12_count_106 : decode cX12_count 106 = .ok (.ireturn, 1) := by decide +kernel
theorem dX12_count_107 : decode cX12_count 107 = .ok (.aload_n 0, 1) := by decide +kernel
theorem dX12_count_108 : decode cX12_count 108 = .ok (.getfield 246, 3) := by decide +kernel
theorem dX12_count_111 : decode cX12_count 111 = .ok (.ireturn, 1) := by decide +kernel
theorem dX12_count_112 : decode cX12_count 112 = .ok (.aload_n 0, 1) := by decide +kernel
theorem dX12_count_113 : decode cX12_count 113 = .ok (.getfield 368, 3) := by decide +kernel
theorem dX12_count_116 : decode cX12_count 116 = .ok (.ireturn, 1) := by decide +kernel
theorem dX12_count_117 : decode cX12_count 117 = .ok (.aload_n 0, 1) := by decide +kernel
theorem dX12_count_118 : decode cX12_count 118 = .ok (.getfield 337, 3) := by decide +kernel
theorem dX12_count_121 : decode cX12_count 121 = .ok (.ireturn, 1) := by decide +kernel
theorem dX12_count_122 : decode cX12_count 122 = .ok (.aload_n 0, 1) := by decide +kernel
theorem dX12_count_123 : decode cX12_count 123 = .ok (.getfield 145, 3) := by decide +kernel
theorem dX12_count_126 : decode cX12_count 126 = .ok (.ireturn, 1) := by decide +kernel
theorem dX12_count_127 : decode cX12_count 127 = .ok (.bipush (-2), 2) := by decide +kernel
theorem dX12_count_129 : decode cX12_count 129 = .ok (.ireturn, 1) := by decide +kernel
theorem dX12_digest_0 : decode cX12_digest 0 = .ok (.ldc2_w 412, 3) := by decide +kernel
theorem dX12_digest_3 : decode cX12_digest 3 = .ok (.lstore_n 1, 1) := by decide +kernel
theorem dX12_digest_4 : decode cX12_digest 4 = .ok (.iconst 0, 1) := by decide +kernel
theorem dX12_digest_5 : decode cX12_digest 5 = .ok (.istore_n 3, 1) := by decide +kernel
theorem dX12_digest_6 : decode cX12_digest 6 = .ok (.iload_n 3, 1) := by decide +kernel
theorem dX12_digest_7 : decode cX12_digest 7 = .ok (.bipush 12, 2) := by decide +kernel
theorem dX12_digest_9 : decode cX12_digest 9 = .ok (.if_icmp .ge 22, 3) := by decide +kernel
theorem dX12_digest_12 : decode cX12_digest 12 = .ok (.ldc2_w 414, 3) := by decide +kernel
theorem dX12_digest_15 : decode cX12_digest 15 = .ok (.lload_n 1, 1) := by decide +kernel
theorem dX12_digest_16 : decode cX12_digest 16 = .ok (.lmul, 1) := by decide +kernel
theorem dX12_digest_17 : decode cX12_digest 17 = .ok (.aload_n 0, 1) := by decide +kernel
theorem dX12_digest_18 : decode cX12_digest 18 = .ok (.iload_n 3, 1) := by decide +kernel
theorem dX12_digest_19 : decode cX12_digest 19 = .ok (.invokevirtual 416, 3) := by decide +kernel
theorem dX12_digest_22 : decode cX12_digest 22 = .ok (.i2l, 1) := by decide +kernel
theorem dX12_digest_23 : decode cX12_digest 23 = .ok (.ladd, 1) := by decide +kernel
theorem dX12_digest_24 : decode cX12_digest 24 = .ok (.lstore_n 1, 1) := by decide +kernel
theorem dX12_digest_25 : decode cX12_digest 25 = .ok (.iinc 3 1, 3) := by decide +kernel
theorem dX12_digest_28 : decode cX12_digest 28 = .ok (.goto (-22), 3) := by decide +kernel
theorem dX12_digest_31 : decode cX12_digest 31 = .ok (.iconst 0, 1) := by decide +kernel
theorem dX12_digest_32 : decode cX12_digest 32 = .ok (.istore_n 3, 1) := by decide +kernel
theorem dX12_digest_33 : decode cX12_digest 33 = .ok (.iload_n 3, 1) := by decide +kernel
theorem dX12_digest_34 : decode cX12_digest 34 = .ok (.aload_n 0, 1) := by decide +kernel
theorem dX12_digest_35 : decode cX12_digest 35 = .ok (.getfield 142, 3) := by decide +kernel
theorem dX12_digest_38 : decode cX12_digest 38 = .ok (.if_icmp .ge 177, 3) := by decide +kernel
theorem dX12_digest_41 : decode cX12_digest 41 = .ok (.iconst 0, 1) := by decide +kernel
theorem dX12_digest_42 : decode cX12_digest 42 = .ok (.istore 4, 2) := by decide +kernel
theorem dX12_digest_44 : decode cX12_digest 44 = .ok (.iload 4, 2) := by decide +kernel
theorem dX12_digest_46 : decode cX12_digest 46 = .ok (.bipush 6, 2) := by decide +kernel
theorem dX12_digest_48 : decode cX12_digest 48 = .ok (.if_icmp .ge 24, 3) := by decide +kernel
theorem dX12_digest_51 : decode cX12_digest 51 = .ok (.ldc2_w 414, 3) := by decide +kernel
theorem dX12_digest_54 : decode cX12_digest 54 = .ok (.lload_n 1, 1) := by decide +kernel
theorem dX12_digest_55 : decode cX12_digest 55 = .ok (.lmul, 1) := by decide +kernel
theorem dX12_digest_56 : decode cX12_digest 56 = .ok (.aload_n 0, 1) := by decide +kernel
theorem dX12_digest_57 : decode cX12_digest 57 = .ok (.iload_n 3, 1) := by decide +kernel
theorem dX12_digest_58 : decode cX12_digest 58 = .ok (.iload 4, 2) := by decide +kernel
theorem dX12_digest_60 : decode cX12_digest 60 = .ok (.invokevirtual 419, 3) := by decide +kernel
theorem dX12_digest_63 : decode cX12_digest 63 = .ok (.i2l, 1) := by decide +kernel
theorem dX12_digest_64 : decode cX12_digest 64 = .ok (.ladd, 1) := by decide +kernel
theorem dX12_digest_65 : decode cX12_digest 65 = .ok (.lstore_n 1, 1) := by decide +kernel
theorem dX12_digest_66 : decode cX12_digest 66 = .ok (.iinc 4 1, 3) := by decide +kernel
theorem dX12_digest_69 : decode cX12_digest 69 = .ok (.goto (-25), 3) := by decide +kernel
theorem dX12_digest_72 : decode cX12_digest 72 = .ok (.iconst 0, 1) := by decide +kernel
theorem dX12_digest_73 : decode cX12_digest 73 = .ok (.istore 4, 2) := by decide +kernel
theorem dX12_digest_75 : decode cX12_digest 75 = .ok (.iload 4, 2) := by decide +kernel
theorem dX12_digest_77 : decode cX12_digest 77 = .ok (.aload_n 0, 1) := by decide +kernel
theorem dX12_digest_78 : decode cX12_digest 78 = .ok (.getfield 36, 3) := by decide +kernel
theorem dX12_digest_81 : decode cX12_digest 81 = .ok (.iload_n 3, 1) := by decide +kernel
theorem dX12_digest_82 : decode cX12_digest 82 = .ok (.iaload, 1) := by decide +kernel
theorem dX12_digest_83 : decode cX12_digest 83 = .ok (.if_icmp .ge 54, 3) := by decide +kernel
theorem dX12_digest_86 : decode cX12_digest 86 = .ok (.iconst 0, 1) := by decide +kernel
theorem dX12_digest_87 : decode cX12_digest 87 = .ok (.istore 5, 2) := by decide +kernel
theorem dX12_digest_89 : decode cX12_digest 89 = .ok (.iload 5, 2) := by decide +kernel
theorem dX12_digest_91 : decode cX12_digest 91 = .ok (.iconst 2, 1) := by decide +kernel
theorem dX12_digest_92 : decode cX12_digest 92 = .ok (.aload_n 0, 1) := by decide +kernel
theorem dX12_digest_93 : decode cX12_digest 93 = .ok (.getfield 30, 3) := by decide +kernel
theorem dX12_digest_96 : decode cX12_digest 96 = .ok (.bipush 6, 2) := by decide +kernel
theorem dX12_digest_98 : decode cX12_digest 98 = .ok (.iload_n 3, 1) := by decide +kernel
theorem dX12_digest_99 : decode cX12_digest 99 = .ok (.imul, 1) := by decide +kernel
theorem dX12_digest_100 : decode cX12_digest 100 = .ok (.iload 4, 2) := by decide +kernel
theorem dX12_digest_102 : decode cX12_digest 102 = .ok (.iadd, 1) := by decide +kernel
theorem dX12_digest_103 : decode cX12_digest 103 = .ok (.iaload, 1) := by decide +kernel
theorem dX12_digest_104 : decode cX12_digest 104 = .ok (.iadd, 1) := by decide +kernel
theorem dX12_digest_105 : decode cX12_digest 105 = .ok (.if_icmp .ge 26, 3) := by decide +kernel
theorem dX12_digest_108 : decode cX12_digest 108 = .ok (.ldc2_w 414, 3) := by decide +kernel
theorem dX12_digest_111 : decode cX12_digest 111 = .ok (.lload_n 1, 1) := by decide +kernel
theorem dX12_digest_112 : decode cX12_digest 112 = .ok (.lmul, 1) := by decide +kernel
theorem dX12_digest_113 : decode cX12_digest 113 = .ok (.aload_n 0, 1) := by decide +kernel
theorem dX12_digest_114 : decode cX12_digest 114 = .ok (.iload_n 3, 1) := by decide +kernel
theorem dX12_digest_115 : decode cX12_digest 115 = .ok (.iload 4, 2) := by decide +kernel
theorem dX12_digest_117 : decode cX12_digest 117 = .ok (.iload 5, 2) := by decide +kernel
theorem dX12_digest_119 : decode cX12_digest 119 = .ok (.invokevirtual 422, 3) := by decide +kernel
theorem dX12_digest_122 : decode cX12_digest 122 = .ok (.i2l, 1) := by decide +kernel
theorem dX12_digest_123 : decode cX12_digest 123 = .ok (.ladd, 1) := by decide +kernel
theorem dX12_digest_124 : decode cX12_digest 124 = .ok (.lstore_n 1, 1) := by decide +kernel
theorem dX12_digest_125 : decode cX12_digest 125 = .ok (.iinc 5 1, 3) := by decide +kernel
theorem dX12_digest_128 : decode cX12_digest 128 = .ok (.goto (-39), 3) := by decide +kernel
theorem dX12_digest_131 : decode cX12_digest 131 = .ok (.iinc 4 1, 3) := by decide +kernel
theorem dX12_digest_134 : decode cX12_digest 134 = .ok (.goto (-59), 3) := by decide +kernel
theorem dX12_digest_137 : decode cX12_digest 137 = .ok (.iconst 0, 1) := by decide +kernel
theorem dX12_digest_138 : decode cX12_digest 138 = .ok (.istore 4, 2) := by decide +kernel
theorem dX12_digest_140 : decode cX12_digest 140 = .ok (.iload 4, 2) := by decide +kernel
theorem dX12_digest_142 : decode cX12_digest 142 = .ok (.bipush 7, 2) := by decide +kernel
theorem dX12_digest_144 : decode cX12_digest 144 = .ok (.if_icmp .ge 24, 3) := by decide +kernel
theorem dX12_digest_147 : decode cX12_digest 147 = .ok (.ldc2_w 414, 3) := by decide +kernel
theorem dX12_digest_150 : decode cX12_digest 150 = .ok (.lload_n 1, 1) := by decide +kernel
theorem dX12_digest_151 : decode cX12_digest 151 = .ok (.lmul, 1) := by decide +kernel
theorem dX12_digest_152 : decode cX12_digest 152 = .ok (.aload_n 0, 1) := by decide +kernel
theorem dX12_digest_153 : decode cX12_digest 153 = .ok (.iload_n 3, 1) := by decide +kernel
theorem dX12_digest_154 : decode cX12_digest 154 = .ok (.iload 4, 2) := by decide +kernel
theorem dX12_digest_156 : decode cX12_digest 156 = .ok (.invokevirtual 425, 3) := by decide +kernel
theorem dX12_digest_159 : decode cX12_digest 159 = .ok (.i2l, 1) := by decide +kernel
theorem dX12_digest_160 : decode cX12_digest 160 = .ok (.ladd, 1) := by decide +kernel
theorem dX12_digest_161 : decode cX12_digest 161 = .ok (.lstore_n 1, 1) := by decide +kernel
theorem dX12_digest_162 : decode cX12_digest 162 = .ok (.iinc 4 1, 3) := by decide +kernel
theorem dX12_digest_165 : decode cX12_digest 165 = .ok (.goto (-25), 3) := by decide +kernel
theorem dX12_digest_168 : decode cX12_digest 168 = .ok (.bipush 10, 2) := by decide +kernel
theorem dX12_digest_170 : decode cX12_digest 170 = .ok (.istore 4, 2) := by decide +kernel
theorem dX12_digest_172 : decode cX12_digest 172 = .ok (.iload 4, 2) := by decide +kernel
theorem dX12_digest_174 : decode cX12_digest 174 = .ok (.bipush 11, 2) := by decide +kernel
theorem dX12_digest_176 : decode cX12_digest 176 = .ok (.iconst 4, 1) := by decide +kernel
theorem dX12_digest_177 : decode cX12_digest 177 = .ok (.aload_n 0, 1) := by decide +kernel
theorem dX12_digest_178 : decode cX12_digest 178 = .ok (.getfield 63, 3) := by decide +kernel
theorem dX12_digest_181 : decode cX12_digest 181 = .ok (.iload_n 3, 1) := by decide +kernel
theorem dX12_digest_182 : decode cX12_digest 182 = .ok (.iaload, 1) := by decide +kernel
theorem dX12_digest_183 : decode cX12_digest 183 = .ok (.imul, 1) := by decide +kernel
theorem dX12_digest_184 : decode cX12_digest 184 = .ok (.iadd, 1) := by decide +kernel
theorem dX12_digest_185 : decode cX12_digest 185 = .ok (.if_icmp .ge 24, 3) := by decide +kernel
theorem dX12_digest_188 : decode cX12_digest 188 = .ok (.ldc2_w 414, 3) := by decide +kernel
theorem dX12_digest_191 : decode cX12_digest 191 = .ok (.lload_n 1, 1) := by decide +kernel
theorem dX12_digest_192 : decode cX12_digest 192 = .ok (.lmul, 1) := by decide +kernel
theorem dX12_digest_193 : decode cX12_digest 193 = .ok (.aload_n 0, 1) := by decide +kernel
theorem dX12_digest_194 : decode cX12_digest 194 = .ok (.iload_n 3, 1) := by decide +kernel
theorem dX12_digest_195 : decode cX12_digest 195 = .ok (.iload 4, 2) := by decide +kernel
theorem dX12_digest_197 : decode cX12_digest 197 = .ok (.invokevirtual 425, 3) := by decide +kernel
theorem dX12_digest_200 : decode cX12_digest 200 = .ok (.i2l, 1) := by decide +kernel
theorem dX12_digest_201 : decode cX12_digest 201 = .ok (.ladd, 1) := by decide +kernel
theorem dX12_digest_202 : decode cX12_digest 202 = .ok (.lstore_n 1, 1) := by decide +kernel
theorem dX12_digest_203 : decode cX12_digest 203 = .ok (.iinc 4 1, 3) := by decide +kernel
theorem dX12_digest_206 : decode cX12_digest 206 = .ok (.goto (-34), 3) := by decide +kernel
theorem dX12_digest_209 : decode cX12_digest 209 = .ok (.iinc 3 1, 3) := by decide +kernel
theorem dX12_digest_212 : decode cX12_digest 212 = .ok (.goto (-179), 3) := by decide +kernel
theorem dX12_digest_215 : decode cX12_digest 215 = .ok (.lload_n 1, 1) := by decide +kernel
theorem dX12_digest_216 : decode cX12_digest 216 = .ok (.lreturn, 1) := by decide +kernel
theorem dJ9_min_7cf53_0 : decode cJ9_min_7cf53 0 = .ok (.iload_n 0, 1) := by decide +kernel
theorem dJ9_min_7cf53_1 : decode cJ9_min_7cf53 1 = .ok (.iload_n 1, 1) := by decide +kernel
theorem dJ9_min_7cf53_2 : decode cJ9_min_7cf53 2 = .ok (.if_icmp .gt 7, 3) := by decide +kernel
theorem dJ9_min_7cf53_5 : decode cJ9_min_7cf53 5 = .ok (.iload_n 0, 1) := by decide +kernel
theorem dJ9_min_7cf53_6 : decode cJ9_min_7cf53 6 = .ok (.goto 4, 3) := by decide +kernel
theorem dJ9_min_7cf53_9 : decode cJ9_min_7cf53 9 = .ok (.iload_n 1, 1) := by decide +kernel
theorem dJ9_min_7cf53_10 : decode cJ9_min_7cf53 10 = .ok (.ireturn, 1) := by decide +kernel
theorem dJ7_fill_53178_0 : decode cJ7_fill_53178 0 = .ok (.iconst 0, 1) := by decide +kernel
theorem dJ7_fill_53178_1 : decode cJ7_fill_53178 1 = .ok (.istore_n 2, 1) := by decide +kernel
theorem dJ7_fill_53178_2 : decode cJ7_fill_53178 2 = .ok (.aload_n 0, 1) := by decide +kernel
theorem dJ7_fill_53178_3 : decode cJ7_fill_53178 3 = .ok (.arraylength, 1) := by decide +kernel
theorem dJ7_fill_53178_4 : decode cJ7_fill_53178 4 = .ok (.istore_n 3, 1) := by decide +kernel
theorem dJ7_fill_53178_5 : decode cJ7_fill_53178 5 = .ok (.iload_n 2, 1) := by decide +kernel
theorem dJ7_fill_53178_6 : decode cJ7_fill_53178 6 = .ok (.iload_n 3, 1) := by decide +kernel
theorem dJ7_fill_53178_7 : decode cJ7_fill_53178 7 = .ok (.if_icmp .ge 13, 3) := by decide +kernel
theorem dJ7_fill_53178_10 : decode cJ7_fill_53178 10 = .ok (.aload_n 0, 1) := by decide +kernel
theorem dJ7_fill_53178_11 : decode cJ7_fill_53178 11 = .ok (.iload_n 2, 1) := by decide +kernel
theorem dJ7_fill_53178_12 : decode cJ7_fill_53178 12 = .ok (.iload_n 1, 1) := by decide +kernel
theorem dJ7_fill_53178_13 : decode cJ7_fill_53178 13 = .ok (.iastore, 1) := by decide +kernel
theorem dJ7_fill_53178_14 : decode cJ7_fill_53178 14 = .ok (.iinc 2 1, 3) := by decide +kernel
theorem dJ7_fill_53178_17 : decode cJ7_fill_53178 17 = .ok (.goto (-12), 3) := by decide +kernel
theorem dJ7_fill_53178_20 : decode cJ7_fill_53178 20 = .ok (.return_, 1) := by decide +kernel
theorem dL_law_0 : decode cL_law 0 = .ok (.new 7, 3) := by decide +kernel
theorem dL_law_3 : decode cL_law 3 = .ok (.dup, 1) := by decide +kernel
theorem dL_law_4 : decode cL_law 4 = .ok (.invokespecial 9, 3) := by decide +kernel
theorem dL_law_7 : decode cL_law 7 = .ok (.astore_n 1, 1) := by decide +kernel
theorem dL_law_8 : decode cL_law 8 = .ok (.new 10, 3) := by decide +kernel
theorem dL_law_11 : decode cL_law 11 = .ok (.dup, 1) := by decide +kernel
theorem dL_law_12 : decode cL_law 12 = .ok (.invokespecial 12, 3) := by decide +kernel
theorem dL_law_15 : decode cL_law 15 = .ok (.astore_n 2, 1) := by decide +kernel
theorem dL_law_16 : decode cL_law 16 = .ok (.iconst 0, 1) := by decide +kernel
theorem dL_law_17 : decode cL_law 17 = .ok (.istore_n 3, 1) := by decide +kernel
theorem dL_law_18 : decode cL_law 18 = .ok (.iload_n 3, 1) := by decide +kernel
theorem dL_law_19 : decode cL_law 19 = .ok (.aload_n 0, 1) := by decide +kernel
theorem dL_law_20 : decode cL_law 20 = .ok (.arraylength, 1) := by decide +kernel
theorem dL_law_21 : decode cL_law 21 = .ok (.iconst 5, 1) := by decide +kernel
theorem dL_law_22 : decode cL_law 22 = .ok (.isub, 1) := by decide +kernel
theorem dL_law_23 : decode cL_law 23 = .ok (.if_icmp .gt 614, 3) := by decide +kernel
theorem dL_law_26 : decode cL_law 26 = .ok (.aload_n 0, 1) := by decide +kernel
theorem dL_law_27 : decode cL_law 27 = .ok (.iload_n 3, 1) := by decide +kernel
theorem dL_law_28 : decode cL_law 28 = .ok (.iaload, 1) := by decide +kernel
theorem dL_law_29 : decode cL_law 29 = .ok (.bipush 31, 2) := by decide +kernel
theorem dL_law_31 : decode cL_law 31 = .ok (.iand, 1) := by decide +kernel
theorem dL_law_32 : decode cL_law 32 = .ok (.tableswitch 599 0 17 #[88, 147, 170, 183, 196, 219, 242, 265, 278, 311, 354, 387, 430, 453, 476, 529, 562, 585], 88) := by decide +kernel
theorem dL_law_120 : decode cL_law 120 = .ok (.aload_n 1, 1) := by decide +kernel
theorem dL_law_121 : decode cL_law 121 = .ok (.aload_n 0, 1) := by decide +kernel
theorem dL_law_122 : decode cL_law 122 = .ok (.iload_n 3, 1) := by decide +kernel
theorem dL_law_123 : decode cL_law 123 = .ok (.iconst 1, 1) := by decide +kernel
theorem dL_law_124 : decode cL_law 124 = .ok (.iadd, 1) := by decide +kernel
theorem dL_law_125 : decode cL_law 125 = .ok (.iaload, 1) := by decide +kernel
theorem dL_law_126 : decode cL_law 126 = .ok (.ifCond .eq 7, 3) := by decide +kernel
theorem dL_law_129 : decode cL_law 129 = .ok (.iconst 1, 1) := by decide +kernel
theorem dL_law_130 : decode cL_law 130 = .ok (.goto 4, 3) := by decide +kernel
theorem dL_law_133 : decode cL_law 133 = .ok (.iconst 0, 1) := by decide +kernel
theorem dL_law_134 : decode cL_law 134 = .ok (.aload_n 0, 1) := by decide +kernel
theorem dL_law_135 : decode cL_law 135 = .ok (.iload_n 3, 1) := by decide +kernel
theorem dL_law_136 : decode cL_law 136 = .ok (.iconst 2, 1) := by decide +kernel
theorem dL_law_137 : decode cL_law 137 = .ok (.iadd, 1) := by decide +kernel
theorem dL_law_138 : decode cL_law 138 = .ok (.iaload, 1) := by decide +kernel
theorem dL_law_139 : decode cL_law 139 = .ok (.aload_n 0, 1) := by decide +kernel
theorem dL_law_140 : decode cL_law 140 = .ok (.iload_n 3, 1) := by decide +kernel
theorem dL_law_141 : decode cL_law 141 = .ok (.iconst 3, 1) := by decide +kernel
theorem dL_law_142 : decode cL_law 142 = .ok (.iadd, 1) := by decide +kernel
theorem dL_law_143 : decode cL_law 143 = .ok (.iaload, 1) := by decide +kernel
theorem dL_law_144 : decode cL_law 144 = .ok (.invokevirtual 13, 3) := by decide +kernel
theorem dL_law_147 : decode cL_law 147 = .ok (.aload_n 2, 1) := by decide +kernel
theorem dL_law_148 : decode cL_law 148 = .ok (.aload_n 0, 1) := by decide +kernel
theorem dL_law_149 : decode cL_law 149 = .ok (.iload_n 3, 1) := by decide +kernel
theorem dL_law_150 : decode cL_law 150 = .ok (.iconst 1, 1) := by decide +kernel
theorem dL_law_151 : decode cL_law 151 = .ok (.iadd, 1) := by decide +kernel
theorem dL_law_152 : decode cL_law 152 = .ok (.iaload, 1) := by decide +kernel
theorem dL_law_153 : decode cL_law 153 = .ok (.ifCond .eq 7, 3) := by decide +kernel
theorem dL_law_156 : decode cL_law 156 = .ok (.iconst 1, 1) := by decide +kernel
theorem dL_law_157 : decode cL_law 157 = .ok (.goto 4, 3) := by decide +kernel
theorem dL_law_160 : decode cL_law 160 = .ok (.iconst 0, 1) := by decide +kernel
theorem dL_law_161 : decode cL_law 161 = .ok (.aload_n 0, 1) := by decide +kernel
theorem dL_law_162 : decode cL_law 162 = .ok (.iload_n 3, 1) := by decide +kernel
theorem dL_law_163 : decode cL_law 163 = .ok (.iconst 2, 1) := by decide +kernel
theorem dL_law_164 : decode cL_law 164 = .ok (.iadd, 1) := by decide +kernel
theorem dL_law_165 : decode cL_law 165 = .ok (.iaload, 1) := by decide +kernel
theorem dL_law_166 : decode cL_law 166 = .ok (.aload_n 0, 1) := by decide +kernel
theorem dL_law_167 : decode cL_law 167 = .ok (.iload_n 3, 1) := by decide +kernel
theorem dL_law_168 : decode cL_law 168 = .ok (.iconst 3, 1) := by decide +kernel
theorem dL_law_169 : decode cL_law 169 = .ok (.iadd, 1) := by decide +kernel
theorem dL_law_170 : decode cL_law 170 = .ok (.iaload, 1) := by decide +kernel
theorem dL_law_171 : decode cL_law 171 = .ok (.invokevirtual 17, 3) := by decide +kernel
theorem dL_law_174 : decode cL_law 174 = .ok (.if_icmp .eq 457, 3) := by decide +kernel
theorem dL_law_177 : decode cL_law 177 = .ok (.iconst 0, 1) := by decide +kernel
theorem dL_law_178 : decode cL_law 178 = .ok (.ireturn, 1) := by decide +kernel
theorem dL_law_179 : decode cL_law 179 = .ok (.aload_n 1, 1) := by decide +kernel
theorem dL_law_180 : decode cL_law 180 = .ok (.aload_n 0, 1) := by decide +kernel
theorem dL_law_181 : decode cL_law 181 = .ok (.iload_n 3, 1) := by decide +kernel
theorem dL_law_182 : decode cL_law 182 = .ok (.iconst 1, 1) := by decide +kernel
theorem dL_law_183 : decode cL_law 183 = .ok (.iadd, 1) := by decide +kernel
theorem dL_law_184 : decode cL_law 184 = .ok (.iaload, 1) := by decide +kernel
theorem dL_law_185 : decode cL_law 185 = .ok (.invokevirtual 18, 3) := by decide +kernel
theorem dL_law_188 : decode cL_law 188 = .ok (.aload_n 2, 1) := by decide +kernel
theorem dL_law_189 : decode cL_law 189 = .ok (.aload_n 0, 1) := by decide +kernel
theorem dL_law_190 : decode cL_law 190 = .ok (.iload_n 3, 1) := by decide +kernel
theorem dL_law_191 : decode cL_law 191 = .ok (.iconst 1, 1) := by decide +kernel
theorem dL_law_192 : decode cL_law 192 = .ok (.iadd, 1) := by decide +kernel
theorem dL_law_193 : decode cL_law 193 = .ok (.iaload, 1) := by decide +kernel
theorem dL_law_194 : decode cL_law 194 = .ok (.invokevirtual 22, 3) := by decide +kernel
theorem dL_law_197 : decode cL_law 197 = .ok (.if_icmp .eq 434, 3) := by decide +kernel
theorem dL_law_200 : decode cL_law 200 = .ok (.iconst 0, 1) := by decide +kernel
theorem dL_law_201 : decode cL_law 201 = .ok (.ireturn, 1) := by decide +kernel
theorem dL_law_202 : decode cL_law 202 = .ok (.aload_n 1, 1) := by decide +kernel
theorem dL_law_203 : decode cL_law 203 = .ok (.invokevirtual 23, 3) := by decide +kernel
theorem dL_law_206 : decode cL_law 206 = .ok (.aload_n 2, 1) := by decide +kernel
theorem dL_law_207 : decode cL_law 207 = .ok (.invokevirtual 27, 3) := by decide +kernel
theorem dL_law_210 : decode cL_law 210 = .ok (.if_icmp .eq 421, 3) := by decide +kernel
theorem dL_law_213 : decode cL_law 213 = .ok (.iconst 0, 1) := by decide +kernel
theorem dL_law_214 : decode cL_law 214 = .ok (.ireturn, 1) := by decide +kernel
theorem dL_law_215 : decode cL_law 215 = .ok (.aload_n 1, 1) := by decide +kernel
theorem dL_law_216 : decode cL_law 216 = .ok (.invokevirtual 28, 3) := by decide +kernel
theorem dL_law_219 : decode cL_law 219 = .ok (.aload_n 2, 1) := by decide +kernel
theorem dL_law_220 : decode cL_law 220 = .ok (.invokevirtual 31, 3) := by decide +kernel
theorem dL_law_223 : decode cL_law 223 = .ok (.if_icmp .eq 408, 3) := by decide +kernel
theorem dL_law_226 : decode cL_law 226 = .ok (.iconst 0, 1) := by decide +kernel
theorem dL_law_227 : decode cL_law 227 = .ok (.ireturn, 1) := by decide +kernel
theorem dL_law_228 : decode cL_law 228 = .ok (.aload_n 1, 1) := by decide +kernel
theorem dL_law_229 : decode cL_law 229 = .ok (.aload_n 0, 1) := by decide +kernel
theorem dL_law_230 : decode cL_law 230 = .ok (.iload_n 3, 1) := by decide +kernel
theorem dL_law_231 : decode cL_law 231 = .ok (.iconst 1, 1) := by decide +kernel
theorem dL_law_232 : decode cL_law 232 = .ok (.iadd, 1) := by decide +kernel
theorem dL_law_233 : decode cL_law 233 = .ok (.iaload, 1) := by decide +kernel
theorem dL_law_234 : decode cL_law 234 = .ok (.invokevirtual 32, 3) := by decide +kernel
theorem dL_law_237 : decode cL_law 237 = .ok (.aload_n 2, 1) := by decide +kernel
theorem dL_law_238 : decode cL_law 238 = .ok (.aload_n 0, 1) := by decide +kernel
theorem dL_law_239 : decode cL_law 239 = .ok (.iload_n 3, 1) := by decide +kernel
theorem dL_law_240 : decode cL_law 240 = .ok (.iconst 1, 1) := by decide +kernel
theorem dL_law_241 : decode cL_law 241 = .ok (.iadd, 1) := by decide +kernel
theorem dL_law_242 : decode cL_law 242 = .ok (.iaload, 1) := by decide +kernel
theorem dL_law_243 : decode cL_law 243 = .ok (.invokevirtual 35, 3) := by decide +kernel
theorem dL_law_246 : decode cL_law 246 = .ok (.if_icmp .eq 385, 3) := by decide +kernel
theorem dL_law_249 : decode cL_law 249 = .ok (.iconst 0, 1) := by decide +kernel
theorem dL_law_250 : decode cL_law 250 = .ok (.ireturn, 1) := by decide +kernel
theorem dL_law_251 : decode cL_law 251 = .ok (.aload_n 1, 1) := by decide +kernel
theorem dL_law_252 : decode cL_law 252 = .ok (.aload_n 0, 1) := by decide +kernel
theorem dL_law_253 : decode cL_law 253 = .ok (.iload_n 3, 1) := by decide +kernel
theorem dL_law_254 : decode cL_law 254 = .ok (.iconst 1, 1) := by decide +kernel
theorem dL_law_255 : decode cL_law 255 = .ok (.iadd, 1) := by decide +kernel
theorem dL_law_256 : decode cL_law 256 = .ok (.iaload, 1) := by decide +kernel
theorem dL_law_257 : decode cL_law 257 = .ok (.invokevirtual 36, 3) := by decide +kernel
theorem dL_law_260 : decode cL_law 260 = .ok (.aload_n 2, 1) := by decide +kernel
theorem dL_law_261 : decode cL_law 261 = .ok (.aload_n 0, 1) := by decide +kernel
theorem dL_law_262 : decode cL_law 262 = .ok (.iload_n 3, 1) := by decide +kernel
theorem dL_law_263 : decode cL_law 263 = .ok (.iconst 1, 1) := by decide +kernel
theorem dL_law_264 : decode cL_law 264 = .ok (.iadd, 1) := by decide +kernel
theorem dL_law_265 : decode cL_law 265 = .ok (.iaload, 1) := by decide +kernel
theorem dL_law_266 : decode cL_law 266 = .ok (.invokevirtual 39, 3) := by decide +kernel
theorem dL_law_269 : decode cL_law 269 = .ok (.if_icmp .eq 362, 3) := by decide +kernel
theorem dL_law_272 : decode cL_law 272 = .ok (.iconst 0, 1) := by decide +kernel
theorem dL_law_273 : decode cL_law 273 = .ok (.ireturn, 1) := by decide +kernel
theorem dL_law_274 : decode cL_law 274 = .ok (.aload_n 1, 1) := by decide +kernel
theorem dL_law_275 : decode cL_law 275 = .ok (.aload_n 0, 1) := by decide +kernel
theorem dL_law_276 : decode cL_law 276 = .ok (.iload_n 3, 1) := by decide +kernel
theorem dL_law_277 : decode cL_law 277 = .ok (.iconst 1, 1) := by decide +kernel
theorem dL_law_278 : decode cL_law 278 = .ok (.iadd, 1) := by decide +kernel
theorem dL_law_279 : decode cL_law 279 = .ok (.iaload, 1) := by decide +kernel
theorem dL_law_280 : decode cL_law 280 = .ok (.invokevirtual 40, 3) := by decide +kernel
theorem dL_law_283 : decode cL_law 283 = .ok (.aload_n 2, 1) := by decide +kernel
theorem dL_law_284 : decode cL_law 284 = .ok (.aload_n 0, 1) := by decide +kernel
theorem dL_law_285 : decode cL_law 285 = .ok (.iload_n 3, 1) := by decide +kernel
theorem dL_law_286 : decode cL_law 286 = .ok (.iconst 1, 1) := by decide +kernel
theorem dL_law_287 : decode cL_law 287 = .ok (.iadd, 1) := by decide +kernel
theorem dL_law_288 : decode cL_law 288 = .ok (.iaload, 1) := by decide +kernel
theorem dL_law_289 : decode cL_law 289 = .ok (.invokevirtual 43, 3) := by decide +kernel
theorem dL_law_292 : decode cL_law 292 = .ok (.if_icmp .eq 339, 3) := by decide +kernel
theorem dL_law_295 : decode cL_law 295 = .ok (.iconst 0, 1) := by decide +kernel
theorem dL_law_296 : decode cL_law 296 = .ok (.ireturn, 1) := by decide +kernel
theorem dL_law_297 : decode cL_law 297 = .ok (.aload_n 1, 1) := by decide +kernel
theorem dL_law_298 : decode cL_law 298 = .ok (.invokevirtual 44, 3) := by decide +kernel
theorem dL_law_301 : decode cL_law 301 = .ok (.aload_n 2, 1) := by decide +kernel
theorem dL_law_302 : decode cL_law 302 = .ok (.invokevirtual 47, 3) := by decide +kernel
theorem dL_law_305 : decode cL_law 305 = .ok (.if_icmp .eq 326, 3) := by decide +kernel
theorem dL_law_308 : decode cL_law 308 = .ok (.iconst 0, 1) := by decide +kernel
theorem dL_law_309 : decode cL_law 309 = .ok (.ireturn, 1) := by decide +kernel
theorem dL_law_310 : decode cL_law 310 = .ok (.aload_n 1, 1) := by decide +kernel
theorem dL_law_311 : decode cL_law 311 = .ok (.aload_n 0, 1) := by decide +kernel
theorem dL_law_312 : decode cL_law 312 = .ok (.iload_n 3, 1) := by decide +kernel
theorem dL_law_313 : decode cL_law 313 = .ok (.iconst 1, 1) := by decide +kernel
theorem dL_law_314 : decode cL_law 314 = .ok (.iadd, 1) := by decide +kernel
theorem dL_law_315 : decode cL_law 315 = .ok (.iaload, 1) := by decide +kernel
theorem dL_law_316 : decode cL_law 316 = .ok (.aload_n 0, 1) := by decide +kernel
theorem dL_law_317 : decode cL_law 317 = .ok (.iload_n 3, 1) := by decide +kernel
theorem dL_law_318 : decode cL_law 318 = .ok (.iconst 2, 1) := by decide +kernel
theorem dL_law_319 : decode cL_law 319 = .ok (.iadd, 1) := by decide +kernel
theorem dL_law_320 : decode cL_law 320 = .ok (.iaload, 1) := by decide +kernel
theorem dL_law_321 : decode cL_law 321 = .ok (.invokevirtual 48, 3) := by decide +kernel
theorem dL_law_324 : decode cL_law 324 = .ok (.aload_n 2, 1) := by decide +kernel
theorem dL_law_325 : decode cL_law 325 = .ok (.aload_n 0, 1) := by decide +kernel
theorem dL_law_326 : decode cL_law 326 = .ok (.iload_n 3, 1) := by decide +kernel
theorem dL_law_327 : decode cL_law 327 = .ok (.iconst 1, 1) := by decide +kernel
theorem dL_law_328 : decode cL_law 328 = .ok (.iadd, 1) := by decide +kernel
theorem dL_law_329 : decode cL_law 329 = .ok (.iaload, 1) := by decide +kernel
theorem dL_law_330 : decode cL_law 330 = .ok (.aload_n 0, 1) := by decide +kernel
theorem dL_law_331 : decode cL_law 331 = .ok (.iload_n 3, 1) := by decide +kernel
theorem dL_law_332 : decode cL_law 332 = .ok (.iconst 2, 1) := by decide +kernel
theorem dL_law_333 : decode cL_law 333 = .ok (.iadd, 1) := by decide +kernel
theorem dL_law_334 : decode cL_law 334 = .ok (.iaload, 1) := by decide +kernel
theorem dL_law_335 : decode cL_law 335 = .ok (.invokevirtual 52, 3) := by decide +kernel
theorem dL_law_338 : decode cL_law 338 = .ok (.if_icmp .eq 293, 3) := by decide +kernel
theorem dL_law_341 : decode cL_law 341 = .ok (.iconst 0, 1) := by decide +kernel
theorem dL_law_342 : decode cL_law 342 = .ok (.ireturn, 1) := by decide +kernel
theorem dL_law_343 : decode cL_law 343 = .ok (.aload_n 1, 1) := by decide +kernel
theorem dL_law_344 : decode cL_law 344 = .ok (.aload_n 0, 1) := by decide +kernel
theorem dL_law_345 : decode cL_law 345 = .ok (.iload_n 3, 1) := by decide +kernel
theorem dL_law_346 : decode cL_law 346 = .ok (.iconst 1, 1) := by decide +kernel
theorem dL_law_347 : decode cL_law 347 = .ok (.iadd, 1) := by decide +kernel
theorem dL_law_348 : decode cL_law 348 = .ok (.iaload, 1) := by decide +kernel
theorem dL_law_349 : decode cL_law 349 = .ok (.aload_n 0, 1) := by decide +kernel
theorem dL_law_350 : decode cL_law 350 = .ok (.iload_n 3, 1) := by decide +kernel
theorem dL_law_351 : decode cL_law 351 = .ok (.iconst 2, 1) := by decide +kernel
theorem dL_law_352 : decode cL_law 352 = .ok (.iadd, 1) := by decide +kernel
theorem dL_law_353 : decode cL_law 353 = .ok (.iaload, 1) := by decide +kernel
theorem dL_law_354 : decode cL_law 354 = .ok (.aload_n 0, 1) := by decide +kernel
theorem dL_law_355 : decode cL_law 355 = .ok (.iload_n 3, 1) := by decide +kernel
theorem dL_law_356 : decode cL_law 356 = .ok (.iconst 3, 1) := by decide +kernel
theorem dL_law_357 : decode cL_law 357 = .ok (.iadd, 1) := by decide +kernel
theorem dL_law_358 : decode cL_law 358 = .ok (.iaload, 1) := by decide +kernel
theorem dL_law_359 : decode cL_law 359 = .ok (.invokevirtual 53, 3) := by decide +kernel
theorem dL_law_362 : decode cL_law 362 = .ok (.aload_n 2, 1) := by decide +kernel
theorem dL_law_363 : decode cL_law 363 = .ok (.aload_n 0, 1) := by decide +kernel
theorem dL_law_364 : decode cL_law 364 = .ok (.iload_n 3, 1) := by decide +kernel
theorem dL_law_365 : decode cL_law 365 = .ok (.iconst 1, 1) := by decide +kernel
theorem dL_law_366 : decode cL_law 366 = .ok (.iadd, 1) := by decide +kernel
theorem dL_law_367 : decode cL_law 367 = .ok (.iaload, 1) := by decide +kernel
theorem dL_law_368 : decode cL_law 368 = .ok (.aload_n 0, 1) := by decide +kernel
theorem dL_law_369 : decode cL_law 369 = .ok (.iload_n 3, 1) := by decide +kernel
theorem dL_law_370 : decode cL_law 370 = .ok (.iconst 2, 1) := by decide +kernel
theorem dL_law_371 : decode cL_law 371 = .ok (.iadd, 1) := by decide +kernel
theorem dL_law_372 : decode cL_law 372 = .ok (.iaload, 1) := by decide +kernel
theorem dL_law_373 : decode cL_law 373 = .ok (.aload_n 0, 1) := by decide +kernel
theorem dL_law_374 : decode cL_law 374 = .ok (.iload_n 3, 1) := by decide +kernel
theorem dL_law_375 : decode cL_law 375 = .ok (.iconst 3, 1) := by decide +kernel
theorem dL_law_376 : decode cL_law 376 = .ok (.iadd, 1) := by decide +kernel
theorem dL_law_377 : decode cL_law 377 = .ok (.iaload, 1) := by decide +kernel
theorem dL_law_378 : decode cL_law 378 = .ok (.invokevirtual 57, 3) := by decide +kernel
theorem dL_law_381 : decode cL_law 381 = .ok (.if_icmp .eq 250, 3) := by decide +kernel
theorem dL_law_384 : decode cL_law 384 = .ok (.iconst 0, 1) := by decide +kernel
theorem dL_law_385 : decode cL_law 385 = .ok (.ireturn, 1) := by decide +kernel
theorem dL_law_386 : decode cL_law 386 = .ok (.aload_n 1, 1) := by decide +kernel
theorem dL_law_387 : decode cL_law 387 = .ok (.aload_n 0, 1) := by decide +kernel
theorem dL_law_388 : decode cL_law 388 = .ok (.iload_n 3, 1) := by decide +kernel
theorem dL_law_389 : decode cL_law 389 = .ok (.iconst 1, 1) := by decide +kernel
theorem dL_law_390 : decode cL_law 390 = .ok (.iadd, 1) := by decide +kernel
theorem dL_law_391 : decode cL_law 391 = .ok (.iaload, 1) := by decide +kernel
theorem dL_law_392 : decode cL_law 392 = .ok (.aload_n 0, 1) := by decide +kernel
theorem dL_law_393 : decode cL_law 393 = .ok (.iload_n 3, 1) := by decide +kernel
theorem dL_law_394 : decode cL_law 394 = .ok (.iconst 2, 1) := by decide +kernel
theorem dL_law_395 : decode cL_law 395 = .ok (.iadd, 1) := by decide +kernel
theorem dL_law_396 : decode cL_law 396 = .ok (.iaload, 1) := by decide +kernel
theorem dL_law_397 : decode cL_law 397 = .ok (.invokevirtual 58, 3) := by decide +kernel
theorem dL_law_400 : decode cL_law 400 = .ok (.aload_n 2, 1) := by decide +kernel
theorem dL_law_401 : decode cL_law 401 = .ok (.aload_n 0, 1) := by decide +kernel
theorem dL_law_402 : decode cL_law 402 = .ok (.iload_n 3, 1) := by decide +kernel
theorem dL_law_403 : decode cL_law 403 = .ok (.iconst 1, 1) := by decide +kernel
theorem dL_law_404 : decode cL_law 404 = .ok (.iadd, 1) := by decide +kernel
theorem dL_law_405 : decode cL_law 405 = .ok (.iaload, 1) := by decide +kernel
theorem dL_law_406 : decode cL_law 406 = .ok (.aload_n 0, 1) := by decide +kernel
theorem dL_law_407 : decode cL_law 407 = .ok (.iload_n 3, 1) := by decide +kernel
theorem dL_law_408 : decode cL_law 408 = .ok (.iconst 2, 1) := by decide +kernel
theorem dL_law_409 : decode cL_law 409 = .ok (.iadd, 1) := by decide +kernel
theorem dL_law_410 : decode cL_law 410 = .ok (.iaload, 1) := by decide +kernel
theorem dL_law_411 : decode cL_law 411 = .ok (.invokevirtual 61, 3) := by decide +kernel
theorem dL_law_414 : decode cL_law 414 = .ok (.if_icmp .eq 217, 3) := by decide +kernel
theorem dL_law_417 : decode cL_law 417 = .ok (.iconst 0, 1) := by decide +kernel
theorem dL_law_418 : decode cL_law 418 = .ok (.ireturn, 1) := by decide +kernel
theorem dL_law_419 : decode cL_law 419 = .ok (.aload_n 1, 1) := by decide +kernel
theorem dL_law_420 : decode cL_law 420 = .ok (.aload_n 0, 1) := by decide +kernel
theorem dL_law_421 : decode cL_law 421 = .ok (.iload_n 3, 1) := by decide +kernel
theorem dL_law_422 : decode cL_law 422 = .ok (.iconst 1, 1) := by decide +kernel
theorem dL_law_423 : decode cL_law 423 = .ok (.iadd, 1) := by decide +kernel
theorem dL_law_424 : decode cL_law 424 = .ok (.iaload, 1) := by decide +kernel
theorem dL_law_425 : decode cL_law 425 = .ok (.aload_n 0, 1) := by decide +kernel
theorem dL_law_426 : decode cL_law 426 = .ok (.iload_n 3, 1) := by decide +kernel
theorem dL_law_427 : decode cL_law 427 = .ok (.iconst 2, 1) := by decide +kernel
theorem dL_law_428 : decode cL_law 428 = .ok (.iadd, 1) := by decide +kernel
theorem dL_law_429 : decode cL_law 429 = .ok (.iaload, 1) := by decide +kernel
theorem dL_law_430 : decode cL_law 430 = .ok (.aload_n 0, 1) := by decide +kernel
theorem dL_law_431 : decode cL_law 431 = .ok (.iload_n 3, 1) := by decide +kernel
theorem dL_law_432 : decode cL_law 432 = .ok (.iconst 3, 1) := by decide +kernel
theorem dL_law_433 : decode cL_law 433 = .ok (.iadd, 1) := by decide +kernel
theorem dL_law_434 : decode cL_law 434 = .ok (.iaload, 1) := by decide +kernel
theorem dL_law_435 : decode cL_law 435 = .ok (.invokevirtual 62, 3) := by decide +kernel
theorem dL_law_438 : decode cL_law 438 = .ok (.aload_n 2, 1) := by decide +kernel
theorem dL_law_439 : decode cL_law 439 = .ok (.aload_n 0, 1) := by decide +kernel
theorem dL_law_440 : decode cL_law 440 = .ok (.iload_n 3, 1) := by decide +kernel
theorem dL_law_441 : decode cL_law 441 = .ok (.iconst 1, 1) := by decide +kernel
theorem dL_law_442 : decode cL_law 442 = .ok (.iadd, 1) := by decide +kernel
theorem dL_law_443 : decode cL_law 443 = .ok (.iaload, 1) := by decide +kernel
theorem dL_law_444 : decode cL_law 444 = .ok (.aload_n 0, 1) := by decide +kernel
theorem dL_law_445 : decode cL_law 445 = .ok (.iload_n 3, 1) := by decide +kernel
theorem dL_law_446 : decode cL_law 446 = .ok (.iconst 2, 1) := by decide +kernel
theorem dL_law_447 : decode cL_law 447 = .ok (.iadd, 1) := by decide +kernel
theorem dL_law_448 : decode cL_law 448 = .ok (.iaload, 1) := by decide +kernel
theorem dL_law_449 : decode cL_law 449 = .ok (.aload_n 0, 1) := by decide +kernel
theorem dL_law_450 : decode cL_law 450 = .ok (.iload_n 3, 1) := by decide +kernel
theorem dL_law_451 : decode cL_law 451 = .ok (.iconst 3, 1) := by decide +kernel
theorem dL_law_452 : decode cL_law 452 = .ok (.iadd, 1) := by decide +kernel
theorem dL_law_453 : decode cL_law 453 = .ok (.iaload, 1) := by decide +kernel
theorem dL_law_454 : decode cL_law 454 = .ok (.invokevirtual 65, 3) := by decide +kernel
theorem dL_law_457 : decode cL_law 457 = .ok (.if_icmp .eq 174, 3) := by decide +kernel
theorem dL_law_460 : decode cL_law 460 = .ok (.iconst 0, 1) := by decide +kernel
theorem dL_law_461 : decode cL_law 461 = .ok (.ireturn, 1) := by decide +kernel
theorem dL_law_462 : decode cL_law 462 = .ok (.aload_n 1, 1) := by decide +kernel
theorem dL_law_463 : decode cL_law 463 = .ok (.aload_n 0, 1) := by decide +kernel
theorem dL_law_464 : decode cL_law 464 = .ok (.iload_n 3, 1) := by decide +kernel
theorem dL_law_465 : decode cL_law 465 = .ok (.iconst 1, 1) := by decide +kernel
theorem dL_law_466 : decode cL_law 466 = .ok (.iadd, 1) := by decide +kernel
theorem dL_law_467 : decode cL_law 467 = .ok (.iaload, 1) := by decide +kernel
theorem dL_law_468 : decode cL_law 468 = .ok (.invokevirtual 66, 3) := by decide +kernel
theorem dL_law_471 : decode cL_law 471 = .ok (.aload_n 2, 1) := by decide +kernel
theorem dL_law_472 : decode cL_law 472 = .ok (.aload_n 0, 1) := by decide +kernel
theorem dL_law_473 : decode cL_law 473 = .ok (.iload_n 3, 1) := by decide +kernel
theorem dL_law_474 : decode cL_law 474 = .ok (.iconst 1, 1) := by decide +kernel
theorem dL_law_475 : decode cL_law 475 = .ok (.iadd, 1) := by decide +kernel
theorem dL_law_476 : decode cL_law 476 = .ok (.iaload, 1) := by decide +kernel
theorem dL_law_477 : decode cL_law 477 = .ok (.invokevirtual 69, 3) := by decide +kernel
theorem dL_law_480 : decode cL_law 480 = .ok (.if_icmp .eq 151, 3) := by decide +kernel
theorem dL_law_483 : decode cL_law 483 = .ok (.iconst 0, 1) := by decide +kernel
theorem dL_law_484 : decode cL_law 484 = .ok (.ireturn, 1) := by decide +kernel
theorem dL_law_485 : decode cL_law 485 = .ok (.aload_n 1, 1) := by decide +kernel
theorem dL_law_486 : decode cL_law 486 = .ok (.aload_n 0, 1) := by decide +kernel
theorem dL_law_487 : decode cL_law 487 = .ok (.iload_n 3, 1) := by decide +kernel
theorem dL_law_488 : decode cL_law 488 = .ok (.iconst 1, 1) := by decide +kernel
theorem dL_law_489 : decode cL_law 489 = .ok (.iadd, 1) := by decide +kernel
theorem dL_law_490 : decode cL_law 490 = .ok (.iaload, 1) := by decide +kernel
theorem dL_law_491 : decode cL_law 491 = .ok (.invokevirtual 70, 3) := by decide +kernel
theorem dL_law_494 : decode cL_law 494 = .ok (.aload_n 2, 1) := by decide +kernel
theorem dL_law_495 : decode cL_law 495 = .ok (.aload_n 0, 1) := by decide +kernel
theorem dL_law_496 : decode cL_law 496 = .ok (.iload_n 3, 1) := by decide +kernel
theorem dL_law_497 : decode cL_law 497 = .ok (.iconst 1, 1) := by decide +kernel
theorem dL_law_498 : decode cL_law 498 = .ok (.iadd, 1) := by decide +kernel
theorem dL_law_499 : decode cL_law 499 = .ok (.iaload, 1) := by decide +kernel
theorem dL_law_500 : decode cL_law 500 = .ok (.invokevirtual 73, 3) := by decide +kernel
theorem dL_law_503 : decode cL_law 503 = .ok (.if_icmp .eq 128, 3) := by decide +kernel
theorem dL_law_506 : decode cL_law 506 = .ok (.iconst 0, 1) := by decide +kernel
theorem dL_law_507 : decode cL_law 507 = .ok (.ireturn, 1) := by decide +kernel
theorem dL_law_508 : decode cL_law 508 = .ok (.aload_n 1, 1) := by decide +kernel
theorem dL_law_509 : decode cL_law 509 = .ok (.aload_n 0, 1) := by decide +kernel
theorem dL_law_510 : decode cL_law 510 = .ok (.iload_n 3, 1) := by decide +kernel
theorem dL_law_511 : decode cL_law 511 = .ok (.iconst 1, 1) := by decide +kernel
theorem dL_law_512 : decode cL_law 512 = .ok (.iadd, 1) := by decide +kernel
theorem dL_law_513 : decode cL_law 513 = .ok (.iaload, 1) := by decide +kernel
theorem dL_law_514 : decode cL_law 514 = .ok (.aload_n 0, 1) := by decide +kernel
theorem dL_law_515 : decode cL_law 515 = .ok (.iload_n 3, 1) := by decide +kernel
theorem dL_law_516 : decode cL_law 516 = .ok (.iconst 2, 1) := by decide +kernel
theorem dL_law_517 : decode cL_law 517 = .ok (.iadd, 1) := by decide +kernel
theorem dL_law_518 : decode cL_law 518 = .ok (.iaload, 1) := by decide +kernel
theorem dL_law_519 : decode cL_law 519 = .ok (.aload_n 0, 1) := by decide +kernel
theorem dL_law_520 : decode cL_law 520 = .ok (.iload_n 3, 1) := by decide +kernel
theorem dL_law_521 : decode cL_law 521 = .ok (.iconst 3, 1) := by decide +kernel
theorem dL_law_522 : decode cL_law 522 = .ok (.iadd, 1) := by decide +kernel
theorem dL_law_523 : decode cL_law 523 = .ok (.iaload, 1) := by decide +kernel
theorem dL_law_524 : decode cL_law 524 = .ok (.aload_n 0, 1) := by decide +kernel
theorem dL_law_525 : decode cL_law 525 = .ok (.iload_n 3, 1) := by decide +kernel
theorem dL_law_526 : decode cL_law 526 = .ok (.iconst 4, 1) := by decide +kernel
theorem dL_law_527 : decode cL_law 527 = .ok (.iadd, 1) := by decide +kernel
theorem dL_law_528 : decode cL_law 528 = .ok (.iaload, 1) := by decide +kernel
theorem dL_law_529 : decode cL_law 529 = .ok (.invokevirtual 74, 3) := by decide +kernel
theorem dL_law_532 : decode cL_law 532 = .ok (.aload_n 2, 1) := by decide +kernel
theorem dL_law_533 : decode cL_law 533 = .ok (.aload_n 0, 1) := by decide +kernel
theorem dL_law_534 : decode cL_law 534 = .ok (.iload_n 3, 1) := by decide +kernel
theorem dL_law_535 : decode cL_law 535 = .ok (.iconst 1, 1) := by decide +kernel
theorem dL_law_536 : decode cL_law 536 = .ok (.iadd, 1) := by decide +kernel
theorem dL_law_537 : decode cL_law 537 = .ok (.iaload, 1) := by decide +kernel
theorem dL_law_538 : decode cL_law 538 = .ok (.aload_n 0, 1) := by decide +kernel
theorem dL_law_539 : decode cL_law 539 = .ok (.iload_n 3, 1) := by decide +kernel
theorem dL_law_540 : decode cL_law 540 = .ok (.iconst 2, 1) := by decide +kernel
theorem dL_law_541 : decode cL_law 541 = .ok (.iadd, 1) := by decide +kernel
theorem dL_law_542 : decode cL_law 542 = .ok (.iaload, 1) := by decide +kernel
theorem dL_law_543 : decode cL_law 543 = .ok (.aload_n 0, 1) := by decide +kernel
theorem dL_law_544 : decode cL_law 544 = .ok (.iload_n 3, 1) := by decide +kernel
theorem dL_law_545 : decode cL_law 545 = .ok (.iconst 3, 1) := by decide +kernel
theorem dL_law_546 : decode cL_law 546 = .ok (.iadd, 1) := by decide +kernel
theorem dL_law_547 : decode cL_law 547 = .ok (.iaload, 1) := by decide +kernel
theorem dL_law_548 : decode cL_law 548 = .ok (.aload_n 0, 1) := by decide +kernel
theorem dL_law_549 : decode cL_law 549 = .ok (.iload_n 3, 1) := by decide +kernel
theorem dL_law_550 : decode cL_law 550 = .ok (.iconst 4, 1) := by decide +kernel
theorem dL_law_551 : decode cL_law 551 = .ok (.iadd, 1) := by decide +kernel
theorem dL_law_552 : decode cL_law 552 = .ok (.iaload, 1) := by decide +kernel
theorem dL_law_553 : decode cL_law 553 = .ok (.invokevirtual 78, 3) := by decide +kernel
theorem dL_law_556 : decode cL_law 556 = .ok (.if_icmp .eq 75, 3) := by decide +kernel
theorem dL_law_559 : decode cL_law 559 = .ok (.iconst 0, 1) := by decide +kernel
theorem dL_law_560 : decode cL_law 560 = .ok (.ireturn, 1) := by decide +kernel
theorem dL_law_561 : decode cL_law 561 = .ok (.aload_n 1, 1) := by decide +kernel
theorem dL_law_562 : decode cL_law 562 = .ok (.aload_n 0, 1) := by decide +kernel
theorem dL_law_563 : decode cL_law 563 = .ok (.iload_n 3, 1) := by decide +kernel
theorem dL_law_564 : decode cL_law 564 = .ok (.iconst 1, 1) := by decide +kernel
theorem dL_law_565 : decode cL_law 565 = .ok (.iadd, 1) := by decide +kernel
theorem dL_law_566 : decode cL_law 566 = .ok (.iaload, 1) := by decide +kernel
theorem dL_law_567 : decode cL_law 567 = .ok (.aload_n 0, 1) := by decide +kernel
theorem dL_law_568 : decode cL_law 568 = .ok (.iload_n 3, 1) := by decide +kernel
theorem dL_law_569 : decode cL_law 569 = .ok (.iconst 2, 1) := by decide +kernel
theorem dL_law_570 : decode cL_law 570 = .ok (.iadd, 1) := by decide +kernel
theorem dL_law_571 : decode cL_law 571 = .ok (.iaload, 1) := by decide +kernel
theorem dL_law_572 : decode cL_law 572 = .ok (.invokevirtual 79, 3) := by decide +kernel
theorem dL_law_575 : decode cL_law 575 = .ok (.aload_n 2, 1) := by decide +kernel
theorem dL_law_576 : decode cL_law 576 = .ok (.aload_n 0, 1) := by decide +kernel
theorem dL_law_577 : decode cL_law 577 = .ok (.iload_n 3, 1) := by decide +kernel
theorem dL_law_578 : decode cL_law 578 = .ok (.iconst 1, 1) := by decide +kernel
theorem dL_law_579 : decode cL_law 579 = .ok (.iadd, 1) := by decide +kernel
theorem dL_law_580 : decode cL_law 580 = .ok (.iaload, 1) := by decide +kernel
theorem dL_law_581 : decode cL_law 581 = .ok (.aload_n 0, 1) := by decide +kernel
theorem dL_law_582 : decode cL_law 582 = .ok (.iload_n 3, 1) := by decide +kernel
theorem dL_law_583 : decode cL_law 583 = .ok (.iconst 2, 1) := by decide +kernel
theorem dL_law_584 : decode cL_law 584 = .ok (.iadd, 1) := by decide +kernel
theorem dL_law_585 : decode cL_law 585 = .ok (.iaload, 1) := by decide +kernel
theorem dL_law_586 : decode cL_law 586 = .ok (.invokevirtual 82, 3) := by decide +kernel
theorem dL_law_589 : decode cL_law 589 = .ok (.if_icmp .eq 42, 3) := by decide +kernel
theorem dL_law_592 : decode cL_law 592 = .ok (.iconst 0, 1) := by decide +kernel
theorem dL_law_593 : decode cL_law 593 = .ok (.ireturn, 1) := by decide +kernel
theorem dL_law_594 : decode cL_law 594 = .ok (.aload_n 1, 1) := by decide +kernel
theorem dL_law_595 : decode cL_law 595 = .ok (.aload_n 0, 1) := by decide +kernel
theorem dL_law_596 : decode cL_law 596 = .ok (.iload_n 3, 1) := by decide +kernel
theorem dL_law_597 : decode cL_law 597 = .ok (.iconst 1, 1) := by decide +kernel
theorem dL_law_598 : decode cL_law 598 = .ok (.iadd, 1) := by decide +kernel
theorem dL_law_599 : decode cL_law 599 = .ok (.iaload, 1) := by decide +kernel
theorem dL_law_600 : decode cL_law 600 = .ok (.invokevirtual 83, 3) := by decide +kernel
theorem dL_law_603 : decode cL_law 603 = .ok (.aload_n 2, 1) := by decide +kernel
theorem dL_law_604 : decode cL_law 604 = .ok (.aload_n 0, 1) := by decide +kernel
theorem dL_law_605 : decode cL_law 605 = .ok (.iload_n 3, 1) := by decide +kernel
theorem dL_law_606 : decode cL_law 606 = .ok (.iconst 1, 1) := by decide +kernel
theorem dL_law_607 : decode cL_law 607 = .ok (.iadd, 1) := by decide +kernel
theorem dL_law_608 : decode cL_law 608 = .ok (.iaload, 1) := by decide +kernel
theorem dL_law_609 : decode cL_law 609 = .ok (.invokevirtual 86, 3) := by decide +kernel
theorem dL_law_612 : decode cL_law 612 = .ok (.if_icmp .eq 19, 3) := by decide +kernel
theorem dL_law_615 : decode cL_law 615 = .ok (.iconst 0, 1) := by decide +kernel
theorem dL_law_616 : decode cL_law 616 = .ok (.ireturn, 1) := by decide +kernel
theorem dL_law_617 : decode cL_law 617 = .ok (.aload_n 1, 1) := by decide +kernel
theorem dL_law_618 : decode cL_law 618 = .ok (.invokevirtual 87, 3) := by decide +kernel
theorem dL_law_621 : decode cL_law 621 = .ok (.aload_n 2, 1) := by decide +kernel
theorem dL_law_622 : decode cL_law 622 = .ok (.invokevirtual 91, 3) := by decide +kernel
theorem dL_law_625 : decode cL_law 625 = .ok (.lcmp, 1) := by decide +kernel
theorem dL_law_626 : decode cL_law 626 = .ok (.ifCond .eq 5, 3) := by decide +kernel
theorem dL_law_629 : decode cL_law 629 = .ok (.iconst 0, 1) := by decide +kernel
theorem dL_law_630 : decode cL_law 630 = .ok (.ireturn, 1) := by decide +kernel
theorem dL_law_631 : decode cL_law 631 = .ok (.iinc 3 5, 3) := by decide +kernel
theorem dL_law_634 : decode cL_law 634 = .ok (.goto (-616), 3) := by decide +kernel
theorem dL_law_637 : decode cL_law 637 = .ok (.iconst 1, 1) := by decide +kernel
theorem dL_law_638 : decode cL_law 638 = .ok (.ireturn, 1) := by decide +kernel
