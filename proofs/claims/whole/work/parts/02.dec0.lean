theorem dX0_init_0 : decode cX0_init 0 = .ok (.aload_n 0, 1) := by decide +kernel
theorem dX0_init_1 : decode cX0_init 1 = .ok (.invokespecial 3, 3) := by decide +kernel
theorem dX0_init_4 : decode cX0_init 4 = .ok (.aload_n 0, 1) := by decide +kernel
theorem dX0_init_5 : decode cX0_init 5 = .ok (.bipush 7, 2) := by decide +kernel
theorem dX0_init_7 : decode cX0_init 7 = .ok (.newarray .int, 2) := by decide +kernel
theorem dX0_init_9 : decode cX0_init 9 = .ok (.putfield 9, 3) := by decide +kernel
theorem dX0_init_12 : decode cX0_init 12 = .ok (.aload_n 0, 1) := by decide +kernel
theorem dX0_init_13 : decode cX0_init 13 = .ok (.aconst_null, 1) := by decide +kernel
theorem dX0_init_14 : decode cX0_init 14 = .ok (.putfield 15, 3) := by decide +kernel
theorem dX0_init_17 : decode cX0_init 17 = .ok (.aload_n 0, 1) := by decide +kernel
theorem dX0_init_18 : decode cX0_init 18 = .ok (.iconst 0, 1) := by decide +kernel
theorem dX0_init_19 : decode cX0_init 19 = .ok (.putfield 19, 3) := by decide +kernel
theorem dX0_init_22 : decode cX0_init 22 = .ok (.aload_n 0, 1) := by decide +kernel
theorem dX0_init_23 : decode cX0_init 23 = .ok (.bipush 6, 2) := by decide +kernel
theorem dX0_init_25 : decode cX0_init 25 = .ok (.putfield 23, 3) := by decide +kernel
theorem dX0_init_28 : decode cX0_init 28 = .ok (.aload_n 0, 1) := by decide +kernel
theorem dX0_init_29 : decode cX0_init 29 = .ok (.aconst_null, 1) := by decide +kernel
theorem dX0_init_30 : decode cX0_init 30 = .ok (.putfield 26, 3) := by decide +kernel
theorem dX0_init_33 : decode cX0_init 33 = .ok (.aload_n 0, 1) := by decide +kernel
theorem dX0_init_34 : decode cX0_init 34 = .ok (.aconst_null, 1) := by decide +kernel
theorem dX0_init_35 : decode cX0_init 35 = .ok (.putfield 29, 3) := by decide +kernel
theorem dX0_init_38 : decode cX0_init 38 = .ok (.aload_n 0, 1) := by decide +kernel
theorem dX0_init_39 : decode cX0_init 39 = .ok (.iconst 0, 1) := by decide +kernel
theorem dX0_init_40 : decode cX0_init 40 = .ok (.putfield 32, 3) := by decide +kernel
theorem dX0_init_43 : decode cX0_init 43 = .ok (.aload_n 0, 1) := by decide +kernel
theorem dX0_init_44 : decode cX0_init 44 = .ok (.iconst 0, 1) := by decide +kernel
theorem dX0_init_45 : decode cX0_init 45 = .ok (.putfield 35, 3) := by decide +kernel
theorem dX0_init_48 : decode cX0_init 48 = .ok (.aload_n 0, 1) := by decide +kernel
theorem dX0_init_49 : decode cX0_init 49 = .ok (.iconst 0, 1) := by decide +kernel
theorem dX0_init_50 : decode cX0_init 50 = .ok (.putfield 38, 3) := by decide +kernel
theorem dX0_init_53 : decode cX0_init 53 = .ok (.aload_n 0, 1) := by decide +kernel
theorem dX0_init_54 : decode cX0_init 54 = .ok (.iconst 0, 1) := by decide +kernel
theorem dX0_init_55 : decode cX0_init 55 = .ok (.putfield 41, 3) := by decide +kernel
theorem dX0_init_58 : decode cX0_init 58 = .ok (.aload_n 0, 1) := by decide +kernel
theorem dX0_init_59 : decode cX0_init 59 = .ok (.aload_n 1, 1) := by decide +kernel
theorem dX0_init_60 : decode cX0_init 60 = .ok (.putfield 44, 3) := by decide +kernel
theorem dX0_init_63 : decode cX0_init 63 = .ok (.aload_n 0, 1) := by decide +kernel
theorem dX0_init_64 : decode cX0_init 64 = .ok (.aload_n 2, 1) := by decide +kernel
theorem dX0_init_65 : decode cX0_init 65 = .ok (.putfield 48, 3) := by decide +kernel
theorem dX0_init_68 : decode cX0_init 68 = .ok (.return_, 1) := by decide +kernel
theorem dX0_asGiven_0 : decode cX0_asGiven 0 = .ok (.aload_n 0, 1) := by decide +kernel
theorem dX0_asGiven_1 : decode cX0_asGiven 1 = .ok (.getfield 9, 3) := by decide +kernel
theorem dX0_asGiven_4 : decode cX0_asGiven 4 = .ok (.iconst 0, 1) := by decide +kernel
theorem dX0_asGiven_5 : decode cX0_asGiven 5 = .ok (.invokestatic 52, 3) := by decide +kernel
theorem dX0_asGiven_8 : decode cX0_asGiven 8 = .ok (.aload_n 0, 1) := by decide +kernel
theorem dX0_asGiven_9 : decode cX0_asGiven 9 = .ok (.getfield 9, 3) := by decide +kernel
theorem dX0_asGiven_12 : decode cX0_asGiven 12 = .ok (.areturn, 1) := by decide +kernel
theorem dX0_begin_0 : decode cX0_begin 0 = .ok (.aload_n 0, 1) := by decide +kernel
theorem dX0_begin_1 : decode cX0_begin 1 = .ok (.aload_n 1, 1) := by decide +kernel
theorem dX0_begin_2 : decode cX0_begin 2 = .ok (.putfield 15, 3) := by decide +kernel
theorem dX0_begin_5 : decode cX0_begin 5 = .ok (.aload_n 0, 1) := by decide +kernel
theorem dX0_begin_6 : decode cX0_begin 6 = .ok (.iconst (-1), 1) := by decide +kernel
theorem dX0_begin_7 : decode cX0_begin 7 = .ok (.putfield 19, 3) := by decide +kernel
theorem dX0_begin_10 : decode cX0_begin 10 = .ok (.aload_n 0, 1) := by decide +kernel
theorem dX0_begin_11 : decode cX0_begin 11 = .ok (.iconst 3, 1) := by decide +kernel
theorem dX0_begin_12 : decode cX0_begin 12 = .ok (.putfield 23, 3) := by decide +kernel
theorem dX0_begin_15 : decode cX0_begin 15 = .ok (.aload_n 0, 1) := by decide +kernel
theorem dX0_begin_16 : decode cX0_begin 16 = .ok (.aconst_null, 1) := by decide +kernel
theorem dX0_begin_17 : decode cX0_begin 17 = .ok (.putfield 26, 3) := by decide +kernel
theorem dX0_begin_20 : decode cX0_begin 20 = .ok (.aload_n 0, 1) := by decide +kernel
theorem dX0_begin_21 : decode cX0_begin 21 = .ok (.aconst_null, 1) := by decide +kernel
theorem dX0_begin_22 : decode cX0_begin 22 = .ok (.putfield 29, 3) := by decide +kernel
theorem dX0_begin_25 : decode cX0_begin 25 = .ok (.return_, 1) := by decide +kernel
theorem dX0_next_0 : decode cX0_next 0 = .ok (.iconst 0, 1) := by decide +kernel
theorem dX0_next_1 : decode cX0_next 1 = .ok (.istore_n 1, 1) := by decide +kernel
theorem dX0_next_2 : decode cX0_next 2 = .ok (.iload_n 1, 1) := by decide +kernel
theorem dX0_next_3 : decode cX0_next 3 = .ok (.ldc 58, 2) := by decide +kernel
theorem dX0_next_5 : decode cX0_next 5 = .ok (.if_icmp .ge 88, 3) := by decide +kernel
theorem dX0_next_8 : decode cX0_next 8 = .ok (.aload_n 0, 1) := by decide +kernel
theorem dX0_next_9 : decode cX0_next 9 = .ok (.getfield 15, 3) := by decide +kernel
theorem dX0_next_12 : decode cX0_next 12 = .ok (.ifnull 22, 3) := by decide +kernel
theorem dX0_next_15 : decode cX0_next 15 = .ok (.aload_n 0, 1) := by decide +kernel
theorem dX0_next_16 : decode cX0_next 16 = .ok (.getfield 15, 3) := by decide +kernel
theorem dX0_next_19 : decode cX0_next 19 = .ok (.invokevirtual 59, 3) := by decide +kernel
theorem dX0_next_22 : decode cX0_next 22 = .ok (.ifCond .eq 12, 3) := by decide +kernel
theorem dX0_next_25 : decode cX0_next 25 = .ok (.aload_n 0, 1) := by decide +kernel
theorem dX0_next_26 : decode cX0_next 26 = .ok (.getfield 23, 3) := by decide +kernel
theorem dX0_next_29 : decode cX0_next 29 = .ok (.bipush 6, 2) := by decide +kernel
theorem dX0_next_31 : decode cX0_next 31 = .ok (.if_icmp .ne 5, 3) := by decide +kernel
theorem dX0_next_34 : decode cX0_next 34 = .ok (.iconst 0, 1) := by decide +kernel
theorem dX0_next_35 : decode cX0_next 35 = .ok (.ireturn, 1) := by decide +kernel
theorem dX0_next_36 : decode cX0_next 36 = .ok (.aload_n 0, 1) := by decide +kernel
theorem dX0_next_37 : decode cX0_next 37 = .ok (.getfield 26, 3) := by decide +kernel
theorem dX0_next_40 : decode cX0_next 40 = .ok (.ifnull 43, 3) := by decide +kernel
theorem dX0_next_43 : decode cX0_next 43 = .ok (.aload_n 0, 1) := by decide +kernel
theorem dX0_next_44 : decode cX0_next 44 = .ok (.getfield 29, 3) := by decide +kernel
theorem dX0_next_47 : decode cX0_next 47 = .ok (.ifnull 36, 3) := by decide +kernel
theorem dX0_next_50 : decode cX0_next 50 = .ok (.aload_n 0, 1) := by decide +kernel
theorem dX0_next_51 : decode cX0_next 51 = .ok (.getfield 26, 3) := by decide +kernel
theorem dX0_next_54 : decode cX0_next 54 = .ok (.invokevirtual 59, 3) := by decide +kernel
theorem dX0_next_57 : decode cX0_next 57 = .ok (.ifCond .eq 26, 3) := by decide +kernel
theorem dX0_next_60 : decode cX0_next 60 = .ok (.aload_n 0, 1) := by decide +kernel
theorem dX0_next_61 : decode cX0_next 61 = .ok (.getfield 29, 3) := by decide +kernel
theorem dX0_next_64 : decode cX0_next 64 = .ok (.invokevirtual 59, 3) := by decide +kernel
theorem dX0_next_67 : decode cX0_next 67 = .ok (.ifCond .eq 16, 3) := by decide +kernel
theorem dX0_next_70 : decode cX0_next 70 = .ok (.aload_n 0, 1) := by decide +kernel
theorem dX0_next_71 : decode cX0_next 71 = .ok (.invokevirtual 65, 3) := by decide +kernel
theorem dX0_next_74 : decode cX0_next 74 = .ok (.ifCond .eq 9, 3) := by decide +kernel
theorem dX0_next_77 : decode cX0_next 77 = .ok (.aload_n 0, 1) := by decide +kernel
theorem dX0_next_78 : decode cX0_next 78 = .ok (.invokevirtual 68, 3) := by decide +kernel
theorem dX0_next_81 : decode cX0_next 81 = .ok (.iconst 1, 1) := by decide +kernel
theorem dX0_next_82 : decode cX0_next 82 = .ok (.ireturn, 1) := by decide +kernel
theorem dX0_next_83 : decode cX0_next 83 = .ok (.aload_n 0, 1) := by decide +kernel
theorem dX0_next_84 : decode cX0_next 84 = .ok (.invokevirtual 71, 3) := by decide +kernel
theorem dX0_next_87 : decode cX0_next 87 = .ok (.iinc 1 1, 3) := by decide +kernel
theorem dX0_next_90 : decode cX0_next 90 = .ok (.goto (-88), 3) := by decide +kernel
theorem dX0_next_93 : decode cX0_next 93 = .ok (.iconst 0, 1) := by decide +kernel
theorem dX0_next_94 : decode cX0_next 94 = .ok (.ireturn, 1) := by decide +kernel
theorem dX0_nextPhase_0 : decode cX0_nextPhase 0 = .ok (.aload_n 0, 1) := by decide +kernel
theorem dX0_nextPhase_1 : decode cX0_nextPhase 1 = .ok (.dup, 1) := by decide +kernel
theorem dX0_nextPhase_2 : decode cX0_nextPhase 2 = .ok (.getfield 23, 3) := by decide +kernel
theorem dX0_nextPhase_5 : decode cX0_nextPhase 5 = .ok (.iconst 1, 1) := by decide +kernel
theorem dX0_nextPhase_6 : decode cX0_nextPhase 6 = .ok (.iadd, 1) := by decide +kernel
theorem dX0_nextPhase_7 : decode cX0_nextPhase 7 = .ok (.putfield 23, 3) := by decide +kernel
theorem dX0_nextPhase_10 : decode cX0_nextPhase 10 = .ok (.aload_n 0, 1) := by decide +kernel
theorem dX0_nextPhase_11 : decode cX0_nextPhase 11 = .ok (.getfield 23, 3) := by decide +kernel
theorem dX0_nextPhase_14 : decode cX0_nextPhase 14 = .ok (.iconst 4, 1) := by decide +kernel
theorem dX0_nextPhase_15 : decode cX0_nextPhase 15 = .ok (.if_icmp .ne 32, 3) := by decide +kernel
theorem dX0_nextPhase_18 : decode cX0_nextPhase 18 = .ok (.aload_n 0, 1) := by decide +kernel
theorem dX0_nextPhase_19 : decode cX0_nextPhase 19 = .ok (.dup, 1) := by decide +kernel
theorem dX0_nextPhase_20 : decode cX0_nextPhase 20 = .ok (.getfield 19, 3) := by decide +kernel
theorem dX0_nextPhase_23 : decode cX0_nextPhase 23 = .ok (.iconst 1, 1) := by decide +kernel
theorem dX0_nextPhase_24 : decode cX0_nextPhase 24 = .ok (.iadd, 1) := by decide +kernel
theorem dX0_nextPhase_25 : decode cX0_nextPhase 25 = .ok (.putfield 19, 3) := by decide +kernel
theorem dX0_nextPhase_28 : decode cX0_nextPhase 28 = .ok (.aload_n 0, 1) := by decide +kernel
theorem dX0_nextPhase_29 : decode cX0_nextPhase 29 = .ok (.getfield 19, 3) := by decide +kernel
theorem dX0_nextPhase_32 : decode cX0_nextPhase 32 = .ok (.aload_n 0, 1) := by decide +kernel
theorem dX0_nextPhase_33 : decode cX0_nextPhase 33 = .ok (.getfield 48, 3) := by decide +kernel
theorem dX0_nextPhase_36 : decode cX0_nextPhase 36 = .ok (.getfield 74, 3) := by decide +kernel
theorem dX0_nextPhase_39 : decode cX0_nextPhase 39 = .ok (.if_icmp .ge 8, 3) := by decide +kernel
theorem dX0_nextPhase_42 : decode cX0_nextPhase 42 = .ok (.aload_n 0, 1) := by decide +kernel
theorem dX0_nextPhase_43 : decode cX0_nextPhase 43 = .ok (.iconst 0, 1) := by decide +kernel
theorem dX0_nextPhase_44 : decode cX0_nextPhase 44 = .ok (.putfield 23, 3) := by decide +kernel
theorem dX0_nextPhase_47 : decode cX0_nextPhase 47 = .ok (.aload_n 0, 1) := by decide +kernel
theorem dX0_nextPhase_48 : decode cX0_nextPhase 48 = .ok (.getfield 23, 3) := by decide +kernel
theorem dX0_nextPhase_51 : decode cX0_nextPhase 51 = .ok (.iconst 4, 1) := by decide +kernel
theorem dX0_nextPhase_52 : decode cX0_nextPhase 52 = .ok (.if_icmp .ge 17, 3) := by decide +kernel
theorem dX0_nextPhase_55 : decode cX0_nextPhase 55 = .ok (.aload_n 0, 1) := by decide +kernel
theorem dX0_nextPhase_56 : decode cX0_nextPhase 56 = .ok (.getfield 48, 3) := by decide +kernel
theorem dX0_nextPhase_59 : decode cX0_nextPhase 59 = .ok (.aload_n 0, 1) := by decide +kernel
theorem dX0_nextPhase_60 : decode cX0_nextPhase 60 = .ok (.getfield 19, 3) := by decide +kernel
theorem dX0_nextPhase_63 : decode cX0_nextPhase 63 = .ok (.invokevirtual 79, 3) := by decide +kernel
theorem dX0_nextPhase_66 : decode cX0_nextPhase 66 = .ok (.goto 7, 3) := by decide +kernel
theorem dX0_nextPhase_69 : decode cX0_nextPhase 69 = .ok (.aload_n 0, 1) := by decide +kernel
theorem dX0_nextPhase_70 : decode cX0_nextPhase 70 = .ok (.getfield 15, 3) := by decide +kernel
theorem dX0_nextPhase_73 : decode cX0_nextPhase 73 = .ok (.astore_n 1, 1) := by decide +kernel
theorem dX0_nextPhase_74 : decode cX0_nextPhase 74 = .ok (.aload_n 0, 1) := by decide +kernel
theorem dX0_nextPhase_75 : decode cX0_nextPhase 75 = .ok (.getfield 23, 3) := by decide +kernel
theorem dX0_nextPhase_78 : decode cX0_nextPhase 78 = .ok (.iconst 1, 1) := by decide +kernel
theorem dX0_nextPhase_79 : decode cX0_nextPhase 79 = .ok (.if_icmp .eq 11, 3) := by decide +kernel
theorem dX0_nextPhase_82 : decode cX0_nextPhase 82 = .ok (.aload_n 0, 1) := by decide +kernel
theorem dX0_nextPhase_83 : decode cX0_nextPhase 83 = .ok (.getfield 23, 3) := by decide +kernel
theorem dX0_nextPhase_86 : decode cX0_nextPhase 86 = .ok (.iconst 3, 1) := by decide +kernel
theorem dX0_nextPhase_87 : decode cX0_nextPhase 87 = .ok (.if_icmp .ne 7, 3) := by decide +kernel
theorem dX0_nextPhase_90 : decode cX0_nextPhase 90 = .ok (.iconst 1, 1) := by decide +kernel
theorem dX0_nextPhase_91 : decode cX0_nextPhase 91 = .ok (.goto 4, 3) := by decide +kernel
theorem dX0_nextPhase_94 : decode cX0_nextPhase 94 = .ok (.iconst 0, 1) := by decide +kernel
theorem dX0_nextPhase_95 : decode cX0_nextPhase 95 = .ok (.istore_n 2, 1) := by decide +kernel
theorem dX0_nextPhase_96 : decode cX0_nextPhase 96 = .ok (.aload_n 1, 1) := by decide +kernel
theorem dX0_nextPhase_97 : decode cX0_nextPhase 97 = .ok (.ifnull 23, 3) := by decide +kernel
theorem dX0_nextPhase_100 : decode cX0_nextPhase 100 = .ok (.aload_n 1, 1) := by decide +kernel
theorem dX0_nextPhase_101 : decode cX0_nextPhase 101 = .ok (.getfield 83, 3) := by decide +kernel
theorem dX0_nextPhase_104 : decode cX0_nextPhase 104 = .ok (.iconst 1, 1) := by decide +kernel
theorem dX0_nextPhase_105 : decode cX0_nextPhase 105 = .ok (.if_icmp .ne 15, 3) := by decide +kernel
theorem dX0_nextPhase_108 : decode cX0_nextPhase 108 = .ok (.iload_n 2, 1) := by decide +kernel
theorem dX0_nextPhase_109 : decode cX0_nextPhase 109 = .ok (.ifCond .eq 24, 3) := by decide +kernel
theorem dX0_nextPhase_112 : decode cX0_nextPhase 112 = .ok (.aload_n 1, 1) := by decide +kernel
theorem dX0_nextPhase_113 : decode cX0_nextPhase 113 = .ok (.aload_n 0, 1) := by decide +kernel
theorem dX0_nextPhase_114 : decode cX0_nextPhase 114 = .ok (.getfield 15, 3) := by decide +kernel
theorem dX0_nextPhase_117 : decode cX0_nextPhase 117 = .ok (.if_acmp .ne 16, 3) := by decide +kernel
theorem dX0_nextPhase_120 : decode cX0_nextPhase 120 = .ok (.aload_n 0, 1) := by decide +kernel
theorem dX0_nextPhase_121 : decode cX0_nextPhase 121 = .ok (.aconst_null, 1) := by decide +kernel
theorem dX0_nextPhase_122 : decode cX0_nextPhase 122 = .ok (.putfield 26, 3) := by decide +kernel
theorem dX0_nextPhase_125 : decode cX0_nextPhase 125 = .ok (.aload_n 0, 1) := by decide +kernel
theorem dX0_nextPhase_126 : decode cX0_nextPhase 126 = .ok (.aconst_null, 1) := by decide +kernel
theorem dX0_nextPhase_127 : decode cX0_nextPhase 127 = .ok (.putfield 29, 3) := by decide +kernel
theorem dX0_nextPhase_130 : decode cX0_nextPhase 130 = .ok (.goto 35, 3) := by decide +kernel
theorem dX0_nextPhase_133 : decode cX0_nextPhase 133 = .ok (.aload_n 0, 1) := by decide +kernel
theorem dX0_nextPhase_134 : decode cX0_nextPhase 134 = .ok (.iload_n 2, 1) := by decide +kernel
theorem dX0_nextPhase_135 : decode cX0_nextPhase 135 = .ok (.ifCond .eq 7, 3) := by decide +kernel
theorem dX0_nextPhase_138 : decode cX0_nextPhase 138 = .ok (.aload_n 1, 1) := by decide +kernel
theorem dX0_nextPhase_139 : decode cX0_nextPhase 139 = .ok (.goto 7, 3) := by decide +kernel
theorem dX0_nextPhase_142 : decode cX0_nextPhase 142 = .ok (.aload_n 0, 1) := by decide +kernel
theorem dX0_nextPhase_143 : decode cX0_nextPhase 143 = .ok (.getfield 15, 3) := by decide +kernel
theorem dX0_nextPhase_146 : decode cX0_nextPhase 146 = .ok (.putfield 26, 3) := by decide +kernel
theorem dX0_nextPhase_149 : decode cX0_nextPhase 149 = .ok (.aload_n 0, 1) := by decide +kernel
theorem dX0_nextPhase_150 : decode cX0_nextPhase 150 = .ok (.iload_n 2, 1) := by decide +kernel
theorem dX0_nextPhase_151 : decode cX0_nextPhase 151 = .ok (.ifCond .eq 10, 3) := by decide +kernel
theorem dX0_nextPhase_154 : decode cX0_nextPhase 154 = .ok (.aload_n 0, 1) := by decide +kernel
theorem dX0_nextPhase_155 : decode cX0_nextPhase 155 = .ok (.getfield 15, 3) := by decide +kernel
theorem dX0_nextPhase_158 : decode cX0_nextPhase 158 = .ok (.goto 4, 3) := by decide +kernel
theorem dX0_nextPhase_161 : decode cX0_nextPhase 161 = .ok (.aload_n 1, 1) := by decide +kernel
theorem dX0_nextPhase_162 : decode cX0_nextPhase 162 = .ok (.putfield 29, 3) := by decide +kernel
theorem dX0_nextPhase_165 : decode cX0_nextPhase 165 = .ok (.aload_n 0, 1) := by decide +kernel
theorem dX0_nextPhase_166 : decode cX0_nextPhase 166 = .ok (.aload_n 0, 1) := by decide +kernel
theorem dX0_nextPhase_167 : decode cX0_nextPhase 167 = .ok (.getfield 23, 3) := by decide +kernel
theorem dX0_nextPhase_170 : decode cX0_nextPhase 170 = .ok (.ifCond .eq 11, 3) := by decide +kernel
theorem dX0_nextPhase_173 : decode cX0_nextPhase 173 = .ok (.aload_n 0, 1) := by decide +kernel
theorem dX0_nextPhase_174 : decode cX0_nextPhase 174 = .ok (.getfield 23, 3) := by decide +kernel
theorem dX0_nextPhase_177 : decode cX0_nextPhase 177 = .ok (.iconst 1, 1) := by decide +kernel
theorem dX0_nextPhase_178 : decode cX0_nextPhase 178 = .ok (.if_icmp .ne 7, 3) := by decide +kernel
theorem dX0_nextPhase_181 : decode cX0_nextPhase 181 = .ok (.iconst (-1), 1) := by decide +kernel
theorem dX0_nextPhase_182 : decode cX0_nextPhase 182 = .ok (.goto 4, 3) := by decide +kernel
theorem dX0_nextPhase_185 : decode cX0_nextPhase 185 = .ok (.iconst 0, 1) := by decide +kernel
theorem dX0_nextPhase_186 : decode cX0_nextPhase 186 = .ok (.putfield 32, 3) := by decide +kernel
theorem dX0_nextPhase_189 : decode cX0_nextPhase 189 = .ok (.aload_n 0, 1) := by decide +kernel
theorem dX0_nextPhase_190 : decode cX0_nextPhase 190 = .ok (.iconst 0, 1) := by decide +kernel
theorem dX0_nextPhase_191 : decode cX0_nextPhase 191 = .ok (.putfield 35, 3) := by decide +kernel
theorem dX0_nextPhase_194 : decode cX0_nextPhase 194 = .ok (.aload_n 0, 1) := by decide +kernel
theorem dX0_nextPhase_195 : decode cX0_nextPhase 195 = .ok (.aload_n 0, 1) := by decide +kernel
theorem dX0_nextPhase_196 : decode cX0_nextPhase 196 = .ok (.getfield 23, 3) := by decide +kernel
theorem dX0_nextPhase_199 : decode cX0_nextPhase 199 = .ok (.iconst 4, 1) := by decide +kernel
theorem dX0_nextPhase_200 : decode cX0_nextPhase 200 = .ok (.if_icmp .eq 20, 3) := by decide +kernel
theorem dX0_nextPhase_203 : decode cX0_nextPhase 203 = .ok (.aload_n 0, 1) := by decide +kernel
theorem dX0_nextPhase_204 : decode cX0_nextPhase 204 = .ok (.getfield 29, 3) := by decide +kernel
theorem dX0_nextPhase_207 : decode cX0_nextPhase 207 = .ok (.ifnull 13, 3) := by decide +kernel
theorem dX0_nextPhase_210 : decode cX0_nextPhase 210 = .ok (.aload_n 0, 1) := by decide +kernel
theorem dX0_nextPhase_211 : decode cX0_nextPhase 211 = .ok (.getfield 29, 3) := by decide +kernel
theorem dX0_nextPhase_214 : decode cX0_nextPhase 214 = .ok (.invokevirtual 86, 3) := by decide +kernel
theorem dX0_nextPhase_217 : decode cX0_nextPhase 217 = .ok (.ifCond .eq 7, 3) := by decide +kernel
theorem dX0_nextPhase_220 : decode cX0_nextPhase 220 = .ok (.iconst 0, 1) := by decide +kernel
theorem dX0_nextPhase_221 : decode cX0_nextPhase 221 = .ok (.goto 10, 3) := by decide +kernel
theorem dX0_nextPhase_224 : decode cX0_nextPhase 224 = .ok (.aload_n 0, 1) := by decide +kernel
theorem dX0_nextPhase_225 : decode cX0_nextPhase 225 = .ok (.getfield 29, 3) := by decide +kernel
theorem dX0_nextPhase_228 : decode cX0_nextPhase 228 = .ok (.getfield 89, 3) := by decide +kernel
theorem dX0_nextPhase_231 : decode cX0_nextPhase 231 = .ok (.putfield 38, 3) := by decide +kernel
theorem dX0_nextPhase_234 : decode cX0_nextPhase 234 = .ok (.aload_n 0, 1) := by decide +kernel
theorem dX0_nextPhase_235 : decode cX0_nextPhase 235 = .ok (.iconst 0, 1) := by decide +kernel
theorem dX0_nextPhase_236 : decode cX0_nextPhase 236 = .ok (.putfield 41, 3) := by decide +kernel
theorem dX0_nextPhase_239 : decode cX0_nextPhase 239 = .ok (.return_, 1) := by decide +kernel
theorem dX0_advance_0 : decode cX0_advance 0 = .ok (.aload_n 0, 1) := by decide +kernel
theorem dX0_advance_1 : decode cX0_advance 1 = .ok (.getfield 23, 3) := by decide +kernel
theorem dX0_advance_4 : decode cX0_advance 4 = .ok (.tableswitch 135 0 4 #[36, 36, 89, 89, 112], 36) := by decide +kernel
theorem dX0_advance_40 : decode cX0_advance 40 = .ok (.aload_n 0, 1) := by decide +kernel
theorem dX0_advance_41 : decode cX0_advance 41 = .ok (.dup, 1) := by decide +kernel
theorem dX0_advance_42 : decode cX0_advance 42 = .ok (.getfield 32, 3) := by decide +kernel
theorem dX0_advance_45 : decode cX0_advance 45 = .ok (.iconst 1, 1) := by decide +kernel
theorem dX0_advance_46 : decode cX0_advance 46 = .ok (.iadd, 1) := by decide +kernel
theorem dX0_advance_47 : decode cX0_advance 47 = .ok (.putfield 32, 3) := by decide +kernel
theorem dX0_advance_50 : decode cX0_advance 50 = .ok (.aload_n 0, 1) := by decide +kernel
theorem dX0_advance_51 : decode cX0_advance 51 = .ok (.getfield 26, 3) := by decide +kernel
theorem dX0_advance_54 : decode cX0_advance 54 = .ok (.invokevirtual 86, 3) := by decide +kernel
theorem dX0_advance_57 : decode cX0_advance 57 = .ok (.ifCond .eq 34, 3) := by decide +kernel
theorem dX0_advance_60 : decode cX0_advance 60 = .ok (.aload_n 0, 1) := by decide +kernel
theorem dX0_advance_61 : decode cX0_advance 61 = .ok (.getfield 29, 3) := by decide +kernel
theorem dX0_advance_64 : decode cX0_advance 64 = .ok (.invokevirtual 86, 3) := by decide +kernel
theorem dX0_advance_67 : decode cX0_advance 67 = .ok (.ifCond .ne 24, 3) := by decide +kernel
theorem dX0_advance_70 : decode cX0_advance 70 = .ok (.aload_n 0, 1) := by decide +kernel
theorem dX0_advance_71 : decode cX0_advance 71 = .ok (.getfield 32, 3) := by decide +kernel
theorem dX0_advance_74 : decode cX0_advance 74 = .ok (.aload_n 0, 1) := by decide +kernel
theorem dX0_advance_75 : decode cX0_advance 75 = .ok (.getfield 26, 3) := by decide +kernel
theorem dX0_advance_78 : decode cX0_advance 78 = .ok (.getfield 92, 3) := by decide +kernel
theorem dX0_advance_81 : decode cX0_advance 81 = .ok (.getfield 96, 3) := by decide +kernel
theorem dX0_advance_84 : decode cX0_advance 84 = .ok (.if_icmp .ge 7, 3) := by decide +kernel
theorem dX0_advance_87 : decode cX0_advance 87 = .ok (.iconst 1, 1) := by decide +kernel
theorem dX0_advance_88 : decode cX0_advance 88 = .ok (.goto 4, 3) := by decide +kernel
theorem dX0_advance_91 : decode cX0_advance 91 = .ok (.iconst 0, 1) := by decide +kernel
theorem dX0_advance_92 : decode cX0_advance 92 = .ok (.ireturn, 1) := by decide +kernel
theorem dX0_advance_93 : decode cX0_advance 93 = .ok (.aload_n 0, 1) := by decide +kernel
theorem dX0_advance_94 : decode cX0_advance 94 = .ok (.getfield 26, 3) := by decide +kernel
theorem dX0_advance_97 : decode cX0_advance 97 = .ok (.invokevirtual 86, 3) := by decide +kernel
theorem dX0_advance_100 : decode cX0_advance 100 = .ok (.ifCond .eq 14, 3) := by decide +kernel
theorem dX0_advance_103 : decode cX0_advance 103 = .ok (.aload_n 0, 1) := by decide +kernel
theorem dX0_advance_104 : decode cX0_advance 104 = .ok (.invokevirtual 101, 3) := by decide +kernel
theorem dX0_advance_107 : decode cX0_advance 107 = .ok (.ifCond .eq 7, 3) := by decide +kernel
theorem dX0_advance_110 : decode cX0_advance 110 = .ok (.iconst 1, 1) := by decide +kernel
theorem dX0_advance_111 : decode cX0_advance 111 = .ok (.goto 4, 3) := by decide +kernel
theorem dX0_advance_114 : decode cX0_advance 114 = .ok (.iconst 0, 1) := by decide +kernel
theorem dX0_advance_115 : decode cX0_advance 115 = .ok (.ireturn, 1) := by decide +kernel
theorem dX0_advance_116 : decode cX0_advance 116 = .ok (.aload_n 0, 1) := by decide +kernel
theorem dX0_advance_117 : decode cX0_advance 117 = .ok (.getfield 26, 3) := by decide +kernel
theorem dX0_advance_120 : decode cX0_advance 120 = .ok (.invokevirtual 86, 3) := by decide +kernel
theorem dX0_advance_123 : decode cX0_advance 123 = .ok (.ifCond .eq 14, 3) := by decide +kernel
theorem dX0_advance_126 : decode cX0_advance 126 = .ok (.aload_n 0, 1) := by decide +kernel
theorem dX0_advance_127 : decode cX0_advance 127 = .ok (.invokevirtual 104, 3) := by decide +kernel
theorem dX0_advance_130 : decode cX0_advance 130 = .ok (.ifCond .eq 7, 3) := by decide +kernel
theorem dX0_advance_133 : decode cX0_advance 133 = .ok (.iconst 1, 1) := by decide +kernel
theorem dX0_advance_134 : decode cX0_advance 134 = .ok (.goto 4, 3) := by decide +kernel
theorem dX0_advance_137 : decode cX0_advance 137 = .ok (.iconst 0, 1) := by decide +kernel
theorem dX0_advance_138 : decode cX0_advance 138 = .ok (.ireturn, 1) := by decide +kernel
theorem dX0_advance_139 : decode cX0_advance 139 = .ok (.aload_n 0, 1) := by decide +kernel
theorem dX0_advance_140 : decode cX0_advance 140 = .ok (.dup, 1) := by decide +kernel
theorem dX0_advance_141 : decode cX0_advance 141 = .ok (.getfield 41, 3) := by decide +kernel
theorem dX0_advance_144 : decode cX0_advance 144 = .ok (.iconst 1, 1) := by decide +kernel
theorem dX0_advance_145 : decode cX0_advance 145 = .ok (.iadd, 1) := by decide +kernel
theorem dX0_advance_146 : decode cX0_advance 146 = .ok (.putfield 41, 3) := by decide +kernel
theorem dX0_advance_149 : decode cX0_advance 149 = .ok (.aload_n 0, 1) := by decide +kernel
theorem dX0_advance_150 : decode cX0_advance 150 = .ok (.getfield 41, 3) := by decide +kernel
theorem dX0_advance_153 : decode cX0_advance 153 = .ok (.iconst 1, 1) := by decide +kernel
theorem dX0_advance_154 : decode cX0_advance 154 = .ok (.if_icmp .ne 17, 3) := by decide +kernel
theorem dX0_advance_157 : decode cX0_advance 157 = .ok (.aload_n 0, 1) := by decide +kernel
theorem dX0_advance_158 : decode cX0_advance 158 = .ok (.getfield 26, 3) := by decide +kernel
theorem dX0_advance_161 : decode cX0_advance 161 = .ok (.invokevirtual 86, 3) := by decide +kernel
theorem dX0_advance_164 : decode cX0_advance 164 = .ok (.ifCond .ne 7, 3) := by decide +kernel
theorem dX0_advance_167 : decode cX0_advance 167 = .ok (.iconst 1, 1) := by decide +kernel
theorem dX0_advance_168 : decode cX0_advance 168 = .ok (.goto 4, 3) := by decide +kernel
theorem dX0_advance_171 : decode cX0_advance 171 = .ok (.iconst 0, 1) := by decide +kernel
theorem dX0_advance_172 : decode cX0_advance 172 = .ok (.ireturn, 1) := by decide +kernel
theorem dX0_advanceFactor_0 : decode cX0_advanceFactor 0 = .ok (.aload_n 0, 1) := by decide +kernel
theorem dX0_advanceFactor_1 : decode cX0_advanceFactor 1 = .ok (.dup, 1) := by decide +kernel
theorem dX0_advanceFactor_2 : decode cX0_advanceFactor 2 = .ok (.getfield 38, 3) := by decide +kernel
theorem dX0_advanceFactor_5 : decode cX0_advanceFactor 5 = .ok (.iconst 1, 1) := by decide +kernel
theorem dX0_advanceFactor_6 : decode cX0_advanceFactor 6 = .ok (.iadd, 1) := by decide +kernel
theorem dX0_advanceFactor_7 : decode cX0_advanceFactor 7 = .ok (.putfield 38, 3) := by decide +kernel
theorem dX0_advanceFactor_10 : decode cX0_advanceFactor 10 = .ok (.aload_n 0, 1) := by decide +kernel
theorem dX0_advanceFactor_11 : decode cX0_advanceFactor 11 = .ok (.getfield 38, 3) := by decide +kernel
theorem dX0_advanceFactor_14 : decode cX0_advanceFactor 14 = .ok (.aload_n 0, 1) := by decide +kernel
theorem dX0_advanceFactor_15 : decode cX0_advanceFactor 15 = .ok (.getfield 26, 3) := by decide +kernel
theorem dX0_advanceFactor_18 : decode cX0_advanceFactor 18 = .ok (.getfield 92, 3) := by decide +kernel
theorem dX0_advanceFactor_21 : decode cX0_advanceFactor 21 = .ok (.getfield 96, 3) := by decide +kernel
theorem dX0_advanceFactor_24 : decode cX0_advanceFactor 24 = .ok (.if_icmp .lt 23, 3) := by decide +kernel
theorem dX0_advanceFactor_27 : decode cX0_advanceFactor 27 = .ok (.aload_n 0, 1) := by decide +kernel
theorem dX0_advanceFactor_28 : decode cX0_advanceFactor 28 = .ok (.dup, 1) := by decide +kernel
theorem dX0_advanceFactor_29 : decode cX0_advanceFactor 29 = .ok (.getfield 32, 3) := by decide +kernel
theorem dX0_advanceFactor_32 : decode cX0_advanceFactor 32 = .ok (.iconst 1, 1) := by decide +kernel
theorem dX0_advanceFactor_33 : decode cX0_advanceFactor 33 = .ok (.iadd, 1) := by decide +kernel
theorem dX0_advanceFactor_34 : decode cX0_advanceFactor 34 = .ok (.putfield 32, 3) := by decide +kernel
theorem dX0_advanceFactor_37 : decode cX0_advanceFactor 37 = .ok (.aload_n 0, 1) := by decide +kernel
theorem dX0_advanceFactor_38 : decode cX0_advanceFactor 38 = .ok (.aload_n 0, 1) := by decide +kernel
theorem dX0_advanceFactor_39 : decode cX0_advanceFactor 39 = .ok (.getfield 32, 3) := by decide +kernel
theorem dX0_advanceFactor_42 : decode cX0_advanceFactor 42 = .ok (.iconst 1, 1) := by decide +kernel
theorem dX0_advanceFactor_43 : decode cX0_advanceFactor 43 = .ok (.iadd, 1) := by decide +kernel
theorem dX0_advanceFactor_44 : decode cX0_advanceFactor 44 = .ok (.putfield 38, 3) := by decide +kernel
theorem dX0_advanceFactor_47 : decode cX0_advanceFactor 47 = .ok (.aload_n 0, 1) := by decide +kernel
theorem dX0_advanceFactor_48 : decode cX0_advanceFactor 48 = .ok (.getfield 38, 3) := by decide +kernel
theorem dX0_advanceFactor_51 : decode cX0_advanceFactor 51 = .ok (.aload_n 0, 1) := by decide +kernel
theorem dX0_advanceFactor_52 : decode cX0_advanceFactor 52 = .ok (.getfield 26, 3) := by decide +kernel
theorem dX0_advanceFactor_55 : decode cX0_advanceFactor 55 = .ok (.getfield 92, 3) := by decide +kernel
theorem dX0_advanceFactor_58 : decode cX0_advanceFactor 58 = .ok (.getfield 96, 3) := by decide +kernel
theorem dX0_advanceFactor_61 : decode cX0_advanceFactor 61 = .ok (.if_icmp .ge 7, 3) := by decide +kernel
theorem dX0_advanceFactor_64 : decode cX0_advanceFactor 64 = .ok (.iconst 1, 1) := by decide +kernel
theorem dX0_advanceFactor_65 : decode cX0_advanceFactor 65 = .ok (.goto 4, 3) := by decide +kernel
theorem dX0_advanceFactor_68 : decode cX0_advanceFactor 68 = .ok (.iconst 0, 1) := by decide +kernel
theorem dX0_advanceFactor_69 : decode cX0_advanceFactor 69 = .ok (.ireturn, 1) := by decide +kernel
theorem dX0_advanceTurn_0 : decode cX0_advanceTurn 0 = .ok (.aload_n 0, 1) := by decide +kernel
theorem dX0_advanceTurn_1 : decode cX0_advanceTurn 1 = .ok (.getfield 29, 3) := by decide +kernel
theorem dX0_advanceTurn_4 : decode cX0_advanceTurn 4 = .ok (.invokevirtual 86, 3) := by decide +kernel
theorem dX0_advanceTurn_7 : decode cX0_advanceTurn 7 = .ok (.ifCond .eq 7, 3) := by decide +kernel
theorem dX0_advanceTurn_10 : decode cX0_advanceTurn 10 = .ok (.iconst 0, 1) := by decide +kernel
theorem dX0_advanceTurn_11 : decode cX0_advanceTurn 11 = .ok (.goto 10, 3) := by decide +kernel
theorem dX0_advanceTurn_14 : decode cX0_advanceTurn 14 = .ok (.aload_n 0, 1) := by decide +kernel
theorem dX0_advanceTurn_15 : decode cX0_advanceTurn 15 = .ok (.getfield 29, 3) := by decide +kernel
theorem dX0_advanceTurn_18 : decode cX0_advanceTurn 18 = .ok (.getfield 89, 3) := by decide +kernel
theorem dX0_advanceTurn_21 : decode cX0_advanceTurn 21 = .ok (.istore_n 1, 1) := by decide +kernel
theorem dX0_advanceTurn_22 : decode cX0_advanceTurn 22 = .ok (.aload_n 0, 1) := by decide +kernel
theorem dX0_advanceTurn_23 : decode cX0_advanceTurn 23 = .ok (.getfield 29, 3) := by decide +kernel
theorem dX0_advanceTurn_26 : decode cX0_advanceTurn 26 = .ok (.invokevirtual 86, 3) := by decide +kernel
theorem dX0_advanceTurn_29 : decode cX0_advanceTurn 29 = .ok (.ifCond .eq 18, 3) := by decide +kernel
theorem dX0_advanceTurn_32 : decode cX0_advanceTurn 32 = .ok (.aload_n 0, 1) := by decide +kernel
theorem dX0_advanceTurn_33 : decode cX0_advanceTurn 33 = .ok (.getfield 29, 3) := by decide +kernel
theorem dX0_advanceTurn_36 : decode cX0_advanceTurn 36 = .ok (.getfield 92, 3) := by decide +kernel
theorem dX0_advanceTurn_39 : decode cX0_advanceTurn 39 = .ok (.getfield 96, 3) := by decide +kernel
theorem dX0_advanceTurn_42 : decode cX0_advanceTurn 42 = .ok (.iconst 1, 1) := by decide +kernel
theorem dX0_advanceTurn_43 : decode cX0_advanceTurn 43 = .ok (.isub, 1) := by decide +kernel
theorem dX0_advanceTurn_44 : decode cX0_advanceTurn 44 = .ok (.goto 10, 3) := by decide +kernel
theorem dX0_advanceTurn_47 : decode cX0_advanceTurn 47 = .ok (.aload_n 0, 1) := by decide +kernel
theorem dX0_advanceTurn_48 : decode cX0_advanceTurn 48 = .ok (.getfield 29, 3) := by decide +kernel
theorem dX0_advanceTurn_51 : decode cX0_advanceTurn 51 = .ok (.getfield 89, 3) := by decide +kernel
theorem dX0_advanceTurn_54 : decode cX0_advanceTurn 54 = .ok (.istore_n 2, 1) := by decide +kernel
theorem dX0_advanceTurn_55 : decode cX0_advanceTurn 55 = .ok (.aload_n 0, 1) := by decide +kernel
theorem dX0_advanceTurn_56 : decode cX0_advanceTurn 56 = .ok (.dup, 1) := by decide +kernel
theorem dX0_advanceTurn_57 : decode cX0_advanceTurn 57 = .ok (.getfield 41, 3) := by decide +kernel
theorem dX0_advanceTurn_60 : decode cX0_advanceTurn 60 = .ok (.iconst 1, 1) := by decide +kernel
theorem dX0_advanceTurn_61 : decode cX0_advanceTurn 61 = .ok (.iadd, 1) := by decide +kernel
theorem dX0_advanceTurn_62 : decode cX0_advanceTurn 62 = .ok (.putfield 41, 3) := by decide +kernel
theorem dX0_advanceTurn_65 : decode cX0_advanceTurn 65 = .ok (.aload_n 0, 1) := by decide +kernel
theorem dX0_advanceTurn_66 : decode cX0_advanceTurn 66 = .ok (.getfield 32, 3) := by decide +kernel
theorem dX0_advanceTurn_69 : decode cX0_advanceTurn 69 = .ok (.aload_n 0, 1) := by decide +kernel
theorem dX0_advanceTurn_70 : decode cX0_advanceTurn 70 = .ok (.getfield 26, 3) := by decide +kernel
theorem dX0_advanceTurn_73 : decode cX0_advanceTurn 73 = .ok (.getfield 92, 3) := by decide +kernel
theorem dX0_advanceTurn_76 : decode cX0_advanceTurn 76 = .ok (.getfield 96, 3) := by decide +kernel
theorem dX0_advanceTurn_79 : decode cX0_advanceTurn 79 = .ok (.if_icmp .ge 114, 3) := by decide +kernel
theorem dX0_advanceTurn_82 : decode cX0_advanceTurn 82 = .ok (.aload_n 0, 1) := by decide +kernel
theorem dX0_advanceTurn_83 : decode cX0_advanceTurn 83 = .ok (.getfield 35, 3) := by decide +kernel
theorem dX0_advanceTurn_86 : decode cX0_advanceTurn 86 = .ok (.iconst 2, 1) := by decide +kernel
theorem dX0_advanceTurn_87 : decode cX0_advanceTurn 87 = .ok (.if_icmp .ge 78, 3) := by decide +kernel
theorem dX0_advanceTurn_90 : decode cX0_advanceTurn 90 = .ok (.aload_n 0, 1) := by decide +kernel
theorem dX0_advanceTurn_91 : decode cX0_advanceTurn 91 = .ok (.getfield 26, 3) := by decide +kernel
theorem dX0_advanceTurn_94 : decode cX0_advanceTurn 94 = .ok (.getfield 92, 3) := by decide +kernel
theorem dX0_advanceTurn_97 : decode cX0_advanceTurn 97 = .ok (.aload_n 0, 1) := by decide +kernel
theorem dX0_advanceTurn_98 : decode cX0_advanceTurn 98 = .ok (.getfield 32, 3) := by decide +kernel
theorem dX0_advanceTurn_101 : decode cX0_advanceTurn 101 = .ok (.invokevirtual 107, 3) := by decide +kernel
theorem dX0_advanceTurn_104 : decode cX0_advanceTurn 104 = .ok (.ifCond .eq 61, 3) := by decide +kernel
theorem dX0_advanceTurn_107 : decode cX0_advanceTurn 107 = .ok (.aload_n 0, 1) := by decide +kernel
theorem dX0_advanceTurn_108 : decode cX0_advanceTurn 108 = .ok (.getfield 38, 3) := by decide +kernel
theorem dX0_advanceTurn_111 : decode cX0_advanceTurn 111 = .ok (.iload_n 2, 1) := by decide +kernel
theorem dX0_advanceTurn_112 : decode cX0_advanceTurn 112 = .ok (.if_icmp .gt 30, 3) := by decide +kernel
theorem dX0_advanceTurn_115 : decode cX0_advanceTurn 115 = .ok (.aload_n 0, 1) := by decide +kernel
theorem dX0_advanceTurn_116 : decode cX0_advanceTurn 116 = .ok (.invokevirtual 111, 3) := by decide +kernel
theorem dX0_advanceTurn_119 : decode cX0_advanceTurn 119 = .ok (.ifCond .eq 5, 3) := by decide +kernel
theorem dX0_advanceTurn_122 : decode cX0_advanceTurn 122 = .ok (.iconst 1, 1) := by decide +kernel
theorem dX0_advanceTurn_123 : decode cX0_advanceTurn 123 = .ok (.ireturn, 1) := by decide +kernel
theorem dX0_advanceTurn_124 : decode cX0_advanceTurn 124 = .ok (.aload_n 0, 1) := by decide +kernel
theorem dX0_advanceTurn_125 : decode cX0_advanceTurn 125 = .ok (.dup, 1) := by decide +kernel
theorem dX0_advanceTurn_126 : decode cX0_advanceTurn 126 = .ok (.getfield 38, 3) := by decide +kernel
theorem dX0_advanceTurn_129 : decode cX0_advanceTurn 129 = .ok (.iconst 1, 1) := by decide +kernel
theorem dX0_advanceTurn_130 : decode cX0_advanceTurn 130 = .ok (.iadd, 1) := by decide +kernel
theorem dX0_advanceTurn_131 : decode cX0_advanceTurn 131 = .ok (.putfield 38, 3) := by decide +kernel
theorem dX0_advanceTurn_134 : decode cX0_advanceTurn 134 = .ok (.aload_n 0, 1) := by decide +kernel
theorem dX0_advanceTurn_135 : decode cX0_advanceTurn 135 = .ok (.iconst 1, 1) := by decide +kernel
theorem dX0_advanceTurn_136 : decode cX0_advanceTurn 136 = .ok (.putfield 41, 3) := by decide +kernel
theorem dX0_advanceTurn_139 : decode cX0_advanceTurn 139 = .ok (.goto (-32), 3) := by decide +kernel
theorem dX0_advanceTurn_142 : decode cX0_advanceTurn 142 = .ok (.aload_n 0, 1) := by decide +kernel
theorem dX0_advanceTurn_143 : decode cX0_advanceTurn 143 = .ok (.dup, 1) := by decide +kernel
theorem dX0_advanceTurn_144 : decode cX0_advanceTurn 144 = .ok (.getfield 35, 3) := by decide +kernel
theorem dX0_advanceTurn_147 : decode cX0_advanceTurn 147 = .ok (.iconst 1, 1) := by decide +kernel
theorem dX0_advanceTurn_148 : decode cX0_advanceTurn 148 = .ok (.iadd, 1) := by decide +kernel
theorem dX0_advanceTurn_149 : decode cX0_advanceTurn 149 = .ok (.putfield 35, 3) := by decide +kernel
theorem dX0_advanceTurn_152 : decode cX0_advanceTurn 152 = .ok (.aload_n 0, 1) := by decide +kernel
theorem dX0_advanceTurn_153 : decode cX0_advanceTurn 153 = .ok (.iload_n 1, 1) := by decide +kernel
theorem dX0_advanceTurn_154 : decode cX0_advanceTurn 154 = .ok (.putfield 38, 3) := by decide +kernel
theorem dX0_advanceTurn_157 : decode cX0_advanceTurn 157 = .ok (.aload_n 0, 1) := by decide +kernel
theorem dX0_advanceTurn_158 : decode cX0_advanceTurn 158 = .ok (.iconst 1, 1) := by decide +kernel
theorem dX0_advanceTurn_159 : decode cX0_advanceTurn 159 = .ok (.putfield 41, 3) := by decide +kernel
theorem dX0_advanceTurn_162 : decode cX0_advanceTurn 162 = .ok (.goto (-80), 3) := by decide +kernel
theorem dX0_advanceTurn_165 : decode cX0_advanceTurn 165 = .ok (.aload_n 0, 1) := by decide +kernel
theorem dX0_advanceTurn_166 : decode cX0_advanceTurn 166 = .ok (.dup, 1) := by decide +kernel
theorem dX0_advanceTurn_167 : decode cX0_advanceTurn 167 = .ok (.getfield 32, 3) := by decide +kernel
theorem dX0_advanceTurn_170 : decode cX0_advanceTurn 170 = .ok (.iconst 1, 1) := by decide +kernel
theorem dX0_advanceTurn_171 : decode cX0_advanceTurn 171 = .ok (.iadd, 1) := by decide +kernel
theorem dX0_advanceTurn_172 : decode cX0_advanceTurn 172 = .ok (.putfield 32, 3) := by decide +kernel
theorem dX0_advanceTurn_175 : decode cX0_advanceTurn 175 = .ok (.aload_n 0, 1) := by decide +kernel
theorem dX0_advanceTurn_176 : decode cX0_advanceTurn 176 = .ok (.iconst 0, 1) := by decide +kernel
theorem dX0_advanceTurn_177 : decode cX0_advanceTurn 177 = .ok (.putfield 35, 3) := by decide +kernel
theorem dX0_advanceTurn_180 : decode cX0_advanceTurn 180 = .ok (.aload_n 0, 1) := by decide +kernel
theorem dX0_advanceTurn_181 : decode cX0_advanceTurn 181 = .ok (.iload_n 1, 1) := by decide +kernel
theorem dX0_advanceTurn_182 : decode cX0_advanceTurn 182 = .ok (.putfield 38, 3) := by decide +kernel
theorem dX0_advanceTurn_185 : decode cX0_advanceTurn 185 = .ok (.aload_n 0, 1) := by decide +kernel
theorem dX0_advanceTurn_186 : decode cX0_advanceTurn 186 = .ok (.iconst 1, 1) := by decide +kernel
theorem dX0_advanceTurn_187 : decode cX0_advanceTurn 187 = .ok (.putfield 41, 3) := by decide +kernel
theorem dX0_advanceTurn_190 : decode cX0_advanceTurn 190 = .ok (.goto (-125), 3) := by decide +kernel
theorem dX0_advanceTurn_193 : decode cX0_advanceTurn 193 = .ok (.iconst 0, 1) := by decide +kernel
theorem dX0_advanceTurn_194 : decode cX0_advanceTurn 194 = .ok (.ireturn, 1) := by decide +kernel
theorem dX0_findPlace_0 : decode cX0_findPlace 0 = .ok (.aload_n 0, 1) := by decide +kernel
theorem dX0_findPlace_1 : decode cX0_findPlace 1 = .ok (.getfield 26, 3) := by decide +kernel
theorem dX0_findPlace_4 : decode cX0_findPlace 4 = .ok (.getfield 92, 3) := by decide +kernel
theorem dX0_findPlace_7 : decode cX0_findPlace 7 = .ok (.getfield 114, 3) := by decide +kernel
theorem dX0_findPlace_10 : decode cX0_findPlace 10 = .ok (.aload_n 0, 1) := by decide +kernel
theorem dX0_findPlace_11 : decode cX0_findPlace 11 = .ok (.getfield 32, 3) := by decide +kernel
theorem dX0_findPlace_14 : decode cX0_findPlace 14 = .ok (.iaload, 1) := by decide +kernel
theorem dX0_findPlace_15 : decode cX0_findPlace 15 = .ok (.iconst 1, 1) := by decide +kernel
theorem dX0_findPlace_16 : decode cX0_findPlace 16 = .ok (.iadd, 1) := by decide +kernel
theorem dX0_findPlace_17 : decode cX0_findPlace 17 = .ok (.istore_n 1, 1) := by decide +kernel
theorem dX0_findPlace_18 : decode cX0_findPlace 18 = .ok (.aload_n 0, 1) := by decide +kernel
theorem dX0_findPlace_19 : decode cX0_findPlace 19 = .ok (.getfield 26, 3) := by decide +kernel
theorem dX0_findPlace_22 : decode cX0_findPlace 22 = .ok (.getfield 92, 3) := by decide +kernel
theorem dX0_findPlace_25 : decode cX0_findPlace 25 = .ok (.getfield 117, 3) := by decide +kernel
theorem dX0_findPlace_28 : decode cX0_findPlace 28 = .ok (.aload_n 0, 1) := by decide +kernel
theorem dX0_findPlace_29 : decode cX0_findPlace 29 = .ok (.getfield 35, 3) := by decide +kernel
theorem dX0_findPlace_32 : decode cX0_findPlace 32 = .ok (.ifCond .ne 7, 3) := by decide +kernel
theorem dX0_findPlace_35 : decode cX0_findPlace 35 = .ok (.iload_n 1, 1) := by decide +kernel
theorem dX0_findPlace_36 : decode cX0_findPlace 36 = .ok (.goto 21, 3) := by decide +kernel
theorem dX0_findPlace_39 : decode cX0_findPlace 39 = .ok (.aload_n 0, 1) := by decide +kernel
theorem dX0_findPlace_40 : decode cX0_findPlace 40 = .ok (.getfield 44, 3) := by decide +kernel
theorem dX0_findPlace_43 : decode cX0_findPlace 43 = .ok (.aload_n 0, 1) := by decide +kernel
theorem dX0_findPlace_44 : decode cX0_findPlace 44 = .ok (.getfield 26, 3) := by decide +kernel
theorem dX0_findPlace_47 : decode cX0_findPlace 47 = .ok (.getfield 92, 3) := by decide +kernel
theorem dX0_findPlace_50 : decode cX0_findPlace 50 = .ok (.getfield 117, 3) := by decide +kernel
theorem dX0_findPlace_53 : decode cX0_findPlace 53 = .ok (.iload_n 1, 1) := by decide +kernel
theorem dX0_findPlace_54 : decode cX0_findPlace 54 = .ok (.invokevirtual 120, 3) := by decide +kernel
theorem dX0_findPlace_57 : decode cX0_findPlace 57 = .ok (.iaload, 1) := by decide +kernel
theorem dX0_findPlace_58 : decode cX0_findPlace 58 = .ok (.istore_n 2, 1) := by decide +kernel
theorem dX0_findPlace_59 : decode cX0_findPlace 59 = .ok (.aload_n 0, 1) := by decide +kernel
theorem dX0_findPlace_60 : decode cX0_findPlace 60 = .ok (.getfield 29, 3) := by decide +kernel
theorem dX0_findPlace_63 : decode cX0_findPlace 63 = .ok (.getfield 92, 3) := by decide +kernel
theorem dX0_findPlace_66 : decode cX0_findPlace 66 = .ok (.getfield 114, 3) := by decide +kernel
theorem dX0_findPlace_69 : decode cX0_findPlace 69 = .ok (.aload_n 0, 1) := by decide +kernel
theorem dX0_findPlace_70 : decode cX0_findPlace 70 = .ok (.getfield 38, 3) := by decide +kernel
theorem dX0_findPlace_73 : decode cX0_findPlace 73 = .ok (.iaload, 1) := by decide +kernel
theorem dX0_findPlace_74 : decode cX0_findPlace 74 = .ok (.istore_n 3, 1) := by decide +kernel
theorem dX0_findPlace_75 : decode cX0_findPlace 75 = .ok (.aload_n 0, 1) := by decide +kernel
theorem dX0_findPlace_76 : decode cX0_findPlace 76 = .ok (.getfield 29, 3) := by decide +kernel
theorem dX0_findPlace_79 : decode cX0_findPlace 79 = .ok (.getfield 92, 3) := by decide +kernel
theorem dX0_findPlace_82 : decode cX0_findPlace 82 = .ok (.aload_n 0, 1) := by decide +kernel
theorem dX0_findPlace_83 : decode cX0_findPlace 83 = .ok (.getfield 38, 3) := by decide +kernel
theorem dX0_findPlace_86 : decode cX0_findPlace 86 = .ok (.invokevirtual 126, 3) := by decide +kernel
theorem dX0_findPlace_89 : decode cX0_findPlace 89 = .ok (.istore 4, 2) := by decide +kernel
theorem dX0_findPlace_91 : decode cX0_findPlace 91 = .ok (.aload_n 0, 1) := by decide +kernel
theorem dX0_findPlace_92 : decode cX0_findPlace 92 = .ok (.getfield 41, 3) := by decide +kernel
theorem dX0_findPlace_95 : decode cX0_findPlace 95 = .ok (.iload 4, 2) := by decide +kernel
theorem dX0_findPlace_97 : decode cX0_findPlace 97 = .ok (.if_icmp .ge 52, 3) := by decide +kernel
theorem dX0_findPlace_100 : decode cX0_findPlace 100 = .ok (.aload_n 0, 1) := by decide +kernel
theorem dX0_findPlace_101 : decode cX0_findPlace 101 = .ok (.getfield 29, 3) := by decide +kernel
theorem dX0_findPlace_104 : decode cX0_findPlace 104 = .ok (.getfield 92, 3) := by decide +kernel
theorem dX0_findPlace_107 : decode cX0_findPlace 107 = .ok (.getfield 117, 3) := by decide +kernel
theorem dX0_findPlace_110 : decode cX0_findPlace 110 = .ok (.iload_n 3, 1) := by decide +kernel
theorem dX0_findPlace_111 : decode cX0_findPlace 111 = .ok (.aload_n 0, 1) := by decide +kernel
theorem dX0_findPlace_112 : decode cX0_findPlace 112 = .ok (.getfield 41, 3) := by decide +kernel
theorem dX0_findPlace_115 : decode cX0_findPlace 115 = .ok (.iadd, 1) := by decide +kernel
theorem dX0_findPlace_116 : decode cX0_findPlace 116 = .ok (.iaload, 1) := by decide +kernel
theorem dX0_findPlace_117 : decode cX0_findPlace 117 = .ok (.istore 5, 2) := by decide +kernel
theorem dX0_findPlace_119 : decode cX0_findPlace 119 = .ok (.iload 5, 2) := by decide +kernel
theorem dX0_findPlace_121 : decode cX0_findPlace 121 = .ok (.ifCond .lt 15, 3) := by decide +kernel
theorem dX0_findPlace_124 : decode cX0_findPlace 124 = .ok (.iload_n 2, 1) := by decide +kernel
theorem dX0_findPlace_125 : decode cX0_findPlace 125 = .ok (.ifCond .lt 9, 3) := by decide +kernel
theorem dX0_findPlace_128 : decode cX0_findPlace 128 = .ok (.iload_n 2, 1) := by decide +kernel
theorem dX0_findPlace_129 : decode cX0_findPlace 129 = .ok (.iload 5, 2) := by decide +kernel
theorem dX0_findPlace_131 : decode cX0_findPlace 131 = .ok (.if_icmp .ne 5, 3) := by decide +kernel
theorem dX0_findPlace_134 : decode cX0_findPlace 134 = .ok (.iconst 1, 1) := by decide +kernel
theorem dX0_findPlace_135 : decode cX0_findPlace 135 = .ok (.ireturn, 1) := by decide +kernel
theorem dX0_findPlace_136 : decode cX0_findPlace 136 = .ok (.aload_n 0, 1) := by decide +kernel
theorem dX0_findPlace_137 : decode cX0_findPlace 137 = .ok (.dup, 1) := by decide +kernel
theorem dX0_findPlace_138 : decode cX0_findPlace 138 = .ok (.getfield 41, 3) := by decide +kernel
theorem dX0_findPlace_141 : decode cX0_findPlace 141 = .ok (.iconst 1, 1) := by decide +kernel
theorem dX0_findPlace_142 : decode cX0_findPlace 142 = .ok (.iadd, 1) := by decide +kernel
theorem dX0_findPlace_143 : decode cX0_findPlace 143 = .ok (.putfield 41, 3) := by decide +kernel
theorem dX0_findPlace_146 : decode cX0_findPlace 146 = .ok (.goto (-55), 3) := by decide +kernel
theorem dX0_findPlace_149 : decode cX0_findPlace 149 = .ok (.iconst 0, 1) := by decide +kernel
theorem dX0_findPlace_150 : decode cX0_findPlace 150 = .ok (.ireturn, 1) := by decide +kernel
theorem dX0_tell_0 : decode cX0_tell 0 = .ok (.aload_n 0, 1) := by decide +kernel
theorem dX0_tell_1 : decode cX0_tell 1 = .ok (.getfield 9, 3) := by decide +kernel
theorem dX0_tell_4 : decode cX0_tell 4 = .ok (.iconst 0, 1) := by decide +kernel
theorem dX0_tell_5 : decode cX0_tell 5 = .ok (.invokestatic 52, 3) := by decide +kernel
theorem dX0_tell_8 : decode cX0_tell 8 = .ok (.aload_n 0, 1) := by decide +kernel
theorem dX0_tell_9 : decode cX0_tell 9 = .ok (.getfield 9, 3) := by decide +kernel
theorem dX0_tell_12 : decode cX0_tell 12 = .ok (.iconst 1, 1) := by decide +kernel
theorem dX0_tell_13 : decode cX0_tell 13 = .ok (.aload_n 0, 1) := by decide +kernel
theorem dX0_tell_14 : decode cX0_tell 14 = .ok (.getfield 26, 3) := by decide +kernel
theorem dX0_tell_17 : decode cX0_tell 17 = .ok (.getfield 130, 3) := by decide +kernel
theorem dX0_tell_20 : decode cX0_tell 20 = .ok (.iastore, 1) := by decide +kernel
theorem dX0_tell_21 : decode cX0_tell 21 = .ok (.aload_n 0, 1) := by decide +kernel
theorem dX0_tell_22 : decode cX0_tell 22 = .ok (.getfield 23, 3) := by decide +kernel
theorem dX0_tell_25 : decode cX0_tell 25 = .ok (.tableswitch 162 0 4 #[35, 35, 68, 68, 132], 35) := by decide +kernel
theorem dX0_tell_60 : decode cX0_tell 60 = .ok (.aload_n 0, 1) := by decide +kernel
theorem dX0_tell_61 : decode cX0_tell 61 = .ok (.getfield 9, 3) := by decide +kernel
theorem dX0_tell_64 : decode cX0_tell 64 = .ok (.iconst 0, 1) := by decide +kernel
theorem dX0_tell_65 : decode cX0_tell 65 = .ok (.iconst 1, 1) := by decide +kernel
theorem dX0_tell_66 : decode cX0_tell 66 = .ok (.iastore, 1) := by decide +kernel
theorem dX0_tell_67 : decode cX0_tell 67 = .ok (.aload_n 0, 1) := by decide +kernel
theorem dX0_tell_68 : decode cX0_tell 68 = .ok (.getfield 9, 3) := by decide +kernel
theorem dX0_tell_71 : decode cX0_tell 71 = .ok (.iconst 2, 1) := by decide +kernel
theorem dX0_tell_72 : decode cX0_tell 72 = .ok (.aload_n 0, 1) := by decide +kernel
theorem dX0_tell_73 : decode cX0_tell 73 = .ok (.getfield 32, 3) := by decide +kernel
theorem dX0_tell_76 : decode cX0_tell 76 = .ok (.iastore, 1) := by decide +kernel
theorem dX0_tell_77 : decode cX0_tell 77 = .ok (.aload_n 0, 1) := by decide +kernel
theorem dX0_tell_78 : decode cX0_tell 78 = .ok (.getfield 9, 3) := by decide +kernel
theorem dX0_tell_81 : decode cX0_tell 81 = .ok (.iconst 3, 1) := by decide +kernel
theorem dX0_tell_82 : decode cX0_tell 82 = .ok (.aload_n 0, 1) := by decide +kernel
theorem dX0_tell_83 : decode cX0_tell 83 = .ok (.getfield 29, 3) := by decide +kernel
theorem dX0_tell_86 : decode cX0_tell 86 = .ok (.getfield 130, 3) := by decide +kernel
theorem dX0_tell_89 : decode cX0_tell 89 = .ok (.iastore, 1) := by decide +kernel
theorem dX0_tell_90 : decode cX0_tell 90 = .ok (.goto 104, 3) := by decide +kernel
theorem dX0_tell_93 : decode cX0_tell 93 = .ok (.aload_n 0, 1) := by decide +kernel
theorem dX0_tell_94 : decode cX0_tell 94 = .ok (.getfield 9, 3) := by decide +kernel
theorem dX0_tell_97 : decode cX0_tell 97 = .ok (.iconst 0, 1) := by decide +kernel
theorem dX0_tell_98 : decode cX0_tell 98 = .ok (.iconst 4, 1) := by decide +kernel
theorem dX0_tell_99 : decode cX0_tell 99 = .ok (.iastore, 1) := by decide +kernel
theorem dX0_tell_100 : decode cX0_tell 100 = .ok (.aload_n 0, 1) := by decide +kernel
theorem dX0_tell_101 : decode cX0_tell 101 = .ok (.getfield 9, 3) := by decide +kernel
theorem dX0_tell_104 : decode cX0_tell 104 = .ok (.iconst 2, 1) := by decide +kernel
theorem dX0_tell_105 : decode cX0_tell 105 = .ok (.aload_n 0, 1) := by decide +kernel
theorem dX0_tell_106 : decode cX0_tell 106 = .ok (.getfield 32, 3) := by decide +kernel
theorem dX0_tell_109 : decode cX0_tell 109 = .ok (.iastore, 1) := by decide +kernel
theorem dX0_tell_110 : decode cX0_tell 110 = .ok (.aload_n 0, 1) := by decide +kernel
theorem dX0_tell_111 : decode cX0_tell 111 = .ok (.getfield 9, 3) := by decide +kernel
theorem dX0_tell_114 : decode cX0_tell 114 = .ok (.iconst 3, 1) := by decide +kernel
theorem dX0_tell_115 : decode cX0_tell 115 = .ok (.aload_n 0, 1) := by decide +kernel
theorem dX0_tell_116 : decode cX0_tell 116 = .ok (.getfield 35, 3) := by decide +kernel
theorem dX0_tell_119 : decode cX0_tell 119 = .ok (.iastore, 1) := by decide +kernel
theorem dX0_tell_120 : decode cX0_tell 120 = .ok (.aload_n 0, 1) := by decide +kernel
theorem dX0_tell_121 : decode cX0_tell 121 = .ok (.getfield 9, 3) := by decide +kernel
theorem dX0_tell_124 : decode cX0_tell 124 = .ok (.iconst 4, 1) := by decide +kernel
theorem dX0_tell_125 : decode cX0_tell 125 = .ok (.aload_n 0, 1) := by decide +kernel
theorem dX0_tell_126 : decode cX0_tell 126 = .ok (.getfield 29, 3) := by decide +kernel
theorem dX0_tell_129 : decode cX0_tell 129 = .ok (.getfield 130, 3) := by decide +kernel
theorem dX0_tell_132 : decode cX0_tell 132 = .ok (.iastore, 1) := by decide +kernel
theorem dX0_tell_133 : decode cX0_tell 133 = .ok (.aload_n 0, 1) := by decide +kernel
theorem dX0_tell_134 : decode cX0_tell 134 = .ok (.getfield 9, 3) := by decide +kernel
theorem dX0_tell_137 : decode cX0_tell 137 = .ok (.iconst 5, 1) := by decide +kernel
theorem dX0_tell_138 : decode cX0_tell 138 = .ok (.aload_n 0, 1) := by decide +kernel
theorem dX0_tell_139 : decode cX0_tell 139 = .ok (.getfield 38, 3) := by decide +kernel
theorem dX0_tell_142 : decode cX0_tell 142 = .ok (.iastore, 1) := by decide +kernel
theorem dX0_tell_143 : decode cX0_tell 143 = .ok (.aload_n 0, 1) := by decide +kernel
theorem dX0_tell_144 : decode cX0_tell 144 = .ok (.getfield 9, 3) := by decide +kernel
theorem dX0_tell_147 : decode cX0_tell 147 = .ok (.bipush 6, 2) := by decide +kernel
theorem dX0_tell_149 : decode cX0_tell 149 = .ok (.aload_n 0, 1) := by decide +kernel
theorem dX0_tell_150 : decode cX0_tell 150 = .ok (.getfield 41, 3) := by decide +kernel
theorem dX0_tell_153 : decode cX0_tell 153 = .ok (.iastore, 1) := by decide +kernel
theorem dX0_tell_154 : decode cX0_tell 154 = .ok (.goto 40, 3) := by decide +kernel
theorem dX0_tell_157 : decode cX0_tell 157 = .ok (.aload_n 0, 1) := by decide +kernel
theorem dX0_tell_158 : decode cX0_tell 158 = .ok (.getfield 9, 3) := by decide +kernel
theorem dX0_tell_161 : decode cX0_tell 161 = .ok (.iconst 0, 1) := by decide +kernel
theorem dX0_tell_162 : decode cX0_tell 162 = .ok (.iconst 2, 1) := by decide +kernel
theorem dX0_tell_163 : decode cX0_tell 163 = .ok (.iastore, 1) := by decide +kernel
theorem dX0_tell_164 : decode cX0_tell 164 = .ok (.aload_n 0, 1) := by decide +kernel
theorem dX0_tell_165 : decode cX0_tell 165 = .ok (.getfield 9, 3) := by decide +kernel
theorem dX0_tell_168 : decode cX0_tell 168 = .ok (.iconst 2, 1) := by decide +kernel
theorem dX0_tell_169 : decode cX0_tell 169 = .ok (.aload_n 0, 1) := by decide +kernel
theorem dX0_tell_170 : decode cX0_tell 170 = .ok (.getfield 32, 3) := by decide +kernel
theorem dX0_tell_173 : decode cX0_tell 173 = .ok (.iastore, 1) := by decide +kernel
theorem dX0_tell_174 : decode cX0_tell 174 = .ok (.aload_n 0, 1) := by decide +kernel
theorem dX0_tell_175 : decode cX0_tell 175 = .ok (.getfield 9, 3) := by decide +kernel
theorem dX0_tell_178 : decode cX0_tell 178 = .ok (.iconst 3, 1) := by decide +kernel
theorem dX0_tell_179 : decode cX0_tell 179 = .ok (.aload_n 0, 1) := by decide +kernel
theorem dX0_tell_180 : decode cX0_tell 180 = .ok (.getfield 38, 3) := by decide +kernel
theorem dX0_tell_183 : decode cX0_tell 183 = .ok (.iastore, 1) := by decide +kernel
theorem dX0_tell_184 : decode cX0_tell 184 = .ok (.goto 10, 3) := by decide +kernel
theorem dX0_tell_187 : decode cX0_tell 187 = .ok (.aload_n 0, 1) := by decide +kernel
theorem dX0_tell_188 : decode cX0_tell 188 = .ok (.getfield 9, 3) := by decide +kernel
theorem dX0_tell_191 : decode cX0_tell 191 = .ok (.iconst 0, 1) := by decide +kernel
theorem dX0_tell_192 : decode cX0_tell 192 = .ok (.iconst 3, 1) := by decide +kernel
theorem dX0_tell_193 : decode cX0_tell 193 = .ok (.iastore, 1) := by decide +kernel
theorem dX0_tell_194 : decode cX0_tell 194 = .ok (.return_, 1) := by decide +kernel
theorem dX1_init_0 : decode cX1_init 0 = .ok (.aload_n 0, 1) := by decide +kernel
theorem dX1_init_1 : decode cX1_init 1 = .ok (.invokespecial 3, 3) := by decide +kernel
theorem dX1_init_4 : decode cX1_init 4 = .ok (.aload_n 0, 1) := by decide +kernel
theorem dX1_init_5 : decode cX1_init 5 = .ok (.new 9, 3) := by decide +kernel
theorem dX1_init_8 : decode cX1_init 8 = .ok (.dup, 1) := by decide +kernel
theorem dX1_init_9 : decode cX1_init 9 = .ok (.invokespecial 11, 3) := by decide +kernel
theorem dX1_init_12 : decode cX1_init 12 = .ok (.putfield 12, 3) := by decide +kernel
theorem dX1_init_15 : decode cX1_init 15 = .ok (.aload_n 0, 1) := by decide +kernel
theorem dX1_init_16 : decode cX1_init 16 = .ok (.aconst_null, 1) := by decide +kernel
theorem dX1_init_17 : decode cX1_init 17 = .ok (.putfield 18, 3) := by decide +kernel
theorem dX1_init_20 : decode cX1_init 20 = .ok (.aload_n 0, 1) := by decide +kernel
theorem dX1_init_21 : decode cX1_init 21 = .ok (.bipush 7, 2) := by decide +kernel
theorem dX1_init_23 : decode cX1_init 23 = .ok (.newarray .int, 2) := by decide +kernel
theorem dX1_init_25 : decode cX1_init 25 = .ok (.putfield 21, 3) := by decide +kernel
theorem dX1_init_28 : decode cX1_init 28 = .ok (.aload_n 0, 1) := by decide +kernel
theorem dX1_init_29 : decode cX1_init 29 = .ok (.bipush 32, 2) := by decide +kernel
theorem dX1_init_31 : decode cX1_init 31 = .ok (.newarray .int, 2) := by decide +kernel
theorem dX1_init_33 : decode cX1_init 33 = .ok (.putfield 25, 3) := by decide +kernel
theorem dX1_init_36 : decode cX1_init 36 = .ok (.aload_n 0, 1) := by decide +kernel
theorem dX1_init_37 : decode cX1_init 37 = .ok (.iconst 0, 1) := by decide +kernel
theorem dX1_init_38 : decode cX1_init 38 = .ok (.putfield 28, 3) := by decide +kernel
theorem dX1_init_41 : decode cX1_init 41 = .ok (.aload_n 0, 1) := by decide +kernel
theorem dX1_init_42 : decode cX1_init 42 = .ok (.iconst 0, 1) := by decide +kernel
theorem dX1_init_43 : decode cX1_init 43 = .ok (.putfield 32, 3) := by decide +kernel
theorem dX1_init_46 : decode cX1_init 46 = .ok (.aload_n 0, 1) := by decide +kernel
theorem dX1_init_47 : decode cX1_init 47 = .ok (.iconst 0, 1) := by decide +kernel
theorem dX1_init_48 : decode cX1_init 48 = .ok (.putfield 35, 3) := by decide +kernel
theorem dX1_init_51 : decode cX1_init 51 = .ok (.aload_n 0, 1) := by decide +kernel
theorem dX1_init_52 : decode cX1_init 52 = .ok (.iconst (-1), 1) := by decide +kernel
theorem dX1_init_53 : decode cX1_init 53 = .ok (.putfield 38, 3) := by decide +kernel
theorem dX1_init_56 : decode cX1_init 56 = .ok (.aload_n 0, 1) := by decide +kernel
theorem dX1_init_57 : decode cX1_init 57 = .ok (.iconst 0, 1) := by decide +kernel
theorem dX1_init_58 : decode cX1_init 58 = .ok (.putfield 41, 3) := by decide +kernel
theorem dX1_init_61 : decode cX1_init 61 = .ok (.aload_n 0, 1) := by decide +kernel
theorem dX1_init_62 : decode cX1_init 62 = .ok (.iconst (-1), 1) := by decide +kernel
theorem dX1_init_63 : decode cX1_init 63 = .ok (.putfield 44, 3) := by decide +kernel
theorem dX1_init_66 : decode cX1_init 66 = .ok (.aload_n 0, 1) := by decide +kernel
theorem dX1_init_67 : decode cX1_init 67 = .ok (.iconst 0, 1) := by decide +kernel
theorem dX1_init_68 : decode cX1_init 68 = .ok (.putfield 47, 3) := by decide +kernel
theorem dX1_init_71 : decode cX1_init 71 = .ok (.aload_n 0, 1) := by decide +kernel
theorem dX1_init_72 : decode cX1_init 72 = .ok (.iconst 0, 1) := by decide +kernel
theorem dX1_init_73 : decode cX1_init 73 = .ok (.putfield 50, 3) := by decide +kernel
theorem dX1_init_76 : decode cX1_init 76 = .ok (.aload_n 0, 1) := by decide +kernel
theorem dX1_init_77 : decode cX1_init 77 = .ok (.iconst 0, 1) := by decide +kernel
theorem dX1_init_78 : decode cX1_init 78 = .ok (.putfield 54, 3) := by decide +kernel
theorem dX1_init_81 : decode cX1_init 81 = .ok (.aload_n 0, 1) := by decide +kernel
theorem dX1_init_82 : decode cX1_init 82 = .ok (.iconst 0, 1) := by decide +kernel
theorem dX1_init_83 : decode cX1_init 83 = .ok (.putfield 57, 3) := by decide +kernel
theorem dX1_init_86 : decode cX1_init 86 = .ok (.return_, 1) := by decide +kernel
theorem dX1_kind_0 : decode cX1_kind 0 = .ok (.aload_n 0, 1) := by decide +kernel
theorem dX1_kind_1 : decode cX1_kind 1 = .ok (.getfield 21, 3) := by decide +kernel
theorem dX1_kind_4 : decode cX1_kind 4 = .ok (.iconst 0, 1) := by decide +kernel
theorem dX1_kind_5 : decode cX1_kind 5 = .ok (.iaload, 1) := by decide +kernel
theorem dX1_kind_6 : decode cX1_kind 6 = .ok (.istore_n 1, 1) := by decide +kernel
theorem dX1_kind_7 : decode cX1_kind 7 = .ok (.iload_n 1, 1) := by decide +kernel
theorem dX1_kind_8 : decode cX1_kind 8 = .ok (.ifCond .lt 12, 3) := by decide +kernel
theorem dX1_kind_11 : decode cX1_kind 11 = .ok (.iload_n 1, 1) := by decide +kernel
theorem dX1_kind_12 : decode cX1_kind 12 = .ok (.iconst 4, 1) := by decide +kernel
theorem dX1_kind_13 : decode cX1_kind 13 = .ok (.if_icmp .gt 7, 3) := by decide +kernel
theorem dX1_kind_16 : decode cX1_kind 16 = .ok (.iload_n 1, 1) := by decide +kernel
theorem dX1_kind_17 : decode cX1_kind 17 = .ok (.goto 4, 3) := by decide +kernel
theorem dX1_kind_20 : decode cX1_kind 20 = .ok (.iconst 0, 1) := by decide +kernel
theorem dX1_kind_21 : decode cX1_kind 21 = .ok (.ireturn, 1) := by decide +kernel
theorem dX1_isThere_0 : decode cX1_isThere 0 = .ok (.aload_n 0, 1) := by decide +kernel
theorem dX1_isThere_1 : decode cX1_isThere 1 = .ok (.getfield 35, 3) := by decide +kernel
theorem dX1_isThere_4 : decode cX1_isThere 4 = .ok (.iconst 2, 1) := by decide +kernel
theorem dX1_isThere_5 : decode cX1_isThere 5 = .ok (.if_icmp .eq 7, 3) := by decide +kernel
theorem dX1_isThere_8 : decode cX1_isThere 8 = .ok (.iconst 1, 1) := by decide +kernel
theorem dX1_isThere_9 : decode cX1_isThere 9 = .ok (.goto 4, 3) := by decide +kernel
theorem dX1_isThere_12 : decode cX1_isThere 12 = .ok (.iconst 0, 1) := by decide +kernel
theorem dX1_isThere_13 : decode cX1_isThere 13 = .ok (.ireturn, 1) := by decide +kernel
theorem dX1_isPositive_0 : decode cX1_isPositive 0 = .ok (.aload_n 0, 1) := by decide +kernel
theorem dX1_isPositive_1 : decode cX1_isPositive 1 = .ok (.getfield 44, 3) := by decide +kernel
theorem dX1_isPositive_4 : decode cX1_isPositive 4 = .ok (.iconst (-1), 1) := by decide +kernel
theorem dX1_isPositive_5 : decode cX1_isPositive 5 = .ok (.if_icmp .ne 7, 3) := by decide +kernel
theorem dX1_isPositive_8 : decode cX1_isPositive 8 = .ok (.iconst 1, 1) := by decide +kernel
theorem dX1_isPositive_9 : decode cX1_isPositive 9 = .ok (.goto 4, 3) := by decide +kernel
theorem dX1_isPositive_12 : decode cX1_isPositive 12 = .ok (.iconst 0, 1) := by decide +kernel
theorem dX1_isPositive_13 : decode cX1_isPositive 13 = .ok (.ireturn, 1) := by decide +kernel
theorem dX1_hasRewritingNumber_0 : decode cX1_hasRewritingNumber 0 = .ok (.iload_n 1, 1) := by decide +kernel
theorem dX1_hasRewritingNumber_1 : decode cX1_hasRewritingNumber 1 = .ok (.bipush 11, 2) := by decide +kernel
theorem dX1_hasRewritingNumber_3 : decode cX1_hasRewritingNumber 3 = .ok (.if_icmp .lt 20, 3) := by decide +kernel
theorem dX1_hasRewritingNumber_6 : decode cX1_hasRewritingNumber 6 = .ok (.iload_n 1, 1) := by decide +kernel
theorem dX1_hasRewritingNumber_7 : decode cX1_hasRewritingNumber 7 = .ok (.bipush 11, 2) := by decide +kernel
theorem dX1_hasRewritingNumber_9 : decode cX1_hasRewritingNumber 9 = .ok (.iconst 4, 1) := by decide +kernel
theorem dX1_hasRewritingNumber_10 : decode cX1_hasRewritingNumber 10 = .ok (.aload_n 0, 1) := by decide +kernel
theorem dX1_hasRewritingNumber_11 : decode cX1_hasRewritingNumber 11 = .ok (.getfield 28, 3) := by decide +kernel
theorem dX1_hasRewritingNumber_14 : decode cX1_hasRewritingNumber 14 = .ok (.imul, 1) := by decide +kernel
theorem dX1_hasRewritingNumber_15 : decode cX1_hasRewritingNumber 15 = .ok (.iadd, 1) := by decide +kernel
theorem dX1_hasRewritingNumber_16 : decode cX1_hasRewritingNumber 16 = .ok (.if_icmp .ge 7, 3) := by decide +kernel
theorem dX1_hasRewritingNumber_19 : decode cX1_hasRewritingNumber 19 = .ok (.iconst 1, 1) := by decide +kernel
theorem dX1_hasRewritingNumber_20 : decode cX1_hasRewritingNumber 20 = .ok (.goto 4, 3) := by decide +kernel
theorem dX1_hasRewritingNumber_23 : decode cX1_hasRewritingNumber 23 = .ok (.iconst 0, 1) := by decide +kernel
theorem dX1_hasRewritingNumber_24 : decode cX1_hasRewritingNumber 24 = .ok (.ireturn, 1) := by decide +kernel
theorem dX1_fill_0 : decode cX1_fill 0 = .ok (.aload_n 0, 1) := by decide +kernel
theorem dX1_fill_1 : decode cX1_fill 1 = .ok (.getfield 12, 3) := by decide +kernel
theorem dX1_fill_4 : decode cX1_fill 4 = .ok (.aload_n 1, 1) := by decide +kernel
theorem dX1_fill_5 : decode cX1_fill 5 = .ok (.invokevirtual 60, 3) := by decide +kernel
theorem dX1_fill_8 : decode cX1_fill 8 = .ok (.aload_n 0, 1) := by decide +kernel
theorem dX1_fill_9 : decode cX1_fill 9 = .ok (.iload_n 2, 1) := by decide +kernel
theorem dX1_fill_10 : decode cX1_fill 10 = .ok (.putfield 47, 3) := by decide +kernel
theorem dX1_fill_13 : decode cX1_fill 13 = .ok (.aload_n 0, 1) := by decide +kernel
theorem dX1_fill_14 : decode cX1_fill 14 = .ok (.iconst 0, 1) := by decide +kernel
theorem dX1_fill_15 : decode cX1_fill 15 = .ok (.putfield 35, 3) := by decide +kernel
theorem dX1_fill_18 : decode cX1_fill 18 = .ok (.aload_n 0, 1) := by decide +kernel
theorem dX1_fill_19 : decode cX1_fill 19 = .ok (.iconst (-1), 1) := by decide +kernel
theorem dX1_fill_20 : decode cX1_fill 20 = .ok (.putfield 38, 3) := by decide +kernel
theorem dX1_fill_23 : decode cX1_fill 23 = .ok (.aload_n 0, 1) := by decide +kernel
theorem dX1_fill_24 : decode cX1_fill 24 = .ok (.iconst (-1), 1) := by decide +kernel
theorem dX1_fill_25 : decode cX1_fill 25 = .ok (.putfield 44, 3) := by decide +kernel
theorem dX1_fill_28 : decode cX1_fill 28 = .ok (.aload_n 0, 1) := by decide +kernel
theorem dX1_fill_29 : decode cX1_fill 29 = .ok (.iconst 0, 1) := by decide +kernel
theorem dX1_fill_30 : decode cX1_fill 30 = .ok (.putfield 41, 3) := by decide +kernel
theorem dX1_fill_33 : decode cX1_fill 33 = .ok (.iconst 0, 1) := by decide +kernel
theorem dX1_fill_34 : decode cX1_fill 34 = .ok (.istore 4, 2) := by decide +kernel
theorem dX1_fill_36 : decode cX1_fill 36 = .ok (.iconst 0, 1) := by decide +kernel
theorem dX1_fill_37 : decode cX1_fill 37 = .ok (.istore 5, 2) := by decide +kernel
theorem dX1_fill_39 : decode cX1_fill 39 = .ok (.iload 5, 2) := by decide +kernel
theorem dX1_fill_41 : decode cX1_fill 41 = .ok (.aload_n 0, 1) := by decide +kernel
theorem dX1_fill_42 : decode cX1_fill 42 = .ok (.getfield 12, 3) := by decide +kernel
theorem dX1_fill_45 : decode cX1_fill 45 = .ok (.getfield 64, 3) := by decide +kernel
theorem dX1_fill_48 : decode cX1_fill 48 = .ok (.if_icmp .ge 85, 3) := by decide +kernel
theorem dX1_fill_51 : decode cX1_fill 51 = .ok (.aload_n 3, 1) := by decide +kernel
theorem dX1_fill_52 : decode cX1_fill 52 = .ok (.aload_n 0, 1) := by decide +kernel
theorem dX1_fill_53 : decode cX1_fill 53 = .ok (.getfield 12, 3) := by decide +kernel
theorem dX1_fill_56 : decode cX1_fill 56 = .ok (.getfield 67, 3) := by decide +kernel
theorem dX1_fill_59 : decode cX1_fill 59 = .ok (.aload_n 0, 1) := by decide +kernel
theorem dX1_fill_60 : decode cX1_fill 60 = .ok (.getfield 12, 3) := by decide +kernel
theorem dX1_fill_63 : decode cX1_fill 63 = .ok (.getfield 70, 3) := by decide +kernel
theorem dX1_fill_66 : decode cX1_fill 66 = .ok (.iload 5, 2) := by decide +kernel
theorem dX1_fill_68 : decode cX1_fill 68 = .ok (.iaload, 1) := by decide +kernel
theorem dX1_fill_69 : decode cX1_fill 69 = .ok (.aload_n 0, 1) := by decide +kernel
theorem dX1_fill_70 : decode cX1_fill 70 = .ok (.getfield 12, 3) := by decide +kernel
theorem dX1_fill_73 : decode cX1_fill 73 = .ok (.getfield 70, 3) := by decide +kernel
theorem dX1_fill_76 : decode cX1_fill 76 = .ok (.iload 5, 2) := by decide +kernel
theorem dX1_fill_78 : decode cX1_fill 78 = .ok (.iconst 1, 1) := by decide +kernel
theorem dX1_fill_79 : decode cX1_fill 79 = .ok (.iadd, 1) := by decide +kernel
theorem dX1_fill_80 : decode cX1_fill 80 = .ok (.iaload, 1) := by decide +kernel
theorem dX1_fill_81 : decode cX1_fill 81 = .ok (.invokevirtual 73, 3) := by decide +kernel
theorem dX1_fill_84 : decode cX1_fill 84 = .ok (.istore 6, 2) := by decide +kernel
theorem dX1_fill_86 : decode cX1_fill 86 = .ok (.aload_n 0, 1) := by decide +kernel
theorem dX1_fill_87 : decode cX1_fill 87 = .ok (.dup, 1) := by decide +kernel
theorem dX1_fill_88 : decode cX1_fill 88 = .ok (.getfield 41, 3) := by decide +kernel
theorem dX1_fill_91 : decode cX1_fill 91 = .ok (.iload 6, 2) := by decide +kernel
theorem dX1_fill_93 : decode cX1_fill 93 = .ok (.iadd, 1) := by decide +kernel
theorem dX1_fill_94 : decode cX1_fill 94 = .ok (.putfield 41, 3) := by decide +kernel
theorem dX1_fill_97 : decode cX1_fill 97 = .ok (.aload_n 0, 1) := by decide +kernel
theorem dX1_fill_98 : decode cX1_fill 98 = .ok (.getfield 12, 3) := by decide +kernel
theorem dX1_fill_101 : decode cX1_fill 101 = .ok (.getfield 79, 3) := by decide +kernel
theorem dX1_fill_104 : decode cX1_fill 104 = .ok (.iload 5, 2) := by decide +kernel
theorem dX1_fill_106 : decode cX1_fill 106 = .ok (.baload, 1) := by decide +kernel
theorem dX1_fill_107 : decode cX1_fill 107 = .ok (.ifCond .eq 20, 3) := by decide +kernel
theorem dX1_fill_110 : decode cX1_fill 110 = .ok (.iload 6, 2) := by decide +kernel
theorem dX1_fill_112 : decode cX1_fill 112 = .ok (.iload 4, 2) := by decide +kernel
theorem dX1_fill_114 : decode cX1_fill 114 = .ok (.if_icmp .le 13, 3) := by decide +kernel
theorem dX1_fill_117 : decode cX1_fill 117 = .ok (.iload 6, 2) := by decide +kernel
theorem dX1_fill_119 : decode cX1_fill 119 = .ok (.istore 4, 2) := by decide +kernel
theorem dX1_fill_121 : decode cX1_fill 121 = .ok (.aload_n 0, 1) := by decide +kernel
theorem dX1_fill_122 : decode cX1_fill 122 = .ok (.iload 5, 2) := by decide +kernel
theorem dX1_fill_124 : decode cX1_fill 124 = .ok (.putfield 44, 3) := by decide +kernel
theorem dX1_fill_127 : decode cX1_fill 127 = .ok (.iinc 5 1, 3) := by decide +kernel
theorem dX1_fill_130 : decode cX1_fill 130 = .ok (.goto (-91), 3) := by decide +kernel
theorem dX1_fill_133 : decode cX1_fill 133 = .ok (.return_, 1) := by decide +kernel
theorem dX1_tellRule_0 : decode cX1_tellRule 0 = .ok (.aload_n 0, 1) := by decide +kernel
theorem dX1_tellRule_1 : decode cX1_tellRule 1 = .ok (.aload_n 0, 1) := by decide +kernel
theorem dX1_tellRule_2 : decode cX1_tellRule 2 = .ok (.getfield 12, 3) := by decide +kernel
theorem dX1_tellRule_5 : decode cX1_tellRule 5 = .ok (.getfield 64, 3) := by decide +kernel
theorem dX1_tellRule_8 : decode cX1_tellRule 8 = .ok (.iconst 1, 1) := by decide +kernel
theorem dX1_tellRule_9 : decode cX1_tellRule 9 = .ok (.if_icmp .ne 30, 3) := by decide +kernel
theorem dX1_tellRule_12 : decode cX1_tellRule 12 = .ok (.aload_n 0, 1) := by decide +kernel
theorem dX1_tellRule_13 : decode cX1_tellRule 13 = .ok (.getfield 12, 3) := by decide +kernel
theorem dX1_tellRule_16 : decode cX1_tellRule 16 = .ok (.getfield 79, 3) := by decide +kernel
theorem dX1_tellRule_19 : decode cX1_tellRule 19 = .ok (.iconst 0, 1) := by decide +kernel
theorem dX1_tellRule_20 : decode cX1_tellRule 20 = .ok (.baload, 1) := by decide +kernel
theorem dX1_tellRule_21 : decode cX1_tellRule 21 = .ok (.ifCond .ne 18, 3) := by decide +kernel
theorem dX1_tellRule_24 : decode cX1_tellRule 24 = .ok (.aload_n 0, 1) := by decide +kernel
theorem dX1_tellRule_25 : decode cX1_tellRule 25 = .ok (.getfield 12, 3) := by decide +kernel
theorem dX1_tellRule_28 : decode cX1_tellRule 28 = .ok (.iconst 0, 1) := by decide +kernel
theorem dX1_tellRule_29 : decode cX1_tellRule 29 = .ok (.invokevirtual 83, 3) := by decide +kernel
theorem dX1_tellRule_32 : decode cX1_tellRule 32 = .ok (.ifCond .eq 7, 3) := by decide +kernel
theorem dX1_tellRule_35 : decode cX1_tellRule 35 = .ok (.iconst 1, 1) := by decide +kernel
theorem dX1_tellRule_36 : decode cX1_tellRule 36 = .ok (.goto 4, 3) := by decide +kernel
theorem dX1_tellRule_39 : decode cX1_tellRule 39 = .ok (.iconst 0, 1) := by decide +kernel
theorem dX1_tellRule_40 : decode cX1_tellRule 40 = .ok (.putfield 50, 3) := by decide +kernel
theorem dX1_tellRule_43 : decode cX1_tellRule 43 = .ok (.aload_n 0, 1) := by decide +kernel
theorem dX1_tellRule_44 : decode cX1_tellRule 44 = .ok (.aload_n 0, 1) := by decide +kernel
theorem dX1_tellRule_45 : decode cX1_tellRule 45 = .ok (.getfield 50, 3) := by decide +kernel
theorem dX1_tellRule_48 : decode cX1_tellRule 48 = .ok (.ifCond .eq 18, 3) := by decide +kernel
theorem dX1_tellRule_51 : decode cX1_tellRule 51 = .ok (.aload_n 1, 1) := by decide +kernel
theorem dX1_tellRule_52 : decode cX1_tellRule 52 = .ok (.aload_n 0, 1) := by decide +kernel
theorem dX1_tellRule_53 : decode cX1_tellRule 53 = .ok (.getfield 12, 3) := by decide +kernel
theorem dX1_tellRule_56 : decode cX1_tellRule 56 = .ok (.getfield 67, 3) := by decide +kernel
theorem dX1_tellRule_59 : decode cX1_tellRule 59 = .ok (.iconst 1, 1) := by decide +kernel
theorem dX1_tellRule_60 : decode cX1_tellRule 60 = .ok (.invokevirtual 87, 3) := by decide +kernel
theorem dX1_tellRule_63 : decode cX1_tellRule 63 = .ok (.goto 4, 3) := by decide +kernel
theorem dX1_tellRule_66 : decode cX1_tellRule 66 = .ok (.iconst 0, 1) := by decide +kernel
theorem dX1_tellRule_67 : decode cX1_tellRule 67 = .ok (.putfield 54, 3) := by decide +kernel
theorem dX1_tellRule_70 : decode cX1_tellRule 70 = .ok (.aload_n 0, 1) := by decide +kernel
theorem dX1_tellRule_71 : decode cX1_tellRule 71 = .ok (.aload_n 0, 1) := by decide +kernel
theorem dX1_tellRule_72 : decode cX1_tellRule 72 = .ok (.getfield 50, 3) := by decide +kernel
theorem dX1_tellRule_75 : decode cX1_tellRule 75 = .ok (.ifCond .eq 34, 3) := by decide +kernel
theorem dX1_tellRule_78 : decode cX1_tellRule 78 = .ok (.aload_n 2, 1) := by decide +kernel
theorem dX1_tellRule_79 : decode cX1_tellRule 79 = .ok (.aload_n 0, 1) := by decide +kernel
theorem dX1_tellRule_80 : decode cX1_tellRule 80 = .ok (.getfield 12, 3) := by decide +kernel
theorem dX1_tellRule_83 : decode cX1_tellRule 83 = .ok (.getfield 67, 3) := by decide +kernel
theorem dX1_tellRule_86 : decode cX1_tellRule 86 = .ok (.iconst 1, 1) := by decide +kernel
theorem dX1_tellRule_87 : decode cX1_tellRule 87 = .ok (.aload_n 0, 1) := by decide +kernel
theorem dX1_tellRule_88 : decode cX1_tellRule 88 = .ok (.getfield 12, 3) := by decide +kernel
theorem dX1_tellRule_91 : decode cX1_tellRule 91 = .ok (.getfield 67, 3) := by decide +kernel
theorem dX1_tellRule_94 : decode cX1_tellRule 94 = .ok (.aload_n 0, 1) := by decide +kernel
theorem dX1_tellRule_95 : decode cX1_tellRule 95 = .ok (.getfield 54, 3) := by decide +kernel
theorem dX1_tellRule_98 : decode cX1_tellRule 98 = .ok (.invokevirtual 93, 3) := by decide +kernel
theorem dX1_tellRule_101 : decode cX1_tellRule 101 = .ok (.iconst 1, 1) := by decide +kernel
theorem dX1_tellRule_102 : decode cX1_tellRule 102 = .ok (.if_icmp .ne 7, 3) := by decide +kernel
theorem dX1_tellRule_105 : decode cX1_tellRule 105 = .ok (.iconst 1, 1) := by decide +kernel
theorem dX1_tellRule_106 : decode cX1_tellRule 106 = .ok (.goto 4, 3) := by decide +kernel
theorem dX1_tellRule_109 : decode cX1_tellRule 109 = .ok (.iconst 0, 1) := by decide +kernel
theorem dX1_tellRule_110 : decode cX1_tellRule 110 = .ok (.putfield 57, 3) := by decide +kernel
theorem dX1_tellRule_113 : decode cX1_tellRule 113 = .ok (.return_, 1) := by decide +kernel
theorem dX1_tellStep_0 : decode cX1_tellStep 0 = .ok (.aload_n 1, 1) := by decide +kernel
theorem dX1_tellStep_1 : decode cX1_tellStep 1 = .ok (.iconst 0, 1) := by decide +kernel
theorem dX1_tellStep_2 : decode cX1_tellStep 2 = .ok (.aload_n 0, 1) := by decide +kernel
theorem dX1_tellStep_3 : decode cX1_tellStep 3 = .ok (.getfield 21, 3) := by decide +kernel
theorem dX1_tellStep_6 : decode cX1_tellStep 6 = .ok (.iconst 0, 1) := by decide +kernel
theorem dX1_tellStep_7 : decode cX1_tellStep 7 = .ok (.bipush 7, 2) := by decide +kernel
theorem dX1_tellStep_9 : decode cX1_tellStep 9 = .ok (.invokestatic 97, 3) := by decide +kernel
theorem dX1_tellStep_12 : decode cX1_tellStep 12 = .ok (.aload_n 0, 1) := by decide +kernel
theorem dX1_tellStep_13 : decode cX1_tellStep 13 = .ok (.aload_n 2, 1) := by decide +kernel
theorem dX1_tellStep_14 : decode cX1_tellStep 14 = .ok (.getfield 103, 3) := by decide +kernel
theorem dX1_tellStep_17 : decode cX1_tellStep 17 = .ok (.putfield 28, 3) := by decide +kernel
theorem dX1_tellStep_20 : decode cX1_tellStep 20 = .ok (.aload_n 2, 1) := by decide +kernel
theorem dX1_tellStep_21 : decode cX1_tellStep 21 = .ok (.getfield 108, 3) := by decide +kernel
theorem dX1_tellStep_24 : decode cX1_tellStep 24 = .ok (.iconst 0, 1) := by decide +kernel
theorem dX1_tellStep_25 : decode cX1_tellStep 25 = .ok (.aload_n 0, 1) := by decide +kernel
theorem dX1_tellStep_26 : decode cX1_tellStep 26 = .ok (.getfield 25, 3) := by decide +kernel
theorem dX1_tellStep_29 : decode cX1_tellStep 29 = .ok (.iconst 0, 1) := by decide +kernel
theorem dX1_tellStep_30 : decode cX1_tellStep 30 = .ok (.iconst 4, 1) := by decide +kernel
theorem dX1_tellStep_31 : decode cX1_tellStep 31 = .ok (.aload_n 0, 1) := by decide +kernel
theorem dX1_tellStep_32 : decode cX1_tellStep 32 = .ok (.getfield 28, 3) := by decide +kernel
theorem dX1_tellStep_35 : decode cX1_tellStep 35 = .ok (.imul, 1) := by decide +kernel
theorem dX1_tellStep_36 : decode cX1_tellStep 36 = .ok (.invokestatic 97, 3) := by decide +kernel
theorem dX1_tellStep_39 : decode cX1_tellStep 39 = .ok (.aload_n 0, 1) := by decide +kernel
theorem dX1_tellStep_40 : decode cX1_tellStep 40 = .ok (.invokevirtual 111, 3) := by decide +kernel
theorem dX1_tellStep_43 : decode cX1_tellStep 43 = .ok (.ifCond .ne 29, 3) := by decide +kernel
theorem dX1_tellStep_46 : decode cX1_tellStep 46 = .ok (.aload_n 0, 1) := by decide +kernel
theorem dX1_tellStep_47 : decode cX1_tellStep 47 = .ok (.getfield 18, 3) := by decide +kernel
theorem dX1_tellStep_50 : decode cX1_tellStep 50 = .ok (.ifnonnull 14, 3) := by decide +kernel
theorem dX1_tellStep_53 : decode cX1_tellStep 53 = .ok (.aload_n 0, 1) := by decide +kernel
theorem dX1_tellStep_54 : decode cX1_tellStep 54 = .ok (.new 9, 3) := by decide +kernel
theorem dX1_tellStep_57 : decode cX1_tellStep 57 = .ok (.dup, 1) := by decide +kernel
theorem dX1_tellStep_58 : decode cX1_tellStep 58 = .ok (.invokespecial 11, 3) := by decide +kernel
theorem dX1_tellStep_61 : decode cX1_tellStep 61 = .ok (.putfield 18, 3) := by decide +kernel
theorem dX1_tellStep_64 : decode cX1_tellStep 64 = .ok (.aload_n 0, 1) := by decide +kernel
theorem dX1_tellStep_65 : decode cX1_tellStep 65 = .ok (.getfield 18, 3) := by decide +kernel
theorem dX1_tellStep_68 : decode cX1_tellStep 68 = .ok (.aload_n 3, 1) := by decide +kernel
theorem dX1_tellStep_69 : decode cX1_tellStep 69 = .ok (.invokevirtual 60, 3) := by decide +kernel
theorem dX1_tellStep_72 : decode cX1_tellStep 72 = .ok (.return_, 1) := by decide +kernel
theorem dX2_init_0 : decode cX2_init 0 = .ok (.aload_n 0, 1) := by decide +kernel
theorem dX2_init_1 : decode cX2_init 1 = .ok (.invokespecial 3, 3) := by decide +kernel
theorem dX2_init_4 : decode cX2_init 4 = .ok (.aload_n 0, 1) := by decide +kernel
theorem dX2_init_5 : decode cX2_init 5 = .ok (.bipush 30, 2) := by decide +kernel
theorem dX2_init_7 : decode cX2_init 7 = .ok (.newarray .int, 2) := by decide +kernel
theorem dX2_init_9 : decode cX2_init 9 = .ok (.putfield 9, 3) := by decide +kernel
theorem dX2_init_12 : decode cX2_init 12 = .ok (.aload_n 0, 1) := by decide +kernel
theorem dX2_init_13 : decode cX2_init 13 = .ok (.bipush 40, 2) := by decide +kernel
theorem dX2_init_15 : decode cX2_init 15 = .ok (.newarray .int, 2) := by decide +kernel
theorem dX2_init_17 : decode cX2_init 17 = .ok (.putfield 15, 3) := by decide +kernel
theorem dX2_init_20 : decode cX2_init 20 = .ok (.aload_n 0, 1) := by decide +kernel
theorem dX2_init_21 : decode cX2_init 21 = .ok (.iconst 0, 1) := by decide +kernel
theorem dX2_init_22 : decode cX2_init 22 = .ok (.putfield 18, 3) := by decide +kernel
theorem dX2_init_25 : decode cX2_init 25 = .ok (.aload_n 0, 1) := by decide +kernel
theorem dX2_init_26 : decode cX2_init 26 = .ok (.aload_n 1, 1) := by decide +kernel
theorem dX2_init_27 : decode cX2_init 27 = .ok (.putfield 22, 3) := by decide +kernel
theorem dX2_init_30 : decode cX2_init 30 = .ok (.aload_n 0, 1) := by decide +kernel
theorem dX2_init_31 : decode cX2_init 31 = .ok (.aload_n 2, 1) := by decide +kernel
theorem dX2_init_32 : decode cX2_init 32 = .ok (.putfield 26, 3) := by decide +kernel
theorem dX2_init_35 : decode cX2_init 35 = .ok (.return_, 1) := by decide +kernel
theorem dX2_clean_0 : decode cX2_clean 0 = .ok (.iconst 0, 1) := by decide +kernel
theorem dX2_clean_1 : decode cX2_clean 1 = .ok (.istore_n 2, 1) := by decide +kernel
theorem dX2_clean_2 : decode cX2_clean 2 = .ok (.iconst 0, 1) := by decide +kernel
theorem dX2_clean_3 : decode cX2_clean 3 = .ok (.istore_n 3, 1) := by decide +kernel
theorem dX2_clean_4 : decode cX2_clean 4 = .ok (.iload_n 3, 1) := by decide +kernel
theorem dX2_clean_5 : decode cX2_clean 5 = .ok (.bipush 6, 2) := by decide +kernel
theorem dX2_clean_7 : decode cX2_clean 7 = .ok (.if_icmp .ge 51, 3) := by decide +kernel
theorem dX2_clean_10 : decode cX2_clean 10 = .ok (.iload_n 2, 1) := by decide +kernel
theorem dX2_clean_11 : decode cX2_clean 11 = .ok (.aload_n 1, 1) := by decide +kernel
theorem dX2_clean_12 : decode cX2_clean 12 = .ok (.getfield 30, 3) := by decide +kernel
theorem dX2_clean_15 : decode cX2_clean 15 = .ok (.if_icmp .ge 43, 3) := by decide +kernel
theorem dX2_clean_18 : decode cX2_clean 18 = .ok (.aload_n 1, 1) := by decide +kernel
theorem dX2_clean_19 : decode cX2_clean 19 = .ok (.iload_n 2, 1) := by decide +kernel
theorem dX2_clean_20 : decode cX2_clean 20 = .ok (.invokevirtual 35, 3) := by decide +kernel
theorem dX2_clean_23 : decode cX2_clean 23 = .ok (.ifCond .eq 9, 3) := by decide +kernel
theorem dX2_clean_26 : decode cX2_clean 26 = .ok (.aload_n 0, 1) := by decide +kernel
theorem dX2_clean_27 : decode cX2_clean 27 = .ok (.aload_n 1, 1) := by decide +kernel
theorem dX2_clean_28 : decode cX2_clean 28 = .ok (.iload_n 2, 1) := by decide +kernel
theorem dX2_clean_29 : decode cX2_clean 29 = .ok (.invokevirtual 39, 3) := by decide +kernel
theorem dX2_clean_32 : decode cX2_clean 32 = .ok (.aload_n 0, 1) := by decide +kernel
theorem dX2_clean_33 : decode cX2_clean 33 = .ok (.aload_n 1, 1) := by decide +kernel
theorem dX2_clean_34 : decode cX2_clean 34 = .ok (.iload_n 2, 1) := by decide +kernel
theorem dX2_clean_35 : decode cX2_clean 35 = .ok (.invokevirtual 43, 3) := by decide +kernel
theorem dX2_clean_38 : decode cX2_clean 38 = .ok (.ifCond .eq 11, 3) := by decide +kernel
theorem dX2_clean_41 : decode cX2_clean 41 = .ok (.aload_n 1, 1) := by decide +kernel
theorem dX2_clean_42 : decode cX2_clean 42 = .ok (.iload_n 2, 1) := by decide +kernel
theorem dX2_clean_43 : decode cX2_clean 43 = .ok (.invokevirtual 47, 3) := by decide +kernel
theorem dX2_clean_46 : decode cX2_clean 46 = .ok (.goto 6, 3) := by decide +kernel
theorem dX2_clean_49 : decode cX2_clean 49 = .ok (.iinc 2 1, 3) := by decide +kernel
theorem dX2_clean_52 : decode cX2_clean 52 = .ok (.iinc 3 1, 3) := by decide +kernel
theorem dX2_clean_55 : decode cX2_clean 55 = .ok (.goto (-51), 3) := by decide +kernel
theorem dX2_clean_58 : decode cX2_clean 58 = .ok (.aload_n 0, 1) := by decide +kernel
theorem dX2_clean_59 : decode cX2_clean 59 = .ok (.aload_n 1, 1) := by decide +kernel
theorem dX2_clean_60 : decode cX2_clean 60 = .ok (.invokevirtual 51, 3) := by decide +kernel
theorem dX2_clean_63 : decode cX2_clean 63 = .ok (.aload_n 0, 1) := by decide +kernel
theorem dX2_clean_64 : decode cX2_clean 64 = .ok (.getfield 18, 3) := by decide +kernel
theorem dX2_clean_67 : decode cX2_clean 67 = .ok (.bipush 20, 2) := by decide +kernel
theorem dX2_clean_69 : decode cX2_clean 69 = .ok (.if_icmp .gt 7, 3) := by decide +kernel
theorem dX2_clean_72 : decode cX2_clean 72 = .ok (.iconst 1, 1) := by decide +kernel
theorem dX2_clean_73 : decode cX2_clean 73 = .ok (.goto 4, 3) := by decide +kernel
theorem dX2_clean_76 : decode cX2_clean 76 = .ok (.iconst 0, 1) := by decide +kernel
theorem dX2_clean_77 : decode cX2_clean 77 = .ok (.ireturn, 1) := by decide +kernel
theorem dX2_sortSides_0 : decode cX2_sortSides 0 = .ok (.aload_n 1, 1) := by decide +kernel
theorem dX2_sortSides_1 : decode cX2_sortSides 1 = .ok (.getfield 55, 3) := by decide +kernel
theorem dX2_sortSides_4 : decode cX2_sortSides 4 = .ok (.iload_n 2, 1) := by decide +kernel
theorem dX2_sortSides_5 : decode cX2_sortSides 5 = .ok (.iaload, 1) := by decide +kernel
theorem dX2_sortSides_6 : decode cX2_sortSides 6 = .ok (.iconst 1, 1) := by decide +kernel
theorem dX2_sortSides_7 : decode cX2_sortSides 7 = .ok (.iadd, 1) := by decide +kernel
theorem dX2_sortSides_8 : decode cX2_sortSides 8 = .ok (.istore_n 3, 1) := by decide +kernel
theorem dX2_sortSides_9 : decode cX2_sortSides 9 = .ok (.aload_n 0, 1) := by decide +kernel
theorem dX2_sortSides_10 : decode cX2_sortSides 10 = .ok (.getfield 22, 3) := by decide +kernel
theorem dX2_sortSides_13 : decode cX2_sortSides 13 = .ok (.aload_n 1, 1) := by decide +kernel
theorem dX2_sortSides_14 : decode cX2_sortSides 14 = .ok (.getfield 58, 3) := by decide +kernel
theorem dX2_sortSides_17 : decode cX2_sortSides 17 = .ok (.iload_n 3, 1) := by decide +kernel
theorem dX2_sortSides_18 : decode cX2_sortSides 18 = .ok (.invokevirtual 61, 3) := by decide +kernel
theorem dX2_sortSides_21 : decode cX2_sortSides 21 = .ok (.istore 4, 2) := by decide +kernel
theorem dX2_sortSides_23 : decode cX2_sortSides 23 = .ok (.aload_n 0, 1) := by decide +kernel
theorem dX2_sortSides_24 : decode cX2_sortSides 24 = .ok (.getfield 26, 3) := by decide +kernel
theorem dX2_sortSides_27 : decode cX2_sortSides 27 = .ok (.aload_n 1, 1) := by decide +kernel
theorem dX2_sortSides_28 : decode cX2_sortSides 28 = .ok (.getfield 58, 3) := by decide +kernel
theorem dX2_sortSides_31 : decode cX2_sortSides 31 = .ok (.iload 4, 2) := by decide +kernel
theorem dX2_sortSides_33 : decode cX2_sortSides 33 = .ok (.aload_n 1, 1) := by decide +kernel
theorem dX2_sortSides_34 : decode cX2_sortSides 34 = .ok (.getfield 58, 3) := by decide +kernel
theorem dX2_sortSides_37 : decode cX2_sortSides 37 = .ok (.iload_n 3, 1) := by decide +kernel
theorem dX2_sortSides_38 : decode cX2_sortSides 38 = .ok (.invokevirtual 67, 3) := by decide +kernel
theorem dX2_sortSides_41 : decode cX2_sortSides 41 = .ok (.iconst 1, 1) := by decide +kernel
theorem dX2_sortSides_42 : decode cX2_sortSides 42 = .ok (.if_icmp .eq 4, 3) := by decide +kernel
theorem dX2_sortSides_45 : decode cX2_sortSides 45 = .ok (.return_, 1) := by decide +kernel
theorem dX2_sortSides_46 : decode cX2_sortSides 46 = .ok (.iload 4, 2) := by decide +kernel
theorem dX2_sortSides_48 : decode cX2_sortSides 48 = .ok (.iload_n 3, 1) := by decide +kernel
theorem dX2_sortSides_49 : decode cX2_sortSides 49 = .ok (.isub, 1) := by decide +kernel
theorem dX2_sortSides_50 : decode cX2_sortSides 50 = .ok (.istore 5, 2) := by decide +kernel
theorem dX2_sortSides_52 : decode cX2_sortSides 52 = .ok (.aload_n 1, 1) := by decide +kernel
theorem dX2_sortSides_53 : decode cX2_sortSides 53 = .ok (.getfield 55, 3) := by decide +kernel
theorem dX2_sortSides_56 : decode cX2_sortSides 56 = .ok (.iload_n 2, 1) := by decide +kernel
theorem dX2_sortSides_57 : decode cX2_sortSides 57 = .ok (.iconst 1, 1) := by decide +kernel
theorem dX2_sortSides_58 : decode cX2_sortSides 58 = .ok (.iadd, 1) := by decide +kernel
theorem dX2_sortSides_59 : decode cX2_sortSides 59 = .ok (.iaload, 1) := by decide +kernel
theorem dX2_sortSides_60 : decode cX2_sortSides 60 = .ok (.iload 4, 2) := by decide +kernel
theorem dX2_sortSides_62 : decode cX2_sortSides 62 = .ok (.isub, 1) := by decide +kernel
theorem dX2_sortSides_63 : decode cX2_sortSides 63 = .ok (.istore 6, 2) := by decide +kernel
theorem dX2_sortSides_65 : decode cX2_sortSides 65 = .ok (.aload_n 1, 1) := by decide +kernel
theorem dX2_sortSides_66 : decode cX2_sortSides 66 = .ok (.getfield 58, 3) := by decide +kernel
theorem dX2_sortSides_69 : decode cX2_sortSides 69 = .ok (.iload_n 3, 1) := by decide +kernel
theorem dX2_sortSides_70 : decode cX2_sortSides 70 = .ok (.aload_n 0, 1) := by decide +kernel
theorem dX2_sortSides_71 : decode cX2_sortSides 71 = .ok (.getfield 9, 3) := by decide +kernel
theorem dX2_sortSides_74 : decode cX2_sortSides 74 = .ok (.iconst 0, 1) := by decide +kernel
theorem dX2_sortSides_75 : decode cX2_sortSides 75 = .ok (.iload 5, 2) := by decide +kernel
theorem dX2_sortSides_77 : decode cX2_sortSides 77 = .ok (.invokestatic 73, 3) := by decide +kernel
theorem dX2_sortSides_80 : decode cX2_sortSides 80 = .ok (.aload_n 1, 1) := by decide +kernel
theorem dX2_sortSides_81 : decode cX2_sortSides 81 = .ok (.getfield 58, 3) := by decide +kernel
theorem dX2_sortSides_84 : decode cX2_sortSides 84 = .ok (.iload 4, 2) := by decide +kernel
theorem dX2_sortSides_86 : decode cX2_sortSides 86 = .ok (.aload_n 1, 1) := by decide +kernel
theorem dX2_sortSides_87 : decode cX2_sortSides 87 = .ok (.getfield 58, 3) := by decide +kernel
theorem dX2_sortSides_90 : decode cX2_sortSides 90 = .ok (.iload_n 3, 1) := by decide +kernel
theorem dX2_sortSides_91 : decode cX2_sortSides 91 = .ok (.iload 6, 2) := by decide +kernel
theorem dX2_sortSides_93 : decode cX2_sortSides 93 = .ok (.invokestatic 73, 3) := by decide +kernel
theorem dX2_sortSides_96 : decode cX2_sortSides 96 = .ok (.aload_n 0, 1) := by decide +kernel
theorem dX2_sortSides_97 : decode cX2_sortSides 97 = .ok (.getfield 9, 3) := by decide +kernel
theorem dX2_sortSides_100 : decode cX2_sortSides 100 = .ok (.iconst 0, 1) := by decide +kernel
theorem dX2_sortSides_101 : decode cX2_sortSides 101 = .ok (.aload_n 1, 1) := by decide +kernel
theorem dX2_sortSides_102 : decode cX2_sortSides 102 = .ok (.getfield 58, 3) := by decide +kernel
theorem dX2_sortSides_105 : decode cX2_sortSides 105 = .ok (.iload_n 3, 1) := by decide +kernel
theorem dX2_sortSides_106 : decode cX2_sortSides 106 = .ok (.iload 6, 2) := by decide +kernel
theorem dX2_sortSides_108 : decode cX2_sortSides 108 = .ok (.iadd, 1) := by decide +kernel
theorem dX2_sortSides_109 : decode cX2_sortSides 109 = .ok (.iload 5, 2) := by decide +kernel
theorem dX2_sortSides_111 : decode cX2_sortSides 111 = .ok (.invokestatic 73, 3) := by decide +kernel
theorem dX2_sortSides_114 : decode cX2_sortSides 114 = .ok (.return_, 1) := by decide +kernel
theorem dX2_goes_0 : decode cX2_goes 0 = .ok (.aload_n 1, 1) := by decide +kernel
theorem dX2_goes_1 : decode cX2_goes 1 = .ok (.getfield 79, 3) := by decide +kernel
theorem dX2_goes_4 : decode cX2_goes 4 = .ok (.iload_n 2, 1) := by decide +kernel
theorem dX2_goes_5 : decode cX2_goes 5 = .ok (.baload, 1) := by decide +kernel
theorem dX2_goes_6 : decode cX2_goes 6 = .ok (.ifCond .eq 25, 3) := by decide +kernel
theorem dX2_goes_9 : decode cX2_goes 9 = .ok (.aload_n 1, 1) := by decide +kernel
theorem dX2_goes_10 : decode cX2_goes 10 = .ok (.iload_n 2, 1) := by decide +kernel
theorem dX2_goes_11 : decode cX2_goes 11 = .ok (.invokevirtual 35, 3) := by decide +kernel
theorem dX2_goes_14 : decode cX2_goes 14 = .ok (.ifCond .eq 17, 3) := by decide +kernel
theorem dX2_goes_17 : decode cX2_goes 17 = .ok (.aload_n 1, 1) := by decide +kernel
theorem dX2_goes_18 : decode cX2_goes 18 = .ok (.iload_n 2, 1) := by decide +kernel
theorem dX2_goes_19 : decode cX2_goes 19 = .ok (.aload_n 0, 1) := by decide +kernel
theorem dX2_goes_20 : decode cX2_goes 20 = .ok (.getfield 22, 3) := by decide +kernel
theorem dX2_goes_23 : decode cX2_goes 23 = .ok (.invokevirtual 83, 3) := by decide +kernel
theorem dX2_goes_26 : decode cX2_goes 26 = .ok (.ifCond .eq 5, 3) := by decide +kernel
theorem dX2_goes_29 : decode cX2_goes 29 = .ok (.iconst 1, 1) := by decide +kernel
theorem dX2_goes_30 : decode cX2_goes 30 = .ok (.ireturn, 1) := by decide +kernel
theorem dX2_goes_31 : decode cX2_goes 31 = .ok (.iconst 0, 1) := by decide +kernel
theorem dX2_goes_32 : decode cX2_goes 32 = .ok (.istore_n 3, 1) := by decide +kernel
theorem dX2_goes_33 : decode cX2_goes 33 = .ok (.iload_n 3, 1) := by decide +kernel
theorem dX2_goes_34 : decode cX2_goes 34 = .ok (.iload_n 2, 1) := by decide +kernel
theorem dX2_goes_35 : decode cX2_goes 35 = .ok (.if_icmp .ge 35, 3) := by decide +kernel
theorem dX2_goes_38 : decode cX2_goes 38 = .ok (.aload_n 1, 1) := by decide +kernel
theorem dX2_goes_39 : decode cX2_goes 39 = .ok (.getfield 79, 3) := by decide +kernel
theorem dX2_goes_42 : decode cX2_goes 42 = .ok (.iload_n 3, 1) := by decide +kernel
theorem dX2_goes_43 : decode cX2_goes 43 = .ok (.baload, 1) := by decide +kernel
theorem dX2_goes_44 : decode cX2_goes 44 = .ok (.aload_n 1, 1) := by decide +kernel
theorem dX2_goes_45 : decode cX2_goes 45 = .ok (.getfield 79, 3) := by decide +kernel
theorem dX2_goes_48 : decode cX2_goes 48 = .ok (.iload_n 2, 1) := by decide +kernel
theorem dX2_goes_49 : decode cX2_goes 49 = .ok (.baload, 1) := by decide +kernel
theorem dX2_goes_50 : decode cX2_goes 50 = .ok (.if_icmp .ne 14, 3) := by decide +kernel
theorem dX2_goes_53 : decode cX2_goes 53 = .ok (.aload_n 1, 1) := by decide +kernel
theorem dX2_goes_54 : decode cX2_goes 54 = .ok (.iload_n 3, 1) := by decide +kernel
theorem dX2_goes_55 : decode cX2_goes 55 = .ok (.iload_n 2, 1) := by decide +kernel
theorem dX2_goes_56 : decode cX2_goes 56 = .ok (.invokevirtual 87, 3) := by decide +kernel
theorem dX2_goes_59 : decode cX2_goes 59 = .ok (.ifCond .eq 5, 3) := by decide +kernel
theorem dX2_goes_62 : decode cX2_goes 62 = .ok (.iconst 1, 1) := by decide +kernel
theorem dX2_goes_63 : decode cX2_goes 63 = .ok (.ireturn, 1) := by decide +kernel
theorem dX2_goes_64 : decode cX2_goes 64 = .ok (.iinc 3 1, 3) := by decide +kernel
theorem dX2_goes_67 : decode cX2_goes 67 = .ok (.goto (-34), 3) := by decide +kernel
theorem dX2_goes_70 : decode cX2_goes 70 = .ok (.iconst 0, 1) := by decide +kernel
theorem dX2_goes_71 : decode cX2_goes 71 = .ok (.ireturn, 1) := by decide +kernel
theorem dX2_numberLetters_0 : decode cX2_numberLetters 0 = .ok (.aload_n 0, 1) := by decide +kernel
theorem dX2_numberLetters_1 : decode cX2_numberLetters 1 = .ok (.getfield 15, 3) := by decide +kernel
theorem dX2_numberLetters_4 : decode cX2_numberLetters 4 = .ok (.iconst (-1), 1) := by decide +kernel
theorem dX2_numberLetters_5 : decode cX2_numberLetters 5 = .ok (.invokestatic 91, 3) := by decide +kernel
theorem dX2_numberLetters_8 : decode cX2_numberLetters 8 = .ok (.aload_n 0, 1) := by decide +kernel
theorem dX2_numberLetters_9 : decode cX2_numberLetters 9 = .ok (.iconst 0, 1) := by decide +kernel
theorem dX2_numberLetters_10 : decode cX2_numberLetters 10 = .ok (.putfield 18, 3) := by decide +kernel
theorem dX2_numberLetters_13 : decode cX2_numberLetters 13 = .ok (.aload_n 1, 1) := by decide +kernel
theorem dX2_numberLetters_14 : decode cX2_numberLetters 14 = .ok (.getfield 55, 3) := by decide +kernel
theorem dX2_numberLetters_17 : decode cX2_numberLetters 17 = .ok (.aload_n 1, 1) := by decide +kernel
theorem dX2_numberLetters_18 : decode cX2_numberLetters 18 = .ok (.getfield 30, 3) := by decide +kernel
theorem dX2_numberLetters_21 : decode cX2_numberLetters 21 = .ok (.iaload, 1) := by decide +kernel
theorem dX2_numberLetters_22 : decode cX2_numberLetters 22 = .ok (.istore_n 2, 1) := by decide +kernel
theorem dX2_numberLetters_23 : decode cX2_numberLetters 23 = .ok (.iconst 0, 1) := by decide +kernel
theorem dX2_numberLetters_24 : decode cX2_numberLetters 24 = .ok (.istore_n 3, 1) := by decide +kernel
theorem dX2_numberLetters_25 : decode cX2_numberLetters 25 = .ok (.iload_n 3, 1) := by decide +kernel
theorem dX2_numberLetters_26 : decode cX2_numberLetters 26 = .ok (.iload_n 2, 1) := by decide +kernel
theorem dX2_numberLetters_27 : decode cX2_numberLetters 27 = .ok (.if_icmp .ge 81, 3) := by decide +kernel
theorem dX2_numberLetters_30 : decode cX2_numberLetters 30 = .ok (.iconst (-1), 1) := by decide +kernel
theorem dX2_numberLetters_31 : decode cX2_numberLetters 31 = .ok (.aload_n 1, 1) := by decide +kernel
theorem dX2_numberLetters_32 : decode cX2_numberLetters 32 = .ok (.getfield 58, 3) := by decide +kernel
theorem dX2_numberLetters_35 : decode cX2_numberLetters 35 = .ok (.iload_n 3, 1) := by decide +kernel
theorem dX2_numberLetters_36 : decode cX2_numberLetters 36 = .ok (.iaload, 1) := by decide +kernel
theorem dX2_numberLetters_37 : decode cX2_numberLetters 37 = .ok (.isub, 1) := by decide +kernel
theorem dX2_numberLetters_38 : decode cX2_numberLetters 38 = .ok (.istore 4, 2) := by decide +kernel
theorem dX2_numberLetters_40 : decode cX2_numberLetters 40 = .ok (.iload 4, 2) := by decide +kernel
theorem dX2_numberLetters_42 : decode cX2_numberLetters 42 = .ok (.ifCond .lt 60, 3) := by decide +kernel
theorem dX2_numberLetters_45 : decode cX2_numberLetters 45 = .ok (.iload 4, 2) := by decide +kernel
theorem dX2_numberLetters_47 : decode cX2_numberLetters 47 = .ok (.aload_n 0, 1) := by decide +kernel
theorem dX2_numberLetters_48 : decode cX2_numberLetters 48 = .ok (.getfield 15, 3) := by decide +kernel
theorem dX2_numberLetters_51 : decode cX2_numberLetters 51 = .ok (.arraylength, 1) := by decide +kernel
theorem dX2_numberLetters_52 : decode cX2_numberLetters 52 = .ok (.if_icmp .ge 50, 3) := by decide +kernel
theorem dX2_numberLetters_55 : decode cX2_numberLetters 55 = .ok (.aload_n 0, 1) := by decide +kernel
theorem dX2_numberLetters_56 : decode cX2_numberLetters 56 = .ok (.getfield 15, 3) := by decide +kernel
theorem dX2_numberLetters_59 : decode cX2_numberLetters 59 = .ok (.iload 4, 2) := by decide +kernel
theorem dX2_numberLetters_61 : decode cX2_numberLetters 61 = .ok (.iaload, 1) := by decide +kernel
theorem dX2_numberLetters_62 : decode cX2_numberLetters 62 = .ok (.iconst (-1), 1) := by decide +kernel
theorem dX2_numberLetters_63 : decode cX2_numberLetters 63 = .ok (.if_icmp .ne 24, 3) := by decide +kernel
theorem dX2_numberLetters_66 : decode cX2_numberLetters 66 = .ok (.aload_n 0, 1) := by decide +kernel
theorem dX2_numberLetters_67 : decode cX2_numberLetters 67 = .ok (.getfield 15, 3) := by decide +kernel
theorem dX2_numberLetters_70 : decode cX2_numberLetters 70 = .ok (.iload 4, 2) := by decide +kernel
theorem dX2_numberLetters_72 : decode cX2_numberLetters 72 = .ok (.aload_n 0, 1) := by decide +kernel
theorem dX2_numberLetters_73 : decode cX2_numberLetters 73 = .ok (.getfield 18, 3) := by decide +kernel
theorem dX2_numberLetters_76 : decode cX2_numberLetters 76 = .ok (.iastore, 1) := by decide +kernel
theorem dX2_numberLetters_77 : decode cX2_numberLetters 77 = .ok (.aload_n 0, 1) := by decide +kernel
theorem dX2_numberLetters_78 : decode cX2_numberLetters 78 = .ok (.dup, 1) := by decide +kernel
theorem dX2_numberLetters_79 : decode cX2_numberLetters 79 = .ok (.getfield 18, 3) := by decide +kernel
theorem dX2_numberLetters_82 : decode cX2_numberLetters 82 = .ok (.iconst 1, 1) := by decide +kernel
theorem dX2_numberLetters_83 : decode cX2_numberLetters 83 = .ok (.iadd, 1) := by decide +kernel
theorem dX2_numberLetters_84 : decode cX2_numberLetters 84 = .ok (.putfield 18, 3) := by decide +kernel
theorem dX2_numberLetters_87 : decode cX2_numberLetters 87 = .ok (.aload_n 1, 1) := by decide +kernel
theorem dX2_numberLetters_88 : decode cX2_numberLetters 88 = .ok (.getfield 58, 3) := by decide +kernel
theorem dX2_numberLetters_91 : decode cX2_numberLetters 91 = .ok (.iload_n 3, 1) := by decide +kernel
theorem dX2_numberLetters_92 : decode cX2_numberLetters 92 = .ok (.iconst (-1), 1) := by decide +kernel
theorem dX2_numberLetters_93 : decode cX2_numberLetters 93 = .ok (.aload_n 0, 1) := by decide +kernel
theorem dX2_numberLetters_94 : decode cX2_numberLetters 94 = .ok (.getfield 15, 3) := by decide +kernel
theorem dX2_numberLetters_97 : decode cX2_numberLetters 97 = .ok (.iload 4, 2) := by decide +kernel
theorem dX2_numberLetters_99 : decode cX2_numberLetters 99 = .ok (.iaload, 1) := by decide +kernel
theorem dX2_numberLetters_100 : decode cX2_numberLetters 100 = .ok (.isub, 1) := by decide +kernel
theorem dX2_numberLetters_101 : decode cX2_numberLetters 101 = .ok (.iastore, 1) := by decide +kernel
theorem dX2_numberLetters_102 : decode cX2_numberLetters 102 = .ok (.iinc 3 1, 3) := by decide +kernel
theorem dX2_numberLetters_105 : decode cX2_numberLetters 105 = .ok (.goto (-80), 3) := by decide +kernel
theorem dX2_numberLetters_108 : decode cX2_numberLetters 108 = .ok (.return_, 1) := by decide +kernel
theorem dX3_init_0 : decode cX3_init 0 = .ok (.aload_n 0, 1) := by decide +kernel
theorem dX3_init_1 : decode cX3_init 1 = .ok (.invokespecial 3, 3) := by decide +kernel
theorem dX3_init_4 : decode cX3_init 4 = .ok (.aload_n 0, 1) := by decide +kernel
theorem dX3_init_5 : decode cX3_init 5 = .ok (.aload_n 1, 1) := by decide +kernel
theorem dX3_init_6 : decode cX3_init 6 = .ok (.putfield 9, 3) := by decide +kernel
theorem dX3_init_9 : decode cX3_init 9 = .ok (.aload_n 0, 1) := by decide +kernel
theorem dX3_init_10 : decode cX3_init 10 = .ok (.aload_n 2, 1) := by decide +kernel
theorem dX3_init_11 : decode cX3_init 11 = .ok (.putfield 15, 3) := by decide +kernel
theorem dX3_init_14 : decode cX3_init 14 = .ok (.aload_n 0, 1) := by decide +kernel
theorem dX3_init_15 : decode cX3_init 15 = .ok (.aload_n 3, 1) := by decide +kernel
theorem dX3_init_16 : decode cX3_init 16 = .ok (.putfield 19, 3) := by decide +kernel
theorem dX3_init_19 : decode cX3_init 19 = .ok (.aload_n 0, 1) := by decide +kernel
theorem dX3_init_20 : decode cX3_init 20 = .ok (.aload 4, 2) := by decide +kernel
theorem dX3_init_22 : decode cX3_init 22 = .ok (.putfield 23, 3) := by decide +kernel
theorem dX3_init_25 : decode cX3_init 25 = .ok (.return_, 1) := by decide +kernel
theorem dX3_make_0 : decode cX3_make 0 = .ok (.aload_n 1, 1) := by decide +kernel
theorem dX3_make_1 : decode cX3_make 1 = .ok (.iconst 0, 1) := by decide +kernel
theorem dX3_make_2 : decode cX3_make 2 = .ok (.iaload, 1) := by decide +kernel
theorem dX3_make_3 : decode cX3_make 3 = .ok (.istore 4, 2) := by decide +kernel
theorem dX3_make_5 : decode cX3_make 5 = .ok (.iload 4, 2) := by decide +kernel
theorem dX3_make_7 : decode cX3_make 7 = .ok (.iconst 1, 1) := by decide +kernel
theorem dX3_make_8 : decode cX3_make 8 = .ok (.if_icmp .lt 9, 3) := by decide +kernel
theorem dX3_make_11 : decode cX3_make 11 = .ok (.iload 4, 2) := by decide +kernel
theorem dX3_make_13 : decode cX3_make 13 = .ok (.iconst 4, 1) := by decide +kernel
theorem dX3_make_14 : decode cX3_make 14 = .ok (.if_icmp .le 5, 3) := by decide +kernel
theorem dX3_make_17 : decode cX3_make 17 = .ok (.iconst 0, 1) := by decide +kernel
theorem dX3_make_18 : decode cX3_make 18 = .ok (.ireturn, 1) := by decide +kernel
theorem dX3_make_19 : decode cX3_make 19 = .ok (.aload_n 1, 1) := by decide +kernel
theorem dX3_make_20 : decode cX3_make 20 = .ok (.getstatic 27, 3) := by decide +kernel
theorem dX3_make_23 : decode cX3_make 23 = .ok (.iload 4, 2) := by decide +kernel
theorem dX3_make_25 : decode cX3_make 25 = .ok (.iaload, 1) := by decide +kernel
theorem dX3_make_26 : decode cX3_make 26 = .ok (.iaload, 1) := by decide +kernel
theorem dX3_make_27 : decode cX3_make 27 = .ok (.istore 5, 2) := by decide +kernel
theorem dX3_make_29 : decode cX3_make 29 = .ok (.getstatic 31, 3) := by decide +kernel
theorem dX3_make_32 : decode cX3_make 32 = .ok (.iload 4, 2) := by decide +kernel
theorem dX3_make_34 : decode cX3_make 34 = .ok (.iaload, 1) := by decide +kernel
theorem dX3_make_35 : decode cX3_make 35 = .ok (.ifCond .le 14, 3) := by decide +kernel
theorem dX3_make_38 : decode cX3_make 38 = .ok (.aload_n 1, 1) := by decide +kernel
theorem dX3_make_39 : decode cX3_make 39 = .ok (.getstatic 31, 3) := by decide +kernel
theorem dX3_make_42 : decode cX3_make 42 = .ok (.iload 4, 2) := by decide +kernel
theorem dX3_make_44 : decode cX3_make 44 = .ok (.iaload, 1) := by decide +kernel
theorem dX3_make_45 : decode cX3_make 45 = .ok (.iaload, 1) := by decide +kernel
theorem dX3_make_46 : decode cX3_make 46 = .ok (.goto 5, 3) := by decide +kernel
theorem dX3_make_49 : decode cX3_make 49 = .ok (.iload 5, 2) := by decide +kernel
theorem dX3_make_51 : decode cX3_make 51 = .ok (.istore 6, 2) := by decide +kernel
theorem dX3_make_53 : decode cX3_make 53 = .ok (.iload 5, 2) := by decide +kernel
theorem dX3_make_55 : decode cX3_make 55 = .ok (.iload_n 2, 1) := by decide +kernel
theorem dX3_make_56 : decode cX3_make 56 = .ok (.if_icmp .ge 15, 3) := by decide +kernel
theorem dX3_make_59 : decode cX3_make 59 = .ok (.aload_n 0, 1) := by decide +kernel
theorem dX3_make_60 : decode cX3_make 60 = .ok (.getfield 23, 3) := by decide +kernel
theorem dX3_make_63 : decode cX3_make 63 = .ok (.iload 5, 2) := by decide +kernel
theorem dX3_make_65 : decode cX3_make 65 = .ok (.invokevirtual 34, 3) := by decide +kernel
theorem dX3_make_68 : decode cX3_make 68 = .ok (.goto 4, 3) := by decide +kernel
theorem dX3_make_71 : decode cX3_make 71 = .ok (.aconst_null, 1) := by decide +kernel
theorem dX3_make_72 : decode cX3_make 72 = .ok (.astore 7, 2) := by decide +kernel
theorem dX3_make_74 : decode cX3_make 74 = .ok (.iload 6, 2) := by decide +kernel
theorem dX3_make_76 : decode cX3_make 76 = .ok (.iload_n 2, 1) := by decide +kernel
theorem dX3_make_77 : decode cX3_make 77 = .ok (.if_icmp .ge 15, 3) := by decide +kernel
theorem dX3_make_80 : decode cX3_make 80 = .ok (.aload_n 0, 1) := by decide +kernel
theorem dX3_make_81 : decode cX3_make 81 = .ok (.getfield 23, 3) := by decide +kernel
theorem dX3_make_84 : decode cX3_make 84 = .ok (.iload 6, 2) := by decide +kernel
theorem dX3_make_86 : decode cX3_make 86 = .ok (.invokevirtual 34, 3) := by decide +kernel
theorem dX3_make_89 : decode cX3_make 89 = .ok (.goto 4, 3) := by decide +kernel
theorem dX3_make_92 : decode cX3_make 92 = .ok (.aconst_null, 1) := by decide +kernel
theorem dX3_make_93 : decode cX3_make 93 = .ok (.astore 8, 2) := by decide +kernel
theorem dX3_make_95 : decode cX3_make 95 = .ok (.aload 7, 2) := by decide +kernel
theorem dX3_make_97 : decode cX3_make 97 = .ok (.ifnull 8, 3) := by decide +kernel
theorem dX3_make_100 : decode cX3_make 100 = .ok (.aload 8, 2) := by decide +kernel
theorem dX3_make_102 : decode cX3_make 102 = .ok (.ifnonnull 5, 3) := by decide +kernel
theorem dX3_make_105 : decode cX3_make 105 = .ok (.iconst 0, 1) := by decide +kernel
theorem dX3_make_106 : decode cX3_make 106 = .ok (.ireturn, 1) := by decide +kernel
theorem dX3_make_107 : decode cX3_make 107 = .ok (.aload_n 3, 1) := by decide +kernel
theorem dX3_make_108 : decode cX3_make 108 = .ok (.invokevirtual 40, 3) := by decide +kernel
theorem dX3_make_111 : decode cX3_make 111 = .ok (.iload 4, 2) := by decide +kernel
theorem dX3_make_113 : decode cX3_make 113 = .ok (.tableswitch 62 1 3 #[27, 40, 54], 27) := by decide +kernel
theorem dX3_make_140 : decode cX3_make 140 = .ok (.aload_n 0, 1) := by decide +kernel
theorem dX3_make_141 : decode cX3_make 141 = .ok (.aload 7, 2) := by decide +kernel
theorem dX3_make_143 : decode cX3_make 143 = .ok (.aload_n 1, 1) := by decide +kernel
theorem dX3_make_144 : decode cX3_make 144 = .ok (.iconst 2, 1) := by decide +kernel
theorem dX3_make_145 : decode cX3_make 145 = .ok (.iaload, 1) := by decide +kernel
theorem dX3_make_146 : decode cX3_make 146 = .ok (.aload 8, 2) := by decide +kernel
theorem dX3_make_148 : decode cX3_make 148 = .ok (.aload_n 3, 1) := by decide +kernel
theorem dX3_make_149 : decode cX3_make 149 = .ok (.invokevirtual 45, 3) := by decide +kernel
theorem dX3_make_152 : decode cX3_make 152 = .ok (.ireturn, 1) := by decide +kernel
theorem dX3_make_153 : decode cX3_make 153 = .ok (.aload_n 0, 1) := by decide +kernel
theorem dX3_make_154 : decode cX3_make 154 = .ok (.aload 7, 2) := by decide +kernel
theorem dX3_make_156 : decode cX3_make 156 = .ok (.aload_n 1, 1) := by decide +kernel
theorem dX3_make_157 : decode cX3_make 157 = .ok (.iconst 2, 1) := by decide +kernel
theorem dX3_make_158 : decode cX3_make 158 = .ok (.iaload, 1) := by decide +kernel
theorem dX3_make_159 : decode cX3_make 159 = .ok (.aload_n 1, 1) := by decide +kernel
theorem dX3_make_160 : decode cX3_make 160 = .ok (.iconst 3, 1) := by decide +kernel
theorem dX3_make_161 : decode cX3_make 161 = .ok (.iaload, 1) := by decide +kernel
theorem dX3_make_162 : decode cX3_make 162 = .ok (.aload_n 3, 1) := by decide +kernel
theorem dX3_make_163 : decode cX3_make 163 = .ok (.invokevirtual 49, 3) := by decide +kernel
theorem dX3_make_166 : decode cX3_make 166 = .ok (.ireturn, 1) := by decide +kernel
theorem dX3_make_167 : decode cX3_make 167 = .ok (.aload_n 0, 1) := by decide +kernel
theorem dX3_make_168 : decode cX3_make 168 = .ok (.aload 7, 2) := by decide +kernel
theorem dX3_make_170 : decode cX3_make 170 = .ok (.aload_n 3, 1) := by decide +kernel
theorem dX3_make_171 : decode cX3_make 171 = .ok (.invokevirtual 53, 3) := by decide +kernel
theorem dX3_make_174 : decode cX3_make 174 = .ok (.ireturn, 1) := by decide +kernel
theorem dX3_make_175 : decode cX3_make 175 = .ok (.aload_n 0, 1) := by decide +kernel
theorem dX3_make_176 : decode cX3_make 176 = .ok (.aload 7, 2) := by decide +kernel
theorem dX3_make_178 : decode cX3_make 178 = .ok (.aload 8, 2) := by decide +kernel
theorem dX3_make_180 : decode cX3_make 180 = .ok (.aload_n 1, 1) := by decide +kernel
theorem dX3_make_181 : decode cX3_make 181 = .ok (.aload_n 3, 1) := by decide +kernel
theorem dX3_make_182 : decode cX3_make 182 = .ok (.invokevirtual 57, 3) := by decide +kernel
theorem dX3_make_185 : decode cX3_make 185 = .ok (.ireturn, 1) := by decide +kernel
theorem dX3_makeClash_0 : decode cX3_makeClash 0 = .ok (.aload_n 1, 1) := by decide +kernel
theorem dX3_makeClash_1 : decode cX3_makeClash 1 = .ok (.invokevirtual 61, 3) := by decide +kernel
theorem dX3_makeClash_4 : decode cX3_makeClash 4 = .ok (.ifCond .eq 28, 3) := by decide +kernel
theorem dX3_makeClash_7 : decode cX3_makeClash 7 = .ok (.aload_n 1, 1) := by decide +kernel
theorem dX3_makeClash_8 : decode cX3_makeClash 8 = .ok (.getfield 67, 3) := by decide +kernel
theorem dX3_makeClash_11 : decode cX3_makeClash 11 = .ok (.iload_n 2, 1) := by decide +kernel
theorem dX3_makeClash_12 : decode cX3_makeClash 12 = .ok (.invokevirtual 71, 3) := by decide +kernel
theorem dX3_makeClash_15 : decode cX3_makeClash 15 = .ok (.ifCond .eq 17, 3) := by decide +kernel
theorem dX3_makeClash_18 : decode cX3_makeClash 18 = .ok (.aload_n 3, 1) := by decide +kernel
theorem dX3_makeClash_19 : decode cX3_makeClash 19 = .ok (.getfield 67, 3) := by decide +kernel
theorem dX3_makeClash_22 : decode cX3_makeClash 22 = .ok (.aload_n 3, 1) := by decide +kernel
theorem dX3_makeClash_23 : decode cX3_makeClash 23 = .ok (.getfield 75, 3) := by decide +kernel
theorem dX3_makeClash_26 : decode cX3_makeClash 26 = .ok (.invokevirtual 71, 3) := by decide +kernel
theorem dX3_makeClash_29 : decode cX3_makeClash 29 = .ok (.ifCond .ne 5, 3) := by decide +kernel
theorem dX3_makeClash_32 : decode cX3_makeClash 32 = .ok (.iconst 0, 1) := by decide +kernel
theorem dX3_makeClash_33 : decode cX3_makeClash 33 = .ok (.ireturn, 1) := by decide +kernel
theorem dX3_makeClash_34 : decode cX3_makeClash 34 = .ok (.aload_n 1, 1) := by decide +kernel
theorem dX3_makeClash_35 : decode cX3_makeClash 35 = .ok (.getfield 67, 3) := by decide +kernel
theorem dX3_makeClash_38 : decode cX3_makeClash 38 = .ok (.getfield 79, 3) := by decide +kernel
theorem dX3_makeClash_41 : decode cX3_makeClash 41 = .ok (.iload_n 2, 1) := by decide +kernel
theorem dX3_makeClash_42 : decode cX3_makeClash 42 = .ok (.iaload, 1) := by decide +kernel
theorem dX3_makeClash_43 : decode cX3_makeClash 43 = .ok (.istore 5, 2) := by decide +kernel
theorem dX3_makeClash_45 : decode cX3_makeClash 45 = .ok (.aload_n 3, 1) := by decide +kernel
theorem dX3_makeClash_46 : decode cX3_makeClash 46 = .ok (.getfield 67, 3) := by decide +kernel
theorem dX3_makeClash_49 : decode cX3_makeClash 49 = .ok (.getfield 79, 3) := by decide +kernel
theorem dX3_makeClash_52 : decode cX3_makeClash 52 = .ok (.aload_n 3, 1) := by decide +kernel
theorem dX3_makeClash_53 : decode cX3_makeClash 53 = .ok (.getfield 75, 3) := by decide +kernel
theorem dX3_makeClash_56 : decode cX3_makeClash 56 = .ok (.iaload, 1) := by decide +kernel
theorem dX3_makeClash_57 : decode cX3_makeClash 57 = .ok (.istore 6, 2) := by decide +kernel
theorem dX3_makeClash_59 : decode cX3_makeClash 59 = .ok (.aload_n 1, 1) := by decide +kernel
theorem dX3_makeClash_60 : decode cX3_makeClash 60 = .ok (.getfield 67, 3) := by decide +kernel
theorem dX3_makeClash_63 : decode cX3_makeClash 63 = .ok (.getfield 82, 3) := by decide +kernel
theorem dX3_makeClash_66 : decode cX3_makeClash 66 = .ok (.iload 5, 2) := by decide +kernel
theorem dX3_makeClash_68 : decode cX3_makeClash 68 = .ok (.iaload, 1) := by decide +kernel
theorem dX3_makeClash_69 : decode cX3_makeClash 69 = .ok (.aload_n 3, 1) := by decide +kernel
theorem dX3_makeClash_70 : decode cX3_makeClash 70 = .ok (.getfield 67, 3) := by decide +kernel
theorem dX3_makeClash_73 : decode cX3_makeClash 73 = .ok (.getfield 82, 3) := by decide +kernel
theorem dX3_makeClash_76 : decode cX3_makeClash 76 = .ok (.iload 6, 2) := by decide +kernel
theorem dX3_makeClash_78 : decode cX3_makeClash 78 = .ok (.iaload, 1) := by decide +kernel
theorem dX3_makeClash_79 : decode cX3_makeClash 79 = .ok (.if_icmp .eq 5, 3) := by decide +kernel
theorem dX3_makeClash_82 : decode cX3_makeClash 82 = .ok (.iconst 0, 1) := by decide +kernel
theorem dX3_makeClash_83 : decode cX3_makeClash 83 = .ok (.ireturn, 1) := by decide +kernel
theorem dX3_makeClash_84 : decode cX3_makeClash 84 = .ok (.aload_n 0, 1) := by decide +kernel
theorem dX3_makeClash_85 : decode cX3_makeClash 85 = .ok (.getfield 19, 3) := by decide +kernel
theorem dX3_makeClash_88 : decode cX3_makeClash 88 = .ok (.aload_n 1, 1) := by decide +kernel
theorem dX3_makeClash_89 : decode cX3_makeClash 89 = .ok (.getfield 67, 3) := by decide +kernel
theorem dX3_makeClash_92 : decode cX3_makeClash 92 = .ok (.invokevirtual 85, 3) := by decide +kernel
theorem dX3_makeClash_95 : decode cX3_makeClash 95 = .ok (.aload_n 0, 1) := by decide +kernel
theorem dX3_makeClash_96 : decode cX3_makeClash 96 = .ok (.getfield 19, 3) := by decide +kernel
theorem dX3_makeClash_99 : decode cX3_makeClash 99 = .ok (.aload_n 3, 1) := by decide +kernel
theorem dX3_makeClash_100 : decode cX3_makeClash 100 = .ok (.getfield 67, 3) := by decide +kernel
theorem dX3_makeClash_103 : decode cX3_makeClash 103 = .ok (.invokevirtual 91, 3) := by decide +kernel
theorem dX3_makeClash_106 : decode cX3_makeClash 106 = .ok (.aload_n 0, 1) := by decide +kernel
theorem dX3_makeClash_107 : decode cX3_makeClash 107 = .ok (.getfield 19, 3) := by decide +kernel
theorem dX3_makeClash_110 : decode cX3_makeClash 110 = .ok (.iload 5, 2) := by decide +kernel
theorem dX3_makeClash_112 : decode cX3_makeClash 112 = .ok (.sipush 180, 3) := by decide +kernel
theorem dX3_makeClash_115 : decode cX3_makeClash 115 = .ok (.iload 6, 2) := by decide +kernel
theorem dX3_makeClash_117 : decode cX3_makeClash 117 = .ok (.iadd, 1) := by decide +kernel
theorem dX3_makeClash_118 : decode cX3_makeClash 118 = .ok (.invokevirtual 94, 3) := by decide +kernel
theorem dX3_makeClash_121 : decode cX3_makeClash 121 = .ok (.ifCond .ne 5, 3) := by decide +kernel
theorem dX3_makeClash_124 : decode cX3_makeClash 124 = .ok (.iconst 0, 1) := by decide +kernel
theorem dX3_makeClash_125 : decode cX3_makeClash 125 = .ok (.ireturn, 1) := by decide +kernel
theorem dX3_makeClash_126 : decode cX3_makeClash 126 = .ok (.aload_n 0, 1) := by decide +kernel
theorem dX3_makeClash_127 : decode cX3_makeClash 127 = .ok (.aload_n 1, 1) := by decide +kernel
theorem dX3_makeClash_128 : decode cX3_makeClash 128 = .ok (.getfield 67, 3) := by decide +kernel
theorem dX3_makeClash_131 : decode cX3_makeClash 131 = .ok (.iload_n 2, 1) := by decide +kernel
theorem dX3_makeClash_132 : decode cX3_makeClash 132 = .ok (.iconst 0, 1) := by decide +kernel
theorem dX3_makeClash_133 : decode cX3_makeClash 133 = .ok (.aload 4, 2) := by decide +kernel
theorem dX3_makeClash_135 : decode cX3_makeClash 135 = .ok (.invokevirtual 98, 3) := by decide +kernel
theorem dX3_makeClash_138 : decode cX3_makeClash 138 = .ok (.ifCond .eq 27, 3) := by decide +kernel
theorem dX3_makeClash_141 : decode cX3_makeClash 141 = .ok (.aload_n 0, 1) := by decide +kernel
theorem dX3_makeClash_142 : decode cX3_makeClash 142 = .ok (.aload_n 3, 1) := by decide +kernel
theorem dX3_makeClash_143 : decode cX3_makeClash 143 = .ok (.getfield 67, 3) := by decide +kernel
theorem dX3_makeClash_146 : decode cX3_makeClash 146 = .ok (.aload_n 3, 1) := by decide +kernel
theorem dX3_makeClash_147 : decode cX3_makeClash 147 = .ok (.getfield 75, 3) := by decide +kernel
theorem dX3_makeClash_150 : decode cX3_makeClash 150 = .ok (.sipush 180, 3) := by decide +kernel
theorem dX3_makeClash_153 : decode cX3_makeClash 153 = .ok (.aload 4, 2) := by decide +kernel
theorem dX3_makeClash_155 : decode cX3_makeClash 155 = .ok (.invokevirtual 98, 3) := by decide +kernel
theorem dX3_makeClash_158 : decode cX3_makeClash 158 = .ok (.ifCond .eq 7, 3) := by decide +kernel
theorem dX3_makeClash_161 : decode cX3_makeClash 161 = .ok (.iconst 2, 1) := by decide +kernel
theorem dX3_makeClash_162 : decode cX3_makeClash 162 = .ok (.goto 4, 3) := by decide +kernel
theorem dX3_makeClash_165 : decode cX3_makeClash 165 = .ok (.iconst 1, 1) := by decide +kernel
theorem dX3_makeClash_166 : decode cX3_makeClash 166 = .ok (.ireturn, 1) := by decide +kernel
theorem dX3_makeFactor_0 : decode cX3_makeFactor 0 = .ok (.aload_n 1, 1) := by decide +kernel
theorem dX3_makeFactor_1 : decode cX3_makeFactor 1 = .ok (.invokevirtual 61, 3) := by decide +kernel
theorem dX3_makeFactor_4 : decode cX3_makeFactor 4 = .ok (.ifCond .eq 30, 3) := by decide +kernel
theorem dX3_makeFactor_7 : decode cX3_makeFactor 7 = .ok (.aload_n 1, 1) := by decide +kernel
theorem dX3_makeFactor_8 : decode cX3_makeFactor 8 = .ok (.getfield 67, 3) := by decide +kernel
theorem dX3_makeFactor_11 : decode cX3_makeFactor 11 = .ok (.iload_n 2, 1) := by decide +kernel
theorem dX3_makeFactor_12 : decode cX3_makeFactor 12 = .ok (.invokevirtual 71, 3) := by decide +kernel
theorem dX3_makeFactor_15 : decode cX3_makeFactor 15 = .ok (.ifCond .eq 19, 3) := by decide +kernel
theorem dX3_makeFactor_18 : decode cX3_makeFactor 18 = .ok (.aload_n 1, 1) := by decide +kernel
theorem dX3_makeFactor_19 : decode cX3_makeFactor 19 = .ok (.getfield 67, 3) := by decide +kernel
theorem dX3_makeFactor_22 : decode cX3_makeFactor 22 = .ok (.iload_n 3, 1) := by decide +kernel
theorem dX3_makeFactor_23 : decode cX3_makeFactor 23 = .ok (.invokevirtual 71, 3) := by decide +kernel
theorem dX3_makeFactor_26 : decode cX3_makeFactor 26 = .ok (.ifCond .eq 8, 3) := by decide +kernel
theorem dX3_makeFactor_29 : decode cX3_makeFactor 29 = .ok (.iload_n 2, 1) := by decide +kernel
theorem dX3_makeFactor_30 : decode cX3_makeFactor 30 = .ok (.iload_n 3, 1) := by decide +kernel
theorem dX3_makeFactor_31 : decode cX3_makeFactor 31 = .ok (.if_icmp .lt 5, 3) := by decide +kernel
theorem dX3_makeFactor_34 : decode cX3_makeFactor 34 = .ok (.iconst 0, 1) := by decide +kernel
theorem dX3_makeFactor_35 : decode cX3_makeFactor 35 = .ok (.ireturn, 1) := by decide +kernel
theorem dX3_makeFactor_36 : decode cX3_makeFactor 36 = .ok (.aload_n 0, 1) := by decide +kernel
theorem dX3_makeFactor_37 : decode cX3_makeFactor 37 = .ok (.getfield 19, 3) := by decide +kernel
theorem dX3_makeFactor_40 : decode cX3_makeFactor 40 = .ok (.aload_n 1, 1) := by decide +kernel
theorem dX3_makeFactor_41 : decode cX3_makeFactor 41 = .ok (.getfield 67, 3) := by decide +kernel
theorem dX3_makeFactor_44 : decode cX3_makeFactor 44 = .ok (.invokevirtual 85, 3) := by decide +kernel
theorem dX3_makeFactor_47 : decode cX3_makeFactor 47 = .ok (.aload_n 0, 1) := by decide +kernel
theorem dX3_makeFactor_48 : decode cX3_makeFactor 48 = .ok (.getfield 19, 3) := by decide +kernel
theorem dX3_makeFactor_51 : decode cX3_makeFactor 51 = .ok (.aload_n 1, 1) := by decide +kernel
theorem dX3_makeFactor_52 : decode cX3_makeFactor 52 = .ok (.getfield 67, 3) := by decide +kernel
theorem dX3_makeFactor_55 : decode cX3_makeFactor 55 = .ok (.getfield 79, 3) := by decide +kernel
theorem dX3_makeFactor_58 : decode cX3_makeFactor 58 = .ok (.iload_n 2, 1) := by decide +kernel
theorem dX3_makeFactor_59 : decode cX3_makeFactor 59 = .ok (.iaload, 1) := by decide +kernel
theorem dX3_makeFactor_60 : decode cX3_makeFactor 60 = .ok (.aload_n 1, 1) := by decide +kernel
theorem dX3_makeFactor_61 : decode cX3_makeFactor 61 = .ok (.getfield 67, 3) := by decide +kernel
theorem dX3_makeFactor_64 : decode cX3_makeFactor 64 = .ok (.getfield 79, 3) := by decide +kernel
theorem dX3_makeFactor_67 : decode cX3_makeFactor 67 = .ok (.iload_n 3, 1) := by decide +kernel
theorem dX3_makeFactor_68 : decode cX3_makeFactor 68 = .ok (.iaload, 1) := by decide +kernel
theorem dX3_makeFactor_69 : decode cX3_makeFactor 69 = .ok (.invokevirtual 94, 3) := by decide +kernel
theorem dX3_makeFactor_72 : decode cX3_makeFactor 72 = .ok (.ifCond .ne 5, 3) := by decide +kernel
theorem dX3_makeFactor_75 : decode cX3_makeFactor 75 = .ok (.iconst 0, 1) := by decide +kernel
theorem dX3_makeFactor_76 : decode cX3_makeFactor 76 = .ok (.ireturn, 1) := by decide +kernel
theorem dX3_makeFactor_77 : decode cX3_makeFactor 77 = .ok (.aload_n 0, 1) := by decide +kernel
theorem dX3_makeFactor_78 : decode cX3_makeFactor 78 = .ok (.aload_n 1, 1) := by decide +kernel
theorem dX3_makeFactor_79 : decode cX3_makeFactor 79 = .ok (.getfield 67, 3) := by decide +kernel
theorem dX3_makeFactor_82 : decode cX3_makeFactor 82 = .ok (.iload_n 3, 1) := by decide +kernel
theorem dX3_makeFactor_83 : decode cX3_makeFactor 83 = .ok (.iconst 0, 1) := by decide +kernel
theorem dX3_makeFactor_84 : decode cX3_makeFactor 84 = .ok (.aload 4, 2) := by decide +kernel
theorem dX3_makeFactor_86 : decode cX3_makeFactor 86 = .ok (.invokevirtual 98, 3) := by decide +kernel
theorem dX3_makeFactor_89 : decode cX3_makeFactor 89 = .ok (.ifCond .eq 7, 3) := by decide +kernel
theorem dX3_makeFactor_92 : decode cX3_makeFactor 92 = .ok (.iconst 2, 1) := by decide +kernel
theorem dX3_makeFactor_93 : decode cX3_makeFactor 93 = .ok (.goto 4, 3) := by decide +kernel
theorem dX3_makeFactor_96 : decode cX3_makeFactor 96 = .ok (.iconst 1, 1) := by decide +kernel
theorem dX3_makeFactor_97 : decode cX3_makeFactor 97 = .ok (.ireturn, 1) := by decide +kernel
theorem dX3_makeDrop_0 : decode cX3_makeDrop 0 = .ok (.aload_n 1, 1) := by decide +kernel
theorem dX3_makeDrop_1 : decode cX3_makeDrop 1 = .ok (.getfield 67, 3) := by decide +kernel
theorem dX3_makeDrop_4 : decode cX3_makeDrop 4 = .ok (.aload_n 1, 1) := by decide +kernel
theorem dX3_makeDrop_5 : decode cX3_makeDrop 5 = .ok (.getfield 75, 3) := by decide +kernel
theorem dX3_makeDrop_8 : decode cX3_makeDrop 8 = .ok (.invokevirtual 102, 3) := by decide +kernel
theorem dX3_makeDrop_11 : decode cX3_makeDrop 11 = .ok (.ifCond .ne 5, 3) := by decide +kernel
theorem dX3_makeDrop_14 : decode cX3_makeDrop 14 = .ok (.iconst 0, 1) := by decide +kernel
theorem dX3_makeDrop_15 : decode cX3_makeDrop 15 = .ok (.ireturn, 1) := by decide +kernel
theorem dX3_makeDrop_16 : decode cX3_makeDrop 16 = .ok (.aload_n 1, 1) := by decide +kernel
theorem dX3_makeDrop_17 : decode cX3_makeDrop 17 = .ok (.getfield 67, 3) := by decide +kernel
theorem dX3_makeDrop_20 : decode cX3_makeDrop 20 = .ok (.getfield 79, 3) := by decide +kernel
theorem dX3_makeDrop_23 : decode cX3_makeDrop 23 = .ok (.aload_n 1, 1) := by decide +kernel
theorem dX3_makeDrop_24 : decode cX3_makeDrop 24 = .ok (.getfield 75, 3) := by decide +kernel
theorem dX3_makeDrop_27 : decode cX3_makeDrop 27 = .ok (.iaload, 1) := by decide +kernel
theorem dX3_makeDrop_28 : decode cX3_makeDrop 28 = .ok (.iconst 1, 1) := by decide +kernel
theorem dX3_makeDrop_29 : decode cX3_makeDrop 29 = .ok (.iadd, 1) := by decide +kernel
theorem dX3_makeDrop_30 : decode cX3_makeDrop 30 = .ok (.istore_n 3, 1) := by decide +kernel
theorem dX3_makeDrop_31 : decode cX3_makeDrop 31 = .ok (.aload_n 0, 1) := by decide +kernel
theorem dX3_makeDrop_32 : decode cX3_makeDrop 32 = .ok (.getfield 19, 3) := by decide +kernel
theorem dX3_makeDrop_35 : decode cX3_makeDrop 35 = .ok (.aload_n 1, 1) := by decide +kernel
theorem dX3_makeDrop_36 : decode cX3_makeDrop 36 = .ok (.getfield 67, 3) := by decide +kernel
theorem dX3_makeDrop_39 : decode cX3_makeDrop 39 = .ok (.invokevirtual 85, 3) := by decide +kernel
theorem dX3_makeDrop_42 : decode cX3_makeDrop 42 = .ok (.aload_n 0, 1) := by decide +kernel
theorem dX3_makeDrop_43 : decode cX3_makeDrop 43 = .ok (.getfield 19, 3) := by decide +kernel
theorem dX3_makeDrop_46 : decode cX3_makeDrop 46 = .ok (.iload_n 3, 1) := by decide +kernel
theorem dX3_makeDrop_47 : decode cX3_makeDrop 47 = .ok (.aload_n 0, 1) := by decide +kernel
theorem dX3_makeDrop_48 : decode cX3_makeDrop 48 = .ok (.getfield 9, 3) := by decide +kernel
theorem dX3_makeDrop_51 : decode cX3_makeDrop 51 = .ok (.aload_n 1, 1) := by decide +kernel
theorem dX3_makeDrop_52 : decode cX3_makeDrop 52 = .ok (.getfield 67, 3) := by decide +kernel
theorem dX3_makeDrop_55 : decode cX3_makeDrop 55 = .ok (.getfield 82, 3) := by decide +kernel
theorem dX3_makeDrop_58 : decode cX3_makeDrop 58 = .ok (.iload_n 3, 1) := by decide +kernel
theorem dX3_makeDrop_59 : decode cX3_makeDrop 59 = .ok (.invokevirtual 105, 3) := by decide +kernel
theorem dX3_makeDrop_62 : decode cX3_makeDrop 62 = .ok (.invokevirtual 94, 3) := by decide +kernel
theorem dX3_makeDrop_65 : decode cX3_makeDrop 65 = .ok (.ifCond .ne 5, 3) := by decide +kernel
theorem dX3_makeDrop_68 : decode cX3_makeDrop 68 = .ok (.iconst 0, 1) := by decide +kernel
theorem dX3_makeDrop_69 : decode cX3_makeDrop 69 = .ok (.ireturn, 1) := by decide +kernel
theorem dX3_makeDrop_70 : decode cX3_makeDrop 70 = .ok (.aload_n 0, 1) := by decide +kernel
theorem dX3_makeDrop_71 : decode cX3_makeDrop 71 = .ok (.aload_n 1, 1) := by decide +kernel
theorem dX3_makeDrop_72 : decode cX3_makeDrop 72 = .ok (.getfield 67, 3) := by decide +kernel
theorem dX3_makeDrop_75 : decode cX3_makeDrop 75 = .ok (.aload_n 1, 1) := by decide +kernel
theorem dX3_makeDrop_76 : decode cX3_makeDrop 76 = .ok (.getfield 75, 3) := by decide +kernel
theorem dX3_makeDrop_79 : decode cX3_makeDrop 79 = .ok (.iconst 0, 1) := by decide +kernel
theorem dX3_makeDrop_80 : decode cX3_makeDrop 80 = .ok (.aload_n 2, 1) := by decide +kernel
theorem dX3_makeDrop_81 : decode cX3_makeDrop 81 = .ok (.invokevirtual 98, 3) := by decide +kernel
theorem dX3_makeDrop_84 : decode cX3_makeDrop 84 = .ok (.ifCond .eq 7, 3) := by decide +kernel
theorem dX3_makeDrop_87 : decode cX3_makeDrop 87 = .ok (.iconst 2, 1) := by decide +kernel
theorem dX3_makeDrop_88 : decode cX3_makeDrop 88 = .ok (.goto 4, 3) := by decide +kernel
theorem dX3_makeDrop_91 : decode cX3_makeDrop 91 = .ok (.iconst 1, 1) := by decide +kernel
theorem dX3_makeDrop_92 : decode cX3_makeDrop 92 = .ok (.ireturn, 1) := by decide +kernel
theorem dX3_makeTurn_0 : decode cX3_makeTurn 0 = .ok (.aload_n 3, 1) := by decide +kernel
theorem dX3_makeTurn_1 : decode cX3_makeTurn 1 = .ok (.iconst 2, 1) := by decide +kernel
theorem dX3_makeTurn_2 : decode cX3_makeTurn 2 = .ok (.iaload, 1) := by decide +kernel
theorem dX3_makeTurn_3 : decode cX3_makeTurn 3 = .ok (.istore 5, 2) := by decide +kernel
theorem dX3_makeTurn_5 : decode cX3_makeTurn 5 = .ok (.aload_n 3, 1) := by decide +kernel
theorem dX3_makeTurn_6 : decode cX3_makeTurn 6 = .ok (.iconst 3, 1) := by decide +kernel
theorem dX3_makeTurn_7 : decode cX3_makeTurn 7 = .ok (.iaload, 1) := by decide +kernel
theorem dX3_makeTurn_8 : decode cX3_makeTurn 8 = .ok (.istore 6, 2) := by decide +kernel
theorem dX3_makeTurn_10 : decode cX3_makeTurn 10 = .ok (.aload_n 3, 1) := by decide +kernel
theorem dX3_makeTurn_11 : decode cX3_makeTurn 11 = .ok (.iconst 5, 1) := by decide +kernel
theorem dX3_makeTurn_12 : decode cX3_makeTurn 12 = .ok (.iaload, 1) := by decide +kernel
theorem dX3_makeTurn_13 : decode cX3_makeTurn 13 = .ok (.istore 7, 2) := by decide +kernel
theorem dX3_makeTurn_15 : decode cX3_makeTurn 15 = .ok (.aload_n 3, 1) := by decide +kernel
theorem dX3_makeTurn_16 : decode cX3_makeTurn 16 = .ok (.bipush 6, 2) := by decide +kernel
theorem dX3_makeTurn_18 : decode cX3_makeTurn 18 = .ok (.iaload, 1) := by decide +kernel
theorem dX3_makeTurn_19 : decode cX3_makeTurn 19 = .ok (.istore 8, 2) := by decide +kernel
theorem dX3_makeTurn_21 : decode cX3_makeTurn 21 = .ok (.aload_n 1, 1) := by decide +kernel
theorem dX3_makeTurn_22 : decode cX3_makeTurn 22 = .ok (.invokevirtual 61, 3) := by decide +kernel
theorem dX3_makeTurn_25 : decode cX3_makeTurn 25 = .ok (.ifCond .eq 26, 3) := by decide +kernel
theorem dX3_makeTurn_28 : decode cX3_makeTurn 28 = .ok (.aload_n 1, 1) := by decide +kernel
theorem dX3_makeTurn_29 : decode cX3_makeTurn 29 = .ok (.getfield 67, 3) := by decide +kernel
theorem dX3_makeTurn_32 : decode cX3_makeTurn 32 = .ok (.iload 5, 2) := by decide +kernel
theorem dX3_makeTurn_34 : decode cX3_makeTurn 34 = .ok (.invokevirtual 102, 3) := by decide +kernel
theorem dX3_makeTurn_37 : decode cX3_makeTurn 37 = .ok (.ifCond .eq 14, 3) := by decide +kernel
theorem dX3_makeTurn_40 : decode cX3_makeTurn 40 = .ok (.iload 6, 2) := by decide +kernel
theorem dX3_makeTurn_42 : decode cX3_makeTurn 42 = .ok (.ifCond .lt 9, 3) := by decide +kernel
theorem dX3_makeTurn_45 : decode cX3_makeTurn 45 = .ok (.iload 6, 2) := by decide +kernel
theorem dX3_makeTurn_47 : decode cX3_makeTurn 47 = .ok (.iconst 1, 1) := by decide +kernel
theorem dX3_makeTurn_48 : decode cX3_makeTurn 48 = .ok (.if_icmp .le 5, 3) := by decide +kernel
theorem dX3_makeTurn_51 : decode cX3_makeTurn 51 = .ok (.iconst 0, 1) := by decide +kernel
theorem dX3_makeTurn_52 : decode cX3_makeTurn 52 = .ok (.ireturn, 1) := by decide +kernel
theorem dX3_makeTurn_53 : decode cX3_makeTurn 53 = .ok (.aload_n 2, 1) := by decide +kernel
theorem dX3_makeTurn_54 : decode cX3_makeTurn 54 = .ok (.getfield 67, 3) := by decide +kernel
theorem dX3_makeTurn_57 : decode cX3_makeTurn 57 = .ok (.iload 7, 2) := by decide +kernel
theorem dX3_makeTurn_59 : decode cX3_makeTurn 59 = .ok (.invokevirtual 71, 3) := by decide +kernel
theorem dX3_makeTurn_62 : decode cX3_makeTurn 62 = .ok (.ifCond .eq 39, 3) := by decide +kernel
theorem dX3_makeTurn_65 : decode cX3_makeTurn 65 = .ok (.aload_n 2, 1) := by decide +kernel
theorem dX3_makeTurn_66 : decode cX3_makeTurn 66 = .ok (.invokevirtual 61, 3) := by decide +kernel
theorem dX3_makeTurn_69 : decode cX3_makeTurn 69 = .ok (.ifCond .ne 12, 3) := by decide +kernel
theorem dX3_makeTurn_72 : decode cX3_makeTurn 72 = .ok (.aload_n 2, 1) := by decide +kernel
theorem dX3_makeTurn_73 : decode cX3_makeTurn 73 = .ok (.getfield 75, 3) := by decide +kernel
theorem dX3_makeTurn_76 : decode cX3_makeTurn 76 = .ok (.iload 7, 2) := by decide +kernel
theorem dX3_makeTurn_78 : decode cX3_makeTurn 78 = .ok (.if_icmp .ne 23, 3) := by decide +kernel
theorem dX3_makeTurn_81 : decode cX3_makeTurn 81 = .ok (.iload 8, 2) := by decide +kernel
theorem dX3_makeTurn_83 : decode cX3_makeTurn 83 = .ok (.iconst 1, 1) := by decide +kernel
theorem dX3_makeTurn_84 : decode cX3_makeTurn 84 = .ok (.if_icmp .lt 17, 3) := by decide +kernel
theorem dX3_makeTurn_87 : decode cX3_makeTurn 87 = .ok (.iload 8, 2) := by decide +kernel
theorem dX3_makeTurn_89 : decode cX3_makeTurn 89 = .ok (.aload_n 2, 1) := by decide +kernel
theorem dX3_makeTurn_90 : decode cX3_makeTurn 90 = .ok (.getfield 67, 3) := by decide +kernel
theorem dX3_makeTurn_93 : decode cX3_makeTurn 93 = .ok (.iload 7, 2) := by decide +kernel
theorem dX3_makeTurn_95 : decode cX3_makeTurn 95 = .ok (.invokevirtual 111, 3) := by decide +kernel
theorem dX3_makeTurn_98 : decode cX3_makeTurn 98 = .ok (.if_icmp .lt 5, 3) := by decide +kernel
theorem dX3_makeTurn_101 : decode cX3_makeTurn 101 = .ok (.iconst 0, 1) := by decide +kernel
theorem dX3_makeTurn_102 : decode cX3_makeTurn 102 = .ok (.ireturn, 1) := by decide +kernel
theorem dX3_makeTurn_103 : decode cX3_makeTurn 103 = .ok (.aload_n 2, 1) := by decide +kernel
theorem dX3_makeTurn_104 : decode cX3_makeTurn 104 = .ok (.getfield 67, 3) := by decide +kernel
theorem dX3_makeTurn_107 : decode cX3_makeTurn 107 = .ok (.getfield 79, 3) := by decide +kernel
theorem dX3_makeTurn_110 : decode cX3_makeTurn 110 = .ok (.iload 7, 2) := by decide +kernel
theorem dX3_makeTurn_112 : decode cX3_makeTurn 112 = .ok (.iaload, 1) := by decide +kernel
theorem dX3_makeTurn_113 : decode cX3_makeTurn 113 = .ok (.iload 8, 2) := by decide +kernel
theorem dX3_makeTurn_115 : decode cX3_makeTurn 115 = .ok (.iadd, 1) := by decide +kernel
theorem dX3_makeTurn_116 : decode cX3_makeTurn 116 = .ok (.istore 9, 2) := by decide +kernel
theorem dX3_makeTurn_118 : decode cX3_makeTurn 118 = .ok (.aload_n 2, 1) := by decide +kernel
theorem dX3_makeTurn_119 : decode cX3_makeTurn 119 = .ok (.getfield 67, 3) := by decide +kernel
theorem dX3_makeTurn_122 : decode cX3_makeTurn 122 = .ok (.getfield 82, 3) := by decide +kernel
theorem dX3_makeTurn_125 : decode cX3_makeTurn 125 = .ok (.iload 9, 2) := by decide +kernel
theorem dX3_makeTurn_127 : decode cX3_makeTurn 127 = .ok (.iaload, 1) := by decide +kernel
theorem dX3_makeTurn_128 : decode cX3_makeTurn 128 = .ok (.ifCond .ge 5, 3) := by decide +kernel
theorem dX3_makeTurn_131 : decode cX3_makeTurn 131 = .ok (.iconst 0, 1) := by decide +kernel
theorem dX3_makeTurn_132 : decode cX3_makeTurn 132 = .ok (.ireturn, 1) := by decide +kernel
theorem dX3_makeTurn_133 : decode cX3_makeTurn 133 = .ok (.aload_n 1, 1) := by decide +kernel
theorem dX3_makeTurn_134 : decode cX3_makeTurn 134 = .ok (.getfield 67, 3) := by decide +kernel
theorem dX3_makeTurn_137 : decode cX3_makeTurn 137 = .ok (.getfield 79, 3) := by decide +kernel
theorem dX3_makeTurn_140 : decode cX3_makeTurn 140 = .ok (.iload 5, 2) := by decide +kernel
theorem dX3_makeTurn_142 : decode cX3_makeTurn 142 = .ok (.iaload, 1) := by decide +kernel
theorem dX3_makeTurn_143 : decode cX3_makeTurn 143 = .ok (.iconst 1, 1) := by decide +kernel
theorem dX3_makeTurn_144 : decode cX3_makeTurn 144 = .ok (.iadd, 1) := by decide +kernel
theorem dX3_makeTurn_145 : decode cX3_makeTurn 145 = .ok (.istore 10, 2) := by decide +kernel
theorem dX3_makeTurn_147 : decode cX3_makeTurn 147 = .ok (.aload_n 0, 1) := by decide +kernel
theorem dX3_makeTurn_148 : decode cX3_makeTurn 148 = .ok (.getfield 9, 3) := by decide +kernel
theorem dX3_makeTurn_151 : decode cX3_makeTurn 151 = .ok (.aload_n 1, 1) := by decide +kernel
theorem dX3_makeTurn_152 : decode cX3_makeTurn 152 = .ok (.getfield 67, 3) := by decide +kernel
theorem dX3_makeTurn_155 : decode cX3_makeTurn 155 = .ok (.getfield 82, 3) := by decide +kernel
theorem dX3_makeTurn_158 : decode cX3_makeTurn 158 = .ok (.iload 10, 2) := by decide +kernel
theorem dX3_makeTurn_160 : decode cX3_makeTurn 160 = .ok (.invokevirtual 105, 3) := by decide +kernel
theorem dX3_makeTurn_163 : decode cX3_makeTurn 163 = .ok (.istore 11, 2) := by decide +kernel
theorem dX3_makeTurn_165 : decode cX3_makeTurn 165 = .ok (.iload 6, 2) := by decide +kernel
theorem dX3_makeTurn_167 : decode cX3_makeTurn 167 = .ok (.ifCond .ne 8, 3) := by decide +kernel
theorem dX3_makeTurn_170 : decode cX3_makeTurn 170 = .ok (.iload 10, 2) := by decide +kernel
theorem dX3_makeTurn_172 : decode cX3_makeTurn 172 = .ok (.goto 5, 3) := by decide +kernel
theorem dX3_makeTurn_175 : decode cX3_makeTurn 175 = .ok (.iload 11, 2) := by decide +kernel
theorem dX3_makeTurn_177 : decode cX3_makeTurn 177 = .ok (.istore 12, 2) := by decide +kernel
theorem dX3_makeTurn_179 : decode cX3_makeTurn 179 = .ok (.iload 6, 2) := by decide +kernel
theorem dX3_makeTurn_181 : decode cX3_makeTurn 181 = .ok (.ifCond .ne 8, 3) := by decide +kernel
theorem dX3_makeTurn_184 : decode cX3_makeTurn 184 = .ok (.iload 11, 2) := by decide +kernel
theorem dX3_makeTurn_186 : decode cX3_makeTurn 186 = .ok (.goto 5, 3) := by decide +kernel
theorem dX3_makeTurn_189 : decode cX3_makeTurn 189 = .ok (.iload 10, 2) := by decide +kernel
theorem dX3_makeTurn_191 : decode cX3_makeTurn 191 = .ok (.istore 13, 2) := by decide +kernel
theorem dX3_makeTurn_193 : decode cX3_makeTurn 193 = .ok (.aload_n 0, 1) := by decide +kernel
theorem dX3_makeTurn_194 : decode cX3_makeTurn 194 = .ok (.getfield 19, 3) := by decide +kernel
theorem dX3_makeTurn_197 : decode cX3_makeTurn 197 = .ok (.aload_n 1, 1) := by decide +kernel
theorem dX3_makeTurn_198 : decode cX3_makeTurn 198 = .ok (.getfield 67, 3) := by decide +kernel
theorem dX3_makeTurn_201 : decode cX3_makeTurn 201 = .ok (.invokevirtual 85, 3) := by decide +kernel
theorem dX3_makeTurn_204 : decode cX3_makeTurn 204 = .ok (.aload_n 0, 1) := by decide +kernel
theorem dX3_makeTurn_205 : decode cX3_makeTurn 205 = .ok (.getfield 19, 3) := by decide +kernel
theorem dX3_makeTurn_208 : decode cX3_makeTurn 208 = .ok (.aload_n 2, 1) := by decide +kernel
theorem dX3_makeTurn_209 : decode cX3_makeTurn 209 = .ok (.getfield 67, 3) := by decide +kernel
theorem dX3_makeTurn_212 : decode cX3_makeTurn 212 = .ok (.invokevirtual 91, 3) := by decide +kernel
theorem dX3_makeTurn_215 : decode cX3_makeTurn 215 = .ok (.aload_n 0, 1) := by decide +kernel
theorem dX3_makeTurn_216 : decode cX3_makeTurn 216 = .ok (.getfield 19, 3) := by decide +kernel
theorem dX3_makeTurn_219 : decode cX3_makeTurn 219 = .ok (.iload 12, 2) := by decide +kernel
theorem dX3_makeTurn_221 : decode cX3_makeTurn 221 = .ok (.sipush 180, 3) := by decide +kernel
theorem dX3_makeTurn_224 : decode cX3_makeTurn 224 = .ok (.iload 9, 2) := by decide +kernel
theorem dX3_makeTurn_226 : decode cX3_makeTurn 226 = .ok (.iadd, 1) := by decide +kernel
theorem dX3_makeTurn_227 : decode cX3_makeTurn 227 = .ok (.invokevirtual 94, 3) := by decide +kernel
theorem dX3_makeTurn_230 : decode cX3_makeTurn 230 = .ok (.ifCond .ne 5, 3) := by decide +kernel
theorem dX3_makeTurn_233 : decode cX3_makeTurn 233 = .ok (.iconst 0, 1) := by decide +kernel
theorem dX3_makeTurn_234 : decode cX3_makeTurn 234 = .ok (.ireturn, 1) := by decide +kernel
theorem dX3_makeTurn_235 : decode cX3_makeTurn 235 = .ok (.aload_n 0, 1) := by decide +kernel
theorem dX3_makeTurn_236 : decode cX3_makeTurn 236 = .ok (.getfield 9, 3) := by decide +kernel
theorem dX3_makeTurn_239 : decode cX3_makeTurn 239 = .ok (.aload_n 1, 1) := by decide +kernel
theorem dX3_makeTurn_240 : decode cX3_makeTurn 240 = .ok (.getfield 67, 3) := by decide +kernel
theorem dX3_makeTurn_243 : decode cX3_makeTurn 243 = .ok (.getfield 82, 3) := by decide +kernel
theorem dX3_makeTurn_246 : decode cX3_makeTurn 246 = .ok (.iload 13, 2) := by decide +kernel
theorem dX3_makeTurn_248 : decode cX3_makeTurn 248 = .ok (.invokevirtual 105, 3) := by decide +kernel
theorem dX3_makeTurn_251 : decode cX3_makeTurn 251 = .ok (.istore 14, 2) := by decide +kernel
theorem dX3_makeTurn_253 : decode cX3_makeTurn 253 = .ok (.aload_n 0, 1) := by decide +kernel
theorem dX3_makeTurn_254 : decode cX3_makeTurn 254 = .ok (.iload 12, 2) := by decide +kernel
theorem dX3_makeTurn_256 : decode cX3_makeTurn 256 = .ok (.aload_n 0, 1) := by decide +kernel
theorem dX3_makeTurn_257 : decode cX3_makeTurn 257 = .ok (.getfield 9, 3) := by decide +kernel
theorem dX3_makeTurn_260 : decode cX3_makeTurn 260 = .ok (.aload_n 1, 1) := by decide +kernel
theorem dX3_makeTurn_261 : decode cX3_makeTurn 261 = .ok (.getfield 67, 3) := by decide +kernel
theorem dX3_makeTurn_264 : decode cX3_makeTurn 264 = .ok (.getfield 82, 3) := by decide +kernel
theorem dX3_makeTurn_267 : decode cX3_makeTurn 267 = .ok (.iload 12, 2) := by decide +kernel
theorem dX3_makeTurn_269 : decode cX3_makeTurn 269 = .ok (.invokevirtual 105, 3) := by decide +kernel
theorem dX3_makeTurn_272 : decode cX3_makeTurn 272 = .ok (.iload 13, 2) := by decide +kernel
theorem dX3_makeTurn_274 : decode cX3_makeTurn 274 = .ok (.iload 14, 2) := by decide +kernel
theorem dX3_makeTurn_276 : decode cX3_makeTurn 276 = .ok (.invokevirtual 115, 3) := by decide +kernel
theorem dX3_makeTurn_279 : decode cX3_makeTurn 279 = .ok (.istore 15, 2) := by decide +kernel
theorem dX3_makeTurn_281 : decode cX3_makeTurn 281 = .ok (.iload 15, 2) := by decide +kernel
theorem dX3_makeTurn_283 : decode cX3_makeTurn 283 = .ok (.iconst 2, 1) := by decide +kernel
theorem dX3_makeTurn_284 : decode cX3_makeTurn 284 = .ok (.if_icmp .eq 6, 3) := by decide +kernel
theorem dX3_makeTurn_287 : decode cX3_makeTurn 287 = .ok (.iload 15, 2) := by decide +kernel
theorem dX3_makeTurn_289 : decode cX3_makeTurn 289 = .ok (.ireturn, 1) := by decide +kernel
theorem dX3_makeTurn_290 : decode cX3_makeTurn 290 = .ok (.aload_n 0, 1) := by decide +kernel
theorem dX3_makeTurn_291 : decode cX3_makeTurn 291 = .ok (.aload_n 1, 1) := by decide +kernel
theorem dX3_makeTurn_292 : decode cX3_makeTurn 292 = .ok (.getfield 67, 3) := by decide +kernel
theorem dX3_makeTurn_295 : decode cX3_makeTurn 295 = .ok (.iload 5, 2) := by decide +kernel
theorem dX3_makeTurn_297 : decode cX3_makeTurn 297 = .ok (.iconst 0, 1) := by decide +kernel
theorem dX3_makeTurn_298 : decode cX3_makeTurn 298 = .ok (.aload 4, 2) := by decide +kernel
theorem dX3_makeTurn_300 : decode cX3_makeTurn 300 = .ok (.invokevirtual 98, 3) := by decide +kernel
theorem dX3_makeTurn_303 : decode cX3_makeTurn 303 = .ok (.ifCond .eq 28, 3) := by decide +kernel
theorem dX3_makeTurn_306 : decode cX3_makeTurn 306 = .ok (.aload_n 0, 1) := by decide +kernel
theorem dX3_makeTurn_307 : decode cX3_makeTurn 307 = .ok (.aload_n 2, 1) := by decide +kernel
theorem dX3_makeTurn_308 : decode cX3_makeTurn 308 = .ok (.getfield 67, 3) := by decide +kernel
theorem dX3_makeTurn_311 : decode cX3_makeTurn 311 = .ok (.iload 7, 2) := by decide +kernel
theorem dX3_makeTurn_313 : decode cX3_makeTurn 313 = .ok (.iload 9, 2) := by decide +kernel
theorem dX3_makeTurn_315 : decode cX3_makeTurn 315 = .ok (.iload 13, 2) := by decide +kernel
theorem dX3_makeTurn_317 : decode cX3_makeTurn 317 = .ok (.iload 14, 2) := by decide +kernel
theorem dX3_makeTurn_319 : decode cX3_makeTurn 319 = .ok (.aload 4, 2) := by decide +kernel
theorem dX3_makeTurn_321 : decode cX3_makeTurn 321 = .ok (.invokevirtual 119, 3) := by decide +kernel
theorem dX3_makeTurn_324 : decode cX3_makeTurn 324 = .ok (.ifCond .eq 7, 3) := by decide +kernel
theorem dX3_makeTurn_327 : decode cX3_makeTurn 327 = .ok (.iconst 2, 1) := by decide +kernel
theorem dX3_makeTurn_328 : decode cX3_makeTurn 328 = .ok (.goto 4, 3) := by decide +kernel
theorem dX3_makeTurn_331 : decode cX3_makeTurn 331 = .ok (.iconst 1, 1) := by decide +kernel
theorem dX3_makeTurn_332 : decode cX3_makeTurn 332 = .ok (.ireturn, 1) := by decide +kernel
theorem dX3_sidesUnderIt_0 : decode cX3_sidesUnderIt 0 = .ok (.aload_n 0, 1) := by decide +kernel
theorem dX3_sidesUnderIt_1 : decode cX3_sidesUnderIt 1 = .ok (.getfield 19, 3) := by decide +kernel
theorem dX3_sidesUnderIt_4 : decode cX3_sidesUnderIt 4 = .ok (.iconst 0, 1) := by decide +kernel
theorem dX3_sidesUnderIt_5 : decode cX3_sidesUnderIt 5 = .ok (.putfield 123, 3) := by decide +kernel
theorem dX3_sidesUnderIt_8 : decode cX3_sidesUnderIt 8 = .ok (.aload_n 0, 1) := by decide +kernel
theorem dX3_sidesUnderIt_9 : decode cX3_sidesUnderIt 9 = .ok (.getfield 19, 3) := by decide +kernel
theorem dX3_sidesUnderIt_12 : decode cX3_sidesUnderIt 12 = .ok (.iload_n 1, 1) := by decide +kernel
theorem dX3_sidesUnderIt_13 : decode cX3_sidesUnderIt 13 = .ok (.iload_n 2, 1) := by decide +kernel
theorem dX3_sidesUnderIt_14 : decode cX3_sidesUnderIt 14 = .ok (.bipush 30, 2) := by decide +kernel
theorem dX3_sidesUnderIt_16 : decode cX3_sidesUnderIt 16 = .ok (.invokevirtual 125, 3) := by decide +kernel
theorem dX3_sidesUnderIt_19 : decode cX3_sidesUnderIt 19 = .ok (.ifCond .ne 5, 3) := by decide +kernel
theorem dX3_sidesUnderIt_22 : decode cX3_sidesUnderIt 22 = .ok (.iconst 1, 1) := by decide +kernel
theorem dX3_sidesUnderIt_23 : decode cX3_sidesUnderIt 23 = .ok (.ireturn, 1) := by decide +kernel
theorem dX3_sidesUnderIt_24 : decode cX3_sidesUnderIt 24 = .ok (.aload_n 0, 1) := by decide +kernel
theorem dX3_sidesUnderIt_25 : decode cX3_sidesUnderIt 25 = .ok (.getfield 19, 3) := by decide +kernel
theorem dX3_sidesUnderIt_28 : decode cX3_sidesUnderIt 28 = .ok (.getfield 123, 3) := by decide +kernel
theorem dX3_sidesUnderIt_31 : decode cX3_sidesUnderIt 31 = .ok (.istore 5, 2) := by decide +kernel
theorem dX3_sidesUnderIt_33 : decode cX3_sidesUnderIt 33 = .ok (.aload_n 0, 1) := by decide +kernel
theorem dX3_sidesUnderIt_34 : decode cX3_sidesUnderIt 34 = .ok (.getfield 19, 3) := by decide +kernel
theorem dX3_sidesUnderIt_37 : decode cX3_sidesUnderIt 37 = .ok (.iload_n 3, 1) := by decide +kernel
theorem dX3_sidesUnderIt_38 : decode cX3_sidesUnderIt 38 = .ok (.iload 4, 2) := by decide +kernel
theorem dX3_sidesUnderIt_40 : decode cX3_sidesUnderIt 40 = .ok (.iload 5, 2) := by decide +kernel
theorem dX3_sidesUnderIt_42 : decode cX3_sidesUnderIt 42 = .ok (.bipush 30, 2) := by decide +kernel
theorem dX3_sidesUnderIt_44 : decode cX3_sidesUnderIt 44 = .ok (.iadd, 1) := by decide +kernel
theorem dX3_sidesUnderIt_45 : decode cX3_sidesUnderIt 45 = .ok (.invokevirtual 125, 3) := by decide +kernel
theorem dX3_sidesUnderIt_48 : decode cX3_sidesUnderIt 48 = .ok (.ifCond .ne 5, 3) := by decide +kernel
theorem dX3_sidesUnderIt_51 : decode cX3_sidesUnderIt 51 = .ok (.iconst 1, 1) := by decide +kernel
theorem dX3_sidesUnderIt_52 : decode cX3_sidesUnderIt 52 = .ok (.ireturn, 1) := by decide +kernel
theorem dX3_sidesUnderIt_53 : decode cX3_sidesUnderIt 53 = .ok (.aload_n 0, 1) := by decide +kernel
theorem dX3_sidesUnderIt_54 : decode cX3_sidesUnderIt 54 = .ok (.getfield 15, 3) := by decide +kernel
theorem dX3_sidesUnderIt_57 : decode cX3_sidesUnderIt 57 = .ok (.aload_n 0, 1) := by decide +kernel
theorem dX3_sidesUnderIt_58 : decode cX3_sidesUnderIt 58 = .ok (.getfield 19, 3) := by decide +kernel
theorem dX3_sidesUnderIt_61 : decode cX3_sidesUnderIt 61 = .ok (.getfield 129, 3) := by decide +kernel
theorem dX3_sidesUnderIt_64 : decode cX3_sidesUnderIt 64 = .ok (.iload 5, 2) := by decide +kernel
theorem dX3_sidesUnderIt_66 : decode cX3_sidesUnderIt 66 = .ok (.aload_n 0, 1) := by decide +kernel
theorem dX3_sidesUnderIt_67 : decode cX3_sidesUnderIt 67 = .ok (.getfield 19, 3) := by decide +kernel
theorem dX3_sidesUnderIt_70 : decode cX3_sidesUnderIt 70 = .ok (.getfield 129, 3) := by decide +kernel
theorem dX3_sidesUnderIt_73 : decode cX3_sidesUnderIt 73 = .ok (.iconst 0, 1) := by decide +kernel
theorem dX3_sidesUnderIt_74 : decode cX3_sidesUnderIt 74 = .ok (.invokevirtual 132, 3) := by decide +kernel
theorem dX3_sidesUnderIt_77 : decode cX3_sidesUnderIt 77 = .ok (.iconst 1, 1) := by decide +kernel
theorem dX3_sidesUnderIt_78 : decode cX3_sidesUnderIt 78 = .ok (.if_icmp .ne 7, 3) := by decide +kernel
theorem dX3_sidesUnderIt_81 : decode cX3_sidesUnderIt 81 = .ok (.iconst 0, 1) := by decide +kernel
theorem dX3_sidesUnderIt_82 : decode cX3_sidesUnderIt 82 = .ok (.goto 4, 3) := by decide +kernel
theorem dX3_sidesUnderIt_85 : decode cX3_sidesUnderIt 85 = .ok (.iconst 2, 1) := by decide +kernel
theorem dX3_sidesUnderIt_86 : decode cX3_sidesUnderIt 86 = .ok (.ireturn, 1) := by decide +kernel
theorem dX3_writeAllBut_0 : decode cX3_writeAllBut 0 = .ok (.iconst 0, 1) := by decide +kernel
theorem dX3_writeAllBut_1 : decode cX3_writeAllBut 1 = .ok (.istore 5, 2) := by decide +kernel
theorem dX3_writeAllBut_3 : decode cX3_writeAllBut 3 = .ok (.iload 5, 2) := by decide +kernel
theorem dX3_writeAllBut_5 : decode cX3_writeAllBut 5 = .ok (.aload_n 1, 1) := by decide +kernel
theorem dX3_writeAllBut_6 : decode cX3_writeAllBut 6 = .ok (.getfield 138, 3) := by decide +kernel
theorem dX3_writeAllBut_9 : decode cX3_writeAllBut 9 = .ok (.if_icmp .ge 87, 3) := by decide +kernel
theorem dX3_writeAllBut_12 : decode cX3_writeAllBut 12 = .ok (.iload 5, 2) := by decide +kernel
theorem dX3_writeAllBut_14 : decode cX3_writeAllBut 14 = .ok (.iload_n 2, 1) := by decide +kernel
theorem dX3_writeAllBut_15 : decode cX3_writeAllBut 15 = .ok (.if_icmp .eq 75, 3) := by decide +kernel
theorem dX3_writeAllBut_18 : decode cX3_writeAllBut 18 = .ok (.aload_n 0, 1) := by decide +kernel
theorem dX3_writeAllBut_19 : decode cX3_writeAllBut 19 = .ok (.getfield 19, 3) := by decide +kernel
theorem dX3_writeAllBut_22 : decode cX3_writeAllBut 22 = .ok (.iconst 0, 1) := by decide +kernel
theorem dX3_writeAllBut_23 : decode cX3_writeAllBut 23 = .ok (.putfield 123, 3) := by decide +kernel
theorem dX3_writeAllBut_26 : decode cX3_writeAllBut 26 = .ok (.aload_n 0, 1) := by decide +kernel
theorem dX3_writeAllBut_27 : decode cX3_writeAllBut 27 = .ok (.getfield 19, 3) := by decide +kernel
theorem dX3_writeAllBut_30 : decode cX3_writeAllBut 30 = .ok (.iload_n 3, 1) := by decide +kernel
theorem dX3_writeAllBut_31 : decode cX3_writeAllBut 31 = .ok (.aload_n 1, 1) := by decide +kernel
theorem dX3_writeAllBut_32 : decode cX3_writeAllBut 32 = .ok (.getfield 79, 3) := by decide +kernel
theorem dX3_writeAllBut_35 : decode cX3_writeAllBut 35 = .ok (.iload 5, 2) := by decide +kernel
theorem dX3_writeAllBut_37 : decode cX3_writeAllBut 37 = .ok (.iaload, 1) := by decide +kernel
theorem dX3_writeAllBut_38 : decode cX3_writeAllBut 38 = .ok (.iadd, 1) := by decide +kernel
theorem dX3_writeAllBut_39 : decode cX3_writeAllBut 39 = .ok (.iload_n 3, 1) := by decide +kernel
theorem dX3_writeAllBut_40 : decode cX3_writeAllBut 40 = .ok (.aload_n 1, 1) := by decide +kernel
theorem dX3_writeAllBut_41 : decode cX3_writeAllBut 41 = .ok (.getfield 79, 3) := by decide +kernel
theorem dX3_writeAllBut_44 : decode cX3_writeAllBut 44 = .ok (.iload 5, 2) := by decide +kernel
theorem dX3_writeAllBut_46 : decode cX3_writeAllBut 46 = .ok (.iconst 1, 1) := by decide +kernel
theorem dX3_writeAllBut_47 : decode cX3_writeAllBut 47 = .ok (.iadd, 1) := by decide +kernel
theorem dX3_writeAllBut_48 : decode cX3_writeAllBut 48 = .ok (.iaload, 1) := by decide +kernel
theorem dX3_writeAllBut_49 : decode cX3_writeAllBut 49 = .ok (.iadd, 1) := by decide +kernel
theorem dX3_writeAllBut_50 : decode cX3_writeAllBut 50 = .ok (.bipush 30, 2) := by decide +kernel
theorem dX3_writeAllBut_52 : decode cX3_writeAllBut 52 = .ok (.invokevirtual 125, 3) := by decide +kernel
theorem dX3_writeAllBut_55 : decode cX3_writeAllBut 55 = .ok (.ifCond .eq 33, 3) := by decide +kernel
theorem dX3_writeAllBut_58 : decode cX3_writeAllBut 58 = .ok (.aload 4, 2) := by decide +kernel
theorem dX3_writeAllBut_60 : decode cX3_writeAllBut 60 = .ok (.aload_n 1, 1) := by decide +kernel
theorem dX3_writeAllBut_61 : decode cX3_writeAllBut 61 = .ok (.getfield 141, 3) := by decide +kernel
theorem dX3_writeAllBut_64 : decode cX3_writeAllBut 64 = .ok (.iload 5, 2) := by decide +kernel
theorem dX3_writeAllBut_66 : decode cX3_writeAllBut 66 = .ok (.baload, 1) := by decide +kernel
theorem dX3_writeAllBut_67 : decode cX3_writeAllBut 67 = .ok (.aload_n 0, 1) := by decide +kernel
theorem dX3_writeAllBut_68 : decode cX3_writeAllBut 68 = .ok (.getfield 19, 3) := by decide +kernel
theorem dX3_writeAllBut_71 : decode cX3_writeAllBut 71 = .ok (.getfield 129, 3) := by decide +kernel
theorem dX3_writeAllBut_74 : decode cX3_writeAllBut 74 = .ok (.iconst 0, 1) := by decide +kernel
theorem dX3_writeAllBut_75 : decode cX3_writeAllBut 75 = .ok (.aload_n 0, 1) := by decide +kernel
theorem dX3_writeAllBut_76 : decode cX3_writeAllBut 76 = .ok (.getfield 19, 3) := by decide +kernel
theorem dX3_writeAllBut_79 : decode cX3_writeAllBut 79 = .ok (.getfield 123, 3) := by decide +kernel
theorem dX3_writeAllBut_82 : decode cX3_writeAllBut 82 = .ok (.invokevirtual 145, 3) := by decide +kernel
theorem dX3_writeAllBut_85 : decode cX3_writeAllBut 85 = .ok (.ifCond .ne 5, 3) := by decide +kernel
theorem dX3_writeAllBut_88 : decode cX3_writeAllBut 88 = .ok (.iconst 0, 1) := by decide +kernel
theorem dX3_writeAllBut_89 : decode cX3_writeAllBut 89 = .ok (.ireturn, 1) := by decide +kernel
theorem dX3_writeAllBut_90 : decode cX3_writeAllBut 90 = .ok (.iinc 5 1, 3) := by decide +kernel
theorem dX3_writeAllBut_93 : decode cX3_writeAllBut 93 = .ok (.goto (-90), 3) := by decide +kernel
theorem dX3_writeAllBut_96 : decode cX3_writeAllBut 96 = .ok (.iconst 1, 1) := by decide +kernel
theorem dX3_writeAllBut_97 : decode cX3_writeAllBut 97 = .ok (.ireturn, 1) := by decide +kernel
theorem dX3_writeTurned_0 : decode cX3_writeTurned 0 = .ok (.sipush 180, 3) := by decide +kernel
theorem dX3_writeTurned_3 : decode cX3_writeTurned 3 = .ok (.istore 7, 2) := by decide +kernel
theorem dX3_writeTurned_5 : decode cX3_writeTurned 5 = .ok (.iload 7, 2) := by decide +kernel
theorem dX3_writeTurned_7 : decode cX3_writeTurned 7 = .ok (.aload_n 0, 1) := by decide +kernel
theorem dX3_writeTurned_8 : decode cX3_writeTurned 8 = .ok (.getfield 9, 3) := by decide +kernel
theorem dX3_writeTurned_11 : decode cX3_writeTurned 11 = .ok (.aload_n 1, 1) := by decide +kernel
theorem dX3_writeTurned_12 : decode cX3_writeTurned 12 = .ok (.getfield 82, 3) := by decide +kernel
theorem dX3_writeTurned_15 : decode cX3_writeTurned 15 = .ok (.iload_n 3, 1) := by decide +kernel
theorem dX3_writeTurned_16 : decode cX3_writeTurned 16 = .ok (.invokevirtual 105, 3) := by decide +kernel
theorem dX3_writeTurned_19 : decode cX3_writeTurned 19 = .ok (.iadd, 1) := by decide +kernel
theorem dX3_writeTurned_20 : decode cX3_writeTurned 20 = .ok (.istore 8, 2) := by decide +kernel
theorem dX3_writeTurned_22 : decode cX3_writeTurned 22 = .ok (.iconst 0, 1) := by decide +kernel
theorem dX3_writeTurned_23 : decode cX3_writeTurned 23 = .ok (.istore 9, 2) := by decide +kernel
theorem dX3_writeTurned_25 : decode cX3_writeTurned 25 = .ok (.iload 9, 2) := by decide +kernel
theorem dX3_writeTurned_27 : decode cX3_writeTurned 27 = .ok (.aload_n 1, 1) := by decide +kernel
theorem dX3_writeTurned_28 : decode cX3_writeTurned 28 = .ok (.getfield 138, 3) := by decide +kernel
theorem dX3_writeTurned_31 : decode cX3_writeTurned 31 = .ok (.if_icmp .ge 159, 3) := by decide +kernel
theorem dX3_writeTurned_34 : decode cX3_writeTurned 34 = .ok (.iload 7, 2) := by decide +kernel
theorem dX3_writeTurned_36 : decode cX3_writeTurned 36 = .ok (.aload_n 1, 1) := by decide +kernel
theorem dX3_writeTurned_37 : decode cX3_writeTurned 37 = .ok (.getfield 79, 3) := by decide +kernel
theorem dX3_writeTurned_40 : decode cX3_writeTurned 40 = .ok (.iload 9, 2) := by decide +kernel
theorem dX3_writeTurned_42 : decode cX3_writeTurned 42 = .ok (.iaload, 1) := by decide +kernel
theorem dX3_writeTurned_43 : decode cX3_writeTurned 43 = .ok (.iadd, 1) := by decide +kernel
theorem dX3_writeTurned_44 : decode cX3_writeTurned 44 = .ok (.istore 10, 2) := by decide +kernel
theorem dX3_writeTurned_46 : decode cX3_writeTurned 46 = .ok (.iload 7, 2) := by decide +kernel
theorem dX3_writeTurned_48 : decode cX3_writeTurned 48 = .ok (.aload_n 1, 1) := by decide +kernel
theorem dX3_writeTurned_49 : decode cX3_writeTurned 49 = .ok (.getfield 79, 3) := by decide +kernel
theorem dX3_writeTurned_52 : decode cX3_writeTurned 52 = .ok (.iload 9, 2) := by decide +kernel
theorem dX3_writeTurned_54 : decode cX3_writeTurned 54 = .ok (.iconst 1, 1) := by decide +kernel
theorem dX3_writeTurned_55 : decode cX3_writeTurned 55 = .ok (.iadd, 1) := by decide +kernel
theorem dX3_writeTurned_56 : decode cX3_writeTurned 56 = .ok (.iaload, 1) := by decide +kernel
theorem dX3_writeTurned_57 : decode cX3_writeTurned 57 = .ok (.iadd, 1) := by decide +kernel
theorem dX3_writeTurned_58 : decode cX3_writeTurned 58 = .ok (.istore 11, 2) := by decide +kernel
theorem dX3_writeTurned_60 : decode cX3_writeTurned 60 = .ok (.aload_n 0, 1) := by decide +kernel
theorem dX3_writeTurned_61 : decode cX3_writeTurned 61 = .ok (.getfield 19, 3) := by decide +kernel
theorem dX3_writeTurned_64 : decode cX3_writeTurned 64 = .ok (.iconst 0, 1) := by decide +kernel
theorem dX3_writeTurned_65 : decode cX3_writeTurned 65 = .ok (.putfield 123, 3) := by decide +kernel
theorem dX3_writeTurned_68 : decode cX3_writeTurned 68 = .ok (.iload 9, 2) := by decide +kernel
theorem dX3_writeTurned_70 : decode cX3_writeTurned 70 = .ok (.iload_n 2, 1) := by decide +kernel
theorem dX3_writeTurned_71 : decode cX3_writeTurned 71 = .ok (.if_icmp .eq 19, 3) := by decide +kernel
theorem dX3_writeTurned_74 : decode cX3_writeTurned 74 = .ok (.aload_n 0, 1) := by decide +kernel
theorem dX3_writeTurned_75 : decode cX3_writeTurned 75 = .ok (.getfield 19, 3) := by decide +kernel
theorem dX3_writeTurned_78 : decode cX3_writeTurned 78 = .ok (.iload 10, 2) := by decide +kernel
theorem dX3_writeTurned_80 : decode cX3_writeTurned 80 = .ok (.iload 11, 2) := by decide +kernel
theorem dX3_writeTurned_82 : decode cX3_writeTurned 82 = .ok (.bipush 30, 2) := by decide +kernel
theorem dX3_writeTurned_84 : decode cX3_writeTurned 84 = .ok (.invokevirtual 125, 3) := by decide +kernel
theorem dX3_writeTurned_87 : decode cX3_writeTurned 87 = .ok (.goto 58, 3) := by decide +kernel
theorem dX3_writeTurned_90 : decode cX3_writeTurned 90 = .ok (.aload_n 0, 1) := by decide +kernel
theorem dX3_writeTurned_91 : decode cX3_writeTurned 91 = .ok (.getfield 19, 3) := by decide +kernel
theorem dX3_writeTurned_94 : decode cX3_writeTurned 94 = .ok (.iload 10, 2) := by decide +kernel
theorem dX3_writeTurned_96 : decode cX3_writeTurned 96 = .ok (.iload 7, 2) := by decide +kernel
theorem dX3_writeTurned_98 : decode cX3_writeTurned 98 = .ok (.iload_n 3, 1) := by decide +kernel
theorem dX3_writeTurned_99 : decode cX3_writeTurned 99 = .ok (.iadd, 1) := by decide +kernel
theorem dX3_writeTurned_100 : decode cX3_writeTurned 100 = .ok (.bipush 30, 2) := by decide +kernel
theorem dX3_writeTurned_102 : decode cX3_writeTurned 102 = .ok (.invokevirtual 125, 3) := by decide +kernel
theorem dX3_writeTurned_105 : decode cX3_writeTurned 105 = .ok (.ifCond .eq 39, 3) := by decide +kernel
theorem dX3_writeTurned_108 : decode cX3_writeTurned 108 = .ok (.aload_n 0, 1) := by decide +kernel
theorem dX3_writeTurned_109 : decode cX3_writeTurned 109 = .ok (.getfield 19, 3) := by decide +kernel
theorem dX3_writeTurned_112 : decode cX3_writeTurned 112 = .ok (.iload 4, 2) := by decide +kernel
theorem dX3_writeTurned_114 : decode cX3_writeTurned 114 = .ok (.iload 5, 2) := by decide +kernel
theorem dX3_writeTurned_116 : decode cX3_writeTurned 116 = .ok (.bipush 30, 2) := by decide +kernel
theorem dX3_writeTurned_118 : decode cX3_writeTurned 118 = .ok (.invokevirtual 125, 3) := by decide +kernel
theorem dX3_writeTurned_121 : decode cX3_writeTurned 121 = .ok (.ifCond .eq 23, 3) := by decide +kernel
theorem dX3_writeTurned_124 : decode cX3_writeTurned 124 = .ok (.aload_n 0, 1) := by decide +kernel
theorem dX3_writeTurned_125 : decode cX3_writeTurned 125 = .ok (.getfield 19, 3) := by decide +kernel
theorem dX3_writeTurned_128 : decode cX3_writeTurned 128 = .ok (.iload 8, 2) := by decide +kernel
theorem dX3_writeTurned_130 : decode cX3_writeTurned 130 = .ok (.iload 11, 2) := by decide +kernel
theorem dX3_writeTurned_132 : decode cX3_writeTurned 132 = .ok (.bipush 30, 2) := by decide +kernel
theorem dX3_writeTurned_134 : decode cX3_writeTurned 134 = .ok (.invokevirtual 125, 3) := by decide +kernel
theorem dX3_writeTurned_137 : decode cX3_writeTurned 137 = .ok (.ifCond .eq 7, 3) := by decide +kernel
theorem dX3_writeTurned_140 : decode cX3_writeTurned 140 = .ok (.iconst 1, 1) := by decide +kernel
theorem dX3_writeTurned_141 : decode cX3_writeTurned 141 = .ok (.goto 4, 3) := by decide +kernel
theorem dX3_writeTurned_144 : decode cX3_writeTurned 144 = .ok (.iconst 0, 1) := by decide +kernel
theorem dX3_writeTurned_145 : decode cX3_writeTurned 145 = .ok (.istore 12, 2) := by decide +kernel
theorem dX3_writeTurned_147 : decode cX3_writeTurned 147 = .ok (.iload 12, 2) := by decide +kernel
theorem dX3_writeTurned_149 : decode cX3_writeTurned 149 = .ok (.ifCond .eq 33, 3) := by decide +kernel
theorem dX3_writeTurned_152 : decode cX3_writeTurned 152 = .ok (.aload 6, 2) := by decide +kernel
theorem dX3_writeTurned_154 : decode cX3_writeTurned 154 = .ok (.aload_n 1, 1) := by decide +kernel
theorem dX3_writeTurned_155 : decode cX3_writeTurned 155 = .ok (.getfield 141, 3) := by decide +kernel
theorem dX3_writeTurned_158 : decode cX3_writeTurned 158 = .ok (.iload 9, 2) := by decide +kernel
theorem dX3_writeTurned_160 : decode cX3_writeTurned 160 = .ok (.baload, 1) := by decide +kernel
theorem dX3_writeTurned_161 : decode cX3_writeTurned 161 = .ok (.aload_n 0, 1) := by decide +kernel
theorem dX3_writeTurned_162 : decode cX3_writeTurned 162 = .ok (.getfield 19, 3) := by decide +kernel
theorem dX3_writeTurned_165 : decode cX3_writeTurned 165 = .ok (.getfield 129, 3) := by decide +kernel
theorem dX3_writeTurned_168 : decode cX3_writeTurned 168 = .ok (.iconst 0, 1) := by decide +kernel
theorem dX3_writeTurned_169 : decode cX3_writeTurned 169 = .ok (.aload_n 0, 1) := by decide +kernel
theorem dX3_writeTurned_170 : decode cX3_writeTurned 170 = .ok (.getfield 19, 3) := by decide +kernel
theorem dX3_writeTurned_173 : decode cX3_writeTurned 173 = .ok (.getfield 123, 3) := by decide +kernel
theorem dX3_writeTurned_176 : decode cX3_writeTurned 176 = .ok (.invokevirtual 145, 3) := by decide +kernel
theorem dX3_writeTurned_179 : decode cX3_writeTurned 179 = .ok (.ifCond .ne 5, 3) := by decide +kernel
theorem dX3_writeTurned_182 : decode cX3_writeTurned 182 = .ok (.iconst 0, 1) := by decide +kernel
theorem dX3_writeTurned_183 : decode cX3_writeTurned 183 = .ok (.ireturn, 1) := by decide +kernel
theorem dX3_writeTurned_184 : decode cX3_writeTurned 184 = .ok (.iinc 9 1, 3) := by decide +kernel
theorem dX3_writeTurned_187 : decode cX3_writeTurned 187 = .ok (.goto (-162), 3) := by decide +kernel
theorem dX3_writeTurned_190 : decode cX3_writeTurned 190 = .ok (.iconst 1, 1) := by decide +kernel
theorem dX3_writeTurned_191 : decode cX3_writeTurned 191 = .ok (.ireturn, 1) := by decide +kernel
theorem dX4_init_0 : decode cX4_init 0 = .ok (.aload_n 0, 1) := by decide +kernel
theorem dX4_init_1 : decode cX4_init 1 = .ok (.invokespecial 3, 3) := by decide +kernel
theorem dX4_init_4 : decode cX4_init 4 = .ok (.aload_n 0, 1) := by decide +kernel
theorem dX4_init_5 : decode cX4_init 5 = .ok (.sipush 300, 3) := by decide +kernel
theorem dX4_init_8 : decode cX4_init 8 = .ok (.newarray .int, 2) := by decide +kernel
theorem dX4_init_10 : decode cX4_init 10 = .ok (.putfield 9, 3) := by decide +kernel
theorem dX4_init_13 : decode cX4_init 13 = .ok (.aload_n 0, 1) := by decide +kernel
theorem dX4_init_14 : decode cX4_init 14 = .ok (.sipush 300, 3) := by decide +kernel
theorem dX4_init_17 : decode cX4_init 17 = .ok (.newarray .int, 2) := by decide +kernel
theorem dX4_init_19 : decode cX4_init 19 = .ok (.putfield 15, 3) := by decide +kernel
theorem dX4_init_22 : decode cX4_init 22 = .ok (.aload_n 0, 1) := by decide +kernel
theorem dX4_init_23 : decode cX4_init 23 = .ok (.sipush 300, 3) := by decide +kernel
theorem dX4_init_26 : decode cX4_init 26 = .ok (.newarray .int, 2) := by decide +kernel
theorem dX4_init_28 : decode cX4_init 28 = .ok (.putfield 18, 3) := by decide +kernel
theorem dX4_init_31 : decode cX4_init 31 = .ok (.aload_n 0, 1) := by decide +kernel
theorem dX4_init_32 : decode cX4_init 32 = .ok (.iconst 0, 1) := by decide +kernel
theorem dX4_init_33 : decode cX4_init 33 = .ok (.putfield 21, 3) := by decide +kernel
theorem dX4_init_36 : decode cX4_init 36 = .ok (.aload_n 0, 1) := by decide +kernel
theorem dX4_init_37 : decode cX4_init 37 = .ok (.iconst 0, 1) := by decide +kernel
theorem dX4_init_38 : decode cX4_init 38 = .ok (.putfield 25, 3) := by decide +kernel
theorem dX4_init_41 : decode cX4_init 41 = .ok (.aload_n 0, 1) := by decide +kernel
theorem dX4_init_42 : decode cX4_init 42 = .ok (.iconst 0, 1) := by decide +kernel
theorem dX4_init_43 : decode cX4_init 43 = .ok (.putfield 28, 3) := by decide +kernel
theorem dX4_init_46 : decode cX4_init 46 = .ok (.aload_n 0, 1) := by decide +kernel
theorem dX4_init_47 : decode cX4_init 47 = .ok (.bipush 32, 2) := by decide +kernel
theorem dX4_init_49 : decode cX4_init 49 = .ok (.newarray .int, 2) := by decide +kernel
theorem dX4_init_51 : decode cX4_init 51 = .ok (.putfield 31, 3) := by decide +kernel
theorem dX4_init_54 : decode cX4_init 54 = .ok (.aload_n 0, 1) := by decide +kernel
theorem dX4_init_55 : decode cX4_init 55 = .ok (.iconst 0, 1) := by decide +kernel
theorem dX4_init_56 : decode cX4_init 56 = .ok (.putfield 34, 3) := by decide +kernel
theorem dX4_init_59 : decode cX4_init 59 = .ok (.aload_n 0, 1) := by decide +kernel
theorem dX4_init_60 : decode cX4_init 60 = .ok (.aload_n 1, 1) := by decide +kernel
theorem dX4_init_61 : decode cX4_init 61 = .ok (.putfield 37, 3) := by decide +kernel
theorem dX4_init_64 : decode cX4_init 64 = .ok (.aload_n 0, 1) := by decide +kernel
theorem dX4_init_65 : decode cX4_init 65 = .ok (.aload_n 2, 1) := by decide +kernel
theorem dX4_init_66 : decode cX4_init 66 = .ok (.putfield 41, 3) := by decide +kernel
theorem dX4_init_69 : decode cX4_init 69 = .ok (.aload_n 0, 1) := by decide +kernel
theorem dX4_init_70 : decode cX4_init 70 = .ok (.aload_n 3, 1) := by decide +kernel
theorem dX4_init_71 : decode cX4_init 71 = .ok (.putfield 45, 3) := by decide +kernel
theorem dX4_init_74 : decode cX4_init 74 = .ok (.aload_n 0, 1) := by decide +kernel
theorem dX4_init_75 : decode cX4_init 75 = .ok (.aload 4, 2) := by decide +kernel
theorem dX4_init_77 : decode cX4_init 77 = .ok (.putfield 49, 3) := by decide +kernel
theorem dX4_init_80 : decode cX4_init 80 = .ok (.return_, 1) := by decide +kernel
theorem dX4_prepare_0 : decode cX4_prepare 0 = .ok (.aload_n 0, 1) := by decide +kernel
theorem dX4_prepare_1 : decode cX4_prepare 1 = .ok (.iconst 0, 1) := by decide +kernel
theorem dX4_prepare_2 : decode cX4_prepare 2 = .ok (.putfield 34, 3) := by decide +kernel
theorem dX4_prepare_5 : decode cX4_prepare 5 = .ok (.aload_n 0, 1) := by decide +kernel
theorem dX4_prepare_6 : decode cX4_prepare 6 = .ok (.iconst 0, 1) := by decide +kernel
theorem dX4_prepare_7 : decode cX4_prepare 7 = .ok (.putfield 21, 3) := by decide +kernel
theorem dX4_prepare_10 : decode cX4_prepare 10 = .ok (.iconst 0, 1) := by decide +kernel
theorem dX4_prepare_11 : decode cX4_prepare 11 = .ok (.istore_n 1, 1) := by decide +kernel
theorem dX4_prepare_12 : decode cX4_prepare 12 = .ok (.iload_n 1, 1) := by decide +kernel
theorem dX4_prepare_13 : decode cX4_prepare 13 = .ok (.aload_n 0, 1) := by decide +kernel
theorem dX4_prepare_14 : decode cX4_prepare 14 = .ok (.getfield 49, 3) := by decide +kernel
theorem dX4_prepare_17 : decode cX4_prepare 17 = .ok (.getfield 53, 3) := by decide +kernel
theorem dX4_prepare_20 : decode cX4_prepare 20 = .ok (.if_icmp .ge 55, 3) := by decide +kernel
theorem dX4_prepare_23 : decode cX4_prepare 23 = .ok (.aload_n 0, 1) := by decide +kernel
theorem dX4_prepare_24 : decode cX4_prepare 24 = .ok (.getfield 49, 3) := by decide +kernel
theorem dX4_prepare_27 : decode cX4_prepare 27 = .ok (.iload_n 1, 1) := by decide +kernel
theorem dX4_prepare_28 : decode cX4_prepare 28 = .ok (.invokevirtual 58, 3) := by decide +kernel
theorem dX4_prepare_31 : decode cX4_prepare 31 = .ok (.astore_n 2, 1) := by decide +kernel
theorem dX4_prepare_32 : decode cX4_prepare 32 = .ok (.aload_n 2, 1) := by decide +kernel
theorem dX4_prepare_33 : decode cX4_prepare 33 = .ok (.ifnull 36, 3) := by decide +kernel
theorem dX4_prepare_36 : decode cX4_prepare 36 = .ok (.aload_n 2, 1) := by decide +kernel
theorem dX4_prepare_37 : decode cX4_prepare 37 = .ok (.invokevirtual 62, 3) := by decide +kernel
theorem dX4_prepare_40 : decode cX4_prepare 40 = .ok (.ifCond .eq 29, 3) := by decide +kernel
theorem dX4_prepare_43 : decode cX4_prepare 43 = .ok (.aload_n 2, 1) := by decide +kernel
theorem dX4_prepare_44 : decode cX4_prepare 44 = .ok (.getfield 68, 3) := by decide +kernel
theorem dX4_prepare_47 : decode cX4_prepare 47 = .ok (.ifCond .eq 22, 3) := by decide +kernel
theorem dX4_prepare_50 : decode cX4_prepare 50 = .ok (.aload_n 0, 1) := by decide +kernel
theorem dX4_prepare_51 : decode cX4_prepare 51 = .ok (.aload_n 2, 1) := by decide +kernel
theorem dX4_prepare_52 : decode cX4_prepare 52 = .ok (.iconst 0, 1) := by decide +kernel
theorem dX4_prepare_53 : decode cX4_prepare 53 = .ok (.invokevirtual 72, 3) := by decide +kernel
theorem dX4_prepare_56 : decode cX4_prepare 56 = .ok (.aload_n 2, 1) := by decide +kernel
theorem dX4_prepare_57 : decode cX4_prepare 57 = .ok (.getfield 76, 3) := by decide +kernel
theorem dX4_prepare_60 : decode cX4_prepare 60 = .ok (.ifCond .ne 9, 3) := by decide +kernel
theorem dX4_prepare_63 : decode cX4_prepare 63 = .ok (.aload_n 0, 1) := by decide +kernel
theorem dX4_prepare_64 : decode cX4_prepare 64 = .ok (.aload_n 2, 1) := by decide +kernel
theorem dX4_prepare_65 : decode cX4_prepare 65 = .ok (.iconst 1, 1) := by decide +kernel
theorem dX4_prepare_66 : decode cX4_prepare 66 = .ok (.invokevirtual 72, 3) := by decide +kernel
theorem dX4_prepare_69 : decode cX4_prepare 69 = .ok (.iinc 1 1, 3) := by decide +kernel
theorem dX4_prepare_72 : decode cX4_prepare 72 = .ok (.goto (-60), 3) := by decide +kernel
theorem dX4_prepare_75 : decode cX4_prepare 75 = .ok (.return_, 1) := by decide +kernel
theorem dX4_list_0 : decode cX4_list 0 = .ok (.aload_n 0, 1) := by decide +kernel
theorem dX4_list_1 : decode cX4_list 1 = .ok (.getfield 21, 3) := by decide +kernel
theorem dX4_list_4 : decode cX4_list 4 = .ok (.aload_n 0, 1) := by decide +kernel
theorem dX4_list_5 : decode cX4_list 5 = .ok (.getfield 9, 3) := by decide +kernel
theorem dX4_list_8 : decode cX4_list 8 = .ok (.arraylength, 1) := by decide +kernel
theorem dX4_list_9 : decode cX4_list 9 = .ok (.if_icmp .ge 65, 3) := by decide +kernel
theorem dX4_list_12 : decode cX4_list 12 = .ok (.aload_n 0, 1) := by decide +kernel
theorem dX4_list_13 : decode cX4_list 13 = .ok (.getfield 9, 3) := by decide +kernel
theorem dX4_list_16 : decode cX4_list 16 = .ok (.aload_n 0, 1) := by decide +kernel
theorem dX4_list_17 : decode cX4_list 17 = .ok (.getfield 21, 3) := by decide +kernel
theorem dX4_list_20 : decode cX4_list 20 = .ok (.aload_n 1, 1) := by decide +kernel
theorem dX4_list_21 : decode cX4_list 21 = .ok (.getfield 79, 3) := by decide +kernel
theorem dX4_list_24 : decode cX4_list 24 = .ok (.iastore, 1) := by decide +kernel
theorem dX4_list_25 : decode cX4_list 25 = .ok (.aload_n 0, 1) := by decide +kernel
theorem dX4_list_26 : decode cX4_list 26 = .ok (.getfield 15, 3) := by decide +kernel
theorem dX4_list_29 : decode cX4_list 29 = .ok (.aload_n 0, 1) := by decide +kernel
theorem dX4_list_30 : decode cX4_list 30 = .ok (.getfield 21, 3) := by decide +kernel
theorem dX4_list_33 : decode cX4_list 33 = .ok (.iload_n 2, 1) := by decide +kernel
theorem dX4_list_34 : decode cX4_list 34 = .ok (.iastore, 1) := by decide +kernel
theorem dX4_list_35 : decode cX4_list 35 = .ok (.aload_n 0, 1) := by decide +kernel
theorem dX4_list_36 : decode cX4_list 36 = .ok (.getfield 18, 3) := by decide +kernel
theorem dX4_list_39 : decode cX4_list 39 = .ok (.aload_n 0, 1) := by decide +kernel
theorem dX4_list_40 : decode cX4_list 40 = .ok (.getfield 21, 3) := by decide +kernel
theorem dX4_list_43 : decode cX4_list 43 = .ok (.aload_n 1, 1) := by decide +kernel
theorem dX4_list_44 : decode cX4_list 44 = .ok (.getfield 82, 3) := by decide +kernel
theorem dX4_list_47 : decode cX4_list 47 = .ok (.getfield 86, 3) := by decide +kernel
theorem dX4_list_50 : decode cX4_list 50 = .ok (.iload_n 2, 1) := by decide +kernel
theorem dX4_list_51 : decode cX4_list 51 = .ok (.ifCond .ne 7, 3) := by decide +kernel
theorem dX4_list_54 : decode cX4_list 54 = .ok (.iconst 1, 1) := by decide +kernel
theorem dX4_list_55 : decode cX4_list 55 = .ok (.goto 7, 3) := by decide +kernel
theorem dX4_list_58 : decode cX4_list 58 = .ok (.aload_n 1, 1) := by decide +kernel
theorem dX4_list_59 : decode cX4_list 59 = .ok (.getfield 91, 3) := by decide +kernel
theorem dX4_list_62 : decode cX4_list 62 = .ok (.iaload, 1) := by decide +kernel
theorem dX4_list_63 : decode cX4_list 63 = .ok (.iastore, 1) := by decide +kernel
theorem dX4_list_64 : decode cX4_list 64 = .ok (.aload_n 0, 1) := by decide +kernel
theorem dX4_list_65 : decode cX4_list 65 = .ok (.dup, 1) := by decide +kernel
theorem dX4_list_66 : decode cX4_list 66 = .ok (.getfield 21, 3) := by decide +kernel
theorem dX4_list_69 : decode cX4_list 69 = .ok (.iconst 1, 1) := by decide +kernel
theorem dX4_list_70 : decode cX4_list 70 = .ok (.iadd, 1) := by decide +kernel
theorem dX4_list_71 : decode cX4_list 71 = .ok (.putfield 21, 3) := by decide +kernel
theorem dX4_list_74 : decode cX4_list 74 = .ok (.return_, 1) := by decide +kernel
theorem dX4_rewrite_0 : decode cX4_rewrite 0 = .ok (.aload_n 0, 1) := by decide +kernel
theorem dX4_rewrite_1 : decode cX4_rewrite 1 = .ok (.invokevirtual 94, 3) := by decide +kernel
theorem dX4_rewrite_4 : decode cX4_rewrite 4 = .ok (.iconst 0, 1) := by decide +kernel
theorem dX4_rewrite_5 : decode cX4_rewrite 5 = .ok (.istore_n 3, 1) := by decide +kernel
theorem dX4_rewrite_6 : decode cX4_rewrite 6 = .ok (.iload_n 3, 1) := by decide +kernel
theorem dX4_rewrite_7 : decode cX4_rewrite 7 = .ok (.bipush 8, 2) := by decide +kernel
theorem dX4_rewrite_9 : decode cX4_rewrite 9 = .ok (.if_icmp .ge 51, 3) := by decide +kernel
theorem dX4_rewrite_12 : decode cX4_rewrite 12 = .ok (.aload_n 0, 1) := by decide +kernel
theorem dX4_rewrite_13 : decode cX4_rewrite 13 = .ok (.aload_n 1, 1) := by decide +kernel
theorem dX4_rewrite_14 : decode cX4_rewrite 14 = .ok (.invokevirtual 97, 3) := by decide +kernel
theorem dX4_rewrite_17 : decode cX4_rewrite 17 = .ok (.ifCond .eq 43, 3) := by decide +kernel
theorem dX4_rewrite_20 : decode cX4_rewrite 20 = .ok (.aload_n 0, 1) := by decide +kernel
theorem dX4_rewrite_21 : decode cX4_rewrite 21 = .ok (.aload_n 1, 1) := by decide +kernel
theorem dX4_rewrite_22 : decode cX4_rewrite 22 = .ok (.aload_n 0, 1) := by decide +kernel
theorem dX4_rewrite_23 : decode cX4_rewrite 23 = .ok (.getfield 25, 3) := by decide +kernel
theorem dX4_rewrite_26 : decode cX4_rewrite 26 = .ok (.aload_n 0, 1) := by decide +kernel
theorem dX4_rewrite_27 : decode cX4_rewrite 27 = .ok (.getfield 28, 3) := by decide +kernel
theorem dX4_rewrite_30 : decode cX4_rewrite 30 = .ok (.invokevirtual 101, 3) := by decide +kernel
theorem dX4_rewrite_33 : decode cX4_rewrite 33 = .ok (.ifCond .ne 5, 3) := by decide +kernel
theorem dX4_rewrite_36 : decode cX4_rewrite 36 = .ok (.iconst 0, 1) := by decide +kernel
theorem dX4_rewrite_37 : decode cX4_rewrite 37 = .ok (.ireturn, 1) := by decide +kernel
theorem dX4_rewrite_38 : decode cX4_rewrite 38 = .ok (.aload_n 0, 1) := by decide +kernel
theorem dX4_rewrite_39 : decode cX4_rewrite 39 = .ok (.dup, 1) := by decide +kernel
theorem dX4_rewrite_40 : decode cX4_rewrite 40 = .ok (.getfield 34, 3) := by decide +kernel
theorem dX4_rewrite_43 : decode cX4_rewrite 43 = .ok (.iconst 1, 1) := by decide +kernel
theorem dX4_rewrite_44 : decode cX4_rewrite 44 = .ok (.iadd, 1) := by decide +kernel
theorem dX4_rewrite_45 : decode cX4_rewrite 45 = .ok (.putfield 34, 3) := by decide +kernel
theorem dX4_rewrite_48 : decode cX4_rewrite 48 = .ok (.aload_n 2, 1) := by decide +kernel
theorem dX4_rewrite_49 : decode cX4_rewrite 49 = .ok (.aload_n 1, 1) := by decide +kernel
theorem dX4_rewrite_50 : decode cX4_rewrite 50 = .ok (.invokevirtual 105, 3) := by decide +kernel
theorem dX4_rewrite_53 : decode cX4_rewrite 53 = .ok (.pop, 1) := by decide +kernel
theorem dX4_rewrite_54 : decode cX4_rewrite 54 = .ok (.iinc 3 1, 3) := by decide +kernel
theorem dX4_rewrite_57 : decode cX4_rewrite 57 = .ok (.goto (-51), 3) := by decide +kernel
theorem dX4_rewrite_60 : decode cX4_rewrite 60 = .ok (.iconst 1, 1) := by decide +kernel
theorem dX4_rewrite_61 : decode cX4_rewrite 61 = .ok (.ireturn, 1) := by decide +kernel
theorem dX4_findFirst_0 : decode cX4_findFirst 0 = .ok (.iconst 0, 1) := by decide +kernel
theorem dX4_findFirst_1 : decode cX4_findFirst 1 = .ok (.istore_n 2, 1) := by decide +kernel
theorem dX4_findFirst_2 : decode cX4_findFirst 2 = .ok (.iload_n 2, 1) := by decide +kernel
theorem dX4_findFirst_3 : decode cX4_findFirst 3 = .ok (.aload_n 1, 1) := by decide +kernel
theorem dX4_findFirst_4 : decode cX4_findFirst 4 = .ok (.getfield 110, 3) := by decide +kernel
theorem dX4_findFirst_7 : decode cX4_findFirst 7 = .ok (.if_icmp .ge 130, 3) := by decide +kernel
theorem dX4_findFirst_10 : decode cX4_findFirst 10 = .ok (.aload_n 0, 1) := by decide +kernel
theorem dX4_findFirst_11 : decode cX4_findFirst 11 = .ok (.getfield 21, 3) := by decide +kernel
theorem dX4_findFirst_14 : decode cX4_findFirst 14 = .ok (.ifCond .le 123, 3) := by decide +kernel
theorem dX4_findFirst_17 : decode cX4_findFirst 17 = .ok (.aload_n 1, 1) := by decide +kernel
theorem dX4_findFirst_18 : decode cX4_findFirst 18 = .ok (.getfield 113, 3) := by decide +kernel
theorem dX4_findFirst_21 : decode cX4_findFirst 21 = .ok (.iload_n 2, 1) := by decide +kernel
theorem dX4_findFirst_22 : decode cX4_findFirst 22 = .ok (.iaload, 1) := by decide +kernel
theorem dX4_findFirst_23 : decode cX4_findFirst 23 = .ok (.iconst 1, 1) := by decide +kernel
theorem dX4_findFirst_24 : decode cX4_findFirst 24 = .ok (.iadd, 1) := by decide +kernel
theorem dX4_findFirst_25 : decode cX4_findFirst 25 = .ok (.istore_n 3, 1) := by decide +kernel
theorem dX4_findFirst_26 : decode cX4_findFirst 26 = .ok (.iload_n 3, 1) := by decide +kernel
theorem dX4_findFirst_27 : decode cX4_findFirst 27 = .ok (.aload_n 1, 1) := by decide +kernel
theorem dX4_findFirst_28 : decode cX4_findFirst 28 = .ok (.getfield 113, 3) := by decide +kernel
theorem dX4_findFirst_31 : decode cX4_findFirst 31 = .ok (.iload_n 2, 1) := by decide +kernel
theorem dX4_findFirst_32 : decode cX4_findFirst 32 = .ok (.iconst 1, 1) := by decide +kernel
theorem dX4_findFirst_33 : decode cX4_findFirst 33 = .ok (.iadd, 1) := by decide +kernel
theorem dX4_findFirst_34 : decode cX4_findFirst 34 = .ok (.iaload, 1) := by decide +kernel
theorem dX4_findFirst_35 : decode cX4_findFirst 35 = .ok (.if_icmp .ge 96, 3) := by decide +kernel
theorem dX4_findFirst_38 : decode cX4_findFirst 38 = .ok (.aload_n 1, 1) := by decide +kernel
theorem dX4_findFirst_39 : decode cX4_findFirst 39 = .ok (.getfield 86, 3) := by decide +kernel
theorem dX4_findFirst_42 : decode cX4_findFirst 42 = .ok (.iload_n 3, 1) := by decide +kernel
theorem dX4_findFirst_43 : decode cX4_findFirst 43 = .ok (.iaload, 1) := by decide +kernel
theorem dX4_findFirst_44 : decode cX4_findFirst 44 = .ok (.istore 4, 2) := by decide +kernel
theorem dX4_findFirst_46 : decode cX4_findFirst 46 = .ok (.iconst 0, 1) := by decide +kernel
theorem dX4_findFirst_47 : decode cX4_findFirst 47 = .ok (.istore 5, 2) := by decide +kernel
theorem dX4_findFirst_49 : decode cX4_findFirst 49 = .ok (.iload 5, 2) := by decide +kernel
theorem dX4_findFirst_51 : decode cX4_findFirst 51 = .ok (.aload_n 0, 1) := by decide +kernel
theorem dX4_findFirst_52 : decode cX4_findFirst 52 = .ok (.getfield 21, 3) := by decide +kernel
theorem dX4_findFirst_55 : decode cX4_findFirst 55 = .ok (.if_icmp .ge 70, 3) := by decide +kernel
theorem dX4_findFirst_58 : decode cX4_findFirst 58 = .ok (.iload 4, 2) := by decide +kernel
theorem dX4_findFirst_60 : decode cX4_findFirst 60 = .ok (.ifCond .lt 65, 3) := by decide +kernel
theorem dX4_findFirst_63 : decode cX4_findFirst 63 = .ok (.aload_n 0, 1) := by decide +kernel
theorem dX4_findFirst_64 : decode cX4_findFirst 64 = .ok (.getfield 18, 3) := by decide +kernel
theorem dX4_findFirst_67 : decode cX4_findFirst 67 = .ok (.iload 5, 2) := by decide +kernel
theorem dX4_findFirst_69 : decode cX4_findFirst 69 = .ok (.iaload, 1) := by decide +kernel
theorem dX4_findFirst_70 : decode cX4_findFirst 70 = .ok (.ifCond .lt 15, 3) := by decide +kernel
theorem dX4_findFirst_73 : decode cX4_findFirst 73 = .ok (.aload_n 0, 1) := by decide +kernel
theorem dX4_findFirst_74 : decode cX4_findFirst 74 = .ok (.getfield 18, 3) := by decide +kernel
theorem dX4_findFirst_77 : decode cX4_findFirst 77 = .ok (.iload 5, 2) := by decide +kernel
theorem dX4_findFirst_79 : decode cX4_findFirst 79 = .ok (.iaload, 1) := by decide +kernel
theorem dX4_findFirst_80 : decode cX4_findFirst 80 = .ok (.iload 4, 2) := by decide +kernel
theorem dX4_findFirst_82 : decode cX4_findFirst 82 = .ok (.if_icmp .ne 37, 3) := by decide +kernel
theorem dX4_findFirst_85 : decode cX4_findFirst 85 = .ok (.aload_n 0, 1) := by decide +kernel
theorem dX4_findFirst_86 : decode cX4_findFirst 86 = .ok (.aload_n 0, 1) := by decide +kernel
theorem dX4_findFirst_87 : decode cX4_findFirst 87 = .ok (.getfield 9, 3) := by decide +kernel
theorem dX4_findFirst_90 : decode cX4_findFirst 90 = .ok (.iload 5, 2) := by decide +kernel
theorem dX4_findFirst_92 : decode cX4_findFirst 92 = .ok (.iaload, 1) := by decide +kernel
theorem dX4_findFirst_93 : decode cX4_findFirst 93 = .ok (.aload_n 0, 1) := by decide +kernel
theorem dX4_findFirst_94 : decode cX4_findFirst 94 = .ok (.getfield 15, 3) := by decide +kernel
theorem dX4_findFirst_97 : decode cX4_findFirst 97 = .ok (.iload 5, 2) := by decide +kernel
theorem dX4_findFirst_99 : decode cX4_findFirst 99 = .ok (.iaload, 1) := by decide +kernel
theorem dX4_findFirst_100 : decode cX4_findFirst 100 = .ok (.aload_n 1, 1) := by decide +kernel
theorem dX4_findFirst_101 : decode cX4_findFirst 101 = .ok (.iload_n 3, 1) := by decide +kernel
theorem dX4_findFirst_102 : decode cX4_findFirst 102 = .ok (.invokevirtual 116, 3) := by decide +kernel
theorem dX4_findFirst_105 : decode cX4_findFirst 105 = .ok (.ifCond .eq 14, 3) := by decide +kernel
theorem dX4_findFirst_108 : decode cX4_findFirst 108 = .ok (.aload_n 0, 1) := by decide +kernel
theorem dX4_findFirst_109 : decode cX4_findFirst 109 = .ok (.iload 5, 2) := by decide +kernel
theorem dX4_findFirst_111 : decode cX4_findFirst 111 = .ok (.aload_n 1, 1) := by decide +kernel
theorem dX4_findFirst_112 : decode cX4_findFirst 112 = .ok (.iload_n 2, 1) := by decide +kernel
theorem dX4_findFirst_113 : decode cX4_findFirst 113 = .ok (.iload_n 3, 1) := by decide +kernel
theorem dX4_findFirst_114 : decode cX4_findFirst 114 = .ok (.invokevirtual 120, 3) := by decide +kernel
theorem dX4_findFirst_117 : decode cX4_findFirst 117 = .ok (.iconst 1, 1) := by decide +kernel
theorem dX4_findFirst_118 : decode cX4_findFirst 118 = .ok (.ireturn, 1) := by decide +kernel
theorem dX4_findFirst_119 : decode cX4_findFirst 119 = .ok (.iinc 5 1, 3) := by decide +kernel
theorem dX4_findFirst_122 : decode cX4_findFirst 122 = .ok (.goto (-73), 3) := by decide +kernel
theorem dX4_findFirst_125 : decode cX4_findFirst 125 = .ok (.iinc 3 1, 3) := by decide +kernel
theorem dX4_findFirst_128 : decode cX4_findFirst 128 = .ok (.goto (-102), 3) := by decide +kernel
theorem dX4_findFirst_131 : decode cX4_findFirst 131 = .ok (.iinc 2 1, 3) := by decide +kernel
theorem dX4_findFirst_134 : decode cX4_findFirst 134 = .ok (.goto (-132), 3) := by decide +kernel
theorem dX4_findFirst_137 : decode cX4_findFirst 137 = .ok (.iconst 0, 1) := by decide +kernel
theorem dX4_findFirst_138 : decode cX4_findFirst 138 = .ok (.ireturn, 1) := by decide +kernel
theorem dX4_note_0 : decode cX4_note 0 = .ok (.aload_n 0, 1) := by decide +kernel
theorem dX4_note_1 : decode cX4_note 1 = .ok (.iload_n 3, 1) := by decide +kernel
theorem dX4_note_2 : decode cX4_note 2 = .ok (.putfield 25, 3) := by decide +kernel
theorem dX4_note_5 : decode cX4_note 5 = .ok (.aload_n 0, 1) := by decide +kernel
theorem dX4_note_6 : decode cX4_note 6 = .ok (.iload 4, 2) := by decide +kernel
theorem dX4_note_8 : decode cX4_note 8 = .ok (.putfield 28, 3) := by decide +kernel
theorem dX4_note_11 : decode cX4_note 11 = .ok (.iconst 4, 1) := by decide +kernel
theorem dX4_note_12 : decode cX4_note 12 = .ok (.aload_n 0, 1) := by decide +kernel
theorem dX4_note_13 : decode cX4_note 13 = .ok (.getfield 34, 3) := by decide +kernel
theorem dX4_note_16 : decode cX4_note 16 = .ok (.imul, 1) := by decide +kernel
theorem dX4_note_17 : decode cX4_note 17 = .ok (.istore 5, 2) := by decide +kernel
theorem dX4_note_19 : decode cX4_note 19 = .ok (.iload 5, 2) := by decide +kernel
theorem dX4_note_21 : decode cX4_note 21 = .ok (.iconst 3, 1) := by decide +kernel
theorem dX4_note_22 : decode cX4_note 22 = .ok (.iadd, 1) := by decide +kernel
theorem dX4_note_23 : decode cX4_note 23 = .ok (.aload_n 0, 1) := by decide +kernel
theorem dX4_note_24 : decode cX4_note 24 = .ok (.getfield 31, 3) := by decide +kernel
theorem dX4_note_27 : decode cX4_note 27 = .ok (.arraylength, 1) := by decide +kernel
theorem dX4_note_28 : decode cX4_note 28 = .ok (.if_icmp .ge 59, 3) := by decide +kernel
theorem dX4_note_31 : decode cX4_note 31 = .ok (.aload_n 0, 1) := by decide +kernel
theorem dX4_note_32 : decode cX4_note 32 = .ok (.getfield 31, 3) := by decide +kernel
theorem dX4_note_35 : decode cX4_note 35 = .ok (.iload 5, 2) := by decide +kernel
theorem dX4_note_37 : decode cX4_note 37 = .ok (.aload_n 0, 1) := by decide +kernel
theorem dX4_note_38 : decode cX4_note 38 = .ok (.getfield 9, 3) := by decide +kernel
theorem dX4_note_41 : decode cX4_note 41 = .ok (.iload_n 1, 1) := by decide +kernel
theorem dX4_note_42 : decode cX4_note 42 = .ok (.iaload, 1) := by decide +kernel
theorem dX4_note_43 : decode cX4_note 43 = .ok (.iastore, 1) := by decide +kernel
theorem dX4_note_44 : decode cX4_note 44 = .ok (.aload_n 0, 1) := by decide +kernel
theorem dX4_note_45 : decode cX4_note 45 = .ok (.getfield 31, 3) := by decide +kernel
theorem dX4_note_48 : decode cX4_note 48 = .ok (.iload 5, 2) := by decide +kernel
theorem dX4_note_50 : decode cX4_note 50 = .ok (.iconst 1, 1) := by decide +kernel
theorem dX4_note_51 : decode cX4_note 51 = .ok (.iadd, 1) := by decide +kernel
theorem dX4_note_52 : decode cX4_note 52 = .ok (.aload_n 0, 1) := by decide +kernel
theorem dX4_note_53 : decode cX4_note 53 = .ok (.getfield 15, 3) := by decide +kernel
theorem dX4_note_56 : decode cX4_note 56 = .ok (.iload_n 1, 1) := by decide +kernel
theorem dX4_note_57 : decode cX4_note 57 = .ok (.iaload, 1) := by decide +kernel
theorem dX4_note_58 : decode cX4_note 58 = .ok (.iastore, 1) := by decide +kernel
theorem dX4_note_59 : decode cX4_note 59 = .ok (.aload_n 0, 1) := by decide +kernel
theorem dX4_note_60 : decode cX4_note 60 = .ok (.getfield 31, 3) := by decide +kernel
theorem dX4_note_63 : decode cX4_note 63 = .ok (.iload 5, 2) := by decide +kernel
theorem dX4_note_65 : decode cX4_note 65 = .ok (.iconst 2, 1) := by decide +kernel
theorem dX4_note_66 : decode cX4_note 66 = .ok (.iadd, 1) := by decide +kernel
theorem dX4_note_67 : decode cX4_note 67 = .ok (.iload_n 3, 1) := by decide +kernel
theorem dX4_note_68 : decode cX4_note 68 = .ok (.iastore, 1) := by decide +kernel
theorem dX4_note_69 : decode cX4_note 69 = .ok (.aload_n 0, 1) := by decide +kernel
theorem dX4_note_70 : decode cX4_note 70 = .ok (.getfield 31, 3) := by decide +kernel
theorem dX4_note_73 : decode cX4_note 73 = .ok (.iload 5, 2) := by decide +kernel
theorem dX4_note_75 : decode cX4_note 75 = .ok (.iconst 3, 1) := by decide +kernel
theorem dX4_note_76 : decode cX4_note 76 = .ok (.iadd, 1) := by decide +kernel
theorem dX4_note_77 : decode cX4_note 77 = .ok (.iload 4, 2) := by decide +kernel
theorem dX4_note_79 : decode cX4_note 79 = .ok (.aload_n 2, 1) := by decide +kernel
theorem dX4_note_80 : decode cX4_note 80 = .ok (.getfield 113, 3) := by decide +kernel
theorem dX4_note_83 : decode cX4_note 83 = .ok (.iload_n 3, 1) := by decide +kernel
theorem dX4_note_84 : decode cX4_note 84 = .ok (.iaload, 1) := by decide +kernel
theorem dX4_note_85 : decode cX4_note 85 = .ok (.isub, 1) := by decide +kernel
theorem dX4_note_86 : decode cX4_note 86 = .ok (.iastore, 1) := by decide +kernel
theorem dX4_note_87 : decode cX4_note 87 = .ok (.return_, 1) := by decide +kernel
theorem dX4_replace_0 : decode cX4_replace 0 = .ok (.aload_n 1, 1) := by decide +kernel
theorem dX4_replace_1 : decode cX4_replace 1 = .ok (.iload_n 2, 1) := by decide +kernel
theorem dX4_replace_2 : decode cX4_replace 2 = .ok (.iload_n 3, 1) := by decide +kernel
theorem dX4_replace_3 : decode cX4_replace 3 = .ok (.aload_n 0, 1) := by decide +kernel
theorem dX4_replace_4 : decode cX4_replace 4 = .ok (.getfield 37, 3) := by decide +kernel
theorem dX4_replace_7 : decode cX4_replace 7 = .ok (.aload_n 1, 1) := by decide +kernel
theorem dX4_replace_8 : decode cX4_replace 8 = .ok (.getfield 86, 3) := by decide +kernel
theorem dX4_replace_11 : decode cX4_replace 11 = .ok (.iload_n 3, 1) := by decide +kernel
theorem dX4_replace_12 : decode cX4_replace 12 = .ok (.invokevirtual 124, 3) := by decide +kernel
theorem dX4_replace_15 : decode cX4_replace 15 = .ok (.aload_n 0, 1) := by decide +kernel
theorem dX4_replace_16 : decode cX4_replace 16 = .ok (.getfield 45, 3) := by decide +kernel
theorem dX4_replace_19 : decode cX4_replace 19 = .ok (.getfield 130, 3) := by decide +kernel
theorem dX4_replace_22 : decode cX4_replace 22 = .ok (.aload_n 0, 1) := by decide +kernel
theorem dX4_replace_23 : decode cX4_replace 23 = .ok (.getfield 45, 3) := by decide +kernel
theorem dX4_replace_26 : decode cX4_replace 26 = .ok (.getfield 135, 3) := by decide +kernel
theorem dX4_replace_29 : decode cX4_replace 29 = .ok (.invokevirtual 138, 3) := by decide +kernel
theorem dX4_replace_32 : decode cX4_replace 32 = .ok (.ireturn, 1) := by decide +kernel
theorem dX4_fits_0 : decode cX4_fits 0 = .ok (.aload_n 0, 1) := by decide +kernel
theorem dX4_fits_1 : decode cX4_fits 1 = .ok (.getfield 49, 3) := by decide +kernel
theorem dX4_fits_4 : decode cX4_fits 4 = .ok (.iload_n 1, 1) := by decide +kernel
theorem dX4_fits_5 : decode cX4_fits 5 = .ok (.invokevirtual 58, 3) := by decide +kernel
theorem dX4_fits_8 : decode cX4_fits 8 = .ok (.astore 5, 2) := by decide +kernel
theorem dX4_fits_10 : decode cX4_fits 10 = .ok (.aload 5, 2) := by decide +kernel
theorem dX4_fits_12 : decode cX4_fits 12 = .ok (.ifnull 11, 3) := by decide +kernel
theorem dX4_fits_15 : decode cX4_fits 15 = .ok (.aload 5, 2) := by decide +kernel
theorem dX4_fits_17 : decode cX4_fits 17 = .ok (.getfield 68, 3) := by decide +kernel
theorem dX4_fits_20 : decode cX4_fits 20 = .ok (.ifCond .ne 5, 3) := by decide +kernel
theorem dX4_fits_23 : decode cX4_fits 23 = .ok (.iconst 0, 1) := by decide +kernel
theorem dX4_fits_24 : decode cX4_fits 24 = .ok (.ireturn, 1) := by decide +kernel
theorem dX4_fits_25 : decode cX4_fits 25 = .ok (.aload 5, 2) := by decide +kernel
theorem dX4_fits_27 : decode cX4_fits 27 = .ok (.getfield 82, 3) := by decide +kernel
theorem dX4_fits_30 : decode cX4_fits 30 = .ok (.getfield 86, 3) := by decide +kernel
theorem dX4_fits_33 : decode cX4_fits 33 = .ok (.astore 6, 2) := by decide +kernel
theorem dX4_fits_35 : decode cX4_fits 35 = .ok (.iload_n 2, 1) := by decide +kernel
theorem dX4_fits_36 : decode cX4_fits 36 = .ok (.ifCond .ne 7, 3) := by decide +kernel
theorem dX4_fits_39 : decode cX4_fits 39 = .ok (.iconst 1, 1) := by decide +kernel
theorem dX4_fits_40 : decode cX4_fits 40 = .ok (.goto 8, 3) := by decide +kernel
theorem dX4_fits_43 : decode cX4_fits 43 = .ok (.aload 5, 2) := by decide +kernel
theorem dX4_fits_45 : decode cX4_fits 45 = .ok (.getfield 91, 3) := by decide +kernel
theorem dX4_fits_48 : decode cX4_fits 48 = .ok (.istore 7, 2) := by decide +kernel
theorem dX4_fits_50 : decode cX4_fits 50 = .ok (.iload_n 2, 1) := by decide +kernel
theorem dX4_fits_51 : decode cX4_fits 51 = .ok (.ifCond .ne 11, 3) := by decide +kernel
theorem dX4_fits_54 : decode cX4_fits 54 = .ok (.aload 5, 2) := by decide +kernel
theorem dX4_fits_56 : decode cX4_fits 56 = .ok (.getfield 91, 3) := by decide +kernel
theorem dX4_fits_59 : decode cX4_fits 59 = .ok (.goto 4, 3) := by decide +kernel
theorem dX4_fits_62 : decode cX4_fits 62 = .ok (.iconst 1, 1) := by decide +kernel
theorem dX4_fits_63 : decode cX4_fits 63 = .ok (.istore 8, 2) := by decide +kernel
theorem dX4_fits_65 : decode cX4_fits 65 = .ok (.iload_n 2, 1) := by decide +kernel
theorem dX4_fits_66 : decode cX4_fits 66 = .ok (.ifCond .ne 16, 3) := by decide +kernel
theorem dX4_fits_69 : decode cX4_fits 69 = .ok (.aload 5, 2) := by decide +kernel
theorem dX4_fits_71 : decode cX4_fits 71 = .ok (.getfield 82, 3) := by decide +kernel
theorem dX4_fits_74 : decode cX4_fits 74 = .ok (.getfield 113, 3) := by decide +kernel
theorem dX4_fits_77 : decode cX4_fits 77 = .ok (.iconst 1, 1) := by decide +kernel
theorem dX4_fits_78 : decode cX4_fits 78 = .ok (.iaload, 1) := by decide +kernel
theorem dX4_fits_79 : decode cX4_fits 79 = .ok (.goto 8, 3) := by decide +kernel
theorem dX4_fits_82 : decode cX4_fits 82 = .ok (.aload 5, 2) := by decide +kernel
theorem dX4_fits_84 : decode cX4_fits 84 = .ok (.getfield 91, 3) := by decide +kernel
theorem dX4_fits_87 : decode cX4_fits 87 = .ok (.istore 9, 2) := by decide +kernel
theorem dX4_fits_89 : decode cX4_fits 89 = .ok (.aload_n 0, 1) := by decide +kernel
theorem dX4_fits_90 : decode cX4_fits 90 = .ok (.getfield 45, 3) := by decide +kernel
theorem dX4_fits_93 : decode cX4_fits 93 = .ok (.iconst 0, 1) := by decide +kernel
theorem dX4_fits_94 : decode cX4_fits 94 = .ok (.invokevirtual 141, 3) := by decide +kernel
theorem dX4_fits_97 : decode cX4_fits 97 = .ok (.aload_n 0, 1) := by decide +kernel
theorem dX4_fits_98 : decode cX4_fits 98 = .ok (.getfield 45, 3) := by decide +kernel
theorem dX4_fits_101 : decode cX4_fits 101 = .ok (.aload 6, 2) := by decide +kernel
theorem dX4_fits_103 : decode cX4_fits 103 = .ok (.iload 7, 2) := by decide +kernel
theorem dX4_fits_105 : decode cX4_fits 105 = .ok (.aload_n 3, 1) := by decide +kernel
theorem dX4_fits_106 : decode cX4_fits 106 = .ok (.getfield 86, 3) := by decide +kernel
theorem dX4_fits_109 : decode cX4_fits 109 = .ok (.iload 4, 2) := by decide +kernel
theorem dX4_fits_111 : decode cX4_fits 111 = .ok (.invokevirtual 145, 3) := by decide +kernel
theorem dX4_fits_114 : decode cX4_fits 114 = .ok (.ifCond .eq 19, 3) := by decide +kernel
theorem dX4_fits_117 : decode cX4_fits 117 = .ok (.aload_n 0, 1) := by decide +kernel
theorem dX4_fits_118 : decode cX4_fits 118 = .ok (.getfield 45, 3) := by decide +kernel
theorem dX4_fits_121 : decode cX4_fits 121 = .ok (.aload 6, 2) := by decide +kernel
theorem dX4_fits_123 : decode cX4_fits 123 = .ok (.iload 8, 2) := by decide +kernel
theorem dX4_fits_125 : decode cX4_fits 125 = .ok (.iload 9, 2) := by decide +kernel
theorem dX4_fits_127 : decode cX4_fits 127 = .ok (.invokevirtual 149, 3) := by decide +kernel
theorem dX4_fits_130 : decode cX4_fits 130 = .ok (.ifCond .ne 5, 3) := by decide +kernel
theorem dX4_fits_133 : decode cX4_fits 133 = .ok (.iconst 0, 1) := by decide +kernel
theorem dX4_fits_134 : decode cX4_fits 134 = .ok (.ireturn, 1) := by decide +kernel
theorem dX4_fits_135 : decode cX4_fits 135 = .ok (.aload_n 0, 1) := by decide +kernel
theorem dX4_fits_136 : decode cX4_fits 136 = .ok (.getfield 45, 3) := by decide +kernel
theorem dX4_fits_139 : decode cX4_fits 139 = .ok (.aload_n 3, 1) := by decide +kernel
theorem dX4_fits_140 : decode cX4_fits 140 = .ok (.invokevirtual 153, 3) := by decide +kernel
theorem dX4_fits_143 : decode cX4_fits 143 = .ok (.aload_n 0, 1) := by decide +kernel
theorem dX4_fits_144 : decode cX4_fits 144 = .ok (.getfield 45, 3) := by decide +kernel
theorem dX4_fits_147 : decode cX4_fits 147 = .ok (.aload 5, 2) := by decide +kernel
theorem dX4_fits_149 : decode cX4_fits 149 = .ok (.getfield 82, 3) := by decide +kernel
theorem dX4_fits_152 : decode cX4_fits 152 = .ok (.invokevirtual 157, 3) := by decide +kernel
theorem dX4_fits_155 : decode cX4_fits 155 = .ok (.aload_n 0, 1) := by decide +kernel
theorem dX4_fits_156 : decode cX4_fits 156 = .ok (.getfield 45, 3) := by decide +kernel
theorem dX4_fits_159 : decode cX4_fits 159 = .ok (.iconst 0, 1) := by decide +kernel
theorem dX4_fits_160 : decode cX4_fits 160 = .ok (.putfield 135, 3) := by decide +kernel
theorem dX4_fits_163 : decode cX4_fits 163 = .ok (.aload_n 0, 1) := by decide +kernel
theorem dX4_fits_164 : decode cX4_fits 164 = .ok (.getfield 45, 3) := by decide +kernel
theorem dX4_fits_167 : decode cX4_fits 167 = .ok (.sipush 180, 3) := by decide +kernel
theorem dX4_fits_170 : decode cX4_fits 170 = .ok (.iload 8, 2) := by decide +kernel
theorem dX4_fits_172 : decode cX4_fits 172 = .ok (.iadd, 1) := by decide +kernel
theorem dX4_fits_173 : decode cX4_fits 173 = .ok (.sipush 180, 3) := by decide +kernel
theorem dX4_fits_176 : decode cX4_fits 176 = .ok (.iload 9, 2) := by decide +kernel
theorem dX4_fits_178 : decode cX4_fits 178 = .ok (.iadd, 1) := by decide +kernel
theorem dX4_fits_179 : decode cX4_fits 179 = .ok (.sipush 1000, 3) := by decide +kernel
theorem dX4_fits_182 : decode cX4_fits 182 = .ok (.invokevirtual 160, 3) := by decide +kernel
theorem dX4_fits_185 : decode cX4_fits 185 = .ok (.ifCond .eq 44, 3) := by decide +kernel
theorem dX4_fits_188 : decode cX4_fits 188 = .ok (.aload 5, 2) := by decide +kernel
theorem dX4_fits_190 : decode cX4_fits 190 = .ok (.getfield 76, 3) := by decide +kernel
theorem dX4_fits_193 : decode cX4_fits 193 = .ok (.ifCond .eq 7, 3) := by decide +kernel
theorem dX4_fits_196 : decode cX4_fits 196 = .ok (.iload_n 2, 1) := by decide +kernel
theorem dX4_fits_197 : decode cX4_fits 197 = .ok (.ifCond .eq 28, 3) := by decide +kernel
theorem dX4_fits_200 : decode cX4_fits 200 = .ok (.aload_n 0, 1) := by decide +kernel
theorem dX4_fits_201 : decode cX4_fits 201 = .ok (.getfield 41, 3) := by decide +kernel
theorem dX4_fits_204 : decode cX4_fits 204 = .ok (.aload_n 3, 1) := by decide +kernel
theorem dX4_fits_205 : decode cX4_fits 205 = .ok (.getfield 86, 3) := by decide +kernel
theorem dX4_fits_208 : decode cX4_fits 208 = .ok (.iload 4, 2) := by decide +kernel
theorem dX4_fits_210 : decode cX4_fits 210 = .ok (.aload_n 0, 1) := by decide +kernel
theorem dX4_fits_211 : decode cX4_fits 211 = .ok (.getfield 45, 3) := by decide +kernel
theorem dX4_fits_214 : decode cX4_fits 214 = .ok (.getfield 130, 3) := by decide +kernel
theorem dX4_fits_217 : decode cX4_fits 217 = .ok (.iconst 0, 1) := by decide +kernel
theorem dX4_fits_218 : decode cX4_fits 218 = .ok (.invokevirtual 164, 3) := by decide +kernel
theorem dX4_fits_221 : decode cX4_fits 221 = .ok (.iconst 1, 1) := by decide +kernel
theorem dX4_fits_222 : decode cX4_fits 222 = .ok (.if_icmp .ne 7, 3) := by decide +kernel
theorem dX4_fits_225 : decode cX4_fits 225 = .ok (.iconst 1, 1) := by decide +kernel
theorem dX4_fits_226 : decode cX4_fits 226 = .ok (.goto 4, 3) := by decide +kernel
theorem dX4_fits_229 : decode cX4_fits 229 = .ok (.iconst 0, 1) := by decide +kernel
theorem dX4_fits_230 : decode cX4_fits 230 = .ok (.ireturn, 1) := by decide +kernel
theorem dX4_again_0 : decode cX4_again 0 = .ok (.iconst 4, 1) := by decide +kernel
theorem dX4_again_1 : decode cX4_again 1 = .ok (.iload_n 2, 1) := by decide +kernel
theorem dX4_again_2 : decode cX4_again 2 = .ok (.imul, 1) := by decide +kernel
theorem dX4_again_3 : decode cX4_again 3 = .ok (.istore 5, 2) := by decide +kernel
theorem dX4_again_5 : decode cX4_again 5 = .ok (.iload 5, 2) := by decide +kernel
theorem dX4_again_7 : decode cX4_again 7 = .ok (.ifCond .lt 15, 3) := by decide +kernel
theorem dX4_again_10 : decode cX4_again 10 = .ok (.iload 5, 2) := by decide +kernel
theorem dX4_again_12 : decode cX4_again 12 = .ok (.iconst 3, 1) := by decide +kernel
theorem dX4_again_13 : decode cX4_again 13 = .ok (.iadd, 1) := by decide +kernel
theorem dX4_again_14 : decode cX4_again 14 = .ok (.aload_n 1, 1) := by decide +kernel
theorem dX4_again_15 : decode cX4_again 15 = .ok (.getfield 170, 3) := by decide +kernel
theorem dX4_again_18 : decode cX4_again 18 = .ok (.arraylength, 1) := by decide +kernel
theorem dX4_again_19 : decode cX4_again 19 = .ok (.if_icmp .lt 5, 3) := by decide +kernel
theorem dX4_again_22 : decode cX4_again 22 = .ok (.iconst 0, 1) := by decide +kernel
theorem dX4_again_23 : decode cX4_again 23 = .ok (.ireturn, 1) := by decide +kernel
theorem dX4_again_24 : decode cX4_again 24 = .ok (.aload_n 1, 1) := by decide +kernel
theorem dX4_again_25 : decode cX4_again 25 = .ok (.getfield 170, 3) := by decide +kernel
theorem dX4_again_28 : decode cX4_again 28 = .ok (.iload 5, 2) := by decide +kernel
theorem dX4_again_30 : decode cX4_again 30 = .ok (.iaload, 1) := by decide +kernel
theorem dX4_again_31 : decode cX4_again 31 = .ok (.istore 6, 2) := by decide +kernel
theorem dX4_again_33 : decode cX4_again 33 = .ok (.aload_n 1, 1) := by decide +kernel
theorem dX4_again_34 : decode cX4_again 34 = .ok (.getfield 170, 3) := by decide +kernel
theorem dX4_again_37 : decode cX4_again 37 = .ok (.iload 5, 2) := by decide +kernel
theorem dX4_again_39 : decode cX4_again 39 = .ok (.iconst 1, 1) := by decide +kernel
theorem dX4_again_40 : decode cX4_again 40 = .ok (.iadd, 1) := by decide +kernel
theorem dX4_again_41 : decode cX4_again 41 = .ok (.iaload, 1) := by decide +kernel
theorem dX4_again_42 : decode cX4_again 42 = .ok (.istore 7, 2) := by decide +kernel
theorem dX4_again_44 : decode cX4_again 44 = .ok (.aload_n 1, 1) := by decide +kernel
theorem dX4_again_45 : decode cX4_again 45 = .ok (.getfield 170, 3) := by decide +kernel
theorem dX4_again_48 : decode cX4_again 48 = .ok (.iload 5, 2) := by decide +kernel
theorem dX4_again_50 : decode cX4_again 50 = .ok (.iconst 2, 1) := by decide +kernel
theorem dX4_again_51 : decode cX4_again 51 = .ok (.iadd, 1) := by decide +kernel
theorem dX4_again_52 : decode cX4_again 52 = .ok (.iaload, 1) := by decide +kernel
theorem dX4_again_53 : decode cX4_again 53 = .ok (.istore 8, 2) := by decide +kernel
theorem dX4_again_55 : decode cX4_again 55 = .ok (.aload_n 1, 1) := by decide +kernel
theorem dX4_again_56 : decode cX4_again 56 = .ok (.getfield 170, 3) := by decide +kernel
theorem dX4_again_59 : decode cX4_again 59 = .ok (.iload 5, 2) := by decide +kernel
theorem dX4_again_61 : decode cX4_again 61 = .ok (.iconst 3, 1) := by decide +kernel
theorem dX4_again_62 : decode cX4_again 62 = .ok (.iadd, 1) := by decide +kernel
theorem dX4_again_63 : decode cX4_again 63 = .ok (.iaload, 1) := by decide +kernel
theorem dX4_again_64 : decode cX4_again 64 = .ok (.istore 9, 2) := by decide +kernel
theorem dX4_again_66 : decode cX4_again 66 = .ok (.iload 6, 2) := by decide +kernel
theorem dX4_again_68 : decode cX4_again 68 = .ok (.iload_n 3, 1) := by decide +kernel
theorem dX4_again_69 : decode cX4_again 69 = .ok (.if_icmp .ge 42, 3) := by decide +kernel
theorem dX4_again_72 : decode cX4_again 72 = .ok (.iload 7, 2) := by decide +kernel
theorem dX4_again_74 : decode cX4_again 74 = .ok (.ifCond .lt 37, 3) := by decide +kernel
theorem dX4_again_77 : decode cX4_again 77 = .ok (.iload 7, 2) := by decide +kernel
theorem dX4_again_79 : decode cX4_again 79 = .ok (.iconst 1, 1) := by decide +kernel
theorem dX4_again_80 : decode cX4_again 80 = .ok (.if_icmp .gt 31, 3) := by decide +kernel
theorem dX4_again_83 : decode cX4_again 83 = .ok (.aload 4, 2) := by decide +kernel
theorem dX4_again_85 : decode cX4_again 85 = .ok (.iload 8, 2) := by decide +kernel
theorem dX4_again_87 : decode cX4_again 87 = .ok (.invokevirtual 173, 3) := by decide +kernel
theorem dX4_again_90 : decode cX4_again 90 = .ok (.ifCond .eq 21, 3) := by decide +kernel
theorem dX4_again_93 : decode cX4_again 93 = .ok (.iload 9, 2) := by decide +kernel
theorem dX4_again_95 : decode cX4_again 95 = .ok (.iconst 1, 1) := by decide +kernel
theorem dX4_again_96 : decode cX4_again 96 = .ok (.if_icmp .lt 15, 3) := by decide +kernel
theorem dX4_again_99 : decode cX4_again 99 = .ok (.iload 9, 2) := by decide +kernel
theorem dX4_again_101 : decode cX4_again 101 = .ok (.aload 4, 2) := by decide +kernel
theorem dX4_again_103 : decode cX4_again 103 = .ok (.iload 8, 2) := by decide +kernel
theorem dX4_again_105 : decode cX4_again 105 = .ok (.invokevirtual 177, 3) := by decide +kernel
theorem dX4_again_108 : decode cX4_again 108 = .ok (.if_icmp .lt 5, 3) := by decide +kernel
theorem dX4_again_111 : decode cX4_again 111 = .ok (.iconst 0, 1) := by decide +kernel
theorem dX4_again_112 : decode cX4_again 112 = .ok (.ireturn, 1) := by decide +kernel
theorem dX4_again_113 : decode cX4_again 113 = .ok (.aload 4, 2) := by decide +kernel
theorem dX4_again_115 : decode cX4_again 115 = .ok (.getfield 113, 3) := by decide +kernel
theorem dX4_again_118 : decode cX4_again 118 = .ok (.iload 8, 2) := by decide +kernel
theorem dX4_again_120 : decode cX4_again 120 = .ok (.iaload, 1) := by decide +kernel
theorem dX4_again_121 : decode cX4_again 121 = .ok (.iload 9, 2) := by decide +kernel
theorem dX4_again_123 : decode cX4_again 123 = .ok (.iadd, 1) := by decide +kernel
theorem dX4_again_124 : decode cX4_again 124 = .ok (.istore 10, 2) := by decide +kernel
theorem dX4_again_126 : decode cX4_again 126 = .ok (.aload 4, 2) := by decide +kernel
theorem dX4_again_128 : decode cX4_again 128 = .ok (.getfield 86, 3) := by decide +kernel
theorem dX4_again_131 : decode cX4_again 131 = .ok (.iload 10, 2) := by decide +kernel
theorem dX4_again_133 : decode cX4_again 133 = .ok (.iaload, 1) := by decide +kernel
theorem dX4_again_134 : decode cX4_again 134 = .ok (.ifCond .ge 5, 3) := by decide +kernel
theorem dX4_again_137 : decode cX4_again 137 = .ok (.iconst 0, 1) := by decide +kernel
theorem dX4_again_138 : decode cX4_again 138 = .ok (.ireturn, 1) := by decide +kernel
theorem dX4_again_139 : decode cX4_again 139 = .ok (.aload_n 0, 1) := by decide +kernel
theorem dX4_again_140 : decode cX4_again 140 = .ok (.iload 6, 2) := by decide +kernel
theorem dX4_again_142 : decode cX4_again 142 = .ok (.iload 7, 2) := by decide +kernel
theorem dX4_again_144 : decode cX4_again 144 = .ok (.aload 4, 2) := by decide +kernel
theorem dX4_again_146 : decode cX4_again 146 = .ok (.iload 10, 2) := by decide +kernel
theorem dX4_again_148 : decode cX4_again 148 = .ok (.invokevirtual 116, 3) := by decide +kernel
theorem dX4_again_151 : decode cX4_again 151 = .ok (.ifCond .eq 20, 3) := by decide +kernel
theorem dX4_again_154 : decode cX4_again 154 = .ok (.aload_n 0, 1) := by decide +kernel
theorem dX4_again_155 : decode cX4_again 155 = .ok (.aload 4, 2) := by decide +kernel
theorem dX4_again_157 : decode cX4_again 157 = .ok (.iload 8, 2) := by decide +kernel
theorem dX4_again_159 : decode cX4_again 159 = .ok (.iload 10, 2) := by decide +kernel
theorem dX4_again_161 : decode cX4_again 161 = .ok (.invokevirtual 101, 3) := by decide +kernel
theorem dX4_again_164 : decode cX4_again 164 = .ok (.ifCond .eq 7, 3) := by decide +kernel
theorem dX4_again_167 : decode cX4_again 167 = .ok (.iconst 1, 1) := by decide +kernel
theorem dX4_again_168 : decode cX4_again 168 = .ok (.goto 4, 3) := by decide +kernel
theorem dX4_again_171 : decode cX4_again 171 = .ok (.iconst 0, 1) := by decide +kernel
theorem dX4_again_172 : decode cX4_again 172 = .ok (.ireturn, 1) := by decide +kernel
theorem dX5_init_0 : decode cX5_init 0 = .ok (.aload_n 0, 1) := by decide +kernel
theorem dX5_init_1 : decode cX5_init 1 = .ok (.invokespecial 3, 3) := by decide +kernel
theorem dX5_init_4 : decode cX5_init 4 = .ok (.aload_n 0, 1) := by decide +kernel
theorem dX5_init_5 : decode cX5_init 5 = .ok (.sipush 180, 3) := by decide +kernel
theorem dX5_init_8 : decode cX5_init 8 = .ok (.newarray .int, 2) := by decide +kernel
theorem dX5_init_10 : decode cX5_init 10 = .ok (.putfield 9, 3) := by decide +kernel
theorem dX5_init_13 : decode cX5_init 13 = .ok (.aload_n 0, 1) := by decide +kernel
theorem dX5_init_14 : decode cX5_init 14 = .ok (.bipush 7, 2) := by decide +kernel
theorem dX5_init_16 : decode cX5_init 16 = .ok (.newarray .int, 2) := by decide +kernel
theorem dX5_init_18 : decode cX5_init 18 = .ok (.putfield 15, 3) := by decide +kernel
theorem dX5_init_21 : decode cX5_init 21 = .ok (.aload_n 0, 1) := by decide +kernel
theorem dX5_init_22 : decode cX5_init 22 = .ok (.bipush 6, 2) := by decide +kernel
theorem dX5_init_24 : decode cX5_init 24 = .ok (.newarray .boolean, 2) := by decide +kernel
theorem dX5_init_26 : decode cX5_init 26 = .ok (.putfield 18, 3) := by decide +kernel
theorem dX5_init_29 : decode cX5_init 29 = .ok (.aload_n 0, 1) := by decide +kernel
theorem dX5_init_30 : decode cX5_init 30 = .ok (.iconst 0, 1) := by decide +kernel
theorem dX5_init_31 : decode cX5_init 31 = .ok (.putfield 22, 3) := by decide +kernel
theorem dX5_init_34 : decode cX5_init 34 = .ok (.aload_n 0, 1) := by decide +kernel
theorem dX5_init_35 : decode cX5_init 35 = .ok (.iconst 0, 1) := by decide +kernel
theorem dX5_init_36 : decode cX5_init 36 = .ok (.putfield 26, 3) := by decide +kernel
theorem dX5_init_39 : decode cX5_init 39 = .ok (.return_, 1) := by decide +kernel
theorem dX5_empty_0 : decode cX5_empty 0 = .ok (.aload_n 0, 1) := by decide +kernel
theorem dX5_empty_1 : decode cX5_empty 1 = .ok (.iconst 0, 1) := by decide +kernel
theorem dX5_empty_2 : decode cX5_empty 2 = .ok (.putfield 22, 3) := by decide +kernel
theorem dX5_empty_5 : decode cX5_empty 5 = .ok (.aload_n 0, 1) := by decide +kernel
theorem dX5_empty_6 : decode cX5_empty 6 = .ok (.getfield 15, 3) := by decide +kernel
theorem dX5_empty_9 : decode cX5_empty 9 = .ok (.iconst 0, 1) := by decide +kernel
theorem dX5_empty_10 : decode cX5_empty 10 = .ok (.iconst 0, 1) := by decide +kernel
theorem dX5_empty_11 : decode cX5_empty 11 = .ok (.iastore, 1) := by decide +kernel
theorem dX5_empty_12 : decode cX5_empty 12 = .ok (.return_, 1) := by decide +kernel
theorem dX5_has_0 : decode cX5_has 0 = .ok (.iload_n 1, 1) := by decide +kernel
theorem dX5_has_1 : decode cX5_has 1 = .ok (.ifCond .lt 15, 3) := by decide +kernel
theorem dX5_has_4 : decode cX5_has 4 = .ok (.iload_n 1, 1) := by decide +kernel
theorem dX5_has_5 : decode cX5_has 5 = .ok (.aload_n 0, 1) := by decide +kernel
theorem dX5_has_6 : decode cX5_has 6 = .ok (.getfield 22, 3) := by decide +kernel
theorem dX5_has_9 : decode cX5_has 9 = .ok (.if_icmp .ge 7, 3) := by decide +kernel
theorem dX5_has_12 : decode cX5_has 12 = .ok (.iconst 1, 1) := by decide +kernel
theorem dX5_has_13 : decode cX5_has 13 = .ok (.goto 4, 3) := by decide +kernel
theorem dX5_has_16 : decode cX5_has 16 = .ok (.iconst 0, 1) := by decide +kernel
theorem dX5_has_17 : decode cX5_has 17 = .ok (.ireturn, 1) := by decide +kernel
theorem dX5_length_0 : decode cX5_length 0 = .ok (.aload_n 0, 1) := by decide +kernel
theorem dX5_length_1 : decode cX5_length 1 = .ok (.getfield 15, 3) := by decide +kernel
theorem dX5_length_4 : decode cX5_length 4 = .ok (.iload_n 1, 1) := by decide +kernel
theorem dX5_length_5 : decode cX5_length 5 = .ok (.iconst 1, 1) := by decide +kernel
theorem dX5_length_6 : decode cX5_length 6 = .ok (.iadd, 1) := by decide +kernel
theorem dX5_length_7 : decode cX5_length 7 = .ok (.iaload, 1) := by decide +kernel
theorem dX5_length_8 : decode cX5_length 8 = .ok (.aload_n 0, 1) := by decide +kernel
theorem dX5_length_9 : decode cX5_length 9 = .ok (.getfield 15, 3) := by decide +kernel
theorem dX5_length_12 : decode cX5_length 12 = .ok (.iload_n 1, 1) := by decide +kernel
theorem dX5_length_13 : decode cX5_length 13 = .ok (.iaload, 1) := by decide +kernel
theorem dX5_length_14 : decode cX5_length 14 = .ok (.isub, 1) := by decide +kernel
theorem dX5_length_15 : decode cX5_length 15 = .ok (.ireturn, 1) := by decide +kernel
theorem dX5_isEqual_0 : decode cX5_isEqual 0 = .ok (.aload_n 0, 1) := by decide +kernel
theorem dX5_isEqual_1 : decode cX5_isEqual 1 = .ok (.iload_n 1, 1) := by decide +kernel
theorem dX5_isEqual_2 : decode cX5_isEqual 2 = .ok (.invokevirtual 29, 3) := by decide +kernel
theorem dX5_isEqual_5 : decode cX5_isEqual 5 = .ok (.ifCond .eq 21, 3) := by decide +kernel
theorem dX5_isEqual_8 : decode cX5_isEqual 8 = .ok (.aload_n 0, 1) := by decide +kernel
theorem dX5_isEqual_9 : decode cX5_isEqual 9 = .ok (.getfield 9, 3) := by decide +kernel
theorem dX5_isEqual_12 : decode cX5_isEqual 12 = .ok (.aload_n 0, 1) := by decide +kernel
theorem dX5_isEqual_13 : decode cX5_isEqual 13 = .ok (.getfield 15, 3) := by decide +kernel
theorem dX5_isEqual_16 : decode cX5_isEqual 16 = .ok (.iload_n 1, 1) := by decide +kernel
theorem dX5_isEqual_17 : decode cX5_isEqual 17 = .ok (.iaload, 1) := by decide +kernel
theorem dX5_isEqual_18 : decode cX5_isEqual 18 = .ok (.iaload, 1) := by decide +kernel
theorem dX5_isEqual_19 : decode cX5_isEqual 19 = .ok (.ifCond .ne 7, 3) := by decide +kernel
theorem dX5_isEqual_22 : decode cX5_isEqual 22 = .ok (.iconst 1, 1) := by decide +kernel
theorem dX5_isEqual_23 : decode cX5_isEqual 23 = .ok (.goto 4, 3) := by decide +kernel
theorem dX5_isEqual_26 : decode cX5_isEqual 26 = .ok (.iconst 0, 1) := by decide +kernel
theorem dX5_isEqual_27 : decode cX5_isEqual 27 = .ok (.ireturn, 1) := by decide +kernel
theorem dX5_take_0 : decode cX5_take 0 = .ok (.aload_n 0, 1) := by decide +kernel
theorem dX5_take_1 : decode cX5_take 1 = .ok (.getfield 22, 3) := by decide +kernel
theorem dX5_take_4 : decode cX5_take 4 = .ok (.bipush 6, 2) := by decide +kernel
theorem dX5_take_6 : decode cX5_take 6 = .ok (.if_icmp .ge 10, 3) := by decide +kernel
theorem dX5_take_9 : decode cX5_take 9 = .ok (.iload 4, 2) := by decide +kernel
theorem dX5_take_11 : decode cX5_take 11 = .ok (.bipush 30, 2) := by decide +kernel
theorem dX5_take_13 : decode cX5_take 13 = .ok (.if_icmp .le 5, 3) := by decide +kernel
theorem dX5_take_16 : decode cX5_take 16 = .ok (.iconst 0, 1) := by decide +kernel
theorem dX5_take_17 : decode cX5_take 17 = .ok (.ireturn, 1) := by decide +kernel
theorem dX5_take_18 : decode cX5_take 18 = .ok (.aload_n 2, 1) := by decide +kernel
theorem dX5_take_19 : decode cX5_take 19 = .ok (.iload_n 3, 1) := by decide +kernel
theorem dX5_take_20 : decode cX5_take 20 = .ok (.aload_n 0, 1) := by decide +kernel
theorem dX5_take_21 : decode cX5_take 21 = .ok (.getfield 9, 3) := by decide +kernel
theorem dX5_take_24 : decode cX5_take 24 = .ok (.aload_n 0, 1) := by decide +kernel
theorem dX5_take_25 : decode cX5_take 25 = .ok (.getfield 15, 3) := by decide +kernel
theorem dX5_take_28 : decode cX5_take 28 = .ok (.aload_n 0, 1) := by decide +kernel
theorem dX5_take_29 : decode cX5_take 29 = .ok (.getfield 22, 3) := by decide +kernel
theorem dX5_take_32 : decode cX5_take 32 = .ok (.iaload, 1) := by decide +kernel
theorem dX5_take_33 : decode cX5_take 33 = .ok (.iload 4, 2) := by decide +kernel
theorem dX5_take_35 : decode cX5_take 35 = .ok (.invokestatic 33, 3) := by decide +kernel
theorem dX5_take_38 : decode cX5_take 38 = .ok (.aload_n 0, 1) := by decide +kernel
theorem dX5_take_39 : decode cX5_take 39 = .ok (.getfield 18, 3) := by decide +kernel
theorem dX5_take_42 : decode cX5_take 42 = .ok (.aload_n 0, 1) := by decide +kernel
theorem dX5_take_43 : decode cX5_take 43 = .ok (.getfield 22, 3) := by decide +kernel
theorem dX5_take_46 : decode cX5_take 46 = .ok (.iload_n 1, 1) := by decide +kernel
theorem dX5_take_47 : decode cX5_take 47 = .ok (.bastore, 1) := by decide +kernel
theorem dX5_take_48 : decode cX5_take 48 = .ok (.aload_n 0, 1) := by decide +kernel
theorem dX5_take_49 : decode cX5_take 49 = .ok (.getfield 15, 3) := by decide +kernel
theorem dX5_take_52 : decode cX5_take 52 = .ok (.aload_n 0, 1) := by decide +kernel
theorem dX5_take_53 : decode cX5_take 53 = .ok (.getfield 22, 3) := by decide +kernel
theorem dX5_take_56 : decode cX5_take 56 = .ok (.iconst 1, 1) := by decide +kernel
theorem dX5_take_57 : decode cX5_take 57 = .ok (.iadd, 1) := by decide +kernel
theorem dX5_take_58 : decode cX5_take 58 = .ok (.aload_n 0, 1) := by decide +kernel
theorem dX5_take_59 : decode cX5_take 59 = .ok (.getfield 15, 3) := by decide +kernel
theorem dX5_take_62 : decode cX5_take 62 = .ok (.aload_n 0, 1) := by decide +kernel
theorem dX5_take_63 : decode cX5_take 63 = .ok (.getfield 22, 3) := by decide +kernel
theorem dX5_take_66 : decode cX5_take 66 = .ok (.iaload, 1) := by decide +kernel
theorem dX5_take_67 : decode cX5_take 67 = .ok (.iload 4, 2) := by decide +kernel
theorem dX5_take_69 : decode cX5_take 69 = .ok (.iadd, 1) := by decide +kernel
theorem dX5_take_70 : decode cX5_take 70 = .ok (.iastore, 1) := by decide +kernel
theorem dX5_take_71 : decode cX5_take 71 = .ok (.aload_n 0, 1) := by decide +kernel
theorem dX5_take_72 : decode cX5_take 72 = .ok (.dup, 1) := by decide +kernel
theorem dX5_take_73 : decode cX5_take 73 = .ok (.getfield 22, 3) := by decide +kernel
theorem dX5_take_76 : decode cX5_take 76 = .ok (.iconst 1, 1) := by decide +kernel
theorem dX5_take_77 : decode cX5_take 77 = .ok (.iadd, 1) := by decide +kernel
theorem dX5_take_78 : decode cX5_take 78 = .ok (.putfield 22, 3) := by decide +kernel
theorem dX5_take_81 : decode cX5_take 81 = .ok (.iconst 1, 1) := by decide +kernel
theorem dX5_take_82 : decode cX5_take 82 = .ok (.ireturn, 1) := by decide +kernel
theorem dX5_remove_0 : decode cX5_remove 0 = .ok (.aload_n 0, 1) := by decide +kernel
theorem dX5_remove_1 : decode cX5_remove 1 = .ok (.iload_n 1, 1) := by decide +kernel
theorem dX5_remove_2 : decode cX5_remove 2 = .ok (.invokevirtual 39, 3) := by decide +kernel
theorem dX5_remove_5 : decode cX5_remove 5 = .ok (.istore_n 2, 1) := by decide +kernel
theorem dX5_remove_6 : decode cX5_remove 6 = .ok (.aload_n 0, 1) := by decide +kernel
theorem dX5_remove_7 : decode cX5_remove 7 = .ok (.getfield 9, 3) := by decide +kernel
theorem dX5_remove_10 : decode cX5_remove 10 = .ok (.aload_n 0, 1) := by decide +kernel
theorem dX5_remove_11 : decode cX5_remove 11 = .ok (.getfield 15, 3) := by decide +kernel
theorem dX5_remove_14 : decode cX5_remove 14 = .ok (.iload_n 1, 1) := by decide +kernel
theorem dX5_remove_15 : decode cX5_remove 15 = .ok (.iconst 1, 1) := by decide +kernel
theorem dX5_remove_16 : decode cX5_remove 16 = .ok (.iadd, 1) := by decide +kernel
theorem dX5_remove_17 : decode cX5_remove 17 = .ok (.iaload, 1) := by decide +kernel
theorem dX5_remove_18 : decode cX5_remove 18 = .ok (.aload_n 0, 1) := by decide +kernel
theorem dX5_remove_19 : decode cX5_remove 19 = .ok (.getfield 9, 3) := by decide +kernel
theorem dX5_remove_22 : decode cX5_remove 22 = .ok (.aload_n 0, 1) := by decide +kernel
theorem dX5_remove_23 : decode cX5_remove 23 = .ok (.getfield 15, 3) := by decide +kernel
theorem dX5_remove_26 : decode cX5_remove 26 = .ok (.iload_n 1, 1) := by decide +kernel
theorem dX5_remove_27 : decode cX5_remove 27 = .ok (.iaload, 1) := by decide +kernel
theorem dX5_remove_28 : decode cX5_remove 28 = .ok (.aload_n 0, 1) := by decide +kernel
theorem dX5_remove_29 : decode cX5_remove 29 = .ok (.getfield 15, 3) := by decide +kernel
theorem dX5_remove_32 : decode cX5_remove 32 = .ok (.aload_n 0, 1) := by decide +kernel
theorem dX5_remove_33 : decode cX5_remove 33 = .ok (.getfield 22, 3) := by decide +kernel
theorem dX5_remove_36 : decode cX5_remove 36 = .ok (.iaload, 1) := by decide +kernel
theorem dX5_remove_37 : decode cX5_remove 37 = .ok (.aload_n 0, 1) := by decide +kernel
theorem dX5_remove_38 : decode cX5_remove 38 = .ok (.getfield 15, 3) := by decide +kernel
theorem dX5_remove_41 : decode cX5_remove 41 = .ok (.iload_n 1, 1) := by decide +kernel
theorem dX5_remove_42 : decode cX5_remove 42 = .ok (.iconst 1, 1) := by decide +kernel
theorem dX5_remove_43 : decode cX5_remove 43 = .ok (.iadd, 1) := by decide +kernel
theorem dX5_remove_44 : decode cX5_remove 44 = .ok (.iaload, 1) := by decide +kernel
theorem dX5_remove_45 : decode cX5_remove 45 = .ok (.isub, 1) := by decide +kernel
theorem dX5_remove_46 : decode cX5_remove 46 = .ok (.invokestatic 33, 3) := by decide +kernel
theorem dX5_remove_49 : decode cX5_remove 49 = .ok (.iload_n 1, 1) := by decide +kernel
theorem dX5_remove_50 : decode cX5_remove 50 = .ok (.iconst 1, 1) := by decide +kernel
theorem dX5_remove_51 : decode cX5_remove 51 = .ok (.iadd, 1) := by decide +kernel
theorem dX5_remove_52 : decode cX5_remove 52 = .ok (.istore_n 3, 1) := by decide +kernel
theorem dX5_remove_53 : decode cX5_remove 53 = .ok (.iload_n 3, 1) := by decide +kernel
theorem dX5_remove_54 : decode cX5_remove 54 = .ok (.aload_n 0, 1) := by decide +kernel
theorem dX5_remove_55 : decode cX5_remove 55 = .ok (.getfield 22, 3) := by decide +kernel
theorem dX5_remove_58 : decode cX5_remove 58 = .ok (.if_icmp .ge 39, 3) := by decide +kernel
theorem dX5_remove_61 : decode cX5_remove 61 = .ok (.aload_n 0, 1) := by decide +kernel
theorem dX5_remove_62 : decode cX5_remove 62 = .ok (.getfield 18, 3) := by decide +kernel
theorem dX5_remove_65 : decode cX5_remove 65 = .ok (.iload_n 3, 1) := by decide +kernel
theorem dX5_remove_66 : decode cX5_remove 66 = .ok (.iconst 1, 1) := by decide +kernel
theorem dX5_remove_67 : decode cX5_remove 67 = .ok (.isub, 1) := by decide +kernel
theorem dX5_remove_68 : decode cX5_remove 68 = .ok (.aload_n 0, 1) := by decide +kernel
theorem dX5_remove_69 : decode cX5_remove 69 = .ok (.getfield 18, 3) := by decide +kernel
theorem dX5_remove_72 : decode cX5_remove 72 = .ok (.iload_n 3, 1) := by decide +kernel
theorem dX5_remove_73 : decode cX5_remove 73 = .ok (.baload, 1) := by decide +kernel
theorem dX5_remove_74 : decode cX5_remove 74 = .ok (.bastore, 1) := by decide +kernel
theorem dX5_remove_75 : decode cX5_remove 75 = .ok (.aload_n 0, 1) := by decide +kernel
theorem dX5_remove_76 : decode cX5_remove 76 = .ok (.getfield 15, 3) := by decide +kernel
theorem dX5_remove_79 : decode cX5_remove 79 = .ok (.iload_n 3, 1) := by decide +kernel
theorem dX5_remove_80 : decode cX5_remove 80 = .ok (.aload_n 0, 1) := by decide +kernel
theorem dX5_remove_81 : decode cX5_remove 81 = .ok (.getfield 15, 3) := by decide +kernel
theorem dX5_remove_84 : decode cX5_remove 84 = .ok (.iload_n 3, 1) := by decide +kernel
theorem dX5_remove_85 : decode cX5_remove 85 = .ok (.iconst 1, 1) := by decide +kernel
theorem dX5_remove_86 : decode cX5_remove 86 = .ok (.iadd, 1) := by decide +kernel
theorem dX5_remove_87 : decode cX5_remove 87 = .ok (.iaload, 1) := by decide +kernel
theorem dX5_remove_88 : decode cX5_remove 88 = .ok (.iload_n 2, 1) := by decide +kernel
theorem dX5_remove_89 : decode cX5_remove 89 = .ok (.isub, 1) := by decide +kernel
theorem dX5_remove_90 : decode cX5_remove 90 = .ok (.iastore, 1) := by decide +kernel
theorem dX5_remove_91 : decode cX5_remove 91 = .ok (.iinc 3 1, 3) := by decide +kernel
theorem dX5_remove_94 : decode cX5_remove 94 = .ok (.goto (-41), 3) := by decide +kernel
theorem dX5_remove_97 : decode cX5_remove 97 = .ok (.aload_n 0, 1) := by decide +kernel
theorem dX5_remove_98 : decode cX5_remove 98 = .ok (.dup, 1) := by decide +kernel
theorem dX5_remove_99 : decode cX5_remove 99 = .ok (.getfield 22, 3) := by decide +kernel
theorem dX5_remove_102 : decode cX5_remove 102 = .ok (.iconst 1, 1) := by decide +kernel
theorem dX5_remove_103 : decode cX5_remove 103 = .ok (.isub, 1) := by decide +kernel
theorem dX5_remove_104 : decode cX5_remove 104 = .ok (.putfield 22, 3) := by decide +kernel
theorem dX5_remove_107 : decode cX5_remove 107 = .ok (.return_, 1) := by decide +kernel
theorem dX5_replace_0 : decode cX5_replace 0 = .ok (.iload 5, 2) := by decide +kernel
theorem dX5_replace_2 : decode cX5_replace 2 = .ok (.iload_n 3, 1) := by decide +kernel
theorem dX5_replace_3 : decode cX5_replace 3 = .ok (.iload_n 2, 1) := by decide +kernel
theorem dX5_replace_4 : decode cX5_replace 4 = .ok (.isub, 1) := by decide +kernel
theorem dX5_replace_5 : decode cX5_replace 5 = .ok (.isub, 1) := by decide +kernel
theorem dX5_replace_6 : decode cX5_replace 6 = .ok (.istore 6, 2) := by decide +kernel
theorem dX5_replace_8 : decode cX5_replace 8 = .ok (.aload_n 0, 1) := by decide +kernel
theorem dX5_replace_9 : decode cX5_replace 9 = .ok (.iload_n 1, 1) := by decide +kernel
theorem dX5_replace_10 : decode cX5_replace 10 = .ok (.invokevirtual 39, 3) := by decide +kernel
theorem dX5_replace_13 : decode cX5_replace 13 = .ok (.iload 6, 2) := by decide +kernel
theorem dX5_replace_15 : decode cX5_replace 15 = .ok (.iadd, 1) := by decide +kernel
theorem dX5_replace_16 : decode cX5_replace 16 = .ok (.bipush 30, 2) := by decide +kernel
theorem dX5_replace_18 : decode cX5_replace 18 = .ok (.if_icmp .le 5, 3) := by decide +kernel
theorem dX5_replace_21 : decode cX5_replace 21 = .ok (.iconst 0, 1) := by decide +kernel
theorem dX5_replace_22 : decode cX5_replace 22 = .ok (.ireturn, 1) := by decide +kernel
theorem dX5_replace_23 : decode cX5_replace 23 = .ok (.aload_n 0, 1) := by decide +kernel
theorem dX5_replace_24 : decode cX5_replace 24 = .ok (.getfield 9, 3) := by decide +kernel
theorem dX5_replace_27 : decode cX5_replace 27 = .ok (.iload_n 3, 1) := by decide +kernel
theorem dX5_replace_28 : decode cX5_replace 28 = .ok (.aload_n 0, 1) := by decide +kernel
theorem dX5_replace_29 : decode cX5_replace 29 = .ok (.getfield 9, 3) := by decide +kernel
theorem dX5_replace_32 : decode cX5_replace 32 = .ok (.iload_n 3, 1) := by decide +kernel
theorem dX5_replace_33 : decode cX5_replace 33 = .ok (.iload 6, 2) := by decide +kernel
theorem dX5_replace_35 : decode cX5_replace 35 = .ok (.iadd, 1) := by decide +kernel
theorem dX5_replace_36 : decode cX5_replace 36 = .ok (.aload_n 0, 1) := by decide +kernel
theorem dX5_replace_37 : decode cX5_replace 37 = .ok (.getfield 15, 3) := by decide +kernel
theorem dX5_replace_40 : decode cX5_replace 40 = .ok (.aload_n 0, 1) := by decide +kernel
theorem dX5_replace_41 : decode cX5_replace 41 = .ok (.getfield 22, 3) := by decide +kernel
theorem dX5_replace_44 : decode cX5_replace 44 = .ok (.iaload, 1) := by decide +kernel
theorem dX5_replace_45 : decode cX5_replace 45 = .ok (.iload_n 3, 1) := by decide +kernel
theorem dX5_replace_46 : decode cX5_replace 46 = .ok (.isub, 1) := by decide +kernel
theorem dX5_replace_47 : decode cX5_replace 47 = .ok (.invokestatic 33, 3) := by decide +kernel
theorem dX5_replace_50 : decode cX5_replace 50 = .ok (.aload 4, 2) := by decide +kernel
theorem dX5_replace_52 : decode cX5_replace 52 = .ok (.iconst 0, 1) := by decide +kernel
theorem dX5_replace_53 : decode cX5_replace 53 = .ok (.aload_n 0, 1) := by decide +kernel
theorem dX5_replace_54 : decode cX5_replace 54 = .ok (.getfield 9, 3) := by decide +kernel
theorem dX5_replace_57 : decode cX5_replace 57 = .ok (.iload_n 2, 1) := by decide +kernel
theorem dX5_replace_58 : decode cX5_replace 58 = .ok (.iload 5, 2) := by decide +kernel
theorem dX5_replace_60 : decode cX5_replace 60 = .ok (.invokestatic 33, 3) := by decide +kernel
theorem dX5_replace_63 : decode cX5_replace 63 = .ok (.iload_n 1, 1) := by decide +kernel
theorem dX5_replace_64 : decode cX5_replace 64 = .ok (.iconst 1, 1) := by decide +kernel
theorem dX5_replace_65 : decode cX5_replace 65 = .ok (.iadd, 1) := by decide +kernel
theorem dX5_replace_66 : decode cX5_replace 66 = .ok (.istore 7, 2) := by decide +kernel
theorem dX5_replace_68 : decode cX5_replace 68 = .ok (.iload 7, 2) := by decide +kernel
theorem dX5_replace_70 : decode cX5_replace 70 = .ok (.aload_n 0, 1) := by decide +kernel
theorem dX5_replace_71 : decode cX5_replace 71 = .ok (.getfield 22, 3) := by decide +kernel
theorem dX5_replace_74 : decode cX5_replace 74 = .ok (.if_icmp .gt 21, 3) := by decide +kernel
theorem dX5_replace_77 : decode cX5_replace 77 = .ok (.aload_n 0, 1) := by decide +kernel
theorem dX5_replace_78 : decode cX5_replace 78 = .ok (.getfield 15, 3) := by decide +kernel
theorem dX5_replace_81 : decode cX5_replace 81 = .ok (.iload 7, 2) := by decide +kernel
theorem dX5_replace_83 : decode cX5_replace 83 = .ok (.dup2, 1) := by decide +kernel
theorem dX5_replace_84 : decode cX5_replace 84 = .ok (.iaload, 1) := by decide +kernel
theorem dX5_replace_85 : decode cX5_replace 85 = .ok (.iload 6, 2) := by decide +kernel
theorem dX5_replace_87 : decode cX5_replace 87 = .ok (.iadd, 1) := by decide +kernel
theorem dX5_replace_88 : decode cX5_replace 88 = .ok (.iastore, 1) := by decide +kernel
theorem dX5_replace_89 : decode cX5_replace 89 = .ok (.iinc 7 1, 3) := by decide +kernel
theorem dX5_replace_92 : decode cX5_replace 92 = .ok (.goto (-24), 3) := by decide +kernel
theorem dX5_replace_95 : decode cX5_replace 95 = .ok (.iconst 1, 1) := by decide +kernel
theorem dX5_replace_96 : decode cX5_replace 96 = .ok (.ireturn, 1) := by decide +kernel
theorem dX5_saysAlike_0 : decode cX5_saysAlike 0 = .ok (.aload_n 0, 1) := by decide +kernel
theorem dX5_saysAlike_1 : decode cX5_saysAlike 1 = .ok (.iload_n 1, 1) := by decide +kernel
theorem dX5_saysAlike_2 : decode cX5_saysAlike 2 = .ok (.invokevirtual 39, 3) := by decide +kernel
theorem dX5_saysAlike_5 : decode cX5_saysAlike 5 = .ok (.istore_n 3, 1) := by decide +kernel
theorem dX5_saysAlike_6 : decode cX5_saysAlike 6 = .ok (.iload_n 3, 1) := by decide +kernel
theorem dX5_saysAlike_7 : decode cX5_saysAlike 7 = .ok (.aload_n 0, 1) := by decide +kernel
theorem dX5_saysAlike_8 : decode cX5_saysAlike 8 = .ok (.iload_n 2, 1) := by decide +kernel
theorem dX5_saysAlike_9 : decode cX5_saysAlike 9 = .ok (.invokevirtual 39, 3) := by decide +kernel
theorem dX5_saysAlike_12 : decode cX5_saysAlike 12 = .ok (.if_icmp .ne 34, 3) := by decide +kernel
theorem dX5_saysAlike_15 : decode cX5_saysAlike 15 = .ok (.aload_n 0, 1) := by decide +kernel
theorem dX5_saysAlike_16 : decode cX5_saysAlike 16 = .ok (.getfield 9, 3) := by decide +kernel
theorem dX5_saysAlike_19 : decode cX5_saysAlike 19 = .ok (.aload_n 0, 1) := by decide +kernel
theorem dX5_saysAlike_20 : decode cX5_saysAlike 20 = .ok (.getfield 15, 3) := by decide +kernel
theorem dX5_saysAlike_23 : decode cX5_saysAlike 23 = .ok (.iload_n 1, 1) := by decide +kernel
theorem dX5_saysAlike_24 : decode cX5_saysAlike 24 = .ok (.iaload, 1) := by decide +kernel
theorem dX5_saysAlike_25 : decode cX5_saysAlike 25 = .ok (.aload_n 0, 1) := by decide +kernel
theorem dX5_saysAlike_26 : decode cX5_saysAlike 26 = .ok (.getfield 9, 3) := by decide +kernel
theorem dX5_saysAlike_29 : decode cX5_saysAlike 29 = .ok (.aload_n 0, 1) := by decide +kernel
theorem dX5_saysAlike_30 : decode cX5_saysAlike 30 = .ok (.getfield 15, 3) := by decide +kernel
theorem dX5_saysAlike_33 : decode cX5_saysAlike 33 = .ok (.iload_n 2, 1) := by decide +kernel
theorem dX5_saysAlike_34 : decode cX5_saysAlike 34 = .ok (.iaload, 1) := by decide +kernel
theorem dX5_saysAlike_35 : decode cX5_saysAlike 35 = .ok (.iload_n 3, 1) := by decide +kernel
theorem dX5_saysAlike_36 : decode cX5_saysAlike 36 = .ok (.invokestatic 43, 3) := by decide +kernel
theorem dX5_saysAlike_39 : decode cX5_saysAlike 39 = .ok (.ifCond .eq 7, 3) := by decide +kernel
theorem dX5_saysAlike_42 : decode cX5_saysAlike 42 = .ok (.iconst 1, 1) := by decide +kernel
theorem dX5_saysAlike_43 : decode cX5_saysAlike 43 = .ok (.goto 4, 3) := by decide +kernel
theorem dX5_saysAlike_46 : decode cX5_saysAlike 46 = .ok (.iconst 0, 1) := by decide +kernel
theorem dX5_saysAlike_47 : decode cX5_saysAlike 47 = .ok (.ireturn, 1) := by decide +kernel
theorem dX5_isTrivial_0 : decode cX5_isTrivial 0 = .ok (.iconst 0, 1) := by decide +kernel
theorem dX5_isTrivial_1 : decode cX5_isTrivial 1 = .ok (.istore_n 2, 1) := by decide +kernel
theorem dX5_isTrivial_2 : decode cX5_isTrivial 2 = .ok (.iload_n 2, 1) := by decide +kernel
theorem dX5_isTrivial_3 : decode cX5_isTrivial 3 = .ok (.aload_n 0, 1) := by decide +kernel
theorem dX5_isTrivial_4 : decode cX5_isTrivial 4 = .ok (.getfield 22, 3) := by decide +kernel
theorem dX5_isTrivial_7 : decode cX5_isTrivial 7 = .ok (.if_icmp .ge 76, 3) := by decide +kernel
theorem dX5_isTrivial_10 : decode cX5_isTrivial 10 = .ok (.aload_n 0, 1) := by decide +kernel
theorem dX5_isTrivial_11 : decode cX5_isTrivial 11 = .ok (.iload_n 2, 1) := by decide +kernel
theorem dX5_isTrivial_12 : decode cX5_isTrivial 12 = .ok (.invokevirtual 47, 3) := by decide +kernel
theorem dX5_isTrivial_15 : decode cX5_isTrivial 15 = .ok (.ifCond .eq 23, 3) := by decide +kernel
theorem dX5_isTrivial_18 : decode cX5_isTrivial 18 = .ok (.aload_n 0, 1) := by decide +kernel
theorem dX5_isTrivial_19 : decode cX5_isTrivial 19 = .ok (.getfield 18, 3) := by decide +kernel
theorem dX5_isTrivial_22 : decode cX5_isTrivial 22 = .ok (.iload_n 2, 1) := by decide +kernel
theorem dX5_isTrivial_23 : decode cX5_isTrivial 23 = .ok (.baload, 1) := by decide +kernel
theorem dX5_isTrivial_24 : decode cX5_isTrivial 24 = .ok (.ifCond .ne 14, 3) := by decide +kernel
theorem dX5_isTrivial_27 : decode cX5_isTrivial 27 = .ok (.aload_n 0, 1) := by decide +kernel
theorem dX5_isTrivial_28 : decode cX5_isTrivial 28 = .ok (.iload_n 2, 1) := by decide +kernel
theorem dX5_isTrivial_29 : decode cX5_isTrivial 29 = .ok (.aload_n 1, 1) := by decide +kernel
theorem dX5_isTrivial_30 : decode cX5_isTrivial 30 = .ok (.invokevirtual 50, 3) := by decide +kernel
theorem dX5_isTrivial_33 : decode cX5_isTrivial 33 = .ok (.ifCond .eq 5, 3) := by decide +kernel
theorem dX5_isTrivial_36 : decode cX5_isTrivial 36 = .ok (.iconst 1, 1) := by decide +kernel
theorem dX5_isTrivial_37 : decode cX5_isTrivial 37 = .ok (.ireturn, 1) := by decide +kernel
theorem dX5_isTrivial_38 : decode cX5_isTrivial 38 = .ok (.iconst 0, 1) := by decide +kernel
theorem dX5_isTrivial_39 : decode cX5_isTrivial 39 = .ok (.istore_n 3, 1) := by decide +kernel
theorem dX5_isTrivial_40 : decode cX5_isTrivial 40 = .ok (.iload_n 3, 1) := by decide +kernel
theorem dX5_isTrivial_41 : decode cX5_isTrivial 41 = .ok (.iload_n 2, 1) := by decide +kernel
theorem dX5_isTrivial_42 : decode cX5_isTrivial 42 = .ok (.if_icmp .ge 35, 3) := by decide +kernel
theorem dX5_isTrivial_45 : decode cX5_isTrivial 45 = .ok (.aload_n 0, 1) := by decide +kernel
theorem dX5_isTrivial_46 : decode cX5_isTrivial 46 = .ok (.getfield 18, 3) := by decide +kernel
theorem dX5_isTrivial_49 : decode cX5_isTrivial 49 = .ok (.iload_n 2, 1) := by decide +kernel
theorem dX5_isTrivial_50 : decode cX5_isTrivial 50 = .ok (.baload, 1) := by decide +kernel
theorem dX5_isTrivial_51 : decode cX5_isTrivial 51 = .ok (.aload_n 0, 1) := by decide +kernel
theorem dX5_isTrivial_52 : decode cX5_isTrivial 52 = .ok (.getfield 18, 3) := by decide +kernel
theorem dX5_isTrivial_55 : decode cX5_isTrivial 55 = .ok (.iload_n 3, 1) := by decide +kernel
theorem dX5_isTrivial_56 : decode cX5_isTrivial 56 = .ok (.baload, 1) := by decide +kernel
theorem dX5_isTrivial_57 : decode cX5_isTrivial 57 = .ok (.if_icmp .eq 14, 3) := by decide +kernel
theorem dX5_isTrivial_60 : decode cX5_isTrivial 60 = .ok (.aload_n 0, 1) := by decide +kernel
theorem dX5_isTrivial_61 : decode cX5_isTrivial 61 = .ok (.iload_n 2, 1) := by decide +kernel
theorem dX5_isTrivial_62 : decode cX5_isTrivial 62 = .ok (.iload_n 3, 1) := by decide +kernel
theorem dX5_isTrivial_63 : decode cX5_isTrivial 63 = .ok (.invokevirtual 54, 3) := by decide +kernel
theorem dX5_isTrivial_66 : decode cX5_isTrivial 66 = .ok (.ifCond .eq 5, 3) := by decide +kernel
theorem dX5_isTrivial_69 : decode cX5_isTrivial 69 = .ok (.iconst 1, 1) := by decide +kernel
theorem dX5_isTrivial_70 : decode cX5_isTrivial 70 = .ok (.ireturn, 1) := by decide +kernel
theorem dX5_isTrivial_71 : decode cX5_isTrivial 71 = .ok (.iinc 3 1, 3) := by decide +kernel
theorem dX5_isTrivial_74 : decode cX5_isTrivial 74 = .ok (.goto (-34), 3) := by decide +kernel
theorem dX5_isTrivial_77 : decode cX5_isTrivial 77 = .ok (.iinc 2 1, 3) := by decide +kernel
theorem dX5_isTrivial_80 : decode cX5_isTrivial 80 = .ok (.goto (-78), 3) := by decide +kernel
theorem dX5_isTrivial_83 : decode cX5_isTrivial 83 = .ok (.iconst 0, 1) := by decide +kernel
theorem dX5_isTrivial_84 : decode cX5_isTrivial 84 = .ok (.ireturn, 1) := by decide +kernel
theorem dX5_hasLikeSides_0 : decode cX5_hasLikeSides 0 = .ok (.aload_n 0, 1) := by decide +kernel
theorem dX5_hasLikeSides_1 : decode cX5_hasLikeSides 1 = .ok (.getfield 15, 3) := by decide +kernel
theorem dX5_hasLikeSides_4 : decode cX5_hasLikeSides 4 = .ok (.iload_n 1, 1) := by decide +kernel
theorem dX5_hasLikeSides_5 : decode cX5_hasLikeSides 5 = .ok (.iaload, 1) := by decide +kernel
theorem dX5_hasLikeSides_6 : decode cX5_hasLikeSides 6 = .ok (.iconst 1, 1) := by decide +kernel
theorem dX5_hasLikeSides_7 : decode cX5_hasLikeSides 7 = .ok (.iadd, 1) := by decide +kernel
theorem dX5_hasLikeSides_8 : decode cX5_hasLikeSides 8 = .ok (.istore_n 3, 1) := by decide +kernel
theorem dX5_hasLikeSides_9 : decode cX5_hasLikeSides 9 = .ok (.aload_n 2, 1) := by decide +kernel
theorem dX5_hasLikeSides_10 : decode cX5_hasLikeSides 10 = .ok (.aload_n 0, 1) := by decide +kernel
theorem dX5_hasLikeSides_11 : decode cX5_hasLikeSides 11 = .ok (.getfield 9, 3) := by decide +kernel
theorem dX5_hasLikeSides_14 : decode cX5_hasLikeSides 14 = .ok (.iload_n 3, 1) := by decide +kernel
theorem dX5_hasLikeSides_15 : decode cX5_hasLikeSides 15 = .ok (.invokevirtual 58, 3) := by decide +kernel
theorem dX5_hasLikeSides_18 : decode cX5_hasLikeSides 18 = .ok (.istore 4, 2) := by decide +kernel
theorem dX5_hasLikeSides_20 : decode cX5_hasLikeSides 20 = .ok (.iload 4, 2) := by decide +kernel
theorem dX5_hasLikeSides_22 : decode cX5_hasLikeSides 22 = .ok (.iload_n 3, 1) := by decide +kernel
theorem dX5_hasLikeSides_23 : decode cX5_hasLikeSides 23 = .ok (.isub, 1) := by decide +kernel
theorem dX5_hasLikeSides_24 : decode cX5_hasLikeSides 24 = .ok (.istore 5, 2) := by decide +kernel
theorem dX5_hasLikeSides_26 : decode cX5_hasLikeSides 26 = .ok (.iload 5, 2) := by decide +kernel
theorem dX5_hasLikeSides_28 : decode cX5_hasLikeSides 28 = .ok (.aload_n 0, 1) := by decide +kernel
theorem dX5_hasLikeSides_29 : decode cX5_hasLikeSides 29 = .ok (.getfield 15, 3) := by decide +kernel
theorem dX5_hasLikeSides_32 : decode cX5_hasLikeSides 32 = .ok (.iload_n 1, 1) := by decide +kernel
theorem dX5_hasLikeSides_33 : decode cX5_hasLikeSides 33 = .ok (.iconst 1, 1) := by decide +kernel
theorem dX5_hasLikeSides_34 : decode cX5_hasLikeSides 34 = .ok (.iadd, 1) := by decide +kernel
theorem dX5_hasLikeSides_35 : decode cX5_hasLikeSides 35 = .ok (.iaload, 1) := by decide +kernel
theorem dX5_hasLikeSides_36 : decode cX5_hasLikeSides 36 = .ok (.iload 4, 2) := by decide +kernel
theorem dX5_hasLikeSides_38 : decode cX5_hasLikeSides 38 = .ok (.isub, 1) := by decide +kernel
theorem dX5_hasLikeSides_39 : decode cX5_hasLikeSides 39 = .ok (.if_icmp .ne 26, 3) := by decide +kernel
theorem dX5_hasLikeSides_42 : decode cX5_hasLikeSides 42 = .ok (.aload_n 0, 1) := by decide +kernel
theorem dX5_hasLikeSides_43 : decode cX5_hasLikeSides 43 = .ok (.getfield 9, 3) := by decide +kernel
theorem dX5_hasLikeSides_46 : decode cX5_hasLikeSides 46 = .ok (.iload_n 3, 1) := by decide +kernel
theorem dX5_hasLikeSides_47 : decode cX5_hasLikeSides 47 = .ok (.aload_n 0, 1) := by decide +kernel
theorem dX5_hasLikeSides_48 : decode cX5_hasLikeSides 48 = .ok (.getfield 9, 3) := by decide +kernel
theorem dX5_hasLikeSides_51 : decode cX5_hasLikeSides 51 = .ok (.iload 4, 2) := by decide +kernel
theorem dX5_hasLikeSides_53 : decode cX5_hasLikeSides 53 = .ok (.iload 5, 2) := by decide +kernel
theorem dX5_hasLikeSides_55 : decode cX5_hasLikeSides 55 = .ok (.invokestatic 43, 3) := by decide +kernel
theorem dX5_hasLikeSides_58 : decode cX5_hasLikeSides 58 = .ok (.ifCond .eq 7, 3) := by decide +kernel
theorem dX5_hasLikeSides_61 : decode cX5_hasLikeSides 61 = .ok (.iconst 1, 1) := by decide +kernel
theorem dX5_hasLikeSides_62 : decode cX5_hasLikeSides 62 = .ok (.goto 4, 3) := by decide +kernel
theorem dX5_hasLikeSides_65 : decode cX5_hasLikeSides 65 = .ok (.iconst 0, 1) := by decide +kernel
theorem dX5_hasLikeSides_66 : decode cX5_hasLikeSides 66 = .ok (.ireturn, 1) := by decide +kernel
theorem dX5_mark_0 : decode cX5_mark 0 = .ok (.aload_n 0, 1) := by decide +kernel
theorem dX5_mark_1 : decode cX5_mark 1 = .ok (.iconst 0, 1) := by decide +kernel
theorem dX5_mark_2 : decode cX5_mark 2 = .ok (.putfield 26, 3) := by decide +kernel
theorem dX5_mark_5 : decode cX5_mark 5 = .ok (.iconst 0, 1) := by decide +kernel
theorem dX5_mark_6 : decode cX5_mark 6 = .ok (.istore_n 1, 1) := by decide +kernel
theorem dX5_mark_7 : decode cX5_mark 7 = .ok (.iload_n 1, 1) := by decide +kernel
theorem dX5_mark_8 : decode cX5_mark 8 = .ok (.aload_n 0, 1) := by decide +kernel
theorem dX5_mark_9 : decode cX5_mark 9 = .ok (.getfield 22, 3) := by decide +kernel
theorem dX5_mark_12 : decode cX5_mark 12 = .ok (.if_icmp .ge 100, 3) := by decide +kernel
theorem dX5_mark_15 : decode cX5_mark 15 = .ok (.aload_n 0, 1) := by decide +kernel
theorem dX5_mark_16 : decode cX5_mark 16 = .ok (.dup, 1) := by decide +kernel
theorem dX5_mark_17 : decode cX5_mark 17 = .ok (.getfield 26, 3) := by decide +kernel
theorem dX5_mark_20 : decode cX5_mark 20 = .ok (.iconst 1, 1) := by decide +kernel
theorem dX5_mark_21 : decode cX5_mark 21 = .ok (.aload_n 0, 1) := by decide +kernel
theorem dX5_mark_22 : decode cX5_mark 22 = .ok (.getfield 9, 3) := by decide +kernel
theorem dX5_mark_25 : decode cX5_mark 25 = .ok (.aload_n 0, 1) := by decide +kernel
theorem dX5_mark_26 : decode cX5_mark 26 = .ok (.getfield 15, 3) := by decide +kernel
theorem dX5_mark_29 : decode cX5_mark 29 = .ok (.iload_n 1, 1) := by decide +kernel
theorem dX5_mark_30 : decode cX5_mark 30 = .ok (.iaload, 1) := by decide +kernel
theorem dX5_mark_31 : decode cX5_mark 31 = .ok (.iaload, 1) := by decide +kernel
theorem dX5_mark_32 : decode cX5_mark 32 = .ok (.aload_n 0, 1) := by decide +kernel
theorem dX5_mark_33 : decode cX5_mark 33 = .ok (.getfield 18, 3) := by decide +kernel
theorem dX5_mark_36 : decode cX5_mark 36 = .ok (.iload_n 1, 1) := by decide +kernel
theorem dX5_mark_37 : decode cX5_mark 37 = .ok (.baload, 1) := by decide +kernel
theorem dX5_mark_38 : decode cX5_mark 38 = .ok (.ifCond .eq 8, 3) := by decide +kernel
theorem dX5_mark_41 : decode cX5_mark 41 = .ok (.bipush 16, 2) := by decide +kernel
theorem dX5_mark_43 : decode cX5_mark 43 = .ok (.goto 4, 3) := by decide +kernel
theorem dX5_mark_46 : decode cX5_mark 46 = .ok (.iconst 0, 1) := by decide +kernel
theorem dX5_mark_47 : decode cX5_mark 47 = .ok (.iadd, 1) := by decide +kernel
theorem dX5_mark_48 : decode cX5_mark 48 = .ok (.ishl, 1) := by decide +kernel
theorem dX5_mark_49 : decode cX5_mark 49 = .ok (.ior, 1) := by decide +kernel
theorem dX5_mark_50 : decode cX5_mark 50 = .ok (.putfield 26, 3) := by decide +kernel
theorem dX5_mark_53 : decode cX5_mark 53 = .ok (.aload_n 0, 1) := by decide +kernel
theorem dX5_mark_54 : decode cX5_mark 54 = .ok (.getfield 15, 3) := by decide +kernel
theorem dX5_mark_57 : decode cX5_mark 57 = .ok (.iload_n 1, 1) := by decide +kernel
theorem dX5_mark_58 : decode cX5_mark 58 = .ok (.iaload, 1) := by decide +kernel
theorem dX5_mark_59 : decode cX5_mark 59 = .ok (.iconst 1, 1) := by decide +kernel
theorem dX5_mark_60 : decode cX5_mark 60 = .ok (.iadd, 1) := by decide +kernel
theorem dX5_mark_61 : decode cX5_mark 61 = .ok (.istore_n 2, 1) := by decide +kernel
theorem dX5_mark_62 : decode cX5_mark 62 = .ok (.iload_n 2, 1) := by decide +kernel
theorem dX5_mark_63 : decode cX5_mark 63 = .ok (.aload_n 0, 1) := by decide +kernel
theorem dX5_mark_64 : decode cX5_mark 64 = .ok (.getfield 15, 3) := by decide +kernel
theorem dX5_mark_67 : decode cX5_mark 67 = .ok (.iload_n 1, 1) := by decide +kernel
theorem dX5_mark_68 : decode cX5_mark 68 = .ok (.iconst 1, 1) := by decide +kernel
theorem dX5_mark_69 : decode cX5_mark 69 = .ok (.iadd, 1) := by decide +kernel
theorem dX5_mark_70 : decode cX5_mark 70 = .ok (.iaload, 1) := by decide +kernel
theorem dX5_mark_71 : decode cX5_mark 71 = .ok (.if_icmp .ge 35, 3) := by decide +kernel
theorem dX5_mark_74 : decode cX5_mark 74 = .ok (.aload_n 0, 1) := by decide +kernel
theorem dX5_mark_75 : decode cX5_mark 75 = .ok (.getfield 9, 3) := by decide +kernel
theorem dX5_mark_78 : decode cX5_mark 78 = .ok (.iload_n 2, 1) := by decide +kernel
theorem dX5_mark_79 : decode cX5_mark 79 = .ok (.iaload, 1) := by decide +kernel
theorem dX5_mark_80 : decode cX5_mark 80 = .ok (.ifCond .lt 20, 3) := by decide +kernel
theorem dX5_mark_83 : decode cX5_mark 83 = .ok (.aload_n 0, 1) := by decide +kernel
theorem dX5_mark_84 : decode cX5_mark 84 = .ok (.dup, 1) := by decide +kernel
theorem dX5_mark_85 : decode cX5_mark 85 = .ok (.getfield 26, 3) := by decide +kernel
theorem dX5_mark_88 : decode cX5_mark 88 = .ok (.iconst 1, 1) := by decide +kernel
theorem dX5_mark_89 : decode cX5_mark 89 = .ok (.aload_n 0, 1) := by decide +kernel
theorem dX5_mark_90 : decode cX5_mark 90 = .ok (.getfield 9, 3) := by decide +kernel
theorem dX5_mark_93 : decode cX5_mark 93 = .ok (.iload_n 2, 1) := by decide +kernel
theorem dX5_mark_94 : decode cX5_mark 94 = .ok (.iaload, 1) := by decide +kernel
theorem dX5_mark_95 : decode cX5_mark 95 = .ok (.ishl, 1) := by decide +kernel
theorem dX5_mark_96 : decode cX5_mark 96 = .ok (.ior, 1) := by decide +kernel
theorem dX5_mark_97 : decode cX5_mark 97 = .ok (.putfield 26, 3) := by decide +kernel
theorem dX5_mark_100 : decode cX5_mark 100 = .ok (.iinc 2 1, 3) := by decide +kernel
theorem dX5_mark_103 : decode cX5_mark 103 = .ok (.goto (-41), 3) := by decide +kernel
theorem dX5_mark_106 : decode cX5_mark 106 = .ok (.iinc 1 1, 3) := by decide +kernel
theorem dX5_mark_109 : decode cX5_mark 109 = .ok (.goto (-102), 3) := by decide +kernel
theorem dX5_mark_112 : decode cX5_mark 112 = .ok (.return_, 1) := by decide +kernel
theorem dX5_copy_0 : decode cX5_copy 0 = .ok (.aload_n 0, 1) := by decide +kernel
theorem dX5_copy_1 : decode cX5_copy 1 = .ok (.aload_n 1, 1) := by decide +kernel
theorem dX5_copy_2 : decode cX5_copy 2 = .ok (.getfield 22, 3) := by decide +kernel
theorem dX5_copy_5 : decode cX5_copy 5 = .ok (.putfield 22, 3) := by decide +kernel
theorem dX5_copy_8 : decode cX5_copy 8 = .ok (.aload_n 0, 1) := by decide +kernel
theorem dX5_copy_9 : decode cX5_copy 9 = .ok (.aload_n 1, 1) := by decide +kernel
theorem dX5_copy_10 : decode cX5_copy 10 = .ok (.getfield 26, 3) := by decide +kernel
theorem dX5_copy_13 : decode cX5_copy 13 = .ok (.putfield 26, 3) := by decide +kernel
theorem dX5_copy_16 : decode cX5_copy 16 = .ok (.aload_n 1, 1) := by decide +kernel
theorem dX5_copy_17 : decode cX5_copy 17 = .ok (.getfield 15, 3) := by decide +kernel
theorem dX5_copy_20 : decode cX5_copy 20 = .ok (.iconst 0, 1) := by decide +kernel
theorem dX5_copy_21 : decode cX5_copy 21 = .ok (.aload_n 0, 1) := by decide +kernel
theorem dX5_copy_22 : decode cX5_copy 22 = .ok (.getfield 15, 3) := by decide +kernel
theorem dX5_copy_25 : decode cX5_copy 25 = .ok (.iconst 0, 1) := by decide +kernel
theorem dX5_copy_26 : decode cX5_copy 26 = .ok (.aload_n 0, 1) := by decide +kernel
theorem dX5_copy_27 : decode cX5_copy 27 = .ok (.getfield 22, 3) := by decide +kernel
theorem dX5_copy_30 : decode cX5_copy 30 = .ok (.iconst 1, 1) := by decide +kernel
theorem dX5_copy_31 : decode cX5_copy 31 = .ok (.iadd, 1) := by decide +kernel
theorem dX5_copy_32 : decode cX5_copy 32 = .ok (.invokestatic 33, 3) := by decide +kernel
theorem dX5_copy_35 : decode cX5_copy 35 = .ok (.aload_n 1, 1) := by decide +kernel
theorem dX5_copy_36 : decode cX5_copy 36 = .ok (.getfield 9, 3) := by decide +kernel
theorem dX5_copy_39 : decode cX5_copy 39 = .ok (.iconst 0, 1) := by decide +kernel
theorem dX5_copy_40 : decode cX5_copy 40 = .ok (.aload_n 0, 1) := by decide +kernel
theorem dX5_copy_41 : decode cX5_copy 41 = .ok (.getfield 9, 3) := by decide +kernel
theorem dX5_copy_44 : decode cX5_copy 44 = .ok (.iconst 0, 1) := by decide +kernel
theorem dX5_copy_45 : decode cX5_copy 45 = .ok (.aload_n 0, 1) := by decide +kernel
theorem dX5_copy_46 : decode cX5_copy 46 = .ok (.getfield 15, 3) := by decide +kernel
theorem dX5_copy_49 : decode cX5_copy 49 = .ok (.aload_n 0, 1) := by decide +kernel
theorem dX5_copy_50 : decode cX5_copy 50 = .ok (.getfield 22, 3) := by decide +kernel
theorem dX5_copy_53 : decode cX5_copy 53 = .ok (.iaload, 1) := by decide +kernel
theorem dX5_copy_54 : decode cX5_copy 54 = .ok (.invokestatic 33, 3) := by decide +kernel
theorem dX5_copy_57 : decode cX5_copy 57 = .ok (.iconst 0, 1) := by decide +kernel
theorem dX5_copy_58 : decode cX5_copy 58 = .ok (.istore_n 2, 1) := by decide +kernel
theorem dX5_copy_59 : decode cX5_copy 59 = .ok (.iload_n 2, 1) := by decide +kernel
theorem dX5_copy_60 : decode cX5_copy 60 = .ok (.aload_n 0, 1) := by decide +kernel
theorem dX5_copy_61 : decode cX5_copy 61 = .ok (.getfield 22, 3) := by decide +kernel
theorem dX5_copy_64 : decode cX5_copy 64 = .ok (.if_icmp .ge 21, 3) := by decide +kernel
theorem dX5_copy_67 : decode cX5_copy 67 = .ok (.aload_n 0, 1) := by decide +kernel
theorem dX5_copy_68 : decode cX5_copy 68 = .ok (.getfield 18, 3) := by decide +kernel
theorem dX5_copy_71 : decode cX5_copy 71 = .ok (.iload_n 2, 1) := by decide +kernel
theorem dX5_copy_72 : decode cX5_copy 72 = .ok (.aload_n 1, 1) := by decide +kernel
theorem dX5_copy_73 : decode cX5_copy 73 = .ok (.getfield 18, 3) := by decide +kernel
theorem dX5_copy_76 : decode cX5_copy 76 = .ok (.iload_n 2, 1) := by decide +kernel
theorem dX5_copy_77 : decode cX5_copy 77 = .ok (.baload, 1) := by decide +kernel
theorem dX5_copy_78 : decode cX5_copy 78 = .ok (.bastore, 1) := by decide +kernel
theorem dX5_copy_79 : decode cX5_copy 79 = .ok (.iinc 2 1, 3) := by decide +kernel
theorem dX5_copy_82 : decode cX5_copy 82 = .ok (.goto (-23), 3) := by decide +kernel
theorem dX5_copy_85 : decode cX5_copy 85 = .ok (.return_, 1) := by decide +kernel
theorem dX5_same_0 : decode cX5_same 0 = .ok (.aload_n 0, 1) := by decide +kernel
theorem dX5_same_1 : decode cX5_same 1 = .ok (.getfield 22, 3) := by decide +kernel
theorem dX5_same_4 : decode cX5_same 4 = .ok (.aload_n 1, 1) := by decide +kernel
theorem dX5_same_5 : decode cX5_same 5 = .ok (.getfield 22, 3) := by decide +kernel
theorem dX5_same_8 : decode cX5_same 8 = .ok (.if_icmp .eq 5, 3) := by decide +kernel
theorem dX5_same_11 : decode cX5_same 11 = .ok (.iconst 0, 1) := by decide +kernel
theorem dX5_same_12 : decode cX5_same 12 = .ok (.ireturn, 1) := by decide +kernel
theorem dX5_same_13 : decode cX5_same 13 = .ok (.iconst 0, 1) := by decide +kernel
theorem dX5_same_14 : decode cX5_same 14 = .ok (.istore_n 2, 1) := by decide +kernel
theorem dX5_same_15 : decode cX5_same 15 = .ok (.iload_n 2, 1) := by decide +kernel
theorem dX5_same_16 : decode cX5_same 16 = .ok (.aload_n 0, 1) := by decide +kernel
theorem dX5_same_17 : decode cX5_same 17 = .ok (.getfield 22, 3) := by decide +kernel
theorem dX5_same_20 : decode cX5_same 20 = .ok (.if_icmp .ge 45, 3) := by decide +kernel
theorem dX5_same_23 : decode cX5_same 23 = .ok (.aload_n 0, 1) := by decide +kernel
theorem dX5_same_24 : decode cX5_same 24 = .ok (.getfield 18, 3) := by decide +kernel
theorem dX5_same_27 : decode cX5_same 27 = .ok (.iload_n 2, 1) := by decide +kernel
theorem dX5_same_28 : decode cX5_same 28 = .ok (.baload, 1) := by decide +kernel
theorem dX5_same_29 : decode cX5_same 29 = .ok (.aload_n 1, 1) := by decide +kernel
theorem dX5_same_30 : decode cX5_same 30 = .ok (.getfield 18, 3) := by decide +kernel
theorem dX5_same_33 : decode cX5_same 33 = .ok (.iload_n 2, 1) := by decide +kernel
theorem dX5_same_34 : decode cX5_same 34 = .ok (.baload, 1) := by decide +kernel
theorem dX5_same_35 : decode cX5_same 35 = .ok (.if_icmp .ne 22, 3) := by decide +kernel
theorem dX5_same_38 : decode cX5_same 38 = .ok (.aload_n 0, 1) := by decide +kernel
theorem dX5_same_39 : decode cX5_same 39 = .ok (.getfield 15, 3) := by decide +kernel
theorem dX5_same_42 : decode cX5_same 42 = .ok (.iload_n 2, 1) := by decide +kernel
theorem dX5_same_43 : decode cX5_same 43 = .ok (.iconst 1, 1) := by decide +kernel
theorem dX5_same_44 : decode cX5_same 44 = .ok (.iadd, 1) := by decide +kernel
theorem dX5_same_45 : decode cX5_same 45 = .ok (.iaload, 1) := by decide +kernel
theorem dX5_same_46 : decode cX5_same 46 = .ok (.aload_n 1, 1) := by decide +kernel
theorem dX5_same_47 : decode cX5_same 47 = .ok (.getfield 15, 3) := by decide +kernel
theorem dX5_same_50 : decode cX5_same 50 = .ok (.iload_n 2, 1) := by decide +kernel
theorem dX5_same_51 : decode cX5_same 51 = .ok (.iconst 1, 1) := by decide +kernel
theorem dX5_same_52 : decode cX5_same 52 = .ok (.iadd, 1) := by decide +kernel
theorem dX5_same_53 : decode cX5_same 53 = .ok (.iaload, 1) := by decide +kernel
theorem dX5_same_54 : decode cX5_same 54 = .ok (.if_icmp .eq 5, 3) := by decide +kernel
theorem dX5_same_57 : decode cX5_same 57 = .ok (.iconst 0, 1) := by decide +kernel
theorem dX5_same_58 : decode cX5_same 58 = .ok (.ireturn, 1) := by decide +kernel
theorem dX5_same_59 : decode cX5_same 59 = .ok (.iinc 2 1, 3) := by decide +kernel
theorem dX5_same_62 : decode cX5_same 62 = .ok (.goto (-47), 3) := by decide +kernel
theorem dX5_same_65 : decode cX5_same 65 = .ok (.aload_n 0, 1) := by decide +kernel
theorem dX5_same_66 : decode cX5_same 66 = .ok (.getfield 9, 3) := by decide +kernel
theorem dX5_same_69 : decode cX5_same 69 = .ok (.iconst 0, 1) := by decide +kernel
theorem dX5_same_70 : decode cX5_same 70 = .ok (.aload_n 1, 1) := by decide +kernel
theorem dX5_same_71 : decode cX5_same 71 = .ok (.getfield 9, 3) := by decide +kernel
theorem dX5_same_74 : decode cX5_same 74 = .ok (.iconst 0, 1) := by decide +kernel
theorem dX5_same_75 : decode cX5_same 75 = .ok (.aload_n 0, 1) := by decide +kernel
theorem dX5_same_76 : decode cX5_same 76 = .ok (.getfield 15, 3) := by decide +kernel
theorem dX5_same_79 : decode cX5_same 79 = .ok (.aload_n 0, 1) := by decide +kernel
theorem dX5_same_80 : decode cX5_same 80 = .ok (.getfield 22, 3) := by decide +kernel
theorem dX5_same_83 : decode cX5_same 83 = .ok (.iaload, 1) := by decide +kernel
theorem dX5_same_84 : decode cX5_same 84 = .ok (.invokestatic 43, 3) := by decide +kernel
theorem dX5_same_87 : decode cX5_same 87 = .ok (.ireturn, 1) := by decide +kernel
theorem dX6_init_0 : decode cX6_init 0 = .ok (.aload_n 0, 1) := by decide +kernel
theorem dX6_init_1 : decode cX6_init 1 = .ok (.invokespecial 3, 3) := by decide +kernel
theorem dX6_init_4 : decode cX6_init 4 = .ok (.aload_n 0, 1) := by decide +kernel
theorem dX6_init_5 : decode cX6_init 5 = .ok (.bipush 40, 2) := by decide +kernel
theorem dX6_init_7 : decode cX6_init 7 = .ok (.newarray .int, 2) := by decide +kernel
theorem dX6_init_9 : decode cX6_init 9 = .ok (.putfield 9, 3) := by decide +kernel
theorem dX6_init_12 : decode cX6_init 12 = .ok (.aload_n 0, 1) := by decide +kernel
theorem dX6_init_13 : decode cX6_init 13 = .ok (.iconst 0, 1) := by decide +kernel
theorem dX6_init_14 : decode cX6_init 14 = .ok (.putfield 15, 3) := by decide +kernel
theorem dX6_init_17 : decode cX6_init 17 = .ok (.aload_n 0, 1) := by decide +kernel
theorem dX6_init_18 : decode cX6_init 18 = .ok (.iconst 1, 1) := by decide +kernel
theorem dX6_init_19 : decode cX6_init 19 = .ok (.putfield 19, 3) := by decide +kernel
theorem dX6_init_22 : decode cX6_init 22 = .ok (.aload_n 0, 1) := by decide +kernel
theorem dX6_init_23 : decode cX6_init 23 = .ok (.iconst 1, 1) := by decide +kernel
theorem dX6_init_24 : decode cX6_init 24 = .ok (.putfield 23, 3) := by decide +kernel
theorem dX6_init_27 : decode cX6_init 27 = .ok (.aload_n 0, 1) := by decide +kernel
theorem dX6_init_28 : decode cX6_init 28 = .ok (.aload_n 1, 1) := by decide +kernel
theorem dX6_init_29 : decode cX6_init 29 = .ok (.putfield 26, 3) := by decide +kernel
theorem dX6_init_32 : decode cX6_init 32 = .ok (.return_, 1) := by decide +kernel
theorem dX6_weigh_0 : decode cX6_weigh 0 = .ok (.iconst 0, 1) := by decide +kernel
theorem dX6_weigh_1 : decode cX6_weigh 1 = .ok (.istore 4, 2) := by decide +kernel
theorem dX6_weigh_3 : decode cX6_weigh 3 = .ok (.iload_n 2, 1) := by decide +kernel
theorem dX6_weigh_4 : decode cX6_weigh 4 = .ok (.istore 5, 2) := by decide +kernel
theorem dX6_weigh_6 : decode cX6_weigh 6 = .ok (.iload 5, 2) := by decide +kernel
theorem dX6_weigh_8 : decode cX6_weigh 8 = .ok (.iload_n 3, 1) := by decide +kernel
theorem dX6_weigh_9 : decode cX6_weigh 9 = .ok (.if_icmp .ge 25, 3) := by decide +kernel
theorem dX6_weigh_12 : decode cX6_weigh 12 = .ok (.iload 4, 2) := by decide +kernel
theorem dX6_weigh_14 : decode cX6_weigh 14 = .ok (.aload_n 0, 1) := by decide +kernel
theorem dX6_weigh_15 : decode cX6_weigh 15 = .ok (.getfield 26, 3) := by decide +kernel
theorem dX6_weigh_18 : decode cX6_weigh 18 = .ok (.aload_n 1, 1) := by decide +kernel
theorem dX6_weigh_19 : decode cX6_weigh 19 = .ok (.iload 5, 2) := by decide +kernel
theorem dX6_weigh_21 : decode cX6_weigh 21 = .ok (.iaload, 1) := by decide +kernel
theorem dX6_weigh_22 : decode cX6_weigh 22 = .ok (.invokevirtual 30, 3) := by decide +kernel
theorem dX6_weigh_25 : decode cX6_weigh 25 = .ok (.iadd, 1) := by decide +kernel
theorem dX6_weigh_26 : decode cX6_weigh 26 = .ok (.istore 4, 2) := by decide +kernel
theorem dX6_weigh_28 : decode cX6_weigh 28 = .ok (.iinc 5 1, 3) := by decide +kernel
theorem dX6_weigh_31 : decode cX6_weigh 31 = .ok (.goto (-25), 3) := by decide +kernel
theorem dX6_weigh_34 : decode cX6_weigh 34 = .ok (.iload 4, 2) := by decide +kernel
theorem dX6_weigh_36 : decode cX6_weigh 36 = .ok (.ireturn, 1) := by decide +kernel
theorem dX6_compare_0 : decode cX6_compare 0 = .ok (.iload_n 2, 1) := by decide +kernel
theorem dX6_compare_1 : decode cX6_compare 1 = .ok (.istore 5, 2) := by decide +kernel
theorem dX6_compare_3 : decode cX6_compare 3 = .ok (.iload 4, 2) := by decide +kernel
theorem dX6_compare_5 : decode cX6_compare 5 = .ok (.istore 6, 2) := by decide +kernel
theorem dX6_compare_7 : decode cX6_compare 7 = .ok (.aload_n 0, 1) := by decide +kernel
theorem dX6_compare_8 : decode cX6_compare 8 = .ok (.iconst 1, 1) := by decide +kernel
theorem dX6_compare_9 : decode cX6_compare 9 = .ok (.putfield 19, 3) := by decide +kernel
theorem dX6_compare_12 : decode cX6_compare 12 = .ok (.aload_n 0, 1) := by decide +kernel
theorem dX6_compare_13 : decode cX6_compare 13 = .ok (.iconst 1, 1) := by decide +kernel
theorem dX6_compare_14 : decode cX6_compare 14 = .ok (.putfield 23, 3) := by decide +kernel
theorem dX6_compare_17 : decode cX6_compare 17 = .ok (.iconst 0, 1) := by decide +kernel
theorem dX6_compare_18 : decode cX6_compare 18 = .ok (.istore 7, 2) := by decide +kernel
theorem dX6_compare_20 : decode cX6_compare 20 = .ok (.iload 7, 2) := by decide +kernel
theorem dX6_compare_22 : decode cX6_compare 22 = .ok (.ldc 36, 2) := by decide +kernel
theorem dX6_compare_24 : decode cX6_compare 24 = .ok (.if_icmp .ge 206, 3) := by decide +kernel
theorem dX6_compare_27 : decode cX6_compare 27 = .ok (.aload_n 0, 1) := by decide +kernel
theorem dX6_compare_28 : decode cX6_compare 28 = .ok (.getfield 26, 3) := by decide +kernel
theorem dX6_compare_31 : decode cX6_compare 31 = .ok (.aload_n 1, 1) := by decide +kernel
theorem dX6_compare_32 : decode cX6_compare 32 = .ok (.iload 5, 2) := by decide +kernel
theorem dX6_compare_34 : decode cX6_compare 34 = .ok (.invokevirtual 37, 3) := by decide +kernel
theorem dX6_compare_37 : decode cX6_compare 37 = .ok (.istore 8, 2) := by decide +kernel
theorem dX6_compare_39 : decode cX6_compare 39 = .ok (.aload_n 0, 1) := by decide +kernel
theorem dX6_compare_40 : decode cX6_compare 40 = .ok (.getfield 26, 3) := by decide +kernel
theorem dX6_compare_43 : decode cX6_compare 43 = .ok (.aload_n 3, 1) := by decide +kernel
theorem dX6_compare_44 : decode cX6_compare 44 = .ok (.iload 6, 2) := by decide +kernel
theorem dX6_compare_46 : decode cX6_compare 46 = .ok (.invokevirtual 37, 3) := by decide +kernel
theorem dX6_compare_49 : decode cX6_compare 49 = .ok (.istore 9, 2) := by decide +kernel
theorem dX6_compare_51 : decode cX6_compare 51 = .ok (.iload 8, 2) := by decide +kernel
theorem dX6_compare_53 : decode cX6_compare 53 = .ok (.iload 5, 2) := by decide +kernel
theorem dX6_compare_55 : decode cX6_compare 55 = .ok (.isub, 1) := by decide +kernel
theorem dX6_compare_56 : decode cX6_compare 56 = .ok (.iload 9, 2) := by decide +kernel
theorem dX6_compare_58 : decode cX6_compare 58 = .ok (.iload 6, 2) := by decide +kernel
theorem dX6_compare_60 : decode cX6_compare 60 = .ok (.isub, 1) := by decide +kernel
theorem dX6_compare_61 : decode cX6_compare 61 = .ok (.if_icmp .ne 22, 3) := by decide +kernel
theorem dX6_compare_64 : decode cX6_compare 64 = .ok (.aload_n 1, 1) := by decide +kernel
theorem dX6_compare_65 : decode cX6_compare 65 = .ok (.iload 5, 2) := by decide +kernel
theorem dX6_compare_67 : decode cX6_compare 67 = .ok (.aload_n 3, 1) := by decide +kernel
theorem dX6_compare_68 : decode cX6_compare 68 = .ok (.iload 6, 2) := by decide +kernel
theorem dX6_compare_70 : decode cX6_compare 70 = .ok (.iload 8, 2) := by decide +kernel
theorem dX6_compare_72 : decode cX6_compare 72 = .ok (.iload 5, 2) := by decide +kernel
theorem dX6_compare_74 : decode cX6_compare 74 = .ok (.isub, 1) := by decide +kernel
theorem dX6_compare_75 : decode cX6_compare 75 = .ok (.invokestatic 41, 3) := by decide +kernel
theorem dX6_compare_78 : decode cX6_compare 78 = .ok (.ifCond .eq 5, 3) := by decide +kernel
theorem dX6_compare_81 : decode cX6_compare 81 = .ok (.iconst 2, 1) := by decide +kernel
theorem dX6_compare_82 : decode cX6_compare 82 = .ok (.ireturn, 1) := by decide +kernel
theorem dX6_compare_83 : decode cX6_compare 83 = .ok (.aload_n 0, 1) := by decide +kernel
theorem dX6_compare_84 : decode cX6_compare 84 = .ok (.iconst 0, 1) := by decide +kernel
theorem dX6_compare_85 : decode cX6_compare 85 = .ok (.putfield 15, 3) := by decide +kernel
theorem dX6_compare_88 : decode cX6_compare 88 = .ok (.aload_n 0, 1) := by decide +kernel
theorem dX6_compare_89 : decode cX6_compare 89 = .ok (.aload_n 1, 1) := by decide +kernel
theorem dX6_compare_90 : decode cX6_compare 90 = .ok (.iload 5, 2) := by decide +kernel
theorem dX6_compare_92 : decode cX6_compare 92 = .ok (.iload 8, 2) := by decide +kernel
theorem dX6_compare_94 : decode cX6_compare 94 = .ok (.iconst 1, 1) := by decide +kernel
theorem dX6_compare_95 : decode cX6_compare 95 = .ok (.invokevirtual 45, 3) := by decide +kernel
theorem dX6_compare_98 : decode cX6_compare 98 = .ok (.aload_n 0, 1) := by decide +kernel
theorem dX6_compare_99 : decode cX6_compare 99 = .ok (.aload_n 3, 1) := by decide +kernel
theorem dX6_compare_100 : decode cX6_compare 100 = .ok (.iload 6, 2) := by decide +kernel
theorem dX6_compare_102 : decode cX6_compare 102 = .ok (.iload 9, 2) := by decide +kernel
theorem dX6_compare_104 : decode cX6_compare 104 = .ok (.iconst (-1), 1) := by decide +kernel
theorem dX6_compare_105 : decode cX6_compare 105 = .ok (.invokevirtual 45, 3) := by decide +kernel
theorem dX6_compare_108 : decode cX6_compare 108 = .ok (.aload_n 0, 1) := by decide +kernel
theorem dX6_compare_109 : decode cX6_compare 109 = .ok (.aload_n 1, 1) := by decide +kernel
theorem dX6_compare_110 : decode cX6_compare 110 = .ok (.iload 5, 2) := by decide +kernel
theorem dX6_compare_112 : decode cX6_compare 112 = .ok (.iload 8, 2) := by decide +kernel
theorem dX6_compare_114 : decode cX6_compare 114 = .ok (.invokevirtual 49, 3) := by decide +kernel
theorem dX6_compare_117 : decode cX6_compare 117 = .ok (.aload_n 0, 1) := by decide +kernel
theorem dX6_compare_118 : decode cX6_compare 118 = .ok (.aload_n 3, 1) := by decide +kernel
theorem dX6_compare_119 : decode cX6_compare 119 = .ok (.iload 6, 2) := by decide +kernel
theorem dX6_compare_121 : decode cX6_compare 121 = .ok (.iload 9, 2) := by decide +kernel
theorem dX6_compare_123 : decode cX6_compare 123 = .ok (.invokevirtual 49, 3) := by decide +kernel
theorem dX6_compare_126 : decode cX6_compare 126 = .ok (.aload_n 0, 1) := by decide +kernel
theorem dX6_compare_127 : decode cX6_compare 127 = .ok (.getfield 15, 3) := by decide +kernel
theorem dX6_compare_130 : decode cX6_compare 130 = .ok (.ifCond .eq 20, 3) := by decide +kernel
theorem dX6_compare_133 : decode cX6_compare 133 = .ok (.aload_n 0, 1) := by decide +kernel
theorem dX6_compare_134 : decode cX6_compare 134 = .ok (.aload_n 0, 1) := by decide +kernel
theorem dX6_compare_135 : decode cX6_compare 135 = .ok (.getfield 15, 3) := by decide +kernel
theorem dX6_compare_138 : decode cX6_compare 138 = .ok (.ifCond .le 7, 3) := by decide +kernel
theorem dX6_compare_141 : decode cX6_compare 141 = .ok (.iconst 1, 1) := by decide +kernel
theorem dX6_compare_142 : decode cX6_compare 142 = .ok (.goto 4, 3) := by decide +kernel
theorem dX6_compare_145 : decode cX6_compare 145 = .ok (.iconst 0, 1) := by decide +kernel
theorem dX6_compare_146 : decode cX6_compare 146 = .ok (.invokevirtual 53, 3) := by decide +kernel
theorem dX6_compare_149 : decode cX6_compare 149 = .ok (.ireturn, 1) := by decide +kernel
theorem dX6_compare_150 : decode cX6_compare 150 = .ok (.aload_n 1, 1) := by decide +kernel
theorem dX6_compare_151 : decode cX6_compare 151 = .ok (.iload 5, 2) := by decide +kernel
theorem dX6_compare_153 : decode cX6_compare 153 = .ok (.iaload, 1) := by decide +kernel
theorem dX6_compare_154 : decode cX6_compare 154 = .ok (.ifCond .lt 10, 3) := by decide +kernel
theorem dX6_compare_157 : decode cX6_compare 157 = .ok (.aload_n 3, 1) := by decide +kernel
theorem dX6_compare_158 : decode cX6_compare 158 = .ok (.iload 6, 2) := by decide +kernel
theorem dX6_compare_160 : decode cX6_compare 160 = .ok (.iaload, 1) := by decide +kernel
theorem dX6_compare_161 : decode cX6_compare 161 = .ok (.ifCond .ge 5, 3) := by decide +kernel
theorem dX6_compare_164 : decode cX6_compare 164 = .ok (.iconst 0, 1) := by decide +kernel
theorem dX6_compare_165 : decode cX6_compare 165 = .ok (.ireturn, 1) := by decide +kernel
theorem dX6_compare_166 : decode cX6_compare 166 = .ok (.aload_n 1, 1) := by decide +kernel
theorem dX6_compare_167 : decode cX6_compare 167 = .ok (.iload 5, 2) := by decide +kernel
theorem dX6_compare_169 : decode cX6_compare 169 = .ok (.iaload, 1) := by decide +kernel
theorem dX6_compare_170 : decode cX6_compare 170 = .ok (.aload_n 3, 1) := by decide +kernel
theorem dX6_compare_171 : decode cX6_compare 171 = .ok (.iload 6, 2) := by decide +kernel
theorem dX6_compare_173 : decode cX6_compare 173 = .ok (.iaload, 1) := by decide +kernel
theorem dX6_compare_174 : decode cX6_compare 174 = .ok (.if_icmp .eq 24, 3) := by decide +kernel
theorem dX6_compare_177 : decode cX6_compare 177 = .ok (.aload_n 0, 1) := by decide +kernel
theorem dX6_compare_178 : decode cX6_compare 178 = .ok (.aload_n 1, 1) := by decide +kernel
theorem dX6_compare_179 : decode cX6_compare 179 = .ok (.iload 5, 2) := by decide +kernel
theorem dX6_compare_181 : decode cX6_compare 181 = .ok (.iaload, 1) := by decide +kernel
theorem dX6_compare_182 : decode cX6_compare 182 = .ok (.aload_n 3, 1) := by decide +kernel
theorem dX6_compare_183 : decode cX6_compare 183 = .ok (.iload 6, 2) := by decide +kernel
theorem dX6_compare_185 : decode cX6_compare 185 = .ok (.iaload, 1) := by decide +kernel
theorem dX6_compare_186 : decode cX6_compare 186 = .ok (.if_icmp .le 7, 3) := by decide +kernel
theorem dX6_compare_189 : decode cX6_compare 189 = .ok (.iconst 1, 1) := by decide +kernel
theorem dX6_compare_190 : decode cX6_compare 190 = .ok (.goto 4, 3) := by decide +kernel
theorem dX6_compare_193 : decode cX6_compare 193 = .ok (.iconst 0, 1) := by decide +kernel
theorem dX6_compare_194 : decode cX6_compare 194 = .ok (.invokevirtual 53, 3) := by decide +kernel
theorem dX6_compare_197 : decode cX6_compare 197 = .ok (.ireturn, 1) := by decide +kernel
theorem dX6_compare_198 : decode cX6_compare 198 = .ok (.aload_n 0, 1) := by decide +kernel
theorem dX6_compare_199 : decode cX6_compare 199 = .ok (.aload_n 1, 1) := by decide +kernel
theorem dX6_compare_200 : decode cX6_compare 200 = .ok (.iload 5, 2) := by decide +kernel
theorem dX6_compare_202 : decode cX6_compare 202 = .ok (.aload_n 3, 1) := by decide +kernel
theorem dX6_compare_203 : decode cX6_compare 203 = .ok (.iload 6, 2) := by decide +kernel
theorem dX6_compare_205 : decode cX6_compare 205 = .ok (.invokevirtual 57, 3) := by decide +kernel
theorem dX6_compare_208 : decode cX6_compare 208 = .ok (.istore 10, 2) := by decide +kernel
theorem dX6_compare_210 : decode cX6_compare 210 = .ok (.iload 5, 2) := by decide +kernel
theorem dX6_compare_212 : decode cX6_compare 212 = .ok (.iload 10, 2) := by decide +kernel
theorem dX6_compare_214 : decode cX6_compare 214 = .ok (.iadd, 1) := by decide +kernel
theorem dX6_compare_215 : decode cX6_compare 215 = .ok (.istore 5, 2) := by decide +kernel
theorem dX6_compare_217 : decode cX6_compare 217 = .ok (.iload 6, 2) := by decide +kernel
theorem dX6_compare_219 : decode cX6_compare 219 = .ok (.iload 10, 2) := by decide +kernel
theorem dX6_compare_221 : decode cX6_compare 221 = .ok (.iadd, 1) := by decide +kernel
theorem dX6_compare_222 : decode cX6_compare 222 = .ok (.istore 6, 2) := by decide +kernel
theorem dX6_compare_224 : decode cX6_compare 224 = .ok (.iinc 7 1, 3) := by decide +kernel
theorem dX6_compare_227 : decode cX6_compare 227 = .ok (.goto (-207), 3) := by decide +kernel
theorem dX6_compare_230 : decode cX6_compare 230 = .ok (.iconst 0, 1) := by decide +kernel
theorem dX6_compare_231 : decode cX6_compare 231 = .ok (.ireturn, 1) := by decide +kernel
theorem dX6_tally_0 : decode cX6_tally 0 = .ok (.iload_n 2, 1) := by decide +kernel
theorem dX6_tally_1 : decode cX6_tally 1 = .ok (.istore 5, 2) := by decide +kernel
theorem dX6_tally_3 : decode cX6_tally 3 = .ok (.iload 5, 2) := by decide +kernel
theorem dX6_tally_5 : decode cX6_tally 5 = .ok (.iload_n 3, 1) := by decide +kernel
theorem dX6_tally_6 : decode cX6_tally 6 = .ok (.if_icmp .ge 67, 3) := by decide +kernel
theorem dX6_tally_9 : decode cX6_tally 9 = .ok (.aload_n 1, 1) := by decide +kernel
theorem dX6_tally_10 : decode cX6_tally 10 = .ok (.iload 5, 2) := by decide +kernel
theorem dX6_tally_12 : decode cX6_tally 12 = .ok (.iaload, 1) := by decide +kernel
theorem dX6_tally_13 : decode cX6_tally 13 = .ok (.istore 6, 2) := by decide +kernel
theorem dX6_tally_15 : decode cX6_tally 15 = .ok (.aload_n 0, 1) := by decide +kernel
theorem dX6_tally_16 : decode cX6_tally 16 = .ok (.dup, 1) := by decide +kernel
theorem dX6_tally_17 : decode cX6_tally 17 = .ok (.getfield 15, 3) := by decide +kernel
theorem dX6_tally_20 : decode cX6_tally 20 = .ok (.iload 4, 2) := by decide +kernel
theorem dX6_tally_22 : decode cX6_tally 22 = .ok (.aload_n 0, 1) := by decide +kernel
theorem dX6_tally_23 : decode cX6_tally 23 = .ok (.getfield 26, 3) := by decide +kernel
theorem dX6_tally_26 : decode cX6_tally 26 = .ok (.iload 6, 2) := by decide +kernel
theorem dX6_tally_28 : decode cX6_tally 28 = .ok (.invokevirtual 30, 3) := by decide +kernel
theorem dX6_tally_31 : decode cX6_tally 31 = .ok (.imul, 1) := by decide +kernel
theorem dX6_tally_32 : decode cX6_tally 32 = .ok (.iadd, 1) := by decide +kernel
theorem dX6_tally_33 : decode cX6_tally 33 = .ok (.putfield 15, 3) := by decide +kernel
theorem dX6_tally_36 : decode cX6_tally 36 = .ok (.iload 6, 2) := by decide +kernel
theorem dX6_tally_38 : decode cX6_tally 38 = .ok (.ifCond .ge 29, 3) := by decide +kernel
theorem dX6_tally_41 : decode cX6_tally 41 = .ok (.iconst (-1), 1) := by decide +kernel
theorem dX6_tally_42 : decode cX6_tally 42 = .ok (.iload 6, 2) := by decide +kernel
theorem dX6_tally_44 : decode cX6_tally 44 = .ok (.isub, 1) := by decide +kernel
theorem dX6_tally_45 : decode cX6_tally 45 = .ok (.aload_n 0, 1) := by decide +kernel
theorem dX6_tally_46 : decode cX6_tally 46 = .ok (.getfield 9, 3) := by decide +kernel
theorem dX6_tally_49 : decode cX6_tally 49 = .ok (.arraylength, 1) := by decide +kernel
theorem dX6_tally_50 : decode cX6_tally 50 = .ok (.if_icmp .ge 17, 3) := by decide +kernel
theorem dX6_tally_53 : decode cX6_tally 53 = .ok (.aload_n 0, 1) := by decide +kernel
theorem dX6_tally_54 : decode cX6_tally 54 = .ok (.getfield 9, 3) := by decide +kernel
theorem dX6_tally_57 : decode cX6_tally 57 = .ok (.iconst (-1), 1) := by decide +kernel
theorem dX6_tally_58 : decode cX6_tally 58 = .ok (.iload 6, 2) := by decide +kernel
theorem dX6_tally_60 : decode cX6_tally 60 = .ok (.isub, 1) := by decide +kernel
theorem dX6_tally_61 : decode cX6_tally 61 = .ok (.dup2, 1) := by decide +kernel
theorem dX6_tally_62 : decode cX6_tally 62 = .ok (.iaload, 1) := by decide +kernel
theorem dX6_tally_63 : decode cX6_tally 63 = .ok (.iload 4, 2) := by decide +kernel
theorem dX6_tally_65 : decode cX6_tally 65 = .ok (.iadd, 1) := by decide +kernel
theorem dX6_tally_66 : decode cX6_tally 66 = .ok (.iastore, 1) := by decide +kernel
theorem dX6_tally_67 : decode cX6_tally 67 = .ok (.iinc 5 1, 3) := by decide +kernel
theorem dX6_tally_70 : decode cX6_tally 70 = .ok (.goto (-67), 3) := by decide +kernel
theorem dX6_tally_73 : decode cX6_tally 73 = .ok (.return_, 1) := by decide +kernel
theorem dX6_settleSurplus_0 : decode cX6_settleSurplus 0 = .ok (.iload_n 2, 1) := by decide +kernel
theorem dX6_settleSurplus_1 : decode cX6_settleSurplus 1 = .ok (.istore 4, 2) := by decide +kernel
theorem dX6_settleSurplus_3 : decode cX6_settleSurplus 3 = .ok (.iload 4, 2) := by decide +kernel
theorem dX6_settleSurplus_5 : decode cX6_settleSurplus 5 = .ok (.iload_n 3, 1) := by decide +kernel
theorem dX6_settleSurplus_6 : decode cX6_settleSurplus 6 = .ok (.if_icmp .ge 92, 3) := by decide +kernel
theorem dX6_settleSurplus_9 : decode cX6_settleSurplus 9 = .ok (.iconst (-1), 1) := by decide +kernel
theorem dX6_settleSurplus_10 : decode cX6_settleSurplus 10 = .ok (.aload_n 1, 1) := by decide +kernel
theorem dX6_settleSurplus_11 : decode cX6_settleSurplus 11 = .ok (.iload 4, 2) := by decide +kernel
theorem dX6_settleSurplus_13 : decode cX6_settleSurplus 13 = .ok (.iaload, 1) := by decide +kernel
theorem dX6_settleSurplus_14 : decode cX6_settleSurplus 14 = .ok (.isub, 1) := by decide +kernel
theorem dX6_settleSurplus_15 : decode cX6_settleSurplus 15 = .ok (.istore 5, 2) := by decide +kernel
theorem dX6_settleSurplus_17 : decode cX6_settleSurplus 17 = .ok (.iload 5, 2) := by decide +kernel
theorem dX6_settleSurplus_19 : decode cX6_settleSurplus 19 = .ok (.ifCond .lt 73, 3) := by decide +kernel
theorem dX6_settleSurplus_22 : decode cX6_settleSurplus 22 = .ok (.iload 5, 2) := by decide +kernel
theorem dX6_settleSurplus_24 : decode cX6_settleSurplus 24 = .ok (.aload_n 0, 1) := by decide +kernel
theorem dX6_settleSurplus_25 : decode cX6_settleSurplus 25 = .ok (.getfield 9, 3) := by decide +kernel
theorem dX6_settleSurplus_28 : decode cX6_settleSurplus 28 = .ok (.arraylength, 1) := by decide +kernel
theorem dX6_settleSurplus_29 : decode cX6_settleSurplus 29 = .ok (.if_icmp .ge 63, 3) := by decide +kernel
theorem dX6_settleSurplus_32 : decode cX6_settleSurplus 32 = .ok (.aload_n 0, 1) := by decide +kernel
theorem dX6_settleSurplus_33 : decode cX6_settleSurplus 33 = .ok (.aload_n 0, 1) := by decide +kernel
theorem dX6_settleSurplus_34 : decode cX6_settleSurplus 34 = .ok (.getfield 19, 3) := by decide +kernel
theorem dX6_settleSurplus_37 : decode cX6_settleSurplus 37 = .ok (.ifCond .eq 17, 3) := by decide +kernel
theorem dX6_settleSurplus_40 : decode cX6_settleSurplus 40 = .ok (.aload_n 0, 1) := by decide +kernel
theorem dX6_settleSurplus_41 : decode cX6_settleSurplus 41 = .ok (.getfield 9, 3) := by decide +kernel
theorem dX6_settleSurplus_44 : decode cX6_settleSurplus 44 = .ok (.iload 5, 2) := by decide +kernel
theorem dX6_settleSurplus_46 : decode cX6_settleSurplus 46 = .ok (.iaload, 1) := by decide +kernel
theorem dX6_settleSurplus_47 : decode cX6_settleSurplus 47 = .ok (.ifCond .lt 7, 3) := by decide +kernel
theorem dX6_settleSurplus_50 : decode cX6_settleSurplus 50 = .ok (.iconst 1, 1) := by decide +kernel
theorem dX6_settleSurplus_51 : decode cX6_settleSurplus 51 = .ok (.goto 4, 3) := by decide +kernel
theorem dX6_settleSurplus_54 : decode cX6_settleSurplus 54 = .ok (.iconst 0, 1) := by decide +kernel
theorem dX6_settleSurplus_55 : decode cX6_settleSurplus 55 = .ok (.putfield 19, 3) := by decide +kernel
theorem dX6_settleSurplus_58 : decode cX6_settleSurplus 58 = .ok (.aload_n 0, 1) := by decide +kernel
theorem dX6_settleSurplus_59 : decode cX6_settleSurplus 59 = .ok (.aload_n 0, 1) := by decide +kernel
theorem dX6_settleSurplus_60 : decode cX6_settleSurplus 60 = .ok (.getfield 23, 3) := by decide +kernel
theorem dX6_settleSurplus_63 : decode cX6_settleSurplus 63 = .ok (.ifCond .eq 17, 3) := by decide +kernel
theorem dX6_settleSurplus_66 : decode cX6_settleSurplus 66 = .ok (.aload_n 0, 1) := by decide +kernel
theorem dX6_settleSurplus_67 : decode cX6_settleSurplus 67 = .ok (.getfield 9, 3) := by decide +kernel
theorem dX6_settleSurplus_70 : decode cX6_settleSurplus 70 = .ok (.iload 5, 2) := by decide +kernel
theorem dX6_settleSurplus_72 : decode cX6_settleSurplus 72 = .ok (.iaload, 1) := by decide +kernel
theorem dX6_settleSurplus_73 : decode cX6_settleSurplus 73 = .ok (.ifCond .gt 7, 3) := by decide +kernel
theorem dX6_settleSurplus_76 : decode cX6_settleSurplus 76 = .ok (.iconst 1, 1) := by decide +kernel
theorem dX6_settleSurplus_77 : decode cX6_settleSurplus 77 = .ok (.goto 4, 3) := by decide +kernel
theorem dX6_settleSurplus_80 : decode cX6_settleSurplus 80 = .ok (.iconst 0, 1) := by decide +kernel
theorem dX6_settleSurplus_81 : decode cX6_settleSurplus 81 = .ok (.putfield 23, 3) := by decide +kernel
theorem dX6_settleSurplus_84 : decode cX6_settleSurplus 84 = .ok (.aload_n 0, 1) := by decide +kernel
theorem dX6_settleSurplus_85 : decode cX6_settleSurplus 85 = .ok (.getfield 9, 3) := by decide +kernel
theorem dX6_settleSurplus_88 : decode cX6_settleSurplus 88 = .ok (.iload 5, 2) := by decide +kernel
theorem dX6_settleSurplus_90 : decode cX6_settleSurplus 90 = .ok (.iconst 0, 1) := by decide +kernel
theorem dX6_settleSurplus_91 : decode cX6_settleSurplus 91 = .ok (.iastore, 1) := by decide +kernel
theorem dX6_settleSurplus_92 : decode cX6_settleSurplus 92 = .ok (.iinc 4 1, 3) := by decide +kernel
theorem dX6_settleSurplus_95 : decode cX6_settleSurplus 95 = .ok (.goto (-92), 3) := by decide +kernel
theorem dX6_settleSurplus_98 : decode cX6_settleSurplus 98 = .ok (.return_, 1) := by decide +kernel
theorem dX6_settled_0 : decode cX6_settled 0 = .ok (.iload_n 1, 1) := by decide +kernel
theorem dX6_settled_1 : decode cX6_settled 1 = .ok (.ifCond .eq 16, 3) := by decide +kernel
theorem dX6_settled_4 : decode cX6_settled 4 = .ok (.aload_n 0, 1) := by decide +kernel
theorem dX6_settled_5 : decode cX6_settled 5 = .ok (.getfield 19, 3) := by decide +kernel
theorem dX6_settled_8 : decode cX6_settled 8 = .ok (.ifCond .eq 7, 3) := by decide +kernel
theorem dX6_settled_11 : decode cX6_settled 11 = .ok (.iconst 1, 1) := by decide +kernel
theorem dX6_settled_12 : decode cX6_settled 12 = .ok (.goto 4, 3) := by decide +kernel
theorem dX6_settled_15 : decode cX6_settled 15 = .ok (.iconst 0, 1) := by decide +kernel
theorem dX6_settled_16 : decode cX6_settled 16 = .ok (.ireturn, 1) := by decide +kernel
theorem dX6_settled_17 : decode cX6_settled 17 = .ok (.aload_n 0, 1) := by decide +kernel
theorem dX6_settled_18 : decode cX6_settled 18 = .ok (.getfield 23, 3) := by decide +kernel
theorem dX6_settled_21 : decode cX6_settled 21 = .ok (.ifCond .eq 7, 3) := by decide +kernel
theorem dX6_settled_24 : decode cX6_settled 24 = .ok (.iconst (-1), 1) := by decide +kernel
theorem dX6_settled_25 : decode cX6_settled 25 = .ok (.goto 4, 3) := by decide +kernel
theorem dX6_settled_28 : decode cX6_settled 28 = .ok (.iconst 0, 1) := by decide +kernel
theorem dX6_settled_29 : decode cX6_settled 29 = .ok (.ireturn, 1) := by decide +kernel
theorem dX6_likeParts_0 : decode cX6_likeParts 0 = .ok (.aload_n 0, 1) := by decide +kernel
theorem dX6_likeParts_1 : decode cX6_likeParts 1 = .ok (.getfield 26, 3) := by decide +kernel
theorem dX6_likeParts_4 : decode cX6_likeParts 4 = .ok (.aload_n 1, 1) := by decide +kernel
theorem dX6_likeParts_5 : decode cX6_likeParts 5 = .ok (.iload_n 2, 1) := by decide +kernel
theorem dX6_likeParts_6 : decode cX6_likeParts 6 = .ok (.iaload, 1) := by decide +kernel
theorem dX6_likeParts_7 : decode cX6_likeParts 7 = .ok (.invokevirtual 61, 3) := by decide +kernel
theorem dX6_likeParts_10 : decode cX6_likeParts 10 = .ok (.istore 5, 2) := by decide +kernel
theorem dX6_likeParts_12 : decode cX6_likeParts 12 = .ok (.iconst 1, 1) := by decide +kernel
theorem dX6_likeParts_13 : decode cX6_likeParts 13 = .ok (.istore 6, 2) := by decide +kernel
theorem dX6_likeParts_15 : decode cX6_likeParts 15 = .ok (.iconst 0, 1) := by decide +kernel
theorem dX6_likeParts_16 : decode cX6_likeParts 16 = .ok (.istore 7, 2) := by decide +kernel
theorem dX6_likeParts_18 : decode cX6_likeParts 18 = .ok (.iload 7, 2) := by decide +kernel
theorem dX6_likeParts_20 : decode cX6_likeParts 20 = .ok (.iload 5, 2) := by decide +kernel
theorem dX6_likeParts_22 : decode cX6_likeParts 22 = .ok (.if_icmp .ge 89, 3) := by decide +kernel
theorem dX6_likeParts_25 : decode cX6_likeParts 25 = .ok (.aload_n 0, 1) := by decide +kernel
theorem dX6_likeParts_26 : decode cX6_likeParts 26 = .ok (.getfield 26, 3) := by decide +kernel
theorem dX6_likeParts_29 : decode cX6_likeParts 29 = .ok (.aload_n 1, 1) := by decide +kernel
theorem dX6_likeParts_30 : decode cX6_likeParts 30 = .ok (.iload_n 2, 1) := by decide +kernel
theorem dX6_likeParts_31 : decode cX6_likeParts 31 = .ok (.iload 6, 2) := by decide +kernel
theorem dX6_likeParts_33 : decode cX6_likeParts 33 = .ok (.iadd, 1) := by decide +kernel
theorem dX6_likeParts_34 : decode cX6_likeParts 34 = .ok (.invokevirtual 37, 3) := by decide +kernel
theorem dX6_likeParts_37 : decode cX6_likeParts 37 = .ok (.istore 8, 2) := by decide +kernel
theorem dX6_likeParts_39 : decode cX6_likeParts 39 = .ok (.aload_n 0, 1) := by decide +kernel
theorem dX6_likeParts_40 : decode cX6_likeParts 40 = .ok (.getfield 26, 3) := by decide +kernel
theorem dX6_likeParts_43 : decode cX6_likeParts 43 = .ok (.aload_n 3, 1) := by decide +kernel
theorem dX6_likeParts_44 : decode cX6_likeParts 44 = .ok (.iload 4, 2) := by decide +kernel
theorem dX6_likeParts_46 : decode cX6_likeParts 46 = .ok (.iload 6, 2) := by decide +kernel
theorem dX6_likeParts_48 : decode cX6_likeParts 48 = .ok (.iadd, 1) := by decide +kernel
theorem dX6_likeParts_49 : decode cX6_likeParts 49 = .ok (.invokevirtual 37, 3) := by decide +kernel
theorem dX6_likeParts_52 : decode cX6_likeParts 52 = .ok (.istore 9, 2) := by decide +kernel
theorem dX6_likeParts_54 : decode cX6_likeParts 54 = .ok (.iload 8, 2) := by decide +kernel
theorem dX6_likeParts_56 : decode cX6_likeParts 56 = .ok (.iload_n 2, 1) := by decide +kernel
theorem dX6_likeParts_57 : decode cX6_likeParts 57 = .ok (.isub, 1) := by decide +kernel
theorem dX6_likeParts_58 : decode cX6_likeParts 58 = .ok (.iload 6, 2) := by decide +kernel
theorem dX6_likeParts_60 : decode cX6_likeParts 60 = .ok (.isub, 1) := by decide +kernel
theorem dX6_likeParts_61 : decode cX6_likeParts 61 = .ok (.istore 10, 2) := by decide +kernel
theorem dX6_likeParts_63 : decode cX6_likeParts 63 = .ok (.iload 10, 2) := by decide +kernel
theorem dX6_likeParts_65 : decode cX6_likeParts 65 = .ok (.iload 9, 2) := by decide +kernel
theorem dX6_likeParts_67 : decode cX6_likeParts 67 = .ok (.iload 4, 2) := by decide +kernel
theorem dX6_likeParts_69 : decode cX6_likeParts 69 = .ok (.isub, 1) := by decide +kernel
theorem dX6_likeParts_70 : decode cX6_likeParts 70 = .ok (.iload 6, 2) := by decide +kernel
theorem dX6_likeParts_72 : decode cX6_likeParts 72 = .ok (.isub, 1) := by decide +kernel
theorem dX6_likeParts_73 : decode cX6_likeParts 73 = .ok (.if_icmp .ne 22, 3) := by decide +kernel
theorem dX6_likeParts_76 : decode cX6_likeParts 76 = .ok (.aload_n 1, 1) := by decide +kernel
theorem dX6_likeParts_77 : decode cX6_likeParts 77 = .ok (.iload_n 2, 1) := by decide +kernel
theorem dX6_likeParts_78 : decode cX6_likeParts 78 = .ok (.iload 6, 2) := by decide +kernel
theorem dX6_likeParts_80 : decode cX6_likeParts 80 = .ok (.iadd, 1) := by decide +kernel
theorem dX6_likeParts_81 : decode cX6_likeParts 81 = .ok (.aload_n 3, 1) := by decide +kernel
theorem dX6_likeParts_82 : decode cX6_likeParts 82 = .ok (.iload 4, 2) := by decide +kernel
theorem dX6_likeParts_84 : decode cX6_likeParts 84 = .ok (.iload 6, 2) := by decide +kernel
theorem dX6_likeParts_86 : decode cX6_likeParts 86 = .ok (.iadd, 1) := by decide +kernel
theorem dX6_likeParts_87 : decode cX6_likeParts 87 = .ok (.iload 10, 2) := by decide +kernel
theorem dX6_likeParts_89 : decode cX6_likeParts 89 = .ok (.invokestatic 41, 3) := by decide +kernel
theorem dX6_likeParts_92 : decode cX6_likeParts 92 = .ok (.ifCond .ne 6, 3) := by decide +kernel
theorem dX6_likeParts_95 : decode cX6_likeParts 95 = .ok (.iload 6, 2) := by decide +kernel
theorem dX6_likeParts_97 : decode cX6_likeParts 97 = .ok (.ireturn, 1) := by decide +kernel
theorem dX6_likeParts_98 : decode cX6_likeParts 98 = .ok (.iload 6, 2) := by decide +kernel
theorem dX6_likeParts_100 : decode cX6_likeParts 100 = .ok (.iload 10, 2) := by decide +kernel
theorem dX6_likeParts_102 : decode cX6_likeParts 102 = .ok (.iadd, 1) := by decide +kernel
theorem dX6_likeParts_103 : decode cX6_likeParts 103 = .ok (.istore 6, 2) := by decide +kernel
theorem dX6_likeParts_105 : decode cX6_likeParts 105 = .ok (.iinc 7 1, 3) := by decide +kernel
theorem dX6_likeParts_108 : decode cX6_likeParts 108 = .ok (.goto (-90), 3) := by decide +kernel
theorem dX6_likeParts_111 : decode cX6_likeParts 111 = .ok (.iload 6, 2) := by decide +kernel
theorem dX6_likeParts_113 : decode cX6_likeParts 113 = .ok (.ireturn, 1) := by decide +kernel
theorem dX7_init_0 : decode cX7_init 0 = .ok (.aload_n 0, 1) := by decide +kernel
theorem dX7_init_1 : decode cX7_init 1 = .ok (.invokespecial 3, 3) := by decide +kernel
theorem dX7_init_4 : decode cX7_init 4 = .ok (.aload_n 0, 1) := by decide +kernel
theorem dX7_init_5 : decode cX7_init 5 = .ok (.sipush 150, 3) := by decide +kernel
theorem dX7_init_8 : decode cX7_init 8 = .ok (.anewarray 9, 3) := by decide +kernel
theorem dX7_init_11 : decode cX7_init 11 = .ok (.putfield 11, 3) := by decide +kernel
theorem dX7_init_14 : decode cX7_init 14 = .ok (.aload_n 0, 1) := by decide +kernel
theorem dX7_init_15 : decode cX7_init 15 = .ok (.sipush 150, 3) := by decide +kernel
theorem dX7_init_18 : decode cX7_init 18 = .ok (.newarray .boolean, 2) := by decide +kernel
theorem dX7_init_20 : decode cX7_init 20 = .ok (.putfield 17, 3) := by decide +kernel
theorem dX7_init_23 : decode cX7_init 23 = .ok (.aload_n 0, 1) := by decide +kernel
theorem dX7_init_24 : decode cX7_init 24 = .ok (.sipush 150, 3) := by decide +kernel
theorem dX7_init_27 : decode cX7_init 27 = .ok (.newarray .int, 2) := by decide +kernel
theorem dX7_init_29 : decode cX7_init 29 = .ok (.putfield 21, 3) := by decide +kernel
theorem dX7_init_32 : decode cX7_init 32 = .ok (.aload_n 0, 1) := by decide +kernel
theorem dX7_init_33 : decode cX7_init 33 = .ok (.iconst 0, 1) := by decide +kernel
theorem dX7_init_34 : decode cX7_init 34 = .ok (.putfield 25, 3) := by decide +kernel
theorem dX7_init_37 : decode cX7_init 37 = .ok (.aload_n 0, 1) := by decide +kernel
theorem dX7_init_38 : decode cX7_init 38 = .ok (.iconst 0, 1) := by decide +kernel
theorem dX7_init_39 : decode cX7_init 39 = .ok (.putfield 29, 3) := by decide +kernel
theorem dX7_init_42 : decode cX7_init 42 = .ok (.return_, 1) := by decide +kernel
theorem dX7_at_0 : decode cX7_at 0 = .ok (.iload_n 1, 1) := by decide +kernel
theorem dX7_at_1 : decode cX7_at 1 = .ok (.ifCond .lt 20, 3) := by decide +kernel
theorem dX7_at_4 : decode cX7_at 4 = .ok (.iload_n 1, 1) := by decide +kernel
theorem dX7_at_5 : decode cX7_at 5 = .ok (.aload_n 0, 1) := by decide +kernel
theorem dX7_at_6 : decode cX7_at 6 = .ok (.getfield 29, 3) := by decide +kernel
theorem dX7_at_9 : decode cX7_at 9 = .ok (.if_icmp .ge 12, 3) := by decide +kernel
theorem dX7_at_12 : decode cX7_at 12 = .ok (.aload_n 0, 1) := by decide +kernel
theorem dX7_at_13 : decode cX7_at 13 = .ok (.getfield 11, 3) := by decide +kernel
theorem dX7_at_16 : decode cX7_at 16 = .ok (.iload_n 1, 1) := by decide +kernel
theorem dX7_at_17 : decode cX7_at 17 = .ok (.aaload, 1) := by decide +kernel
theorem dX7_at_18 : decode cX7_at 18 = .ok (.goto 4, 3) := by decide +kernel
theorem dX7_at_21 : decode cX7_at 21 = .ok (.aconst_null, 1) := by decide +kernel
theorem dX7_at_22 : decode cX7_at 22 = .ok (.areturn, 1) := by decide +kernel
theorem dX7_add_0 : decode cX7_add 0 = .ok (.aload_n 0, 1) := by decide +kernel
theorem dX7_add_1 : decode cX7_add 1 = .ok (.getfield 29, 3) := by decide +kernel
theorem dX7_add_4 : decode cX7_add 4 = .ok (.sipush 150, 3) := by decide +kernel
theorem dX7_add_7 : decode cX7_add 7 = .ok (.if_icmp .lt 5, 3) := by decide +kernel
theorem dX7_add_10 : decode cX7_add 10 = .ok (.aconst_null, 1) := by decide +kernel
theorem dX7_add_11 : decode cX7_add 11 = .ok (.areturn, 1) := by decide +kernel
theorem dX7_add_12 : decode cX7_add 12 = .ok (.aload_n 0, 1) := by decide +kernel
theorem dX7_add_13 : decode cX7_add 13 = .ok (.getfield 11, 3) := by decide +kernel
theorem dX7_add_16 : decode cX7_add 16 = .ok (.aload_n 0, 1) := by decide +kernel
theorem dX7_add_17 : decode cX7_add 17 = .ok (.getfield 29, 3) := by decide +kernel
theorem dX7_add_20 : decode cX7_add 20 = .ok (.aaload, 1) := by decide +kernel
theorem dX7_add_21 : decode cX7_add 21 = .ok (.ifnonnull 19, 3) := by decide +kernel
theorem dX7_add_24 : decode cX7_add 24 = .ok (.aload_n 0, 1) := by decide +kernel
theorem dX7_add_25 : decode cX7_add 25 = .ok (.getfield 11, 3) := by decide +kernel
theorem dX7_add_28 : decode cX7_add 28 = .ok (.aload_n 0, 1) := by decide +kernel
theorem dX7_add_29 : decode cX7_add 29 = .ok (.getfield 29, 3) := by decide +kernel
theorem dX7_add_32 : decode cX7_add 32 = .ok (.new 9, 3) := by decide +kernel
theorem dX7_add_35 : decode cX7_add 35 = .ok (.dup, 1) := by decide +kernel
theorem dX7_add_36 : decode cX7_add 36 = .ok (.invokespecial 32, 3) := by decide +kernel
theorem dX7_add_39 : decode cX7_add 39 = .ok (.aastore, 1) := by decide +kernel
theorem dX7_add_40 : decode cX7_add 40 = .ok (.aload_n 0, 1) := by decide +kernel
theorem dX7_add_41 : decode cX7_add 41 = .ok (.getfield 11, 3) := by decide +kernel
theorem dX7_add_44 : decode cX7_add 44 = .ok (.aload_n 0, 1) := by decide +kernel
theorem dX7_add_45 : decode cX7_add 45 = .ok (.getfield 29, 3) := by decide +kernel
theorem dX7_add_48 : decode cX7_add 48 = .ok (.aaload, 1) := by decide +kernel
theorem dX7_add_49 : decode cX7_add 49 = .ok (.astore_n 1, 1) := by decide +kernel
theorem dX7_add_50 : decode cX7_add 50 = .ok (.aload_n 1, 1) := by decide +kernel
theorem dX7_add_51 : decode cX7_add 51 = .ok (.aload_n 0, 1) := by decide +kernel
theorem dX7_add_52 : decode cX7_add 52 = .ok (.getfield 29, 3) := by decide +kernel
theorem dX7_add_55 : decode cX7_add 55 = .ok (.putfield 33, 3) := by decide +kernel
theorem dX7_add_58 : decode cX7_add 58 = .ok (.aload_n 0, 1) := by decide +kernel
theorem dX7_add_59 : decode cX7_add 59 = .ok (.dup, 1) := by decide +kernel
theorem dX7_add_60 : decode cX7_add 60 = .ok (.getfield 29, 3) := by decide +kernel
theorem dX7_add_63 : decode cX7_add 63 = .ok (.iconst 1, 1) := by decide +kernel
theorem dX7_add_64 : decode cX7_add 64 = .ok (.iadd, 1) := by decide +kernel
theorem dX7_add_65 : decode cX7_add 65 = .ok (.putfield 29, 3) := by decide +kernel
theorem dX7_add_68 : decode cX7_add 68 = .ok (.aload_n 1, 1) := by decide +kernel
theorem dX7_add_69 : decode cX7_add 69 = .ok (.areturn, 1) := by decide +kernel
theorem dX7_inState_0 : decode cX7_inState 0 = .ok (.iconst 0, 1) := by decide +kernel
theorem dX7_inState_1 : decode cX7_inState 1 = .ok (.istore_n 2, 1) := by decide +kernel
theorem dX7_inState_2 : decode cX7_inState 2 = .ok (.iconst 0, 1) := by decide +kernel
theorem dX7_inState_3 : decode cX7_inState 3 = .ok (.istore_n 3, 1) := by decide +kernel
theorem dX7_inState_4 : decode cX7_inState 4 = .ok (.iload_n 3, 1) := by decide +kernel
theorem dX7_inState_5 : decode cX7_inState 5 = .ok (.aload_n 0, 1) := by decide +kernel
theorem dX7_inState_6 : decode cX7_inState 6 = .ok (.getfield 29, 3) := by decide +kernel
theorem dX7_inState_9 : decode cX7_inState 9 = .ok (.if_icmp .ge 33, 3) := by decide +kernel
theorem dX7_inState_12 : decode cX7_inState 12 = .ok (.aload_n 0, 1) := by decide +kernel
theorem dX7_inState_13 : decode cX7_inState 13 = .ok (.iload_n 3, 1) := by decide +kernel
theorem dX7_inState_14 : decode cX7_inState 14 = .ok (.invokevirtual 36, 3) := by decide +kernel
theorem dX7_inState_17 : decode cX7_inState 17 = .ok (.astore 4, 2) := by decide +kernel
theorem dX7_inState_19 : decode cX7_inState 19 = .ok (.aload 4, 2) := by decide +kernel
theorem dX7_inState_21 : decode cX7_inState 21 = .ok (.ifnull 15, 3) := by decide +kernel
theorem dX7_inState_24 : decode cX7_inState 24 = .ok (.aload 4, 2) := by decide +kernel
theorem dX7_inState_26 : decode cX7_inState 26 = .ok (.getfield 40, 3) := by decide +kernel
theorem dX7_inState_29 : decode cX7_inState 29 = .ok (.iload_n 1, 1) := by decide +kernel
theorem dX7_inState_30 : decode cX7_inState 30 = .ok (.if_icmp .ne 6, 3) := by decide +kernel
theorem dX7_inState_33 : decode cX7_inState 33 = .ok (.iinc 2 1, 3) := by decide +kernel
theorem dX7_inState_36 : decode cX7_inState 36 = .ok (.iinc 3 1, 3) := by decide +kernel
theorem dX7_inState_39 : decode cX7_inState 39 = .ok (.goto (-35), 3) := by decide +kernel
theorem dX7_inState_42 : decode cX7_inState 42 = .ok (.iload_n 2, 1) := by decide +kernel
theorem dX7_inState_43 : decode cX7_inState 43 = .ok (.ireturn, 1) := by decide +kernel
theorem dX7_markProof_0 : decode cX7_markProof 0 = .ok (.aload_n 0, 1) := by decide +kernel
theorem dX7_markProof_1 : decode cX7_markProof 1 = .ok (.iconst 0, 1) := by decide +kernel
theorem dX7_markProof_2 : decode cX7_markProof 2 = .ok (.putfield 25, 3) := by decide +kernel
theorem dX7_markProof_5 : decode cX7_markProof 5 = .ok (.iconst 0, 1) := by decide +kernel
theorem dX7_markProof_6 : decode cX7_markProof 6 = .ok (.istore_n 1, 1) := by decide +kernel
theorem dX7_markProof_7 : decode cX7_markProof 7 = .ok (.iload_n 1, 1) := by decide +kernel
theorem dX7_markProof_8 : decode cX7_markProof 8 = .ok (.sipush 150, 3) := by decide +kernel
theorem dX7_markProof_11 : decode cX7_markProof 11 = .ok (.if_icmp .ge 41, 3) := by decide +kernel
theorem dX7_markProof_14 : decode cX7_markProof 14 = .ok (.aload_n 0, 1) := by decide +kernel
theorem dX7_markProof_15 : decode cX7_markProof 15 = .ok (.getfield 17, 3) := by decide +kernel
theorem dX7_markProof_18 : decode cX7_markProof 18 = .ok (.iload_n 1, 1) := by decide +kernel
theorem dX7_markProof_19 : decode cX7_markProof 19 = .ok (.iconst 0, 1) := by decide +kernel
theorem dX7_markProof_20 : decode cX7_markProof 20 = .ok (.bastore, 1) := by decide +kernel
theorem dX7_markProof_21 : decode cX7_markProof 21 = .ok (.aload_n 0, 1) := by decide +kernel
theorem dX7_markProof_22 : decode cX7_markProof 22 = .ok (.iload_n 1, 1) := by decide +kernel
theorem dX7_markProof_23 : decode cX7_markProof 23 = .ok (.invokevirtual 36, 3) := by decide +kernel
theorem dX7_markProof_26 : decode cX7_markProof 26 = .ok (.astore_n 2, 1) := by decide +kernel
theorem dX7_markProof_27 : decode cX7_markProof 27 = .ok (.aload_n 2, 1) := by decide +kernel
theorem dX7_markProof_28 : decode cX7_markProof 28 = .ok (.ifnull 18, 3) := by decide +kernel
theorem dX7_markProof_31 : decode cX7_markProof 31 = .ok (.aload_n 2, 1) := by decide +kernel
theorem dX7_markProof_32 : decode cX7_markProof 32 = .ok (.getfield 43, 3) := by decide +kernel
theorem dX7_markProof_35 : decode cX7_markProof 35 = .ok (.getfield 47, 3) := by decide +kernel
theorem dX7_markProof_38 : decode cX7_markProof 38 = .ok (.ifCond .ne 8, 3) := by decide +kernel
theorem dX7_markProof_41 : decode cX7_markProof 41 = .ok (.aload_n 0, 1) := by decide +kernel
theorem dX7_markProof_42 : decode cX7_markProof 42 = .ok (.iload_n 1, 1) := by decide +kernel
theorem dX7_markProof_43 : decode cX7_markProof 43 = .ok (.invokevirtual 52, 3) := by decide +kernel
theorem dX7_markProof_46 : decode cX7_markProof 46 = .ok (.iinc 1 1, 3) := by decide +kernel
theorem dX7_markProof_49 : decode cX7_markProof 49 = .ok (.goto (-42), 3) := by decide +kernel
theorem dX7_markProof_52 : decode cX7_markProof 52 = .ok (.iconst 0, 1) := by decide +kernel
theorem dX7_markProof_53 : decode cX7_markProof 53 = .ok (.istore_n 1, 1) := by decide +kernel
theorem dX7_markProof_54 : decode cX7_markProof 54 = .ok (.iload_n 1, 1) := by decide +kernel
theorem dX7_markProof_55 : decode cX7_markProof 55 = .ok (.aload_n 0, 1) := by decide +kernel
theorem dX7_markProof_56 : decode cX7_markProof 56 = .ok (.getfield 25, 3) := by decide +kernel
theorem dX7_markProof_59 : decode cX7_markProof 59 = .ok (.if_icmp .ge 36, 3) := by decide +kernel
theorem dX7_markProof_62 : decode cX7_markProof 62 = .ok (.iload_n 1, 1) := by decide +kernel
theorem dX7_markProof_63 : decode cX7_markProof 63 = .ok (.sipush 150, 3) := by decide +kernel
theorem dX7_markProof_66 : decode cX7_markProof 66 = .ok (.if_icmp .ge 29, 3) := by decide +kernel
theorem dX7_markProof_69 : decode cX7_markProof 69 = .ok (.aload_n 0, 1) := by decide +kernel
theorem dX7_markProof_70 : decode cX7_markProof 70 = .ok (.aload_n 0, 1) := by decide +kernel
theorem dX7_markProof_71 : decode cX7_markProof 71 = .ok (.getfield 21, 3) := by decide +kernel
theorem dX7_markProof_74 : decode cX7_markProof 74 = .ok (.iload_n 1, 1) := by decide +kernel
theorem dX7_markProof_75 : decode cX7_markProof 75 = .ok (.iaload, 1) := by decide +kernel
theorem dX7_markProof_76 : decode cX7_markProof 76 = .ok (.invokevirtual 36, 3) := by decide +kernel
theorem dX7_markProof_79 : decode cX7_markProof 79 = .ok (.astore_n 2, 1) := by decide +kernel
theorem dX7_markProof_80 : decode cX7_markProof 80 = .ok (.aload_n 2, 1) := by decide +kernel
theorem dX7_markProof_81 : decode cX7_markProof 81 = .ok (.ifnull 8, 3) := by decide +kernel
theorem dX7_markProof_84 : decode cX7_markProof 84 = .ok (.aload_n 0, 1) := by decide +kernel
theorem dX7_markProof_85 : decode cX7_markProof 85 = .ok (.aload_n 2, 1) := by decide +kernel
theorem dX7_markProof_86 : decode cX7_markProof 86 = .ok (.invokevirtual 56, 3) := by decide +kernel
theorem dX7_markProof_89 : decode cX7_markProof 89 = .ok (.iinc 1 1, 3) := by decide +kernel
theorem dX7_markProof_92 : decode cX7_markProof 92 = .ok (.goto (-38), 3) := by decide +kernel
theorem dX7_markProof_95 : decode cX7_markProof 95 = .ok (.return_, 1) := by decide +kernel
theorem dX7_findNamed_0 : decode cX7_findNamed 0 = .ok (.aload_n 1, 1) := by decide +kernel
theorem dX7_findNamed_1 : decode cX7_findNamed 1 = .ok (.invokevirtual 60, 3) := by decide +kernel
theorem dX7_findNamed_4 : decode cX7_findNamed 4 = .ok (.istore_n 2, 1) := by decide +kernel
theorem dX7_findNamed_5 : decode cX7_findNamed 5 = .ok (.getstatic 64, 3) := by decide +kernel
theorem dX7_findNamed_8 : decode cX7_findNamed 8 = .ok (.iload_n 2, 1) := by decide +kernel
theorem dX7_findNamed_9 : decode cX7_findNamed 9 = .ok (.iaload, 1) := by decide +kernel
theorem dX7_findNamed_10 : decode cX7_findNamed 10 = .ok (.ifCond .le 17, 3) := by decide +kernel
theorem dX7_findNamed_13 : decode cX7_findNamed 13 = .ok (.aload_n 0, 1) := by decide +kernel
theorem dX7_findNamed_14 : decode cX7_findNamed 14 = .ok (.aload_n 1, 1) := by decide +kernel
theorem dX7_findNamed_15 : decode cX7_findNamed 15 = .ok (.getfield 67, 3) := by decide +kernel
theorem dX7_findNamed_18 : decode cX7_findNamed 18 = .ok (.getstatic 64, 3) := by decide +kernel
theorem dX7_findNamed_21 : decode cX7_findNamed 21 = .ok (.iload_n 2, 1) := by decide +kernel
theorem dX7_findNamed_22 : decode cX7_findNamed 22 = .ok (.iaload, 1) := by decide +kernel
theorem dX7_findNamed_23 : decode cX7_findNamed 23 = .ok (.iaload, 1) := by decide +kernel
theorem dX7_findNamed_24 : decode cX7_findNamed 24 = .ok (.invokevirtual 52, 3) := by decide +kernel
theorem dX7_findNamed_27 : decode cX7_findNamed 27 = .ok (.getstatic 70, 3) := by decide +kernel
theorem dX7_findNamed_30 : decode cX7_findNamed 30 = .ok (.iload_n 2, 1) := by decide +kernel
theorem dX7_findNamed_31 : decode cX7_findNamed 31 = .ok (.iaload, 1) := by decide +kernel
theorem dX7_findNamed_32 : decode cX7_findNamed 32 = .ok (.ifCond .le 17, 3) := by decide +kernel
theorem dX7_findNamed_35 : decode cX7_findNamed 35 = .ok (.aload_n 0, 1) := by decide +kernel
theorem dX7_findNamed_36 : decode cX7_findNamed 36 = .ok (.aload_n 1, 1) := by decide +kernel
theorem dX7_findNamed_37 : decode cX7_findNamed 37 = .ok (.getfield 67, 3) := by decide +kernel
theorem dX7_findNamed_40 : decode cX7_findNamed 40 = .ok (.getstatic 70, 3) := by decide +kernel
theorem dX7_findNamed_43 : decode cX7_findNamed 43 = .ok (.iload_n 2, 1) := by decide +kernel
theorem dX7_findNamed_44 : decode cX7_findNamed 44 = .ok (.iaload, 1) := by decide +kernel
theorem dX7_findNamed_45 : decode cX7_findNamed 45 = .ok (.iaload, 1) := by decide +kernel
theorem dX7_findNamed_46 : decode cX7_findNamed 46 = .ok (.invokevirtual 52, 3) := by decide +kernel
theorem dX7_findNamed_49 : decode cX7_findNamed 49 = .ok (.iconst 0, 1) := by decide +kernel
theorem dX7_findNamed_50 : decode cX7_findNamed 50 = .ok (.istore_n 3, 1) := by decide +kernel
theorem dX7_findNamed_51 : decode cX7_findNamed 51 = .ok (.iload_n 3, 1) := by decide +kernel
theorem dX7_findNamed_52 : decode cX7_findNamed 52 = .ok (.aload_n 1, 1) := by decide +kernel
theorem dX7_findNamed_53 : decode cX7_findNamed 53 = .ok (.getfield 73, 3) := by decide +kernel
theorem dX7_findNamed_56 : decode cX7_findNamed 56 = .ok (.if_icmp .ge 21, 3) := by decide +kernel
theorem dX7_findNamed_59 : decode cX7_findNamed 59 = .ok (.aload_n 0, 1) := by decide +kernel
theorem dX7_findNamed_60 : decode cX7_findNamed 60 = .ok (.aload_n 1, 1) := by decide +kernel
theorem dX7_findNamed_61 : decode cX7_findNamed 61 = .ok (.getfield 76, 3) := by decide +kernel
theorem dX7_findNamed_64 : decode cX7_findNamed 64 = .ok (.iconst 4, 1) := by decide +kernel
theorem dX7_findNamed_65 : decode cX7_findNamed 65 = .ok (.iload_n 3, 1) := by decide +kernel
theorem dX7_findNamed_66 : decode cX7_findNamed 66 = .ok (.imul, 1) := by decide +kernel
theorem dX7_findNamed_67 : decode cX7_findNamed 67 = .ok (.iaload, 1) := by decide +kernel
theorem dX7_findNamed_68 : decode cX7_findNamed 68 = .ok (.invokevirtual 52, 3) := by decide +kernel
theorem dX7_findNamed_71 : decode cX7_findNamed 71 = .ok (.iinc 3 1, 3) := by decide +kernel
theorem dX7_findNamed_74 : decode cX7_findNamed 74 = .ok (.goto (-23), 3) := by decide +kernel
theorem dX7_findNamed_77 : decode cX7_findNamed 77 = .ok (.return_, 1) := by decide +kernel
theorem dX7_find_0 : decode cX7_find 0 = .ok (.iload_n 1, 1) := by decide +kernel
theorem dX7_find_1 : decode cX7_find 1 = .ok (.ifCond .lt 57, 3) := by decide +kernel
theorem dX7_find_4 : decode cX7_find 4 = .ok (.iload_n 1, 1) := by decide +kernel
theorem dX7_find_5 : decode cX7_find 5 = .ok (.aload_n 0, 1) := by decide +kernel
theorem dX7_find_6 : decode cX7_find 6 = .ok (.getfield 29, 3) := by decide +kernel
theorem dX7_find_9 : decode cX7_find 9 = .ok (.if_icmp .ge 49, 3) := by decide +kernel
theorem dX7_find_12 : decode cX7_find 12 = .ok (.aload_n 0, 1) := by decide +kernel
theorem dX7_find_13 : decode cX7_find 13 = .ok (.getfield 25, 3) := by decide +kernel
theorem dX7_find_16 : decode cX7_find 16 = .ok (.sipush 150, 3) := by decide +kernel
theorem dX7_find_19 : decode cX7_find 19 = .ok (.if_icmp .ge 39, 3) := by decide +kernel
theorem dX7_find_22 : decode cX7_find 22 = .ok (.aload_n 0, 1) := by decide +kernel
theorem dX7_find_23 : decode cX7_find 23 = .ok (.getfield 17, 3) := by decide +kernel
theorem dX7_find_26 : decode cX7_find 26 = .ok (.iload_n 1, 1) := by decide +kernel
theorem dX7_find_27 : decode cX7_find 27 = .ok (.baload, 1) := by decide +kernel
theorem dX7_find_28 : decode cX7_find 28 = .ok (.ifCond .ne 30, 3) := by decide +kernel
theorem dX7_find_31 : decode cX7_find 31 = .ok (.aload_n 0, 1) := by decide +kernel
theorem dX7_find_32 : decode cX7_find 32 = .ok (.getfield 17, 3) := by decide +kernel
theorem dX7_find_35 : decode cX7_find 35 = .ok (.iload_n 1, 1) := by decide +kernel
theorem dX7_find_36 : decode cX7_find 36 = .ok (.iconst 1, 1) := by decide +kernel
theorem dX7_find_37 : decode cX7_find 37 = .ok (.bastore, 1) := by decide +kernel
theorem dX7_find_38 : decode cX7_find 38 = .ok (.aload_n 0, 1) := by decide +kernel
theorem dX7_find_39 : decode cX7_find 39 = .ok (.getfield 21, 3) := by decide +kernel
theorem dX7_find_42 : decode cX7_find 42 = .ok (.aload_n 0, 1) := by decide +kernel
theorem dX7_find_43 : decode cX7_find 43 = .ok (.getfield 25, 3) := by decide +kernel
theorem dX7_find_46 : decode cX7_find 46 = .ok (.iload_n 1, 1) := by decide +kernel
theorem dX7_find_47 : decode cX7_find 47 = .ok (.iastore, 1) := by decide +kernel
theorem dX7_find_48 : decode cX7_find 48 = .ok (.aload_n 0, 1) := by decide +kernel
theorem dX7_find_49 : decode cX7_find 49 = .ok (.dup, 1) := by decide +kernel
theorem dX7_find_50 : decode cX7_find 50 = .ok (.getfield 25, 3) := by decide +kernel
theorem dX7_find_53 : decode cX7_find 53 = .ok (.iconst 1, 1) := by decide +kernel
theorem dX7_find_54 : decode cX7_find 54 = .ok (.iadd, 1) := by decide +kernel
theorem dX7_find_55 : decode cX7_find 55 = .ok (.putfield 25, 3) := by decide +kernel
theorem dX7_find_58 : decode cX7_find 58 = .ok (.return_, 1) := by decide +kernel
theorem dX8_init_0 : decode cX8_init 0 = .ok (.aload_n 0, 1) := by decide +kernel
theorem dX8_init_1 : decode cX8_init 1 = .ok (.invokespecial 3, 3) := by decide +kernel
theorem dX8_init_4 : decode cX8_init 4 = .ok (.aload_n 0, 1) := by decide +kernel
theorem dX8_init_5 : decode cX8_init 5 = .ok (.bipush 16, 2) := by decide +kernel
theorem dX8_init_7 : decode cX8_init 7 = .ok (.newarray .boolean, 2) := by decide +kernel
theorem dX8_init_9 : decode cX8_init 9 = .ok (.putfield 9, 3) := by decide +kernel
theorem dX8_init_12 : decode cX8_init 12 = .ok (.aload_n 0, 1) := by decide +kernel
theorem dX8_init_13 : decode cX8_init 13 = .ok (.bipush 16, 2) := by decide +kernel
theorem dX8_init_15 : decode cX8_init 15 = .ok (.newarray .int, 2) := by decide +kernel
theorem dX8_init_17 : decode cX8_init 17 = .ok (.putfield 15, 3) := by decide +kernel
theorem dX8_init_20 : decode cX8_init 20 = .ok (.aload_n 0, 1) := by decide +kernel
theorem dX8_init_21 : decode cX8_init 21 = .ok (.bipush 16, 2) := by decide +kernel
theorem dX8_init_23 : decode cX8_init 23 = .ok (.newarray .int, 2) := by decide +kernel
theorem dX8_init_25 : decode cX8_init 25 = .ok (.putfield 19, 3) := by decide +kernel
theorem dX8_init_28 : decode cX8_init 28 = .ok (.aload_n 0, 1) := by decide +kernel
theorem dX8_init_29 : decode cX8_init 29 = .ok (.iconst 1, 1) := by decide +kernel
theorem dX8_init_30 : decode cX8_init 30 = .ok (.putfield 22, 3) := by decide +kernel
theorem dX8_init_33 : decode cX8_init 33 = .ok (.aload_n 0, 1) := by decide +kernel
theorem dX8_init_34 : decode cX8_init 34 = .ok (.getfield 9, 3) := by decide +kernel
theorem dX8_init_37 : decode cX8_init 37 = .ok (.iconst 0, 1) := by decide +kernel
theorem dX8_init_38 : decode cX8_init 38 = .ok (.iconst 1, 1) := by decide +kernel
theorem dX8_init_39 : decode cX8_init 39 = .ok (.bastore, 1) := by decide +kernel
theorem dX8_init_40 : decode cX8_init 40 = .ok (.aload_n 0, 1) := by decide +kernel
theorem dX8_init_41 : decode cX8_init 41 = .ok (.getfield 15, 3) := by decide +kernel
theorem dX8_init_44 : decode cX8_init 44 = .ok (.iconst 0, 1) := by decide +kernel
theorem dX8_init_45 : decode cX8_init 45 = .ok (.iconst 2, 1) := by decide +kernel
theorem dX8_init_46 : decode cX8_init 46 = .ok (.iastore, 1) := by decide +kernel
theorem dX8_init_47 : decode cX8_init 47 = .ok (.aload_n 0, 1) := by decide +kernel
theorem dX8_init_48 : decode cX8_init 48 = .ok (.getfield 19, 3) := by decide +kernel
theorem dX8_init_51 : decode cX8_init 51 = .ok (.iconst 0, 1) := by decide +kernel
theorem dX8_init_52 : decode cX8_init 52 = .ok (.iconst 1, 1) := by decide +kernel
theorem dX8_init_53 : decode cX8_init 53 = .ok (.iastore, 1) := by decide +kernel
theorem dX8_init_54 : decode cX8_init 54 = .ok (.return_, 1) := by decide +kernel
theorem dX8_add_0 : decode cX8_add 0 = .ok (.aload_n 0, 1) := by decide +kernel
theorem dX8_add_1 : decode cX8_add 1 = .ok (.getfield 22, 3) := by decide +kernel
theorem dX8_add_4 : decode cX8_add 4 = .ok (.bipush 16, 2) := by decide +kernel
theorem dX8_add_6 : decode cX8_add 6 = .ok (.if_icmp .lt 6, 3) := by decide +kernel
theorem dX8_add_9 : decode cX8_add 9 = .ok (.bipush (-4), 2) := by decide +kernel
theorem dX8_add_11 : decode cX8_add 11 = .ok (.ireturn, 1) := by decide +kernel
theorem dX8_add_12 : decode cX8_add 12 = .ok (.aload_n 0, 1) := by decide +kernel
theorem dX8_add_13 : decode cX8_add 13 = .ok (.getfield 9, 3) := by decide +kernel
theorem dX8_add_16 : decode cX8_add 16 = .ok (.aload_n 0, 1) := by decide +kernel
theorem dX8_add_17 : decode cX8_add 17 = .ok (.getfield 22, 3) := by decide +kernel
theorem dX8_add_20 : decode cX8_add 20 = .ok (.iload_n 1, 1) := by decide +kernel
theorem dX8_add_21 : decode cX8_add 21 = .ok (.bastore, 1) := by decide +kernel
theorem dX8_add_22 : decode cX8_add 22 = .ok (.aload_n 0, 1) := by decide +kernel
theorem dX8_add_23 : decode cX8_add 23 = .ok (.getfield 15, 3) := by decide +kernel
theorem dX8_add_26 : decode cX8_add 26 = .ok (.aload_n 0, 1) := by decide +kernel
theorem dX8_add_27 : decode cX8_add 27 = .ok (.getfield 22, 3) := by decide +kernel
theorem dX8_add_30 : decode cX8_add 30 = .ok (.iload_n 2, 1) := by decide +kernel
theorem dX8_add_31 : decode cX8_add 31 = .ok (.iastore, 1) := by decide +kernel
theorem dX8_add_32 : decode cX8_add 32 = .ok (.aload_n 0, 1) := by decide +kernel
theorem dX8_add_33 : decode cX8_add 33 = .ok (.getfield 19, 3) := by decide +kernel
theorem dX8_add_36 : decode cX8_add 36 = .ok (.aload_n 0, 1) := by decide +kernel
theorem dX8_add_37 : decode cX8_add 37 = .ok (.getfield 22, 3) := by decide +kernel
theorem dX8_add_40 : decode cX8_add 40 = .ok (.iload_n 3, 1) := by decide +kernel
theorem dX8_add_41 : decode cX8_add 41 = .ok (.iastore, 1) := by decide +kernel
theorem dX8_add_42 : decode cX8_add 42 = .ok (.aload_n 0, 1) := by decide +kernel
theorem dX8_add_43 : decode cX8_add 43 = .ok (.dup, 1) := by decide +kernel
theorem dX8_add_44 : decode cX8_add 44 = .ok (.getfield 22, 3) := by decide +kernel
theorem dX8_add_47 : decode cX8_add 47 = .ok (.iconst 1, 1) := by decide +kernel
theorem dX8_add_48 : decode cX8_add 48 = .ok (.iadd, 1) := by decide +kernel
theorem dX8_add_49 : decode cX8_add 49 = .ok (.putfield 22, 3) := by decide +kernel
theorem dX8_add_52 : decode cX8_add 52 = .ok (.aload_n 0, 1) := by decide +kernel
theorem dX8_add_53 : decode cX8_add 53 = .ok (.getfield 22, 3) := by decide +kernel
theorem dX8_add_56 : decode cX8_add 56 = .ok (.iconst 1, 1) := by decide +kernel
theorem dX8_add_57 : decode cX8_add 57 = .ok (.isub, 1) := by decide +kernel
theorem dX8_add_58 : decode cX8_add 58 = .ok (.ireturn, 1) := by decide +kernel
theorem dX8_isSaying_0 : decode cX8_isSaying 0 = .ok (.iload_n 1, 1) := by decide +kernel
theorem dX8_isSaying_1 : decode cX8_isSaying 1 = .ok (.ifCond .lt 24, 3) := by decide +kernel
theorem dX8_isSaying_4 : decode cX8_isSaying 4 = .ok (.iload_n 1, 1) := by decide +kernel
theorem dX8_isSaying_5 : decode cX8_isSaying 5 = .ok (.aload_n 0, 1) := by decide +kernel
theorem dX8_isSaying_6 : decode cX8_isSaying 6 = .ok (.getfield 22, 3) := by decide +kernel
theorem dX8_isSaying_9 : decode cX8_isSaying 9 = .ok (.if_icmp .ge 16, 3) := by decide +kernel
theorem dX8_isSaying_12 : decode cX8_isSaying 12 = .ok (.aload_n 0, 1) := by decide +kernel
theorem dX8_isSaying_13 : decode cX8_isSaying 13 = .ok (.getfield 9, 3) := by decide +kernel
theorem dX8_isSaying_16 : decode cX8_isSaying 16 = .ok (.iload_n 1, 1) := by decide +kernel
theorem dX8_isSaying_17 : decode cX8_isSaying 17 = .ok (.baload, 1) := by decide +kernel
theorem dX8_isSaying_18 : decode cX8_isSaying 18 = .ok (.ifCond .eq 7, 3) := by decide +kernel
theorem dX8_isSaying_21 : decode cX8_isSaying 21 = .ok (.iconst 1, 1) := by decide +kernel
theorem dX8_isSaying_22 : decode cX8_isSaying 22 = .ok (.goto 4, 3) := by decide +kernel
theorem dX8_isSaying_25 : decode cX8_isSaying 25 = .ok (.iconst 0, 1) := by decide +kernel
theorem dX8_isSaying_26 : decode cX8_isSaying 26 = .ok (.ireturn, 1) := by decide +kernel
theorem dX8_isFunction_0 : decode cX8_isFunction 0 = .ok (.iload_n 1, 1) := by decide +kernel
theorem dX8_isFunction_1 : decode cX8_isFunction 1 = .ok (.ifCond .lt 24, 3) := by decide +kernel
theorem dX8_isFunction_4 : decode cX8_isFunction 4 = .ok (.iload_n 1, 1) := by decide +kernel
theorem dX8_isFunction_5 : decode cX8_isFunction 5 = .ok (.aload_n 0, 1) := by decide +kernel
theorem dX8_isFunction_6 : decode cX8_isFunction 6 = .ok (.getfield 22, 3) := by decide +kernel
theorem dX8_isFunction_9 : decode cX8_isFunction 9 = .ok (.if_icmp .ge 16, 3) := by decide +kernel
theorem dX8_isFunction_12 : decode cX8_isFunction 12 = .ok (.aload_n 0, 1) := by decide +kernel
theorem dX8_isFunction_13 : decode cX8_isFunction 13 = .ok (.getfield 9, 3) := by decide +kernel
theorem dX8_isFunction_16 : decode cX8_isFunction 16 = .ok (.iload_n 1, 1) := by decide +kernel
theorem dX8_isFunction_17 : decode cX8_isFunction 17 = .ok (.baload, 1) := by decide +kernel
theorem dX8_isFunction_18 : decode cX8_isFunction 18 = .ok (.ifCond .ne 7, 3) := by decide +kernel
theorem dX8_isFunction_21 : decode cX8_isFunction 21 = .ok (.iconst 1, 1) := by decide +kernel
theorem dX8_isFunction_22 : decode cX8_isFunction 22 = .ok (.goto 4, 3) := by decide +kernel
theorem dX8_isFunction_25 : decode cX8_isFunction 25 = .ok (.iconst 0, 1) := by decide +kernel
theorem dX8_isFunction_26 : decode cX8_isFunction 26 = .ok (.ireturn, 1) := by decide +kernel
theorem dX8_partsOf_0 : decode cX8_partsOf 0 = .ok (.iload_n 1, 1) := by decide +kernel
theorem dX8_partsOf_1 : decode cX8_partsOf 1 = .ok (.ifCond .lt 18, 3) := by decide +kernel
theorem dX8_partsOf_4 : decode cX8_partsOf 4 = .ok (.iload_n 1, 1) := by decide +kernel
theorem dX8_partsOf_5 : decode cX8_partsOf 5 = .ok (.bipush 16, 2) := by decide +kernel
theorem dX8_partsOf_7 : decode cX8_partsOf 7 = .ok (.if_icmp .ge 12, 3) := by decide +kernel
theorem dX8_partsOf_10 : decode cX8_partsOf 10 = .ok (.aload_n 0, 1) := by decide +kernel
theorem dX8_partsOf_11 : decode cX8_partsOf 11 = .ok (.getfield 15, 3) := by decide +kernel
theorem dX8_partsOf_14 : decode cX8_partsOf 14 = .ok (.iload_n 1, 1) := by decide +kernel
theorem dX8_partsOf_15 : decode cX8_partsOf 15 = .ok (.iaload, 1) := by decide +kernel
theorem dX8_partsOf_16 : decode cX8_partsOf 16 = .ok (.goto 4, 3) := by decide +kernel
theorem dX8_partsOf_19 : decode cX8_partsOf 19 = .ok (.iconst 0, 1) := by decide +kernel
theorem dX8_partsOf_20 : decode cX8_partsOf 20 = .ok (.ireturn, 1) := by decide +kernel
theorem dX8_weightOf_0 : decode cX8_weightOf 0 = .ok (.iload_n 1, 1) := by decide +kernel
theorem dX8_weightOf_1 : decode cX8_weightOf 1 = .ok (.ifCond .lt 18, 3) := by decide +kernel
theorem dX8_weightOf_4 : decode cX8_weightOf 4 = .ok (.iload_n 1, 1) := by decide +kernel
theorem dX8_weightOf_5 : decode cX8_weightOf 5 = .ok (.bipush 16, 2) := by decide +kernel
theorem dX8_weightOf_7 : decode cX8_weightOf 7 = .ok (.if_icmp .ge 12, 3) := by decide +kernel
theorem dX8_weightOf_10 : decode cX8_weightOf 10 = .ok (.aload_n 0, 1) := by decide +kernel
theorem dX8_weightOf_11 : decode cX8_weightOf 11 = .ok (.getfield 19, 3) := by decide +kernel
theorem dX8_weightOf_14 : decode cX8_weightOf 14 = .ok (.iload_n 1, 1) := by decide +kernel
theorem dX8_weightOf_15 : decode cX8_weightOf 15 = .ok (.iaload, 1) := by decide +kernel
theorem dX8_weightOf_16 : decode cX8_weightOf 16 = .ok (.goto 4, 3) := by decide +kernel
theorem dX8_weightOf_19 : decode cX8_weightOf 19 = .ok (.iconst 1, 1) := by decide +kernel
theorem dX8_weightOf_20 : decode cX8_weightOf 20 = .ok (.ireturn, 1) := by decide +kernel
theorem dX8_after_0 : decode cX8_after 0 = .ok (.iconst 1, 1) := by decide +kernel
theorem dX8_after_1 : decode cX8_after 1 = .ok (.istore_n 3, 1) := by decide +kernel
theorem dX8_after_2 : decode cX8_after 2 = .ok (.iload_n 2, 1) := by decide +kernel
theorem dX8_after_3 : decode cX8_after 3 = .ok (.istore 4, 2) := by decide +kernel
theorem dX8_after_5 : decode cX8_after 5 = .ok (.iload_n 3, 1) := by decide +kernel
theorem dX8_after_6 : decode cX8_after 6 = .ok (.ifCond .le 55, 3) := by decide +kernel
theorem dX8_after_9 : decode cX8_after 9 = .ok (.iload 4, 2) := by decide +kernel
theorem dX8_after_11 : decode cX8_after 11 = .ok (.ifCond .lt 50, 3) := by decide +kernel
theorem dX8_after_14 : decode cX8_after 14 = .ok (.iload 4, 2) := by decide +kernel
theorem dX8_after_16 : decode cX8_after 16 = .ok (.aload_n 1, 1) := by decide +kernel
theorem dX8_after_17 : decode cX8_after 17 = .ok (.arraylength, 1) := by decide +kernel
theorem dX8_after_18 : decode cX8_after 18 = .ok (.if_icmp .ge 43, 3) := by decide +kernel
theorem dX8_after_21 : decode cX8_after 21 = .ok (.aload_n 1, 1) := by decide +kernel
theorem dX8_after_22 : decode cX8_after 22 = .ok (.iload 4, 2) := by decide +kernel
theorem dX8_after_24 : decode cX8_after 24 = .ok (.iaload, 1) := by decide +kernel
theorem dX8_after_25 : decode cX8_after 25 = .ok (.istore 5, 2) := by decide +kernel
theorem dX8_after_27 : decode cX8_after 27 = .ok (.iload_n 3, 1) := by decide +kernel
theorem dX8_after_28 : decode cX8_after 28 = .ok (.iload 5, 2) := by decide +kernel
theorem dX8_after_30 : decode cX8_after 30 = .ok (.ifCond .lt 22, 3) := by decide +kernel
theorem dX8_after_33 : decode cX8_after 33 = .ok (.iload 5, 2) := by decide +kernel
theorem dX8_after_35 : decode cX8_after 35 = .ok (.bipush 16, 2) := by decide +kernel
theorem dX8_after_37 : decode cX8_after 37 = .ok (.if_icmp .ge 15, 3) := by decide +kernel
theorem dX8_after_40 : decode cX8_after 40 = .ok (.aload_n 0, 1) := by decide +kernel
theorem dX8_after_41 : decode cX8_after 41 = .ok (.getfield 15, 3) := by decide +kernel
theorem dX8_after_44 : decode cX8_after 44 = .ok (.iload 5, 2) := by decide +kernel
theorem dX8_after_46 : decode cX8_after 46 = .ok (.iaload, 1) := by decide +kernel
theorem dX8_after_47 : decode cX8_after 47 = .ok (.iconst 1, 1) := by decide +kernel
theorem dX8_after_48 : decode cX8_after 48 = .ok (.isub, 1) := by decide +kernel
theorem dX8_after_49 : decode cX8_after 49 = .ok (.goto 4, 3) := by decide +kernel
theorem dX8_after_52 : decode cX8_after 52 = .ok (.iconst (-1), 1) := by decide +kernel
theorem dX8_after_53 : decode cX8_after 53 = .ok (.iadd, 1) := by decide +kernel
theorem dX8_after_54 : decode cX8_after 54 = .ok (.istore_n 3, 1) := by decide +kernel
theorem dX8_after_55 : decode cX8_after 55 = .ok (.iinc 4 1, 3) := by decide +kernel
theorem dX8_after_58 : decode cX8_after 58 = .ok (.goto (-53), 3) := by decide +kernel
theorem dX8_after_61 : decode cX8_after 61 = .ok (.iload 4, 2) := by decide +kernel
theorem dX8_after_63 : decode cX8_after 63 = .ok (.ireturn, 1) := by decide +kernel
theorem dX9_init_0 : decode cX9_init 0 = .ok (.aload_n 0, 1) := by decide +kernel
theorem dX9_init_1 : decode cX9_init 1 = .ok (.invokespecial 3, 3) := by decide +kernel
theorem dX9_init_4 : decode cX9_init 4 = .ok (.aload_n 0, 1) := by decide +kernel
theorem dX9_init_5 : decode cX9_init 5 = .ok (.sipush 360, 3) := by decide +kernel
theorem dX9_init_8 : decode cX9_init 8 = .ok (.newarray .int, 2) := by decide +kernel
theorem dX9_init_10 : decode cX9_init 10 = .ok (.putfield 9, 3) := by decide +kernel
theorem dX9_init_13 : decode cX9_init 13 = .ok (.aload_n 0, 1) := by decide +kernel
theorem dX9_init_14 : decode cX9_init 14 = .ok (.bipush 40, 2) := by decide +kernel
theorem dX9_init_16 : decode cX9_init 16 = .ok (.newarray .int, 2) := by decide +kernel
theorem dX9_init_18 : decode cX9_init 18 = .ok (.putfield 15, 3) := by decide +kernel
theorem dX9_init_21 : decode cX9_init 21 = .ok (.aload_n 0, 1) := by decide +kernel
theorem dX9_init_22 : decode cX9_init 22 = .ok (.bipush 40, 2) := by decide +kernel
theorem dX9_init_24 : decode cX9_init 24 = .ok (.newarray .int, 2) := by decide +kernel
theorem dX9_init_26 : decode cX9_init 26 = .ok (.putfield 18, 3) := by decide +kernel
theorem dX9_init_29 : decode cX9_init 29 = .ok (.aload_n 0, 1) := by decide +kernel
theorem dX9_init_30 : decode cX9_init 30 = .ok (.iconst 0, 1) := by decide +kernel
theorem dX9_init_31 : decode cX9_init 31 = .ok (.putfield 21, 3) := by decide +kernel
theorem dX9_init_34 : decode cX9_init 34 = .ok (.aload_n 0, 1) := by decide +kernel
theorem dX9_init_35 : decode cX9_init 35 = .ok (.sipush 128, 3) := by decide +kernel
theorem dX9_init_38 : decode cX9_init 38 = .ok (.newarray .int, 2) := by decide +kernel
theorem dX9_init_40 : decode cX9_init 40 = .ok (.putfield 25, 3) := by decide +kernel
theorem dX9_init_43 : decode cX9_init 43 = .ok (.aload_n 0, 1) := by decide +kernel
theorem dX9_init_44 : decode cX9_init 44 = .ok (.sipush 128, 3) := by decide +kernel
theorem dX9_init_47 : decode cX9_init 47 = .ok (.newarray .int, 2) := by decide +kernel
theorem dX9_init_49 : decode cX9_init 49 = .ok (.putfield 28, 3) := by decide +kernel
theorem dX9_init_52 : decode cX9_init 52 = .ok (.aload_n 0, 1) := by decide +kernel
theorem dX9_init_53 : decode cX9_init 53 = .ok (.sipush 128, 3) := by decide +kernel
theorem dX9_init_56 : decode cX9_init 56 = .ok (.newarray .int, 2) := by decide +kernel
theorem dX9_init_58 : decode cX9_init 58 = .ok (.putfield 31, 3) := by decide +kernel
theorem dX9_init_61 : decode cX9_init 61 = .ok (.aload_n 0, 1) := by decide +kernel
theorem dX9_init_62 : decode cX9_init 62 = .ok (.sipush 128, 3) := by decide +kernel
theorem dX9_init_65 : decode cX9_init 65 = .ok (.newarray .int, 2) := by decide +kernel
theorem dX9_init_67 : decode cX9_init 67 = .ok (.putfield 34, 3) := by decide +kernel
theorem dX9_init_70 : decode cX9_init 70 = .ok (.aload_n 0, 1) := by decide +kernel
theorem dX9_init_71 : decode cX9_init 71 = .ok (.sipush 128, 3) := by decide +kernel
theorem dX9_init_74 : decode cX9_init 74 = .ok (.newarray .int, 2) := by decide +kernel
theorem dX9_init_76 : decode cX9_init 76 = .ok (.putfield 37, 3) := by decide +kernel
theorem dX9_init_79 : decode cX9_init 79 = .ok (.aload_n 0, 1) := by decide +kernel
theorem dX9_init_80 : decode cX9_init 80 = .ok (.iconst 0, 1) := by decide +kernel
theorem dX9_init_81 : decode cX9_init 81 = .ok (.putfield 40, 3) := by decide +kernel
theorem dX9_init_84 : decode cX9_init 84 = .ok (.aload_n 0, 1) := by decide +kernel
theorem dX9_init_85 : decode cX9_init 85 = .ok (.iconst 0, 1) := by decide +kernel
theorem dX9_init_86 : decode cX9_init 86 = .ok (.putfield 43, 3) := by decide +kernel
theorem dX9_init_89 : decode cX9_init 89 = .ok (.aload_n 0, 1) := by decide +kernel
theorem dX9_init_90 : decode cX9_init 90 = .ok (.iconst 0, 1) := by decide +kernel
theorem dX9_init_91 : decode cX9_init 91 = .ok (.putfield 46, 3) := by decide +kernel
theorem dX9_init_94 : decode cX9_init 94 = .ok (.aload_n 0, 1) := by decide +kernel
theorem dX9_init_95 : decode cX9_init 95 = .ok (.sipush 1000, 3) := by decide +kernel
theorem dX9_init_98 : decode cX9_init 98 = .ok (.newarray .int, 2) := by decide +kernel
theorem dX9_init_100 : decode cX9_init 100 = .ok (.putfield 49, 3) := by decide +kernel
theorem dX9_init_103 : decode cX9_init 103 = .ok (.aload_n 0, 1) := by decide +kernel
theorem dX9_init_104 : decode cX9_init 104 = .ok (.iconst 0, 1) := by decide +kernel
theorem dX9_init_105 : decode cX9_init 105 = .ok (.putfield 52, 3) := by decide +kernel
theorem dX9_init_108 : decode cX9_init 108 = .ok (.aload_n 0, 1) := by decide +kernel
theorem dX9_init_109 : decode cX9_init 109 = .ok (.aload_n 1, 1) := by decide +kernel
theorem dX9_init_110 : decode cX9_init 110 = .ok (.putfield 55, 3) := by decide +kernel
theorem dX9_init_113 : decode cX9_init 113 = .ok (.aload_n 0, 1) := by decide +kernel
theorem dX9_init_114 : decode cX9_init 114 = .ok (.getfield 15, 3) := by decide +kernel
theorem dX9_init_117 : decode cX9_init 117 = .ok (.iconst (-1), 1) := by decide +kernel
theorem dX9_init_118 : decode cX9_init 118 = .ok (.invokestatic 59, 3) := by decide +kernel
theorem dX9_init_121 : decode cX9_init 121 = .ok (.return_, 1) := by decide +kernel
theorem dX9_layFirst_0 : decode cX9_layFirst 0 = .ok (.aload_n 1, 1) := by decide +kernel
theorem dX9_layFirst_1 : decode cX9_layFirst 1 = .ok (.getfield 65, 3) := by decide +kernel
theorem dX9_layFirst_4 : decode cX9_layFirst 4 = .ok (.iconst 0, 1) := by decide +kernel
theorem dX9_layFirst_5 : decode cX9_layFirst 5 = .ok (.aload_n 0, 1) := by decide +kernel
theorem dX9_layFirst_6 : decode cX9_layFirst 6 = .ok (.getfield 9, 3) := by decide +kernel
theorem dX9_layFirst_9 : decode cX9_layFirst 9 = .ok (.iconst 0, 1) := by decide +kernel
theorem dX9_layFirst_10 : decode cX9_layFirst 10 = .ok (.aload_n 1, 1) := by decide +kernel
theorem dX9_layFirst_11 : decode cX9_layFirst 11 = .ok (.getfield 70, 3) := by decide +kernel
theorem dX9_layFirst_14 : decode cX9_layFirst 14 = .ok (.aload_n 1, 1) := by decide +kernel
theorem dX9_layFirst_15 : decode cX9_layFirst 15 = .ok (.getfield 73, 3) := by decide +kernel
theorem dX9_layFirst_18 : decode cX9_layFirst 18 = .ok (.iaload, 1) := by decide +kernel
theorem dX9_layFirst_19 : decode cX9_layFirst 19 = .ok (.invokestatic 76, 3) := by decide +kernel
theorem dX9_layFirst_22 : decode cX9_layFirst 22 = .ok (.return_, 1) := by decide +kernel
theorem dX9_laySecond_0 : decode cX9_laySecond 0 = .ok (.aload_n 1, 1) := by decide +kernel
theorem dX9_laySecond_1 : decode cX9_laySecond 1 = .ok (.getfield 70, 3) := by decide +kernel
theorem dX9_laySecond_4 : decode cX9_laySecond 4 = .ok (.aload_n 1, 1) := by decide +kernel
theorem dX9_laySecond_5 : decode cX9_laySecond 5 = .ok (.getfield 73, 3) := by decide +kernel
theorem dX9_laySecond_8 : decode cX9_laySecond 8 = .ok (.iaload, 1) := by decide +kernel
theorem dX9_laySecond_9 : decode cX9_laySecond 9 = .ok (.istore_n 2, 1) := by decide +kernel
theorem dX9_laySecond_10 : decode cX9_laySecond 10 = .ok (.iconst 0, 1) := by decide +kernel
theorem dX9_laySecond_11 : decode cX9_laySecond 11 = .ok (.istore_n 3, 1) := by decide +kernel
theorem dX9_laySecond_12 : decode cX9_laySecond 12 = .ok (.iload_n 3, 1) := by decide +kernel
theorem dX9_laySecond_13 : decode cX9_laySecond 13 = .ok (.iload_n 2, 1) := by decide +kernel
theorem dX9_laySecond_14 : decode cX9_laySecond 14 = .ok (.if_icmp .ge 42, 3) := by decide +kernel
theorem dX9_laySecond_17 : decode cX9_laySecond 17 = .ok (.aload_n 1, 1) := by decide +kernel
theorem dX9_laySecond_18 : decode cX9_laySecond 18 = .ok (.getfield 65, 3) := by decide +kernel
theorem dX9_laySecond_21 : decode cX9_laySecond 21 = .ok (.iload_n 3, 1) := by decide +kernel
theorem dX9_laySecond_22 : decode cX9_laySecond 22 = .ok (.iaload, 1) := by decide +kernel
theorem dX9_laySecond_23 : decode cX9_laySecond 23 = .ok (.istore 4, 2) := by decide +kernel
theorem dX9_laySecond_25 : decode cX9_laySecond 25 = .ok (.aload_n 0, 1) := by decide +kernel
theorem dX9_laySecond_26 : decode cX9_laySecond 26 = .ok (.getfield 9, 3) := by decide +kernel
theorem dX9_laySecond_29 : decode cX9_laySecond 29 = .ok (.sipush 180, 3) := by decide +kernel
theorem dX9_laySecond_32 : decode cX9_laySecond 32 = .ok (.iload_n 3, 1) := by decide +kernel
theorem dX9_laySecond_33 : decode cX9_laySecond 33 = .ok (.iadd, 1) := by decide +kernel
theorem dX9_laySecond_34 : decode cX9_laySecond 34 = .ok (.iload 4, 2) := by decide +kernel
theorem dX9_laySecond_36 : decode cX9_laySecond 36 = .ok (.ifCond .ge 11, 3) := by decide +kernel
theorem dX9_laySecond_39 : decode cX9_laySecond 39 = .ok (.iload 4, 2) := by decide +kernel
theorem dX9_laySecond_41 : decode cX9_laySecond 41 = .ok (.bipush 20, 2) := by decide +kernel
theorem dX9_laySecond_43 : decode cX9_laySecond 43 = .ok (.isub, 1) := by decide +kernel
theorem dX9_laySecond_44 : decode cX9_laySecond 44 = .ok (.goto 5, 3) := by decide +kernel
theorem dX9_laySecond_47 : decode cX9_laySecond 47 = .ok (.iload 4, 2) := by decide +kernel
theorem dX9_laySecond_49 : decode cX9_laySecond 49 = .ok (.iastore, 1) := by decide +kernel
theorem dX9_laySecond_50 : decode cX9_laySecond 50 = .ok (.iinc 3 1, 3) := by decide +kernel
theorem dX9_laySecond_53 : decode cX9_laySecond 53 = .ok (.goto (-41), 3) := by decide +kernel
theorem dX9_laySecond_56 : decode cX9_laySecond 56 = .ok (.return_, 1) := by decide +kernel
theorem dX9_forget_0 : decode cX9_forget 0 = .ok (.aload_n 0, 1) := by decide +kernel
theorem dX9_forget_1 : decode cX9_forget 1 = .ok (.getfield 21, 3) := by decide +kernel
theorem dX9_forget_4 : decode cX9_forget 4 = .ok (.iload_n 1, 1) := by decide +kernel
theorem dX9_forget_5 : decode cX9_forget 5 = .ok (.if_icmp .le 38, 3) := by decide +kernel
theorem dX9_forget_8 : decode cX9_forget 8 = .ok (.aload_n 0, 1) := by decide +kernel
theorem dX9_forget_9 : decode cX9_forget 9 = .ok (.getfield 21, 3) := by decide +kernel
theorem dX9_forget_12 : decode cX9_forget 12 = .ok (.ifCond .le 31, 3) := by decide +kernel
theorem dX9_forget_15 : decode cX9_forget 15 = .ok (.aload_n 0, 1) := by decide +kernel
theorem dX9_forget_16 : decode cX9_forget 16 = .ok (.dup, 1) := by decide +kernel
theorem dX9_forget_17 : decode cX9_forget 17 = .ok (.getfield 21, 3) := by decide +kernel
theorem dX9_forget_20 : decode cX9_forget 20 = .ok (.iconst 1, 1) := by decide +kernel
theorem dX9_forget_21 : decode cX9_forget 21 = .ok (.isub, 1) := by decide +kernel
theorem dX9_forget_22 : decode cX9_forget 22 = .ok (.putfield 21, 3) := by decide +kernel
theorem dX9_forget_25 : decode cX9_forget 25 = .ok (.aload_n 0, 1) := by decide +kernel
theorem dX9_forget_26 : decode cX9_forget 26 = .ok (.getfield 15, 3) := by decide +kernel
theorem dX9_forget_29 : decode cX9_forget 29 = .ok (.aload_n 0, 1) := by decide +kernel
theorem dX9_forget_30 : decode cX9_forget 30 = .ok (.getfield 18, 3) := by decide +kernel
theorem dX9_forget_33 : decode cX9_forget 33 = .ok (.aload_n 0, 1) := by decide +kernel
theorem dX9_forget_34 : decode cX9_forget 34 = .ok (.getfield 21, 3) := by decide +kernel
theorem dX9_forget_37 : decode cX9_forget 37 = .ok (.iaload, 1) := by decide +kernel
theorem dX9_forget_38 : decode cX9_forget 38 = .ok (.iconst (-1), 1) := by decide +kernel
theorem dX9_forget_39 : decode cX9_forget 39 = .ok (.iastore, 1) := by decide +kernel
theorem dX9_forget_40 : decode cX9_forget 40 = .ok (.goto (-40), 3) := by decide +kernel
theorem dX9_forget_43 : decode cX9_forget 43 = .ok (.return_, 1) := by decide +kernel
theorem dX9_tell_0 : decode cX9_tell 0 = .ok (.iload_n 1, 1) := by decide +kernel
theorem dX9_tell_1 : decode cX9_tell 1 = .ok (.aload_n 0, 1) := by decide +kernel
theorem dX9_tell_2 : decode cX9_tell 2 = .ok (.getfield 15, 3) := by decide +kernel
theorem dX9_tell_5 : decode cX9_tell 5 = .ok (.arraylength, 1) := by decide +kernel
theorem dX9_tell_6 : decode cX9_tell 6 = .ok (.if_icmp .ge 42, 3) := by decide +kernel
theorem dX9_tell_9 : decode cX9_tell 9 = .ok (.aload_n 0, 1) := by decide +kernel
theorem dX9_tell_10 : decode cX9_tell 10 = .ok (.getfield 21, 3) := by decide +kernel
theorem dX9_tell_13 : decode cX9_tell 13 = .ok (.aload_n 0, 1) := by decide +kernel
theorem dX9_tell_14 : decode cX9_tell 14 = .ok (.getfield 18, 3) := by decide +kernel
theorem dX9_tell_17 : decode cX9_tell 17 = .ok (.arraylength, 1) := by decide +kernel
theorem dX9_tell_18 : decode cX9_tell 18 = .ok (.if_icmp .ge 30, 3) := by decide +kernel
theorem dX9_tell_21 : decode cX9_tell 21 = .ok (.aload_n 0, 1) := by decide +kernel
theorem dX9_tell_22 : decode cX9_tell 22 = .ok (.getfield 15, 3) := by decide +kernel
theorem dX9_tell_25 : decode cX9_tell 25 = .ok (.iload_n 1, 1) := by decide +kernel
theorem dX9_tell_26 : decode cX9_tell 26 = .ok (.iload_n 2, 1) := by decide +kernel
theorem dX9_tell_27 : decode cX9_tell 27 = .ok (.iastore, 1) := by decide +kernel
theorem dX9_tell_28 : decode cX9_tell 28 = .ok (.aload_n 0, 1) := by decide +kernel
theorem dX9_tell_29 : decode cX9_tell 29 = .ok (.getfield 18, 3) := by decide +kernel
theorem dX9_tell_32 : decode cX9_tell 32 = .ok (.aload_n 0, 1) := by decide +kernel
theorem dX9_tell_33 : decode cX9_tell 33 = .ok (.getfield 21, 3) := by decide +kernel
theorem dX9_tell_36 : decode cX9_tell 36 = .ok (.iload_n 1, 1) := by decide +kernel
theorem dX9_tell_37 : decode cX9_tell 37 = .ok (.iastore, 1) := by decide +kernel
theorem dX9_tell_38 : decode cX9_tell 38 = .ok (.aload_n 0, 1) := by decide +kernel
theorem dX9_tell_39 : decode cX9_tell 39 = .ok (.dup, 1) := by decide +kernel
theorem dX9_tell_40 : decode cX9_tell 40 = .ok (.getfield 21, 3) := by decide +kernel
theorem dX9_tell_43 : decode cX9_tell 43 = .ok (.iconst 1, 1) := by decide +kernel
theorem dX9_tell_44 : decode cX9_tell 44 = .ok (.iadd, 1) := by decide +kernel
theorem dX9_tell_45 : decode cX9_tell 45 = .ok (.putfield 21, 3) := by decide +kernel
theorem dX9_tell_48 : decode cX9_tell 48 = .ok (.return_, 1) := by decide +kernel
theorem dX9_resting_0 : decode cX9_resting 0 = .ok (.iload_n 1, 1) := by decide +kernel
theorem dX9_resting_1 : decode cX9_resting 1 = .ok (.istore_n 2, 1) := by decide +kernel
theorem dX9_resting_2 : decode cX9_resting 2 = .ok (.iconst 0, 1) := by decide +kernel
theorem dX9_resting_3 : decode cX9_resting 3 = .ok (.istore_n 3, 1) := by decide +kernel
theorem dX9_resting_4 : decode cX9_resting 4 = .ok (.iload_n 3, 1) := by decide +kernel
theorem dX9_resting_5 : decode cX9_resting 5 = .ok (.aload_n 0, 1) := by decide +kernel
theorem dX9_resting_6 : decode cX9_resting 6 = .ok (.getfield 15, 3) := by decide +kernel
theorem dX9_resting_9 : decode cX9_resting 9 = .ok (.arraylength, 1) := by decide +kernel
theorem dX9_resting_10 : decode cX9_resting 10 = .ok (.if_icmp .ge 47, 3) := by decide +kernel
theorem dX9_resting_13 : decode cX9_resting 13 = .ok (.aload_n 0, 1) := by decide +kernel
theorem dX9_resting_14 : decode cX9_resting 14 = .ok (.getfield 9, 3) := by decide +kernel
theorem dX9_resting_17 : decode cX9_resting 17 = .ok (.iload_n 2, 1) := by decide +kernel
theorem dX9_resting_18 : decode cX9_resting 18 = .ok (.iaload, 1) := by decide +kernel
theorem dX9_resting_19 : decode cX9_resting 19 = .ok (.istore 4, 2) := by decide +kernel
theorem dX9_resting_21 : decode cX9_resting 21 = .ok (.iload 4, 2) := by decide +kernel
theorem dX9_resting_23 : decode cX9_resting 23 = .ok (.ifCond .ge 16, 3) := by decide +kernel
theorem dX9_resting_26 : decode cX9_resting 26 = .ok (.aload_n 0, 1) := by decide +kernel
theorem dX9_resting_27 : decode cX9_resting 27 = .ok (.getfield 15, 3) := by decide +kernel
theorem dX9_resting_30 : decode cX9_resting 30 = .ok (.iconst (-1), 1) := by decide +kernel
theorem dX9_resting_31 : decode cX9_resting 31 = .ok (.iload 4, 2) := by decide +kernel
theorem dX9_resting_33 : decode cX9_resting 33 = .ok (.isub, 1) := by decide +kernel
theorem dX9_resting_34 : decode cX9_resting 34 = .ok (.iaload, 1) := by decide +kernel
theorem dX9_resting_35 : decode cX9_resting 35 = .ok (.iconst (-1), 1) := by decide +kernel
theorem dX9_resting_36 : decode cX9_resting 36 = .ok (.if_icmp .ne 5, 3) := by decide +kernel
theorem dX9_resting_39 : decode cX9_resting 39 = .ok (.iload_n 2, 1) := by decide +kernel
theorem dX9_resting_40 : decode cX9_resting 40 = .ok (.ireturn, 1) := by decide +kernel
theorem dX9_resting_41 : decode cX9_resting 41 = .ok (.aload_n 0, 1) := by decide +kernel
theorem dX9_resting_42 : decode cX9_resting 42 = .ok (.getfield 15, 3) := by decide +kernel
theorem dX9_resting_45 : decode cX9_resting 45 = .ok (.iconst (-1), 1) := by decide +kernel
theorem dX9_resting_46 : decode cX9_resting 46 = .ok (.iload 4, 2) := by decide +kernel
theorem dX9_resting_48 : decode cX9_resting 48 = .ok (.isub, 1) := by decide +kernel
theorem dX9_resting_49 : decode cX9_resting 49 = .ok (.iaload, 1) := by decide +kernel
theorem dX9_resting_50 : decode cX9_resting 50 = .ok (.istore_n 2, 1) := by decide +kernel
theorem dX9_resting_51 : decode cX9_resting 51 = .ok (.iinc 3 1, 3) := by decide +kernel
theorem dX9_resting_54 : decode cX9_resting 54 = .ok (.goto (-50), 3) := by decide +kernel
theorem dX9_resting_57 : decode cX9_resting 57 = .ok (.iload_n 2, 1) := by decide +kernel
theorem dX9_resting_58 : decode cX9_resting 58 = .ok (.ireturn, 1) := by decide +kernel
theorem dX9_widen_0 : decode cX9_widen 0 = .ok (.aload_n 0, 1) := by decide +kernel
theorem dX9_widen_1 : decode cX9_widen 1 = .ok (.iconst 0, 1) := by decide +kernel
theorem dX9_widen_2 : decode cX9_widen 2 = .ok (.invokevirtual 82, 3) := by decide +kernel
theorem dX9_widen_5 : decode cX9_widen 5 = .ok (.iload_n 1, 1) := by decide +kernel
theorem dX9_widen_6 : decode cX9_widen 6 = .ok (.istore_n 3, 1) := by decide +kernel
theorem dX9_widen_7 : decode cX9_widen 7 = .ok (.iload_n 2, 1) := by decide +kernel
theorem dX9_widen_8 : decode cX9_widen 8 = .ok (.istore 4, 2) := by decide +kernel
theorem dX9_widen_10 : decode cX9_widen 10 = .ok (.iconst 1, 1) := by decide +kernel
theorem dX9_widen_11 : decode cX9_widen 11 = .ok (.istore 5, 2) := by decide +kernel
theorem dX9_widen_13 : decode cX9_widen 13 = .ok (.iconst 0, 1) := by decide +kernel
theorem dX9_widen_14 : decode cX9_widen 14 = .ok (.istore 6, 2) := by decide +kernel
theorem dX9_widen_16 : decode cX9_widen 16 = .ok (.iconst 0, 1) := by decide +kernel
theorem dX9_widen_17 : decode cX9_widen 17 = .ok (.istore 7, 2) := by decide +kernel
theorem dX9_widen_19 : decode cX9_widen 19 = .ok (.iload 7, 2) := by decide +kernel
theorem dX9_widen_21 : decode cX9_widen 21 = .ok (.ldc 86, 2) := by decide +kernel
theorem dX9_widen_23 : decode cX9_widen 23 = .ok (.if_icmp .ge 286, 3) := by decide +kernel
theorem dX9_widen_26 : decode cX9_widen 26 = .ok (.iload 5, 2) := by decide +kernel
theorem dX9_widen_28 : decode cX9_widen 28 = .ok (.ifCond .ne 42, 3) := by decide +kernel
theorem dX9_widen_31 : decode cX9_widen 31 = .ok (.iload 6, 2) := by decide +kernel
theorem dX9_widen_33 : decode cX9_widen 33 = .ok (.ifCond .ne 5, 3) := by decide +kernel
theorem dX9_widen_36 : decode cX9_widen 36 = .ok (.iconst 1, 1) := by decide +kernel
theorem dX9_widen_37 : decode cX9_widen 37 = .ok (.ireturn, 1) := by decide +kernel
theorem dX9_widen_38 : decode cX9_widen 38 = .ok (.iinc 6 (-1), 3) := by decide +kernel
theorem dX9_widen_41 : decode cX9_widen 41 = .ok (.aload_n 0, 1) := by decide +kernel
theorem dX9_widen_42 : decode cX9_widen 42 = .ok (.getfield 25, 3) := by decide +kernel
theorem dX9_widen_45 : decode cX9_widen 45 = .ok (.iload 6, 2) := by decide +kernel
theorem dX9_widen_47 : decode cX9_widen 47 = .ok (.iaload, 1) := by decide +kernel
theorem dX9_widen_48 : decode cX9_widen 48 = .ok (.istore_n 3, 1) := by decide +kernel
theorem dX9_widen_49 : decode cX9_widen 49 = .ok (.aload_n 0, 1) := by decide +kernel
theorem dX9_widen_50 : decode cX9_widen 50 = .ok (.getfield 28, 3) := by decide +kernel
theorem dX9_widen_53 : decode cX9_widen 53 = .ok (.iload 6, 2) := by decide +kernel
theorem dX9_widen_55 : decode cX9_widen 55 = .ok (.iaload, 1) := by decide +kernel
theorem dX9_widen_56 : decode cX9_widen 56 = .ok (.istore 4, 2) := by decide +kernel
theorem dX9_widen_58 : decode cX9_widen 58 = .ok (.aload_n 0, 1) := by decide +kernel
theorem dX9_widen_59 : decode cX9_widen 59 = .ok (.getfield 31, 3) := by decide +kernel
theorem dX9_widen_62 : decode cX9_widen 62 = .ok (.iload 6, 2) := by decide +kernel
theorem dX9_widen_64 : decode cX9_widen 64 = .ok (.iaload, 1) := by decide +kernel
theorem dX9_widen_65 : decode cX9_widen 65 = .ok (.istore 5, 2) := by decide +kernel
theorem dX9_widen_67 : decode cX9_widen 67 = .ok (.goto 236, 3) := by decide +kernel
theorem dX9_widen_70 : decode cX9_widen 70 = .ok (.aload_n 0, 1) := by decide +kernel
theorem dX9_widen_71 : decode cX9_widen 71 = .ok (.iload_n 3, 1) := by decide +kernel
theorem dX9_widen_72 : decode cX9_widen 72 = .ok (.invokevirtual 87, 3) := by decide +kernel
theorem dX9_widen_75 : decode cX9_widen 75 = .ok (.istore 8, 2) := by decide +kernel
theorem dX9_widen_77 : decode cX9_widen 77 = .ok (.aload_n 0, 1) := by decide +kernel
theorem dX9_widen_78 : decode cX9_widen 78 = .ok (.iload 4, 2) := by decide +kernel
theorem dX9_widen_80 : decode cX9_widen 80 = .ok (.invokevirtual 87, 3) := by decide +kernel
theorem dX9_widen_83 : decode cX9_widen 83 = .ok (.istore 9, 2) := by decide +kernel
theorem dX9_widen_85 : decode cX9_widen 85 = .ok (.aload_n 0, 1) := by decide +kernel
theorem dX9_widen_86 : decode cX9_widen 86 = .ok (.getfield 9, 3) := by decide +kernel
theorem dX9_widen_89 : decode cX9_widen 89 = .ok (.iload 8, 2) := by decide +kernel
theorem dX9_widen_91 : decode cX9_widen 91 = .ok (.iaload, 1) := by decide +kernel
theorem dX9_widen_92 : decode cX9_widen 92 = .ok (.istore 10, 2) := by decide +kernel
theorem dX9_widen_94 : decode cX9_widen 94 = .ok (.iload 10, 2) := by decide +kernel
theorem dX9_widen_96 : decode cX9_widen 96 = .ok (.ifCond .lt 53, 3) := by decide +kernel
theorem dX9_widen_99 : decode cX9_widen 99 = .ok (.iload 8, 2) := by decide +kernel
theorem dX9_widen_101 : decode cX9_widen 101 = .ok (.iload_n 3, 1) := by decide +kernel
theorem dX9_widen_102 : decode cX9_widen 102 = .ok (.if_icmp .ne 47, 3) := by decide +kernel
theorem dX9_widen_105 : decode cX9_widen 105 = .ok (.iload 9, 2) := by decide +kernel
theorem dX9_widen_107 : decode cX9_widen 107 = .ok (.iload 4, 2) := by decide +kernel
theorem dX9_widen_109 : decode cX9_widen 109 = .ok (.if_icmp .ne 40, 3) := by decide +kernel
theorem dX9_widen_112 : decode cX9_widen 112 = .ok (.iload 10, 2) := by decide +kernel
theorem dX9_widen_114 : decode cX9_widen 114 = .ok (.aload_n 0, 1) := by decide +kernel
theorem dX9_widen_115 : decode cX9_widen 115 = .ok (.getfield 9, 3) := by decide +kernel
theorem dX9_widen_118 : decode cX9_widen 118 = .ok (.iload 9, 2) := by decide +kernel
theorem dX9_widen_120 : decode cX9_widen 120 = .ok (.iaload, 1) := by decide +kernel
theorem dX9_widen_121 : decode cX9_widen 121 = .ok (.if_icmp .ne 28, 3) := by decide +kernel
theorem dX9_widen_124 : decode cX9_widen 124 = .ok (.iload 5, 2) := by decide +kernel
theorem dX9_widen_126 : decode cX9_widen 126 = .ok (.aload_n 0, 1) := by decide +kernel
theorem dX9_widen_127 : decode cX9_widen 127 = .ok (.getfield 55, 3) := by decide +kernel
theorem dX9_widen_130 : decode cX9_widen 130 = .ok (.iload 10, 2) := by decide +kernel
theorem dX9_widen_132 : decode cX9_widen 132 = .ok (.invokevirtual 91, 3) := by decide +kernel
theorem dX9_widen_135 : decode cX9_widen 135 = .ok (.iconst 1, 1) := by decide +kernel
theorem dX9_widen_136 : decode cX9_widen 136 = .ok (.isub, 1) := by decide +kernel
theorem dX9_widen_137 : decode cX9_widen 137 = .ok (.iadd, 1) := by decide +kernel
theorem dX9_widen_138 : decode cX9_widen 138 = .ok (.istore 5, 2) := by decide +kernel
theorem dX9_widen_140 : decode cX9_widen 140 = .ok (.iinc 3 1, 3) := by decide +kernel
theorem dX9_widen_143 : decode cX9_widen 143 = .ok (.iinc 4 1, 3) := by decide +kernel
theorem dX9_widen_146 : decode cX9_widen 146 = .ok (.goto 157, 3) := by decide +kernel
theorem dX9_widen_149 : decode cX9_widen 149 = .ok (.iload 10, 2) := by decide +kernel
theorem dX9_widen_151 : decode cX9_widen 151 = .ok (.ifCond .lt 108, 3) := by decide +kernel
theorem dX9_widen_154 : decode cX9_widen 154 = .ok (.aload_n 0, 1) := by decide +kernel
theorem dX9_widen_155 : decode cX9_widen 155 = .ok (.getfield 9, 3) := by decide +kernel
theorem dX9_widen_158 : decode cX9_widen 158 = .ok (.iload 9, 2) := by decide +kernel
theorem dX9_widen_160 : decode cX9_widen 160 = .ok (.iaload, 1) := by decide +kernel
theorem dX9_widen_161 : decode cX9_widen 161 = .ok (.ifCond .lt 98, 3) := by decide +kernel
theorem dX9_widen_164 : decode cX9_widen 164 = .ok (.iload 8, 2) := by decide +kernel
theorem dX9_widen_166 : decode cX9_widen 166 = .ok (.iload 9, 2) := by decide +kernel
theorem dX9_widen_168 : decode cX9_widen 168 = .ok (.if_icmp .eq 91, 3) := by decide +kernel
theorem dX9_widen_171 : decode cX9_widen 171 = .ok (.iload 10, 2) := by decide +kernel
theorem dX9_widen_173 : decode cX9_widen 173 = .ok (.aload_n 0, 1) := by decide +kernel
theorem dX9_widen_174 : decode cX9_widen 174 = .ok (.getfield 9, 3) := by decide +kernel
theorem dX9_widen_177 : decode cX9_widen 177 = .ok (.iload 9, 2) := by decide +kernel
theorem dX9_widen_179 : decode cX9_widen 179 = .ok (.iaload, 1) := by decide +kernel
theorem dX9_widen_180 : decode cX9_widen 180 = .ok (.if_icmp .ne 11, 3) := by decide +kernel
theorem dX9_widen_183 : decode cX9_widen 183 = .ok (.iload 6, 2) := by decide +kernel
theorem dX9_widen_185 : decode cX9_widen 185 = .ok (.sipush 128, 3) := by decide +kernel
theorem dX9_widen_188 : decode cX9_widen 188 = .ok (.if_icmp .lt 5, 3) := by decide +kernel
theorem dX9_widen_191 : decode cX9_widen 191 = .ok (.iconst 0, 1) := by decide +kernel
theorem dX9_widen_192 : decode cX9_widen 192 = .ok (.ireturn, 1) := by decide +kernel
theorem dX9_widen_193 : decode cX9_widen 193 = .ok (.aload_n 0, 1) := by decide +kernel
theorem dX9_widen_194 : decode cX9_widen 194 = .ok (.getfield 25, 3) := by decide +kernel
theorem dX9_widen_197 : decode cX9_widen 197 = .ok (.iload 6, 2) := by decide +kernel
theorem dX9_widen_199 : decode cX9_widen 199 = .ok (.aload_n 0, 1) := by decide +kernel
theorem dX9_widen_200 : decode cX9_widen 200 = .ok (.getfield 55, 3) := by decide +kernel
theorem dX9_widen_203 : decode cX9_widen 203 = .ok (.aload_n 0, 1) := by decide +kernel
theorem dX9_widen_204 : decode cX9_widen 204 = .ok (.getfield 9, 3) := by decide +kernel
theorem dX9_widen_207 : decode cX9_widen 207 = .ok (.iload_n 3, 1) := by decide +kernel
theorem dX9_widen_208 : decode cX9_widen 208 = .ok (.invokevirtual 96, 3) := by decide +kernel
theorem dX9_widen_211 : decode cX9_widen 211 = .ok (.iastore, 1) := by decide +kernel
theorem dX9_widen_212 : decode cX9_widen 212 = .ok (.aload_n 0, 1) := by decide +kernel
theorem dX9_widen_213 : decode cX9_widen 213 = .ok (.getfield 28, 3) := by decide +kernel
theorem dX9_widen_216 : decode cX9_widen 216 = .ok (.iload 6, 2) := by decide +kernel
theorem dX9_widen_218 : decode cX9_widen 218 = .ok (.aload_n 0, 1) := by decide +kernel
theorem dX9_widen_219 : decode cX9_widen 219 = .ok (.getfield 55, 3) := by decide +kernel
theorem dX9_widen_222 : decode cX9_widen 222 = .ok (.aload_n 0, 1) := by decide +kernel
theorem dX9_widen_223 : decode cX9_widen 223 = .ok (.getfield 9, 3) := by decide +kernel
theorem dX9_widen_226 : decode cX9_widen 226 = .ok (.iload 4, 2) := by decide +kernel
theorem dX9_widen_228 : decode cX9_widen 228 = .ok (.invokevirtual 96, 3) := by decide +kernel
theorem dX9_widen_231 : decode cX9_widen 231 = .ok (.iastore, 1) := by decide +kernel
theorem dX9_widen_232 : decode cX9_widen 232 = .ok (.aload_n 0, 1) := by decide +kernel
theorem dX9_widen_233 : decode cX9_widen 233 = .ok (.getfield 31, 3) := by decide +kernel
theorem dX9_widen_236 : decode cX9_widen 236 = .ok (.iload 6, 2) := by decide +kernel
theorem dX9_widen_238 : decode cX9_widen 238 = .ok (.iload 5, 2) := by decide +kernel
theorem dX9_widen_240 : decode cX9_widen 240 = .ok (.iconst 1, 1) := by decide +kernel
theorem dX9_widen_241 : decode cX9_widen 241 = .ok (.isub, 1) := by decide +kernel
theorem dX9_widen_242 : decode cX9_widen 242 = .ok (.iastore, 1) := by decide +kernel
theorem dX9_widen_243 : decode cX9_widen 243 = .ok (.iinc 6 1, 3) := by decide +kernel
theorem dX9_widen_246 : decode cX9_widen 246 = .ok (.iload 8, 2) := by decide +kernel
theorem dX9_widen_248 : decode cX9_widen 248 = .ok (.istore_n 3, 1) := by decide +kernel
theorem dX9_widen_249 : decode cX9_widen 249 = .ok (.iload 9, 2) := by decide +kernel
theorem dX9_widen_251 : decode cX9_widen 251 = .ok (.istore 4, 2) := by decide +kernel
theorem dX9_widen_253 : decode cX9_widen 253 = .ok (.iconst 1, 1) := by decide +kernel
theorem dX9_widen_254 : decode cX9_widen 254 = .ok (.istore 5, 2) := by decide +kernel
theorem dX9_widen_256 : decode cX9_widen 256 = .ok (.goto 47, 3) := by decide +kernel
theorem dX9_widen_259 : decode cX9_widen 259 = .ok (.aload_n 0, 1) := by decide +kernel
theorem dX9_widen_260 : decode cX9_widen 260 = .ok (.iload 8, 2) := by decide +kernel
theorem dX9_widen_262 : decode cX9_widen 262 = .ok (.iload 9, 2) := by decide +kernel
theorem dX9_widen_264 : decode cX9_widen 264 = .ok (.invokevirtual 100, 3) := by decide +kernel
theorem dX9_widen_267 : decode cX9_widen 267 = .ok (.ifCond .ne 5, 3) := by decide +kernel
theorem dX9_widen_270 : decode cX9_widen 270 = .ok (.iconst 0, 1) := by decide +kernel
theorem dX9_widen_271 : decode cX9_widen 271 = .ok (.ireturn, 1) := by decide +kernel
theorem dX9_widen_272 : decode cX9_widen 272 = .ok (.aload_n 0, 1) := by decide +kernel
theorem dX9_widen_273 : decode cX9_widen 273 = .ok (.getfield 55, 3) := by decide +kernel
theorem dX9_widen_276 : decode cX9_widen 276 = .ok (.aload_n 0, 1) := by decide +kernel
theorem dX9_widen_277 : decode cX9_widen 277 = .ok (.getfield 9, 3) := by decide +kernel
theorem dX9_widen_280 : decode cX9_widen 280 = .ok (.iload_n 3, 1) := by decide +kernel
theorem dX9_widen_281 : decode cX9_widen 281 = .ok (.invokevirtual 96, 3) := by decide +kernel
theorem dX9_widen_284 : decode cX9_widen 284 = .ok (.istore_n 3, 1) := by decide +kernel
theorem dX9_widen_285 : decode cX9_widen 285 = .ok (.aload_n 0, 1) := by decide +kernel
theorem dX9_widen_286 : decode cX9_widen 286 = .ok (.getfield 55, 3) := by decide +kernel
theorem dX9_widen_289 : decode cX9_widen 289 = .ok (.aload_n 0, 1) := by decide +kernel
theorem dX9_widen_290 : decode cX9_widen 290 = .ok (.getfield 9, 3) := by decide +kernel
theorem dX9_widen_293 : decode cX9_widen 293 = .ok (.iload 4, 2) := by decide +kernel
theorem dX9_widen_295 : decode cX9_widen 295 = .ok (.invokevirtual 96, 3) := by decide +kernel
theorem dX9_widen_298 : decode cX9_widen 298 = .ok (.istore 4, 2) := by decide +kernel
theorem dX9_widen_300 : decode cX9_widen 300 = .ok (.iinc 5 (-1), 3) := by decide +kernel
theorem dX9_widen_303 : decode cX9_widen 303 = .ok (.iinc 7 1, 3) := by decide +kernel
theorem dX9_widen_306 : decode cX9_widen 306 = .ok (.goto (-287), 3) := by decide +kernel
theorem dX9_widen_309 : decode cX9_widen 309 = .ok (.iconst 0, 1) := by decide +kernel
theorem dX9_widen_310 : decode cX9_widen 310 = .ok (.ireturn, 1) := by decide +kernel
theorem dX9_meet_0 : decode cX9_meet 0 = .ok (.aload_n 0, 1) := by decide +kernel
theorem dX9_meet_1 : decode cX9_meet 1 = .ok (.getfield 9, 3) := by decide +kernel
theorem dX9_meet_4 : decode cX9_meet 4 = .ok (.iload_n 1, 1) := by decide +kernel
theorem dX9_meet_5 : decode cX9_meet 5 = .ok (.iaload, 1) := by decide +kernel
theorem dX9_meet_6 : decode cX9_meet 6 = .ok (.aload_n 0, 1) := by decide +kernel
theorem dX9_meet_7 : decode cX9_meet 7 = .ok (.getfield 9, 3) := by decide +kernel
theorem dX9_meet_10 : decode cX9_meet 10 = .ok (.iload_n 2, 1) := by decide +kernel
theorem dX9_meet_11 : decode cX9_meet 11 = .ok (.iaload, 1) := by decide +kernel
theorem dX9_meet_12 : decode cX9_meet 12 = .ok (.if_icmp .ne 5, 3) := by decide +kernel
theorem dX9_meet_15 : decode cX9_meet 15 = .ok (.iconst 1, 1) := by decide +kernel
theorem dX9_meet_16 : decode cX9_meet 16 = .ok (.ireturn, 1) := by decide +kernel
theorem dX9_meet_17 : decode cX9_meet 17 = .ok (.aload_n 0, 1) := by decide +kernel
theorem dX9_meet_18 : decode cX9_meet 18 = .ok (.getfield 9, 3) := by decide +kernel
theorem dX9_meet_21 : decode cX9_meet 21 = .ok (.iload_n 1, 1) := by decide +kernel
theorem dX9_meet_22 : decode cX9_meet 22 = .ok (.iaload, 1) := by decide +kernel
theorem dX9_meet_23 : decode cX9_meet 23 = .ok (.ifCond .ge 7, 3) := by decide +kernel
theorem dX9_meet_26 : decode cX9_meet 26 = .ok (.iconst 1, 1) := by decide +kernel
theorem dX9_meet_27 : decode cX9_meet 27 = .ok (.goto 4, 3) := by decide +kernel
theorem dX9_meet_30 : decode cX9_meet 30 = .ok (.iconst 0, 1) := by decide +kernel
theorem dX9_meet_31 : decode cX9_meet 31 = .ok (.istore_n 3, 1) := by decide +kernel
theorem dX9_meet_32 : decode cX9_meet 32 = .ok (.iconst (-1), 1) := by decide +kernel
theorem dX9_meet_33 : decode cX9_meet 33 = .ok (.aload_n 0, 1) := by decide +kernel
theorem dX9_meet_34 : decode cX9_meet 34 = .ok (.getfield 9, 3) := by decide +kernel
theorem dX9_meet_37 : decode cX9_meet 37 = .ok (.iload_n 3, 1) := by decide +kernel
theorem dX9_meet_38 : decode cX9_meet 38 = .ok (.ifCond .eq 7, 3) := by decide +kernel
theorem dX9_meet_41 : decode cX9_meet 41 = .ok (.iload_n 1, 1) := by decide +kernel
theorem dX9_meet_42 : decode cX9_meet 42 = .ok (.goto 4, 3) := by decide +kernel
theorem dX9_meet_45 : decode cX9_meet 45 = .ok (.iload_n 2, 1) := by decide +kernel
theorem dX9_meet_46 : decode cX9_meet 46 = .ok (.iaload, 1) := by decide +kernel
theorem dX9_meet_47 : decode cX9_meet 47 = .ok (.isub, 1) := by decide +kernel
theorem dX9_meet_48 : decode cX9_meet 48 = .ok (.istore 4, 2) := by decide +kernel
theorem dX9_meet_50 : decode cX9_meet 50 = .ok (.iload_n 3, 1) := by decide +kernel
theorem dX9_meet_51 : decode cX9_meet 51 = .ok (.ifCond .eq 7, 3) := by decide +kernel
theorem dX9_meet_54 : decode cX9_meet 54 = .ok (.iload_n 2, 1) := by decide +kernel
theorem dX9_meet_55 : decode cX9_meet 55 = .ok (.goto 4, 3) := by decide +kernel
theorem dX9_meet_58 : decode cX9_meet 58 = .ok (.iload_n 1, 1) := by decide +kernel
theorem dX9_meet_59 : decode cX9_meet 59 = .ok (.istore 5, 2) := by decide +kernel
theorem dX9_meet_61 : decode cX9_meet 61 = .ok (.aload_n 0, 1) := by decide +kernel
theorem dX9_meet_62 : decode cX9_meet 62 = .ok (.iload 4, 2) := by decide +kernel
theorem dX9_meet_64 : decode cX9_meet 64 = .ok (.iload 5, 2) := by decide +kernel
theorem dX9_meet_66 : decode cX9_meet 66 = .ok (.invokevirtual 104, 3) := by decide +kernel
theorem dX9_meet_69 : decode cX9_meet 69 = .ok (.ifCond .eq 5, 3) := by decide +kernel
theorem dX9_meet_72 : decode cX9_meet 72 = .ok (.iconst 0, 1) := by decide +kernel
theorem dX9_meet_73 : decode cX9_meet 73 = .ok (.ireturn, 1) := by decide +kernel
theorem dX9_meet_74 : decode cX9_meet 74 = .ok (.aload_n 0, 1) := by decide +kernel
theorem dX9_meet_75 : decode cX9_meet 75 = .ok (.iload 4, 2) := by decide +kernel
theorem dX9_meet_77 : decode cX9_meet 77 = .ok (.iload 5, 2) := by decide +kernel
theorem dX9_meet_79 : decode cX9_meet 79 = .ok (.invokevirtual 107, 3) := by decide +kernel
theorem dX9_meet_82 : decode cX9_meet 82 = .ok (.iconst 1, 1) := by decide +kernel
theorem dX9_meet_83 : decode cX9_meet 83 = .ok (.ireturn, 1) := by decide +kernel
theorem dX9_isIn_0 : decode cX9_isIn 0 = .ok (.aload_n 0, 1) := by decide +kernel
theorem dX9_isIn_1 : decode cX9_isIn 1 = .ok (.iload_n 2, 1) := by decide +kernel
theorem dX9_isIn_2 : decode cX9_isIn 2 = .ok (.aload_n 0, 1) := by decide +kernel
theorem dX9_isIn_3 : decode cX9_isIn 3 = .ok (.getfield 55, 3) := by decide +kernel
theorem dX9_isIn_6 : decode cX9_isIn 6 = .ok (.aload_n 0, 1) := by decide +kernel
theorem dX9_isIn_7 : decode cX9_isIn 7 = .ok (.getfield 9, 3) := by decide +kernel
theorem dX9_isIn_10 : decode cX9_isIn 10 = .ok (.iload_n 2, 1) := by decide +kernel
theorem dX9_isIn_11 : decode cX9_isIn 11 = .ok (.invokevirtual 96, 3) := by decide +kernel
theorem dX9_isIn_14 : decode cX9_isIn 14 = .ok (.invokevirtual 111, 3) := by decide +kernel
theorem dX9_isIn_17 : decode cX9_isIn 17 = .ok (.iconst 0, 1) := by decide +kernel
theorem dX9_isIn_18 : decode cX9_isIn 18 = .ok (.istore_n 3, 1) := by decide +kernel
theorem dX9_isIn_19 : decode cX9_isIn 19 = .ok (.iload_n 3, 1) := by decide +kernel
theorem dX9_isIn_20 : decode cX9_isIn 20 = .ok (.ldc 86, 2) := by decide +kernel
theorem dX9_isIn_22 : decode cX9_isIn 22 = .ok (.if_icmp .ge 46, 3) := by decide +kernel
theorem dX9_isIn_25 : decode cX9_isIn 25 = .ok (.aload_n 0, 1) := by decide +kernel
theorem dX9_isIn_26 : decode cX9_isIn 26 = .ok (.invokevirtual 114, 3) := by decide +kernel
theorem dX9_isIn_29 : decode cX9_isIn 29 = .ok (.istore 4, 2) := by decide +kernel
theorem dX9_isIn_31 : decode cX9_isIn 31 = .ok (.iload 4, 2) := by decide +kernel
theorem dX9_isIn_33 : decode cX9_isIn 33 = .ok (.iconst (-1), 1) := by decide +kernel
theorem dX9_isIn_34 : decode cX9_isIn 34 = .ok (.if_icmp .eq 16, 3) := by decide +kernel
theorem dX9_isIn_37 : decode cX9_isIn 37 = .ok (.aload_n 0, 1) := by decide +kernel
theorem dX9_isIn_38 : decode cX9_isIn 38 = .ok (.getfield 9, 3) := by decide +kernel
theorem dX9_isIn_41 : decode cX9_isIn 41 = .ok (.iload 4, 2) := by decide +kernel
theorem dX9_isIn_43 : decode cX9_isIn 43 = .ok (.iaload, 1) := by decide +kernel
theorem dX9_isIn_44 : decode cX9_isIn 44 = .ok (.iconst (-1), 1) := by decide +kernel
theorem dX9_isIn_45 : decode cX9_isIn 45 = .ok (.iload_n 1, 1) := by decide +kernel
theorem dX9_isIn_46 : decode cX9_isIn 46 = .ok (.isub, 1) := by decide +kernel
theorem dX9_isIn_47 : decode cX9_isIn 47 = .ok (.if_icmp .ne 15, 3) := by decide +kernel
theorem dX9_isIn_50 : decode cX9_isIn 50 = .ok (.iload 4, 2) := by decide +kernel
theorem dX9_isIn_52 : decode cX9_isIn 52 = .ok (.iconst (-1), 1) := by decide +kernel
theorem dX9_isIn_53 : decode cX9_isIn 53 = .ok (.if_icmp .eq 7, 3) := by decide +kernel
theorem dX9_isIn_56 : decode cX9_isIn 56 = .ok (.iconst 1, 1) := by decide +kernel
theorem dX9_isIn_57 : decode cX9_isIn 57 = .ok (.goto 4, 3) := by decide +kernel
theorem dX9_isIn_60 : decode cX9_isIn 60 = .ok (.iconst 0, 1) := by decide +kernel
theorem dX9_isIn_61 : decode cX9_isIn 61 = .ok (.ireturn, 1) := by decide +kernel
theorem dX9_isIn_62 : decode cX9_isIn 62 = .ok (.iinc 3 1, 3) := by decide +kernel
theorem dX9_isIn_65 : decode cX9_isIn 65 = .ok (.goto (-46), 3) := by decide +kernel
theorem dX9_isIn_68 : decode cX9_isIn 68 = .ok (.iconst 1, 1) := by decide +kernel
theorem dX9_isIn_69 : decode cX9_isIn 69 = .ok (.ireturn, 1) := by decide +kernel
theorem dX9_write_0 : decode cX9_write 0 = .ok (.aload_n 0, 1) := by decide +kernel
theorem dX9_write_1 : decode cX9_write 1 = .ok (.iload_n 1, 1) := by decide +kernel
theorem dX9_write_2 : decode cX9_write 2 = .ok (.iload_n 2, 1) := by decide +kernel
theorem dX9_write_3 : decode cX9_write 3 = .ok (.invokevirtual 111, 3) := by decide +kernel
theorem dX9_write_6 : decode cX9_write 6 = .ok (.iconst 0, 1) := by decide +kernel
theorem dX9_write_7 : decode cX9_write 7 = .ok (.istore 4, 2) := by decide +kernel
theorem dX9_write_9 : decode cX9_write 9 = .ok (.iload 4, 2) := by decide +kernel
theorem dX9_write_11 : decode cX9_write 11 = .ok (.ldc 86, 2) := by decide +kernel
theorem dX9_write_13 : decode cX9_write 13 = .ok (.if_icmp .ge 69, 3) := by decide +kernel
theorem dX9_write_16 : decode cX9_write 16 = .ok (.aload_n 0, 1) := by decide +kernel
theorem dX9_write_17 : decode cX9_write 17 = .ok (.invokevirtual 114, 3) := by decide +kernel
theorem dX9_write_20 : decode cX9_write 20 = .ok (.istore 5, 2) := by decide +kernel
theorem dX9_write_22 : decode cX9_write 22 = .ok (.iload 5, 2) := by decide +kernel
theorem dX9_write_24 : decode cX9_write 24 = .ok (.iconst (-1), 1) := by decide +kernel
theorem dX9_write_25 : decode cX9_write 25 = .ok (.if_icmp .ne 5, 3) := by decide +kernel
theorem dX9_write_28 : decode cX9_write 28 = .ok (.iconst 1, 1) := by decide +kernel
theorem dX9_write_29 : decode cX9_write 29 = .ok (.ireturn, 1) := by decide +kernel
theorem dX9_write_30 : decode cX9_write 30 = .ok (.aload_n 0, 1) := by decide +kernel
theorem dX9_write_31 : decode cX9_write 31 = .ok (.getfield 52, 3) := by decide +kernel
theorem dX9_write_34 : decode cX9_write 34 = .ok (.iload_n 3, 1) := by decide +kernel
theorem dX9_write_35 : decode cX9_write 35 = .ok (.if_icmp .ge 13, 3) := by decide +kernel
theorem dX9_write_38 : decode cX9_write 38 = .ok (.aload_n 0, 1) := by decide +kernel
theorem dX9_write_39 : decode cX9_write 39 = .ok (.getfield 52, 3) := by decide +kernel
theorem dX9_write_42 : decode cX9_write 42 = .ok (.sipush 1000, 3) := by decide +kernel
theorem dX9_write_45 : decode cX9_write 45 = .ok (.if_icmp .lt 5, 3) := by decide +kernel
theorem dX9_write_48 : decode cX9_write 48 = .ok (.iconst 0, 1) := by decide +kernel
theorem dX9_write_49 : decode cX9_write 49 = .ok (.ireturn, 1) := by decide +kernel
theorem dX9_write_50 : decode cX9_write 50 = .ok (.aload_n 0, 1) := by decide +kernel
theorem dX9_write_51 : decode cX9_write 51 = .ok (.getfield 49, 3) := by decide +kernel
theorem dX9_write_54 : decode cX9_write 54 = .ok (.aload_n 0, 1) := by decide +kernel
theorem dX9_write_55 : decode cX9_write 55 = .ok (.getfield 52, 3) := by decide +kernel
theorem dX9_write_58 : decode cX9_write 58 = .ok (.aload_n 0, 1) := by decide +kernel
theorem dX9_write_59 : decode cX9_write 59 = .ok (.getfield 9, 3) := by decide +kernel
theorem dX9_write_62 : decode cX9_write 62 = .ok (.iload 5, 2) := by decide +kernel
theorem dX9_write_64 : decode cX9_write 64 = .ok (.iaload, 1) := by decide +kernel
theorem dX9_write_65 : decode cX9_write 65 = .ok (.iastore, 1) := by decide +kernel
theorem dX9_write_66 : decode cX9_write 66 = .ok (.aload_n 0, 1) := by decide +kernel
theorem dX9_write_67 : decode cX9_write 67 = .ok (.dup, 1) := by decide +kernel
theorem dX9_write_68 : decode cX9_write 68 = .ok (.getfield 52, 3) := by decide +kernel
theorem dX9_write_71 : decode cX9_write 71 = .ok (.iconst 1, 1) := by decide +kernel
theorem dX9_write_72 : decode cX9_write 72 = .ok (.iadd, 1) := by decide +kernel
theorem dX9_write_73 : decode cX9_write 73 = .ok (.putfield 52, 3) := by decide +kernel
theorem dX9_write_76 : decode cX9_write 76 = .ok (.iinc 4 1, 3) := by decide +kernel
theorem dX9_write_79 : decode cX9_write 79 = .ok (.goto (-70), 3) := by decide +kernel
theorem dX9_write_82 : decode cX9_write 82 = .ok (.iconst 0, 1) := by decide +kernel
theorem dX9_write_83 : decode cX9_write 83 = .ok (.ireturn, 1) := by decide +kernel
theorem dX9_beginWay_0 : decode cX9_beginWay 0 = .ok (.aload_n 0, 1) := by decide +kernel
