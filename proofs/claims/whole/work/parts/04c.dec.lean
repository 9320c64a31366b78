theorem dX7_end_14 : decode cX7_end 14 = .ok (.ireturn, 1) := by decide +kernel
theorem dX7_end_15 : decode cX7_end 15 = .ok (.aload_n 0, 1) := by decide +kernel
theorem dX7_end_16 : decode cX7_end 16 = .ok (.getfield 50, 3) := by decide +kernel
theorem dX7_end_19 : decode cX7_end 19 = .ok (.iload_n 1, 1) := by decide +kernel
theorem dX7_end_20 : decode cX7_end 20 = .ok (.baload, 1) := by decide +kernel
theorem dX7_end_21 : decode cX7_end 21 = .ok (.ifCond .ne 6, 3) := by decide +kernel
theorem dX7_end_24 : decode cX7_end 24 = .ok (.bipush (-3), 2) := by decide +kernel
theorem dX7_end_26 : decode cX7_end 26 = .ok (.ireturn, 1) := by decide +kernel
theorem dX7_end_27 : decode cX7_end 27 = .ok (.aload_n 0, 1) := by decide +kernel
theorem dX7_end_28 : decode cX7_end 28 = .ok (.getfield 50, 3) := by decide +kernel
theorem dX7_end_31 : decode cX7_end 31 = .ok (.iload_n 1, 1) := by decide +kernel
theorem dX7_end_32 : decode cX7_end 32 = .ok (.iconst 0, 1) := by decide +kernel
theorem dX7_end_33 : decode cX7_end 33 = .ok (.bastore, 1) := by decide +kernel
theorem dX7_end_34 : decode cX7_end 34 = .ok (.aload_n 0, 1) := by decide +kernel
theorem dX7_end_35 : decode cX7_end 35 = .ok (.getfield 56, 3) := by decide +kernel
theorem dX7_end_38 : decode cX7_end 38 = .ok (.bipush 20, 2) := by decide +kernel
theorem dX7_end_40 : decode cX7_end 40 = .ok (.iload_n 1, 1) := by decide +kernel
theorem dX7_end_41 : decode cX7_end 41 = .ok (.imul, 1) := by decide +kernel
theorem dX7_end_42 : decode cX7_end 42 = .ok (.aload_n 0, 1) := by decide +kernel
theorem dX7_end_43 : decode cX7_end 43 = .ok (.getfield 47, 3) := by decide +kernel
theorem dX7_end_46 : decode cX7_end 46 = .ok (.iload_n 1, 1) := by decide +kernel
theorem dX7_end_47 : decode cX7_end 47 = .ok (.iaload, 1) := by decide +kernel
theorem dX7_end_48 : decode cX7_end 48 = .ok (.iadd, 1) := by decide +kernel
theorem dX7_end_49 : decode cX7_end 49 = .ok (.iconst 1, 1) := by decide +kernel
theorem dX7_end_50 : decode cX7_end 50 = .ok (.isub, 1) := by decide +kernel
theorem dX7_end_51 : decode cX7_end 51 = .ok (.iaload, 1) := by decide +kernel
theorem dX7_end_52 : decode cX7_end 52 = .ok (.ireturn, 1) := by decide +kernel
theorem dX7_between_0 : decode cX7_between 0 = .ok (.aload_n 0, 1) := by decide +kernel
theorem dX7_between_1 : decode cX7_between 1 = .ok (.iconst 0, 1) := by decide +kernel
theorem dX7_between_2 : decode cX7_between 2 = .ok (.putfield 114, 3) := by decide +kernel
theorem dX7_between_5 : decode cX7_between 5 = .ok (.aload_n 0, 1) := by decide +kernel
theorem dX7_between_6 : decode cX7_between 6 = .ok (.iload_n 1, 1) := by decide +kernel
theorem dX7_between_7 : decode cX7_between 7 = .ok (.invokevirtual 121, 3) := by decide +kernel
theorem dX7_between_10 : decode cX7_between 10 = .ok (.ifCond .ne 5, 3) := by decide +kernel
theorem dX7_between_13 : decode cX7_between 13 = .ok (.iconst (-1), 1) := by decide +kernel
theorem dX7_between_14 : decode cX7_between 14 = .ok (.ireturn, 1) := by decide +kernel
theorem dX7_between_15 : decode cX7_between 15 = .ok (.aload_n 0, 1) := by decide +kernel
theorem dX7_between_16 : decode cX7_between 16 = .ok (.getfield 16, 3) := by decide +kernel
theorem dX7_between_19 : decode cX7_between 19 = .ok (.iload_n 1, 1) := by decide +kernel
theorem dX7_between_20 : decode cX7_between 20 = .ok (.baload, 1) := by decide +kernel
theorem dX7_between_21 : decode cX7_between 21 = .ok (.ifCond .eq 12, 3) := by decide +kernel
theorem dX7_between_24 : decode cX7_between 24 = .ok (.aload_n 0, 1) := by decide +kernel
theorem dX7_between_25 : decode cX7_between 25 = .ok (.getfield 50, 3) := by decide +kernel
theorem dX7_between_28 : decode cX7_between 28 = .ok (.iload_n 1, 1) := by decide +kernel
theorem dX7_between_29 : decode cX7_between 29 = .ok (.baload, 1) := by decide +kernel
theorem dX7_between_30 : decode cX7_between 30 = .ok (.ifCond .eq 6, 3) := by decide +kernel
theorem dX7_between_33 : decode cX7_between 33 = .ok (.bipush (-3), 2) := by decide +kernel
theorem dX7_between_35 : decode cX7_between 35 = .ok (.ireturn, 1) := by decide +kernel
theorem dX7_between_36 : decode cX7_between 36 = .ok (.aload_n 0, 1) := by decide +kernel
theorem dX7_between_37 : decode cX7_between 37 = .ok (.getfield 77, 3) := by decide +kernel
theorem dX7_between_40 : decode cX7_between 40 = .ok (.iload_n 1, 1) := by decide +kernel
theorem dX7_between_41 : decode cX7_between 41 = .ok (.iaload, 1) := by decide +kernel
theorem dX7_between_42 : decode cX7_between 42 = .ok (.bipush 20, 2) := by decide +kernel
theorem dX7_between_44 : decode cX7_between 44 = .ok (.if_icmp .ne 6, 3) := by decide +kernel
theorem dX7_between_47 : decode cX7_between 47 = .ok (.bipush (-4), 2) := by decide +kernel
theorem dX7_between_49 : decode cX7_between 49 = .ok (.ireturn, 1) := by decide +kernel
theorem dX7_between_50 : decode cX7_between 50 = .ok (.aload_n 0, 1) := by decide +kernel
theorem dX7_between_51 : decode cX7_between 51 = .ok (.iload_n 1, 1) := by decide +kernel
theorem dX7_between_52 : decode cX7_between 52 = .ok (.iconst (-1), 1) := by decide +kernel
theorem dX7_between_53 : decode cX7_between 53 = .ok (.aload_n 0, 1) := by decide +kernel
theorem dX7_between_54 : decode cX7_between 54 = .ok (.getfield 77, 3) := by decide +kernel
theorem dX7_between_57 : decode cX7_between 57 = .ok (.iload_n 1, 1) := by decide +kernel
theorem dX7_between_58 : decode cX7_between 58 = .ok (.iaload, 1) := by decide +kernel
theorem dX7_between_59 : decode cX7_between 59 = .ok (.isub, 1) := by decide +kernel
theorem dX7_between_60 : decode cX7_between 60 = .ok (.invokevirtual 163, 3) := by decide +kernel
theorem dX7_between_63 : decode cX7_between 63 = .ok (.aload_n 0, 1) := by decide +kernel
theorem dX7_between_64 : decode cX7_between 64 = .ok (.getfield 77, 3) := by decide +kernel
theorem dX7_between_67 : decode cX7_between 67 = .ok (.iload_n 1, 1) := by decide +kernel
theorem dX7_between_68 : decode cX7_between 68 = .ok (.dup2, 1) := by decide +kernel
theorem dX7_between_69 : decode cX7_between 69 = .ok (.iaload, 1) := by decide +kernel
theorem dX7_between_70 : decode cX7_between 70 = .ok (.iconst 1, 1) := by decide +kernel
theorem dX7_between_71 : decode cX7_between 71 = .ok (.iadd, 1) := by decide +kernel
theorem dX7_between_72 : decode cX7_between 72 = .ok (.iastore, 1) := by decide +kernel
theorem dX7_between_73 : decode cX7_between 73 = .ok (.aload_n 0, 1) := by decide +kernel
theorem dX7_between_74 : decode cX7_between 74 = .ok (.getfield 77, 3) := by decide +kernel
theorem dX7_between_77 : decode cX7_between 77 = .ok (.iload_n 1, 1) := by decide +kernel
theorem dX7_between_78 : decode cX7_between 78 = .ok (.iaload, 1) := by decide +kernel
theorem dX7_between_79 : decode cX7_between 79 = .ok (.ireturn, 1) := by decide +kernel
theorem dX7_glueBehind_0 : decode cX7_glueBehind 0 = .ok (.bipush 13, 2) := by decide +kernel
theorem dX7_glueBehind_2 : decode cX7_glueBehind 2 = .ok (.iload_n 1, 1) := by decide +kernel
theorem dX7_glueBehind_3 : decode cX7_glueBehind 3 = .ok (.imul, 1) := by decide +kernel
theorem dX7_glueBehind_4 : decode cX7_glueBehind 4 = .ok (.iconst 1, 1) := by decide +kernel
theorem dX7_glueBehind_5 : decode cX7_glueBehind 5 = .ok (.iadd, 1) := by decide +kernel
theorem dX7_glueBehind_6 : decode cX7_glueBehind 6 = .ok (.aload_n 0, 1) := by decide +kernel
theorem dX7_glueBehind_7 : decode cX7_glueBehind 7 = .ok (.iload_n 1, 1) := by decide +kernel
theorem dX7_glueBehind_8 : decode cX7_glueBehind 8 = .ok (.iload_n 2, 1) := by decide +kernel
theorem dX7_glueBehind_9 : decode cX7_glueBehind 9 = .ok (.invokevirtual 177, 3) := by decide +kernel
theorem dX7_glueBehind_12 : decode cX7_glueBehind 12 = .ok (.iadd, 1) := by decide +kernel
theorem dX7_glueBehind_13 : decode cX7_glueBehind 13 = .ok (.ireturn, 1) := by decide +kernel
theorem dX7_findWidths_0 : decode cX7_findWidths 0 = .ok (.iconst 0, 1) := by decide +kernel
theorem dX7_findWidths_1 : decode cX7_findWidths 1 = .ok (.istore_n 2, 1) := by decide +kernel
theorem dX7_findWidths_2 : decode cX7_findWidths 2 = .ok (.iload_n 2, 1) := by decide +kernel
theorem dX7_findWidths_3 : decode cX7_findWidths 3 = .ok (.aload_n 0, 1) := by decide +kernel
theorem dX7_findWidths_4 : decode cX7_findWidths 4 = .ok (.getfield 59, 3) := by decide +kernel
theorem dX7_findWidths_7 : decode cX7_findWidths 7 = .ok (.iload_n 1, 1) := by decide +kernel
theorem dX7_findWidths_8 : decode cX7_findWidths 8 = .ok (.iaload, 1) := by decide +kernel
theorem dX7_findWidths_9 : decode cX7_findWidths 9 = .ok (.if_icmp .ge 45, 3) := by decide +kernel
theorem dX7_findWidths_12 : decode cX7_findWidths 12 = .ok (.aload_n 0, 1) := by decide +kernel
theorem dX7_findWidths_13 : decode cX7_findWidths 13 = .ok (.getfield 108, 3) := by decide +kernel
theorem dX7_findWidths_16 : decode cX7_findWidths 16 = .ok (.iload_n 2, 1) := by decide +kernel
theorem dX7_findWidths_17 : decode cX7_findWidths 17 = .ok (.aload_n 0, 1) := by decide +kernel
theorem dX7_findWidths_18 : decode cX7_findWidths 18 = .ok (.getfield 62, 3) := by decide +kernel
theorem dX7_findWidths_21 : decode cX7_findWidths 21 = .ok (.sipush 480, 3) := by decide +kernel
theorem dX7_findWidths_24 : decode cX7_findWidths 24 = .ok (.iload_n 1, 1) := by decide +kernel
theorem dX7_findWidths_25 : decode cX7_findWidths 25 = .ok (.imul, 1) := by decide +kernel
theorem dX7_findWidths_26 : decode cX7_findWidths 26 = .ok (.iload_n 2, 1) := by decide +kernel
theorem dX7_findWidths_27 : decode cX7_findWidths 27 = .ok (.iadd, 1) := by decide +kernel
theorem dX7_findWidths_28 : decode cX7_findWidths 28 = .ok (.iaload, 1) := by decide +kernel
theorem dX7_findWidths_29 : decode cX7_findWidths 29 = .ok (.iastore, 1) := by decide +kernel
theorem dX7_findWidths_30 : decode cX7_findWidths 30 = .ok (.aload_n 0, 1) := by decide +kernel
theorem dX7_findWidths_31 : decode cX7_findWidths 31 = .ok (.getfield 111, 3) := by decide +kernel
theorem dX7_findWidths_34 : decode cX7_findWidths 34 = .ok (.iload_n 2, 1) := by decide +kernel
theorem dX7_findWidths_35 : decode cX7_findWidths 35 = .ok (.aload_n 0, 1) := by decide +kernel
theorem dX7_findWidths_36 : decode cX7_findWidths 36 = .ok (.getfield 65, 3) := by decide +kernel
theorem dX7_findWidths_39 : decode cX7_findWidths 39 = .ok (.sipush 480, 3) := by decide +kernel
theorem dX7_findWidths_42 : decode cX7_findWidths 42 = .ok (.iload_n 1, 1) := by decide +kernel
theorem dX7_findWidths_43 : decode cX7_findWidths 43 = .ok (.imul, 1) := by decide +kernel
theorem dX7_findWidths_44 : decode cX7_findWidths 44 = .ok (.iload_n 2, 1) := by decide +kernel
theorem dX7_findWidths_45 : decode cX7_findWidths 45 = .ok (.iadd, 1) := by decide +kernel
theorem dX7_findWidths_46 : decode cX7_findWidths 46 = .ok (.iaload, 1) := by decide +kernel
theorem dX7_findWidths_47 : decode cX7_findWidths 47 = .ok (.iastore, 1) := by decide +kernel
theorem dX7_findWidths_48 : decode cX7_findWidths 48 = .ok (.iinc 2 1, 3) := by decide +kernel
theorem dX7_findWidths_51 : decode cX7_findWidths 51 = .ok (.goto (-49), 3) := by decide +kernel
theorem dX7_findWidths_54 : decode cX7_findWidths 54 = .ok (.iconst 0, 1) := by decide +kernel
theorem dX7_findWidths_55 : decode cX7_findWidths 55 = .ok (.istore_n 2, 1) := by decide +kernel
theorem dX7_findWidths_56 : decode cX7_findWidths 56 = .ok (.iload_n 2, 1) := by decide +kernel
theorem dX7_findWidths_57 : decode cX7_findWidths 57 = .ok (.aload_n 0, 1) := by decide +kernel
theorem dX7_findWidths_58 : decode cX7_findWidths 58 = .ok (.getfield 83, 3) := by decide +kernel
theorem dX7_findWidths_61 : decode cX7_findWidths 61 = .ok (.iload_n 1, 1) := by decide +kernel
theorem dX7_findWidths_62 : decode cX7_findWidths 62 = .ok (.iaload, 1) := by decide +kernel
theorem dX7_findWidths_63 : decode cX7_findWidths 63 = .ok (.if_icmp .ge 276, 3) := by decide +kernel
theorem dX7_findWidths_66 : decode cX7_findWidths 66 = .ok (.iconst (-1), 1) := by decide +kernel
theorem dX7_findWidths_67 : decode cX7_findWidths 67 = .ok (.istore_n 3, 1) := by decide +kernel
theorem dX7_findWidths_68 : decode cX7_findWidths 68 = .ok (.iconst 0, 1) := by decide +kernel
theorem dX7_findWidths_69 : decode cX7_findWidths 69 = .ok (.istore 4, 2) := by decide +kernel
theorem dX7_findWidths_71 : decode cX7_findWidths 71 = .ok (.iload 4, 2) := by decide +kernel
theorem dX7_findWidths_73 : decode cX7_findWidths 73 = .ok (.aload_n 0, 1) := by decide +kernel
theorem dX7_findWidths_74 : decode cX7_findWidths 74 = .ok (.getfield 59, 3) := by decide +kernel
theorem dX7_findWidths_77 : decode cX7_findWidths 77 = .ok (.iload_n 1, 1) := by decide +kernel
theorem dX7_findWidths_78 : decode cX7_findWidths 78 = .ok (.iaload, 1) := by decide +kernel
theorem dX7_findWidths_79 : decode cX7_findWidths 79 = .ok (.if_icmp .ge 80, 3) := by decide +kernel
theorem dX7_findWidths_82 : decode cX7_findWidths 82 = .ok (.aload_n 0, 1) := by decide +kernel
theorem dX7_findWidths_83 : decode cX7_findWidths 83 = .ok (.getfield 65, 3) := by decide +kernel
theorem dX7_findWidths_86 : decode cX7_findWidths 86 = .ok (.sipush 480, 3) := by decide +kernel
theorem dX7_findWidths_89 : decode cX7_findWidths 89 = .ok (.iload_n 1, 1) := by decide +kernel
theorem dX7_findWidths_90 : decode cX7_findWidths 90 = .ok (.imul, 1) := by decide +kernel
theorem dX7_findWidths_91 : decode cX7_findWidths 91 = .ok (.iload 4, 2) := by decide +kernel
theorem dX7_findWidths_93 : decode cX7_findWidths 93 = .ok (.iadd, 1) := by decide +kernel
theorem dX7_findWidths_94 : decode cX7_findWidths 94 = .ok (.iaload, 1) := by decide +kernel
theorem dX7_findWidths_95 : decode cX7_findWidths 95 = .ok (.aload_n 0, 1) := by decide +kernel
theorem dX7_findWidths_96 : decode cX7_findWidths 96 = .ok (.getfield 68, 3) := by decide +kernel
theorem dX7_findWidths_99 : decode cX7_findWidths 99 = .ok (.sipush 480, 3) := by decide +kernel
theorem dX7_findWidths_102 : decode cX7_findWidths 102 = .ok (.iload_n 1, 1) := by decide +kernel
theorem dX7_findWidths_103 : decode cX7_findWidths 103 = .ok (.imul, 1) := by decide +kernel
theorem dX7_findWidths_104 : decode cX7_findWidths 104 = .ok (.iload 4, 2) := by decide +kernel
theorem dX7_findWidths_106 : decode cX7_findWidths 106 = .ok (.iadd, 1) := by decide +kernel
theorem dX7_findWidths_107 : decode cX7_findWidths 107 = .ok (.iaload, 1) := by decide +kernel
theorem dX7_findWidths_108 : decode cX7_findWidths 108 = .ok (.iadd, 1) := by decide +kernel
theorem dX7_findWidths_109 : decode cX7_findWidths 109 = .ok (.iconst 1, 1) := by decide +kernel
theorem dX7_findWidths_110 : decode cX7_findWidths 110 = .ok (.isub, 1) := by decide +kernel
theorem dX7_findWidths_111 : decode cX7_findWidths 111 = .ok (.istore 5, 2) := by decide +kernel
theorem dX7_findWidths_113 : decode cX7_findWidths 113 = .ok (.aload_n 0, 1) := by decide +kernel
theorem dX7_findWidths_114 : decode cX7_findWidths 114 = .ok (.getfield 111, 3) := by decide +kernel
theorem dX7_findWidths_117 : decode cX7_findWidths 117 = .ok (.iload 4, 2) := by decide +kernel
theorem dX7_findWidths_119 : decode cX7_findWidths 119 = .ok (.iaload, 1) := by decide +kernel
theorem dX7_findWidths_120 : decode cX7_findWidths 120 = .ok (.iload_n 2, 1) := by decide +kernel
theorem dX7_findWidths_121 : decode cX7_findWidths 121 = .ok (.if_icmp .ne 30, 3) := by decide +kernel
theorem dX7_findWidths_124 : decode cX7_findWidths 124 = .ok (.iload 5, 2) := by decide +kernel
theorem dX7_findWidths_126 : decode cX7_findWidths 126 = .ok (.iload_n 2, 1) := by decide +kernel
theorem dX7_findWidths_127 : decode cX7_findWidths 127 = .ok (.if_icmp .ne 24, 3) := by decide +kernel
theorem dX7_findWidths_130 : decode cX7_findWidths 130 = .ok (.aload_n 0, 1) := by decide +kernel
theorem dX7_findWidths_131 : decode cX7_findWidths 131 = .ok (.getfield 108, 3) := by decide +kernel
theorem dX7_findWidths_134 : decode cX7_findWidths 134 = .ok (.iload 4, 2) := by decide +kernel
theorem dX7_findWidths_136 : decode cX7_findWidths 136 = .ok (.iaload, 1) := by decide +kernel
theorem dX7_findWidths_137 : decode cX7_findWidths 137 = .ok (.iload_n 3, 1) := by decide +kernel
theorem dX7_findWidths_138 : decode cX7_findWidths 138 = .ok (.if_icmp .le 13, 3) := by decide +kernel
theorem dX7_findWidths_141 : decode cX7_findWidths 141 = .ok (.aload_n 0, 1) := by decide +kernel
theorem dX7_findWidths_142 : decode cX7_findWidths 142 = .ok (.getfield 108, 3) := by decide +kernel
theorem dX7_findWidths_145 : decode cX7_findWidths 145 = .ok (.iload 4, 2) := by decide +kernel
theorem dX7_findWidths_147 : decode cX7_findWidths 147 = .ok (.iaload, 1) := by decide +kernel
theorem dX7_findWidths_148 : decode cX7_findWidths 148 = .ok (.goto 4, 3) := by decide +kernel
theorem dX7_findWidths_151 : decode cX7_findWidths 151 = .ok (.iload_n 3, 1) := by decide +kernel
theorem dX7_findWidths_152 : decode cX7_findWidths 152 = .ok (.istore_n 3, 1) := by decide +kernel
theorem dX7_findWidths_153 : decode cX7_findWidths 153 = .ok (.iinc 4 1, 3) := by decide +kernel
theorem dX7_findWidths_156 : decode cX7_findWidths 156 = .ok (.goto (-85), 3) := by decide +kernel
theorem dX7_findWidths_159 : decode cX7_findWidths 159 = .ok (.aload_n 0, 1) := by decide +kernel
theorem dX7_findWidths_160 : decode cX7_findWidths 160 = .ok (.getfield 89, 3) := by decide +kernel
theorem dX7_findWidths_163 : decode cX7_findWidths 163 = .ok (.bipush 24, 2) := by decide +kernel
theorem dX7_findWidths_165 : decode cX7_findWidths 165 = .ok (.iload_n 1, 1) := by decide +kernel
theorem dX7_findWidths_166 : decode cX7_findWidths 166 = .ok (.imul, 1) := by decide +kernel
theorem dX7_findWidths_167 : decode cX7_findWidths 167 = .ok (.iload_n 2, 1) := by decide +kernel
theorem dX7_findWidths_168 : decode cX7_findWidths 168 = .ok (.iadd, 1) := by decide +kernel
theorem dX7_findWidths_169 : decode cX7_findWidths 169 = .ok (.iload_n 3, 1) := by decide +kernel
theorem dX7_findWidths_170 : decode cX7_findWidths 170 = .ok (.ifCond .ge 7, 3) := by decide +kernel
theorem dX7_findWidths_173 : decode cX7_findWidths 173 = .ok (.iconst 1, 1) := by decide +kernel
theorem dX7_findWidths_174 : decode cX7_findWidths 174 = .ok (.goto 4, 3) := by decide +kernel
theorem dX7_findWidths_177 : decode cX7_findWidths 177 = .ok (.iconst 0, 1) := by decide +kernel
theorem dX7_findWidths_178 : decode cX7_findWidths 178 = .ok (.bastore, 1) := by decide +kernel
theorem dX7_findWidths_179 : decode cX7_findWidths 179 = .ok (.aload_n 0, 1) := by decide +kernel
theorem dX7_findWidths_180 : decode cX7_findWidths 180 = .ok (.getfield 86, 3) := by decide +kernel
theorem dX7_findWidths_183 : decode cX7_findWidths 183 = .ok (.bipush 24, 2) := by decide +kernel
theorem dX7_findWidths_185 : decode cX7_findWidths 185 = .ok (.iload_n 1, 1) := by decide +kernel
theorem dX7_findWidths_186 : decode cX7_findWidths 186 = .ok (.imul, 1) := by decide +kernel
theorem dX7_findWidths_187 : decode cX7_findWidths 187 = .ok (.iload_n 2, 1) := by decide +kernel
theorem dX7_findWidths_188 : decode cX7_findWidths 188 = .ok (.iadd, 1) := by decide +kernel
theorem dX7_findWidths_189 : decode cX7_findWidths 189 = .ok (.iload_n 3, 1) := by decide +kernel
theorem dX7_findWidths_190 : decode cX7_findWidths 190 = .ok (.ifCond .ge 7, 3) := by decide +kernel
theorem dX7_findWidths_193 : decode cX7_findWidths 193 = .ok (.iconst 0, 1) := by decide +kernel
theorem dX7_findWidths_194 : decode cX7_findWidths 194 = .ok (.goto 4, 3) := by decide +kernel
theorem dX7_findWidths_197 : decode cX7_findWidths 197 = .ok (.iload_n 3, 1) := by decide +kernel
theorem dX7_findWidths_198 : decode cX7_findWidths 198 = .ok (.iastore, 1) := by decide +kernel
theorem dX7_findWidths_199 : decode cX7_findWidths 199 = .ok (.iload_n 3, 1) := by decide +kernel
theorem dX7_findWidths_200 : decode cX7_findWidths 200 = .ok (.ifCond .ge 7, 3) := by decide +kernel
theorem dX7_findWidths_203 : decode cX7_findWidths 203 = .ok (.iconst 0, 1) := by decide +kernel
theorem dX7_findWidths_204 : decode cX7_findWidths 204 = .ok (.goto 16, 3) := by decide +kernel
theorem dX7_findWidths_207 : decode cX7_findWidths 207 = .ok (.iload_n 3, 1) := by decide +kernel
theorem dX7_findWidths_208 : decode cX7_findWidths 208 = .ok (.aload_n 0, 1) := by decide +kernel
theorem dX7_findWidths_209 : decode cX7_findWidths 209 = .ok (.getfield 32, 3) := by decide +kernel
theorem dX7_findWidths_212 : decode cX7_findWidths 212 = .ok (.aload_n 0, 1) := by decide +kernel
theorem dX7_findWidths_213 : decode cX7_findWidths 213 = .ok (.iload_n 1, 1) := by decide +kernel
theorem dX7_findWidths_214 : decode cX7_findWidths 214 = .ok (.iload_n 2, 1) := by decide +kernel
theorem dX7_findWidths_215 : decode cX7_findWidths 215 = .ok (.invokevirtual 184, 3) := by decide +kernel
theorem dX7_findWidths_218 : decode cX7_findWidths 218 = .ok (.iaload, 1) := by decide +kernel
theorem dX7_findWidths_219 : decode cX7_findWidths 219 = .ok (.iadd, 1) := by decide +kernel
theorem dX7_findWidths_220 : decode cX7_findWidths 220 = .ok (.istore 4, 2) := by decide +kernel
theorem dX7_findWidths_222 : decode cX7_findWidths 222 = .ok (.iconst 0, 1) := by decide +kernel
theorem dX7_findWidths_223 : decode cX7_findWidths 223 = .ok (.istore 5, 2) := by decide +kernel
theorem dX7_findWidths_225 : decode cX7_findWidths 225 = .ok (.iload 5, 2) := by decide +kernel
theorem dX7_findWidths_227 : decode cX7_findWidths 227 = .ok (.aload_n 0, 1) := by decide +kernel
theorem dX7_findWidths_228 : decode cX7_findWidths 228 = .ok (.getfield 59, 3) := by decide +kernel
theorem dX7_findWidths_231 : decode cX7_findWidths 231 = .ok (.iload_n 1, 1) := by decide +kernel
theorem dX7_findWidths_232 : decode cX7_findWidths 232 = .ok (.iaload, 1) := by decide +kernel
theorem dX7_findWidths_233 : decode cX7_findWidths 233 = .ok (.if_icmp .ge 100, 3) := by decide +kernel
theorem dX7_findWidths_236 : decode cX7_findWidths 236 = .ok (.aload_n 0, 1) := by decide +kernel
theorem dX7_findWidths_237 : decode cX7_findWidths 237 = .ok (.getfield 65, 3) := by decide +kernel
theorem dX7_findWidths_240 : decode cX7_findWidths 240 = .ok (.sipush 480, 3) := by decide +kernel
theorem dX7_findWidths_243 : decode cX7_findWidths 243 = .ok (.iload_n 1, 1) := by decide +kernel
theorem dX7_findWidths_244 : decode cX7_findWidths 244 = .ok (.imul, 1) := by decide +kernel
theorem dX7_findWidths_245 : decode cX7_findWidths 245 = .ok (.iload 5, 2) := by decide +kernel
theorem dX7_findWidths_247 : decode cX7_findWidths 247 = .ok (.iadd, 1) := by decide +kernel
theorem dX7_findWidths_248 : decode cX7_findWidths 248 = .ok (.iaload, 1) := by decide +kernel
theorem dX7_findWidths_249 : decode cX7_findWidths 249 = .ok (.aload_n 0, 1) := by decide +kernel
theorem dX7_findWidths_250 : decode cX7_findWidths 250 = .ok (.getfield 68, 3) := by decide +kernel
theorem dX7_findWidths_253 : decode cX7_findWidths 253 = .ok (.sipush 480, 3) := by decide +kernel
theorem dX7_findWidths_256 : decode cX7_findWidths 256 = .ok (.iload_n 1, 1) := by decide +kernel
theorem dX7_findWidths_257 : decode cX7_findWidths 257 = .ok (.imul, 1) := by decide +kernel
theorem dX7_findWidths_258 : decode cX7_findWidths 258 = .ok (.iload 5, 2) := by decide +kernel
theorem dX7_findWidths_260 : decode cX7_findWidths 260 = .ok (.iadd, 1) := by decide +kernel
theorem dX7_findWidths_261 : decode cX7_findWidths 261 = .ok (.iaload, 1) := by decide +kernel
theorem dX7_findWidths_262 : decode cX7_findWidths 262 = .ok (.iadd, 1) := by decide +kernel
theorem dX7_findWidths_263 : decode cX7_findWidths 263 = .ok (.iconst 1, 1) := by decide +kernel
theorem dX7_findWidths_264 : decode cX7_findWidths 264 = .ok (.isub, 1) := by decide +kernel
theorem dX7_findWidths_265 : decode cX7_findWidths 265 = .ok (.istore 6, 2) := by decide +kernel
theorem dX7_findWidths_267 : decode cX7_findWidths 267 = .ok (.aload_n 0, 1) := by decide +kernel
theorem dX7_findWidths_268 : decode cX7_findWidths 268 = .ok (.getfield 111, 3) := by decide +kernel
theorem dX7_findWidths_271 : decode cX7_findWidths 271 = .ok (.iload 5, 2) := by decide +kernel
theorem dX7_findWidths_273 : decode cX7_findWidths 273 = .ok (.iaload, 1) := by decide +kernel
theorem dX7_findWidths_274 : decode cX7_findWidths 274 = .ok (.iload_n 2, 1) := by decide +kernel
theorem dX7_findWidths_275 : decode cX7_findWidths 275 = .ok (.if_icmp .ne 52, 3) := by decide +kernel
theorem dX7_findWidths_278 : decode cX7_findWidths 278 = .ok (.iload 6, 2) := by decide +kernel
theorem dX7_findWidths_280 : decode cX7_findWidths 280 = .ok (.iload_n 2, 1) := by decide +kernel
theorem dX7_findWidths_281 : decode cX7_findWidths 281 = .ok (.if_icmp .le 46, 3) := by decide +kernel
theorem dX7_findWidths_284 : decode cX7_findWidths 284 = .ok (.aload_n 0, 1) := by decide +kernel
theorem dX7_findWidths_285 : decode cX7_findWidths 285 = .ok (.getfield 108, 3) := by decide +kernel
theorem dX7_findWidths_288 : decode cX7_findWidths 288 = .ok (.iload 5, 2) := by decide +kernel
theorem dX7_findWidths_290 : decode cX7_findWidths 290 = .ok (.aload_n 0, 1) := by decide +kernel
theorem dX7_findWidths_291 : decode cX7_findWidths 291 = .ok (.getfield 108, 3) := by decide +kernel
theorem dX7_findWidths_294 : decode cX7_findWidths 294 = .ok (.iload 5, 2) := by decide +kernel
theorem dX7_findWidths_296 : decode cX7_findWidths 296 = .ok (.iaload, 1) := by decide +kernel
theorem dX7_findWidths_297 : decode cX7_findWidths 297 = .ok (.iload 4, 2) := by decide +kernel
theorem dX7_findWidths_299 : decode cX7_findWidths 299 = .ok (.if_icmp .le 16, 3) := by decide +kernel
theorem dX7_findWidths_302 : decode cX7_findWidths 302 = .ok (.aload_n 0, 1) := by decide +kernel
theorem dX7_findWidths_303 : decode cX7_findWidths 303 = .ok (.getfield 108, 3) := by decide +kernel
theorem dX7_findWidths_306 : decode cX7_findWidths 306 = .ok (.iload 5, 2) := by decide +kernel
theorem dX7_findWidths_308 : decode cX7_findWidths 308 = .ok (.iaload, 1) := by decide +kernel
theorem dX7_findWidths_309 : decode cX7_findWidths 309 = .ok (.iload 4, 2) := by decide +kernel
theorem dX7_findWidths_311 : decode cX7_findWidths 311 = .ok (.isub, 1) := by decide +kernel
theorem dX7_findWidths_312 : decode cX7_findWidths 312 = .ok (.goto 4, 3) := by decide +kernel
theorem dX7_findWidths_315 : decode cX7_findWidths 315 = .ok (.iconst 0, 1) := by decide +kernel
theorem dX7_findWidths_316 : decode cX7_findWidths 316 = .ok (.iastore, 1) := by decide +kernel
theorem dX7_findWidths_317 : decode cX7_findWidths 317 = .ok (.aload_n 0, 1) := by decide +kernel
theorem dX7_findWidths_318 : decode cX7_findWidths 318 = .ok (.getfield 111, 3) := by decide +kernel
theorem dX7_findWidths_321 : decode cX7_findWidths 321 = .ok (.iload 5, 2) := by decide +kernel
theorem dX7_findWidths_323 : decode cX7_findWidths 323 = .ok (.iload_n 2, 1) := by decide +kernel
theorem dX7_findWidths_324 : decode cX7_findWidths 324 = .ok (.iconst 1, 1) := by decide +kernel
theorem dX7_findWidths_325 : decode cX7_findWidths 325 = .ok (.iadd, 1) := by decide +kernel
theorem dX7_findWidths_326 : decode cX7_findWidths 326 = .ok (.iastore, 1) := by decide +kernel
theorem dX7_findWidths_327 : decode cX7_findWidths 327 = .ok (.iinc 5 1, 3) := by decide +kernel
theorem dX7_findWidths_330 : decode cX7_findWidths 330 = .ok (.goto (-105), 3) := by decide +kernel
theorem dX7_findWidths_333 : decode cX7_findWidths 333 = .ok (.iinc 2 1, 3) := by decide +kernel
theorem dX7_findWidths_336 : decode cX7_findWidths 336 = .ok (.goto (-280), 3) := by decide +kernel
theorem dX7_findWidths_339 : decode cX7_findWidths 339 = .ok (.return_, 1) := by decide +kernel
theorem dX7_gives_0 : decode cX7_gives 0 = .ok (.iload_n 2, 1) := by decide +kernel
theorem dX7_gives_1 : decode cX7_gives 1 = .ok (.ifCond .le 21, 3) := by decide +kernel
theorem dX7_gives_4 : decode cX7_gives 4 = .ok (.aload_n 0, 1) := by decide +kernel
theorem dX7_gives_5 : decode cX7_gives 5 = .ok (.getfield 89, 3) := by decide +kernel
theorem dX7_gives_8 : decode cX7_gives 8 = .ok (.bipush 24, 2) := by decide +kernel
theorem dX7_gives_10 : decode cX7_gives 10 = .ok (.iload_n 1, 1) := by decide +kernel
theorem dX7_gives_11 : decode cX7_gives 11 = .ok (.imul, 1) := by decide +kernel
theorem dX7_gives_12 : decode cX7_gives 12 = .ok (.iload_n 2, 1) := by decide +kernel
theorem dX7_gives_13 : decode cX7_gives 13 = .ok (.iadd, 1) := by decide +kernel
theorem dX7_gives_14 : decode cX7_gives 14 = .ok (.iconst 1, 1) := by decide +kernel
theorem dX7_gives_15 : decode cX7_gives 15 = .ok (.isub, 1) := by decide +kernel
theorem dX7_gives_16 : decode cX7_gives 16 = .ok (.baload, 1) := by decide +kernel
theorem dX7_gives_17 : decode cX7_gives 17 = .ok (.ifCond .eq 5, 3) := by decide +kernel
theorem dX7_gives_20 : decode cX7_gives 20 = .ok (.lconst 0, 1) := by decide +kernel
theorem dX7_gives_21 : decode cX7_gives 21 = .ok (.lreturn, 1) := by decide +kernel
theorem dX7_gives_22 : decode cX7_gives 22 = .ok (.iload_n 2, 1) := by decide +kernel
theorem dX7_gives_23 : decode cX7_gives 23 = .ok (.ifCond .ne 10, 3) := by decide +kernel
theorem dX7_gives_26 : decode cX7_gives 26 = .ok (.bipush 13, 2) := by decide +kernel
theorem dX7_gives_28 : decode cX7_gives 28 = .ok (.iload_n 1, 1) := by decide +kernel
theorem dX7_gives_29 : decode cX7_gives 29 = .ok (.imul, 1) := by decide +kernel
theorem dX7_gives_30 : decode cX7_gives 30 = .ok (.goto 11, 3) := by decide +kernel
theorem dX7_gives_33 : decode cX7_gives 33 = .ok (.aload_n 0, 1) := by decide +kernel
theorem dX7_gives_34 : decode cX7_gives 34 = .ok (.iload_n 1, 1) := by decide +kernel
theorem dX7_gives_35 : decode cX7_gives 35 = .ok (.iload_n 2, 1) := by decide +kernel
theorem dX7_gives_36 : decode cX7_gives 36 = .ok (.iconst 1, 1) := by decide +kernel
theorem dX7_gives_37 : decode cX7_gives 37 = .ok (.isub, 1) := by decide +kernel
theorem dX7_gives_38 : decode cX7_gives 38 = .ok (.invokevirtual 184, 3) := by decide +kernel
theorem dX7_gives_41 : decode cX7_gives 41 = .ok (.istore 5, 2) := by decide +kernel
theorem dX7_gives_43 : decode cX7_gives 43 = .ok (.iload_n 3, 1) := by decide +kernel
theorem dX7_gives_44 : decode cX7_gives 44 = .ok (.ifCond .eq 30, 3) := by decide +kernel
theorem dX7_gives_47 : decode cX7_gives 47 = .ok (.aload_n 0, 1) := by decide +kernel
theorem dX7_gives_48 : decode cX7_gives 48 = .ok (.getfield 38, 3) := by decide +kernel
theorem dX7_gives_51 : decode cX7_gives 51 = .ok (.iload 5, 2) := by decide +kernel
theorem dX7_gives_53 : decode cX7_gives 53 = .ok (.iaload, 1) := by decide +kernel
theorem dX7_gives_54 : decode cX7_gives 54 = .ok (.iload 4, 2) := by decide +kernel
theorem dX7_gives_56 : decode cX7_gives 56 = .ok (.if_icmp .ne 14, 3) := by decide +kernel
theorem dX7_gives_59 : decode cX7_gives 59 = .ok (.aload_n 0, 1) := by decide +kernel
theorem dX7_gives_60 : decode cX7_gives 60 = .ok (.getfield 35, 3) := by decide +kernel
theorem dX7_gives_63 : decode cX7_gives 63 = .ok (.iload 5, 2) := by decide +kernel
theorem dX7_gives_65 : decode cX7_gives 65 = .ok (.iaload, 1) := by decide +kernel
theorem dX7_gives_66 : decode cX7_gives 66 = .ok (.i2l, 1) := by decide +kernel
theorem dX7_gives_67 : decode cX7_gives 67 = .ok (.goto 31, 3) := by decide +kernel
theorem dX7_gives_70 : decode cX7_gives 70 = .ok (.lconst 0, 1) := by decide +kernel
theorem dX7_gives_71 : decode cX7_gives 71 = .ok (.goto 27, 3) := by decide +kernel
theorem dX7_gives_74 : decode cX7_gives 74 = .ok (.aload_n 0, 1) := by decide +kernel
theorem dX7_gives_75 : decode cX7_gives 75 = .ok (.getfield 44, 3) := by decide +kernel
theorem dX7_gives_78 : decode cX7_gives 78 = .ok (.iload 5, 2) := by decide +kernel
theorem dX7_gives_80 : decode cX7_gives 80 = .ok (.iaload, 1) := by decide +kernel
theorem dX7_gives_81 : decode cX7_gives 81 = .ok (.iload 4, 2) := by decide +kernel
theorem dX7_gives_83 : decode cX7_gives 83 = .ok (.if_icmp .ne 14, 3) := by decide +kernel
theorem dX7_gives_86 : decode cX7_gives 86 = .ok (.aload_n 0, 1) := by decide +kernel
theorem dX7_gives_87 : decode cX7_gives 87 = .ok (.getfield 41, 3) := by decide +kernel
theorem dX7_gives_90 : decode cX7_gives 90 = .ok (.iload 5, 2) := by decide +kernel
theorem dX7_gives_92 : decode cX7_gives 92 = .ok (.iaload, 1) := by decide +kernel
theorem dX7_gives_93 : decode cX7_gives 93 = .ok (.i2l, 1) := by decide +kernel
theorem dX7_gives_94 : decode cX7_gives 94 = .ok (.goto 4, 3) := by decide +kernel
theorem dX7_gives_97 : decode cX7_gives 97 = .ok (.lconst 0, 1) := by decide +kernel
theorem dX7_gives_98 : decode cX7_gives 98 = .ok (.lreturn, 1) := by decide +kernel
theorem dX7_sumOf_0 : decode cX7_sumOf 0 = .ok (.lconst 0, 1) := by decide +kernel
theorem dX7_sumOf_1 : decode cX7_sumOf 1 = .ok (.lstore 5, 2) := by decide +kernel
theorem dX7_sumOf_3 : decode cX7_sumOf 3 = .ok (.iconst 0, 1) := by decide +kernel
theorem dX7_sumOf_4 : decode cX7_sumOf 4 = .ok (.istore 7, 2) := by decide +kernel
theorem dX7_sumOf_6 : decode cX7_sumOf 6 = .ok (.iload 7, 2) := by decide +kernel
theorem dX7_sumOf_8 : decode cX7_sumOf 8 = .ok (.iload_n 2, 1) := by decide +kernel
theorem dX7_sumOf_9 : decode cX7_sumOf 9 = .ok (.if_icmp .ge 24, 3) := by decide +kernel
theorem dX7_sumOf_12 : decode cX7_sumOf 12 = .ok (.lload 5, 2) := by decide +kernel
theorem dX7_sumOf_14 : decode cX7_sumOf 14 = .ok (.aload_n 0, 1) := by decide +kernel
theorem dX7_sumOf_15 : decode cX7_sumOf 15 = .ok (.iload_n 1, 1) := by decide +kernel
theorem dX7_sumOf_16 : decode cX7_sumOf 16 = .ok (.iload 7, 2) := by decide +kernel
theorem dX7_sumOf_18 : decode cX7_sumOf 18 = .ok (.iload_n 3, 1) := by decide +kernel
theorem dX7_sumOf_19 : decode cX7_sumOf 19 = .ok (.iload 4, 2) := by decide +kernel
theorem dX7_sumOf_21 : decode cX7_sumOf 21 = .ok (.invokevirtual 187, 3) := by decide +kernel
theorem dX7_sumOf_24 : decode cX7_sumOf 24 = .ok (.ladd, 1) := by decide +kernel
theorem dX7_sumOf_25 : decode cX7_sumOf 25 = .ok (.lstore 5, 2) := by decide +kernel
theorem dX7_sumOf_27 : decode cX7_sumOf 27 = .ok (.iinc 7 1, 3) := by decide +kernel
theorem dX7_sumOf_30 : decode cX7_sumOf 30 = .ok (.goto (-24), 3) := by decide +kernel
theorem dX7_sumOf_33 : decode cX7_sumOf 33 = .ok (.lload 5, 2) := by decide +kernel
theorem dX7_sumOf_35 : decode cX7_sumOf 35 = .ok (.lreturn, 1) := by decide +kernel
theorem dX7_widthOfGlue_0 : decode cX7_widthOfGlue 0 = .ok (.iload_n 2, 1) := by decide +kernel
theorem dX7_widthOfGlue_1 : decode cX7_widthOfGlue 1 = .ok (.ifCond .ne 16, 3) := by decide +kernel
theorem dX7_widthOfGlue_4 : decode cX7_widthOfGlue 4 = .ok (.aload_n 0, 1) := by decide +kernel
theorem dX7_widthOfGlue_5 : decode cX7_widthOfGlue 5 = .ok (.getfield 32, 3) := by decide +kernel
theorem dX7_widthOfGlue_8 : decode cX7_widthOfGlue 8 = .ok (.bipush 13, 2) := by decide +kernel
theorem dX7_widthOfGlue_10 : decode cX7_widthOfGlue 10 = .ok (.iload_n 1, 1) := by decide +kernel
theorem dX7_widthOfGlue_11 : decode cX7_widthOfGlue 11 = .ok (.imul, 1) := by decide +kernel
theorem dX7_widthOfGlue_12 : decode cX7_widthOfGlue 12 = .ok (.iaload, 1) := by decide +kernel
theorem dX7_widthOfGlue_13 : decode cX7_widthOfGlue 13 = .ok (.i2l, 1) := by decide +kernel
theorem dX7_widthOfGlue_14 : decode cX7_widthOfGlue 14 = .ok (.goto 37, 3) := by decide +kernel
theorem dX7_widthOfGlue_17 : decode cX7_widthOfGlue 17 = .ok (.aload_n 0, 1) := by decide +kernel
theorem dX7_widthOfGlue_18 : decode cX7_widthOfGlue 18 = .ok (.getfield 89, 3) := by decide +kernel
theorem dX7_widthOfGlue_21 : decode cX7_widthOfGlue 21 = .ok (.bipush 24, 2) := by decide +kernel
theorem dX7_widthOfGlue_23 : decode cX7_widthOfGlue 23 = .ok (.iload_n 1, 1) := by decide +kernel
theorem dX7_widthOfGlue_24 : decode cX7_widthOfGlue 24 = .ok (.imul, 1) := by decide +kernel
theorem dX7_widthOfGlue_25 : decode cX7_widthOfGlue 25 = .ok (.iload_n 2, 1) := by decide +kernel
theorem dX7_widthOfGlue_26 : decode cX7_widthOfGlue 26 = .ok (.iadd, 1) := by decide +kernel
theorem dX7_widthOfGlue_27 : decode cX7_widthOfGlue 27 = .ok (.iconst 1, 1) := by decide +kernel
theorem dX7_widthOfGlue_28 : decode cX7_widthOfGlue 28 = .ok (.isub, 1) := by decide +kernel
theorem dX7_widthOfGlue_29 : decode cX7_widthOfGlue 29 = .ok (.baload, 1) := by decide +kernel
theorem dX7_widthOfGlue_30 : decode cX7_widthOfGlue 30 = .ok (.ifCond .eq 7, 3) := by decide +kernel
theorem dX7_widthOfGlue_33 : decode cX7_widthOfGlue 33 = .ok (.lconst 0, 1) := by decide +kernel
theorem dX7_widthOfGlue_34 : decode cX7_widthOfGlue 34 = .ok (.goto 17, 3) := by decide +kernel
theorem dX7_widthOfGlue_37 : decode cX7_widthOfGlue 37 = .ok (.aload_n 0, 1) := by decide +kernel
theorem dX7_widthOfGlue_38 : decode cX7_widthOfGlue 38 = .ok (.getfield 32, 3) := by decide +kernel
theorem dX7_widthOfGlue_41 : decode cX7_widthOfGlue 41 = .ok (.aload_n 0, 1) := by decide +kernel
theorem dX7_widthOfGlue_42 : decode cX7_widthOfGlue 42 = .ok (.iload_n 1, 1) := by decide +kernel
theorem dX7_widthOfGlue_43 : decode cX7_widthOfGlue 43 = .ok (.iload_n 2, 1) := by decide +kernel
theorem dX7_widthOfGlue_44 : decode cX7_widthOfGlue 44 = .ok (.iconst 1, 1) := by decide +kernel
theorem dX7_widthOfGlue_45 : decode cX7_widthOfGlue 45 = .ok (.isub, 1) := by decide +kernel
theorem dX7_widthOfGlue_46 : decode cX7_widthOfGlue 46 = .ok (.invokevirtual 184, 3) := by decide +kernel
theorem dX7_widthOfGlue_49 : decode cX7_widthOfGlue 49 = .ok (.iaload, 1) := by decide +kernel
theorem dX7_widthOfGlue_50 : decode cX7_widthOfGlue 50 = .ok (.i2l, 1) := by decide +kernel
theorem dX7_widthOfGlue_51 : decode cX7_widthOfGlue 51 = .ok (.lreturn, 1) := by decide +kernel
theorem dX7_run_0 : decode cX7_run 0 = .ok (.aload_n 0, 1) := by decide +kernel
theorem dX7_run_1 : decode cX7_run 1 = .ok (.iconst 0, 1) := by decide +kernel
theorem dX7_run_2 : decode cX7_run 2 = .ok (.putfield 114, 3) := by decide +kernel
theorem dX7_run_5 : decode cX7_run 5 = .ok (.aload_n 0, 1) := by decide +kernel
theorem dX7_run_6 : decode cX7_run 6 = .ok (.iload_n 1, 1) := by decide +kernel
theorem dX7_run_7 : decode cX7_run 7 = .ok (.invokevirtual 121, 3) := by decide +kernel
theorem dX7_run_10 : decode cX7_run 10 = .ok (.ifCond .ne 7, 3) := by decide +kernel
theorem dX7_run_13 : decode cX7_run 13 = .ok (.ldc2_w 191, 3) := by decide +kernel
theorem dX7_run_16 : decode cX7_run 16 = .ok (.lreturn, 1) := by decide +kernel
theorem dX7_run_17 : decode cX7_run 17 = .ok (.aload_n 0, 1) := by decide +kernel
theorem dX7_run_18 : decode cX7_run 18 = .ok (.getfield 16, 3) := by decide +kernel
theorem dX7_run_21 : decode cX7_run 21 = .ok (.iload_n 1, 1) := by decide +kernel
theorem dX7_run_22 : decode cX7_run 22 = .ok (.baload, 1) := by decide +kernel
theorem dX7_run_23 : decode cX7_run 23 = .ok (.ifCond .eq 12, 3) := by decide +kernel
theorem dX7_run_26 : decode cX7_run 26 = .ok (.aload_n 0, 1) := by decide +kernel
theorem dX7_run_27 : decode cX7_run 27 = .ok (.getfield 50, 3) := by decide +kernel
theorem dX7_run_30 : decode cX7_run 30 = .ok (.iload_n 1, 1) := by decide +kernel
theorem dX7_run_31 : decode cX7_run 31 = .ok (.baload, 1) := by decide +kernel
theorem dX7_run_32 : decode cX7_run 32 = .ok (.ifCond .eq 7, 3) := by decide +kernel
theorem dX7_run_35 : decode cX7_run 35 = .ok (.ldc2_w 193, 3) := by decide +kernel
theorem dX7_run_38 : decode cX7_run 38 = .ok (.lreturn, 1) := by decide +kernel
theorem dX7_run_39 : decode cX7_run 39 = .ok (.iload_n 2, 1) := by decide +kernel
theorem dX7_run_40 : decode cX7_run 40 = .ok (.i2l, 1) := by decide +kernel
theorem dX7_run_41 : decode cX7_run 41 = .ok (.lconst 0, 1) := by decide +kernel
theorem dX7_run_42 : decode cX7_run 42 = .ok (.ldc2_w 195, 3) := by decide +kernel
theorem dX7_run_45 : decode cX7_run 45 = .ok (.invokestatic 149, 3) := by decide +kernel
theorem dX7_run_48 : decode cX7_run 48 = .ok (.ifCond .eq 21, 3) := by decide +kernel
theorem dX7_run_51 : decode cX7_run 51 = .ok (.iload_n 2, 1) := by decide +kernel
theorem dX7_run_52 : decode cX7_run 52 = .ok (.ifCond .le 21, 3) := by decide +kernel
theorem dX7_run_55 : decode cX7_run 55 = .ok (.iload_n 3, 1) := by decide +kernel
theorem dX7_run_56 : decode cX7_run 56 = .ok (.i2l, 1) := by decide +kernel
theorem dX7_run_57 : decode cX7_run 57 = .ok (.ldc2_w 197, 3) := by decide +kernel
theorem dX7_run_60 : decode cX7_run 60 = .ok (.ldc2_w 199, 3) := by decide +kernel
theorem dX7_run_63 : decode cX7_run 63 = .ok (.invokestatic 149, 3) := by decide +kernel
theorem dX7_run_66 : decode cX7_run 66 = .ok (.ifCond .ne 7, 3) := by decide +kernel
theorem dX7_run_69 : decode cX7_run 69 = .ok (.ldc2_w 201, 3) := by decide +kernel
theorem dX7_run_72 : decode cX7_run 72 = .ok (.lreturn, 1) := by decide +kernel
theorem dX7_run_73 : decode cX7_run 73 = .ok (.aload_n 0, 1) := by decide +kernel
theorem dX7_run_74 : decode cX7_run 74 = .ok (.getfield 20, 3) := by decide +kernel
theorem dX7_run_77 : decode cX7_run 77 = .ok (.iload_n 1, 1) := by decide +kernel
theorem dX7_run_78 : decode cX7_run 78 = .ok (.iaload, 1) := by decide +kernel
theorem dX7_run_79 : decode cX7_run 79 = .ok (.istore 4, 2) := by decide +kernel
theorem dX7_run_81 : decode cX7_run 81 = .ok (.iconst 0, 1) := by decide +kernel
theorem dX7_run_82 : decode cX7_run 82 = .ok (.istore 5, 2) := by decide +kernel
theorem dX7_run_84 : decode cX7_run 84 = .ok (.iload 5, 2) := by decide +kernel
theorem dX7_run_86 : decode cX7_run 86 = .ok (.aload_n 0, 1) := by decide +kernel
theorem dX7_run_87 : decode cX7_run 87 = .ok (.getfield 59, 3) := by decide +kernel
theorem dX7_run_90 : decode cX7_run 90 = .ok (.iload_n 1, 1) := by decide +kernel
theorem dX7_run_91 : decode cX7_run 91 = .ok (.iaload, 1) := by decide +kernel
theorem dX7_run_92 : decode cX7_run 92 = .ok (.if_icmp .ge 54, 3) := by decide +kernel
theorem dX7_run_95 : decode cX7_run 95 = .ok (.aload_n 0, 1) := by decide +kernel
theorem dX7_run_96 : decode cX7_run 96 = .ok (.getfield 65, 3) := by decide +kernel
theorem dX7_run_99 : decode cX7_run 99 = .ok (.sipush 480, 3) := by decide +kernel
theorem dX7_run_102 : decode cX7_run 102 = .ok (.iload_n 1, 1) := by decide +kernel
theorem dX7_run_103 : decode cX7_run 103 = .ok (.imul, 1) := by decide +kernel
theorem dX7_run_104 : decode cX7_run 104 = .ok (.iload 5, 2) := by decide +kernel
theorem dX7_run_106 : decode cX7_run 106 = .ok (.iadd, 1) := by decide +kernel
theorem dX7_run_107 : decode cX7_run 107 = .ok (.iaload, 1) := by decide +kernel
theorem dX7_run_108 : decode cX7_run 108 = .ok (.aload_n 0, 1) := by decide +kernel
theorem dX7_run_109 : decode cX7_run 109 = .ok (.getfield 68, 3) := by decide +kernel
theorem dX7_run_112 : decode cX7_run 112 = .ok (.sipush 480, 3) := by decide +kernel
theorem dX7_run_115 : decode cX7_run 115 = .ok (.iload_n 1, 1) := by decide +kernel
theorem dX7_run_116 : decode cX7_run 116 = .ok (.imul, 1) := by decide +kernel
theorem dX7_run_117 : decode cX7_run 117 = .ok (.iload 5, 2) := by decide +kernel
theorem dX7_run_119 : decode cX7_run 119 = .ok (.iadd, 1) := by decide +kernel
theorem dX7_run_120 : decode cX7_run 120 = .ok (.iaload, 1) := by decide +kernel
theorem dX7_run_121 : decode cX7_run 121 = .ok (.iadd, 1) := by decide +kernel
theorem dX7_run_122 : decode cX7_run 122 = .ok (.istore 6, 2) := by decide +kernel
theorem dX7_run_124 : decode cX7_run 124 = .ok (.iload 6, 2) := by decide +kernel
theorem dX7_run_126 : decode cX7_run 126 = .ok (.iload 4, 2) := by decide +kernel
theorem dX7_run_128 : decode cX7_run 128 = .ok (.if_icmp .le 8, 3) := by decide +kernel
theorem dX7_run_131 : decode cX7_run 131 = .ok (.iload 6, 2) := by decide +kernel
theorem dX7_run_133 : decode cX7_run 133 = .ok (.goto 5, 3) := by decide +kernel
theorem dX7_run_136 : decode cX7_run 136 = .ok (.iload 4, 2) := by decide +kernel
theorem dX7_run_138 : decode cX7_run 138 = .ok (.istore 4, 2) := by decide +kernel
theorem dX7_run_140 : decode cX7_run 140 = .ok (.iinc 5 1, 3) := by decide +kernel
theorem dX7_run_143 : decode cX7_run 143 = .ok (.goto (-59), 3) := by decide +kernel
theorem dX7_run_146 : decode cX7_run 146 = .ok (.aload_n 0, 1) := by decide +kernel
theorem dX7_run_147 : decode cX7_run 147 = .ok (.getfield 83, 3) := by decide +kernel
theorem dX7_run_150 : decode cX7_run 150 = .ok (.iload_n 1, 1) := by decide +kernel
theorem dX7_run_151 : decode cX7_run 151 = .ok (.iload 4, 2) := by decide +kernel
theorem dX7_run_153 : decode cX7_run 153 = .ok (.iastore, 1) := by decide +kernel
theorem dX7_run_154 : decode cX7_run 154 = .ok (.aload_n 0, 1) := by decide +kernel
theorem dX7_run_155 : decode cX7_run 155 = .ok (.iload_n 1, 1) := by decide +kernel
theorem dX7_run_156 : decode cX7_run 156 = .ok (.invokevirtual 203, 3) := by decide +kernel
theorem dX7_run_159 : decode cX7_run 159 = .ok (.aload_n 0, 1) := by decide +kernel
theorem dX7_run_160 : decode cX7_run 160 = .ok (.getfield 96, 3) := by decide +kernel
theorem dX7_run_163 : decode cX7_run 163 = .ok (.iload_n 1, 1) := by decide +kernel
theorem dX7_run_164 : decode cX7_run 164 = .ok (.aload_n 0, 1) := by decide +kernel
theorem dX7_run_165 : decode cX7_run 165 = .ok (.iload_n 1, 1) := by decide +kernel
theorem dX7_run_166 : decode cX7_run 166 = .ok (.iconst 0, 1) := by decide +kernel
theorem dX7_run_167 : decode cX7_run 167 = .ok (.invokevirtual 206, 3) := by decide +kernel
theorem dX7_run_170 : decode cX7_run 170 = .ok (.lastore, 1) := by decide +kernel
theorem dX7_run_171 : decode cX7_run 171 = .ok (.iconst 0, 1) := by decide +kernel
theorem dX7_run_172 : decode cX7_run 172 = .ok (.istore 5, 2) := by decide +kernel
theorem dX7_run_174 : decode cX7_run 174 = .ok (.iload 5, 2) := by decide +kernel
theorem dX7_run_176 : decode cX7_run 176 = .ok (.iload 4, 2) := by decide +kernel
theorem dX7_run_178 : decode cX7_run 178 = .ok (.if_icmp .ge 45, 3) := by decide +kernel
theorem dX7_run_181 : decode cX7_run 181 = .ok (.aload_n 0, 1) := by decide +kernel
theorem dX7_run_182 : decode cX7_run 182 = .ok (.getfield 96, 3) := by decide +kernel
theorem dX7_run_185 : decode cX7_run 185 = .ok (.iload_n 1, 1) := by decide +kernel
theorem dX7_run_186 : decode cX7_run 186 = .ok (.aload_n 0, 1) := by decide +kernel
theorem dX7_run_187 : decode cX7_run 187 = .ok (.getfield 96, 3) := by decide +kernel
theorem dX7_run_190 : decode cX7_run 190 = .ok (.iload_n 1, 1) := by decide +kernel
theorem dX7_run_191 : decode cX7_run 191 = .ok (.laload, 1) := by decide +kernel
theorem dX7_run_192 : decode cX7_run 192 = .ok (.aload_n 0, 1) := by decide +kernel
theorem dX7_run_193 : decode cX7_run 193 = .ok (.getfield 86, 3) := by decide +kernel
theorem dX7_run_196 : decode cX7_run 196 = .ok (.bipush 24, 2) := by decide +kernel
theorem dX7_run_198 : decode cX7_run 198 = .ok (.iload_n 1, 1) := by decide +kernel
theorem dX7_run_199 : decode cX7_run 199 = .ok (.imul, 1) := by decide +kernel
theorem dX7_run_200 : decode cX7_run 200 = .ok (.iload 5, 2) := by decide +kernel
theorem dX7_run_202 : decode cX7_run 202 = .ok (.iadd, 1) := by decide +kernel
theorem dX7_run_203 : decode cX7_run 203 = .ok (.iaload, 1) := by decide +kernel
theorem dX7_run_204 : decode cX7_run 204 = .ok (.i2l, 1) := by decide +kernel
theorem dX7_run_205 : decode cX7_run 205 = .ok (.ladd, 1) := by decide +kernel
theorem dX7_run_206 : decode cX7_run 206 = .ok (.aload_n 0, 1) := by decide +kernel
theorem dX7_run_207 : decode cX7_run 207 = .ok (.iload_n 1, 1) := by decide +kernel
theorem dX7_run_208 : decode cX7_run 208 = .ok (.iload 5, 2) := by decide +kernel
theorem dX7_run_210 : decode cX7_run 210 = .ok (.iconst 1, 1) := by decide +kernel
theorem dX7_run_211 : decode cX7_run 211 = .ok (.iadd, 1) := by decide +kernel
theorem dX7_run_212 : decode cX7_run 212 = .ok (.invokevirtual 206, 3) := by decide +kernel
theorem dX7_run_215 : decode cX7_run 215 = .ok (.ladd, 1) := by decide +kernel
theorem dX7_run_216 : decode cX7_run 216 = .ok (.lastore, 1) := by decide +kernel
theorem dX7_run_217 : decode cX7_run 217 = .ok (.iinc 5 1, 3) := by decide +kernel
theorem dX7_run_220 : decode cX7_run 220 = .ok (.goto (-46), 3) := by decide +kernel
theorem dX7_run_223 : decode cX7_run 223 = .ok (.aload_n 0, 1) := by decide +kernel
theorem dX7_run_224 : decode cX7_run 224 = .ok (.getfield 99, 3) := by decide +kernel
theorem dX7_run_227 : decode cX7_run 227 = .ok (.iload_n 1, 1) := by decide +kernel
theorem dX7_run_228 : decode cX7_run 228 = .ok (.iload_n 2, 1) := by decide +kernel
theorem dX7_run_229 : decode cX7_run 229 = .ok (.ifCond .ne 12, 3) := by decide +kernel
theorem dX7_run_232 : decode cX7_run 232 = .ok (.aload_n 0, 1) := by decide +kernel
theorem dX7_run_233 : decode cX7_run 233 = .ok (.getfield 96, 3) := by decide +kernel
theorem dX7_run_236 : decode cX7_run 236 = .ok (.iload_n 1, 1) := by decide +kernel
theorem dX7_run_237 : decode cX7_run 237 = .ok (.laload, 1) := by decide +kernel
theorem dX7_run_238 : decode cX7_run 238 = .ok (.goto 22, 3) := by decide +kernel
theorem dX7_run_241 : decode cX7_run 241 = .ok (.iload_n 2, 1) := by decide +kernel
theorem dX7_run_242 : decode cX7_run 242 = .ok (.iconst 1, 1) := by decide +kernel
theorem dX7_run_243 : decode cX7_run 243 = .ok (.if_icmp .ne 8, 3) := by decide +kernel
theorem dX7_run_246 : decode cX7_run 246 = .ok (.iload_n 3, 1) := by decide +kernel
theorem dX7_run_247 : decode cX7_run 247 = .ok (.i2l, 1) := by decide +kernel
theorem dX7_run_248 : decode cX7_run 248 = .ok (.goto 12, 3) := by decide +kernel
theorem dX7_run_251 : decode cX7_run 251 = .ok (.aload_n 0, 1) := by decide +kernel
theorem dX7_run_252 : decode cX7_run 252 = .ok (.getfield 96, 3) := by decide +kernel
theorem dX7_run_255 : decode cX7_run 255 = .ok (.iload_n 1, 1) := by decide +kernel
theorem dX7_run_256 : decode cX7_run 256 = .ok (.laload, 1) := by decide +kernel
theorem dX7_run_257 : decode cX7_run 257 = .ok (.iload_n 3, 1) := by decide +kernel
theorem dX7_run_258 : decode cX7_run 258 = .ok (.i2l, 1) := by decide +kernel
theorem dX7_run_259 : decode cX7_run 259 = .ok (.ladd, 1) := by decide +kernel
theorem dX7_run_260 : decode cX7_run 260 = .ok (.lastore, 1) := by decide +kernel
theorem dX7_run_261 : decode cX7_run 261 = .ok (.aload_n 0, 1) := by decide +kernel
theorem dX7_run_262 : decode cX7_run 262 = .ok (.getfield 80, 3) := by decide +kernel
theorem dX7_run_265 : decode cX7_run 265 = .ok (.iload_n 1, 1) := by decide +kernel
theorem dX7_run_266 : decode cX7_run 266 = .ok (.dup2, 1) := by decide +kernel
theorem dX7_run_267 : decode cX7_run 267 = .ok (.iaload, 1) := by decide +kernel
theorem dX7_run_268 : decode cX7_run 268 = .ok (.iconst 1, 1) := by decide +kernel
theorem dX7_run_269 : decode cX7_run 269 = .ok (.iadd, 1) := by decide +kernel
theorem dX7_run_270 : decode cX7_run 270 = .ok (.iastore, 1) := by decide +kernel
theorem dX7_run_271 : decode cX7_run 271 = .ok (.aload_n 0, 1) := by decide +kernel
theorem dX7_run_272 : decode cX7_run 272 = .ok (.iload_n 1, 1) := by decide +kernel
theorem dX7_run_273 : decode cX7_run 273 = .ok (.invokevirtual 210, 3) := by decide +kernel
theorem dX7_run_276 : decode cX7_run 276 = .ok (.aload_n 0, 1) := by decide +kernel
theorem dX7_run_277 : decode cX7_run 277 = .ok (.getfield 99, 3) := by decide +kernel
theorem dX7_run_280 : decode cX7_run 280 = .ok (.iload_n 1, 1) := by decide +kernel
theorem dX7_run_281 : decode cX7_run 281 = .ok (.laload, 1) := by decide +kernel
theorem dX7_run_282 : decode cX7_run 282 = .ok (.lreturn, 1) := by decide +kernel
theorem dX7_share_0 : decode cX7_share 0 = .ok (.aload_n 0, 1) := by decide +kernel
theorem dX7_share_1 : decode cX7_share 1 = .ok (.getfield 83, 3) := by decide +kernel
theorem dX7_share_4 : decode cX7_share 4 = .ok (.iload_n 1, 1) := by decide +kernel
theorem dX7_share_5 : decode cX7_share 5 = .ok (.iaload, 1) := by decide +kernel
theorem dX7_share_6 : decode cX7_share 6 = .ok (.istore_n 2, 1) := by decide +kernel
theorem dX7_share_7 : decode cX7_share 7 = .ok (.aload_n 0, 1) := by decide +kernel
theorem dX7_share_8 : decode cX7_share 8 = .ok (.getfield 99, 3) := by decide +kernel
theorem dX7_share_11 : decode cX7_share 11 = .ok (.iload_n 1, 1) := by decide +kernel
theorem dX7_share_12 : decode cX7_share 12 = .ok (.laload, 1) := by decide +kernel
theorem dX7_share_13 : decode cX7_share 13 = .ok (.aload_n 0, 1) := by decide +kernel
theorem dX7_share_14 : decode cX7_share 14 = .ok (.getfield 96, 3) := by decide +kernel
theorem dX7_share_17 : decode cX7_share 17 = .ok (.iload_n 1, 1) := by decide +kernel
theorem dX7_share_18 : decode cX7_share 18 = .ok (.laload, 1) := by decide +kernel
theorem dX7_share_19 : decode cX7_share 19 = .ok (.lsub, 1) := by decide +kernel
theorem dX7_share_20 : decode cX7_share 20 = .ok (.lstore_n 3, 1) := by decide +kernel
theorem dX7_share_21 : decode cX7_share 21 = .ok (.lload_n 3, 1) := by decide +kernel
theorem dX7_share_22 : decode cX7_share 22 = .ok (.lconst 0, 1) := by decide +kernel
theorem dX7_share_23 : decode cX7_share 23 = .ok (.lcmp, 1) := by decide +kernel
theorem dX7_share_24 : decode cX7_share 24 = .ok (.ifCond .le 7, 3) := by decide +kernel
theorem dX7_share_27 : decode cX7_share 27 = .ok (.iconst 1, 1) := by decide +kernel
theorem dX7_share_28 : decode cX7_share 28 = .ok (.goto 4, 3) := by decide +kernel
theorem dX7_share_31 : decode cX7_share 31 = .ok (.iconst 0, 1) := by decide +kernel
theorem dX7_share_32 : decode cX7_share 32 = .ok (.istore 5, 2) := by decide +kernel
theorem dX7_share_34 : decode cX7_share 34 = .ok (.aload_n 0, 1) := by decide +kernel
theorem dX7_share_35 : decode cX7_share 35 = .ok (.getfield 102, 3) := by decide +kernel
theorem dX7_share_38 : decode cX7_share 38 = .ok (.iload_n 1, 1) := by decide +kernel
theorem dX7_share_39 : decode cX7_share 39 = .ok (.iconst (-1), 1) := by decide +kernel
theorem dX7_share_40 : decode cX7_share 40 = .ok (.iastore, 1) := by decide +kernel
theorem dX7_share_41 : decode cX7_share 41 = .ok (.iconst 0, 1) := by decide +kernel
theorem dX7_share_42 : decode cX7_share 42 = .ok (.istore 6, 2) := by decide +kernel
theorem dX7_share_44 : decode cX7_share 44 = .ok (.iload 6, 2) := by decide +kernel
theorem dX7_share_46 : decode cX7_share 46 = .ok (.iconst 4, 1) := by decide +kernel
theorem dX7_share_47 : decode cX7_share 47 = .ok (.if_icmp .ge 49, 3) := by decide +kernel
theorem dX7_share_50 : decode cX7_share 50 = .ok (.lload_n 3, 1) := by decide +kernel
theorem dX7_share_51 : decode cX7_share 51 = .ok (.lconst 0, 1) := by decide +kernel
theorem dX7_share_52 : decode cX7_share 52 = .ok (.lcmp, 1) := by decide +kernel
theorem dX7_share_53 : decode cX7_share 53 = .ok (.ifCond .eq 43, 3) := by decide +kernel
theorem dX7_share_56 : decode cX7_share 56 = .ok (.aload_n 0, 1) := by decide +kernel
theorem dX7_share_57 : decode cX7_share 57 = .ok (.getfield 102, 3) := by decide +kernel
theorem dX7_share_60 : decode cX7_share 60 = .ok (.iload_n 1, 1) := by decide +kernel
theorem dX7_share_61 : decode cX7_share 61 = .ok (.aload_n 0, 1) := by decide +kernel
theorem dX7_share_62 : decode cX7_share 62 = .ok (.iload_n 1, 1) := by decide +kernel
theorem dX7_share_63 : decode cX7_share 63 = .ok (.iload_n 2, 1) := by decide +kernel
theorem dX7_share_64 : decode cX7_share 64 = .ok (.iconst 1, 1) := by decide +kernel
theorem dX7_share_65 : decode cX7_share 65 = .ok (.iadd, 1) := by decide +kernel
theorem dX7_share_66 : decode cX7_share 66 = .ok (.iload 5, 2) := by decide +kernel
theorem dX7_share_68 : decode cX7_share 68 = .ok (.iload 6, 2) := by decide +kernel
theorem dX7_share_70 : decode cX7_share 70 = .ok (.invokevirtual 213, 3) := by decide +kernel
theorem dX7_share_73 : decode cX7_share 73 = .ok (.lconst 0, 1) := by decide +kernel
theorem dX7_share_74 : decode cX7_share 74 = .ok (.lcmp, 1) := by decide +kernel
theorem dX7_share_75 : decode cX7_share 75 = .ok (.ifCond .le 8, 3) := by decide +kernel
theorem dX7_share_78 : decode cX7_share 78 = .ok (.iload 6, 2) := by decide +kernel
theorem dX7_share_80 : decode cX7_share 80 = .ok (.goto 9, 3) := by decide +kernel
theorem dX7_share_83 : decode cX7_share 83 = .ok (.aload_n 0, 1) := by decide +kernel
theorem dX7_share_84 : decode cX7_share 84 = .ok (.getfield 102, 3) := by decide +kernel
theorem dX7_share_87 : decode cX7_share 87 = .ok (.iload_n 1, 1) := by decide +kernel
theorem dX7_share_88 : decode cX7_share 88 = .ok (.iaload, 1) := by decide +kernel
theorem dX7_share_89 : decode cX7_share 89 = .ok (.iastore, 1) := by decide +kernel
theorem dX7_share_90 : decode cX7_share 90 = .ok (.iinc 6 1, 3) := by decide +kernel
theorem dX7_share_93 : decode cX7_share 93 = .ok (.goto (-49), 3) := by decide +kernel
theorem dX7_share_96 : decode cX7_share 96 = .ok (.aload_n 0, 1) := by decide +kernel
theorem dX7_share_97 : decode cX7_share 97 = .ok (.getfield 102, 3) := by decide +kernel
theorem dX7_share_100 : decode cX7_share 100 = .ok (.iload_n 1, 1) := by decide +kernel
theorem dX7_share_101 : decode cX7_share 101 = .ok (.iaload, 1) := by decide +kernel
theorem dX7_share_102 : decode cX7_share 102 = .ok (.ifCond .ge 7, 3) := by decide +kernel
theorem dX7_share_105 : decode cX7_share 105 = .ok (.lconst 0, 1) := by decide +kernel
theorem dX7_share_106 : decode cX7_share 106 = .ok (.goto 19, 3) := by decide +kernel
theorem dX7_share_109 : decode cX7_share 109 = .ok (.aload_n 0, 1) := by decide +kernel
theorem dX7_share_110 : decode cX7_share 110 = .ok (.iload_n 1, 1) := by decide +kernel
theorem dX7_share_111 : decode cX7_share 111 = .ok (.iload_n 2, 1) := by decide +kernel
theorem dX7_share_112 : decode cX7_share 112 = .ok (.iconst 1, 1) := by decide +kernel
theorem dX7_share_113 : decode cX7_share 113 = .ok (.iadd, 1) := by decide +kernel
theorem dX7_share_114 : decode cX7_share 114 = .ok (.iload 5, 2) := by decide +kernel
theorem dX7_share_116 : decode cX7_share 116 = .ok (.aload_n 0, 1) := by decide +kernel
theorem dX7_share_117 : decode cX7_share 117 = .ok (.getfield 102, 3) := by decide +kernel
theorem dX7_share_120 : decode cX7_share 120 = .ok (.iload_n 1, 1) := by decide +kernel
theorem dX7_share_121 : decode cX7_share 121 = .ok (.iaload, 1) := by decide +kernel
theorem dX7_share_122 : decode cX7_share 122 = .ok (.invokevirtual 213, 3) := by decide +kernel
theorem dX7_share_125 : decode cX7_share 125 = .ok (.lstore 6, 2) := by decide +kernel
theorem dX7_share_127 : decode cX7_share 127 = .ok (.lload_n 3, 1) := by decide +kernel
theorem dX7_share_128 : decode cX7_share 128 = .ok (.lconst 0, 1) := by decide +kernel
theorem dX7_share_129 : decode cX7_share 129 = .ok (.lcmp, 1) := by decide +kernel
theorem dX7_share_130 : decode cX7_share 130 = .ok (.ifCond .ge 8, 3) := by decide +kernel
theorem dX7_share_133 : decode cX7_share 133 = .ok (.lload_n 3, 1) := by decide +kernel
theorem dX7_share_134 : decode cX7_share 134 = .ok (.lneg, 1) := by decide +kernel
theorem dX7_share_135 : decode cX7_share 135 = .ok (.goto 4, 3) := by decide +kernel
theorem dX7_share_138 : decode cX7_share 138 = .ok (.lload_n 3, 1) := by decide +kernel
theorem dX7_share_139 : decode cX7_share 139 = .ok (.lstore 8, 2) := by decide +kernel
theorem dX7_share_141 : decode cX7_share 141 = .ok (.aload_n 0, 1) := by decide +kernel
theorem dX7_share_142 : decode cX7_share 142 = .ok (.getfield 102, 3) := by decide +kernel
theorem dX7_share_145 : decode cX7_share 145 = .ok (.iload_n 1, 1) := by decide +kernel
theorem dX7_share_146 : decode cX7_share 146 = .ok (.iaload, 1) := by decide +kernel
theorem dX7_share_147 : decode cX7_share 147 = .ok (.ifCond .ge 7, 3) := by decide +kernel
theorem dX7_share_150 : decode cX7_share 150 = .ok (.lconst 0, 1) := by decide +kernel
theorem dX7_share_151 : decode cX7_share 151 = .ok (.goto 32, 3) := by decide +kernel
theorem dX7_share_154 : decode cX7_share 154 = .ok (.iload 5, 2) := by decide +kernel
theorem dX7_share_156 : decode cX7_share 156 = .ok (.ifCond .ne 25, 3) := by decide +kernel
theorem dX7_share_159 : decode cX7_share 159 = .ok (.aload_n 0, 1) := by decide +kernel
theorem dX7_share_160 : decode cX7_share 160 = .ok (.getfield 102, 3) := by decide +kernel
theorem dX7_share_163 : decode cX7_share 163 = .ok (.iload_n 1, 1) := by decide +kernel
theorem dX7_share_164 : decode cX7_share 164 = .ok (.iaload, 1) := by decide +kernel
theorem dX7_share_165 : decode cX7_share 165 = .ok (.ifCond .ne 16, 3) := by decide +kernel
theorem dX7_share_168 : decode cX7_share 168 = .ok (.lload 8, 2) := by decide +kernel
theorem dX7_share_170 : decode cX7_share 170 = .ok (.lload 6, 2) := by decide +kernel
theorem dX7_share_172 : decode cX7_share 172 = .ok (.lcmp, 1) := by decide +kernel
theorem dX7_share_173 : decode cX7_share 173 = .ok (.ifCond .le 8, 3) := by decide +kernel
theorem dX7_share_176 : decode cX7_share 176 = .ok (.lload 6, 2) := by decide +kernel
theorem dX7_share_178 : decode cX7_share 178 = .ok (.goto 5, 3) := by decide +kernel
theorem dX7_share_181 : decode cX7_share 181 = .ok (.lload 8, 2) := by decide +kernel
theorem dX7_share_183 : decode cX7_share 183 = .ok (.lstore 10, 2) := by decide +kernel
theorem dX7_share_185 : decode cX7_share 185 = .ok (.aload_n 0, 1) := by decide +kernel
theorem dX7_share_186 : decode cX7_share 186 = .ok (.getfield 105, 3) := by decide +kernel
theorem dX7_share_189 : decode cX7_share 189 = .ok (.iload_n 1, 1) := by decide +kernel
theorem dX7_share_190 : decode cX7_share 190 = .ok (.lload 8, 2) := by decide +kernel
theorem dX7_share_192 : decode cX7_share 192 = .ok (.lload 10, 2) := by decide +kernel
theorem dX7_share_194 : decode cX7_share 194 = .ok (.lsub, 1) := by decide +kernel
theorem dX7_share_195 : decode cX7_share 195 = .ok (.lastore, 1) := by decide +kernel
theorem dX7_share_196 : decode cX7_share 196 = .ok (.lconst 0, 1) := by decide +kernel
theorem dX7_share_197 : decode cX7_share 197 = .ok (.lstore 12, 2) := by decide +kernel
theorem dX7_share_199 : decode cX7_share 199 = .ok (.iconst 0, 1) := by decide +kernel
theorem dX7_share_200 : decode cX7_share 200 = .ok (.istore 14, 2) := by decide +kernel
theorem dX7_share_202 : decode cX7_share 202 = .ok (.iload 14, 2) := by decide +kernel
theorem dX7_share_204 : decode cX7_share 204 = .ok (.iload_n 2, 1) := by decide +kernel
theorem dX7_share_205 : decode cX7_share 205 = .ok (.if_icmp .gt 111, 3) := by decide +kernel
theorem dX7_share_208 : decode cX7_share 208 = .ok (.lload 6, 2) := by decide +kernel
theorem dX7_share_210 : decode cX7_share 210 = .ok (.lconst 0, 1) := by decide +kernel
theorem dX7_share_211 : decode cX7_share 211 = .ok (.lcmp, 1) := by decide +kernel
theorem dX7_share_212 : decode cX7_share 212 = .ok (.ifCond .ne 7, 3) := by decide +kernel
theorem dX7_share_215 : decode cX7_share 215 = .ok (.lconst 0, 1) := by decide +kernel
theorem dX7_share_216 : decode cX7_share 216 = .ok (.goto 26, 3) := by decide +kernel
theorem dX7_share_219 : decode cX7_share 219 = .ok (.lload 10, 2) := by decide +kernel
theorem dX7_share_221 : decode cX7_share 221 = .ok (.aload_n 0, 1) := by decide +kernel
theorem dX7_share_222 : decode cX7_share 222 = .ok (.iload_n 1, 1) := by decide +kernel
theorem dX7_share_223 : decode cX7_share 223 = .ok (.iload 14, 2) := by decide +kernel
theorem dX7_share_225 : decode cX7_share 225 = .ok (.iconst 1, 1) := by decide +kernel
theorem dX7_share_226 : decode cX7_share 226 = .ok (.iadd, 1) := by decide +kernel
theorem dX7_share_227 : decode cX7_share 227 = .ok (.iload 5, 2) := by decide +kernel
theorem dX7_share_229 : decode cX7_share 229 = .ok (.aload_n 0, 1) := by decide +kernel
theorem dX7_share_230 : decode cX7_share 230 = .ok (.getfield 102, 3) := by decide +kernel
theorem dX7_share_233 : decode cX7_share 233 = .ok (.iload_n 1, 1) := by decide +kernel
theorem dX7_share_234 : decode cX7_share 234 = .ok (.iaload, 1) := by decide +kernel
theorem dX7_share_235 : decode cX7_share 235 = .ok (.invokevirtual 213, 3) := by decide +kernel
theorem dX7_share_238 : decode cX7_share 238 = .ok (.lmul, 1) := by decide +kernel
theorem dX7_share_239 : decode cX7_share 239 = .ok (.lload 6, 2) := by decide +kernel
theorem dX7_share_241 : decode cX7_share 241 = .ok (.ldiv, 1) := by decide +kernel
theorem dX7_share_242 : decode cX7_share 242 = .ok (.lstore 15, 2) := by decide +kernel
theorem dX7_share_244 : decode cX7_share 244 = .ok (.lload 12, 2) := by decide +kernel
theorem dX7_share_246 : decode cX7_share 246 = .ok (.aload_n 0, 1) := by decide +kernel
theorem dX7_share_247 : decode cX7_share 247 = .ok (.iload_n 1, 1) := by decide +kernel
theorem dX7_share_248 : decode cX7_share 248 = .ok (.iload 14, 2) := by decide +kernel
theorem dX7_share_250 : decode cX7_share 250 = .ok (.invokevirtual 206, 3) := by decide +kernel
theorem dX7_share_253 : decode cX7_share 253 = .ok (.ladd, 1) := by decide +kernel
theorem dX7_share_254 : decode cX7_share 254 = .ok (.lstore 12, 2) := by decide +kernel
theorem dX7_share_256 : decode cX7_share 256 = .ok (.iload 14, 2) := by decide +kernel
theorem dX7_share_258 : decode cX7_share 258 = .ok (.iload_n 2, 1) := by decide +kernel
theorem dX7_share_259 : decode cX7_share 259 = .ok (.if_icmp .ge 51, 3) := by decide +kernel
theorem dX7_share_262 : decode cX7_share 262 = .ok (.aload_n 0, 1) := by decide +kernel
theorem dX7_share_263 : decode cX7_share 263 = .ok (.getfield 92, 3) := by decide +kernel
theorem dX7_share_266 : decode cX7_share 266 = .ok (.bipush 24, 2) := by decide +kernel
theorem dX7_share_268 : decode cX7_share 268 = .ok (.iload_n 1, 1) := by decide +kernel
theorem dX7_share_269 : decode cX7_share 269 = .ok (.imul, 1) := by decide +kernel
theorem dX7_share_270 : decode cX7_share 270 = .ok (.iload 14, 2) := by decide +kernel
theorem dX7_share_272 : decode cX7_share 272 = .ok (.iadd, 1) := by decide +kernel
theorem dX7_share_273 : decode cX7_share 273 = .ok (.iload 5, 2) := by decide +kernel
theorem dX7_share_275 : decode cX7_share 275 = .ok (.ifCond .eq 11, 3) := by decide +kernel
theorem dX7_share_278 : decode cX7_share 278 = .ok (.lload 12, 2) := by decide +kernel
theorem dX7_share_280 : decode cX7_share 280 = .ok (.lload 15, 2) := by decide +kernel
theorem dX7_share_282 : decode cX7_share 282 = .ok (.ladd, 1) := by decide +kernel
theorem dX7_share_283 : decode cX7_share 283 = .ok (.goto 8, 3) := by decide +kernel
theorem dX7_share_286 : decode cX7_share 286 = .ok (.lload 12, 2) := by decide +kernel
theorem dX7_share_288 : decode cX7_share 288 = .ok (.lload 15, 2) := by decide +kernel
theorem dX7_share_290 : decode cX7_share 290 = .ok (.lsub, 1) := by decide +kernel
theorem dX7_share_291 : decode cX7_share 291 = .ok (.lastore, 1) := by decide +kernel
theorem dX7_share_292 : decode cX7_share 292 = .ok (.lload 12, 2) := by decide +kernel
theorem dX7_share_294 : decode cX7_share 294 = .ok (.aload_n 0, 1) := by decide +kernel
theorem dX7_share_295 : decode cX7_share 295 = .ok (.getfield 86, 3) := by decide +kernel
theorem dX7_share_298 : decode cX7_share 298 = .ok (.bipush 24, 2) := by decide +kernel
theorem dX7_share_300 : decode cX7_share 300 = .ok (.iload_n 1, 1) := by decide +kernel
theorem dX7_share_301 : decode cX7_share 301 = .ok (.imul, 1) := by decide +kernel
theorem dX7_share_302 : decode cX7_share 302 = .ok (.iload 14, 2) := by decide +kernel
theorem dX7_share_304 : decode cX7_share 304 = .ok (.iadd, 1) := by decide +kernel
theorem dX7_share_305 : decode cX7_share 305 = .ok (.iaload, 1) := by decide +kernel
theorem dX7_share_306 : decode cX7_share 306 = .ok (.i2l, 1) := by decide +kernel
theorem dX7_share_307 : decode cX7_share 307 = .ok (.ladd, 1) := by decide +kernel
theorem dX7_share_308 : decode cX7_share 308 = .ok (.lstore 12, 2) := by decide +kernel
theorem dX7_share_310 : decode cX7_share 310 = .ok (.iinc 14 1, 3) := by decide +kernel
theorem dX7_share_313 : decode cX7_share 313 = .ok (.goto (-111), 3) := by decide +kernel
theorem dX7_share_316 : decode cX7_share 316 = .ok (.return_, 1) := by decide +kernel
theorem dX7_isColumn_0 : decode cX7_isColumn 0 = .ok (.aload_n 0, 1) := by decide +kernel
theorem dX7_isColumn_1 : decode cX7_isColumn 1 = .ok (.iload_n 1, 1) := by decide +kernel
theorem dX7_isColumn_2 : decode cX7_isColumn 2 = .ok (.invokevirtual 121, 3) := by decide +kernel
theorem dX7_isColumn_5 : decode cX7_isColumn 5 = .ok (.ifCond .eq 30, 3) := by decide +kernel
theorem dX7_isColumn_8 : decode cX7_isColumn 8 = .ok (.aload_n 0, 1) := by decide +kernel
theorem dX7_isColumn_9 : decode cX7_isColumn 9 = .ok (.getfield 80, 3) := by decide +kernel
theorem dX7_isColumn_12 : decode cX7_isColumn 12 = .ok (.iload_n 1, 1) := by decide +kernel
theorem dX7_isColumn_13 : decode cX7_isColumn 13 = .ok (.iaload, 1) := by decide +kernel
theorem dX7_isColumn_14 : decode cX7_isColumn 14 = .ok (.ifCond .le 21, 3) := by decide +kernel
theorem dX7_isColumn_17 : decode cX7_isColumn 17 = .ok (.iload_n 2, 1) := by decide +kernel
theorem dX7_isColumn_18 : decode cX7_isColumn 18 = .ok (.ifCond .lt 17, 3) := by decide +kernel
theorem dX7_isColumn_21 : decode cX7_isColumn 21 = .ok (.iload_n 2, 1) := by decide +kernel
theorem dX7_isColumn_22 : decode cX7_isColumn 22 = .ok (.aload_n 0, 1) := by decide +kernel
theorem dX7_isColumn_23 : decode cX7_isColumn 23 = .ok (.getfield 83, 3) := by decide +kernel
theorem dX7_isColumn_26 : decode cX7_isColumn 26 = .ok (.iload_n 1, 1) := by decide +kernel
theorem dX7_isColumn_27 : decode cX7_isColumn 27 = .ok (.iaload, 1) := by decide +kernel
theorem dX7_isColumn_28 : decode cX7_isColumn 28 = .ok (.if_icmp .ge 7, 3) := by decide +kernel
theorem dX7_isColumn_31 : decode cX7_isColumn 31 = .ok (.iconst 1, 1) := by decide +kernel
theorem dX7_isColumn_32 : decode cX7_isColumn 32 = .ok (.goto 4, 3) := by decide +kernel
theorem dX7_isColumn_35 : decode cX7_isColumn 35 = .ok (.iconst 0, 1) := by decide +kernel
theorem dX7_isColumn_36 : decode cX7_isColumn 36 = .ok (.ireturn, 1) := by decide +kernel
theorem dX7_width_0 : decode cX7_width 0 = .ok (.aload_n 0, 1) := by decide +kernel
theorem dX7_width_1 : decode cX7_width 1 = .ok (.iconst 0, 1) := by decide +kernel
theorem dX7_width_2 : decode cX7_width 2 = .ok (.putfield 114, 3) := by decide +kernel
theorem dX7_width_5 : decode cX7_width 5 = .ok (.aload_n 0, 1) := by decide +kernel
theorem dX7_width_6 : decode cX7_width 6 = .ok (.iload_n 1, 1) := by decide +kernel
theorem dX7_width_7 : decode cX7_width 7 = .ok (.iload_n 2, 1) := by decide +kernel
theorem dX7_width_8 : decode cX7_width 8 = .ok (.invokevirtual 216, 3) := by decide +kernel
theorem dX7_width_11 : decode cX7_width 11 = .ok (.ifCond .eq 17, 3) := by decide +kernel
theorem dX7_width_14 : decode cX7_width 14 = .ok (.aload_n 0, 1) := by decide +kernel
theorem dX7_width_15 : decode cX7_width 15 = .ok (.getfield 86, 3) := by decide +kernel
theorem dX7_width_18 : decode cX7_width 18 = .ok (.bipush 24, 2) := by decide +kernel
theorem dX7_width_20 : decode cX7_width 20 = .ok (.iload_n 1, 1) := by decide +kernel
theorem dX7_width_21 : decode cX7_width 21 = .ok (.imul, 1) := by decide +kernel
theorem dX7_width_22 : decode cX7_width 22 = .ok (.iload_n 2, 1) := by decide +kernel
theorem dX7_width_23 : decode cX7_width 23 = .ok (.iadd, 1) := by decide +kernel
theorem dX7_width_24 : decode cX7_width 24 = .ok (.iaload, 1) := by decide +kernel
theorem dX7_width_25 : decode cX7_width 25 = .ok (.goto 4, 3) := by decide +kernel
theorem dX7_width_28 : decode cX7_width 28 = .ok (.iconst (-1), 1) := by decide +kernel
theorem dX7_width_29 : decode cX7_width 29 = .ok (.ireturn, 1) := by decide +kernel
theorem dX7_isVoid_0 : decode cX7_isVoid 0 = .ok (.aload_n 0, 1) := by decide +kernel
theorem dX7_isVoid_1 : decode cX7_isVoid 1 = .ok (.iconst 0, 1) := by decide +kernel
theorem dX7_isVoid_2 : decode cX7_isVoid 2 = .ok (.putfield 114, 3) := by decide +kernel
theorem dX7_isVoid_5 : decode cX7_isVoid 5 = .ok (.aload_n 0, 1) := by decide +kernel
theorem dX7_isVoid_6 : decode cX7_isVoid 6 = .ok (.iload_n 1, 1) := by decide +kernel
theorem dX7_isVoid_7 : decode cX7_isVoid 7 = .ok (.iload_n 2, 1) := by decide +kernel
theorem dX7_isVoid_8 : decode cX7_isVoid 8 = .ok (.invokevirtual 216, 3) := by decide +kernel
theorem dX7_isVoid_11 : decode cX7_isVoid 11 = .ok (.ifCond .eq 21, 3) := by decide +kernel
theorem dX7_isVoid_14 : decode cX7_isVoid 14 = .ok (.aload_n 0, 1) := by decide +kernel
theorem dX7_isVoid_15 : decode cX7_isVoid 15 = .ok (.getfield 89, 3) := by decide +kernel
theorem dX7_isVoid_18 : decode cX7_isVoid 18 = .ok (.bipush 24, 2) := by decide +kernel
theorem dX7_isVoid_20 : decode cX7_isVoid 20 = .ok (.iload_n 1, 1) := by decide +kernel
theorem dX7_isVoid_21 : decode cX7_isVoid 21 = .ok (.imul, 1) := by decide +kernel
theorem dX7_isVoid_22 : decode cX7_isVoid 22 = .ok (.iload_n 2, 1) := by decide +kernel
theorem dX7_isVoid_23 : decode cX7_isVoid 23 = .ok (.iadd, 1) := by decide +kernel
theorem dX7_isVoid_24 : decode cX7_isVoid 24 = .ok (.baload, 1) := by decide +kernel
theorem dX7_isVoid_25 : decode cX7_isVoid 25 = .ok (.ifCond .eq 7, 3) := by decide +kernel
theorem dX7_isVoid_28 : decode cX7_isVoid 28 = .ok (.iconst 1, 1) := by decide +kernel
theorem dX7_isVoid_29 : decode cX7_isVoid 29 = .ok (.goto 4, 3) := by decide +kernel
theorem dX7_isVoid_32 : decode cX7_isVoid 32 = .ok (.iconst 0, 1) := by decide +kernel
theorem dX7_isVoid_33 : decode cX7_isVoid 33 = .ok (.ireturn, 1) := by decide +kernel
theorem dX7_place_0 : decode cX7_place 0 = .ok (.aload_n 0, 1) := by decide +kernel
theorem dX7_place_1 : decode cX7_place 1 = .ok (.aload_n 0, 1) := by decide +kernel
theorem dX7_place_2 : decode cX7_place 2 = .ok (.iload_n 1, 1) := by decide +kernel
theorem dX7_place_3 : decode cX7_place 3 = .ok (.iload_n 2, 1) := by decide +kernel
theorem dX7_place_4 : decode cX7_place 4 = .ok (.invokevirtual 216, 3) := by decide +kernel
theorem dX7_place_7 : decode cX7_place 7 = .ok (.ifCond .eq 7, 3) := by decide +kernel
theorem dX7_place_10 : decode cX7_place 10 = .ok (.iconst 0, 1) := by decide +kernel
theorem dX7_place_11 : decode cX7_place 11 = .ok (.goto 4, 3) := by decide +kernel
theorem dX7_place_14 : decode cX7_place 14 = .ok (.iconst 1, 1) := by decide +kernel
theorem dX7_place_15 : decode cX7_place 15 = .ok (.putfield 114, 3) := by decide +kernel
theorem dX7_place_18 : decode cX7_place 18 = .ok (.aload_n 0, 1) := by decide +kernel
theorem dX7_place_19 : decode cX7_place 19 = .ok (.getfield 114, 3) := by decide +kernel
theorem dX7_place_22 : decode cX7_place 22 = .ok (.ifCond .ne 17, 3) := by decide +kernel
theorem dX7_place_25 : decode cX7_place 25 = .ok (.aload_n 0, 1) := by decide +kernel
theorem dX7_place_26 : decode cX7_place 26 = .ok (.getfield 92, 3) := by decide +kernel
theorem dX7_place_29 : decode cX7_place 29 = .ok (.bipush 24, 2) := by decide +kernel
theorem dX7_place_31 : decode cX7_place 31 = .ok (.iload_n 1, 1) := by decide +kernel
theorem dX7_place_32 : decode cX7_place 32 = .ok (.imul, 1) := by decide +kernel
theorem dX7_place_33 : decode cX7_place 33 = .ok (.iload_n 2, 1) := by decide +kernel
theorem dX7_place_34 : decode cX7_place 34 = .ok (.iadd, 1) := by decide +kernel
theorem dX7_place_35 : decode cX7_place 35 = .ok (.laload, 1) := by decide +kernel
theorem dX7_place_36 : decode cX7_place 36 = .ok (.goto 4, 3) := by decide +kernel
theorem dX7_place_39 : decode cX7_place 39 = .ok (.lconst 0, 1) := by decide +kernel
theorem dX7_place_40 : decode cX7_place 40 = .ok (.lreturn, 1) := by decide +kernel
theorem dX7_at_0 : decode cX7_at 0 = .ok (.aload_n 0, 1) := by decide +kernel
theorem dX7_at_1 : decode cX7_at 1 = .ok (.aload_n 0, 1) := by decide +kernel
theorem dX7_at_2 : decode cX7_at 2 = .ok (.iload_n 1, 1) := by decide +kernel
theorem dX7_at_3 : decode cX7_at 3 = .ok (.invokevirtual 121, 3) := by decide +kernel
theorem dX7_at_6 : decode cX7_at 6 = .ok (.ifCond .eq 32, 3) := by decide +kernel
theorem dX7_at_9 : decode cX7_at 9 = .ok (.iload_n 2, 1) := by decide +kernel
theorem dX7_at_10 : decode cX7_at 10 = .ok (.ifCond .lt 28, 3) := by decide +kernel
theorem dX7_at_13 : decode cX7_at 13 = .ok (.iload_n 2, 1) := by decide +kernel
theorem dX7_at_14 : decode cX7_at 14 = .ok (.aload_n 0, 1) := by decide +kernel
theorem dX7_at_15 : decode cX7_at 15 = .ok (.getfield 47, 3) := by decide +kernel
theorem dX7_at_18 : decode cX7_at 18 = .ok (.iload_n 1, 1) := by decide +kernel
theorem dX7_at_19 : decode cX7_at 19 = .ok (.iaload, 1) := by decide +kernel
theorem dX7_at_20 : decode cX7_at 20 = .ok (.if_icmp .ge 18, 3) := by decide +kernel
theorem dX7_at_23 : decode cX7_at 23 = .ok (.iload_n 3, 1) := by decide +kernel
theorem dX7_at_24 : decode cX7_at 24 = .ok (.ifCond .lt 14, 3) := by decide +kernel
theorem dX7_at_27 : decode cX7_at 27 = .ok (.iload 4, 2) := by decide +kernel
theorem dX7_at_29 : decode cX7_at 29 = .ok (.ifCond .lt 9, 3) := by decide +kernel
theorem dX7_at_32 : decode cX7_at 32 = .ok (.iload 4, 2) := by decide +kernel
theorem dX7_at_34 : decode cX7_at 34 = .ok (.iconst 4, 1) := by decide +kernel
theorem dX7_at_35 : decode cX7_at 35 = .ok (.if_icmp .le 7, 3) := by decide +kernel
theorem dX7_at_38 : decode cX7_at 38 = .ok (.iconst 1, 1) := by decide +kernel
theorem dX7_at_39 : decode cX7_at 39 = .ok (.goto 23, 3) := by decide +kernel
theorem dX7_at_42 : decode cX7_at 42 = .ok (.iload_n 3, 1) := by decide +kernel
theorem dX7_at_43 : decode cX7_at 43 = .ok (.aload_n 0, 1) := by decide +kernel
theorem dX7_at_44 : decode cX7_at 44 = .ok (.getfield 56, 3) := by decide +kernel
theorem dX7_at_47 : decode cX7_at 47 = .ok (.bipush 20, 2) := by decide +kernel
theorem dX7_at_49 : decode cX7_at 49 = .ok (.iload_n 1, 1) := by decide +kernel
theorem dX7_at_50 : decode cX7_at 50 = .ok (.imul, 1) := by decide +kernel
theorem dX7_at_51 : decode cX7_at 51 = .ok (.iload_n 2, 1) := by decide +kernel
theorem dX7_at_52 : decode cX7_at 52 = .ok (.iadd, 1) := by decide +kernel
theorem dX7_at_53 : decode cX7_at 53 = .ok (.iaload, 1) := by decide +kernel
theorem dX7_at_54 : decode cX7_at 54 = .ok (.if_icmp .lt 7, 3) := by decide +kernel
theorem dX7_at_57 : decode cX7_at 57 = .ok (.iconst 1, 1) := by decide +kernel
theorem dX7_at_58 : decode cX7_at 58 = .ok (.goto 4, 3) := by decide +kernel
theorem dX7_at_61 : decode cX7_at 61 = .ok (.iconst 0, 1) := by decide +kernel
theorem dX7_at_62 : decode cX7_at 62 = .ok (.putfield 114, 3) := by decide +kernel
theorem dX7_at_65 : decode cX7_at 65 = .ok (.aload_n 0, 1) := by decide +kernel
theorem dX7_at_66 : decode cX7_at 66 = .ok (.getfield 114, 3) := by decide +kernel
theorem dX7_at_69 : decode cX7_at 69 = .ok (.ifCond .le 5, 3) := by decide +kernel
theorem dX7_at_72 : decode cX7_at 72 = .ok (.lconst 0, 1) := by decide +kernel
theorem dX7_at_73 : decode cX7_at 73 = .ok (.lreturn, 1) := by decide +kernel
theorem dX7_at_74 : decode cX7_at 74 = .ok (.sipush 480, 3) := by decide +kernel
theorem dX7_at_77 : decode cX7_at 77 = .ok (.iload_n 1, 1) := by decide +kernel
theorem dX7_at_78 : decode cX7_at 78 = .ok (.imul, 1) := by decide +kernel
theorem dX7_at_79 : decode cX7_at 79 = .ok (.aload_n 0, 1) := by decide +kernel
theorem dX7_at_80 : decode cX7_at 80 = .ok (.getfield 53, 3) := by decide +kernel
theorem dX7_at_83 : decode cX7_at 83 = .ok (.bipush 20, 2) := by decide +kernel
theorem dX7_at_85 : decode cX7_at 85 = .ok (.iload_n 1, 1) := by decide +kernel
theorem dX7_at_86 : decode cX7_at 86 = .ok (.imul, 1) := by decide +kernel
theorem dX7_at_87 : decode cX7_at 87 = .ok (.iload_n 2, 1) := by decide +kernel
theorem dX7_at_88 : decode cX7_at 88 = .ok (.iadd, 1) := by decide +kernel
theorem dX7_at_89 : decode cX7_at 89 = .ok (.iaload, 1) := by decide +kernel
theorem dX7_at_90 : decode cX7_at 90 = .ok (.iadd, 1) := by decide +kernel
theorem dX7_at_91 : decode cX7_at 91 = .ok (.iload_n 3, 1) := by decide +kernel
theorem dX7_at_92 : decode cX7_at 92 = .ok (.iadd, 1) := by decide +kernel
theorem dX7_at_93 : decode cX7_at 93 = .ok (.istore 5, 2) := by decide +kernel
theorem dX7_at_95 : decode cX7_at 95 = .ok (.iload 4, 2) := by decide +kernel
theorem dX7_at_97 : decode cX7_at 97 = .ok (.iconst 3, 1) := by decide +kernel
theorem dX7_at_98 : decode cX7_at 98 = .ok (.if_icmp .ge 45, 3) := by decide +kernel
theorem dX7_at_101 : decode cX7_at 101 = .ok (.iload 4, 2) := by decide +kernel
theorem dX7_at_103 : decode cX7_at 103 = .ok (.ifCond .ne 14, 3) := by decide +kernel
theorem dX7_at_106 : decode cX7_at 106 = .ok (.aload_n 0, 1) := by decide +kernel
theorem dX7_at_107 : decode cX7_at 107 = .ok (.getfield 62, 3) := by decide +kernel
theorem dX7_at_110 : decode cX7_at 110 = .ok (.iload 5, 2) := by decide +kernel
theorem dX7_at_112 : decode cX7_at 112 = .ok (.iaload, 1) := by decide +kernel
theorem dX7_at_113 : decode cX7_at 113 = .ok (.i2l, 1) := by decide +kernel
theorem dX7_at_114 : decode cX7_at 114 = .ok (.goto 28, 3) := by decide +kernel
theorem dX7_at_117 : decode cX7_at 117 = .ok (.iload 4, 2) := by decide +kernel
theorem dX7_at_119 : decode cX7_at 119 = .ok (.iconst 1, 1) := by decide +kernel
theorem dX7_at_120 : decode cX7_at 120 = .ok (.if_icmp .ne 14, 3) := by decide +kernel
theorem dX7_at_123 : decode cX7_at 123 = .ok (.aload_n 0, 1) := by decide +kernel
theorem dX7_at_124 : decode cX7_at 124 = .ok (.getfield 65, 3) := by decide +kernel
theorem dX7_at_127 : decode cX7_at 127 = .ok (.iload 5, 2) := by decide +kernel
theorem dX7_at_129 : decode cX7_at 129 = .ok (.iaload, 1) := by decide +kernel
theorem dX7_at_130 : decode cX7_at 130 = .ok (.i2l, 1) := by decide +kernel
theorem dX7_at_131 : decode cX7_at 131 = .ok (.goto 11, 3) := by decide +kernel
theorem dX7_at_134 : decode cX7_at 134 = .ok (.aload_n 0, 1) := by decide +kernel
theorem dX7_at_135 : decode cX7_at 135 = .ok (.getfield 68, 3) := by decide +kernel
theorem dX7_at_138 : decode cX7_at 138 = .ok (.iload 5, 2) := by decide +kernel
theorem dX7_at_140 : decode cX7_at 140 = .ok (.iaload, 1) := by decide +kernel
theorem dX7_at_141 : decode cX7_at 141 = .ok (.i2l, 1) := by decide +kernel
theorem dX7_at_142 : decode cX7_at 142 = .ok (.lreturn, 1) := by decide +kernel
theorem dX7_at_143 : decode cX7_at 143 = .ok (.aload_n 0, 1) := by decide +kernel
theorem dX7_at_144 : decode cX7_at 144 = .ok (.getfield 65, 3) := by decide +kernel
theorem dX7_at_147 : decode cX7_at 147 = .ok (.iload 5, 2) := by decide +kernel
theorem dX7_at_149 : decode cX7_at 149 = .ok (.iaload, 1) := by decide +kernel
theorem dX7_at_150 : decode cX7_at 150 = .ok (.aload_n 0, 1) := by decide +kernel
theorem dX7_at_151 : decode cX7_at 151 = .ok (.getfield 68, 3) := by decide +kernel
theorem dX7_at_154 : decode cX7_at 154 = .ok (.iload 5, 2) := by decide +kernel
theorem dX7_at_156 : decode cX7_at 156 = .ok (.iaload, 1) := by decide +kernel
theorem dX7_at_157 : decode cX7_at 157 = .ok (.iadd, 1) := by decide +kernel
theorem dX7_at_158 : decode cX7_at 158 = .ok (.iconst 1, 1) := by decide +kernel
theorem dX7_at_159 : decode cX7_at 159 = .ok (.isub, 1) := by decide +kernel
theorem dX7_at_160 : decode cX7_at 160 = .ok (.istore 6, 2) := by decide +kernel
theorem dX7_at_162 : decode cX7_at 162 = .ok (.aload_n 0, 1) := by decide +kernel
theorem dX7_at_163 : decode cX7_at 163 = .ok (.iload_n 1, 1) := by decide +kernel
theorem dX7_at_164 : decode cX7_at 164 = .ok (.iload 6, 2) := by decide +kernel
theorem dX7_at_166 : decode cX7_at 166 = .ok (.invokevirtual 216, 3) := by decide +kernel
theorem dX7_at_169 : decode cX7_at 169 = .ok (.ifCond .ne 5, 3) := by decide +kernel
theorem dX7_at_172 : decode cX7_at 172 = .ok (.lconst 0, 1) := by decide +kernel
theorem dX7_at_173 : decode cX7_at 173 = .ok (.lreturn, 1) := by decide +kernel
theorem dX7_at_174 : decode cX7_at 174 = .ok (.aload_n 0, 1) := by decide +kernel
theorem dX7_at_175 : decode cX7_at 175 = .ok (.getfield 92, 3) := by decide +kernel
theorem dX7_at_178 : decode cX7_at 178 = .ok (.bipush 24, 2) := by decide +kernel
theorem dX7_at_180 : decode cX7_at 180 = .ok (.iload_n 1, 1) := by decide +kernel
theorem dX7_at_181 : decode cX7_at 181 = .ok (.imul, 1) := by decide +kernel
theorem dX7_at_182 : decode cX7_at 182 = .ok (.aload_n 0, 1) := by decide +kernel
theorem dX7_at_183 : decode cX7_at 183 = .ok (.getfield 65, 3) := by decide +kernel
theorem dX7_at_186 : decode cX7_at 186 = .ok (.iload 5, 2) := by decide +kernel
theorem dX7_at_188 : decode cX7_at 188 = .ok (.iaload, 1) := by decide +kernel
theorem dX7_at_189 : decode cX7_at 189 = .ok (.iadd, 1) := by decide +kernel
theorem dX7_at_190 : decode cX7_at 190 = .ok (.laload, 1) := by decide +kernel
theorem dX7_at_191 : decode cX7_at 191 = .ok (.lstore 7, 2) := by decide +kernel
theorem dX7_at_193 : decode cX7_at 193 = .ok (.iload 4, 2) := by decide +kernel
theorem dX7_at_195 : decode cX7_at 195 = .ok (.iconst 3, 1) := by decide +kernel
theorem dX7_at_196 : decode cX7_at 196 = .ok (.if_icmp .ne 8, 3) := by decide +kernel
theorem dX7_at_199 : decode cX7_at 199 = .ok (.lload 7, 2) := by decide +kernel
theorem dX7_at_201 : decode cX7_at 201 = .ok (.goto 32, 3) := by decide +kernel
theorem dX7_at_204 : decode cX7_at 204 = .ok (.aload_n 0, 1) := by decide +kernel
theorem dX7_at_205 : decode cX7_at 205 = .ok (.getfield 92, 3) := by decide +kernel
theorem dX7_at_208 : decode cX7_at 208 = .ok (.bipush 24, 2) := by decide +kernel
theorem dX7_at_210 : decode cX7_at 210 = .ok (.iload_n 1, 1) := by decide +kernel
theorem dX7_at_211 : decode cX7_at 211 = .ok (.imul, 1) := by decide +kernel
theorem dX7_at_212 : decode cX7_at 212 = .ok (.iload 6, 2) := by decide +kernel
theorem dX7_at_214 : decode cX7_at 214 = .ok (.iadd, 1) := by decide +kernel
theorem dX7_at_215 : decode cX7_at 215 = .ok (.laload, 1) := by decide +kernel
theorem dX7_at_216 : decode cX7_at 216 = .ok (.aload_n 0, 1) := by decide +kernel
theorem dX7_at_217 : decode cX7_at 217 = .ok (.getfield 86, 3) := by decide +kernel
theorem dX7_at_220 : decode cX7_at 220 = .ok (.bipush 24, 2) := by decide +kernel
theorem dX7_at_222 : decode cX7_at 222 = .ok (.iload_n 1, 1) := by decide +kernel
theorem dX7_at_223 : decode cX7_at 223 = .ok (.imul, 1) := by decide +kernel
theorem dX7_at_224 : decode cX7_at 224 = .ok (.iload 6, 2) := by decide +kernel
theorem dX7_at_226 : decode cX7_at 226 = .ok (.iadd, 1) := by decide +kernel
theorem dX7_at_227 : decode cX7_at 227 = .ok (.iaload, 1) := by decide +kernel
theorem dX7_at_228 : decode cX7_at 228 = .ok (.i2l, 1) := by decide +kernel
theorem dX7_at_229 : decode cX7_at 229 = .ok (.ladd, 1) := by decide +kernel
theorem dX7_at_230 : decode cX7_at 230 = .ok (.lload 7, 2) := by decide +kernel
theorem dX7_at_232 : decode cX7_at 232 = .ok (.lsub, 1) := by decide +kernel
theorem dX7_at_233 : decode cX7_at 233 = .ok (.lreturn, 1) := by decide +kernel
theorem dX7_item_0 : decode cX7_item 0 = .ok (.aload_n 0, 1) := by decide +kernel
theorem dX7_item_1 : decode cX7_item 1 = .ok (.aload_n 0, 1) := by decide +kernel
theorem dX7_item_2 : decode cX7_item 2 = .ok (.iload_n 1, 1) := by decide +kernel
theorem dX7_item_3 : decode cX7_item 3 = .ok (.invokevirtual 121, 3) := by decide +kernel
theorem dX7_item_6 : decode cX7_item 6 = .ok (.ifCond .eq 17, 3) := by decide +kernel
theorem dX7_item_9 : decode cX7_item 9 = .ok (.iload_n 2, 1) := by decide +kernel
theorem dX7_item_10 : decode cX7_item 10 = .ok (.ifCond .lt 13, 3) := by decide +kernel
theorem dX7_item_13 : decode cX7_item 13 = .ok (.iload_n 2, 1) := by decide +kernel
theorem dX7_item_14 : decode cX7_item 14 = .ok (.aload_n 0, 1) := by decide +kernel
theorem dX7_item_15 : decode cX7_item 15 = .ok (.getfield 71, 3) := by decide +kernel
theorem dX7_item_18 : decode cX7_item 18 = .ok (.iload_n 1, 1) := by decide +kernel
theorem dX7_item_19 : decode cX7_item 19 = .ok (.iaload, 1) := by decide +kernel
theorem dX7_item_20 : decode cX7_item 20 = .ok (.if_icmp .lt 7, 3) := by decide +kernel
theorem dX7_item_23 : decode cX7_item 23 = .ok (.iconst 1, 1) := by decide +kernel
theorem dX7_item_24 : decode cX7_item 24 = .ok (.goto 4, 3) := by decide +kernel
theorem dX7_item_27 : decode cX7_item 27 = .ok (.iconst 0, 1) := by decide +kernel
theorem dX7_item_28 : decode cX7_item 28 = .ok (.putfield 114, 3) := by decide +kernel
theorem dX7_item_31 : decode cX7_item 31 = .ok (.aload_n 0, 1) := by decide +kernel
theorem dX7_item_32 : decode cX7_item 32 = .ok (.getfield 114, 3) := by decide +kernel
theorem dX7_item_35 : decode cX7_item 35 = .ok (.ifCond .ne 17, 3) := by decide +kernel
theorem dX7_item_38 : decode cX7_item 38 = .ok (.aload_n 0, 1) := by decide +kernel
theorem dX7_item_39 : decode cX7_item 39 = .ok (.getfield 74, 3) := by decide +kernel
theorem dX7_item_42 : decode cX7_item 42 = .ok (.bipush 40, 2) := by decide +kernel
theorem dX7_item_44 : decode cX7_item 44 = .ok (.iload_n 1, 1) := by decide +kernel
theorem dX7_item_45 : decode cX7_item 45 = .ok (.imul, 1) := by decide +kernel
theorem dX7_item_46 : decode cX7_item 46 = .ok (.iload_n 2, 1) := by decide +kernel
theorem dX7_item_47 : decode cX7_item 47 = .ok (.iadd, 1) := by decide +kernel
theorem dX7_item_48 : decode cX7_item 48 = .ok (.iaload, 1) := by decide +kernel
theorem dX7_item_49 : decode cX7_item 49 = .ok (.goto 4, 3) := by decide +kernel
theorem dX7_item_52 : decode cX7_item 52 = .ok (.iconst 0, 1) := by decide +kernel
theorem dX7_item_53 : decode cX7_item 53 = .ok (.ireturn, 1) := by decide +kernel
theorem dX7_count_0 : decode cX7_count 0 = .ok (.aload_n 0, 1) := by decide +kernel
theorem dX7_count_1 : decode cX7_count 1 = .ok (.aload_n 0, 1) := by decide +kernel
theorem dX7_count_2 : decode cX7_count 2 = .ok (.iload_n 1, 1) := by decide +kernel
theorem dX7_count_3 : decode cX7_count 3 = .ok (.invokevirtual 121, 3) := by decide +kernel
theorem dX7_count_6 : decode cX7_count 6 = .ok (.ifCond .eq 13, 3) := by decide +kernel
theorem dX7_count_9 : decode cX7_count 9 = .ok (.iload_n 2, 1) := by decide +kernel
theorem dX7_count_10 : decode cX7_count 10 = .ok (.ifCond .lt 9, 3) := by decide +kernel
theorem dX7_count_13 : decode cX7_count 13 = .ok (.iload_n 2, 1) := by decide +kernel
theorem dX7_count_14 : decode cX7_count 14 = .ok (.bipush 11, 2) := by decide +kernel
theorem dX7_count_16 : decode cX7_count 16 = .ok (.if_icmp .le 7, 3) := by decide +kernel
theorem dX7_count_19 : decode cX7_count 19 = .ok (.iconst 1, 1) := by decide +kernel
theorem dX7_count_20 : decode cX7_count 20 = .ok (.goto 4, 3) := by decide +kernel
theorem dX7_count_23 : decode cX7_count 23 = .ok (.iconst 0, 1) := by decide +kernel
theorem dX7_count_24 : decode cX7_count 24 = .ok (.putfield 114, 3) := by decide +kernel
theorem dX7_count_27 : decode cX7_count 27 = .ok (.aload_n 0, 1) := by decide +kernel
theorem dX7_count_28 : decode cX7_count 28 = .ok (.getfield 114, 3) := by decide +kernel
theorem dX7_count_31 : decode cX7_count 31 = .ok (.ifCond .le 5, 3) := by decide +kernel
theorem dX7_count_34 : decode cX7_count 34 = .ok (.lconst 0, 1) := by decide +kernel
theorem dX7_count_35 : decode cX7_count 35 = .ok (.lreturn, 1) := by decide +kernel
theorem dX7_count_36 : decode cX7_count 36 = .ok (.iload_n 2, 1) := by decide +kernel
theorem dX7_count_37 : decode cX7_count 37 = .ok (.tableswitch 172 0 10 #[59, 80, 88, 96, 104, 119, 127, 135, 142, 156, 164], 59) := by decide +kernel
theorem dX7_count_96 : decode cX7_count 96 = .ok (.aload_n 0, 1) := by decide +kernel
theorem dX7_count_97 : decode cX7_count 97 = .ok (.getfield 16, 3) := by decide +kernel
theorem dX7_count_100 : decode cX7_count 100 = .ok (.iload_n 1, 1) := by decide +kernel
theorem dX7_count_101 : decode cX7_count 101 = .ok (.baload, 1) := by decide +kernel
theorem dX7_count_102 : decode cX7_count 102 = .ok (.ifCond .eq 13, 3) := by decide +kernel
theorem dX7_count_105 : decode cX7_count 105 = .ok (.aload_n 0, 1) := by decide +kernel
theorem dX7_count_106 : decode cX7_count 106 = .ok (.getfield 20, 3) := by decide +kernel
theorem dX7_count_109 : decode cX7_count 109 = .ok (.iload_n 1, 1) := by decide +kernel
theorem dX7_count_110 : decode cX7_count 110 = .ok (.iaload, 1) := by decide +kernel
theorem dX7_count_111 : decode cX7_count 111 = .ok (.i2l, 1) := by decide +kernel
theorem dX7_count_112 : decode cX7_count 112 = .ok (.goto 4, 3) := by decide +kernel
theorem dX7_count_115 : decode cX7_count 115 = .ok (.lconst 0, 1) := by decide +kernel
theorem dX7_count_116 : decode cX7_count 116 = .ok (.lreturn, 1) := by decide +kernel
theorem dX7_count_117 : decode cX7_count 117 = .ok (.aload_n 0, 1) := by decide +kernel
theorem dX7_count_118 : decode cX7_count 118 = .ok (.getfield 23, 3) := by decide +kernel
theorem dX7_count_121 : decode cX7_count 121 = .ok (.iload_n 1, 1) := by decide +kernel
theorem dX7_count_122 : decode cX7_count 122 = .ok (.iaload, 1) := by decide +kernel
theorem dX7_count_123 : decode cX7_count 123 = .ok (.i2l, 1) := by decide +kernel
theorem dX7_count_124 : decode cX7_count 124 = .ok (.lreturn, 1) := by decide +kernel
theorem dX7_count_125 : decode cX7_count 125 = .ok (.aload_n 0, 1) := by decide +kernel
theorem dX7_count_126 : decode cX7_count 126 = .ok (.getfield 47, 3) := by decide +kernel
theorem dX7_count_129 : decode cX7_count 129 = .ok (.iload_n 1, 1) := by decide +kernel
theorem dX7_count_130 : decode cX7_count 130 = .ok (.iaload, 1) := by decide +kernel
theorem dX7_count_131 : decode cX7_count 131 = .ok (.i2l, 1) := by decide +kernel
theorem dX7_count_132 : decode cX7_count 132 = .ok (.lreturn, 1) := by decide +kernel
theorem dX7_count_133 : decode cX7_count 133 = .ok (.aload_n 0, 1) := by decide +kernel
theorem dX7_count_134 : decode cX7_count 134 = .ok (.getfield 59, 3) := by decide +kernel
theorem dX7_count_137 : decode cX7_count 137 = .ok (.iload_n 1, 1) := by decide +kernel
theorem dX7_count_138 : decode cX7_count 138 = .ok (.iaload, 1) := by decide +kernel
theorem dX7_count_139 : decode cX7_count 139 = .ok (.i2l, 1) := by decide +kernel
theorem dX7_count_140 : decode cX7_count 140 = .ok (.lreturn, 1) := by decide +kernel
theorem dX7_count_141 : decode cX7_count 141 = .ok (.aload_n 0, 1) := by decide +kernel
theorem dX7_count_142 : decode cX7_count 142 = .ok (.getfield 50, 3) := by decide +kernel
theorem dX7_count_145 : decode cX7_count 145 = .ok (.iload_n 1, 1) := by decide +kernel
theorem dX7_count_146 : decode cX7_count 146 = .ok (.baload, 1) := by decide +kernel
theorem dX7_count_147 : decode cX7_count 147 = .ok (.ifCond .eq 7, 3) := by decide +kernel
theorem dX7_count_150 : decode cX7_count 150 = .ok (.lconst 1, 1) := by decide +kernel
theorem dX7_count_151 : decode cX7_count 151 = .ok (.goto 4, 3) := by decide +kernel
theorem dX7_count_154 : decode cX7_count 154 = .ok (.lconst 0, 1) := by decide +kernel
theorem dX7_count_155 : decode cX7_count 155 = .ok (.lreturn, 1) := by decide +kernel
theorem dX7_count_156 : decode cX7_count 156 = .ok (.aload_n 0, 1) := by decide +kernel
theorem dX7_count_157 : decode cX7_count 157 = .ok (.getfield 13, 3) := by decide +kernel
theorem dX7_count_160 : decode cX7_count 160 = .ok (.iload_n 1, 1) := by decide +kernel
theorem dX7_count_161 : decode cX7_count 161 = .ok (.iaload, 1) := by decide +kernel
theorem dX7_count_162 : decode cX7_count 162 = .ok (.i2l, 1) := by decide +kernel
theorem dX7_count_163 : decode cX7_count 163 = .ok (.lreturn, 1) := by decide +kernel
theorem dX7_count_164 : decode cX7_count 164 = .ok (.aload_n 0, 1) := by decide +kernel
theorem dX7_count_165 : decode cX7_count 165 = .ok (.getfield 83, 3) := by decide +kernel
theorem dX7_count_168 : decode cX7_count 168 = .ok (.iload_n 1, 1) := by decide +kernel
theorem dX7_count_169 : decode cX7_count 169 = .ok (.iaload, 1) := by decide +kernel
theorem dX7_count_170 : decode cX7_count 170 = .ok (.i2l, 1) := by decide +kernel
theorem dX7_count_171 : decode cX7_count 171 = .ok (.lreturn, 1) := by decide +kernel
theorem dX7_count_172 : decode cX7_count 172 = .ok (.aload_n 0, 1) := by decide +kernel
theorem dX7_count_173 : decode cX7_count 173 = .ok (.getfield 96, 3) := by decide +kernel
theorem dX7_count_176 : decode cX7_count 176 = .ok (.iload_n 1, 1) := by decide +kernel
theorem dX7_count_177 : decode cX7_count 177 = .ok (.laload, 1) := by decide +kernel
theorem dX7_count_178 : decode cX7_count 178 = .ok (.lreturn, 1) := by decide +kernel
theorem dX7_count_179 : decode cX7_count 179 = .ok (.aload_n 0, 1) := by decide +kernel
theorem dX7_count_180 : decode cX7_count 180 = .ok (.getfield 99, 3) := by decide +kernel
theorem dX7_count_183 : decode cX7_count 183 = .ok (.iload_n 1, 1) := by decide +kernel
theorem dX7_count_184 : decode cX7_count 184 = .ok (.laload, 1) := by decide +kernel
theorem dX7_count_185 : decode cX7_count 185 = .ok (.aload_n 0, 1) := by decide +kernel
theorem dX7_count_186 : decode cX7_count 186 = .ok (.getfield 96, 3) := by decide +kernel
theorem dX7_count_189 : decode cX7_count 189 = .ok (.iload_n 1, 1) := by decide +kernel
theorem dX7_count_190 : decode cX7_count 190 = .ok (.laload, 1) := by decide +kernel
theorem dX7_count_191 : decode cX7_count 191 = .ok (.lsub, 1) := by decide +kernel
theorem dX7_count_192 : decode cX7_count 192 = .ok (.lreturn, 1) := by decide +kernel
theorem dX7_count_193 : decode cX7_count 193 = .ok (.aload_n 0, 1) := by decide +kernel
theorem dX7_count_194 : decode cX7_count 194 = .ok (.getfield 80, 3) := by decide +kernel
theorem dX7_count_197 : decode cX7_count 197 = .ok (.iload_n 1, 1) := by decide +kernel
theorem dX7_count_198 : decode cX7_count 198 = .ok (.iaload, 1) := by decide +kernel
theorem dX7_count_199 : decode cX7_count 199 = .ok (.i2l, 1) := by decide +kernel
theorem dX7_count_200 : decode cX7_count 200 = .ok (.lreturn, 1) := by decide +kernel
theorem dX7_count_201 : decode cX7_count 201 = .ok (.aload_n 0, 1) := by decide +kernel
theorem dX7_count_202 : decode cX7_count 202 = .ok (.getfield 102, 3) := by decide +kernel
theorem dX7_count_205 : decode cX7_count 205 = .ok (.iload_n 1, 1) := by decide +kernel
theorem dX7_count_206 : decode cX7_count 206 = .ok (.iaload, 1) := by decide +kernel
theorem dX7_count_207 : decode cX7_count 207 = .ok (.i2l, 1) := by decide +kernel
theorem dX7_count_208 : decode cX7_count 208 = .ok (.lreturn, 1) := by decide +kernel
theorem dX7_count_209 : decode cX7_count 209 = .ok (.aload_n 0, 1) := by decide +kernel
theorem dX7_count_210 : decode cX7_count 210 = .ok (.getfield 105, 3) := by decide +kernel
theorem dX7_count_213 : decode cX7_count 213 = .ok (.iload_n 1, 1) := by decide +kernel
theorem dX7_count_214 : decode cX7_count 214 = .ok (.laload, 1) := by decide +kernel
theorem dX7_count_215 : decode cX7_count 215 = .ok (.lreturn, 1) := by decide +kernel
