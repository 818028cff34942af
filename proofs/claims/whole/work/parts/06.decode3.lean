theorem dX10_way_52 : decode cX10_way 52 = .ok (.invokestatic 93, 3) := by decide +kernel
theorem dX10_way_55 : decode cX10_way 55 = .ok (.iaload, 1) := by decide +kernel
theorem dX10_way_56 : decode cX10_way 56 = .ok (.ldc 122, 2) := by decide +kernel
theorem dX10_way_58 : decode cX10_way 58 = .ok (.if_icmp .ne 5, 3) := by decide +kernel
theorem dX10_way_61 : decode cX10_way 61 = .ok (.iconst (-1), 1) := by decide +kernel
theorem dX10_way_62 : decode cX10_way 62 = .ok (.ireturn, 1) := by decide +kernel
theorem dX10_way_63 : decode cX10_way 63 = .ok (.iconst 4, 1) := by decide +kernel
theorem dX10_way_64 : decode cX10_way 64 = .ok (.newarray .int, 2) := by decide +kernel
theorem dX10_way_66 : decode cX10_way 66 = .ok (.dup, 1) := by decide +kernel
theorem dX10_way_67 : decode cX10_way 67 = .ok (.iconst 0, 1) := by decide +kernel
theorem dX10_way_68 : decode cX10_way 68 = .ok (.aload_n 0, 1) := by decide +kernel
theorem dX10_way_69 : decode cX10_way 69 = .ok (.getfield 56, 3) := by decide +kernel
theorem dX10_way_72 : decode cX10_way 72 = .ok (.iload_n 1, 1) := by decide +kernel
theorem dX10_way_73 : decode cX10_way 73 = .ok (.iload_n 2, 1) := by decide +kernel
theorem dX10_way_74 : decode cX10_way 74 = .ok (.invokestatic 93, 3) := by decide +kernel
theorem dX10_way_77 : decode cX10_way 77 = .ok (.iaload, 1) := by decide +kernel
theorem dX10_way_78 : decode cX10_way 78 = .ok (.iastore, 1) := by decide +kernel
theorem dX10_way_79 : decode cX10_way 79 = .ok (.dup, 1) := by decide +kernel
theorem dX10_way_80 : decode cX10_way 80 = .ok (.iconst 1, 1) := by decide +kernel
theorem dX10_way_81 : decode cX10_way 81 = .ok (.iconst 0, 1) := by decide +kernel
theorem dX10_way_82 : decode cX10_way 82 = .ok (.iastore, 1) := by decide +kernel
theorem dX10_way_83 : decode cX10_way 83 = .ok (.dup, 1) := by decide +kernel
theorem dX10_way_84 : decode cX10_way 84 = .ok (.iconst 2, 1) := by decide +kernel
theorem dX10_way_85 : decode cX10_way 85 = .ok (.iconst 0, 1) := by decide +kernel
theorem dX10_way_86 : decode cX10_way 86 = .ok (.iastore, 1) := by decide +kernel
theorem dX10_way_87 : decode cX10_way 87 = .ok (.dup, 1) := by decide +kernel
theorem dX10_way_88 : decode cX10_way 88 = .ok (.iconst 3, 1) := by decide +kernel
theorem dX10_way_89 : decode cX10_way 89 = .ok (.iconst (-1), 1) := by decide +kernel
theorem dX10_way_90 : decode cX10_way 90 = .ok (.iastore, 1) := by decide +kernel
theorem dX10_way_91 : decode cX10_way 91 = .ok (.astore 6, 2) := by decide +kernel
theorem dX10_way_93 : decode cX10_way 93 = .ok (.iload_n 1, 1) := by decide +kernel
theorem dX10_way_94 : decode cX10_way 94 = .ok (.istore 7, 2) := by decide +kernel
theorem dX10_way_96 : decode cX10_way 96 = .ok (.iload_n 2, 1) := by decide +kernel
theorem dX10_way_97 : decode cX10_way 97 = .ok (.istore 8, 2) := by decide +kernel
theorem dX10_way_99 : decode cX10_way 99 = .ok (.iload 7, 2) := by decide +kernel
theorem dX10_way_101 : decode cX10_way 101 = .ok (.iload_n 3, 1) := by decide +kernel
theorem dX10_way_102 : decode cX10_way 102 = .ok (.if_icmp .ne 10, 3) := by decide +kernel
theorem dX10_way_105 : decode cX10_way 105 = .ok (.iload 8, 2) := by decide +kernel
theorem dX10_way_107 : decode cX10_way 107 = .ok (.iload 4, 2) := by decide +kernel
theorem dX10_way_109 : decode cX10_way 109 = .ok (.if_icmp .eq 76, 3) := by decide +kernel
theorem dX10_way_112 : decode cX10_way 112 = .ok (.aload_n 0, 1) := by decide +kernel
theorem dX10_way_113 : decode cX10_way 113 = .ok (.iload 7, 2) := by decide +kernel
theorem dX10_way_115 : decode cX10_way 115 = .ok (.iload 8, 2) := by decide +kernel
theorem dX10_way_117 : decode cX10_way 117 = .ok (.invokevirtual 130, 3) := by decide +kernel
theorem dX10_way_120 : decode cX10_way 120 = .ok (.istore 9, 2) := by decide +kernel
theorem dX10_way_122 : decode cX10_way 122 = .ok (.aload 6, 2) := by decide +kernel
theorem dX10_way_124 : decode cX10_way 124 = .ok (.iconst 2, 1) := by decide +kernel
theorem dX10_way_125 : decode cX10_way 125 = .ok (.iaload, 1) := by decide +kernel
theorem dX10_way_126 : decode cX10_way 126 = .ok (.ifCond .ne 9, 3) := by decide +kernel
theorem dX10_way_129 : decode cX10_way 129 = .ok (.aload 6, 2) := by decide +kernel
theorem dX10_way_131 : decode cX10_way 131 = .ok (.iconst 3, 1) := by decide +kernel
theorem dX10_way_132 : decode cX10_way 132 = .ok (.iload 9, 2) := by decide +kernel
theorem dX10_way_134 : decode cX10_way 134 = .ok (.iastore, 1) := by decide +kernel
theorem dX10_way_135 : decode cX10_way 135 = .ok (.aload 6, 2) := by decide +kernel
theorem dX10_way_137 : decode cX10_way 137 = .ok (.iconst 1, 1) := by decide +kernel
theorem dX10_way_138 : decode cX10_way 138 = .ok (.dup2, 1) := by decide +kernel
theorem dX10_way_139 : decode cX10_way 139 = .ok (.iaload, 1) := by decide +kernel
theorem dX10_way_140 : decode cX10_way 140 = .ok (.aload_n 0, 1) := by decide +kernel
theorem dX10_way_141 : decode cX10_way 141 = .ok (.iload 7, 2) := by decide +kernel
theorem dX10_way_143 : decode cX10_way 143 = .ok (.iload 8, 2) := by decide +kernel
theorem dX10_way_145 : decode cX10_way 145 = .ok (.iload 9, 2) := by decide +kernel
theorem dX10_way_147 : decode cX10_way 147 = .ok (.invokevirtual 133, 3) := by decide +kernel
theorem dX10_way_150 : decode cX10_way 150 = .ok (.iadd, 1) := by decide +kernel
theorem dX10_way_151 : decode cX10_way 151 = .ok (.iastore, 1) := by decide +kernel
theorem dX10_way_152 : decode cX10_way 152 = .ok (.aload 6, 2) := by decide +kernel
theorem dX10_way_154 : decode cX10_way 154 = .ok (.iconst 2, 1) := by decide +kernel
theorem dX10_way_155 : decode cX10_way 155 = .ok (.dup2, 1) := by decide +kernel
theorem dX10_way_156 : decode cX10_way 156 = .ok (.iaload, 1) := by decide +kernel
theorem dX10_way_157 : decode cX10_way 157 = .ok (.iconst 1, 1) := by decide +kernel
theorem dX10_way_158 : decode cX10_way 158 = .ok (.iadd, 1) := by decide +kernel
theorem dX10_way_159 : decode cX10_way 159 = .ok (.iastore, 1) := by decide +kernel
theorem dX10_way_160 : decode cX10_way 160 = .ok (.iload 7, 2) := by decide +kernel
theorem dX10_way_162 : decode cX10_way 162 = .ok (.getstatic 106, 3) := by decide +kernel
theorem dX10_way_165 : decode cX10_way 165 = .ok (.iload 9, 2) := by decide +kernel
theorem dX10_way_167 : decode cX10_way 167 = .ok (.iaload, 1) := by decide +kernel
theorem dX10_way_168 : decode cX10_way 168 = .ok (.iadd, 1) := by decide +kernel
theorem dX10_way_169 : decode cX10_way 169 = .ok (.istore 7, 2) := by decide +kernel
theorem dX10_way_171 : decode cX10_way 171 = .ok (.iload 8, 2) := by decide +kernel
theorem dX10_way_173 : decode cX10_way 173 = .ok (.getstatic 109, 3) := by decide +kernel
theorem dX10_way_176 : decode cX10_way 176 = .ok (.iload 9, 2) := by decide +kernel
theorem dX10_way_178 : decode cX10_way 178 = .ok (.iaload, 1) := by decide +kernel
theorem dX10_way_179 : decode cX10_way 179 = .ok (.iadd, 1) := by decide +kernel
theorem dX10_way_180 : decode cX10_way 180 = .ok (.istore 8, 2) := by decide +kernel
theorem dX10_way_182 : decode cX10_way 182 = .ok (.goto (-83), 3) := by decide +kernel
theorem dX10_way_185 : decode cX10_way 185 = .ok (.aload 6, 2) := by decide +kernel
theorem dX10_way_187 : decode cX10_way 187 = .ok (.iload 5, 2) := by decide +kernel
theorem dX10_way_189 : decode cX10_way 189 = .ok (.iaload, 1) := by decide +kernel
theorem dX10_way_190 : decode cX10_way 190 = .ok (.ireturn, 1) := by decide +kernel
theorem dX10_isSeen_0 : decode cX10_isSeen 0 = .ok (.iload_n 1, 1) := by decide +kernel
theorem dX10_isSeen_1 : decode cX10_isSeen 1 = .ok (.iload_n 2, 1) := by decide +kernel
theorem dX10_isSeen_2 : decode cX10_isSeen 2 = .ok (.iload_n 3, 1) := by decide +kernel
theorem dX10_isSeen_3 : decode cX10_isSeen 3 = .ok (.iload 4, 2) := by decide +kernel
theorem dX10_isSeen_5 : decode cX10_isSeen 5 = .ok (.invokestatic 136, 3) := by decide +kernel
theorem dX10_isSeen_8 : decode cX10_isSeen 8 = .ok (.istore 5, 2) := by decide +kernel
theorem dX10_isSeen_10 : decode cX10_isSeen 10 = .ok (.aload_n 0, 1) := by decide +kernel
theorem dX10_isSeen_11 : decode cX10_isSeen 11 = .ok (.getfield 9, 3) := by decide +kernel
theorem dX10_isSeen_14 : decode cX10_isSeen 14 = .ok (.iload_n 1, 1) := by decide +kernel
theorem dX10_isSeen_15 : decode cX10_isSeen 15 = .ok (.iload_n 2, 1) := by decide +kernel
theorem dX10_isSeen_16 : decode cX10_isSeen 16 = .ok (.invokestatic 93, 3) := by decide +kernel
theorem dX10_isSeen_19 : decode cX10_isSeen 19 = .ok (.iaload, 1) := by decide +kernel
theorem dX10_isSeen_20 : decode cX10_isSeen 20 = .ok (.iconst 3, 1) := by decide +kernel
theorem dX10_isSeen_21 : decode cX10_isSeen 21 = .ok (.iadd, 1) := by decide +kernel
theorem dX10_isSeen_22 : decode cX10_isSeen 22 = .ok (.istore 6, 2) := by decide +kernel
theorem dX10_isSeen_24 : decode cX10_isSeen 24 = .ok (.aload_n 0, 1) := by decide +kernel
theorem dX10_isSeen_25 : decode cX10_isSeen 25 = .ok (.getfield 9, 3) := by decide +kernel
theorem dX10_isSeen_28 : decode cX10_isSeen 28 = .ok (.iload_n 3, 1) := by decide +kernel
theorem dX10_isSeen_29 : decode cX10_isSeen 29 = .ok (.iload 4, 2) := by decide +kernel
theorem dX10_isSeen_31 : decode cX10_isSeen 31 = .ok (.invokestatic 93, 3) := by decide +kernel
theorem dX10_isSeen_34 : decode cX10_isSeen 34 = .ok (.iaload, 1) := by decide +kernel
theorem dX10_isSeen_35 : decode cX10_isSeen 35 = .ok (.iload 6, 2) := by decide +kernel
theorem dX10_isSeen_37 : decode cX10_isSeen 37 = .ok (.isub, 1) := by decide +kernel
theorem dX10_isSeen_38 : decode cX10_isSeen 38 = .ok (.istore 7, 2) := by decide +kernel
theorem dX10_isSeen_40 : decode cX10_isSeen 40 = .ok (.iconst 1, 1) := by decide +kernel
theorem dX10_isSeen_41 : decode cX10_isSeen 41 = .ok (.istore 8, 2) := by decide +kernel
theorem dX10_isSeen_43 : decode cX10_isSeen 43 = .ok (.iconst 1, 1) := by decide +kernel
theorem dX10_isSeen_44 : decode cX10_isSeen 44 = .ok (.istore 9, 2) := by decide +kernel
theorem dX10_isSeen_46 : decode cX10_isSeen 46 = .ok (.iload 9, 2) := by decide +kernel
theorem dX10_isSeen_48 : decode cX10_isSeen 48 = .ok (.iload 5, 2) := by decide +kernel
theorem dX10_isSeen_50 : decode cX10_isSeen 50 = .ok (.if_icmp .ge 92, 3) := by decide +kernel
theorem dX10_isSeen_53 : decode cX10_isSeen 53 = .ok (.iload 8, 2) := by decide +kernel
theorem dX10_isSeen_55 : decode cX10_isSeen 55 = .ok (.ifCond .eq 87, 3) := by decide +kernel
theorem dX10_isSeen_58 : decode cX10_isSeen 58 = .ok (.iload_n 1, 1) := by decide +kernel
theorem dX10_isSeen_59 : decode cX10_isSeen 59 = .ok (.iconst 2, 1) := by decide +kernel
theorem dX10_isSeen_60 : decode cX10_isSeen 60 = .ok (.iload 9, 2) := by decide +kernel
theorem dX10_isSeen_62 : decode cX10_isSeen 62 = .ok (.imul, 1) := by decide +kernel
theorem dX10_isSeen_63 : decode cX10_isSeen 63 = .ok (.iload_n 3, 1) := by decide +kernel
theorem dX10_isSeen_64 : decode cX10_isSeen 64 = .ok (.iload_n 1, 1) := by decide +kernel
theorem dX10_isSeen_65 : decode cX10_isSeen 65 = .ok (.isub, 1) := by decide +kernel
theorem dX10_isSeen_66 : decode cX10_isSeen 66 = .ok (.imul, 1) := by decide +kernel
theorem dX10_isSeen_67 : decode cX10_isSeen 67 = .ok (.iload 5, 2) := by decide +kernel
theorem dX10_isSeen_69 : decode cX10_isSeen 69 = .ok (.iadd, 1) := by decide +kernel
theorem dX10_isSeen_70 : decode cX10_isSeen 70 = .ok (.iconst 2, 1) := by decide +kernel
theorem dX10_isSeen_71 : decode cX10_isSeen 71 = .ok (.iload 5, 2) := by decide +kernel
theorem dX10_isSeen_73 : decode cX10_isSeen 73 = .ok (.imul, 1) := by decide +kernel
theorem dX10_isSeen_74 : decode cX10_isSeen 74 = .ok (.invokestatic 140, 3) := by decide +kernel
theorem dX10_isSeen_77 : decode cX10_isSeen 77 = .ok (.iadd, 1) := by decide +kernel
theorem dX10_isSeen_78 : decode cX10_isSeen 78 = .ok (.istore 10, 2) := by decide +kernel
theorem dX10_isSeen_80 : decode cX10_isSeen 80 = .ok (.iload_n 2, 1) := by decide +kernel
theorem dX10_isSeen_81 : decode cX10_isSeen 81 = .ok (.iconst 2, 1) := by decide +kernel
theorem dX10_isSeen_82 : decode cX10_isSeen 82 = .ok (.iload 9, 2) := by decide +kernel
theorem dX10_isSeen_84 : decode cX10_isSeen 84 = .ok (.imul, 1) := by decide +kernel
theorem dX10_isSeen_85 : decode cX10_isSeen 85 = .ok (.iload 4, 2) := by decide +kernel
theorem dX10_isSeen_87 : decode cX10_isSeen 87 = .ok (.iload_n 2, 1) := by decide +kernel
theorem dX10_isSeen_88 : decode cX10_isSeen 88 = .ok (.isub, 1) := by decide +kernel
theorem dX10_isSeen_89 : decode cX10_isSeen 89 = .ok (.imul, 1) := by decide +kernel
theorem dX10_isSeen_90 : decode cX10_isSeen 90 = .ok (.iload 5, 2) := by decide +kernel
theorem dX10_isSeen_92 : decode cX10_isSeen 92 = .ok (.iadd, 1) := by decide +kernel
theorem dX10_isSeen_93 : decode cX10_isSeen 93 = .ok (.iconst 2, 1) := by decide +kernel
theorem dX10_isSeen_94 : decode cX10_isSeen 94 = .ok (.iload 5, 2) := by decide +kernel
theorem dX10_isSeen_96 : decode cX10_isSeen 96 = .ok (.imul, 1) := by decide +kernel
theorem dX10_isSeen_97 : decode cX10_isSeen 97 = .ok (.invokestatic 140, 3) := by decide +kernel
theorem dX10_isSeen_100 : decode cX10_isSeen 100 = .ok (.iadd, 1) := by decide +kernel
theorem dX10_isSeen_101 : decode cX10_isSeen 101 = .ok (.istore 11, 2) := by decide +kernel
theorem dX10_isSeen_103 : decode cX10_isSeen 103 = .ok (.aload_n 0, 1) := by decide +kernel
theorem dX10_isSeen_104 : decode cX10_isSeen 104 = .ok (.getfield 9, 3) := by decide +kernel
theorem dX10_isSeen_107 : decode cX10_isSeen 107 = .ok (.iload 10, 2) := by decide +kernel
theorem dX10_isSeen_109 : decode cX10_isSeen 109 = .ok (.iload 11, 2) := by decide +kernel
theorem dX10_isSeen_111 : decode cX10_isSeen 111 = .ok (.invokestatic 93, 3) := by decide +kernel
theorem dX10_isSeen_114 : decode cX10_isSeen 114 = .ok (.iaload, 1) := by decide +kernel
theorem dX10_isSeen_115 : decode cX10_isSeen 115 = .ok (.iload 6, 2) := by decide +kernel
theorem dX10_isSeen_117 : decode cX10_isSeen 117 = .ok (.iload 7, 2) := by decide +kernel
theorem dX10_isSeen_119 : decode cX10_isSeen 119 = .ok (.iload 9, 2) := by decide +kernel
theorem dX10_isSeen_121 : decode cX10_isSeen 121 = .ok (.imul, 1) := by decide +kernel
theorem dX10_isSeen_122 : decode cX10_isSeen 122 = .ok (.iload 5, 2) := by decide +kernel
theorem dX10_isSeen_124 : decode cX10_isSeen 124 = .ok (.idiv, 1) := by decide +kernel
theorem dX10_isSeen_125 : decode cX10_isSeen 125 = .ok (.iadd, 1) := by decide +kernel
theorem dX10_isSeen_126 : decode cX10_isSeen 126 = .ok (.if_icmp .gt 7, 3) := by decide +kernel
theorem dX10_isSeen_129 : decode cX10_isSeen 129 = .ok (.iconst 1, 1) := by decide +kernel
theorem dX10_isSeen_130 : decode cX10_isSeen 130 = .ok (.goto 4, 3) := by decide +kernel
theorem dX10_isSeen_133 : decode cX10_isSeen 133 = .ok (.iconst 0, 1) := by decide +kernel
theorem dX10_isSeen_134 : decode cX10_isSeen 134 = .ok (.istore 8, 2) := by decide +kernel
theorem dX10_isSeen_136 : decode cX10_isSeen 136 = .ok (.iinc 9 1, 3) := by decide +kernel
theorem dX10_isSeen_139 : decode cX10_isSeen 139 = .ok (.goto (-93), 3) := by decide +kernel
theorem dX10_isSeen_142 : decode cX10_isSeen 142 = .ok (.iload 8, 2) := by decide +kernel
theorem dX10_isSeen_144 : decode cX10_isSeen 144 = .ok (.ireturn, 1) := by decide +kernel
theorem dX10_distance_0 : decode cX10_distance 0 = .ok (.iload_n 0, 1) := by decide +kernel
theorem dX10_distance_1 : decode cX10_distance 1 = .ok (.iload_n 2, 1) := by decide +kernel
theorem dX10_distance_2 : decode cX10_distance 2 = .ok (.isub, 1) := by decide +kernel
theorem dX10_distance_3 : decode cX10_distance 3 = .ok (.invokestatic 112, 3) := by decide +kernel
theorem dX10_distance_6 : decode cX10_distance 6 = .ok (.iload_n 1, 1) := by decide +kernel
theorem dX10_distance_7 : decode cX10_distance 7 = .ok (.iload_n 3, 1) := by decide +kernel
theorem dX10_distance_8 : decode cX10_distance 8 = .ok (.isub, 1) := by decide +kernel
theorem dX10_distance_9 : decode cX10_distance 9 = .ok (.invokestatic 112, 3) := by decide +kernel
theorem dX10_distance_12 : decode cX10_distance 12 = .ok (.invokestatic 101, 3) := by decide +kernel
theorem dX10_distance_15 : decode cX10_distance 15 = .ok (.ireturn, 1) := by decide +kernel
theorem dX10_octant_0 : decode cX10_octant 0 = .ok (.iconst 0, 1) := by decide +kernel
theorem dX10_octant_1 : decode cX10_octant 1 = .ok (.istore 4, 2) := by decide +kernel
theorem dX10_octant_3 : decode cX10_octant 3 = .ok (.iload 4, 2) := by decide +kernel
theorem dX10_octant_5 : decode cX10_octant 5 = .ok (.bipush 8, 2) := by decide +kernel
theorem dX10_octant_7 : decode cX10_octant 7 = .ok (.if_icmp .ge 42, 3) := by decide +kernel
theorem dX10_octant_10 : decode cX10_octant 10 = .ok (.getstatic 106, 3) := by decide +kernel
theorem dX10_octant_13 : decode cX10_octant 13 = .ok (.iload 4, 2) := by decide +kernel
theorem dX10_octant_15 : decode cX10_octant 15 = .ok (.iaload, 1) := by decide +kernel
theorem dX10_octant_16 : decode cX10_octant 16 = .ok (.iload_n 0, 1) := by decide +kernel
theorem dX10_octant_17 : decode cX10_octant 17 = .ok (.iload_n 2, 1) := by decide +kernel
theorem dX10_octant_18 : decode cX10_octant 18 = .ok (.isub, 1) := by decide +kernel
theorem dX10_octant_19 : decode cX10_octant 19 = .ok (.invokestatic 143, 3) := by decide +kernel
theorem dX10_octant_22 : decode cX10_octant 22 = .ok (.if_icmp .ne 21, 3) := by decide +kernel
theorem dX10_octant_25 : decode cX10_octant 25 = .ok (.getstatic 109, 3) := by decide +kernel
theorem dX10_octant_28 : decode cX10_octant 28 = .ok (.iload 4, 2) := by decide +kernel
theorem dX10_octant_30 : decode cX10_octant 30 = .ok (.iaload, 1) := by decide +kernel
theorem dX10_octant_31 : decode cX10_octant 31 = .ok (.iload_n 1, 1) := by decide +kernel
theorem dX10_octant_32 : decode cX10_octant 32 = .ok (.iload_n 3, 1) := by decide +kernel
theorem dX10_octant_33 : decode cX10_octant 33 = .ok (.isub, 1) := by decide +kernel
theorem dX10_octant_34 : decode cX10_octant 34 = .ok (.invokestatic 143, 3) := by decide +kernel
theorem dX10_octant_37 : decode cX10_octant 37 = .ok (.if_icmp .ne 6, 3) := by decide +kernel
theorem dX10_octant_40 : decode cX10_octant 40 = .ok (.iload 4, 2) := by decide +kernel
theorem dX10_octant_42 : decode cX10_octant 42 = .ok (.ireturn, 1) := by decide +kernel
theorem dX10_octant_43 : decode cX10_octant 43 = .ok (.iinc 4 1, 3) := by decide +kernel
theorem dX10_octant_46 : decode cX10_octant 46 = .ok (.goto (-43), 3) := by decide +kernel
theorem dX10_octant_49 : decode cX10_octant 49 = .ok (.bipush 8, 2) := by decide +kernel
theorem dX10_octant_51 : decode cX10_octant 51 = .ok (.ireturn, 1) := by decide +kernel
theorem dX10_sees_0 : decode cX10_sees 0 = .ok (.aload_n 0, 1) := by decide +kernel
theorem dX10_sees_1 : decode cX10_sees 1 = .ok (.iload_n 1, 1) := by decide +kernel
theorem dX10_sees_2 : decode cX10_sees 2 = .ok (.iload_n 2, 1) := by decide +kernel
theorem dX10_sees_3 : decode cX10_sees 3 = .ok (.invokestatic 81, 3) := by decide +kernel
theorem dX10_sees_6 : decode cX10_sees 6 = .ok (.ifCond .eq 16, 3) := by decide +kernel
theorem dX10_sees_9 : decode cX10_sees 9 = .ok (.iload_n 3, 1) := by decide +kernel
theorem dX10_sees_10 : decode cX10_sees 10 = .ok (.iload 4, 2) := by decide +kernel
theorem dX10_sees_12 : decode cX10_sees 12 = .ok (.invokestatic 81, 3) := by decide +kernel
theorem dX10_sees_15 : decode cX10_sees 15 = .ok (.ifCond .eq 7, 3) := by decide +kernel
theorem dX10_sees_18 : decode cX10_sees 18 = .ok (.iconst 0, 1) := by decide +kernel
theorem dX10_sees_19 : decode cX10_sees 19 = .ok (.goto 4, 3) := by decide +kernel
theorem dX10_sees_22 : decode cX10_sees 22 = .ok (.iconst 1, 1) := by decide +kernel
theorem dX10_sees_23 : decode cX10_sees 23 = .ok (.putfield 71, 3) := by decide +kernel
theorem dX10_sees_26 : decode cX10_sees 26 = .ok (.aload_n 0, 1) := by decide +kernel
theorem dX10_sees_27 : decode cX10_sees 27 = .ok (.getfield 71, 3) := by decide +kernel
theorem dX10_sees_30 : decode cX10_sees 30 = .ok (.ifCond .ne 19, 3) := by decide +kernel
theorem dX10_sees_33 : decode cX10_sees 33 = .ok (.aload_n 0, 1) := by decide +kernel
theorem dX10_sees_34 : decode cX10_sees 34 = .ok (.iload_n 1, 1) := by decide +kernel
theorem dX10_sees_35 : decode cX10_sees 35 = .ok (.iload_n 2, 1) := by decide +kernel
theorem dX10_sees_36 : decode cX10_sees 36 = .ok (.iload_n 3, 1) := by decide +kernel
theorem dX10_sees_37 : decode cX10_sees 37 = .ok (.iload 4, 2) := by decide +kernel
theorem dX10_sees_39 : decode cX10_sees 39 = .ok (.invokevirtual 148, 3) := by decide +kernel
theorem dX10_sees_42 : decode cX10_sees 42 = .ok (.ifCond .eq 7, 3) := by decide +kernel
theorem dX10_sees_45 : decode cX10_sees 45 = .ok (.iconst 1, 1) := by decide +kernel
theorem dX10_sees_46 : decode cX10_sees 46 = .ok (.goto 4, 3) := by decide +kernel
theorem dX10_sees_49 : decode cX10_sees 49 = .ok (.iconst 0, 1) := by decide +kernel
theorem dX10_sees_50 : decode cX10_sees 50 = .ok (.ireturn, 1) := by decide +kernel
theorem dX10_addTarget_0 : decode cX10_addTarget 0 = .ok (.aload_n 0, 1) := by decide +kernel
theorem dX10_addTarget_1 : decode cX10_addTarget 1 = .ok (.iconst 0, 1) := by decide +kernel
theorem dX10_addTarget_2 : decode cX10_addTarget 2 = .ok (.putfield 71, 3) := by decide +kernel
theorem dX10_addTarget_5 : decode cX10_addTarget 5 = .ok (.iload_n 1, 1) := by decide +kernel
theorem dX10_addTarget_6 : decode cX10_addTarget 6 = .ok (.iload_n 2, 1) := by decide +kernel
theorem dX10_addTarget_7 : decode cX10_addTarget 7 = .ok (.invokestatic 81, 3) := by decide +kernel
theorem dX10_addTarget_10 : decode cX10_addTarget 10 = .ok (.ifCond .ne 9, 3) := by decide +kernel
theorem dX10_addTarget_13 : decode cX10_addTarget 13 = .ok (.aload_n 0, 1) := by decide +kernel
theorem dX10_addTarget_14 : decode cX10_addTarget 14 = .ok (.iconst 1, 1) := by decide +kernel
theorem dX10_addTarget_15 : decode cX10_addTarget 15 = .ok (.invokevirtual 89, 3) := by decide +kernel
theorem dX10_addTarget_18 : decode cX10_addTarget 18 = .ok (.ireturn, 1) := by decide +kernel
theorem dX10_addTarget_19 : decode cX10_addTarget 19 = .ok (.iload_n 3, 1) := by decide +kernel
theorem dX10_addTarget_20 : decode cX10_addTarget 20 = .ok (.iconst 1, 1) := by decide +kernel
theorem dX10_addTarget_21 : decode cX10_addTarget 21 = .ok (.bipush 100, 2) := by decide +kernel
theorem dX10_addTarget_23 : decode cX10_addTarget 23 = .ok (.invokestatic 74, 3) := by decide +kernel
theorem dX10_addTarget_26 : decode cX10_addTarget 26 = .ok (.ifCond .eq 13, 3) := by decide +kernel
theorem dX10_addTarget_29 : decode cX10_addTarget 29 = .ok (.iload 4, 2) := by decide +kernel
theorem dX10_addTarget_31 : decode cX10_addTarget 31 = .ok (.iconst 1, 1) := by decide +kernel
theorem dX10_addTarget_32 : decode cX10_addTarget 32 = .ok (.iconst 4, 1) := by decide +kernel
theorem dX10_addTarget_33 : decode cX10_addTarget 33 = .ok (.invokestatic 74, 3) := by decide +kernel
theorem dX10_addTarget_36 : decode cX10_addTarget 36 = .ok (.ifCond .ne 9, 3) := by decide +kernel
theorem dX10_addTarget_39 : decode cX10_addTarget 39 = .ok (.aload_n 0, 1) := by decide +kernel
theorem dX10_addTarget_40 : decode cX10_addTarget 40 = .ok (.iconst 2, 1) := by decide +kernel
theorem dX10_addTarget_41 : decode cX10_addTarget 41 = .ok (.invokevirtual 89, 3) := by decide +kernel
theorem dX10_addTarget_44 : decode cX10_addTarget 44 = .ok (.ireturn, 1) := by decide +kernel
theorem dX10_addTarget_45 : decode cX10_addTarget 45 = .ok (.aload_n 0, 1) := by decide +kernel
theorem dX10_addTarget_46 : decode cX10_addTarget 46 = .ok (.getfield 78, 3) := by decide +kernel
theorem dX10_addTarget_49 : decode cX10_addTarget 49 = .ok (.bipush 12, 2) := by decide +kernel
theorem dX10_addTarget_51 : decode cX10_addTarget 51 = .ok (.if_icmp .ne 9, 3) := by decide +kernel
theorem dX10_addTarget_54 : decode cX10_addTarget 54 = .ok (.aload_n 0, 1) := by decide +kernel
theorem dX10_addTarget_55 : decode cX10_addTarget 55 = .ok (.iconst 3, 1) := by decide +kernel
theorem dX10_addTarget_56 : decode cX10_addTarget 56 = .ok (.invokevirtual 89, 3) := by decide +kernel
theorem dX10_addTarget_59 : decode cX10_addTarget 59 = .ok (.ireturn, 1) := by decide +kernel
theorem dX10_addTarget_60 : decode cX10_addTarget 60 = .ok (.iconst 4, 1) := by decide +kernel
theorem dX10_addTarget_61 : decode cX10_addTarget 61 = .ok (.newarray .int, 2) := by decide +kernel
theorem dX10_addTarget_63 : decode cX10_addTarget 63 = .ok (.dup, 1) := by decide +kernel
theorem dX10_addTarget_64 : decode cX10_addTarget 64 = .ok (.iconst 0, 1) := by decide +kernel
theorem dX10_addTarget_65 : decode cX10_addTarget 65 = .ok (.iload_n 1, 1) := by decide +kernel
theorem dX10_addTarget_66 : decode cX10_addTarget 66 = .ok (.iastore, 1) := by decide +kernel
theorem dX10_addTarget_67 : decode cX10_addTarget 67 = .ok (.dup, 1) := by decide +kernel
theorem dX10_addTarget_68 : decode cX10_addTarget 68 = .ok (.iconst 1, 1) := by decide +kernel
theorem dX10_addTarget_69 : decode cX10_addTarget 69 = .ok (.iload_n 2, 1) := by decide +kernel
theorem dX10_addTarget_70 : decode cX10_addTarget 70 = .ok (.iastore, 1) := by decide +kernel
theorem dX10_addTarget_71 : decode cX10_addTarget 71 = .ok (.dup, 1) := by decide +kernel
theorem dX10_addTarget_72 : decode cX10_addTarget 72 = .ok (.iconst 2, 1) := by decide +kernel
theorem dX10_addTarget_73 : decode cX10_addTarget 73 = .ok (.iload_n 3, 1) := by decide +kernel
theorem dX10_addTarget_74 : decode cX10_addTarget 74 = .ok (.iastore, 1) := by decide +kernel
theorem dX10_addTarget_75 : decode cX10_addTarget 75 = .ok (.dup, 1) := by decide +kernel
theorem dX10_addTarget_76 : decode cX10_addTarget 76 = .ok (.iconst 3, 1) := by decide +kernel
theorem dX10_addTarget_77 : decode cX10_addTarget 77 = .ok (.iload 4, 2) := by decide +kernel
theorem dX10_addTarget_79 : decode cX10_addTarget 79 = .ok (.iastore, 1) := by decide +kernel
theorem dX10_addTarget_80 : decode cX10_addTarget 80 = .ok (.astore 5, 2) := by decide +kernel
theorem dX10_addTarget_82 : decode cX10_addTarget 82 = .ok (.aload 5, 2) := by decide +kernel
theorem dX10_addTarget_84 : decode cX10_addTarget 84 = .ok (.iconst 0, 1) := by decide +kernel
theorem dX10_addTarget_85 : decode cX10_addTarget 85 = .ok (.aload_n 0, 1) := by decide +kernel
theorem dX10_addTarget_86 : decode cX10_addTarget 86 = .ok (.getfield 24, 3) := by decide +kernel
theorem dX10_addTarget_89 : decode cX10_addTarget 89 = .ok (.iconst 4, 1) := by decide +kernel
theorem dX10_addTarget_90 : decode cX10_addTarget 90 = .ok (.aload_n 0, 1) := by decide +kernel
theorem dX10_addTarget_91 : decode cX10_addTarget 91 = .ok (.getfield 78, 3) := by decide +kernel
theorem dX10_addTarget_94 : decode cX10_addTarget 94 = .ok (.imul, 1) := by decide +kernel
theorem dX10_addTarget_95 : decode cX10_addTarget 95 = .ok (.iconst 4, 1) := by decide +kernel
theorem dX10_addTarget_96 : decode cX10_addTarget 96 = .ok (.invokestatic 151, 3) := by decide +kernel
theorem dX10_addTarget_99 : decode cX10_addTarget 99 = .ok (.aload_n 0, 1) := by decide +kernel
theorem dX10_addTarget_100 : decode cX10_addTarget 100 = .ok (.dup, 1) := by decide +kernel
theorem dX10_addTarget_101 : decode cX10_addTarget 101 = .ok (.getfield 78, 3) := by decide +kernel
theorem dX10_addTarget_104 : decode cX10_addTarget 104 = .ok (.iconst 1, 1) := by decide +kernel
theorem dX10_addTarget_105 : decode cX10_addTarget 105 = .ok (.iadd, 1) := by decide +kernel
theorem dX10_addTarget_106 : decode cX10_addTarget 106 = .ok (.putfield 78, 3) := by decide +kernel
theorem dX10_addTarget_109 : decode cX10_addTarget 109 = .ok (.aload_n 0, 1) := by decide +kernel
theorem dX10_addTarget_110 : decode cX10_addTarget 110 = .ok (.getfield 78, 3) := by decide +kernel
theorem dX10_addTarget_113 : decode cX10_addTarget 113 = .ok (.iconst 1, 1) := by decide +kernel
theorem dX10_addTarget_114 : decode cX10_addTarget 114 = .ok (.isub, 1) := by decide +kernel
theorem dX10_addTarget_115 : decode cX10_addTarget 115 = .ok (.ireturn, 1) := by decide +kernel
theorem dX10_value_0 : decode cX10_value 0 = .ok (.aload_n 0, 1) := by decide +kernel
theorem dX10_value_1 : decode cX10_value 1 = .ok (.getfield 24, 3) := by decide +kernel
theorem dX10_value_4 : decode cX10_value 4 = .ok (.iconst 4, 1) := by decide +kernel
theorem dX10_value_5 : decode cX10_value 5 = .ok (.iload_n 1, 1) := by decide +kernel
theorem dX10_value_6 : decode cX10_value 6 = .ok (.imul, 1) := by decide +kernel
theorem dX10_value_7 : decode cX10_value 7 = .ok (.iconst 2, 1) := by decide +kernel
theorem dX10_value_8 : decode cX10_value 8 = .ok (.iadd, 1) := by decide +kernel
theorem dX10_value_9 : decode cX10_value 9 = .ok (.iaload, 1) := by decide +kernel
theorem dX10_value_10 : decode cX10_value 10 = .ok (.ireturn, 1) := by decide +kernel
theorem dX10_need_0 : decode cX10_need 0 = .ok (.aload_n 0, 1) := by decide +kernel
theorem dX10_need_1 : decode cX10_need 1 = .ok (.getfield 24, 3) := by decide +kernel
theorem dX10_need_4 : decode cX10_need 4 = .ok (.iconst 4, 1) := by decide +kernel
theorem dX10_need_5 : decode cX10_need 5 = .ok (.iload_n 1, 1) := by decide +kernel
theorem dX10_need_6 : decode cX10_need 6 = .ok (.imul, 1) := by decide +kernel
theorem dX10_need_7 : decode cX10_need 7 = .ok (.iconst 3, 1) := by decide +kernel
theorem dX10_need_8 : decode cX10_need 8 = .ok (.iadd, 1) := by decide +kernel
theorem dX10_need_9 : decode cX10_need 9 = .ok (.iaload, 1) := by decide +kernel
theorem dX10_need_10 : decode cX10_need 10 = .ok (.ireturn, 1) := by decide +kernel
theorem dX10_allOctants_0 : decode cX10_allOctants 0 = .ok (.aload_n 0, 1) := by decide +kernel
theorem dX10_allOctants_1 : decode cX10_allOctants 1 = .ok (.bipush 10, 2) := by decide +kernel
theorem dX10_allOctants_3 : decode cX10_allOctants 3 = .ok (.iload_n 1, 1) := by decide +kernel
theorem dX10_allOctants_4 : decode cX10_allOctants 4 = .ok (.iadd, 1) := by decide +kernel
theorem dX10_allOctants_5 : decode cX10_allOctants 5 = .ok (.iaload, 1) := by decide +kernel
theorem dX10_allOctants_6 : decode cX10_allOctants 6 = .ok (.istore_n 2, 1) := by decide +kernel
theorem dX10_allOctants_7 : decode cX10_allOctants 7 = .ok (.iconst 0, 1) := by decide +kernel
theorem dX10_allOctants_8 : decode cX10_allOctants 8 = .ok (.istore_n 3, 1) := by decide +kernel
theorem dX10_allOctants_9 : decode cX10_allOctants 9 = .ok (.iload_n 3, 1) := by decide +kernel
theorem dX10_allOctants_10 : decode cX10_allOctants 10 = .ok (.aload_n 0, 1) := by decide +kernel
theorem dX10_allOctants_11 : decode cX10_allOctants 11 = .ok (.bipush 9, 2) := by decide +kernel
theorem dX10_allOctants_13 : decode cX10_allOctants 13 = .ok (.iaload, 1) := by decide +kernel
theorem dX10_allOctants_14 : decode cX10_allOctants 14 = .ok (.if_icmp .ge 51, 3) := by decide +kernel
theorem dX10_allOctants_17 : decode cX10_allOctants 17 = .ok (.aload_n 0, 1) := by decide +kernel
theorem dX10_allOctants_18 : decode cX10_allOctants 18 = .ok (.bipush 34, 2) := by decide +kernel
theorem dX10_allOctants_20 : decode cX10_allOctants 20 = .ok (.iconst 4, 1) := by decide +kernel
theorem dX10_allOctants_21 : decode cX10_allOctants 21 = .ok (.iload_n 3, 1) := by decide +kernel
theorem dX10_allOctants_22 : decode cX10_allOctants 22 = .ok (.imul, 1) := by decide +kernel
theorem dX10_allOctants_23 : decode cX10_allOctants 23 = .ok (.iadd, 1) := by decide +kernel
theorem dX10_allOctants_24 : decode cX10_allOctants 24 = .ok (.iaload, 1) := by decide +kernel
theorem dX10_allOctants_25 : decode cX10_allOctants 25 = .ok (.iload_n 1, 1) := by decide +kernel
theorem dX10_allOctants_26 : decode cX10_allOctants 26 = .ok (.if_icmp .ne 33, 3) := by decide +kernel
theorem dX10_allOctants_29 : decode cX10_allOctants 29 = .ok (.aload_n 0, 1) := by decide +kernel
theorem dX10_allOctants_30 : decode cX10_allOctants 30 = .ok (.bipush 34, 2) := by decide +kernel
theorem dX10_allOctants_32 : decode cX10_allOctants 32 = .ok (.iconst 4, 1) := by decide +kernel
theorem dX10_allOctants_33 : decode cX10_allOctants 33 = .ok (.iload_n 3, 1) := by decide +kernel
theorem dX10_allOctants_34 : decode cX10_allOctants 34 = .ok (.imul, 1) := by decide +kernel
theorem dX10_allOctants_35 : decode cX10_allOctants 35 = .ok (.iadd, 1) := by decide +kernel
theorem dX10_allOctants_36 : decode cX10_allOctants 36 = .ok (.iconst 3, 1) := by decide +kernel
theorem dX10_allOctants_37 : decode cX10_allOctants 37 = .ok (.iadd, 1) := by decide +kernel
theorem dX10_allOctants_38 : decode cX10_allOctants 38 = .ok (.iaload, 1) := by decide +kernel
theorem dX10_allOctants_39 : decode cX10_allOctants 39 = .ok (.bipush 9, 2) := by decide +kernel
theorem dX10_allOctants_41 : decode cX10_allOctants 41 = .ok (.if_icmp .ge 18, 3) := by decide +kernel
theorem dX10_allOctants_44 : decode cX10_allOctants 44 = .ok (.iload_n 2, 1) := by decide +kernel
theorem dX10_allOctants_45 : decode cX10_allOctants 45 = .ok (.iconst 1, 1) := by decide +kernel
theorem dX10_allOctants_46 : decode cX10_allOctants 46 = .ok (.aload_n 0, 1) := by decide +kernel
theorem dX10_allOctants_47 : decode cX10_allOctants 47 = .ok (.bipush 34, 2) := by decide +kernel
theorem dX10_allOctants_49 : decode cX10_allOctants 49 = .ok (.iconst 4, 1) := by decide +kernel
theorem dX10_allOctants_50 : decode cX10_allOctants 50 = .ok (.iload_n 3, 1) := by decide +kernel
theorem dX10_allOctants_51 : decode cX10_allOctants 51 = .ok (.imul, 1) := by decide +kernel
theorem dX10_allOctants_52 : decode cX10_allOctants 52 = .ok (.iadd, 1) := by decide +kernel
theorem dX10_allOctants_53 : decode cX10_allOctants 53 = .ok (.iconst 3, 1) := by decide +kernel
theorem dX10_allOctants_54 : decode cX10_allOctants 54 = .ok (.iadd, 1) := by decide +kernel
theorem dX10_allOctants_55 : decode cX10_allOctants 55 = .ok (.iaload, 1) := by decide +kernel
theorem dX10_allOctants_56 : decode cX10_allOctants 56 = .ok (.ishl, 1) := by decide +kernel
theorem dX10_allOctants_57 : decode cX10_allOctants 57 = .ok (.ior, 1) := by decide +kernel
theorem dX10_allOctants_58 : decode cX10_allOctants 58 = .ok (.istore_n 2, 1) := by decide +kernel
theorem dX10_allOctants_59 : decode cX10_allOctants 59 = .ok (.iinc 3 1, 3) := by decide +kernel
theorem dX10_allOctants_62 : decode cX10_allOctants 62 = .ok (.goto (-53), 3) := by decide +kernel
theorem dX10_allOctants_65 : decode cX10_allOctants 65 = .ok (.iload_n 2, 1) := by decide +kernel
theorem dX10_allOctants_66 : decode cX10_allOctants 66 = .ok (.ireturn, 1) := by decide +kernel
theorem dX10_hasTouch_0 : decode cX10_hasTouch 0 = .ok (.aload_n 0, 1) := by decide +kernel
theorem dX10_hasTouch_1 : decode cX10_hasTouch 1 = .ok (.bipush 22, 2) := by decide +kernel
theorem dX10_hasTouch_3 : decode cX10_hasTouch 3 = .ok (.iload_n 1, 1) := by decide +kernel
theorem dX10_hasTouch_4 : decode cX10_hasTouch 4 = .ok (.iadd, 1) := by decide +kernel
theorem dX10_hasTouch_5 : decode cX10_hasTouch 5 = .ok (.iaload, 1) := by decide +kernel
theorem dX10_hasTouch_6 : decode cX10_hasTouch 6 = .ok (.iconst 1, 1) := by decide +kernel
theorem dX10_hasTouch_7 : decode cX10_hasTouch 7 = .ok (.if_icmp .ne 7, 3) := by decide +kernel
theorem dX10_hasTouch_10 : decode cX10_hasTouch 10 = .ok (.iconst 1, 1) := by decide +kernel
theorem dX10_hasTouch_11 : decode cX10_hasTouch 11 = .ok (.goto 4, 3) := by decide +kernel
theorem dX10_hasTouch_14 : decode cX10_hasTouch 14 = .ok (.iconst 0, 1) := by decide +kernel
theorem dX10_hasTouch_15 : decode cX10_hasTouch 15 = .ok (.istore_n 2, 1) := by decide +kernel
theorem dX10_hasTouch_16 : decode cX10_hasTouch 16 = .ok (.iconst 0, 1) := by decide +kernel
theorem dX10_hasTouch_17 : decode cX10_hasTouch 17 = .ok (.istore_n 3, 1) := by decide +kernel
theorem dX10_hasTouch_18 : decode cX10_hasTouch 18 = .ok (.iload_n 3, 1) := by decide +kernel
theorem dX10_hasTouch_19 : decode cX10_hasTouch 19 = .ok (.aload_n 0, 1) := by decide +kernel
theorem dX10_hasTouch_20 : decode cX10_hasTouch 20 = .ok (.bipush 9, 2) := by decide +kernel
theorem dX10_hasTouch_22 : decode cX10_hasTouch 22 = .ok (.iaload, 1) := by decide +kernel
theorem dX10_hasTouch_23 : decode cX10_hasTouch 23 = .ok (.if_icmp .ge 46, 3) := by decide +kernel
theorem dX10_hasTouch_26 : decode cX10_hasTouch 26 = .ok (.iload_n 2, 1) := by decide +kernel
theorem dX10_hasTouch_27 : decode cX10_hasTouch 27 = .ok (.ifCond .ne 30, 3) := by decide +kernel
theorem dX10_hasTouch_30 : decode cX10_hasTouch 30 = .ok (.aload_n 0, 1) := by decide +kernel
theorem dX10_hasTouch_31 : decode cX10_hasTouch 31 = .ok (.bipush 34, 2) := by decide +kernel
theorem dX10_hasTouch_33 : decode cX10_hasTouch 33 = .ok (.iconst 4, 1) := by decide +kernel
theorem dX10_hasTouch_34 : decode cX10_hasTouch 34 = .ok (.iload_n 3, 1) := by decide +kernel
theorem dX10_hasTouch_35 : decode cX10_hasTouch 35 = .ok (.imul, 1) := by decide +kernel
theorem dX10_hasTouch_36 : decode cX10_hasTouch 36 = .ok (.iadd, 1) := by decide +kernel
theorem dX10_hasTouch_37 : decode cX10_hasTouch 37 = .ok (.iaload, 1) := by decide +kernel
theorem dX10_hasTouch_38 : decode cX10_hasTouch 38 = .ok (.iload_n 1, 1) := by decide +kernel
theorem dX10_hasTouch_39 : decode cX10_hasTouch 39 = .ok (.if_icmp .ne 22, 3) := by decide +kernel
theorem dX10_hasTouch_42 : decode cX10_hasTouch 42 = .ok (.aload_n 0, 1) := by decide +kernel
theorem dX10_hasTouch_43 : decode cX10_hasTouch 43 = .ok (.bipush 34, 2) := by decide +kernel
theorem dX10_hasTouch_45 : decode cX10_hasTouch 45 = .ok (.iconst 4, 1) := by decide +kernel
theorem dX10_hasTouch_46 : decode cX10_hasTouch 46 = .ok (.iload_n 3, 1) := by decide +kernel
theorem dX10_hasTouch_47 : decode cX10_hasTouch 47 = .ok (.imul, 1) := by decide +kernel
theorem dX10_hasTouch_48 : decode cX10_hasTouch 48 = .ok (.iadd, 1) := by decide +kernel
theorem dX10_hasTouch_49 : decode cX10_hasTouch 49 = .ok (.iconst 3, 1) := by decide +kernel
theorem dX10_hasTouch_50 : decode cX10_hasTouch 50 = .ok (.iadd, 1) := by decide +kernel
theorem dX10_hasTouch_51 : decode cX10_hasTouch 51 = .ok (.iaload, 1) := by decide +kernel
theorem dX10_hasTouch_52 : decode cX10_hasTouch 52 = .ok (.bipush 9, 2) := by decide +kernel
theorem dX10_hasTouch_54 : decode cX10_hasTouch 54 = .ok (.if_icmp .ne 7, 3) := by decide +kernel
theorem dX10_hasTouch_57 : decode cX10_hasTouch 57 = .ok (.iconst 1, 1) := by decide +kernel
theorem dX10_hasTouch_58 : decode cX10_hasTouch 58 = .ok (.goto 4, 3) := by decide +kernel
theorem dX10_hasTouch_61 : decode cX10_hasTouch 61 = .ok (.iconst 0, 1) := by decide +kernel
theorem dX10_hasTouch_62 : decode cX10_hasTouch 62 = .ok (.istore_n 2, 1) := by decide +kernel
theorem dX10_hasTouch_63 : decode cX10_hasTouch 63 = .ok (.iinc 3 1, 3) := by decide +kernel
theorem dX10_hasTouch_66 : decode cX10_hasTouch 66 = .ok (.goto (-48), 3) := by decide +kernel
theorem dX10_hasTouch_69 : decode cX10_hasTouch 69 = .ok (.iload_n 2, 1) := by decide +kernel
theorem dX10_hasTouch_70 : decode cX10_hasTouch 70 = .ok (.ireturn, 1) := by decide +kernel
theorem dX10_isMet_0 : decode cX10_isMet 0 = .ok (.aload_n 0, 1) := by decide +kernel
theorem dX10_isMet_1 : decode cX10_isMet 1 = .ok (.iload_n 2, 1) := by decide +kernel
theorem dX10_isMet_2 : decode cX10_isMet 2 = .ok (.invokevirtual 157, 3) := by decide +kernel
theorem dX10_isMet_5 : decode cX10_isMet 5 = .ok (.iconst 4, 1) := by decide +kernel
theorem dX10_isMet_6 : decode cX10_isMet 6 = .ok (.if_icmp .ne 31, 3) := by decide +kernel
theorem dX10_isMet_9 : decode cX10_isMet 9 = .ok (.iload_n 3, 1) := by decide +kernel
theorem dX10_isMet_10 : decode cX10_isMet 10 = .ok (.ifCond .eq 21, 3) := by decide +kernel
theorem dX10_isMet_13 : decode cX10_isMet 13 = .ok (.aload_n 1, 1) := by decide +kernel
theorem dX10_isMet_14 : decode cX10_isMet 14 = .ok (.bipush 22, 2) := by decide +kernel
theorem dX10_isMet_16 : decode cX10_isMet 16 = .ok (.iload_n 2, 1) := by decide +kernel
theorem dX10_isMet_17 : decode cX10_isMet 17 = .ok (.iadd, 1) := by decide +kernel
theorem dX10_isMet_18 : decode cX10_isMet 18 = .ok (.iaload, 1) := by decide +kernel
theorem dX10_isMet_19 : decode cX10_isMet 19 = .ok (.iconst 1, 1) := by decide +kernel
theorem dX10_isMet_20 : decode cX10_isMet 20 = .ok (.if_icmp .ne 7, 3) := by decide +kernel
theorem dX10_isMet_23 : decode cX10_isMet 23 = .ok (.iconst 1, 1) := by decide +kernel
theorem dX10_isMet_24 : decode cX10_isMet 24 = .ok (.goto 12, 3) := by decide +kernel
theorem dX10_isMet_27 : decode cX10_isMet 27 = .ok (.iconst 0, 1) := by decide +kernel
theorem dX10_isMet_28 : decode cX10_isMet 28 = .ok (.goto 8, 3) := by decide +kernel
theorem dX10_isMet_31 : decode cX10_isMet 31 = .ok (.aload_n 1, 1) := by decide +kernel
theorem dX10_isMet_32 : decode cX10_isMet 32 = .ok (.iload_n 2, 1) := by decide +kernel
theorem dX10_isMet_33 : decode cX10_isMet 33 = .ok (.invokestatic 160, 3) := by decide +kernel
theorem dX10_isMet_36 : decode cX10_isMet 36 = .ok (.ireturn, 1) := by decide +kernel
theorem dX10_isMet_37 : decode cX10_isMet 37 = .ok (.iload_n 3, 1) := by decide +kernel
theorem dX10_isMet_38 : decode cX10_isMet 38 = .ok (.ifCond .eq 12, 3) := by decide +kernel
theorem dX10_isMet_41 : decode cX10_isMet 41 = .ok (.aload_n 1, 1) := by decide +kernel
theorem dX10_isMet_42 : decode cX10_isMet 42 = .ok (.bipush 10, 2) := by decide +kernel
theorem dX10_isMet_44 : decode cX10_isMet 44 = .ok (.iload_n 2, 1) := by decide +kernel
theorem dX10_isMet_45 : decode cX10_isMet 45 = .ok (.iadd, 1) := by decide +kernel
theorem dX10_isMet_46 : decode cX10_isMet 46 = .ok (.iaload, 1) := by decide +kernel
theorem dX10_isMet_47 : decode cX10_isMet 47 = .ok (.goto 8, 3) := by decide +kernel
theorem dX10_isMet_50 : decode cX10_isMet 50 = .ok (.aload_n 1, 1) := by decide +kernel
theorem dX10_isMet_51 : decode cX10_isMet 51 = .ok (.iload_n 2, 1) := by decide +kernel
theorem dX10_isMet_52 : decode cX10_isMet 52 = .ok (.invokestatic 164, 3) := by decide +kernel
theorem dX10_isMet_55 : decode cX10_isMet 55 = .ok (.invokestatic 168, 3) := by decide +kernel
theorem dX10_isMet_58 : decode cX10_isMet 58 = .ok (.aload_n 0, 1) := by decide +kernel
theorem dX10_isMet_59 : decode cX10_isMet 59 = .ok (.iload_n 2, 1) := by decide +kernel
theorem dX10_isMet_60 : decode cX10_isMet 60 = .ok (.invokevirtual 157, 3) := by decide +kernel
theorem dX10_isMet_63 : decode cX10_isMet 63 = .ok (.if_icmp .lt 7, 3) := by decide +kernel
theorem dX10_isMet_66 : decode cX10_isMet 66 = .ok (.iconst 1, 1) := by decide +kernel
theorem dX10_isMet_67 : decode cX10_isMet 67 = .ok (.goto 4, 3) := by decide +kernel
theorem dX10_isMet_70 : decode cX10_isMet 70 = .ok (.iconst 0, 1) := by decide +kernel
theorem dX10_isMet_71 : decode cX10_isMet 71 = .ok (.ireturn, 1) := by decide +kernel
theorem dX10_targetTold_0 : decode cX10_targetTold 0 = .ok (.iload_n 2, 1) := by decide +kernel
theorem dX10_targetTold_1 : decode cX10_targetTold 1 = .ok (.tableswitch 82 0 4 #[35, 41, 47, 60, 72], 35) := by decide +kernel
theorem dX10_targetTold_36 : decode cX10_targetTold 36 = .ok (.aload_n 0, 1) := by decide +kernel
theorem dX10_targetTold_37 : decode cX10_targetTold 37 = .ok (.iload_n 1, 1) := by decide +kernel
theorem dX10_targetTold_38 : decode cX10_targetTold 38 = .ok (.invokevirtual 171, 3) := by decide +kernel
theorem dX10_targetTold_41 : decode cX10_targetTold 41 = .ok (.ireturn, 1) := by decide +kernel
theorem dX10_targetTold_42 : decode cX10_targetTold 42 = .ok (.aload_n 0, 1) := by decide +kernel
theorem dX10_targetTold_43 : decode cX10_targetTold 43 = .ok (.iload_n 1, 1) := by decide +kernel
theorem dX10_targetTold_44 : decode cX10_targetTold 44 = .ok (.invokevirtual 157, 3) := by decide +kernel
theorem dX10_targetTold_47 : decode cX10_targetTold 47 = .ok (.ireturn, 1) := by decide +kernel
theorem dX10_targetTold_48 : decode cX10_targetTold 48 = .ok (.aload_n 0, 1) := by decide +kernel
theorem dX10_targetTold_49 : decode cX10_targetTold 49 = .ok (.getfield 36, 3) := by decide +kernel
theorem dX10_targetTold_52 : decode cX10_targetTold 52 = .ok (.bipush 10, 2) := by decide +kernel
theorem dX10_targetTold_54 : decode cX10_targetTold 54 = .ok (.iload_n 1, 1) := by decide +kernel
theorem dX10_targetTold_55 : decode cX10_targetTold 55 = .ok (.iadd, 1) := by decide +kernel
theorem dX10_targetTold_56 : decode cX10_targetTold 56 = .ok (.iaload, 1) := by decide +kernel
theorem dX10_targetTold_57 : decode cX10_targetTold 57 = .ok (.invokestatic 168, 3) := by decide +kernel
theorem dX10_targetTold_60 : decode cX10_targetTold 60 = .ok (.ireturn, 1) := by decide +kernel
theorem dX10_targetTold_61 : decode cX10_targetTold 61 = .ok (.aload_n 0, 1) := by decide +kernel
theorem dX10_targetTold_62 : decode cX10_targetTold 62 = .ok (.getfield 36, 3) := by decide +kernel
theorem dX10_targetTold_65 : decode cX10_targetTold 65 = .ok (.iload_n 1, 1) := by decide +kernel
theorem dX10_targetTold_66 : decode cX10_targetTold 66 = .ok (.invokestatic 164, 3) := by decide +kernel
theorem dX10_targetTold_69 : decode cX10_targetTold 69 = .ok (.invokestatic 168, 3) := by decide +kernel
theorem dX10_targetTold_72 : decode cX10_targetTold 72 = .ok (.ireturn, 1) := by decide +kernel
theorem dX10_targetTold_73 : decode cX10_targetTold 73 = .ok (.aload_n 0, 1) := by decide +kernel
theorem dX10_targetTold_74 : decode cX10_targetTold 74 = .ok (.getfield 36, 3) := by decide +kernel
theorem dX10_targetTold_77 : decode cX10_targetTold 77 = .ok (.bipush 22, 2) := by decide +kernel
theorem dX10_targetTold_79 : decode cX10_targetTold 79 = .ok (.iload_n 1, 1) := by decide +kernel
theorem dX10_targetTold_80 : decode cX10_targetTold 80 = .ok (.iadd, 1) := by decide +kernel
theorem dX10_targetTold_81 : decode cX10_targetTold 81 = .ok (.iaload, 1) := by decide +kernel
theorem dX10_targetTold_82 : decode cX10_targetTold 82 = .ok (.ireturn, 1) := by decide +kernel
theorem dX10_targetTold_83 : decode cX10_targetTold 83 = .ok (.aload_n 0, 1) := by decide +kernel
theorem dX10_targetTold_84 : decode cX10_targetTold 84 = .ok (.aload_n 0, 1) := by decide +kernel
theorem dX10_targetTold_85 : decode cX10_targetTold 85 = .ok (.getfield 36, 3) := by decide +kernel
theorem dX10_targetTold_88 : decode cX10_targetTold 88 = .ok (.iload_n 1, 1) := by decide +kernel
theorem dX10_targetTold_89 : decode cX10_targetTold 89 = .ok (.iconst 1, 1) := by decide +kernel
theorem dX10_targetTold_90 : decode cX10_targetTold 90 = .ok (.invokevirtual 174, 3) := by decide +kernel
theorem dX10_targetTold_93 : decode cX10_targetTold 93 = .ok (.ifCond .eq 7, 3) := by decide +kernel
theorem dX10_targetTold_96 : decode cX10_targetTold 96 = .ok (.iconst 1, 1) := by decide +kernel
theorem dX10_targetTold_97 : decode cX10_targetTold 97 = .ok (.goto 4, 3) := by decide +kernel
theorem dX10_targetTold_100 : decode cX10_targetTold 100 = .ok (.iconst 0, 1) := by decide +kernel
theorem dX10_targetTold_101 : decode cX10_targetTold 101 = .ok (.ireturn, 1) := by decide +kernel
theorem dX10_target_0 : decode cX10_target 0 = .ok (.aload_n 0, 1) := by decide +kernel
theorem dX10_target_1 : decode cX10_target 1 = .ok (.iconst 0, 1) := by decide +kernel
theorem dX10_target_2 : decode cX10_target 2 = .ok (.putfield 71, 3) := by decide +kernel
theorem dX10_target_5 : decode cX10_target 5 = .ok (.aload_n 0, 1) := by decide +kernel
theorem dX10_target_6 : decode cX10_target 6 = .ok (.iload_n 1, 1) := by decide +kernel
theorem dX10_target_7 : decode cX10_target 7 = .ok (.invokevirtual 178, 3) := by decide +kernel
theorem dX10_target_10 : decode cX10_target 10 = .ok (.ifCond .eq 21, 3) := by decide +kernel
theorem dX10_target_13 : decode cX10_target 13 = .ok (.iload_n 2, 1) := by decide +kernel
theorem dX10_target_14 : decode cX10_target 14 = .ok (.iconst 0, 1) := by decide +kernel
theorem dX10_target_15 : decode cX10_target 15 = .ok (.iconst 5, 1) := by decide +kernel
theorem dX10_target_16 : decode cX10_target 16 = .ok (.invokestatic 74, 3) := by decide +kernel
theorem dX10_target_19 : decode cX10_target 19 = .ok (.ifCond .eq 12, 3) := by decide +kernel
theorem dX10_target_22 : decode cX10_target 22 = .ok (.aload_n 0, 1) := by decide +kernel
theorem dX10_target_23 : decode cX10_target 23 = .ok (.iload_n 1, 1) := by decide +kernel
theorem dX10_target_24 : decode cX10_target 24 = .ok (.iload_n 2, 1) := by decide +kernel
theorem dX10_target_25 : decode cX10_target 25 = .ok (.invokevirtual 182, 3) := by decide +kernel
theorem dX10_target_28 : decode cX10_target 28 = .ok (.goto 8, 3) := by decide +kernel
theorem dX10_target_31 : decode cX10_target 31 = .ok (.aload_n 0, 1) := by decide +kernel
theorem dX10_target_32 : decode cX10_target 32 = .ok (.iconst 1, 1) := by decide +kernel
theorem dX10_target_33 : decode cX10_target 33 = .ok (.invokevirtual 89, 3) := by decide +kernel
theorem dX10_target_36 : decode cX10_target 36 = .ok (.ireturn, 1) := by decide +kernel
theorem dX10_addPass_0 : decode cX10_addPass 0 = .ok (.aload_n 0, 1) := by decide +kernel
theorem dX10_addPass_1 : decode cX10_addPass 1 = .ok (.iconst 0, 1) := by decide +kernel
theorem dX10_addPass_2 : decode cX10_addPass 2 = .ok (.putfield 71, 3) := by decide +kernel
theorem dX10_addPass_5 : decode cX10_addPass 5 = .ok (.iload_n 1, 1) := by decide +kernel
theorem dX10_addPass_6 : decode cX10_addPass 6 = .ok (.iconst 0, 1) := by decide +kernel
theorem dX10_addPass_7 : decode cX10_addPass 7 = .ok (.sipush 1439, 3) := by decide +kernel
theorem dX10_addPass_10 : decode cX10_addPass 10 = .ok (.invokestatic 74, 3) := by decide +kernel
theorem dX10_addPass_13 : decode cX10_addPass 13 = .ok (.ifCond .eq 26, 3) := by decide +kernel
theorem dX10_addPass_16 : decode cX10_addPass 16 = .ok (.iload_n 2, 1) := by decide +kernel
theorem dX10_addPass_17 : decode cX10_addPass 17 = .ok (.iload_n 1, 1) := by decide +kernel
theorem dX10_addPass_18 : decode cX10_addPass 18 = .ok (.iconst 1, 1) := by decide +kernel
theorem dX10_addPass_19 : decode cX10_addPass 19 = .ok (.iadd, 1) := by decide +kernel
theorem dX10_addPass_20 : decode cX10_addPass 20 = .ok (.sipush 1440, 3) := by decide +kernel
theorem dX10_addPass_23 : decode cX10_addPass 23 = .ok (.invokestatic 74, 3) := by decide +kernel
theorem dX10_addPass_26 : decode cX10_addPass 26 = .ok (.ifCond .eq 13, 3) := by decide +kernel
theorem dX10_addPass_29 : decode cX10_addPass 29 = .ok (.iload_n 3, 1) := by decide +kernel
theorem dX10_addPass_30 : decode cX10_addPass 30 = .ok (.iconst 1, 1) := by decide +kernel
theorem dX10_addPass_31 : decode cX10_addPass 31 = .ok (.bipush 20, 2) := by decide +kernel
theorem dX10_addPass_33 : decode cX10_addPass 33 = .ok (.invokestatic 74, 3) := by decide +kernel
theorem dX10_addPass_36 : decode cX10_addPass 36 = .ok (.ifCond .ne 9, 3) := by decide +kernel
theorem dX10_addPass_39 : decode cX10_addPass 39 = .ok (.aload_n 0, 1) := by decide +kernel
theorem dX10_addPass_40 : decode cX10_addPass 40 = .ok (.iconst 1, 1) := by decide +kernel
theorem dX10_addPass_41 : decode cX10_addPass 41 = .ok (.invokevirtual 89, 3) := by decide +kernel
theorem dX10_addPass_44 : decode cX10_addPass 44 = .ok (.ireturn, 1) := by decide +kernel
theorem dX10_addPass_45 : decode cX10_addPass 45 = .ok (.aload_n 0, 1) := by decide +kernel
theorem dX10_addPass_46 : decode cX10_addPass 46 = .ok (.getfield 185, 3) := by decide +kernel
theorem dX10_addPass_49 : decode cX10_addPass 49 = .ok (.bipush 6, 2) := by decide +kernel
theorem dX10_addPass_51 : decode cX10_addPass 51 = .ok (.if_icmp .ne 9, 3) := by decide +kernel
theorem dX10_addPass_54 : decode cX10_addPass 54 = .ok (.aload_n 0, 1) := by decide +kernel
theorem dX10_addPass_55 : decode cX10_addPass 55 = .ok (.iconst 2, 1) := by decide +kernel
theorem dX10_addPass_56 : decode cX10_addPass 56 = .ok (.invokevirtual 89, 3) := by decide +kernel
theorem dX10_addPass_59 : decode cX10_addPass 59 = .ok (.ireturn, 1) := by decide +kernel
theorem dX10_addPass_60 : decode cX10_addPass 60 = .ok (.iconst 3, 1) := by decide +kernel
theorem dX10_addPass_61 : decode cX10_addPass 61 = .ok (.newarray .int, 2) := by decide +kernel
theorem dX10_addPass_63 : decode cX10_addPass 63 = .ok (.dup, 1) := by decide +kernel
theorem dX10_addPass_64 : decode cX10_addPass 64 = .ok (.iconst 0, 1) := by decide +kernel
theorem dX10_addPass_65 : decode cX10_addPass 65 = .ok (.iload_n 1, 1) := by decide +kernel
theorem dX10_addPass_66 : decode cX10_addPass 66 = .ok (.iastore, 1) := by decide +kernel
theorem dX10_addPass_67 : decode cX10_addPass 67 = .ok (.dup, 1) := by decide +kernel
theorem dX10_addPass_68 : decode cX10_addPass 68 = .ok (.iconst 1, 1) := by decide +kernel
theorem dX10_addPass_69 : decode cX10_addPass 69 = .ok (.iload_n 2, 1) := by decide +kernel
theorem dX10_addPass_70 : decode cX10_addPass 70 = .ok (.iastore, 1) := by decide +kernel
theorem dX10_addPass_71 : decode cX10_addPass 71 = .ok (.dup, 1) := by decide +kernel
theorem dX10_addPass_72 : decode cX10_addPass 72 = .ok (.iconst 2, 1) := by decide +kernel
theorem dX10_addPass_73 : decode cX10_addPass 73 = .ok (.iload_n 3, 1) := by decide +kernel
theorem dX10_addPass_74 : decode cX10_addPass 74 = .ok (.iastore, 1) := by decide +kernel
theorem dX10_addPass_75 : decode cX10_addPass 75 = .ok (.astore 4, 2) := by decide +kernel
theorem dX10_addPass_77 : decode cX10_addPass 77 = .ok (.aload 4, 2) := by decide +kernel
theorem dX10_addPass_79 : decode cX10_addPass 79 = .ok (.iconst 0, 1) := by decide +kernel
theorem dX10_addPass_80 : decode cX10_addPass 80 = .ok (.aload_n 0, 1) := by decide +kernel
theorem dX10_addPass_81 : decode cX10_addPass 81 = .ok (.getfield 27, 3) := by decide +kernel
theorem dX10_addPass_84 : decode cX10_addPass 84 = .ok (.iconst 3, 1) := by decide +kernel
theorem dX10_addPass_85 : decode cX10_addPass 85 = .ok (.aload_n 0, 1) := by decide +kernel
theorem dX10_addPass_86 : decode cX10_addPass 86 = .ok (.getfield 185, 3) := by decide +kernel
theorem dX10_addPass_89 : decode cX10_addPass 89 = .ok (.imul, 1) := by decide +kernel
theorem dX10_addPass_90 : decode cX10_addPass 90 = .ok (.iconst 3, 1) := by decide +kernel
theorem dX10_addPass_91 : decode cX10_addPass 91 = .ok (.invokestatic 151, 3) := by decide +kernel
theorem dX10_addPass_94 : decode cX10_addPass 94 = .ok (.aload_n 0, 1) := by decide +kernel
theorem dX10_addPass_95 : decode cX10_addPass 95 = .ok (.dup, 1) := by decide +kernel
theorem dX10_addPass_96 : decode cX10_addPass 96 = .ok (.getfield 185, 3) := by decide +kernel
theorem dX10_addPass_99 : decode cX10_addPass 99 = .ok (.iconst 1, 1) := by decide +kernel
theorem dX10_addPass_100 : decode cX10_addPass 100 = .ok (.iadd, 1) := by decide +kernel
theorem dX10_addPass_101 : decode cX10_addPass 101 = .ok (.putfield 185, 3) := by decide +kernel
theorem dX10_addPass_104 : decode cX10_addPass 104 = .ok (.aload_n 0, 1) := by decide +kernel
theorem dX10_addPass_105 : decode cX10_addPass 105 = .ok (.getfield 185, 3) := by decide +kernel
theorem dX10_addPass_108 : decode cX10_addPass 108 = .ok (.ireturn, 1) := by decide +kernel
theorem dX10_rateAt_0 : decode cX10_rateAt 0 = .ok (.iconst 0, 1) := by decide +kernel
theorem dX10_rateAt_1 : decode cX10_rateAt 1 = .ok (.istore_n 2, 1) := by decide +kernel
theorem dX10_rateAt_2 : decode cX10_rateAt 2 = .ok (.iconst 0, 1) := by decide +kernel
theorem dX10_rateAt_3 : decode cX10_rateAt 3 = .ok (.istore_n 3, 1) := by decide +kernel
theorem dX10_rateAt_4 : decode cX10_rateAt 4 = .ok (.iload_n 3, 1) := by decide +kernel
theorem dX10_rateAt_5 : decode cX10_rateAt 5 = .ok (.aload_n 0, 1) := by decide +kernel
theorem dX10_rateAt_6 : decode cX10_rateAt 6 = .ok (.getfield 185, 3) := by decide +kernel
theorem dX10_rateAt_9 : decode cX10_rateAt 9 = .ok (.if_icmp .ge 51, 3) := by decide +kernel
theorem dX10_rateAt_12 : decode cX10_rateAt 12 = .ok (.iload_n 1, 1) := by decide +kernel
theorem dX10_rateAt_13 : decode cX10_rateAt 13 = .ok (.aload_n 0, 1) := by decide +kernel
theorem dX10_rateAt_14 : decode cX10_rateAt 14 = .ok (.getfield 27, 3) := by decide +kernel
theorem dX10_rateAt_17 : decode cX10_rateAt 17 = .ok (.iconst 3, 1) := by decide +kernel
theorem dX10_rateAt_18 : decode cX10_rateAt 18 = .ok (.iload_n 3, 1) := by decide +kernel
theorem dX10_rateAt_19 : decode cX10_rateAt 19 = .ok (.imul, 1) := by decide +kernel
theorem dX10_rateAt_20 : decode cX10_rateAt 20 = .ok (.iaload, 1) := by decide +kernel
theorem dX10_rateAt_21 : decode cX10_rateAt 21 = .ok (.aload_n 0, 1) := by decide +kernel
theorem dX10_rateAt_22 : decode cX10_rateAt 22 = .ok (.getfield 27, 3) := by decide +kernel
theorem dX10_rateAt_25 : decode cX10_rateAt 25 = .ok (.iconst 3, 1) := by decide +kernel
theorem dX10_rateAt_26 : decode cX10_rateAt 26 = .ok (.iload_n 3, 1) := by decide +kernel
theorem dX10_rateAt_27 : decode cX10_rateAt 27 = .ok (.imul, 1) := by decide +kernel
theorem dX10_rateAt_28 : decode cX10_rateAt 28 = .ok (.iconst 1, 1) := by decide +kernel
theorem dX10_rateAt_29 : decode cX10_rateAt 29 = .ok (.iadd, 1) := by decide +kernel
theorem dX10_rateAt_30 : decode cX10_rateAt 30 = .ok (.iaload, 1) := by decide +kernel
theorem dX10_rateAt_31 : decode cX10_rateAt 31 = .ok (.iconst 1, 1) := by decide +kernel
theorem dX10_rateAt_32 : decode cX10_rateAt 32 = .ok (.isub, 1) := by decide +kernel
theorem dX10_rateAt_33 : decode cX10_rateAt 33 = .ok (.invokestatic 74, 3) := by decide +kernel
theorem dX10_rateAt_36 : decode cX10_rateAt 36 = .ok (.ifCond .eq 18, 3) := by decide +kernel
theorem dX10_rateAt_39 : decode cX10_rateAt 39 = .ok (.iload_n 2, 1) := by decide +kernel
theorem dX10_rateAt_40 : decode cX10_rateAt 40 = .ok (.aload_n 0, 1) := by decide +kernel
theorem dX10_rateAt_41 : decode cX10_rateAt 41 = .ok (.getfield 27, 3) := by decide +kernel
theorem dX10_rateAt_44 : decode cX10_rateAt 44 = .ok (.iconst 3, 1) := by decide +kernel
theorem dX10_rateAt_45 : decode cX10_rateAt 45 = .ok (.iload_n 3, 1) := by decide +kernel
theorem dX10_rateAt_46 : decode cX10_rateAt 46 = .ok (.imul, 1) := by decide +kernel
theorem dX10_rateAt_47 : decode cX10_rateAt 47 = .ok (.iconst 2, 1) := by decide +kernel
theorem dX10_rateAt_48 : decode cX10_rateAt 48 = .ok (.iadd, 1) := by decide +kernel
theorem dX10_rateAt_49 : decode cX10_rateAt 49 = .ok (.iaload, 1) := by decide +kernel
theorem dX10_rateAt_50 : decode cX10_rateAt 50 = .ok (.invokestatic 101, 3) := by decide +kernel
theorem dX10_rateAt_53 : decode cX10_rateAt 53 = .ok (.istore_n 2, 1) := by decide +kernel
theorem dX10_rateAt_54 : decode cX10_rateAt 54 = .ok (.iinc 3 1, 3) := by decide +kernel
theorem dX10_rateAt_57 : decode cX10_rateAt 57 = .ok (.goto (-53), 3) := by decide +kernel
theorem dX10_rateAt_60 : decode cX10_rateAt 60 = .ok (.iload_n 2, 1) := by decide +kernel
theorem dX10_rateAt_61 : decode cX10_rateAt 61 = .ok (.ireturn, 1) := by decide +kernel
theorem dX10_rate_0 : decode cX10_rate 0 = .ok (.aload_n 0, 1) := by decide +kernel
theorem dX10_rate_1 : decode cX10_rate 1 = .ok (.iconst 0, 1) := by decide +kernel
theorem dX10_rate_2 : decode cX10_rate 2 = .ok (.putfield 71, 3) := by decide +kernel
theorem dX10_rate_5 : decode cX10_rate 5 = .ok (.iload_n 1, 1) := by decide +kernel
theorem dX10_rate_6 : decode cX10_rate 6 = .ok (.iconst 0, 1) := by decide +kernel
theorem dX10_rate_7 : decode cX10_rate 7 = .ok (.sipush 1439, 3) := by decide +kernel
theorem dX10_rate_10 : decode cX10_rate 10 = .ok (.invokestatic 74, 3) := by decide +kernel
theorem dX10_rate_13 : decode cX10_rate 13 = .ok (.ifCond .eq 11, 3) := by decide +kernel
theorem dX10_rate_16 : decode cX10_rate 16 = .ok (.aload_n 0, 1) := by decide +kernel
theorem dX10_rate_17 : decode cX10_rate 17 = .ok (.iload_n 1, 1) := by decide +kernel
theorem dX10_rate_18 : decode cX10_rate 18 = .ok (.invokevirtual 188, 3) := by decide +kernel
theorem dX10_rate_21 : decode cX10_rate 21 = .ok (.goto 8, 3) := by decide +kernel
theorem dX10_rate_24 : decode cX10_rate 24 = .ok (.aload_n 0, 1) := by decide +kernel
theorem dX10_rate_25 : decode cX10_rate 25 = .ok (.iconst 1, 1) := by decide +kernel
theorem dX10_rate_26 : decode cX10_rate 26 = .ok (.invokevirtual 89, 3) := by decide +kernel
theorem dX10_rate_29 : decode cX10_rate 29 = .ok (.ireturn, 1) := by decide +kernel
theorem dX10_light_0 : decode cX10_light 0 = .ok (.iload_n 0, 1) := by decide +kernel
theorem dX10_light_1 : decode cX10_light 1 = .ok (.sipush 360, 3) := by decide +kernel
theorem dX10_light_4 : decode cX10_light 4 = .ok (.sipush 1079, 3) := by decide +kernel
theorem dX10_light_7 : decode cX10_light 7 = .ok (.invokestatic 74, 3) := by decide +kernel
theorem dX10_light_10 : decode cX10_light 10 = .ok (.ifCond .eq 18, 3) := by decide +kernel
theorem dX10_light_13 : decode cX10_light 13 = .ok (.sipush 360, 3) := by decide +kernel
theorem dX10_light_16 : decode cX10_light 16 = .ok (.iload_n 0, 1) := by decide +kernel
theorem dX10_light_17 : decode cX10_light 17 = .ok (.sipush 720, 3) := by decide +kernel
theorem dX10_light_20 : decode cX10_light 20 = .ok (.isub, 1) := by decide +kernel
theorem dX10_light_21 : decode cX10_light 21 = .ok (.invokestatic 112, 3) := by decide +kernel
theorem dX10_light_24 : decode cX10_light 24 = .ok (.isub, 1) := by decide +kernel
theorem dX10_light_25 : decode cX10_light 25 = .ok (.goto 4, 3) := by decide +kernel
theorem dX10_light_28 : decode cX10_light 28 = .ok (.iconst 0, 1) := by decide +kernel
theorem dX10_light_29 : decode cX10_light 29 = .ok (.ireturn, 1) := by decide +kernel
theorem dX10_air_0 : decode cX10_air 0 = .ok (.bipush (-70), 2) := by decide +kernel
theorem dX10_air_2 : decode cX10_air 2 = .ok (.iload_n 0, 1) := by decide +kernel
theorem dX10_air_3 : decode cX10_air 3 = .ok (.invokestatic 191, 3) := by decide +kernel
theorem dX10_air_6 : decode cX10_air 6 = .ok (.bipush 6, 2) := by decide +kernel
theorem dX10_air_8 : decode cX10_air 8 = .ok (.idiv, 1) := by decide +kernel
theorem dX10_air_9 : decode cX10_air 9 = .ok (.iadd, 1) := by decide +kernel
theorem dX10_air_10 : decode cX10_air 10 = .ok (.ireturn, 1) := by decide +kernel
theorem dX10_power_0 : decode cX10_power 0 = .ok (.iload_n 0, 1) := by decide +kernel
theorem dX10_power_1 : decode cX10_power 1 = .ok (.invokestatic 191, 3) := by decide +kernel
theorem dX10_power_4 : decode cX10_power 4 = .ok (.iload_n 1, 1) := by decide +kernel
theorem dX10_power_5 : decode cX10_power 5 = .ok (.imul, 1) := by decide +kernel
theorem dX10_power_6 : decode cX10_power 6 = .ok (.sipush 3600, 3) := by decide +kernel
theorem dX10_power_9 : decode cX10_power 9 = .ok (.idiv, 1) := by decide +kernel
theorem dX10_power_10 : decode cX10_power 10 = .ok (.ireturn, 1) := by decide +kernel
theorem dX10_sky_0 : decode cX10_sky 0 = .ok (.aload_n 0, 1) := by decide +kernel
theorem dX10_sky_1 : decode cX10_sky 1 = .ok (.iconst 0, 1) := by decide +kernel
theorem dX10_sky_2 : decode cX10_sky 2 = .ok (.putfield 71, 3) := by decide +kernel
theorem dX10_sky_5 : decode cX10_sky 5 = .ok (.iload_n 1, 1) := by decide +kernel
theorem dX10_sky_6 : decode cX10_sky 6 = .ok (.iconst 0, 1) := by decide +kernel
theorem dX10_sky_7 : decode cX10_sky 7 = .ok (.sipush 1439, 3) := by decide +kernel
theorem dX10_sky_10 : decode cX10_sky 10 = .ok (.invokestatic 74, 3) := by decide +kernel
theorem dX10_sky_13 : decode cX10_sky 13 = .ok (.ifCond .ne 9, 3) := by decide +kernel
theorem dX10_sky_16 : decode cX10_sky 16 = .ok (.aload_n 0, 1) := by decide +kernel
theorem dX10_sky_17 : decode cX10_sky 17 = .ok (.iconst 1, 1) := by decide +kernel
theorem dX10_sky_18 : decode cX10_sky 18 = .ok (.invokevirtual 89, 3) := by decide +kernel
theorem dX10_sky_21 : decode cX10_sky 21 = .ok (.ireturn, 1) := by decide +kernel
theorem dX10_sky_22 : decode cX10_sky 22 = .ok (.iload_n 2, 1) := by decide +kernel
theorem dX10_sky_23 : decode cX10_sky 23 = .ok (.ifCond .eq 10, 3) := by decide +kernel
theorem dX10_sky_26 : decode cX10_sky 26 = .ok (.iload_n 1, 1) := by decide +kernel
theorem dX10_sky_27 : decode cX10_sky 27 = .ok (.invokestatic 194, 3) := by decide +kernel
theorem dX10_sky_30 : decode cX10_sky 30 = .ok (.goto 14, 3) := by decide +kernel
theorem dX10_sky_33 : decode cX10_sky 33 = .ok (.iload_n 1, 1) := by decide +kernel
theorem dX10_sky_34 : decode cX10_sky 34 = .ok (.aload_n 0, 1) := by decide +kernel
theorem dX10_sky_35 : decode cX10_sky 35 = .ok (.getfield 36, 3) := by decide +kernel
theorem dX10_sky_38 : decode cX10_sky 38 = .ok (.bipush 6, 2) := by decide +kernel
theorem dX10_sky_40 : decode cX10_sky 40 = .ok (.iaload, 1) := by decide +kernel
theorem dX10_sky_41 : decode cX10_sky 41 = .ok (.invokestatic 197, 3) := by decide +kernel
theorem dX10_sky_44 : decode cX10_sky 44 = .ok (.ireturn, 1) := by decide +kernel
theorem dX10_units_0 : decode cX10_units 0 = .ok (.iconst 0, 1) := by decide +kernel
theorem dX10_units_1 : decode cX10_units 1 = .ok (.istore_n 1, 1) := by decide +kernel
theorem dX10_units_2 : decode cX10_units 2 = .ok (.iconst 0, 1) := by decide +kernel
theorem dX10_units_3 : decode cX10_units 3 = .ok (.istore_n 2, 1) := by decide +kernel
theorem dX10_units_4 : decode cX10_units 4 = .ok (.iload_n 2, 1) := by decide +kernel
theorem dX10_units_5 : decode cX10_units 5 = .ok (.aload_n 0, 1) := by decide +kernel
theorem dX10_units_6 : decode cX10_units 6 = .ok (.bipush 9, 2) := by decide +kernel
theorem dX10_units_8 : decode cX10_units 8 = .ok (.iaload, 1) := by decide +kernel
theorem dX10_units_9 : decode cX10_units 9 = .ok (.if_icmp .ge 22, 3) := by decide +kernel
theorem dX10_units_12 : decode cX10_units 12 = .ok (.iload_n 1, 1) := by decide +kernel
theorem dX10_units_13 : decode cX10_units 13 = .ok (.aload_n 0, 1) := by decide +kernel
theorem dX10_units_14 : decode cX10_units 14 = .ok (.bipush 34, 2) := by decide +kernel
theorem dX10_units_16 : decode cX10_units 16 = .ok (.iconst 4, 1) := by decide +kernel
theorem dX10_units_17 : decode cX10_units 17 = .ok (.iload_n 2, 1) := by decide +kernel
theorem dX10_units_18 : decode cX10_units 18 = .ok (.imul, 1) := by decide +kernel
theorem dX10_units_19 : decode cX10_units 19 = .ok (.iadd, 1) := by decide +kernel
theorem dX10_units_20 : decode cX10_units 20 = .ok (.iconst 1, 1) := by decide +kernel
theorem dX10_units_21 : decode cX10_units 21 = .ok (.iadd, 1) := by decide +kernel
theorem dX10_units_22 : decode cX10_units 22 = .ok (.iaload, 1) := by decide +kernel
theorem dX10_units_23 : decode cX10_units 23 = .ok (.iadd, 1) := by decide +kernel
theorem dX10_units_24 : decode cX10_units 24 = .ok (.istore_n 1, 1) := by decide +kernel
theorem dX10_units_25 : decode cX10_units 25 = .ok (.iinc 2 1, 3) := by decide +kernel
theorem dX10_units_28 : decode cX10_units 28 = .ok (.goto (-24), 3) := by decide +kernel
theorem dX10_units_31 : decode cX10_units 31 = .ok (.iload_n 1, 1) := by decide +kernel
theorem dX10_units_32 : decode cX10_units 32 = .ok (.ireturn, 1) := by decide +kernel
theorem dX10_setRover_0 : decode cX10_setRover 0 = .ok (.aload_n 0, 1) := by decide +kernel
theorem dX10_setRover_1 : decode cX10_setRover 1 = .ok (.iconst 0, 1) := by decide +kernel
theorem dX10_setRover_2 : decode cX10_setRover 2 = .ok (.putfield 71, 3) := by decide +kernel
theorem dX10_setRover_5 : decode cX10_setRover 5 = .ok (.iload_n 1, 1) := by decide +kernel
theorem dX10_setRover_6 : decode cX10_setRover 6 = .ok (.bipush 100, 2) := by decide +kernel
theorem dX10_setRover_8 : decode cX10_setRover 8 = .ok (.sipush 20000, 3) := by decide +kernel
theorem dX10_setRover_11 : decode cX10_setRover 11 = .ok (.invokestatic 74, 3) := by decide +kernel
theorem dX10_setRover_14 : decode cX10_setRover 14 = .ok (.ifCond .eq 15, 3) := by decide +kernel
theorem dX10_setRover_17 : decode cX10_setRover 17 = .ok (.iload_n 2, 1) := by decide +kernel
theorem dX10_setRover_18 : decode cX10_setRover 18 = .ok (.bipush 40, 2) := by decide +kernel
theorem dX10_setRover_20 : decode cX10_setRover 20 = .ok (.sipush 5000, 3) := by decide +kernel
theorem dX10_setRover_23 : decode cX10_setRover 23 = .ok (.invokestatic 74, 3) := by decide +kernel
theorem dX10_setRover_26 : decode cX10_setRover 26 = .ok (.ifCond .ne 9, 3) := by decide +kernel
theorem dX10_setRover_29 : decode cX10_setRover 29 = .ok (.aload_n 0, 1) := by decide +kernel
theorem dX10_setRover_30 : decode cX10_setRover 30 = .ok (.iconst 1, 1) := by decide +kernel
theorem dX10_setRover_31 : decode cX10_setRover 31 = .ok (.invokevirtual 89, 3) := by decide +kernel
theorem dX10_setRover_34 : decode cX10_setRover 34 = .ok (.ireturn, 1) := by decide +kernel
theorem dX10_setRover_35 : decode cX10_setRover 35 = .ok (.aload_n 0, 1) := by decide +kernel
theorem dX10_setRover_36 : decode cX10_setRover 36 = .ok (.getfield 36, 3) := by decide +kernel
theorem dX10_setRover_39 : decode cX10_setRover 39 = .ok (.invokestatic 200, 3) := by decide +kernel
theorem dX10_setRover_42 : decode cX10_setRover 42 = .ok (.iload_n 2, 1) := by decide +kernel
theorem dX10_setRover_43 : decode cX10_setRover 43 = .ok (.if_icmp .le 9, 3) := by decide +kernel
theorem dX10_setRover_46 : decode cX10_setRover 46 = .ok (.aload_n 0, 1) := by decide +kernel
theorem dX10_setRover_47 : decode cX10_setRover 47 = .ok (.iconst 2, 1) := by decide +kernel
theorem dX10_setRover_48 : decode cX10_setRover 48 = .ok (.invokevirtual 89, 3) := by decide +kernel
theorem dX10_setRover_51 : decode cX10_setRover 51 = .ok (.ireturn, 1) := by decide +kernel
theorem dX10_setRover_52 : decode cX10_setRover 52 = .ok (.aload_n 0, 1) := by decide +kernel
theorem dX10_setRover_53 : decode cX10_setRover 53 = .ok (.getfield 30, 3) := by decide +kernel
theorem dX10_setRover_56 : decode cX10_setRover 56 = .ok (.istore_n 3, 1) := by decide +kernel
theorem dX10_setRover_57 : decode cX10_setRover 57 = .ok (.aload_n 0, 1) := by decide +kernel
theorem dX10_setRover_58 : decode cX10_setRover 58 = .ok (.iload_n 1, 1) := by decide +kernel
theorem dX10_setRover_59 : decode cX10_setRover 59 = .ok (.putfield 30, 3) := by decide +kernel
theorem dX10_setRover_62 : decode cX10_setRover 62 = .ok (.aload_n 0, 1) := by decide +kernel
theorem dX10_setRover_63 : decode cX10_setRover 63 = .ok (.iload_n 2, 1) := by decide +kernel
theorem dX10_setRover_64 : decode cX10_setRover 64 = .ok (.putfield 33, 3) := by decide +kernel
theorem dX10_setRover_67 : decode cX10_setRover 67 = .ok (.aload_n 0, 1) := by decide +kernel
theorem dX10_setRover_68 : decode cX10_setRover 68 = .ok (.getfield 36, 3) := by decide +kernel
theorem dX10_setRover_71 : decode cX10_setRover 71 = .ok (.iconst 3, 1) := by decide +kernel
theorem dX10_setRover_72 : decode cX10_setRover 72 = .ok (.aload_n 0, 1) := by decide +kernel
theorem dX10_setRover_73 : decode cX10_setRover 73 = .ok (.getfield 36, 3) := by decide +kernel
theorem dX10_setRover_76 : decode cX10_setRover 76 = .ok (.iconst 3, 1) := by decide +kernel
theorem dX10_setRover_77 : decode cX10_setRover 77 = .ok (.iaload, 1) := by decide +kernel
theorem dX10_setRover_78 : decode cX10_setRover 78 = .ok (.aload_n 0, 1) := by decide +kernel
theorem dX10_setRover_79 : decode cX10_setRover 79 = .ok (.getfield 30, 3) := by decide +kernel
theorem dX10_setRover_82 : decode cX10_setRover 82 = .ok (.invokestatic 204, 3) := by decide +kernel
theorem dX10_setRover_85 : decode cX10_setRover 85 = .ok (.iastore, 1) := by decide +kernel
theorem dX10_setRover_86 : decode cX10_setRover 86 = .ok (.iload_n 3, 1) := by decide +kernel
theorem dX10_setRover_87 : decode cX10_setRover 87 = .ok (.ireturn, 1) := by decide +kernel
theorem dX10_roverTold_0 : decode cX10_roverTold 0 = .ok (.iload_n 1, 1) := by decide +kernel
theorem dX10_roverTold_1 : decode cX10_roverTold 1 = .ok (.bipush 7, 2) := by decide +kernel
theorem dX10_roverTold_3 : decode cX10_roverTold 3 = .ok (.if_icmp .ge 7, 3) := by decide +kernel
theorem dX10_roverTold_6 : decode cX10_roverTold 6 = .ok (.aload_n 0, 1) := by decide +kernel
theorem dX10_roverTold_7 : decode cX10_roverTold 7 = .ok (.iload_n 1, 1) := by decide +kernel
theorem dX10_roverTold_8 : decode cX10_roverTold 8 = .ok (.iaload, 1) := by decide +kernel
theorem dX10_roverTold_9 : decode cX10_roverTold 9 = .ok (.ireturn, 1) := by decide +kernel
theorem dX10_roverTold_10 : decode cX10_roverTold 10 = .ok (.iload_n 1, 1) := by decide +kernel
theorem dX10_roverTold_11 : decode cX10_roverTold 11 = .ok (.bipush 7, 2) := by decide +kernel
theorem dX10_roverTold_13 : decode cX10_roverTold 13 = .ok (.if_icmp .ne 10, 3) := by decide +kernel
theorem dX10_roverTold_16 : decode cX10_roverTold 16 = .ok (.aload_n 0, 1) := by decide +kernel
theorem dX10_roverTold_17 : decode cX10_roverTold 17 = .ok (.invokestatic 200, 3) := by decide +kernel
theorem dX10_roverTold_20 : decode cX10_roverTold 20 = .ok (.goto 20, 3) := by decide +kernel
theorem dX10_roverTold_23 : decode cX10_roverTold 23 = .ok (.iload_n 1, 1) := by decide +kernel
theorem dX10_roverTold_24 : decode cX10_roverTold 24 = .ok (.bipush 8, 2) := by decide +kernel
theorem dX10_roverTold_26 : decode cX10_roverTold 26 = .ok (.if_icmp .ne 10, 3) := by decide +kernel
theorem dX10_roverTold_29 : decode cX10_roverTold 29 = .ok (.aload_n 0, 1) := by decide +kernel
theorem dX10_roverTold_30 : decode cX10_roverTold 30 = .ok (.bipush 9, 2) := by decide +kernel
theorem dX10_roverTold_32 : decode cX10_roverTold 32 = .ok (.iaload, 1) := by decide +kernel
theorem dX10_roverTold_33 : decode cX10_roverTold 33 = .ok (.goto 7, 3) := by decide +kernel
theorem dX10_roverTold_36 : decode cX10_roverTold 36 = .ok (.aload_n 0, 1) := by decide +kernel
theorem dX10_roverTold_37 : decode cX10_roverTold 37 = .ok (.bipush 7, 2) := by decide +kernel
theorem dX10_roverTold_39 : decode cX10_roverTold 39 = .ok (.iaload, 1) := by decide +kernel
theorem dX10_roverTold_40 : decode cX10_roverTold 40 = .ok (.ireturn, 1) := by decide +kernel
theorem dX10_rover_0 : decode cX10_rover 0 = .ok (.aload_n 0, 1) := by decide +kernel
theorem dX10_rover_1 : decode cX10_rover 1 = .ok (.iconst 0, 1) := by decide +kernel
theorem dX10_rover_2 : decode cX10_rover 2 = .ok (.putfield 71, 3) := by decide +kernel
theorem dX10_rover_5 : decode cX10_rover 5 = .ok (.iload_n 1, 1) := by decide +kernel
theorem dX10_rover_6 : decode cX10_rover 6 = .ok (.iconst 0, 1) := by decide +kernel
theorem dX10_rover_7 : decode cX10_rover 7 = .ok (.bipush 9, 2) := by decide +kernel
theorem dX10_rover_9 : decode cX10_rover 9 = .ok (.invokestatic 74, 3) := by decide +kernel
theorem dX10_rover_12 : decode cX10_rover 12 = .ok (.ifCond .eq 14, 3) := by decide +kernel
theorem dX10_rover_15 : decode cX10_rover 15 = .ok (.aload_n 0, 1) := by decide +kernel
theorem dX10_rover_16 : decode cX10_rover 16 = .ok (.getfield 36, 3) := by decide +kernel
theorem dX10_rover_19 : decode cX10_rover 19 = .ok (.iload_n 1, 1) := by decide +kernel
theorem dX10_rover_20 : decode cX10_rover 20 = .ok (.invokestatic 207, 3) := by decide +kernel
theorem dX10_rover_23 : decode cX10_rover 23 = .ok (.goto 8, 3) := by decide +kernel
theorem dX10_rover_26 : decode cX10_rover 26 = .ok (.aload_n 0, 1) := by decide +kernel
theorem dX10_rover_27 : decode cX10_rover 27 = .ok (.iconst 1, 1) := by decide +kernel
theorem dX10_rover_28 : decode cX10_rover 28 = .ok (.invokevirtual 89, 3) := by decide +kernel
theorem dX10_rover_31 : decode cX10_rover 31 = .ok (.ireturn, 1) := by decide +kernel
theorem dX10_piece_0 : decode cX10_piece 0 = .ok (.aload_n 0, 1) := by decide +kernel
theorem dX10_piece_1 : decode cX10_piece 1 = .ok (.iconst 0, 1) := by decide +kernel
theorem dX10_piece_2 : decode cX10_piece 2 = .ok (.putfield 71, 3) := by decide +kernel
theorem dX10_piece_5 : decode cX10_piece 5 = .ok (.iload_n 1, 1) := by decide +kernel
theorem dX10_piece_6 : decode cX10_piece 6 = .ok (.iconst 0, 1) := by decide +kernel
theorem dX10_piece_7 : decode cX10_piece 7 = .ok (.aload_n 0, 1) := by decide +kernel
theorem dX10_piece_8 : decode cX10_piece 8 = .ok (.getfield 36, 3) := by decide +kernel
theorem dX10_piece_11 : decode cX10_piece 11 = .ok (.bipush 9, 2) := by decide +kernel
theorem dX10_piece_13 : decode cX10_piece 13 = .ok (.iaload, 1) := by decide +kernel
theorem dX10_piece_14 : decode cX10_piece 14 = .ok (.iconst 1, 1) := by decide +kernel
theorem dX10_piece_15 : decode cX10_piece 15 = .ok (.isub, 1) := by decide +kernel
theorem dX10_piece_16 : decode cX10_piece 16 = .ok (.invokestatic 74, 3) := by decide +kernel
theorem dX10_piece_19 : decode cX10_piece 19 = .ok (.ifCond .eq 28, 3) := by decide +kernel
theorem dX10_piece_22 : decode cX10_piece 22 = .ok (.iload_n 2, 1) := by decide +kernel
theorem dX10_piece_23 : decode cX10_piece 23 = .ok (.iconst 0, 1) := by decide +kernel
theorem dX10_piece_24 : decode cX10_piece 24 = .ok (.iconst 3, 1) := by decide +kernel
theorem dX10_piece_25 : decode cX10_piece 25 = .ok (.invokestatic 74, 3) := by decide +kernel
theorem dX10_piece_28 : decode cX10_piece 28 = .ok (.ifCond .eq 19, 3) := by decide +kernel
theorem dX10_piece_31 : decode cX10_piece 31 = .ok (.aload_n 0, 1) := by decide +kernel
theorem dX10_piece_32 : decode cX10_piece 32 = .ok (.getfield 36, 3) := by decide +kernel
theorem dX10_piece_35 : decode cX10_piece 35 = .ok (.bipush 34, 2) := by decide +kernel
theorem dX10_piece_37 : decode cX10_piece 37 = .ok (.iconst 4, 1) := by decide +kernel
theorem dX10_piece_38 : decode cX10_piece 38 = .ok (.iload_n 1, 1) := by decide +kernel
theorem dX10_piece_39 : decode cX10_piece 39 = .ok (.imul, 1) := by decide +kernel
theorem dX10_piece_40 : decode cX10_piece 40 = .ok (.iadd, 1) := by decide +kernel
theorem dX10_piece_41 : decode cX10_piece 41 = .ok (.iload_n 2, 1) := by decide +kernel
theorem dX10_piece_42 : decode cX10_piece 42 = .ok (.iadd, 1) := by decide +kernel
theorem dX10_piece_43 : decode cX10_piece 43 = .ok (.iaload, 1) := by decide +kernel
theorem dX10_piece_44 : decode cX10_piece 44 = .ok (.goto 8, 3) := by decide +kernel
theorem dX10_piece_47 : decode cX10_piece 47 = .ok (.aload_n 0, 1) := by decide +kernel
theorem dX10_piece_48 : decode cX10_piece 48 = .ok (.iconst 1, 1) := by decide +kernel
theorem dX10_piece_49 : decode cX10_piece 49 = .ok (.invokevirtual 89, 3) := by decide +kernel
theorem dX10_piece_52 : decode cX10_piece 52 = .ok (.ireturn, 1) := by decide +kernel
theorem dX10_scoreOf_0 : decode cX10_scoreOf 0 = .ok (.iconst 0, 1) := by decide +kernel
theorem dX10_scoreOf_1 : decode cX10_scoreOf 1 = .ok (.istore_n 1, 1) := by decide +kernel
theorem dX10_scoreOf_2 : decode cX10_scoreOf 2 = .ok (.iconst 0, 1) := by decide +kernel
theorem dX10_scoreOf_3 : decode cX10_scoreOf 3 = .ok (.istore_n 2, 1) := by decide +kernel
theorem dX10_scoreOf_4 : decode cX10_scoreOf 4 = .ok (.iload_n 2, 1) := by decide +kernel
theorem dX10_scoreOf_5 : decode cX10_scoreOf 5 = .ok (.aload_n 0, 1) := by decide +kernel
theorem dX10_scoreOf_6 : decode cX10_scoreOf 6 = .ok (.getfield 78, 3) := by decide +kernel
theorem dX10_scoreOf_9 : decode cX10_scoreOf 9 = .ok (.if_icmp .ge 34, 3) := by decide +kernel
theorem dX10_scoreOf_12 : decode cX10_scoreOf 12 = .ok (.iload_n 1, 1) := by decide +kernel
theorem dX10_scoreOf_13 : decode cX10_scoreOf 13 = .ok (.aload_n 0, 1) := by decide +kernel
theorem dX10_scoreOf_14 : decode cX10_scoreOf 14 = .ok (.aload_n 0, 1) := by decide +kernel
theorem dX10_scoreOf_15 : decode cX10_scoreOf 15 = .ok (.getfield 36, 3) := by decide +kernel
theorem dX10_scoreOf_18 : decode cX10_scoreOf 18 = .ok (.iload_n 2, 1) := by decide +kernel
theorem dX10_scoreOf_19 : decode cX10_scoreOf 19 = .ok (.iconst 1, 1) := by decide +kernel
theorem dX10_scoreOf_20 : decode cX10_scoreOf 20 = .ok (.invokevirtual 174, 3) := by decide +kernel
theorem dX10_scoreOf_23 : decode cX10_scoreOf 23 = .ok (.ifCond .eq 11, 3) := by decide +kernel
theorem dX10_scoreOf_26 : decode cX10_scoreOf 26 = .ok (.aload_n 0, 1) := by decide +kernel
theorem dX10_scoreOf_27 : decode cX10_scoreOf 27 = .ok (.iload_n 2, 1) := by decide +kernel
theorem dX10_scoreOf_28 : decode cX10_scoreOf 28 = .ok (.invokevirtual 171, 3) := by decide +kernel
theorem dX10_scoreOf_31 : decode cX10_scoreOf 31 = .ok (.goto 4, 3) := by decide +kernel
theorem dX10_scoreOf_34 : decode cX10_scoreOf 34 = .ok (.iconst 0, 1) := by decide +kernel
theorem dX10_scoreOf_35 : decode cX10_scoreOf 35 = .ok (.iadd, 1) := by decide +kernel
theorem dX10_scoreOf_36 : decode cX10_scoreOf 36 = .ok (.istore_n 1, 1) := by decide +kernel
theorem dX10_scoreOf_37 : decode cX10_scoreOf 37 = .ok (.iinc 2 1, 3) := by decide +kernel
theorem dX10_scoreOf_40 : decode cX10_scoreOf 40 = .ok (.goto (-36), 3) := by decide +kernel
theorem dX10_scoreOf_43 : decode cX10_scoreOf 43 = .ok (.iload_n 1, 1) := by decide +kernel
theorem dX10_scoreOf_44 : decode cX10_scoreOf 44 = .ok (.ireturn, 1) := by decide +kernel
theorem dX10_score_0 : decode cX10_score 0 = .ok (.aload_n 0, 1) := by decide +kernel
theorem dX10_score_1 : decode cX10_score 1 = .ok (.iconst 0, 1) := by decide +kernel
theorem dX10_score_2 : decode cX10_score 2 = .ok (.putfield 71, 3) := by decide +kernel
theorem dX10_score_5 : decode cX10_score 5 = .ok (.aload_n 0, 1) := by decide +kernel
theorem dX10_score_6 : decode cX10_score 6 = .ok (.invokevirtual 210, 3) := by decide +kernel
theorem dX10_score_9 : decode cX10_score 9 = .ok (.ireturn, 1) := by decide +kernel
theorem dX10_pass_0 : decode cX10_pass 0 = .ok (.aload_n 1, 1) := by decide +kernel
theorem dX10_pass_1 : decode cX10_pass 1 = .ok (.iconst 0, 1) := by decide +kernel
theorem dX10_pass_2 : decode cX10_pass 2 = .ok (.iaload, 1) := by decide +kernel
theorem dX10_pass_3 : decode cX10_pass 3 = .ok (.sipush 14400, 3) := by decide +kernel
theorem dX10_pass_6 : decode cX10_pass 6 = .ok (.if_icmp .ne 6, 3) := by decide +kernel
theorem dX10_pass_9 : decode cX10_pass 9 = .ok (.bipush 7, 2) := by decide +kernel
theorem dX10_pass_11 : decode cX10_pass 11 = .ok (.ireturn, 1) := by decide +kernel
theorem dX10_pass_12 : decode cX10_pass 12 = .ok (.aload_n 1, 1) := by decide +kernel
theorem dX10_pass_13 : decode cX10_pass 13 = .ok (.iconst 0, 1) := by decide +kernel
theorem dX10_pass_14 : decode cX10_pass 14 = .ok (.iaload, 1) := by decide +kernel
theorem dX10_pass_15 : decode cX10_pass 15 = .ok (.sipush 1440, 3) := by decide +kernel
theorem dX10_pass_18 : decode cX10_pass 18 = .ok (.irem, 1) := by decide +kernel
theorem dX10_pass_19 : decode cX10_pass 19 = .ok (.istore 4, 2) := by decide +kernel
theorem dX10_pass_21 : decode cX10_pass 21 = .ok (.aload_n 1, 1) := by decide +kernel
theorem dX10_pass_22 : decode cX10_pass 22 = .ok (.iconst 3, 1) := by decide +kernel
theorem dX10_pass_23 : decode cX10_pass 23 = .ok (.iaload, 1) := by decide +kernel
theorem dX10_pass_24 : decode cX10_pass 24 = .ok (.iload 4, 2) := by decide +kernel
theorem dX10_pass_26 : decode cX10_pass 26 = .ok (.aload_n 1, 1) := by decide +kernel
theorem dX10_pass_27 : decode cX10_pass 27 = .ok (.bipush 6, 2) := by decide +kernel
theorem dX10_pass_29 : decode cX10_pass 29 = .ok (.iaload, 1) := by decide +kernel
theorem dX10_pass_30 : decode cX10_pass 30 = .ok (.invokestatic 197, 3) := by decide +kernel
theorem dX10_pass_33 : decode cX10_pass 33 = .ok (.iadd, 1) := by decide +kernel
theorem dX10_pass_34 : decode cX10_pass 34 = .ok (.iload_n 3, 1) := by decide +kernel
theorem dX10_pass_35 : decode cX10_pass 35 = .ok (.ifCond .eq 7, 3) := by decide +kernel
theorem dX10_pass_38 : decode cX10_pass 38 = .ok (.iconst 2, 1) := by decide +kernel
theorem dX10_pass_39 : decode cX10_pass 39 = .ok (.goto 4, 3) := by decide +kernel
theorem dX10_pass_42 : decode cX10_pass 42 = .ok (.iconst 1, 1) := by decide +kernel
theorem dX10_pass_43 : decode cX10_pass 43 = .ok (.isub, 1) := by decide +kernel
theorem dX10_pass_44 : decode cX10_pass 44 = .ok (.iconst 3, 1) := by decide +kernel
theorem dX10_pass_45 : decode cX10_pass 45 = .ok (.aload_n 1, 1) := by decide +kernel
theorem dX10_pass_46 : decode cX10_pass 46 = .ok (.iconst 5, 1) := by decide +kernel
theorem dX10_pass_47 : decode cX10_pass 47 = .ok (.iaload, 1) := by decide +kernel
theorem dX10_pass_48 : decode cX10_pass 48 = .ok (.imul, 1) := by decide +kernel
theorem dX10_pass_49 : decode cX10_pass 49 = .ok (.isub, 1) := by decide +kernel
theorem dX10_pass_50 : decode cX10_pass 50 = .ok (.iload_n 2, 1) := by decide +kernel
theorem dX10_pass_51 : decode cX10_pass 51 = .ok (.isub, 1) := by decide +kernel
theorem dX10_pass_52 : decode cX10_pass 52 = .ok (.istore 5, 2) := by decide +kernel
theorem dX10_pass_54 : decode cX10_pass 54 = .ok (.aload_n 1, 1) := by decide +kernel
theorem dX10_pass_55 : decode cX10_pass 55 = .ok (.iconst 3, 1) := by decide +kernel
theorem dX10_pass_56 : decode cX10_pass 56 = .ok (.aload_n 0, 1) := by decide +kernel
theorem dX10_pass_57 : decode cX10_pass 57 = .ok (.getfield 30, 3) := by decide +kernel
theorem dX10_pass_60 : decode cX10_pass 60 = .ok (.iload 5, 2) := by decide +kernel
theorem dX10_pass_62 : decode cX10_pass 62 = .ok (.invokestatic 204, 3) := by decide +kernel
theorem dX10_pass_65 : decode cX10_pass 65 = .ok (.iastore, 1) := by decide +kernel
theorem dX10_pass_66 : decode cX10_pass 66 = .ok (.iload 5, 2) := by decide +kernel
theorem dX10_pass_68 : decode cX10_pass 68 = .ok (.ifCond .ge 5, 3) := by decide +kernel
theorem dX10_pass_71 : decode cX10_pass 71 = .ok (.iconst 2, 1) := by decide +kernel
theorem dX10_pass_72 : decode cX10_pass 72 = .ok (.ireturn, 1) := by decide +kernel
theorem dX10_pass_73 : decode cX10_pass 73 = .ok (.aload_n 1, 1) := by decide +kernel
theorem dX10_pass_74 : decode cX10_pass 74 = .ok (.iconst 4, 1) := by decide +kernel
theorem dX10_pass_75 : decode cX10_pass 75 = .ok (.dup2, 1) := by decide +kernel
theorem dX10_pass_76 : decode cX10_pass 76 = .ok (.iaload, 1) := by decide +kernel
theorem dX10_pass_77 : decode cX10_pass 77 = .ok (.iload 4, 2) := by decide +kernel
theorem dX10_pass_79 : decode cX10_pass 79 = .ok (.invokestatic 194, 3) := by decide +kernel
theorem dX10_pass_82 : decode cX10_pass 82 = .ok (.aload_n 1, 1) := by decide +kernel
theorem dX10_pass_83 : decode cX10_pass 83 = .ok (.iconst 4, 1) := by decide +kernel
theorem dX10_pass_84 : decode cX10_pass 84 = .ok (.iaload, 1) := by decide +kernel
theorem dX10_pass_85 : decode cX10_pass 85 = .ok (.isub, 1) := by decide +kernel
theorem dX10_pass_86 : decode cX10_pass 86 = .ok (.bipush 20, 2) := by decide +kernel
theorem dX10_pass_88 : decode cX10_pass 88 = .ok (.idiv, 1) := by decide +kernel
theorem dX10_pass_89 : decode cX10_pass 89 = .ok (.iconst 2, 1) := by decide +kernel
theorem dX10_pass_90 : decode cX10_pass 90 = .ok (.aload_n 1, 1) := by decide +kernel
theorem dX10_pass_91 : decode cX10_pass 91 = .ok (.iconst 5, 1) := by decide +kernel
theorem dX10_pass_92 : decode cX10_pass 92 = .ok (.iaload, 1) := by decide +kernel
theorem dX10_pass_93 : decode cX10_pass 93 = .ok (.imul, 1) := by decide +kernel
theorem dX10_pass_94 : decode cX10_pass 94 = .ok (.iadd, 1) := by decide +kernel
theorem dX10_pass_95 : decode cX10_pass 95 = .ok (.iload_n 3, 1) := by decide +kernel
theorem dX10_pass_96 : decode cX10_pass 96 = .ok (.ifCond .eq 7, 3) := by decide +kernel
theorem dX10_pass_99 : decode cX10_pass 99 = .ok (.iconst 1, 1) := by decide +kernel
theorem dX10_pass_100 : decode cX10_pass 100 = .ok (.goto 4, 3) := by decide +kernel
theorem dX10_pass_103 : decode cX10_pass 103 = .ok (.iconst 0, 1) := by decide +kernel
theorem dX10_pass_104 : decode cX10_pass 104 = .ok (.iadd, 1) := by decide +kernel
theorem dX10_pass_105 : decode cX10_pass 105 = .ok (.iadd, 1) := by decide +kernel
theorem dX10_pass_106 : decode cX10_pass 106 = .ok (.iastore, 1) := by decide +kernel
theorem dX10_pass_107 : decode cX10_pass 107 = .ok (.aload_n 1, 1) := by decide +kernel
theorem dX10_pass_108 : decode cX10_pass 108 = .ok (.iconst 0, 1) := by decide +kernel
theorem dX10_pass_109 : decode cX10_pass 109 = .ok (.dup2, 1) := by decide +kernel
theorem dX10_pass_110 : decode cX10_pass 110 = .ok (.iaload, 1) := by decide +kernel
theorem dX10_pass_111 : decode cX10_pass 111 = .ok (.iconst 1, 1) := by decide +kernel
theorem dX10_pass_112 : decode cX10_pass 112 = .ok (.iadd, 1) := by decide +kernel
theorem dX10_pass_113 : decode cX10_pass 113 = .ok (.iastore, 1) := by decide +kernel
theorem dX10_pass_114 : decode cX10_pass 114 = .ok (.aload_n 1, 1) := by decide +kernel
theorem dX10_pass_115 : decode cX10_pass 115 = .ok (.iconst 0, 1) := by decide +kernel
theorem dX10_pass_116 : decode cX10_pass 116 = .ok (.iaload, 1) := by decide +kernel
theorem dX10_pass_117 : decode cX10_pass 117 = .ok (.sipush 1440, 3) := by decide +kernel
theorem dX10_pass_120 : decode cX10_pass 120 = .ok (.irem, 1) := by decide +kernel
theorem dX10_pass_121 : decode cX10_pass 121 = .ok (.ifCond .ne 18, 3) := by decide +kernel
theorem dX10_pass_124 : decode cX10_pass 124 = .ok (.aload_n 1, 1) := by decide +kernel
theorem dX10_pass_125 : decode cX10_pass 125 = .ok (.bipush 6, 2) := by decide +kernel
theorem dX10_pass_127 : decode cX10_pass 127 = .ok (.bipush 20, 2) := by decide +kernel
theorem dX10_pass_129 : decode cX10_pass 129 = .ok (.aload_n 1, 1) := by decide +kernel
theorem dX10_pass_130 : decode cX10_pass 130 = .ok (.bipush 6, 2) := by decide +kernel
theorem dX10_pass_132 : decode cX10_pass 132 = .ok (.iaload, 1) := by decide +kernel
theorem dX10_pass_133 : decode cX10_pass 133 = .ok (.iconst 1, 1) := by decide +kernel
theorem dX10_pass_134 : decode cX10_pass 134 = .ok (.isub, 1) := by decide +kernel
theorem dX10_pass_135 : decode cX10_pass 135 = .ok (.invokestatic 101, 3) := by decide +kernel
theorem dX10_pass_138 : decode cX10_pass 138 = .ok (.iastore, 1) := by decide +kernel
theorem dX10_pass_139 : decode cX10_pass 139 = .ok (.iconst 0, 1) := by decide +kernel
theorem dX10_pass_140 : decode cX10_pass 140 = .ok (.ireturn, 1) := by decide +kernel
theorem dX10_passMany_0 : decode cX10_passMany 0 = .ok (.iconst 0, 1) := by decide +kernel
theorem dX10_passMany_1 : decode cX10_passMany 1 = .ok (.istore 5, 2) := by decide +kernel
theorem dX10_passMany_3 : decode cX10_passMany 3 = .ok (.iconst 0, 1) := by decide +kernel
theorem dX10_passMany_4 : decode cX10_passMany 4 = .ok (.istore 6, 2) := by decide +kernel
theorem dX10_passMany_6 : decode cX10_passMany 6 = .ok (.iload 6, 2) := by decide +kernel
theorem dX10_passMany_8 : decode cX10_passMany 8 = .ok (.iload_n 2, 1) := by decide +kernel
theorem dX10_passMany_9 : decode cX10_passMany 9 = .ok (.if_icmp .ge 24, 3) := by decide +kernel
theorem dX10_passMany_12 : decode cX10_passMany 12 = .ok (.iload 5, 2) := by decide +kernel
theorem dX10_passMany_14 : decode cX10_passMany 14 = .ok (.ifCond .ne 19, 3) := by decide +kernel
theorem dX10_passMany_17 : decode cX10_passMany 17 = .ok (.aload_n 0, 1) := by decide +kernel
theorem dX10_passMany_18 : decode cX10_passMany 18 = .ok (.aload_n 1, 1) := by decide +kernel
theorem dX10_passMany_19 : decode cX10_passMany 19 = .ok (.iload_n 3, 1) := by decide +kernel
theorem dX10_passMany_20 : decode cX10_passMany 20 = .ok (.iload 4, 2) := by decide +kernel
theorem dX10_passMany_22 : decode cX10_passMany 22 = .ok (.invokevirtual 214, 3) := by decide +kernel
theorem dX10_passMany_25 : decode cX10_passMany 25 = .ok (.istore 5, 2) := by decide +kernel
theorem dX10_passMany_27 : decode cX10_passMany 27 = .ok (.iinc 6 1, 3) := by decide +kernel
theorem dX10_passMany_30 : decode cX10_passMany 30 = .ok (.goto (-24), 3) := by decide +kernel
theorem dX10_passMany_33 : decode cX10_passMany 33 = .ok (.iload 5, 2) := by decide +kernel
theorem dX10_passMany_35 : decode cX10_passMany 35 = .ok (.ireturn, 1) := by decide +kernel
theorem dX10_drive_0 : decode cX10_drive 0 = .ok (.aload_n 0, 1) := by decide +kernel
theorem dX10_drive_1 : decode cX10_drive 1 = .ok (.iload_n 2, 1) := by decide +kernel
theorem dX10_drive_2 : decode cX10_drive 2 = .ok (.iload_n 3, 1) := by decide +kernel
theorem dX10_drive_3 : decode cX10_drive 3 = .ok (.iconst 1, 1) := by decide +kernel
theorem dX10_drive_4 : decode cX10_drive 4 = .ok (.invokevirtual 126, 3) := by decide +kernel
theorem dX10_drive_7 : decode cX10_drive 7 = .ok (.aload_n 0, 1) := by decide +kernel
theorem dX10_drive_8 : decode cX10_drive 8 = .ok (.getfield 56, 3) := by decide +kernel
theorem dX10_drive_11 : decode cX10_drive 11 = .ok (.aload_n 1, 1) := by decide +kernel
theorem dX10_drive_12 : decode cX10_drive 12 = .ok (.iconst 1, 1) := by decide +kernel
theorem dX10_drive_13 : decode cX10_drive 13 = .ok (.iaload, 1) := by decide +kernel
theorem dX10_drive_14 : decode cX10_drive 14 = .ok (.aload_n 1, 1) := by decide +kernel
theorem dX10_drive_15 : decode cX10_drive 15 = .ok (.iconst 2, 1) := by decide +kernel
theorem dX10_drive_16 : decode cX10_drive 16 = .ok (.iaload, 1) := by decide +kernel
theorem dX10_drive_17 : decode cX10_drive 17 = .ok (.invokestatic 93, 3) := by decide +kernel
theorem dX10_drive_20 : decode cX10_drive 20 = .ok (.iaload, 1) := by decide +kernel
theorem dX10_drive_21 : decode cX10_drive 21 = .ok (.ldc 122, 2) := by decide +kernel
theorem dX10_drive_23 : decode cX10_drive 23 = .ok (.if_icmp .ne 5, 3) := by decide +kernel
theorem dX10_drive_26 : decode cX10_drive 26 = .ok (.iconst 1, 1) := by decide +kernel
theorem dX10_drive_27 : decode cX10_drive 27 = .ok (.ireturn, 1) := by decide +kernel
theorem dX10_drive_28 : decode cX10_drive 28 = .ok (.iconst 0, 1) := by decide +kernel
theorem dX10_drive_29 : decode cX10_drive 29 = .ok (.istore 4, 2) := by decide +kernel
theorem dX10_drive_31 : decode cX10_drive 31 = .ok (.iload 4, 2) := by decide +kernel
theorem dX10_drive_33 : decode cX10_drive 33 = .ok (.ifCond .ne 114, 3) := by decide +kernel
theorem dX10_drive_36 : decode cX10_drive 36 = .ok (.aload_n 1, 1) := by decide +kernel
theorem dX10_drive_37 : decode cX10_drive 37 = .ok (.iconst 1, 1) := by decide +kernel
theorem dX10_drive_38 : decode cX10_drive 38 = .ok (.iaload, 1) := by decide +kernel
theorem dX10_drive_39 : decode cX10_drive 39 = .ok (.iload_n 2, 1) := by decide +kernel
theorem dX10_drive_40 : decode cX10_drive 40 = .ok (.if_icmp .ne 10, 3) := by decide +kernel
theorem dX10_drive_43 : decode cX10_drive 43 = .ok (.aload_n 1, 1) := by decide +kernel
theorem dX10_drive_44 : decode cX10_drive 44 = .ok (.iconst 2, 1) := by decide +kernel
theorem dX10_drive_45 : decode cX10_drive 45 = .ok (.iaload, 1) := by decide +kernel
theorem dX10_drive_46 : decode cX10_drive 46 = .ok (.iload_n 3, 1) := by decide +kernel
theorem dX10_drive_47 : decode cX10_drive 47 = .ok (.if_icmp .eq 100, 3) := by decide +kernel
theorem dX10_drive_50 : decode cX10_drive 50 = .ok (.aload_n 1, 1) := by decide +kernel
theorem dX10_drive_51 : decode cX10_drive 51 = .ok (.iconst 4, 1) := by decide +kernel
theorem dX10_drive_52 : decode cX10_drive 52 = .ok (.iaload, 1) := by decide +kernel
theorem dX10_drive_53 : decode cX10_drive 53 = .ok (.bipush (-50), 2) := by decide +kernel
theorem dX10_drive_55 : decode cX10_drive 55 = .ok (.if_icmp .ge 5, 3) := by decide +kernel
theorem dX10_drive_58 : decode cX10_drive 58 = .ok (.iconst 3, 1) := by decide +kernel
theorem dX10_drive_59 : decode cX10_drive 59 = .ok (.ireturn, 1) := by decide +kernel
theorem dX10_drive_60 : decode cX10_drive 60 = .ok (.aload_n 0, 1) := by decide +kernel
theorem dX10_drive_61 : decode cX10_drive 61 = .ok (.aload_n 1, 1) := by decide +kernel
theorem dX10_drive_62 : decode cX10_drive 62 = .ok (.iconst 1, 1) := by decide +kernel
theorem dX10_drive_63 : decode cX10_drive 63 = .ok (.iaload, 1) := by decide +kernel
theorem dX10_drive_64 : decode cX10_drive 64 = .ok (.aload_n 1, 1) := by decide +kernel
theorem dX10_drive_65 : decode cX10_drive 65 = .ok (.iconst 2, 1) := by decide +kernel
theorem dX10_drive_66 : decode cX10_drive 66 = .ok (.iaload, 1) := by decide +kernel
theorem dX10_drive_67 : decode cX10_drive 67 = .ok (.invokevirtual 130, 3) := by decide +kernel
theorem dX10_drive_70 : decode cX10_drive 70 = .ok (.istore 5, 2) := by decide +kernel
theorem dX10_drive_72 : decode cX10_drive 72 = .ok (.aload_n 0, 1) := by decide +kernel
theorem dX10_drive_73 : decode cX10_drive 73 = .ok (.aload_n 1, 1) := by decide +kernel
theorem dX10_drive_74 : decode cX10_drive 74 = .ok (.aload_n 0, 1) := by decide +kernel
theorem dX10_drive_75 : decode cX10_drive 75 = .ok (.aload_n 1, 1) := by decide +kernel
theorem dX10_drive_76 : decode cX10_drive 76 = .ok (.iconst 1, 1) := by decide +kernel
theorem dX10_drive_77 : decode cX10_drive 77 = .ok (.iaload, 1) := by decide +kernel
theorem dX10_drive_78 : decode cX10_drive 78 = .ok (.aload_n 1, 1) := by decide +kernel
theorem dX10_drive_79 : decode cX10_drive 79 = .ok (.iconst 2, 1) := by decide +kernel
theorem dX10_drive_80 : decode cX10_drive 80 = .ok (.iaload, 1) := by decide +kernel
theorem dX10_drive_81 : decode cX10_drive 81 = .ok (.iload 5, 2) := by decide +kernel
theorem dX10_drive_83 : decode cX10_drive 83 = .ok (.invokevirtual 119, 3) := by decide +kernel
theorem dX10_drive_86 : decode cX10_drive 86 = .ok (.iconst 1, 1) := by decide +kernel
theorem dX10_drive_87 : decode cX10_drive 87 = .ok (.isub, 1) := by decide +kernel
theorem dX10_drive_88 : decode cX10_drive 88 = .ok (.iconst 0, 1) := by decide +kernel
theorem dX10_drive_89 : decode cX10_drive 89 = .ok (.iconst 1, 1) := by decide +kernel
theorem dX10_drive_90 : decode cX10_drive 90 = .ok (.invokevirtual 218, 3) := by decide +kernel
theorem dX10_drive_93 : decode cX10_drive 93 = .ok (.istore 4, 2) := by decide +kernel
theorem dX10_drive_95 : decode cX10_drive 95 = .ok (.iload 4, 2) := by decide +kernel
theorem dX10_drive_97 : decode cX10_drive 97 = .ok (.ifCond .ne 23, 3) := by decide +kernel
theorem dX10_drive_100 : decode cX10_drive 100 = .ok (.aload_n 0, 1) := by decide +kernel
theorem dX10_drive_101 : decode cX10_drive 101 = .ok (.aload_n 1, 1) := by decide +kernel
theorem dX10_drive_102 : decode cX10_drive 102 = .ok (.aload_n 0, 1) := by decide +kernel
theorem dX10_drive_103 : decode cX10_drive 103 = .ok (.aload_n 1, 1) := by decide +kernel
theorem dX10_drive_104 : decode cX10_drive 104 = .ok (.iconst 1, 1) := by decide +kernel
theorem dX10_drive_105 : decode cX10_drive 105 = .ok (.iaload, 1) := by decide +kernel
theorem dX10_drive_106 : decode cX10_drive 106 = .ok (.aload_n 1, 1) := by decide +kernel
theorem dX10_drive_107 : decode cX10_drive 107 = .ok (.iconst 2, 1) := by decide +kernel
theorem dX10_drive_108 : decode cX10_drive 108 = .ok (.iaload, 1) := by decide +kernel
theorem dX10_drive_109 : decode cX10_drive 109 = .ok (.iload 5, 2) := by decide +kernel
theorem dX10_drive_111 : decode cX10_drive 111 = .ok (.invokevirtual 133, 3) := by decide +kernel
theorem dX10_drive_114 : decode cX10_drive 114 = .ok (.iconst 1, 1) := by decide +kernel
theorem dX10_drive_115 : decode cX10_drive 115 = .ok (.invokevirtual 214, 3) := by decide +kernel
theorem dX10_drive_118 : decode cX10_drive 118 = .ok (.istore 4, 2) := by decide +kernel
theorem dX10_drive_120 : decode cX10_drive 120 = .ok (.aload_n 1, 1) := by decide +kernel
theorem dX10_drive_121 : decode cX10_drive 121 = .ok (.iconst 1, 1) := by decide +kernel
theorem dX10_drive_122 : decode cX10_drive 122 = .ok (.dup2, 1) := by decide +kernel
theorem dX10_drive_123 : decode cX10_drive 123 = .ok (.iaload, 1) := by decide +kernel
theorem dX10_drive_124 : decode cX10_drive 124 = .ok (.getstatic 106, 3) := by decide +kernel
theorem dX10_drive_127 : decode cX10_drive 127 = .ok (.iload 5, 2) := by decide +kernel
theorem dX10_drive_129 : decode cX10_drive 129 = .ok (.iaload, 1) := by decide +kernel
theorem dX10_drive_130 : decode cX10_drive 130 = .ok (.iadd, 1) := by decide +kernel
theorem dX10_drive_131 : decode cX10_drive 131 = .ok (.iastore, 1) := by decide +kernel
theorem dX10_drive_132 : decode cX10_drive 132 = .ok (.aload_n 1, 1) := by decide +kernel
theorem dX10_drive_133 : decode cX10_drive 133 = .ok (.iconst 2, 1) := by decide +kernel
theorem dX10_drive_134 : decode cX10_drive 134 = .ok (.dup2, 1) := by decide +kernel
theorem dX10_drive_135 : decode cX10_drive 135 = .ok (.iaload, 1) := by decide +kernel
theorem dX10_drive_136 : decode cX10_drive 136 = .ok (.getstatic 109, 3) := by decide +kernel
theorem dX10_drive_139 : decode cX10_drive 139 = .ok (.iload 5, 2) := by decide +kernel
theorem dX10_drive_141 : decode cX10_drive 141 = .ok (.iaload, 1) := by decide +kernel
theorem dX10_drive_142 : decode cX10_drive 142 = .ok (.iadd, 1) := by decide +kernel
theorem dX10_drive_143 : decode cX10_drive 143 = .ok (.iastore, 1) := by decide +kernel
theorem dX10_drive_144 : decode cX10_drive 144 = .ok (.goto (-113), 3) := by decide +kernel
theorem dX10_drive_147 : decode cX10_drive 147 = .ok (.iload 4, 2) := by decide +kernel
theorem dX10_drive_149 : decode cX10_drive 149 = .ok (.ireturn, 1) := by decide +kernel
theorem dX10_take_0 : decode cX10_take 0 = .ok (.aload_n 0, 1) := by decide +kernel
theorem dX10_take_1 : decode cX10_take 1 = .ok (.getfield 24, 3) := by decide +kernel
theorem dX10_take_4 : decode cX10_take 4 = .ok (.iconst 4, 1) := by decide +kernel
theorem dX10_take_5 : decode cX10_take 5 = .ok (.iload_n 3, 1) := by decide +kernel
theorem dX10_take_6 : decode cX10_take 6 = .ok (.imul, 1) := by decide +kernel
theorem dX10_take_7 : decode cX10_take 7 = .ok (.iaload, 1) := by decide +kernel
theorem dX10_take_8 : decode cX10_take 8 = .ok (.istore 5, 2) := by decide +kernel
theorem dX10_take_10 : decode cX10_take 10 = .ok (.aload_n 0, 1) := by decide +kernel
theorem dX10_take_11 : decode cX10_take 11 = .ok (.getfield 24, 3) := by decide +kernel
theorem dX10_take_14 : decode cX10_take 14 = .ok (.iconst 4, 1) := by decide +kernel
theorem dX10_take_15 : decode cX10_take 15 = .ok (.iload_n 3, 1) := by decide +kernel
theorem dX10_take_16 : decode cX10_take 16 = .ok (.imul, 1) := by decide +kernel
theorem dX10_take_17 : decode cX10_take 17 = .ok (.iconst 1, 1) := by decide +kernel
theorem dX10_take_18 : decode cX10_take 18 = .ok (.iadd, 1) := by decide +kernel
theorem dX10_take_19 : decode cX10_take 19 = .ok (.iaload, 1) := by decide +kernel
theorem dX10_take_20 : decode cX10_take 20 = .ok (.istore 6, 2) := by decide +kernel
theorem dX10_take_22 : decode cX10_take 22 = .ok (.aload_n 1, 1) := by decide +kernel
theorem dX10_take_23 : decode cX10_take 23 = .ok (.iconst 1, 1) := by decide +kernel
theorem dX10_take_24 : decode cX10_take 24 = .ok (.iaload, 1) := by decide +kernel
theorem dX10_take_25 : decode cX10_take 25 = .ok (.aload_n 1, 1) := by decide +kernel
theorem dX10_take_26 : decode cX10_take 26 = .ok (.iconst 2, 1) := by decide +kernel
theorem dX10_take_27 : decode cX10_take 27 = .ok (.iaload, 1) := by decide +kernel
theorem dX10_take_28 : decode cX10_take 28 = .ok (.iload 5, 2) := by decide +kernel
theorem dX10_take_30 : decode cX10_take 30 = .ok (.iload 6, 2) := by decide +kernel
theorem dX10_take_32 : decode cX10_take 32 = .ok (.invokestatic 136, 3) := by decide +kernel
theorem dX10_take_35 : decode cX10_take 35 = .ok (.istore 7, 2) := by decide +kernel
theorem dX10_take_37 : decode cX10_take 37 = .ok (.iload_n 2, 1) := by decide +kernel
theorem dX10_take_38 : decode cX10_take 38 = .ok (.ifCond .eq 12, 3) := by decide +kernel
theorem dX10_take_41 : decode cX10_take 41 = .ok (.iload 7, 2) := by decide +kernel
theorem dX10_take_43 : decode cX10_take 43 = .ok (.iconst 1, 1) := by decide +kernel
theorem dX10_take_44 : decode cX10_take 44 = .ok (.if_icmp .le 32, 3) := by decide +kernel
theorem dX10_take_47 : decode cX10_take 47 = .ok (.goto 27, 3) := by decide +kernel
theorem dX10_take_50 : decode cX10_take 50 = .ok (.iload 7, 2) := by decide +kernel
theorem dX10_take_52 : decode cX10_take 52 = .ok (.bipush 6, 2) := by decide +kernel
theorem dX10_take_54 : decode cX10_take 54 = .ok (.if_icmp .gt 20, 3) := by decide +kernel
theorem dX10_take_57 : decode cX10_take 57 = .ok (.aload_n 0, 1) := by decide +kernel
theorem dX10_take_58 : decode cX10_take 58 = .ok (.aload_n 1, 1) := by decide +kernel
theorem dX10_take_59 : decode cX10_take 59 = .ok (.iconst 1, 1) := by decide +kernel
theorem dX10_take_60 : decode cX10_take 60 = .ok (.iaload, 1) := by decide +kernel
theorem dX10_take_61 : decode cX10_take 61 = .ok (.aload_n 1, 1) := by decide +kernel
theorem dX10_take_62 : decode cX10_take 62 = .ok (.iconst 2, 1) := by decide +kernel
theorem dX10_take_63 : decode cX10_take 63 = .ok (.iaload, 1) := by decide +kernel
theorem dX10_take_64 : decode cX10_take 64 = .ok (.iload 5, 2) := by decide +kernel
theorem dX10_take_66 : decode cX10_take 66 = .ok (.iload 6, 2) := by decide +kernel
theorem dX10_take_68 : decode cX10_take 68 = .ok (.invokevirtual 148, 3) := by decide +kernel
theorem dX10_take_71 : decode cX10_take 71 = .ok (.ifCond .ne 5, 3) := by decide +kernel
theorem dX10_take_74 : decode cX10_take 74 = .ok (.iconst 5, 1) := by decide +kernel
theorem dX10_take_75 : decode cX10_take 75 = .ok (.ireturn, 1) := by decide +kernel
theorem dX10_take_76 : decode cX10_take 76 = .ok (.aload_n 1, 1) := by decide +kernel
theorem dX10_take_77 : decode cX10_take 77 = .ok (.iconst 4, 1) := by decide +kernel
theorem dX10_take_78 : decode cX10_take 78 = .ok (.iaload, 1) := by decide +kernel
theorem dX10_take_79 : decode cX10_take 79 = .ok (.bipush (-40), 2) := by decide +kernel
theorem dX10_take_81 : decode cX10_take 81 = .ok (.if_icmp .ge 5, 3) := by decide +kernel
theorem dX10_take_84 : decode cX10_take 84 = .ok (.iconst 3, 1) := by decide +kernel
theorem dX10_take_85 : decode cX10_take 85 = .ok (.ireturn, 1) := by decide +kernel
theorem dX10_take_86 : decode cX10_take 86 = .ok (.iload_n 2, 1) := by decide +kernel
theorem dX10_take_87 : decode cX10_take 87 = .ok (.ifCond .eq 8, 3) := by decide +kernel
theorem dX10_take_90 : decode cX10_take 90 = .ok (.bipush 90, 2) := by decide +kernel
theorem dX10_take_92 : decode cX10_take 92 = .ok (.goto 5, 3) := by decide +kernel
theorem dX10_take_95 : decode cX10_take 95 = .ok (.bipush 40, 2) := by decide +kernel
theorem dX10_take_97 : decode cX10_take 97 = .ok (.istore 8, 2) := by decide +kernel
theorem dX10_take_99 : decode cX10_take 99 = .ok (.aload_n 1, 1) := by decide +kernel
theorem dX10_take_100 : decode cX10_take 100 = .ok (.invokestatic 200, 3) := by decide +kernel
theorem dX10_take_103 : decode cX10_take 103 = .ok (.iload 8, 2) := by decide +kernel
theorem dX10_take_105 : decode cX10_take 105 = .ok (.iadd, 1) := by decide +kernel
theorem dX10_take_106 : decode cX10_take 106 = .ok (.aload_n 0, 1) := by decide +kernel
theorem dX10_take_107 : decode cX10_take 107 = .ok (.getfield 33, 3) := by decide +kernel
theorem dX10_take_110 : decode cX10_take 110 = .ok (.if_icmp .le 5, 3) := by decide +kernel
theorem dX10_take_113 : decode cX10_take 113 = .ok (.iconst 4, 1) := by decide +kernel
theorem dX10_take_114 : decode cX10_take 114 = .ok (.ireturn, 1) := by decide +kernel
theorem dX10_take_115 : decode cX10_take 115 = .ok (.iload_n 2, 1) := by decide +kernel
theorem dX10_take_116 : decode cX10_take 116 = .ok (.ifCond .eq 15, 3) := by decide +kernel
theorem dX10_take_119 : decode cX10_take 119 = .ok (.aload_n 0, 1) := by decide +kernel
theorem dX10_take_120 : decode cX10_take 120 = .ok (.aload_n 1, 1) := by decide +kernel
theorem dX10_take_121 : decode cX10_take 121 = .ok (.bipush 25, 2) := by decide +kernel
theorem dX10_take_123 : decode cX10_take 123 = .ok (.iconst 5, 1) := by decide +kernel
theorem dX10_take_124 : decode cX10_take 124 = .ok (.iconst 1, 1) := by decide +kernel
theorem dX10_take_125 : decode cX10_take 125 = .ok (.invokevirtual 218, 3) := by decide +kernel
theorem dX10_take_128 : decode cX10_take 128 = .ok (.goto 12, 3) := by decide +kernel
theorem dX10_take_131 : decode cX10_take 131 = .ok (.aload_n 0, 1) := by decide +kernel
theorem dX10_take_132 : decode cX10_take 132 = .ok (.aload_n 1, 1) := by decide +kernel
theorem dX10_take_133 : decode cX10_take 133 = .ok (.bipush 6, 2) := by decide +kernel
theorem dX10_take_135 : decode cX10_take 135 = .ok (.iconst 3, 1) := by decide +kernel
theorem dX10_take_136 : decode cX10_take 136 = .ok (.iconst 1, 1) := by decide +kernel
theorem dX10_take_137 : decode cX10_take 137 = .ok (.invokevirtual 218, 3) := by decide +kernel
theorem dX10_take_140 : decode cX10_take 140 = .ok (.istore 9, 2) := by decide +kernel
theorem dX10_take_142 : decode cX10_take 142 = .ok (.iload 9, 2) := by decide +kernel
theorem dX10_take_144 : decode cX10_take 144 = .ok (.ifCond .eq 6, 3) := by decide +kernel
theorem dX10_take_147 : decode cX10_take 147 = .ok (.iload 9, 2) := by decide +kernel
theorem dX10_take_149 : decode cX10_take 149 = .ok (.ireturn, 1) := by decide +kernel
theorem dX10_take_150 : decode cX10_take 150 = .ok (.iconst 4, 1) := by decide +kernel
theorem dX10_take_151 : decode cX10_take 151 = .ok (.newarray .int, 2) := by decide +kernel
theorem dX10_take_153 : decode cX10_take 153 = .ok (.dup, 1) := by decide +kernel
theorem dX10_take_154 : decode cX10_take 154 = .ok (.iconst 0, 1) := by decide +kernel
theorem dX10_take_155 : decode cX10_take 155 = .ok (.iload_n 3, 1) := by decide +kernel
theorem dX10_take_156 : decode cX10_take 156 = .ok (.iastore, 1) := by decide +kernel
theorem dX10_take_157 : decode cX10_take 157 = .ok (.dup, 1) := by decide +kernel
theorem dX10_take_158 : decode cX10_take 158 = .ok (.iconst 1, 1) := by decide +kernel
theorem dX10_take_159 : decode cX10_take 159 = .ok (.iload 8, 2) := by decide +kernel
theorem dX10_take_161 : decode cX10_take 161 = .ok (.iastore, 1) := by decide +kernel
theorem dX10_take_162 : decode cX10_take 162 = .ok (.dup, 1) := by decide +kernel
theorem dX10_take_163 : decode cX10_take 163 = .ok (.iconst 2, 1) := by decide +kernel
theorem dX10_take_164 : decode cX10_take 164 = .ok (.iload 4, 2) := by decide +kernel
theorem dX10_take_166 : decode cX10_take 166 = .ok (.iastore, 1) := by decide +kernel
theorem dX10_take_167 : decode cX10_take 167 = .ok (.dup, 1) := by decide +kernel
theorem dX10_take_168 : decode cX10_take 168 = .ok (.iconst 3, 1) := by decide +kernel
theorem dX10_take_169 : decode cX10_take 169 = .ok (.iload_n 2, 1) := by decide +kernel
theorem dX10_take_170 : decode cX10_take 170 = .ok (.ifCond .eq 8, 3) := by decide +kernel
theorem dX10_take_173 : decode cX10_take 173 = .ok (.bipush 9, 2) := by decide +kernel
theorem dX10_take_175 : decode cX10_take 175 = .ok (.goto 16, 3) := by decide +kernel
theorem dX10_take_178 : decode cX10_take 178 = .ok (.aload_n 1, 1) := by decide +kernel
theorem dX10_take_179 : decode cX10_take 179 = .ok (.iconst 1, 1) := by decide +kernel
theorem dX10_take_180 : decode cX10_take 180 = .ok (.iaload, 1) := by decide +kernel
theorem dX10_take_181 : decode cX10_take 181 = .ok (.aload_n 1, 1) := by decide +kernel
theorem dX10_take_182 : decode cX10_take 182 = .ok (.iconst 2, 1) := by decide +kernel
theorem dX10_take_183 : decode cX10_take 183 = .ok (.iaload, 1) := by decide +kernel
theorem dX10_take_184 : decode cX10_take 184 = .ok (.iload 5, 2) := by decide +kernel
theorem dX10_take_186 : decode cX10_take 186 = .ok (.iload 6, 2) := by decide +kernel
theorem dX10_take_188 : decode cX10_take 188 = .ok (.invokestatic 222, 3) := by decide +kernel
theorem dX10_take_191 : decode cX10_take 191 = .ok (.iastore, 1) := by decide +kernel
theorem dX10_take_192 : decode cX10_take 192 = .ok (.astore 10, 2) := by decide +kernel
theorem dX10_take_194 : decode cX10_take 194 = .ok (.aload 10, 2) := by decide +kernel
theorem dX10_take_196 : decode cX10_take 196 = .ok (.iconst 0, 1) := by decide +kernel
theorem dX10_take_197 : decode cX10_take 197 = .ok (.aload_n 1, 1) := by decide +kernel
theorem dX10_take_198 : decode cX10_take 198 = .ok (.bipush 34, 2) := by decide +kernel
theorem dX10_take_200 : decode cX10_take 200 = .ok (.iconst 4, 1) := by decide +kernel
theorem dX10_take_201 : decode cX10_take 201 = .ok (.aload_n 1, 1) := by decide +kernel
theorem dX10_take_202 : decode cX10_take 202 = .ok (.bipush 9, 2) := by decide +kernel
theorem dX10_take_204 : decode cX10_take 204 = .ok (.iaload, 1) := by decide +kernel
theorem dX10_take_205 : decode cX10_take 205 = .ok (.imul, 1) := by decide +kernel
theorem dX10_take_206 : decode cX10_take 206 = .ok (.iadd, 1) := by decide +kernel
theorem dX10_take_207 : decode cX10_take 207 = .ok (.iconst 4, 1) := by decide +kernel
theorem dX10_take_208 : decode cX10_take 208 = .ok (.invokestatic 151, 3) := by decide +kernel
theorem dX10_take_211 : decode cX10_take 211 = .ok (.aload_n 1, 1) := by decide +kernel
theorem dX10_take_212 : decode cX10_take 212 = .ok (.bipush 9, 2) := by decide +kernel
theorem dX10_take_214 : decode cX10_take 214 = .ok (.dup2, 1) := by decide +kernel
theorem dX10_take_215 : decode cX10_take 215 = .ok (.iaload, 1) := by decide +kernel
theorem dX10_take_216 : decode cX10_take 216 = .ok (.iconst 1, 1) := by decide +kernel
theorem dX10_take_217 : decode cX10_take 217 = .ok (.iadd, 1) := by decide +kernel
theorem dX10_take_218 : decode cX10_take 218 = .ok (.iastore, 1) := by decide +kernel
theorem dX10_take_219 : decode cX10_take 219 = .ok (.aload_n 1, 1) := by decide +kernel
theorem dX10_take_220 : decode cX10_take 220 = .ok (.bipush 8, 2) := by decide +kernel
theorem dX10_take_222 : decode cX10_take 222 = .ok (.dup2, 1) := by decide +kernel
theorem dX10_take_223 : decode cX10_take 223 = .ok (.iaload, 1) := by decide +kernel
theorem dX10_take_224 : decode cX10_take 224 = .ok (.iload 8, 2) := by decide +kernel
theorem dX10_take_226 : decode cX10_take 226 = .ok (.iadd, 1) := by decide +kernel
theorem dX10_take_227 : decode cX10_take 227 = .ok (.iastore, 1) := by decide +kernel
theorem dX10_take_228 : decode cX10_take 228 = .ok (.iconst 0, 1) := by decide +kernel
theorem dX10_take_229 : decode cX10_take 229 = .ok (.ireturn, 1) := by decide +kernel
theorem dX10_nextPiece_0 : decode cX10_nextPiece 0 = .ok (.iconst (-1), 1) := by decide +kernel
theorem dX10_nextPiece_1 : decode cX10_nextPiece 1 = .ok (.istore_n 1, 1) := by decide +kernel
theorem dX10_nextPiece_2 : decode cX10_nextPiece 2 = .ok (.iconst 0, 1) := by decide +kernel
theorem dX10_nextPiece_3 : decode cX10_nextPiece 3 = .ok (.istore_n 2, 1) := by decide +kernel
theorem dX10_nextPiece_4 : decode cX10_nextPiece 4 = .ok (.iload_n 2, 1) := by decide +kernel
theorem dX10_nextPiece_5 : decode cX10_nextPiece 5 = .ok (.aload_n 0, 1) := by decide +kernel
theorem dX10_nextPiece_6 : decode cX10_nextPiece 6 = .ok (.bipush 9, 2) := by decide +kernel
theorem dX10_nextPiece_8 : decode cX10_nextPiece 8 = .ok (.iaload, 1) := by decide +kernel
theorem dX10_nextPiece_9 : decode cX10_nextPiece 9 = .ok (.if_icmp .ge 39, 3) := by decide +kernel
theorem dX10_nextPiece_12 : decode cX10_nextPiece 12 = .ok (.iload_n 1, 1) := by decide +kernel
theorem dX10_nextPiece_13 : decode cX10_nextPiece 13 = .ok (.iconst (-1), 1) := by decide +kernel
theorem dX10_nextPiece_14 : decode cX10_nextPiece 14 = .ok (.if_icmp .eq 26, 3) := by decide +kernel
theorem dX10_nextPiece_17 : decode cX10_nextPiece 17 = .ok (.aload_n 0, 1) := by decide +kernel
theorem dX10_nextPiece_18 : decode cX10_nextPiece 18 = .ok (.bipush 34, 2) := by decide +kernel
theorem dX10_nextPiece_20 : decode cX10_nextPiece 20 = .ok (.iconst 4, 1) := by decide +kernel
theorem dX10_nextPiece_21 : decode cX10_nextPiece 21 = .ok (.iload_n 2, 1) := by decide +kernel
theorem dX10_nextPiece_22 : decode cX10_nextPiece 22 = .ok (.imul, 1) := by decide +kernel
theorem dX10_nextPiece_23 : decode cX10_nextPiece 23 = .ok (.iadd, 1) := by decide +kernel
theorem dX10_nextPiece_24 : decode cX10_nextPiece 24 = .ok (.iconst 2, 1) := by decide +kernel
theorem dX10_nextPiece_25 : decode cX10_nextPiece 25 = .ok (.iadd, 1) := by decide +kernel
theorem dX10_nextPiece_26 : decode cX10_nextPiece 26 = .ok (.iaload, 1) := by decide +kernel
theorem dX10_nextPiece_27 : decode cX10_nextPiece 27 = .ok (.aload_n 0, 1) := by decide +kernel
theorem dX10_nextPiece_28 : decode cX10_nextPiece 28 = .ok (.bipush 34, 2) := by decide +kernel
theorem dX10_nextPiece_30 : decode cX10_nextPiece 30 = .ok (.iconst 4, 1) := by decide +kernel
theorem dX10_nextPiece_31 : decode cX10_nextPiece 31 = .ok (.iload_n 1, 1) := by decide +kernel
theorem dX10_nextPiece_32 : decode cX10_nextPiece 32 = .ok (.imul, 1) := by decide +kernel
theorem dX10_nextPiece_33 : decode cX10_nextPiece 33 = .ok (.iadd, 1) := by decide +kernel
theorem dX10_nextPiece_34 : decode cX10_nextPiece 34 = .ok (.iconst 2, 1) := by decide +kernel
theorem dX10_nextPiece_35 : decode cX10_nextPiece 35 = .ok (.iadd, 1) := by decide +kernel
theorem dX10_nextPiece_36 : decode cX10_nextPiece 36 = .ok (.iaload, 1) := by decide +kernel
theorem dX10_nextPiece_37 : decode cX10_nextPiece 37 = .ok (.if_icmp .le 5, 3) := by decide +kernel
theorem dX10_nextPiece_40 : decode cX10_nextPiece 40 = .ok (.iload_n 2, 1) := by decide +kernel
theorem dX10_nextPiece_41 : decode cX10_nextPiece 41 = .ok (.istore_n 1, 1) := by decide +kernel
theorem dX10_nextPiece_42 : decode cX10_nextPiece 42 = .ok (.iinc 2 1, 3) := by decide +kernel
theorem dX10_nextPiece_45 : decode cX10_nextPiece 45 = .ok (.goto (-41), 3) := by decide +kernel
theorem dX10_nextPiece_48 : decode cX10_nextPiece 48 = .ok (.iload_n 1, 1) := by decide +kernel
theorem dX10_nextPiece_49 : decode cX10_nextPiece 49 = .ok (.ireturn, 1) := by decide +kernel
theorem dX10_isGone_0 : decode cX10_isGone 0 = .ok (.aload_n 0, 1) := by decide +kernel
theorem dX10_isGone_1 : decode cX10_isGone 1 = .ok (.bipush 34, 2) := by decide +kernel
theorem dX10_isGone_3 : decode cX10_isGone 3 = .ok (.iconst 4, 1) := by decide +kernel
theorem dX10_isGone_4 : decode cX10_isGone 4 = .ok (.iload_n 1, 1) := by decide +kernel
theorem dX10_isGone_5 : decode cX10_isGone 5 = .ok (.imul, 1) := by decide +kernel
theorem dX10_isGone_6 : decode cX10_isGone 6 = .ok (.iadd, 1) := by decide +kernel
theorem dX10_isGone_7 : decode cX10_isGone 7 = .ok (.iaload, 1) := by decide +kernel
theorem dX10_isGone_8 : decode cX10_isGone 8 = .ok (.istore_n 2, 1) := by decide +kernel
theorem dX10_isGone_9 : decode cX10_isGone 9 = .ok (.aload_n 0, 1) := by decide +kernel
theorem dX10_isGone_10 : decode cX10_isGone 10 = .ok (.bipush 34, 2) := by decide +kernel
theorem dX10_isGone_12 : decode cX10_isGone 12 = .ok (.iconst 4, 1) := by decide +kernel
theorem dX10_isGone_13 : decode cX10_isGone 13 = .ok (.iload_n 1, 1) := by decide +kernel
theorem dX10_isGone_14 : decode cX10_isGone 14 = .ok (.imul, 1) := by decide +kernel
theorem dX10_isGone_15 : decode cX10_isGone 15 = .ok (.iadd, 1) := by decide +kernel
theorem dX10_isGone_16 : decode cX10_isGone 16 = .ok (.iconst 3, 1) := by decide +kernel
theorem dX10_isGone_17 : decode cX10_isGone 17 = .ok (.iadd, 1) := by decide +kernel
theorem dX10_isGone_18 : decode cX10_isGone 18 = .ok (.iaload, 1) := by decide +kernel
theorem dX10_isGone_19 : decode cX10_isGone 19 = .ok (.istore_n 3, 1) := by decide +kernel
theorem dX10_isGone_20 : decode cX10_isGone 20 = .ok (.iload_n 3, 1) := by decide +kernel
theorem dX10_isGone_21 : decode cX10_isGone 21 = .ok (.bipush 9, 2) := by decide +kernel
theorem dX10_isGone_23 : decode cX10_isGone 23 = .ok (.if_icmp .ne 13, 3) := by decide +kernel
theorem dX10_isGone_26 : decode cX10_isGone 26 = .ok (.aload_n 0, 1) := by decide +kernel
theorem dX10_isGone_27 : decode cX10_isGone 27 = .ok (.bipush 22, 2) := by decide +kernel
theorem dX10_isGone_29 : decode cX10_isGone 29 = .ok (.iload_n 2, 1) := by decide +kernel
theorem dX10_isGone_30 : decode cX10_isGone 30 = .ok (.iadd, 1) := by decide +kernel
theorem dX10_isGone_31 : decode cX10_isGone 31 = .ok (.iconst 1, 1) := by decide +kernel
theorem dX10_isGone_32 : decode cX10_isGone 32 = .ok (.iastore, 1) := by decide +kernel
theorem dX10_isGone_33 : decode cX10_isGone 33 = .ok (.goto 15, 3) := by decide +kernel
theorem dX10_isGone_36 : decode cX10_isGone 36 = .ok (.aload_n 0, 1) := by decide +kernel
theorem dX10_isGone_37 : decode cX10_isGone 37 = .ok (.bipush 10, 2) := by decide +kernel
theorem dX10_isGone_39 : decode cX10_isGone 39 = .ok (.iload_n 2, 1) := by decide +kernel
theorem dX10_isGone_40 : decode cX10_isGone 40 = .ok (.iadd, 1) := by decide +kernel
theorem dX10_isGone_41 : decode cX10_isGone 41 = .ok (.dup2, 1) := by decide +kernel
theorem dX10_isGone_42 : decode cX10_isGone 42 = .ok (.iaload, 1) := by decide +kernel
theorem dX10_isGone_43 : decode cX10_isGone 43 = .ok (.iconst 1, 1) := by decide +kernel
theorem dX10_isGone_44 : decode cX10_isGone 44 = .ok (.iload_n 3, 1) := by decide +kernel
theorem dX10_isGone_45 : decode cX10_isGone 45 = .ok (.ishl, 1) := by decide +kernel
theorem dX10_isGone_46 : decode cX10_isGone 46 = .ok (.ior, 1) := by decide +kernel
theorem dX10_isGone_47 : decode cX10_isGone 47 = .ok (.iastore, 1) := by decide +kernel
theorem dX10_isGone_48 : decode cX10_isGone 48 = .ok (.aload_n 0, 1) := by decide +kernel
theorem dX10_isGone_49 : decode cX10_isGone 49 = .ok (.bipush 9, 2) := by decide +kernel
theorem dX10_isGone_51 : decode cX10_isGone 51 = .ok (.dup2, 1) := by decide +kernel
theorem dX10_isGone_52 : decode cX10_isGone 52 = .ok (.iaload, 1) := by decide +kernel
theorem dX10_isGone_53 : decode cX10_isGone 53 = .ok (.iconst 1, 1) := by decide +kernel
theorem dX10_isGone_54 : decode cX10_isGone 54 = .ok (.isub, 1) := by decide +kernel
theorem dX10_isGone_55 : decode cX10_isGone 55 = .ok (.iastore, 1) := by decide +kernel
theorem dX10_isGone_56 : decode cX10_isGone 56 = .ok (.aload_n 0, 1) := by decide +kernel
theorem dX10_isGone_57 : decode cX10_isGone 57 = .ok (.bipush 34, 2) := by decide +kernel
theorem dX10_isGone_59 : decode cX10_isGone 59 = .ok (.iconst 4, 1) := by decide +kernel
theorem dX10_isGone_60 : decode cX10_isGone 60 = .ok (.iload_n 1, 1) := by decide +kernel
theorem dX10_isGone_61 : decode cX10_isGone 61 = .ok (.iconst 1, 1) := by decide +kernel
theorem dX10_isGone_62 : decode cX10_isGone 62 = .ok (.iadd, 1) := by decide +kernel
theorem dX10_isGone_63 : decode cX10_isGone 63 = .ok (.imul, 1) := by decide +kernel
theorem dX10_isGone_64 : decode cX10_isGone 64 = .ok (.iadd, 1) := by decide +kernel
theorem dX10_isGone_65 : decode cX10_isGone 65 = .ok (.aload_n 0, 1) := by decide +kernel
theorem dX10_isGone_66 : decode cX10_isGone 66 = .ok (.bipush 34, 2) := by decide +kernel
theorem dX10_isGone_68 : decode cX10_isGone 68 = .ok (.iconst 4, 1) := by decide +kernel
theorem dX10_isGone_69 : decode cX10_isGone 69 = .ok (.iload_n 1, 1) := by decide +kernel
theorem dX10_isGone_70 : decode cX10_isGone 70 = .ok (.imul, 1) := by decide +kernel
theorem dX10_isGone_71 : decode cX10_isGone 71 = .ok (.iadd, 1) := by decide +kernel
theorem dX10_isGone_72 : decode cX10_isGone 72 = .ok (.iconst 4, 1) := by decide +kernel
theorem dX10_isGone_73 : decode cX10_isGone 73 = .ok (.aload_n 0, 1) := by decide +kernel
theorem dX10_isGone_74 : decode cX10_isGone 74 = .ok (.bipush 9, 2) := by decide +kernel
theorem dX10_isGone_76 : decode cX10_isGone 76 = .ok (.iaload, 1) := by decide +kernel
theorem dX10_isGone_77 : decode cX10_isGone 77 = .ok (.iload_n 1, 1) := by decide +kernel
theorem dX10_isGone_78 : decode cX10_isGone 78 = .ok (.isub, 1) := by decide +kernel
theorem dX10_isGone_79 : decode cX10_isGone 79 = .ok (.imul, 1) := by decide +kernel
theorem dX10_isGone_80 : decode cX10_isGone 80 = .ok (.invokestatic 151, 3) := by decide +kernel
theorem dX10_isGone_83 : decode cX10_isGone 83 = .ok (.return_, 1) := by decide +kernel
theorem dX10_send_0 : decode cX10_send 0 = .ok (.aload_n 0, 1) := by decide +kernel
theorem dX10_send_1 : decode cX10_send 1 = .ok (.aload_n 1, 1) := by decide +kernel
theorem dX10_send_2 : decode cX10_send 2 = .ok (.iconst 0, 1) := by decide +kernel
theorem dX10_send_3 : decode cX10_send 3 = .ok (.iaload, 1) := by decide +kernel
theorem dX10_send_4 : decode cX10_send 4 = .ok (.sipush 1440, 3) := by decide +kernel
theorem dX10_send_7 : decode cX10_send 7 = .ok (.irem, 1) := by decide +kernel
theorem dX10_send_8 : decode cX10_send 8 = .ok (.invokevirtual 188, 3) := by decide +kernel
theorem dX10_send_11 : decode cX10_send 11 = .ok (.ifCond .ne 6, 3) := by decide +kernel
theorem dX10_send_14 : decode cX10_send 14 = .ok (.bipush 6, 2) := by decide +kernel
theorem dX10_send_16 : decode cX10_send 16 = .ok (.ireturn, 1) := by decide +kernel
theorem dX10_send_17 : decode cX10_send 17 = .ok (.iconst 0, 1) := by decide +kernel
theorem dX10_send_18 : decode cX10_send 18 = .ok (.istore_n 3, 1) := by decide +kernel
theorem dX10_send_19 : decode cX10_send 19 = .ok (.iconst 0, 1) := by decide +kernel
theorem dX10_send_20 : decode cX10_send 20 = .ok (.istore 4, 2) := by decide +kernel
theorem dX10_send_22 : decode cX10_send 22 = .ok (.iload 4, 2) := by decide +kernel
theorem dX10_send_24 : decode cX10_send 24 = .ok (.iload_n 2, 1) := by decide +kernel
theorem dX10_send_25 : decode cX10_send 25 = .ok (.if_icmp .ge 132, 3) := by decide +kernel
theorem dX10_send_28 : decode cX10_send 28 = .ok (.iload_n 3, 1) := by decide +kernel
theorem dX10_send_29 : decode cX10_send 29 = .ok (.ifCond .ne 128, 3) := by decide +kernel
theorem dX10_send_32 : decode cX10_send 32 = .ok (.aload_n 1, 1) := by decide +kernel
theorem dX10_send_33 : decode cX10_send 33 = .ok (.bipush 9, 2) := by decide +kernel
theorem dX10_send_35 : decode cX10_send 35 = .ok (.iaload, 1) := by decide +kernel
theorem dX10_send_36 : decode cX10_send 36 = .ok (.ifCond .le 121, 3) := by decide +kernel
theorem dX10_send_39 : decode cX10_send 39 = .ok (.aload_n 0, 1) := by decide +kernel
theorem dX10_send_40 : decode cX10_send 40 = .ok (.aload_n 1, 1) := by decide +kernel
theorem dX10_send_41 : decode cX10_send 41 = .ok (.iconst 0, 1) := by decide +kernel
theorem dX10_send_42 : decode cX10_send 42 = .ok (.iaload, 1) := by decide +kernel
theorem dX10_send_43 : decode cX10_send 43 = .ok (.sipush 1440, 3) := by decide +kernel
theorem dX10_send_46 : decode cX10_send 46 = .ok (.irem, 1) := by decide +kernel
theorem dX10_send_47 : decode cX10_send 47 = .ok (.invokevirtual 188, 3) := by decide +kernel
theorem dX10_send_50 : decode cX10_send 50 = .ok (.istore 5, 2) := by decide +kernel
theorem dX10_send_52 : decode cX10_send 52 = .ok (.aload_n 0, 1) := by decide +kernel
theorem dX10_send_53 : decode cX10_send 53 = .ok (.aload_n 1, 1) := by decide +kernel
theorem dX10_send_54 : decode cX10_send 54 = .ok (.iconst 4, 1) := by decide +kernel
theorem dX10_send_55 : decode cX10_send 55 = .ok (.iconst 1, 1) := by decide +kernel
theorem dX10_send_56 : decode cX10_send 56 = .ok (.invokevirtual 214, 3) := by decide +kernel
theorem dX10_send_59 : decode cX10_send 59 = .ok (.istore_n 3, 1) := by decide +kernel
theorem dX10_send_60 : decode cX10_send 60 = .ok (.iload 5, 2) := by decide +kernel
theorem dX10_send_62 : decode cX10_send 62 = .ok (.ifCond .le 89, 3) := by decide +kernel
theorem dX10_send_65 : decode cX10_send 65 = .ok (.aload_n 1, 1) := by decide +kernel
theorem dX10_send_66 : decode cX10_send 66 = .ok (.bipush 9, 2) := by decide +kernel
theorem dX10_send_68 : decode cX10_send 68 = .ok (.iaload, 1) := by decide +kernel
theorem dX10_send_69 : decode cX10_send 69 = .ok (.ifCond .le 82, 3) := by decide +kernel
theorem dX10_send_72 : decode cX10_send 72 = .ok (.aload_n 1, 1) := by decide +kernel
theorem dX10_send_73 : decode cX10_send 73 = .ok (.invokestatic 225, 3) := by decide +kernel
theorem dX10_send_76 : decode cX10_send 76 = .ok (.istore 6, 2) := by decide +kernel
theorem dX10_send_78 : decode cX10_send 78 = .ok (.iload 5, 2) := by decide +kernel
theorem dX10_send_80 : decode cX10_send 80 = .ok (.aload_n 1, 1) := by decide +kernel
theorem dX10_send_81 : decode cX10_send 81 = .ok (.bipush 34, 2) := by decide +kernel
theorem dX10_send_83 : decode cX10_send 83 = .ok (.iconst 4, 1) := by decide +kernel
theorem dX10_send_84 : decode cX10_send 84 = .ok (.iload 6, 2) := by decide +kernel
theorem dX10_send_86 : decode cX10_send 86 = .ok (.imul, 1) := by decide +kernel
theorem dX10_send_87 : decode cX10_send 87 = .ok (.iadd, 1) := by decide +kernel
theorem dX10_send_88 : decode cX10_send 88 = .ok (.iconst 1, 1) := by decide +kernel
theorem dX10_send_89 : decode cX10_send 89 = .ok (.iadd, 1) := by decide +kernel
theorem dX10_send_90 : decode cX10_send 90 = .ok (.iaload, 1) := by decide +kernel
theorem dX10_send_91 : decode cX10_send 91 = .ok (.invokestatic 204, 3) := by decide +kernel
theorem dX10_send_94 : decode cX10_send 94 = .ok (.istore 7, 2) := by decide +kernel
theorem dX10_send_96 : decode cX10_send 96 = .ok (.aload_n 1, 1) := by decide +kernel
theorem dX10_send_97 : decode cX10_send 97 = .ok (.bipush 34, 2) := by decide +kernel
theorem dX10_send_99 : decode cX10_send 99 = .ok (.iconst 4, 1) := by decide +kernel
theorem dX10_send_100 : decode cX10_send 100 = .ok (.iload 6, 2) := by decide +kernel
theorem dX10_send_102 : decode cX10_send 102 = .ok (.imul, 1) := by decide +kernel
theorem dX10_send_103 : decode cX10_send 103 = .ok (.iadd, 1) := by decide +kernel
theorem dX10_send_104 : decode cX10_send 104 = .ok (.iconst 1, 1) := by decide +kernel
theorem dX10_send_105 : decode cX10_send 105 = .ok (.iadd, 1) := by decide +kernel
theorem dX10_send_106 : decode cX10_send 106 = .ok (.dup2, 1) := by decide +kernel
theorem dX10_send_107 : decode cX10_send 107 = .ok (.iaload, 1) := by decide +kernel
theorem dX10_send_108 : decode cX10_send 108 = .ok (.iload 7, 2) := by decide +kernel
theorem dX10_send_110 : decode cX10_send 110 = .ok (.isub, 1) := by decide +kernel
theorem dX10_send_111 : decode cX10_send 111 = .ok (.iastore, 1) := by decide +kernel
theorem dX10_send_112 : decode cX10_send 112 = .ok (.aload_n 1, 1) := by decide +kernel
theorem dX10_send_113 : decode cX10_send 113 = .ok (.bipush 7, 2) := by decide +kernel
theorem dX10_send_115 : decode cX10_send 115 = .ok (.dup2, 1) := by decide +kernel
theorem dX10_send_116 : decode cX10_send 116 = .ok (.iaload, 1) := by decide +kernel
theorem dX10_send_117 : decode cX10_send 117 = .ok (.iload 7, 2) := by decide +kernel
theorem dX10_send_119 : decode cX10_send 119 = .ok (.iadd, 1) := by decide +kernel
theorem dX10_send_120 : decode cX10_send 120 = .ok (.iastore, 1) := by decide +kernel
theorem dX10_send_121 : decode cX10_send 121 = .ok (.iload 5, 2) := by decide +kernel
theorem dX10_send_123 : decode cX10_send 123 = .ok (.iload 7, 2) := by decide +kernel
theorem dX10_send_125 : decode cX10_send 125 = .ok (.isub, 1) := by decide +kernel
theorem dX10_send_126 : decode cX10_send 126 = .ok (.istore 5, 2) := by decide +kernel
theorem dX10_send_128 : decode cX10_send 128 = .ok (.aload_n 1, 1) := by decide +kernel
theorem dX10_send_129 : decode cX10_send 129 = .ok (.bipush 34, 2) := by decide +kernel
theorem dX10_send_131 : decode cX10_send 131 = .ok (.iconst 4, 1) := by decide +kernel
theorem dX10_send_132 : decode cX10_send 132 = .ok (.iload 6, 2) := by decide +kernel
theorem dX10_send_134 : decode cX10_send 134 = .ok (.imul, 1) := by decide +kernel
theorem dX10_send_135 : decode cX10_send 135 = .ok (.iadd, 1) := by decide +kernel
theorem dX10_send_136 : decode cX10_send 136 = .ok (.iconst 1, 1) := by decide +kernel
theorem dX10_send_137 : decode cX10_send 137 = .ok (.iadd, 1) := by decide +kernel
theorem dX10_send_138 : decode cX10_send 138 = .ok (.iaload, 1) := by decide +kernel
theorem dX10_send_139 : decode cX10_send 139 = .ok (.ifCond .ne 9, 3) := by decide +kernel
theorem dX10_send_142 : decode cX10_send 142 = .ok (.aload_n 1, 1) := by decide +kernel
theorem dX10_send_143 : decode cX10_send 143 = .ok (.iload 6, 2) := by decide +kernel
theorem dX10_send_145 : decode cX10_send 145 = .ok (.invokestatic 228, 3) := by decide +kernel
theorem dX10_send_148 : decode cX10_send 148 = .ok (.goto (-88), 3) := by decide +kernel
theorem dX10_send_151 : decode cX10_send 151 = .ok (.iinc 4 1, 3) := by decide +kernel
theorem dX10_send_154 : decode cX10_send 154 = .ok (.goto (-132), 3) := by decide +kernel
theorem dX10_send_157 : decode cX10_send 157 = .ok (.iload_n 3, 1) := by decide +kernel
theorem dX10_send_158 : decode cX10_send 158 = .ok (.ireturn, 1) := by decide +kernel
theorem dX10_rest_0 : decode cX10_rest 0 = .ok (.aload_n 0, 1) := by decide +kernel
theorem dX10_rest_1 : decode cX10_rest 1 = .ok (.aload_n 1, 1) := by decide +kernel
theorem dX10_rest_2 : decode cX10_rest 2 = .ok (.iconst 0, 1) := by decide +kernel
theorem dX10_rest_3 : decode cX10_rest 3 = .ok (.iload_n 3, 1) := by decide +kernel
theorem dX10_rest_4 : decode cX10_rest 4 = .ok (.invokevirtual 214, 3) := by decide +kernel
theorem dX10_rest_7 : decode cX10_rest 7 = .ok (.istore 4, 2) := by decide +kernel
theorem dX10_rest_9 : decode cX10_rest 9 = .ok (.iload 4, 2) := by decide +kernel
theorem dX10_rest_11 : decode cX10_rest 11 = .ok (.ifCond .ne 26, 3) := by decide +kernel
theorem dX10_rest_14 : decode cX10_rest 14 = .ok (.aload_n 1, 1) := by decide +kernel
theorem dX10_rest_15 : decode cX10_rest 15 = .ok (.iconst 0, 1) := by decide +kernel
theorem dX10_rest_16 : decode cX10_rest 16 = .ok (.iaload, 1) := by decide +kernel
theorem dX10_rest_17 : decode cX10_rest 17 = .ok (.sipush 1440, 3) := by decide +kernel
theorem dX10_rest_20 : decode cX10_rest 20 = .ok (.irem, 1) := by decide +kernel
theorem dX10_rest_21 : decode cX10_rest 21 = .ok (.iload_n 2, 1) := by decide +kernel
theorem dX10_rest_22 : decode cX10_rest 22 = .ok (.if_icmp .eq 15, 3) := by decide +kernel
theorem dX10_rest_25 : decode cX10_rest 25 = .ok (.aload_n 0, 1) := by decide +kernel
theorem dX10_rest_26 : decode cX10_rest 26 = .ok (.aload_n 1, 1) := by decide +kernel
theorem dX10_rest_27 : decode cX10_rest 27 = .ok (.iconst 0, 1) := by decide +kernel
theorem dX10_rest_28 : decode cX10_rest 28 = .ok (.iload_n 3, 1) := by decide +kernel
theorem dX10_rest_29 : decode cX10_rest 29 = .ok (.invokevirtual 214, 3) := by decide +kernel
theorem dX10_rest_32 : decode cX10_rest 32 = .ok (.istore 4, 2) := by decide +kernel
theorem dX10_rest_34 : decode cX10_rest 34 = .ok (.goto (-25), 3) := by decide +kernel
theorem dX10_rest_37 : decode cX10_rest 37 = .ok (.iload 4, 2) := by decide +kernel
theorem dX10_rest_39 : decode cX10_rest 39 = .ok (.ireturn, 1) := by decide +kernel
theorem dX10_clean_0 : decode cX10_clean 0 = .ok (.aload_n 0, 1) := by decide +kernel
theorem dX10_clean_1 : decode cX10_clean 1 = .ok (.aload_n 1, 1) := by decide +kernel
theorem dX10_clean_2 : decode cX10_clean 2 = .ok (.bipush 15, 2) := by decide +kernel
theorem dX10_clean_4 : decode cX10_clean 4 = .ok (.bipush 6, 2) := by decide +kernel
theorem dX10_clean_6 : decode cX10_clean 6 = .ok (.iconst 1, 1) := by decide +kernel
theorem dX10_clean_7 : decode cX10_clean 7 = .ok (.invokevirtual 218, 3) := by decide +kernel
theorem dX10_clean_10 : decode cX10_clean 10 = .ok (.istore_n 2, 1) := by decide +kernel
theorem dX10_clean_11 : decode cX10_clean 11 = .ok (.aload_n 1, 1) := by decide +kernel
theorem dX10_clean_12 : decode cX10_clean 12 = .ok (.bipush 6, 2) := by decide +kernel
theorem dX10_clean_14 : decode cX10_clean 14 = .ok (.bipush 100, 2) := by decide +kernel
theorem dX10_clean_16 : decode cX10_clean 16 = .ok (.aload_n 1, 1) := by decide +kernel
theorem dX10_clean_17 : decode cX10_clean 17 = .ok (.bipush 6, 2) := by decide +kernel
theorem dX10_clean_19 : decode cX10_clean 19 = .ok (.iaload, 1) := by decide +kernel
theorem dX10_clean_20 : decode cX10_clean 20 = .ok (.bipush 10, 2) := by decide +kernel
theorem dX10_clean_22 : decode cX10_clean 22 = .ok (.iadd, 1) := by decide +kernel
theorem dX10_clean_23 : decode cX10_clean 23 = .ok (.invokestatic 204, 3) := by decide +kernel
theorem dX10_clean_26 : decode cX10_clean 26 = .ok (.iastore, 1) := by decide +kernel
theorem dX10_clean_27 : decode cX10_clean 27 = .ok (.iload_n 2, 1) := by decide +kernel
theorem dX10_clean_28 : decode cX10_clean 28 = .ok (.ireturn, 1) := by decide +kernel
theorem dX10_act_0 : decode cX10_act 0 = .ok (.aload_n 1, 1) := by decide +kernel
theorem dX10_act_1 : decode cX10_act 1 = .ok (.iconst 0, 1) := by decide +kernel
theorem dX10_act_2 : decode cX10_act 2 = .ok (.aload_n 0, 1) := by decide +kernel
theorem dX10_act_3 : decode cX10_act 3 = .ok (.getfield 65, 3) := by decide +kernel
theorem dX10_act_6 : decode cX10_act 6 = .ok (.iconst 0, 1) := by decide +kernel
theorem dX10_act_7 : decode cX10_act 7 = .ok (.sipush 594, 3) := by decide +kernel
theorem dX10_act_10 : decode cX10_act 10 = .ok (.invokestatic 151, 3) := by decide +kernel
theorem dX10_act_13 : decode cX10_act 13 = .ok (.iconst 0, 1) := by decide +kernel
theorem dX10_act_14 : decode cX10_act 14 = .ok (.istore 5, 2) := by decide +kernel
theorem dX10_act_16 : decode cX10_act 16 = .ok (.iload_n 2, 1) := by decide +kernel
theorem dX10_act_17 : decode cX10_act 17 = .ok (.tableswitch 118 0 6 #[43, 56, 56, 79, 90, 90, 111], 43) := by decide +kernel
theorem dX10_act_60 : decode cX10_act 60 = .ok (.aload_n 0, 1) := by decide +kernel
theorem dX10_act_61 : decode cX10_act 61 = .ok (.aload_n 1, 1) := by decide +kernel
theorem dX10_act_62 : decode cX10_act 62 = .ok (.iload_n 3, 1) := by decide +kernel
theorem dX10_act_63 : decode cX10_act 63 = .ok (.iload 4, 2) := by decide +kernel
theorem dX10_act_65 : decode cX10_act 65 = .ok (.invokevirtual 232, 3) := by decide +kernel
theorem dX10_act_68 : decode cX10_act 68 = .ok (.istore 5, 2) := by decide +kernel
theorem dX10_act_70 : decode cX10_act 70 = .ok (.goto 72, 3) := by decide +kernel
theorem dX10_act_73 : decode cX10_act 73 = .ok (.aload_n 0, 1) := by decide +kernel
theorem dX10_act_74 : decode cX10_act 74 = .ok (.aload_n 1, 1) := by decide +kernel
theorem dX10_act_75 : decode cX10_act 75 = .ok (.iload_n 2, 1) := by decide +kernel
theorem dX10_act_76 : decode cX10_act 76 = .ok (.iconst 2, 1) := by decide +kernel
theorem dX10_act_77 : decode cX10_act 77 = .ok (.if_icmp .ne 7, 3) := by decide +kernel
theorem dX10_act_80 : decode cX10_act 80 = .ok (.iconst 1, 1) := by decide +kernel
theorem dX10_act_81 : decode cX10_act 81 = .ok (.goto 4, 3) := by decide +kernel
theorem dX10_act_84 : decode cX10_act 84 = .ok (.iconst 0, 1) := by decide +kernel
theorem dX10_act_85 : decode cX10_act 85 = .ok (.iload_n 3, 1) := by decide +kernel
theorem dX10_act_86 : decode cX10_act 86 = .ok (.iload 4, 2) := by decide +kernel
theorem dX10_act_88 : decode cX10_act 88 = .ok (.invokevirtual 236, 3) := by decide +kernel
theorem dX10_act_91 : decode cX10_act 91 = .ok (.istore 5, 2) := by decide +kernel
theorem dX10_act_93 : decode cX10_act 93 = .ok (.goto 49, 3) := by decide +kernel
theorem dX10_act_96 : decode cX10_act 96 = .ok (.aload_n 0, 1) := by decide +kernel
theorem dX10_act_97 : decode cX10_act 97 = .ok (.aload_n 1, 1) := by decide +kernel
theorem dX10_act_98 : decode cX10_act 98 = .ok (.iload_n 3, 1) := by decide +kernel
theorem dX10_act_99 : decode cX10_act 99 = .ok (.invokevirtual 240, 3) := by decide +kernel
theorem dX10_act_102 : decode cX10_act 102 = .ok (.istore 5, 2) := by decide +kernel
theorem dX10_act_104 : decode cX10_act 104 = .ok (.goto 38, 3) := by decide +kernel
theorem dX10_act_107 : decode cX10_act 107 = .ok (.aload_n 0, 1) := by decide +kernel
theorem dX10_act_108 : decode cX10_act 108 = .ok (.aload_n 1, 1) := by decide +kernel
theorem dX10_act_109 : decode cX10_act 109 = .ok (.iload_n 3, 1) := by decide +kernel
theorem dX10_act_110 : decode cX10_act 110 = .ok (.iload_n 2, 1) := by decide +kernel
theorem dX10_act_111 : decode cX10_act 111 = .ok (.iconst 4, 1) := by decide +kernel
theorem dX10_act_112 : decode cX10_act 112 = .ok (.if_icmp .ne 7, 3) := by decide +kernel
theorem dX10_act_115 : decode cX10_act 115 = .ok (.iconst 1, 1) := by decide +kernel
theorem dX10_act_116 : decode cX10_act 116 = .ok (.goto 4, 3) := by decide +kernel
theorem dX10_act_119 : decode cX10_act 119 = .ok (.iconst 0, 1) := by decide +kernel
theorem dX10_act_120 : decode cX10_act 120 = .ok (.invokevirtual 243, 3) := by decide +kernel
theorem dX10_act_123 : decode cX10_act 123 = .ok (.istore 5, 2) := by decide +kernel
theorem dX10_act_125 : decode cX10_act 125 = .ok (.goto 17, 3) := by decide +kernel
theorem dX10_act_128 : decode cX10_act 128 = .ok (.aload_n 1, 1) := by decide +kernel
theorem dX10_act_129 : decode cX10_act 129 = .ok (.iconst 5, 1) := by decide +kernel
theorem dX10_act_130 : decode cX10_act 130 = .ok (.iload_n 3, 1) := by decide +kernel
theorem dX10_act_131 : decode cX10_act 131 = .ok (.iastore, 1) := by decide +kernel
theorem dX10_act_132 : decode cX10_act 132 = .ok (.goto 10, 3) := by decide +kernel
theorem dX10_act_135 : decode cX10_act 135 = .ok (.aload_n 0, 1) := by decide +kernel
theorem dX10_act_136 : decode cX10_act 136 = .ok (.aload_n 1, 1) := by decide +kernel
theorem dX10_act_137 : decode cX10_act 137 = .ok (.invokevirtual 246, 3) := by decide +kernel
theorem dX10_act_140 : decode cX10_act 140 = .ok (.istore 5, 2) := by decide +kernel
theorem dX10_act_142 : decode cX10_act 142 = .ok (.iload 5, 2) := by decide +kernel
theorem dX10_act_144 : decode cX10_act 144 = .ok (.ifCond .eq 16, 3) := by decide +kernel
theorem dX10_act_147 : decode cX10_act 147 = .ok (.aload_n 0, 1) := by decide +kernel
theorem dX10_act_148 : decode cX10_act 148 = .ok (.getfield 65, 3) := by decide +kernel
theorem dX10_act_151 : decode cX10_act 151 = .ok (.iconst 0, 1) := by decide +kernel
theorem dX10_act_152 : decode cX10_act 152 = .ok (.aload_n 1, 1) := by decide +kernel
theorem dX10_act_153 : decode cX10_act 153 = .ok (.iconst 0, 1) := by decide +kernel
theorem dX10_act_154 : decode cX10_act 154 = .ok (.sipush 594, 3) := by decide +kernel
theorem dX10_act_157 : decode cX10_act 157 = .ok (.invokestatic 151, 3) := by decide +kernel
theorem dX10_act_160 : decode cX10_act 160 = .ok (.iload 5, 2) := by decide +kernel
theorem dX10_act_162 : decode cX10_act 162 = .ok (.ireturn, 1) := by decide +kernel
theorem dX10_isKind_0 : decode cX10_isKind 0 = .ok (.iload_n 0, 1) := by decide +kernel
theorem dX10_isKind_1 : decode cX10_isKind 1 = .ok (.iconst 0, 1) := by decide +kernel
theorem dX10_isKind_2 : decode cX10_isKind 2 = .ok (.bipush 7, 2) := by decide +kernel
theorem dX10_isKind_4 : decode cX10_isKind 4 = .ok (.invokestatic 74, 3) := by decide +kernel
theorem dX10_isKind_7 : decode cX10_isKind 7 = .ok (.ireturn, 1) := by decide +kernel
theorem dX10_isRight_0 : decode cX10_isRight 0 = .ok (.iload_n 1, 1) := by decide +kernel
theorem dX10_isRight_1 : decode cX10_isRight 1 = .ok (.ifCond .ne 9, 3) := by decide +kernel
theorem dX10_isRight_4 : decode cX10_isRight 4 = .ok (.iload_n 2, 1) := by decide +kernel
theorem dX10_isRight_5 : decode cX10_isRight 5 = .ok (.iload_n 3, 1) := by decide +kernel
theorem dX10_isRight_6 : decode cX10_isRight 6 = .ok (.invokestatic 81, 3) := by decide +kernel
theorem dX10_isRight_9 : decode cX10_isRight 9 = .ok (.ireturn, 1) := by decide +kernel
theorem dX10_isRight_10 : decode cX10_isRight 10 = .ok (.iload_n 1, 1) := by decide +kernel
theorem dX10_isRight_11 : decode cX10_isRight 11 = .ok (.iconst 1, 1) := by decide +kernel
theorem dX10_isRight_12 : decode cX10_isRight 12 = .ok (.if_icmp .eq 8, 3) := by decide +kernel
theorem dX10_isRight_15 : decode cX10_isRight 15 = .ok (.iload_n 1, 1) := by decide +kernel
theorem dX10_isRight_16 : decode cX10_isRight 16 = .ok (.iconst 2, 1) := by decide +kernel
theorem dX10_isRight_17 : decode cX10_isRight 17 = .ok (.if_icmp .ne 27, 3) := by decide +kernel
theorem dX10_isRight_20 : decode cX10_isRight 20 = .ok (.aload_n 0, 1) := by decide +kernel
theorem dX10_isRight_21 : decode cX10_isRight 21 = .ok (.iload_n 2, 1) := by decide +kernel
theorem dX10_isRight_22 : decode cX10_isRight 22 = .ok (.invokevirtual 178, 3) := by decide +kernel
theorem dX10_isRight_25 : decode cX10_isRight 25 = .ok (.ifCond .eq 17, 3) := by decide +kernel
theorem dX10_isRight_28 : decode cX10_isRight 28 = .ok (.iload_n 3, 1) := by decide +kernel
