theorem dX5_sizeOf_10 : decode cX5_sizeOf 10 = .ok (.ireturn, 1) := by decide +kernel
theorem dX5_add_0 : decode cX5_add 0 = .ok (.aload_n 0, 1) := by decide +kernel
theorem dX5_add_1 : decode cX5_add 1 = .ok (.iconst 0, 1) := by decide +kernel
theorem dX5_add_2 : decode cX5_add 2 = .ok (.putfield 54, 3) := by decide +kernel
theorem dX5_add_5 : decode cX5_add 5 = .ok (.iload_n 1, 1) := by decide +kernel
theorem dX5_add_6 : decode cX5_add 6 = .ok (.invokestatic 136, 3) := by decide +kernel
theorem dX5_add_9 : decode cX5_add 9 = .ok (.ifCond .eq 25, 3) := by decide +kernel
theorem dX5_add_12 : decode cX5_add 12 = .ok (.iload_n 2, 1) := by decide +kernel
theorem dX5_add_13 : decode cX5_add 13 = .ok (.invokestatic 64, 3) := by decide +kernel
theorem dX5_add_16 : decode cX5_add 16 = .ok (.ifCond .eq 18, 3) := by decide +kernel
theorem dX5_add_19 : decode cX5_add 19 = .ok (.iload 4, 2) := by decide +kernel
theorem dX5_add_21 : decode cX5_add 21 = .ok (.i2l, 1) := by decide +kernel
theorem dX5_add_22 : decode cX5_add 22 = .ok (.ldc2_w 206, 3) := by decide +kernel
theorem dX5_add_25 : decode cX5_add 25 = .ok (.ldc2_w 208, 3) := by decide +kernel
theorem dX5_add_28 : decode cX5_add 28 = .ok (.invokestatic 60, 3) := by decide +kernel
theorem dX5_add_31 : decode cX5_add 31 = .ok (.ifCond .ne 6, 3) := by decide +kernel
theorem dX5_add_34 : decode cX5_add 34 = .ok (.bipush (-3), 2) := by decide +kernel
theorem dX5_add_36 : decode cX5_add 36 = .ok (.ireturn, 1) := by decide +kernel
theorem dX5_add_37 : decode cX5_add 37 = .ok (.aload_n 0, 1) := by decide +kernel
theorem dX5_add_38 : decode cX5_add 38 = .ok (.getfield 27, 3) := by decide +kernel
theorem dX5_add_41 : decode cX5_add 41 = .ok (.iload_n 1, 1) := by decide +kernel
theorem dX5_add_42 : decode cX5_add 42 = .ok (.iaload, 1) := by decide +kernel
theorem dX5_add_43 : decode cX5_add 43 = .ok (.iconst (-1), 1) := by decide +kernel
theorem dX5_add_44 : decode cX5_add 44 = .ok (.if_icmp .eq 11, 3) := by decide +kernel
theorem dX5_add_47 : decode cX5_add 47 = .ok (.aload_n 0, 1) := by decide +kernel
theorem dX5_add_48 : decode cX5_add 48 = .ok (.iload_n 2, 1) := by decide +kernel
theorem dX5_add_49 : decode cX5_add 49 = .ok (.invokevirtual 70, 3) := by decide +kernel
theorem dX5_add_52 : decode cX5_add 52 = .ok (.ifCond .ne 6, 3) := by decide +kernel
theorem dX5_add_55 : decode cX5_add 55 = .ok (.bipush (-11), 2) := by decide +kernel
theorem dX5_add_57 : decode cX5_add 57 = .ok (.ireturn, 1) := by decide +kernel
theorem dX5_add_58 : decode cX5_add 58 = .ok (.aload_n 0, 1) := by decide +kernel
theorem dX5_add_59 : decode cX5_add 59 = .ok (.getfield 27, 3) := by decide +kernel
theorem dX5_add_62 : decode cX5_add 62 = .ok (.iload_n 1, 1) := by decide +kernel
theorem dX5_add_63 : decode cX5_add 63 = .ok (.iaload, 1) := by decide +kernel
theorem dX5_add_64 : decode cX5_add 64 = .ok (.iconst 1, 1) := by decide +kernel
theorem dX5_add_65 : decode cX5_add 65 = .ok (.if_icmp .ne 6, 3) := by decide +kernel
theorem dX5_add_68 : decode cX5_add 68 = .ok (.bipush (-12), 2) := by decide +kernel
theorem dX5_add_70 : decode cX5_add 70 = .ok (.ireturn, 1) := by decide +kernel
theorem dX5_add_71 : decode cX5_add 71 = .ok (.iload 4, 2) := by decide +kernel
theorem dX5_add_73 : decode cX5_add 73 = .ok (.invokestatic 210, 3) := by decide +kernel
theorem dX5_add_76 : decode cX5_add 76 = .ok (.istore 5, 2) := by decide +kernel
theorem dX5_add_78 : decode cX5_add 78 = .ok (.aload_n 0, 1) := by decide +kernel
theorem dX5_add_79 : decode cX5_add 79 = .ok (.iload_n 2, 1) := by decide +kernel
theorem dX5_add_80 : decode cX5_add 80 = .ok (.iload_n 3, 1) := by decide +kernel
theorem dX5_add_81 : decode cX5_add 81 = .ok (.iload 5, 2) := by decide +kernel
theorem dX5_add_83 : decode cX5_add 83 = .ok (.invokevirtual 106, 3) := by decide +kernel
theorem dX5_add_86 : decode cX5_add 86 = .ok (.ifCond .ne 6, 3) := by decide +kernel
theorem dX5_add_89 : decode cX5_add 89 = .ok (.bipush (-13), 2) := by decide +kernel
theorem dX5_add_91 : decode cX5_add 91 = .ok (.ireturn, 1) := by decide +kernel
theorem dX5_add_92 : decode cX5_add 92 = .ok (.aload_n 0, 1) := by decide +kernel
theorem dX5_add_93 : decode cX5_add 93 = .ok (.iload_n 1, 1) := by decide +kernel
theorem dX5_add_94 : decode cX5_add 94 = .ok (.invokevirtual 141, 3) := by decide +kernel
theorem dX5_add_97 : decode cX5_add 97 = .ok (.iconst 0, 1) := by decide +kernel
theorem dX5_add_98 : decode cX5_add 98 = .ok (.istore 6, 2) := by decide +kernel
theorem dX5_add_100 : decode cX5_add 100 = .ok (.iload 6, 2) := by decide +kernel
theorem dX5_add_102 : decode cX5_add 102 = .ok (.iload 5, 2) := by decide +kernel
theorem dX5_add_104 : decode cX5_add 104 = .ok (.if_icmp .ge 72, 3) := by decide +kernel
theorem dX5_add_107 : decode cX5_add 107 = .ok (.bipush 40, 2) := by decide +kernel
theorem dX5_add_109 : decode cX5_add 109 = .ok (.iload_n 2, 1) := by decide +kernel
theorem dX5_add_110 : decode cX5_add 110 = .ok (.imul, 1) := by decide +kernel
theorem dX5_add_111 : decode cX5_add 111 = .ok (.iload_n 3, 1) := by decide +kernel
theorem dX5_add_112 : decode cX5_add 112 = .ok (.iadd, 1) := by decide +kernel
theorem dX5_add_113 : decode cX5_add 113 = .ok (.iload 6, 2) := by decide +kernel
theorem dX5_add_115 : decode cX5_add 115 = .ok (.iadd, 1) := by decide +kernel
theorem dX5_add_116 : decode cX5_add 116 = .ok (.istore 7, 2) := by decide +kernel
theorem dX5_add_118 : decode cX5_add 118 = .ok (.aload_n 0, 1) := by decide +kernel
theorem dX5_add_119 : decode cX5_add 119 = .ok (.getfield 27, 3) := by decide +kernel
theorem dX5_add_122 : decode cX5_add 122 = .ok (.iload_n 1, 1) := by decide +kernel
theorem dX5_add_123 : decode cX5_add 123 = .ok (.iaload, 1) := by decide +kernel
theorem dX5_add_124 : decode cX5_add 124 = .ok (.iconst 2, 1) := by decide +kernel
theorem dX5_add_125 : decode cX5_add 125 = .ok (.if_icmp .ne 27, 3) := by decide +kernel
theorem dX5_add_128 : decode cX5_add 128 = .ok (.aload_n 0, 1) := by decide +kernel
theorem dX5_add_129 : decode cX5_add 129 = .ok (.iload_n 1, 1) := by decide +kernel
theorem dX5_add_130 : decode cX5_add 130 = .ok (.iload_n 2, 1) := by decide +kernel
theorem dX5_add_131 : decode cX5_add 131 = .ok (.iload 7, 2) := by decide +kernel
theorem dX5_add_133 : decode cX5_add 133 = .ok (.iload_n 2, 1) := by decide +kernel
theorem dX5_add_134 : decode cX5_add 134 = .ok (.iload 7, 2) := by decide +kernel
theorem dX5_add_136 : decode cX5_add 136 = .ok (.iload 4, 2) := by decide +kernel
theorem dX5_add_138 : decode cX5_add 138 = .ok (.ifCond .ge 7, 3) := by decide +kernel
theorem dX5_add_141 : decode cX5_add 141 = .ok (.iconst 1, 1) := by decide +kernel
theorem dX5_add_142 : decode cX5_add 142 = .ok (.goto 4, 3) := by decide +kernel
theorem dX5_add_145 : decode cX5_add 145 = .ok (.iconst 0, 1) := by decide +kernel
theorem dX5_add_146 : decode cX5_add 146 = .ok (.invokevirtual 214, 3) := by decide +kernel
theorem dX5_add_149 : decode cX5_add 149 = .ok (.goto 21, 3) := by decide +kernel
theorem dX5_add_152 : decode cX5_add 152 = .ok (.aload_n 0, 1) := by decide +kernel
theorem dX5_add_153 : decode cX5_add 153 = .ok (.iload_n 1, 1) := by decide +kernel
theorem dX5_add_154 : decode cX5_add 154 = .ok (.iload_n 2, 1) := by decide +kernel
theorem dX5_add_155 : decode cX5_add 155 = .ok (.iload 7, 2) := by decide +kernel
theorem dX5_add_157 : decode cX5_add 157 = .ok (.iload 4, 2) := by decide +kernel
theorem dX5_add_159 : decode cX5_add 159 = .ok (.ifCond .ge 7, 3) := by decide +kernel
theorem dX5_add_162 : decode cX5_add 162 = .ok (.iconst 1, 1) := by decide +kernel
theorem dX5_add_163 : decode cX5_add 163 = .ok (.goto 4, 3) := by decide +kernel
theorem dX5_add_166 : decode cX5_add 166 = .ok (.iconst 0, 1) := by decide +kernel
theorem dX5_add_167 : decode cX5_add 167 = .ok (.invokevirtual 218, 3) := by decide +kernel
theorem dX5_add_170 : decode cX5_add 170 = .ok (.iinc 6 1, 3) := by decide +kernel
theorem dX5_add_173 : decode cX5_add 173 = .ok (.goto (-73), 3) := by decide +kernel
theorem dX5_add_176 : decode cX5_add 176 = .ok (.aload_n 0, 1) := by decide +kernel
theorem dX5_add_177 : decode cX5_add 177 = .ok (.dup, 1) := by decide +kernel
theorem dX5_add_178 : decode cX5_add 178 = .ok (.getfield 222, 3) := by decide +kernel
theorem dX5_add_181 : decode cX5_add 181 = .ok (.iload 5, 2) := by decide +kernel
theorem dX5_add_183 : decode cX5_add 183 = .ok (.iadd, 1) := by decide +kernel
theorem dX5_add_184 : decode cX5_add 184 = .ok (.putfield 222, 3) := by decide +kernel
theorem dX5_add_187 : decode cX5_add 187 = .ok (.iload 5, 2) := by decide +kernel
theorem dX5_add_189 : decode cX5_add 189 = .ok (.ireturn, 1) := by decide +kernel
theorem dX5_pair_0 : decode cX5_pair 0 = .ok (.aload_n 0, 1) := by decide +kernel
theorem dX5_pair_1 : decode cX5_pair 1 = .ok (.iconst 0, 1) := by decide +kernel
theorem dX5_pair_2 : decode cX5_pair 2 = .ok (.putfield 54, 3) := by decide +kernel
theorem dX5_pair_5 : decode cX5_pair 5 = .ok (.iload_n 1, 1) := by decide +kernel
theorem dX5_pair_6 : decode cX5_pair 6 = .ok (.invokestatic 136, 3) := by decide +kernel
theorem dX5_pair_9 : decode cX5_pair 9 = .ok (.ifCond .eq 32, 3) := by decide +kernel
theorem dX5_pair_12 : decode cX5_pair 12 = .ok (.iload_n 2, 1) := by decide +kernel
theorem dX5_pair_13 : decode cX5_pair 13 = .ok (.invokestatic 64, 3) := by decide +kernel
theorem dX5_pair_16 : decode cX5_pair 16 = .ok (.ifCond .eq 25, 3) := by decide +kernel
theorem dX5_pair_19 : decode cX5_pair 19 = .ok (.iload_n 3, 1) := by decide +kernel
theorem dX5_pair_20 : decode cX5_pair 20 = .ok (.invokestatic 64, 3) := by decide +kernel
theorem dX5_pair_23 : decode cX5_pair 23 = .ok (.ifCond .eq 18, 3) := by decide +kernel
theorem dX5_pair_26 : decode cX5_pair 26 = .ok (.iload 5, 2) := by decide +kernel
theorem dX5_pair_28 : decode cX5_pair 28 = .ok (.i2l, 1) := by decide +kernel
theorem dX5_pair_29 : decode cX5_pair 29 = .ok (.ldc2_w 206, 3) := by decide +kernel
theorem dX5_pair_32 : decode cX5_pair 32 = .ok (.ldc2_w 208, 3) := by decide +kernel
theorem dX5_pair_35 : decode cX5_pair 35 = .ok (.invokestatic 60, 3) := by decide +kernel
theorem dX5_pair_38 : decode cX5_pair 38 = .ok (.ifCond .ne 6, 3) := by decide +kernel
theorem dX5_pair_41 : decode cX5_pair 41 = .ok (.bipush (-3), 2) := by decide +kernel
theorem dX5_pair_43 : decode cX5_pair 43 = .ok (.ireturn, 1) := by decide +kernel
theorem dX5_pair_44 : decode cX5_pair 44 = .ok (.aload_n 0, 1) := by decide +kernel
theorem dX5_pair_45 : decode cX5_pair 45 = .ok (.getfield 27, 3) := by decide +kernel
theorem dX5_pair_48 : decode cX5_pair 48 = .ok (.iload_n 1, 1) := by decide +kernel
theorem dX5_pair_49 : decode cX5_pair 49 = .ok (.iaload, 1) := by decide +kernel
theorem dX5_pair_50 : decode cX5_pair 50 = .ok (.iconst (-1), 1) := by decide +kernel
theorem dX5_pair_51 : decode cX5_pair 51 = .ok (.if_icmp .eq 19, 3) := by decide +kernel
theorem dX5_pair_54 : decode cX5_pair 54 = .ok (.aload_n 0, 1) := by decide +kernel
theorem dX5_pair_55 : decode cX5_pair 55 = .ok (.iload_n 2, 1) := by decide +kernel
theorem dX5_pair_56 : decode cX5_pair 56 = .ok (.invokevirtual 70, 3) := by decide +kernel
theorem dX5_pair_59 : decode cX5_pair 59 = .ok (.ifCond .eq 11, 3) := by decide +kernel
theorem dX5_pair_62 : decode cX5_pair 62 = .ok (.aload_n 0, 1) := by decide +kernel
theorem dX5_pair_63 : decode cX5_pair 63 = .ok (.iload_n 3, 1) := by decide +kernel
theorem dX5_pair_64 : decode cX5_pair 64 = .ok (.invokevirtual 70, 3) := by decide +kernel
theorem dX5_pair_67 : decode cX5_pair 67 = .ok (.ifCond .ne 6, 3) := by decide +kernel
theorem dX5_pair_70 : decode cX5_pair 70 = .ok (.bipush (-11), 2) := by decide +kernel
theorem dX5_pair_72 : decode cX5_pair 72 = .ok (.ireturn, 1) := by decide +kernel
theorem dX5_pair_73 : decode cX5_pair 73 = .ok (.aload_n 0, 1) := by decide +kernel
theorem dX5_pair_74 : decode cX5_pair 74 = .ok (.getfield 27, 3) := by decide +kernel
theorem dX5_pair_77 : decode cX5_pair 77 = .ok (.iload_n 1, 1) := by decide +kernel
theorem dX5_pair_78 : decode cX5_pair 78 = .ok (.iaload, 1) := by decide +kernel
theorem dX5_pair_79 : decode cX5_pair 79 = .ok (.ifCond .ne 6, 3) := by decide +kernel
theorem dX5_pair_82 : decode cX5_pair 82 = .ok (.bipush (-12), 2) := by decide +kernel
theorem dX5_pair_84 : decode cX5_pair 84 = .ok (.ireturn, 1) := by decide +kernel
theorem dX5_pair_85 : decode cX5_pair 85 = .ok (.iload 5, 2) := by decide +kernel
theorem dX5_pair_87 : decode cX5_pair 87 = .ok (.invokestatic 210, 3) := by decide +kernel
theorem dX5_pair_90 : decode cX5_pair 90 = .ok (.istore 6, 2) := by decide +kernel
theorem dX5_pair_92 : decode cX5_pair 92 = .ok (.aload_n 0, 1) := by decide +kernel
theorem dX5_pair_93 : decode cX5_pair 93 = .ok (.iload_n 2, 1) := by decide +kernel
theorem dX5_pair_94 : decode cX5_pair 94 = .ok (.iload 4, 2) := by decide +kernel
theorem dX5_pair_96 : decode cX5_pair 96 = .ok (.iload 6, 2) := by decide +kernel
theorem dX5_pair_98 : decode cX5_pair 98 = .ok (.invokevirtual 106, 3) := by decide +kernel
theorem dX5_pair_101 : decode cX5_pair 101 = .ok (.ifCond .eq 15, 3) := by decide +kernel
theorem dX5_pair_104 : decode cX5_pair 104 = .ok (.aload_n 0, 1) := by decide +kernel
theorem dX5_pair_105 : decode cX5_pair 105 = .ok (.iload_n 3, 1) := by decide +kernel
theorem dX5_pair_106 : decode cX5_pair 106 = .ok (.iload 4, 2) := by decide +kernel
theorem dX5_pair_108 : decode cX5_pair 108 = .ok (.iload 6, 2) := by decide +kernel
theorem dX5_pair_110 : decode cX5_pair 110 = .ok (.invokevirtual 106, 3) := by decide +kernel
theorem dX5_pair_113 : decode cX5_pair 113 = .ok (.ifCond .ne 6, 3) := by decide +kernel
theorem dX5_pair_116 : decode cX5_pair 116 = .ok (.bipush (-13), 2) := by decide +kernel
theorem dX5_pair_118 : decode cX5_pair 118 = .ok (.ireturn, 1) := by decide +kernel
theorem dX5_pair_119 : decode cX5_pair 119 = .ok (.aload_n 0, 1) := by decide +kernel
theorem dX5_pair_120 : decode cX5_pair 120 = .ok (.iload_n 1, 1) := by decide +kernel
theorem dX5_pair_121 : decode cX5_pair 121 = .ok (.invokevirtual 141, 3) := by decide +kernel
theorem dX5_pair_124 : decode cX5_pair 124 = .ok (.iconst 0, 1) := by decide +kernel
theorem dX5_pair_125 : decode cX5_pair 125 = .ok (.istore 7, 2) := by decide +kernel
theorem dX5_pair_127 : decode cX5_pair 127 = .ok (.iload 7, 2) := by decide +kernel
theorem dX5_pair_129 : decode cX5_pair 129 = .ok (.iload 6, 2) := by decide +kernel
theorem dX5_pair_131 : decode cX5_pair 131 = .ok (.if_icmp .ge 46, 3) := by decide +kernel
theorem dX5_pair_134 : decode cX5_pair 134 = .ok (.aload_n 0, 1) := by decide +kernel
theorem dX5_pair_135 : decode cX5_pair 135 = .ok (.iload_n 1, 1) := by decide +kernel
theorem dX5_pair_136 : decode cX5_pair 136 = .ok (.iload_n 2, 1) := by decide +kernel
theorem dX5_pair_137 : decode cX5_pair 137 = .ok (.bipush 40, 2) := by decide +kernel
theorem dX5_pair_139 : decode cX5_pair 139 = .ok (.iload_n 2, 1) := by decide +kernel
theorem dX5_pair_140 : decode cX5_pair 140 = .ok (.imul, 1) := by decide +kernel
theorem dX5_pair_141 : decode cX5_pair 141 = .ok (.iload 4, 2) := by decide +kernel
theorem dX5_pair_143 : decode cX5_pair 143 = .ok (.iadd, 1) := by decide +kernel
theorem dX5_pair_144 : decode cX5_pair 144 = .ok (.iload 7, 2) := by decide +kernel
theorem dX5_pair_146 : decode cX5_pair 146 = .ok (.iadd, 1) := by decide +kernel
theorem dX5_pair_147 : decode cX5_pair 147 = .ok (.iload_n 3, 1) := by decide +kernel
theorem dX5_pair_148 : decode cX5_pair 148 = .ok (.bipush 40, 2) := by decide +kernel
theorem dX5_pair_150 : decode cX5_pair 150 = .ok (.iload_n 3, 1) := by decide +kernel
theorem dX5_pair_151 : decode cX5_pair 151 = .ok (.imul, 1) := by decide +kernel
theorem dX5_pair_152 : decode cX5_pair 152 = .ok (.iload 4, 2) := by decide +kernel
theorem dX5_pair_154 : decode cX5_pair 154 = .ok (.iadd, 1) := by decide +kernel
theorem dX5_pair_155 : decode cX5_pair 155 = .ok (.iload 7, 2) := by decide +kernel
theorem dX5_pair_157 : decode cX5_pair 157 = .ok (.iadd, 1) := by decide +kernel
theorem dX5_pair_158 : decode cX5_pair 158 = .ok (.iload 5, 2) := by decide +kernel
theorem dX5_pair_160 : decode cX5_pair 160 = .ok (.ifCond .ge 7, 3) := by decide +kernel
theorem dX5_pair_163 : decode cX5_pair 163 = .ok (.iconst 1, 1) := by decide +kernel
theorem dX5_pair_164 : decode cX5_pair 164 = .ok (.goto 4, 3) := by decide +kernel
theorem dX5_pair_167 : decode cX5_pair 167 = .ok (.iconst 0, 1) := by decide +kernel
theorem dX5_pair_168 : decode cX5_pair 168 = .ok (.invokevirtual 214, 3) := by decide +kernel
theorem dX5_pair_171 : decode cX5_pair 171 = .ok (.iinc 7 1, 3) := by decide +kernel
theorem dX5_pair_174 : decode cX5_pair 174 = .ok (.goto (-47), 3) := by decide +kernel
theorem dX5_pair_177 : decode cX5_pair 177 = .ok (.aload_n 0, 1) := by decide +kernel
theorem dX5_pair_178 : decode cX5_pair 178 = .ok (.dup, 1) := by decide +kernel
theorem dX5_pair_179 : decode cX5_pair 179 = .ok (.getfield 222, 3) := by decide +kernel
theorem dX5_pair_182 : decode cX5_pair 182 = .ok (.iload 6, 2) := by decide +kernel
theorem dX5_pair_184 : decode cX5_pair 184 = .ok (.iadd, 1) := by decide +kernel
theorem dX5_pair_185 : decode cX5_pair 185 = .ok (.putfield 222, 3) := by decide +kernel
theorem dX5_pair_188 : decode cX5_pair 188 = .ok (.iload 6, 2) := by decide +kernel
theorem dX5_pair_190 : decode cX5_pair 190 = .ok (.ireturn, 1) := by decide +kernel
theorem dX5_merge_0 : decode cX5_merge 0 = .ok (.aload_n 0, 1) := by decide +kernel
theorem dX5_merge_1 : decode cX5_merge 1 = .ok (.iconst 0, 1) := by decide +kernel
theorem dX5_merge_2 : decode cX5_merge 2 = .ok (.putfield 54, 3) := by decide +kernel
theorem dX5_merge_5 : decode cX5_merge 5 = .ok (.iload_n 1, 1) := by decide +kernel
theorem dX5_merge_6 : decode cX5_merge 6 = .ok (.invokestatic 136, 3) := by decide +kernel
theorem dX5_merge_9 : decode cX5_merge 9 = .ok (.ifCond .eq 10, 3) := by decide +kernel
theorem dX5_merge_12 : decode cX5_merge 12 = .ok (.iload_n 2, 1) := by decide +kernel
theorem dX5_merge_13 : decode cX5_merge 13 = .ok (.invokestatic 136, 3) := by decide +kernel
theorem dX5_merge_16 : decode cX5_merge 16 = .ok (.ifCond .ne 6, 3) := by decide +kernel
theorem dX5_merge_19 : decode cX5_merge 19 = .ok (.bipush (-3), 2) := by decide +kernel
theorem dX5_merge_21 : decode cX5_merge 21 = .ok (.ireturn, 1) := by decide +kernel
theorem dX5_merge_22 : decode cX5_merge 22 = .ok (.aload_n 0, 1) := by decide +kernel
theorem dX5_merge_23 : decode cX5_merge 23 = .ok (.getfield 27, 3) := by decide +kernel
theorem dX5_merge_26 : decode cX5_merge 26 = .ok (.iload_n 1, 1) := by decide +kernel
theorem dX5_merge_27 : decode cX5_merge 27 = .ok (.iaload, 1) := by decide +kernel
theorem dX5_merge_28 : decode cX5_merge 28 = .ok (.iconst (-1), 1) := by decide +kernel
theorem dX5_merge_29 : decode cX5_merge 29 = .ok (.if_icmp .eq 13, 3) := by decide +kernel
theorem dX5_merge_32 : decode cX5_merge 32 = .ok (.aload_n 0, 1) := by decide +kernel
theorem dX5_merge_33 : decode cX5_merge 33 = .ok (.getfield 27, 3) := by decide +kernel
theorem dX5_merge_36 : decode cX5_merge 36 = .ok (.iload_n 2, 1) := by decide +kernel
theorem dX5_merge_37 : decode cX5_merge 37 = .ok (.iaload, 1) := by decide +kernel
theorem dX5_merge_38 : decode cX5_merge 38 = .ok (.iconst (-1), 1) := by decide +kernel
theorem dX5_merge_39 : decode cX5_merge 39 = .ok (.if_icmp .ne 6, 3) := by decide +kernel
theorem dX5_merge_42 : decode cX5_merge 42 = .ok (.bipush (-11), 2) := by decide +kernel
theorem dX5_merge_44 : decode cX5_merge 44 = .ok (.ireturn, 1) := by decide +kernel
theorem dX5_merge_45 : decode cX5_merge 45 = .ok (.aload_n 0, 1) := by decide +kernel
theorem dX5_merge_46 : decode cX5_merge 46 = .ok (.getfield 27, 3) := by decide +kernel
theorem dX5_merge_49 : decode cX5_merge 49 = .ok (.iload_n 1, 1) := by decide +kernel
theorem dX5_merge_50 : decode cX5_merge 50 = .ok (.iaload, 1) := by decide +kernel
theorem dX5_merge_51 : decode cX5_merge 51 = .ok (.ifCond .ne 7, 3) := by decide +kernel
theorem dX5_merge_54 : decode cX5_merge 54 = .ok (.iconst 1, 1) := by decide +kernel
theorem dX5_merge_55 : decode cX5_merge 55 = .ok (.goto 4, 3) := by decide +kernel
theorem dX5_merge_58 : decode cX5_merge 58 = .ok (.iconst 0, 1) := by decide +kernel
theorem dX5_merge_59 : decode cX5_merge 59 = .ok (.aload_n 0, 1) := by decide +kernel
theorem dX5_merge_60 : decode cX5_merge 60 = .ok (.getfield 27, 3) := by decide +kernel
theorem dX5_merge_63 : decode cX5_merge 63 = .ok (.iload_n 2, 1) := by decide +kernel
theorem dX5_merge_64 : decode cX5_merge 64 = .ok (.iaload, 1) := by decide +kernel
theorem dX5_merge_65 : decode cX5_merge 65 = .ok (.ifCond .ne 7, 3) := by decide +kernel
theorem dX5_merge_68 : decode cX5_merge 68 = .ok (.iconst 1, 1) := by decide +kernel
theorem dX5_merge_69 : decode cX5_merge 69 = .ok (.goto 4, 3) := by decide +kernel
theorem dX5_merge_72 : decode cX5_merge 72 = .ok (.iconst 0, 1) := by decide +kernel
theorem dX5_merge_73 : decode cX5_merge 73 = .ok (.if_icmp .eq 6, 3) := by decide +kernel
theorem dX5_merge_76 : decode cX5_merge 76 = .ok (.bipush (-12), 2) := by decide +kernel
theorem dX5_merge_78 : decode cX5_merge 78 = .ok (.ireturn, 1) := by decide +kernel
theorem dX5_merge_79 : decode cX5_merge 79 = .ok (.aload_n 0, 1) := by decide +kernel
theorem dX5_merge_80 : decode cX5_merge 80 = .ok (.iload_n 1, 1) := by decide +kernel
theorem dX5_merge_81 : decode cX5_merge 81 = .ok (.invokevirtual 141, 3) := by decide +kernel
theorem dX5_merge_84 : decode cX5_merge 84 = .ok (.lconst 0, 1) := by decide +kernel
theorem dX5_merge_85 : decode cX5_merge 85 = .ok (.lstore_n 3, 1) := by decide +kernel
theorem dX5_merge_86 : decode cX5_merge 86 = .ok (.iconst 0, 1) := by decide +kernel
theorem dX5_merge_87 : decode cX5_merge 87 = .ok (.istore 5, 2) := by decide +kernel
theorem dX5_merge_89 : decode cX5_merge 89 = .ok (.iload 5, 2) := by decide +kernel
theorem dX5_merge_91 : decode cX5_merge 91 = .ok (.sipush 152, 3) := by decide +kernel
theorem dX5_merge_94 : decode cX5_merge 94 = .ok (.if_icmp .ge 41, 3) := by decide +kernel
theorem dX5_merge_97 : decode cX5_merge 97 = .ok (.aload_n 0, 1) := by decide +kernel
theorem dX5_merge_98 : decode cX5_merge 98 = .ok (.sipush 152, 3) := by decide +kernel
theorem dX5_merge_101 : decode cX5_merge 101 = .ok (.iload_n 1, 1) := by decide +kernel
theorem dX5_merge_102 : decode cX5_merge 102 = .ok (.imul, 1) := by decide +kernel
theorem dX5_merge_103 : decode cX5_merge 103 = .ok (.iload 5, 2) := by decide +kernel
theorem dX5_merge_105 : decode cX5_merge 105 = .ok (.iadd, 1) := by decide +kernel
theorem dX5_merge_106 : decode cX5_merge 106 = .ok (.aload_n 0, 1) := by decide +kernel
theorem dX5_merge_107 : decode cX5_merge 107 = .ok (.getfield 30, 3) := by decide +kernel
theorem dX5_merge_110 : decode cX5_merge 110 = .ok (.sipush 152, 3) := by decide +kernel
theorem dX5_merge_113 : decode cX5_merge 113 = .ok (.iload_n 2, 1) := by decide +kernel
theorem dX5_merge_114 : decode cX5_merge 114 = .ok (.imul, 1) := by decide +kernel
theorem dX5_merge_115 : decode cX5_merge 115 = .ok (.iload 5, 2) := by decide +kernel
theorem dX5_merge_117 : decode cX5_merge 117 = .ok (.iadd, 1) := by decide +kernel
theorem dX5_merge_118 : decode cX5_merge 118 = .ok (.iaload, 1) := by decide +kernel
theorem dX5_merge_119 : decode cX5_merge 119 = .ok (.i2l, 1) := by decide +kernel
theorem dX5_merge_120 : decode cX5_merge 120 = .ok (.ldc2_w 150, 3) := by decide +kernel
theorem dX5_merge_123 : decode cX5_merge 123 = .ok (.land, 1) := by decide +kernel
theorem dX5_merge_124 : decode cX5_merge 124 = .ok (.lload_n 3, 1) := by decide +kernel
theorem dX5_merge_125 : decode cX5_merge 125 = .ok (.invokevirtual 154, 3) := by decide +kernel
theorem dX5_merge_128 : decode cX5_merge 128 = .ok (.lstore_n 3, 1) := by decide +kernel
theorem dX5_merge_129 : decode cX5_merge 129 = .ok (.iinc 5 1, 3) := by decide +kernel
theorem dX5_merge_132 : decode cX5_merge 132 = .ok (.goto (-43), 3) := by decide +kernel
theorem dX5_merge_135 : decode cX5_merge 135 = .ok (.iconst 0, 1) := by decide +kernel
theorem dX5_merge_136 : decode cX5_merge 136 = .ok (.istore 5, 2) := by decide +kernel
theorem dX5_merge_138 : decode cX5_merge 138 = .ok (.iload 5, 2) := by decide +kernel
theorem dX5_merge_140 : decode cX5_merge 140 = .ok (.iconst 3, 1) := by decide +kernel
theorem dX5_merge_141 : decode cX5_merge 141 = .ok (.if_icmp .ge 27, 3) := by decide +kernel
theorem dX5_merge_144 : decode cX5_merge 144 = .ok (.aload_n 0, 1) := by decide +kernel
theorem dX5_merge_145 : decode cX5_merge 145 = .ok (.iload_n 1, 1) := by decide +kernel
theorem dX5_merge_146 : decode cX5_merge 146 = .ok (.iload 5, 2) := by decide +kernel
theorem dX5_merge_148 : decode cX5_merge 148 = .ok (.aload_n 0, 1) := by decide +kernel
theorem dX5_merge_149 : decode cX5_merge 149 = .ok (.getfield 33, 3) := by decide +kernel
theorem dX5_merge_152 : decode cX5_merge 152 = .ok (.iconst 3, 1) := by decide +kernel
theorem dX5_merge_153 : decode cX5_merge 153 = .ok (.iload_n 2, 1) := by decide +kernel
theorem dX5_merge_154 : decode cX5_merge 154 = .ok (.imul, 1) := by decide +kernel
theorem dX5_merge_155 : decode cX5_merge 155 = .ok (.iload 5, 2) := by decide +kernel
theorem dX5_merge_157 : decode cX5_merge 157 = .ok (.iadd, 1) := by decide +kernel
theorem dX5_merge_158 : decode cX5_merge 158 = .ok (.iaload, 1) := by decide +kernel
theorem dX5_merge_159 : decode cX5_merge 159 = .ok (.invokevirtual 175, 3) := by decide +kernel
theorem dX5_merge_162 : decode cX5_merge 162 = .ok (.iinc 5 1, 3) := by decide +kernel
theorem dX5_merge_165 : decode cX5_merge 165 = .ok (.goto (-27), 3) := by decide +kernel
theorem dX5_merge_168 : decode cX5_merge 168 = .ok (.iconst 0, 1) := by decide +kernel
theorem dX5_merge_169 : decode cX5_merge 169 = .ok (.ireturn, 1) := by decide +kernel
theorem dX5_clear_0 : decode cX5_clear 0 = .ok (.aload_n 0, 1) := by decide +kernel
theorem dX5_clear_1 : decode cX5_clear 1 = .ok (.iconst 0, 1) := by decide +kernel
theorem dX5_clear_2 : decode cX5_clear 2 = .ok (.putfield 54, 3) := by decide +kernel
theorem dX5_clear_5 : decode cX5_clear 5 = .ok (.iload_n 1, 1) := by decide +kernel
theorem dX5_clear_6 : decode cX5_clear 6 = .ok (.invokestatic 136, 3) := by decide +kernel
theorem dX5_clear_9 : decode cX5_clear 9 = .ok (.ifCond .ne 6, 3) := by decide +kernel
theorem dX5_clear_12 : decode cX5_clear 12 = .ok (.bipush (-3), 2) := by decide +kernel
theorem dX5_clear_14 : decode cX5_clear 14 = .ok (.ireturn, 1) := by decide +kernel
theorem dX5_clear_15 : decode cX5_clear 15 = .ok (.aload_n 0, 1) := by decide +kernel
theorem dX5_clear_16 : decode cX5_clear 16 = .ok (.getfield 27, 3) := by decide +kernel
theorem dX5_clear_19 : decode cX5_clear 19 = .ok (.iload_n 1, 1) := by decide +kernel
theorem dX5_clear_20 : decode cX5_clear 20 = .ok (.iaload, 1) := by decide +kernel
theorem dX5_clear_21 : decode cX5_clear 21 = .ok (.iconst (-1), 1) := by decide +kernel
theorem dX5_clear_22 : decode cX5_clear 22 = .ok (.if_icmp .ne 6, 3) := by decide +kernel
theorem dX5_clear_25 : decode cX5_clear 25 = .ok (.bipush (-11), 2) := by decide +kernel
theorem dX5_clear_27 : decode cX5_clear 27 = .ok (.ireturn, 1) := by decide +kernel
theorem dX5_clear_28 : decode cX5_clear 28 = .ok (.aload_n 0, 1) := by decide +kernel
theorem dX5_clear_29 : decode cX5_clear 29 = .ok (.iload_n 1, 1) := by decide +kernel
theorem dX5_clear_30 : decode cX5_clear 30 = .ok (.invokevirtual 141, 3) := by decide +kernel
theorem dX5_clear_33 : decode cX5_clear 33 = .ok (.aload_n 0, 1) := by decide +kernel
theorem dX5_clear_34 : decode cX5_clear 34 = .ok (.iload_n 1, 1) := by decide +kernel
theorem dX5_clear_35 : decode cX5_clear 35 = .ok (.invokevirtual 145, 3) := by decide +kernel
theorem dX5_clear_38 : decode cX5_clear 38 = .ok (.iconst 0, 1) := by decide +kernel
theorem dX5_clear_39 : decode cX5_clear 39 = .ok (.ireturn, 1) := by decide +kernel
theorem dX5_plainOf_0 : decode cX5_plainOf 0 = .ok (.dconst 0, 1) := by decide +kernel
theorem dX5_plainOf_1 : decode cX5_plainOf 1 = .ok (.dstore 4, 2) := by decide +kernel
theorem dX5_plainOf_3 : decode cX5_plainOf 3 = .ok (.iconst 0, 1) := by decide +kernel
theorem dX5_plainOf_4 : decode cX5_plainOf 4 = .ok (.istore 6, 2) := by decide +kernel
theorem dX5_plainOf_6 : decode cX5_plainOf 6 = .ok (.iload 6, 2) := by decide +kernel
theorem dX5_plainOf_8 : decode cX5_plainOf 8 = .ok (.iload_n 3, 1) := by decide +kernel
theorem dX5_plainOf_9 : decode cX5_plainOf 9 = .ok (.if_icmp .ge 91, 3) := by decide +kernel
theorem dX5_plainOf_12 : decode cX5_plainOf 12 = .ok (.bipush 40, 2) := by decide +kernel
theorem dX5_plainOf_14 : decode cX5_plainOf 14 = .ok (.iload_n 1, 1) := by decide +kernel
theorem dX5_plainOf_15 : decode cX5_plainOf 15 = .ok (.imul, 1) := by decide +kernel
theorem dX5_plainOf_16 : decode cX5_plainOf 16 = .ok (.iload_n 2, 1) := by decide +kernel
theorem dX5_plainOf_17 : decode cX5_plainOf 17 = .ok (.iadd, 1) := by decide +kernel
theorem dX5_plainOf_18 : decode cX5_plainOf 18 = .ok (.iload 6, 2) := by decide +kernel
theorem dX5_plainOf_20 : decode cX5_plainOf 20 = .ok (.iadd, 1) := by decide +kernel
theorem dX5_plainOf_21 : decode cX5_plainOf 21 = .ok (.istore 7, 2) := by decide +kernel
theorem dX5_plainOf_23 : decode cX5_plainOf 23 = .ok (.aload_n 0, 1) := by decide +kernel
theorem dX5_plainOf_24 : decode cX5_plainOf 24 = .ok (.iload_n 1, 1) := by decide +kernel
theorem dX5_plainOf_25 : decode cX5_plainOf 25 = .ok (.iload 7, 2) := by decide +kernel
theorem dX5_plainOf_27 : decode cX5_plainOf 27 = .ok (.invokevirtual 179, 3) := by decide +kernel
theorem dX5_plainOf_30 : decode cX5_plainOf 30 = .ok (.istore 8, 2) := by decide +kernel
theorem dX5_plainOf_32 : decode cX5_plainOf 32 = .ok (.iload 8, 2) := by decide +kernel
theorem dX5_plainOf_34 : decode cX5_plainOf 34 = .ok (.iconst 1, 1) := by decide +kernel
theorem dX5_plainOf_35 : decode cX5_plainOf 35 = .ok (.if_icmp .ne 12, 3) := by decide +kernel
theorem dX5_plainOf_38 : decode cX5_plainOf 38 = .ok (.dload 4, 2) := by decide +kernel
theorem dX5_plainOf_40 : decode cX5_plainOf 40 = .ok (.ldc2_w 124, 3) := by decide +kernel
theorem dX5_plainOf_43 : decode cX5_plainOf 43 = .ok (.dcmp .l, 1) := by decide +kernel
theorem dX5_plainOf_44 : decode cX5_plainOf 44 = .ok (.ifCond .eq 18, 3) := by decide +kernel
theorem dX5_plainOf_47 : decode cX5_plainOf 47 = .ok (.iload 8, 2) := by decide +kernel
theorem dX5_plainOf_49 : decode cX5_plainOf 49 = .ok (.iconst 2, 1) := by decide +kernel
theorem dX5_plainOf_50 : decode cX5_plainOf 50 = .ok (.if_icmp .ne 16, 3) := by decide +kernel
theorem dX5_plainOf_53 : decode cX5_plainOf 53 = .ok (.dload 4, 2) := by decide +kernel
theorem dX5_plainOf_55 : decode cX5_plainOf 55 = .ok (.ldc2_w 122, 3) := by decide +kernel
theorem dX5_plainOf_58 : decode cX5_plainOf 58 = .ok (.dcmp .l, 1) := by decide +kernel
theorem dX5_plainOf_59 : decode cX5_plainOf 59 = .ok (.ifCond .ne 7, 3) := by decide +kernel
theorem dX5_plainOf_62 : decode cX5_plainOf 62 = .ok (.iconst 1, 1) := by decide +kernel
theorem dX5_plainOf_63 : decode cX5_plainOf 63 = .ok (.goto 4, 3) := by decide +kernel
theorem dX5_plainOf_66 : decode cX5_plainOf 66 = .ok (.iconst 0, 1) := by decide +kernel
theorem dX5_plainOf_67 : decode cX5_plainOf 67 = .ok (.istore 9, 2) := by decide +kernel
theorem dX5_plainOf_69 : decode cX5_plainOf 69 = .ok (.iload 8, 2) := by decide +kernel
theorem dX5_plainOf_71 : decode cX5_plainOf 71 = .ok (.iconst 3, 1) := by decide +kernel
theorem dX5_plainOf_72 : decode cX5_plainOf 72 = .ok (.if_icmp .eq 8, 3) := by decide +kernel
theorem dX5_plainOf_75 : decode cX5_plainOf 75 = .ok (.iload 9, 2) := by decide +kernel
theorem dX5_plainOf_77 : decode cX5_plainOf 77 = .ok (.ifCond .eq 5, 3) := by decide +kernel
theorem dX5_plainOf_80 : decode cX5_plainOf 80 = .ok (.dconst 0, 1) := by decide +kernel
theorem dX5_plainOf_81 : decode cX5_plainOf 81 = .ok (.dreturn, 1) := by decide +kernel
theorem dX5_plainOf_82 : decode cX5_plainOf 82 = .ok (.dload 4, 2) := by decide +kernel
theorem dX5_plainOf_84 : decode cX5_plainOf 84 = .ok (.aload_n 0, 1) := by decide +kernel
theorem dX5_plainOf_85 : decode cX5_plainOf 85 = .ok (.iload_n 1, 1) := by decide +kernel
theorem dX5_plainOf_86 : decode cX5_plainOf 86 = .ok (.iload 7, 2) := by decide +kernel
theorem dX5_plainOf_88 : decode cX5_plainOf 88 = .ok (.invokevirtual 126, 3) := by decide +kernel
theorem dX5_plainOf_91 : decode cX5_plainOf 91 = .ok (.dadd, 1) := by decide +kernel
theorem dX5_plainOf_92 : decode cX5_plainOf 92 = .ok (.dstore 4, 2) := by decide +kernel
theorem dX5_plainOf_94 : decode cX5_plainOf 94 = .ok (.iinc 6 1, 3) := by decide +kernel
theorem dX5_plainOf_97 : decode cX5_plainOf 97 = .ok (.goto (-91), 3) := by decide +kernel
theorem dX5_plainOf_100 : decode cX5_plainOf 100 = .ok (.dload 4, 2) := by decide +kernel
theorem dX5_plainOf_102 : decode cX5_plainOf 102 = .ok (.dreturn, 1) := by decide +kernel
theorem dX5_error_0 : decode cX5_error 0 = .ok (.aload_n 0, 1) := by decide +kernel
theorem dX5_error_1 : decode cX5_error 1 = .ok (.iconst 0, 1) := by decide +kernel
theorem dX5_error_2 : decode cX5_error 2 = .ok (.putfield 54, 3) := by decide +kernel
theorem dX5_error_5 : decode cX5_error 5 = .ok (.iload_n 1, 1) := by decide +kernel
theorem dX5_error_6 : decode cX5_error 6 = .ok (.invokestatic 136, 3) := by decide +kernel
theorem dX5_error_9 : decode cX5_error 9 = .ok (.ifCond .eq 23, 3) := by decide +kernel
theorem dX5_error_12 : decode cX5_error 12 = .ok (.iload_n 2, 1) := by decide +kernel
theorem dX5_error_13 : decode cX5_error 13 = .ok (.invokestatic 64, 3) := by decide +kernel
theorem dX5_error_16 : decode cX5_error 16 = .ok (.ifCond .eq 16, 3) := by decide +kernel
theorem dX5_error_19 : decode cX5_error 19 = .ok (.iload 4, 2) := by decide +kernel
theorem dX5_error_21 : decode cX5_error 21 = .ok (.i2l, 1) := by decide +kernel
theorem dX5_error_22 : decode cX5_error 22 = .ok (.lconst 0, 1) := by decide +kernel
theorem dX5_error_23 : decode cX5_error 23 = .ok (.ldc2_w 208, 3) := by decide +kernel
theorem dX5_error_26 : decode cX5_error 26 = .ok (.invokestatic 60, 3) := by decide +kernel
theorem dX5_error_29 : decode cX5_error 29 = .ok (.ifCond .ne 6, 3) := by decide +kernel
theorem dX5_error_32 : decode cX5_error 32 = .ok (.bipush (-3), 2) := by decide +kernel
theorem dX5_error_34 : decode cX5_error 34 = .ok (.ireturn, 1) := by decide +kernel
theorem dX5_error_35 : decode cX5_error 35 = .ok (.aload_n 0, 1) := by decide +kernel
theorem dX5_error_36 : decode cX5_error 36 = .ok (.getfield 27, 3) := by decide +kernel
theorem dX5_error_39 : decode cX5_error 39 = .ok (.iload_n 1, 1) := by decide +kernel
theorem dX5_error_40 : decode cX5_error 40 = .ok (.iaload, 1) := by decide +kernel
theorem dX5_error_41 : decode cX5_error 41 = .ok (.iconst (-1), 1) := by decide +kernel
theorem dX5_error_42 : decode cX5_error 42 = .ok (.if_icmp .eq 11, 3) := by decide +kernel
theorem dX5_error_45 : decode cX5_error 45 = .ok (.aload_n 0, 1) := by decide +kernel
theorem dX5_error_46 : decode cX5_error 46 = .ok (.iload_n 2, 1) := by decide +kernel
theorem dX5_error_47 : decode cX5_error 47 = .ok (.invokevirtual 70, 3) := by decide +kernel
theorem dX5_error_50 : decode cX5_error 50 = .ok (.ifCond .ne 6, 3) := by decide +kernel
theorem dX5_error_53 : decode cX5_error 53 = .ok (.bipush (-11), 2) := by decide +kernel
theorem dX5_error_55 : decode cX5_error 55 = .ok (.ireturn, 1) := by decide +kernel
theorem dX5_error_56 : decode cX5_error 56 = .ok (.aload_n 0, 1) := by decide +kernel
theorem dX5_error_57 : decode cX5_error 57 = .ok (.getfield 27, 3) := by decide +kernel
theorem dX5_error_60 : decode cX5_error 60 = .ok (.iload_n 1, 1) := by decide +kernel
theorem dX5_error_61 : decode cX5_error 61 = .ok (.iaload, 1) := by decide +kernel
theorem dX5_error_62 : decode cX5_error 62 = .ok (.ifCond .eq 6, 3) := by decide +kernel
theorem dX5_error_65 : decode cX5_error 65 = .ok (.bipush (-12), 2) := by decide +kernel
theorem dX5_error_67 : decode cX5_error 67 = .ok (.ireturn, 1) := by decide +kernel
theorem dX5_error_68 : decode cX5_error 68 = .ok (.aload_n 0, 1) := by decide +kernel
theorem dX5_error_69 : decode cX5_error 69 = .ok (.iload_n 2, 1) := by decide +kernel
theorem dX5_error_70 : decode cX5_error 70 = .ok (.iload_n 3, 1) := by decide +kernel
theorem dX5_error_71 : decode cX5_error 71 = .ok (.iload 4, 2) := by decide +kernel
theorem dX5_error_73 : decode cX5_error 73 = .ok (.invokevirtual 106, 3) := by decide +kernel
theorem dX5_error_76 : decode cX5_error 76 = .ok (.ifCond .ne 6, 3) := by decide +kernel
theorem dX5_error_79 : decode cX5_error 79 = .ok (.bipush (-13), 2) := by decide +kernel
theorem dX5_error_81 : decode cX5_error 81 = .ok (.ireturn, 1) := by decide +kernel
theorem dX5_error_82 : decode cX5_error 82 = .ok (.aload_n 0, 1) := by decide +kernel
theorem dX5_error_83 : decode cX5_error 83 = .ok (.iload_n 1, 1) := by decide +kernel
theorem dX5_error_84 : decode cX5_error 84 = .ok (.invokevirtual 141, 3) := by decide +kernel
theorem dX5_error_87 : decode cX5_error 87 = .ok (.aload_n 0, 1) := by decide +kernel
theorem dX5_error_88 : decode cX5_error 88 = .ok (.iload_n 1, 1) := by decide +kernel
theorem dX5_error_89 : decode cX5_error 89 = .ok (.invokevirtual 145, 3) := by decide +kernel
theorem dX5_error_92 : decode cX5_error 92 = .ok (.iconst 0, 1) := by decide +kernel
theorem dX5_error_93 : decode cX5_error 93 = .ok (.istore 5, 2) := by decide +kernel
theorem dX5_error_95 : decode cX5_error 95 = .ok (.iload 5, 2) := by decide +kernel
theorem dX5_error_97 : decode cX5_error 97 = .ok (.iload 4, 2) := by decide +kernel
theorem dX5_error_99 : decode cX5_error 99 = .ok (.if_icmp .ge 25, 3) := by decide +kernel
theorem dX5_error_102 : decode cX5_error 102 = .ok (.aload_n 0, 1) := by decide +kernel
theorem dX5_error_103 : decode cX5_error 103 = .ok (.iload_n 1, 1) := by decide +kernel
theorem dX5_error_104 : decode cX5_error 104 = .ok (.iload_n 2, 1) := by decide +kernel
theorem dX5_error_105 : decode cX5_error 105 = .ok (.bipush 40, 2) := by decide +kernel
theorem dX5_error_107 : decode cX5_error 107 = .ok (.iload_n 2, 1) := by decide +kernel
theorem dX5_error_108 : decode cX5_error 108 = .ok (.imul, 1) := by decide +kernel
theorem dX5_error_109 : decode cX5_error 109 = .ok (.iload_n 3, 1) := by decide +kernel
theorem dX5_error_110 : decode cX5_error 110 = .ok (.iadd, 1) := by decide +kernel
theorem dX5_error_111 : decode cX5_error 111 = .ok (.iload 5, 2) := by decide +kernel
theorem dX5_error_113 : decode cX5_error 113 = .ok (.iadd, 1) := by decide +kernel
theorem dX5_error_114 : decode cX5_error 114 = .ok (.iconst 0, 1) := by decide +kernel
theorem dX5_error_115 : decode cX5_error 115 = .ok (.invokevirtual 218, 3) := by decide +kernel
theorem dX5_error_118 : decode cX5_error 118 = .ok (.iinc 5 1, 3) := by decide +kernel
theorem dX5_error_121 : decode cX5_error 121 = .ok (.goto (-26), 3) := by decide +kernel
theorem dX5_error_124 : decode cX5_error 124 = .ok (.aload_n 0, 1) := by decide +kernel
theorem dX5_error_125 : decode cX5_error 125 = .ok (.iload_n 2, 1) := by decide +kernel
theorem dX5_error_126 : decode cX5_error 126 = .ok (.iload_n 3, 1) := by decide +kernel
theorem dX5_error_127 : decode cX5_error 127 = .ok (.iload 4, 2) := by decide +kernel
theorem dX5_error_129 : decode cX5_error 129 = .ok (.invokevirtual 225, 3) := by decide +kernel
theorem dX5_error_132 : decode cX5_error 132 = .ok (.dstore 5, 2) := by decide +kernel
theorem dX5_error_134 : decode cX5_error 134 = .ok (.dload 5, 2) := by decide +kernel
theorem dX5_error_136 : decode cX5_error 136 = .ok (.ldc2_w 122, 3) := by decide +kernel
theorem dX5_error_139 : decode cX5_error 139 = .ok (.dcmp .l, 1) := by decide +kernel
theorem dX5_error_140 : decode cX5_error 140 = .ok (.ifCond .eq 12, 3) := by decide +kernel
theorem dX5_error_143 : decode cX5_error 143 = .ok (.dload 5, 2) := by decide +kernel
theorem dX5_error_145 : decode cX5_error 145 = .ok (.ldc2_w 124, 3) := by decide +kernel
theorem dX5_error_148 : decode cX5_error 148 = .ok (.dcmp .l, 1) := by decide +kernel
theorem dX5_error_149 : decode cX5_error 149 = .ok (.ifCond .ne 24, 3) := by decide +kernel
theorem dX5_error_152 : decode cX5_error 152 = .ok (.aload_n 0, 1) := by decide +kernel
theorem dX5_error_153 : decode cX5_error 153 = .ok (.iload_n 1, 1) := by decide +kernel
theorem dX5_error_154 : decode cX5_error 154 = .ok (.dload 5, 2) := by decide +kernel
theorem dX5_error_156 : decode cX5_error 156 = .ok (.dconst 0, 1) := by decide +kernel
theorem dX5_error_157 : decode cX5_error 157 = .ok (.dcmp .g, 1) := by decide +kernel
theorem dX5_error_158 : decode cX5_error 158 = .ok (.ifCond .ge 7, 3) := by decide +kernel
theorem dX5_error_161 : decode cX5_error 161 = .ok (.iconst 1, 1) := by decide +kernel
theorem dX5_error_162 : decode cX5_error 162 = .ok (.goto 4, 3) := by decide +kernel
theorem dX5_error_165 : decode cX5_error 165 = .ok (.iconst 0, 1) := by decide +kernel
theorem dX5_error_166 : decode cX5_error 166 = .ok (.iconst 1, 1) := by decide +kernel
theorem dX5_error_167 : decode cX5_error 167 = .ok (.invokevirtual 183, 3) := by decide +kernel
theorem dX5_error_170 : decode cX5_error 170 = .ok (.goto 35, 3) := by decide +kernel
theorem dX5_error_173 : decode cX5_error 173 = .ok (.aload_n 0, 1) := by decide +kernel
theorem dX5_error_174 : decode cX5_error 174 = .ok (.dload 5, 2) := by decide +kernel
theorem dX5_error_176 : decode cX5_error 176 = .ok (.invokevirtual 169, 3) := by decide +kernel
theorem dX5_error_179 : decode cX5_error 179 = .ok (.aload_n 0, 1) := by decide +kernel
theorem dX5_error_180 : decode cX5_error 180 = .ok (.iload_n 1, 1) := by decide +kernel
theorem dX5_error_181 : decode cX5_error 181 = .ok (.lconst 0, 1) := by decide +kernel
theorem dX5_error_182 : decode cX5_error 182 = .ok (.aload_n 0, 1) := by decide +kernel
theorem dX5_error_183 : decode cX5_error 183 = .ok (.getfield 165, 3) := by decide +kernel
theorem dX5_error_186 : decode cX5_error 186 = .ok (.aload_n 0, 1) := by decide +kernel
theorem dX5_error_187 : decode cX5_error 187 = .ok (.getfield 158, 3) := by decide +kernel
theorem dX5_error_190 : decode cX5_error 190 = .ok (.aload_n 0, 1) := by decide +kernel
theorem dX5_error_191 : decode cX5_error 191 = .ok (.getfield 161, 3) := by decide +kernel
theorem dX5_error_194 : decode cX5_error 194 = .ok (.ifCond .ne 7, 3) := by decide +kernel
theorem dX5_error_197 : decode cX5_error 197 = .ok (.iconst 1, 1) := by decide +kernel
theorem dX5_error_198 : decode cX5_error 198 = .ok (.goto 4, 3) := by decide +kernel
theorem dX5_error_201 : decode cX5_error 201 = .ok (.iconst 0, 1) := by decide +kernel
theorem dX5_error_202 : decode cX5_error 202 = .ok (.invokevirtual 190, 3) := by decide +kernel
theorem dX5_error_205 : decode cX5_error 205 = .ok (.aload_n 0, 1) := by decide +kernel
theorem dX5_error_206 : decode cX5_error 206 = .ok (.dup, 1) := by decide +kernel
theorem dX5_error_207 : decode cX5_error 207 = .ok (.getfield 222, 3) := by decide +kernel
theorem dX5_error_210 : decode cX5_error 210 = .ok (.iload 4, 2) := by decide +kernel
theorem dX5_error_212 : decode cX5_error 212 = .ok (.iadd, 1) := by decide +kernel
theorem dX5_error_213 : decode cX5_error 213 = .ok (.putfield 222, 3) := by decide +kernel
theorem dX5_error_216 : decode cX5_error 216 = .ok (.iload 4, 2) := by decide +kernel
theorem dX5_error_218 : decode cX5_error 218 = .ok (.ireturn, 1) := by decide +kernel
theorem dX5_plain_0 : decode cX5_plain 0 = .ok (.aload_n 0, 1) := by decide +kernel
theorem dX5_plain_1 : decode cX5_plain 1 = .ok (.iconst 0, 1) := by decide +kernel
theorem dX5_plain_2 : decode cX5_plain 2 = .ok (.putfield 54, 3) := by decide +kernel
theorem dX5_plain_5 : decode cX5_plain 5 = .ok (.iload_n 1, 1) := by decide +kernel
theorem dX5_plain_6 : decode cX5_plain 6 = .ok (.invokestatic 64, 3) := by decide +kernel
theorem dX5_plain_9 : decode cX5_plain 9 = .ok (.ifCond .eq 33, 3) := by decide +kernel
theorem dX5_plain_12 : decode cX5_plain 12 = .ok (.iload_n 3, 1) := by decide +kernel
theorem dX5_plain_13 : decode cX5_plain 13 = .ok (.i2l, 1) := by decide +kernel
theorem dX5_plain_14 : decode cX5_plain 14 = .ok (.lconst 0, 1) := by decide +kernel
theorem dX5_plain_15 : decode cX5_plain 15 = .ok (.ldc2_w 208, 3) := by decide +kernel
theorem dX5_plain_18 : decode cX5_plain 18 = .ok (.invokestatic 60, 3) := by decide +kernel
theorem dX5_plain_21 : decode cX5_plain 21 = .ok (.ifCond .eq 21, 3) := by decide +kernel
theorem dX5_plain_24 : decode cX5_plain 24 = .ok (.aload_n 0, 1) := by decide +kernel
theorem dX5_plain_25 : decode cX5_plain 25 = .ok (.iload_n 1, 1) := by decide +kernel
theorem dX5_plain_26 : decode cX5_plain 26 = .ok (.invokevirtual 70, 3) := by decide +kernel
theorem dX5_plain_29 : decode cX5_plain 29 = .ok (.ifCond .eq 13, 3) := by decide +kernel
theorem dX5_plain_32 : decode cX5_plain 32 = .ok (.aload_n 0, 1) := by decide +kernel
theorem dX5_plain_33 : decode cX5_plain 33 = .ok (.iload_n 1, 1) := by decide +kernel
theorem dX5_plain_34 : decode cX5_plain 34 = .ok (.iload_n 2, 1) := by decide +kernel
theorem dX5_plain_35 : decode cX5_plain 35 = .ok (.iload_n 3, 1) := by decide +kernel
theorem dX5_plain_36 : decode cX5_plain 36 = .ok (.invokevirtual 106, 3) := by decide +kernel
theorem dX5_plain_39 : decode cX5_plain 39 = .ok (.ifCond .ne 5, 3) := by decide +kernel
theorem dX5_plain_42 : decode cX5_plain 42 = .ok (.dconst 0, 1) := by decide +kernel
theorem dX5_plain_43 : decode cX5_plain 43 = .ok (.dreturn, 1) := by decide +kernel
theorem dX5_plain_44 : decode cX5_plain 44 = .ok (.aload_n 0, 1) := by decide +kernel
theorem dX5_plain_45 : decode cX5_plain 45 = .ok (.iload_n 1, 1) := by decide +kernel
theorem dX5_plain_46 : decode cX5_plain 46 = .ok (.iload_n 2, 1) := by decide +kernel
theorem dX5_plain_47 : decode cX5_plain 47 = .ok (.iload_n 3, 1) := by decide +kernel
theorem dX5_plain_48 : decode cX5_plain 48 = .ok (.invokevirtual 225, 3) := by decide +kernel
theorem dX5_plain_51 : decode cX5_plain 51 = .ok (.dreturn, 1) := by decide +kernel
theorem dX5_sortOf__0 : decode cX5_sortOf_ 0 = .ok (.aload_n 0, 1) := by decide +kernel
theorem dX5_sortOf__1 : decode cX5_sortOf_ 1 = .ok (.getfield 33, 3) := by decide +kernel
theorem dX5_sortOf__4 : decode cX5_sortOf_ 4 = .ok (.iconst 3, 1) := by decide +kernel
theorem dX5_sortOf__5 : decode cX5_sortOf_ 5 = .ok (.iload_n 1, 1) := by decide +kernel
theorem dX5_sortOf__6 : decode cX5_sortOf_ 6 = .ok (.imul, 1) := by decide +kernel
theorem dX5_sortOf__7 : decode cX5_sortOf_ 7 = .ok (.iconst 1, 1) := by decide +kernel
theorem dX5_sortOf__8 : decode cX5_sortOf_ 8 = .ok (.iadd, 1) := by decide +kernel
theorem dX5_sortOf__9 : decode cX5_sortOf_ 9 = .ok (.iaload, 1) := by decide +kernel
theorem dX5_sortOf__10 : decode cX5_sortOf_ 10 = .ok (.ifCond .le 7, 3) := by decide +kernel
theorem dX5_sortOf__13 : decode cX5_sortOf_ 13 = .ok (.iconst 1, 1) := by decide +kernel
theorem dX5_sortOf__14 : decode cX5_sortOf_ 14 = .ok (.goto 4, 3) := by decide +kernel
theorem dX5_sortOf__17 : decode cX5_sortOf_ 17 = .ok (.iconst 0, 1) := by decide +kernel
theorem dX5_sortOf__18 : decode cX5_sortOf_ 18 = .ok (.istore_n 2, 1) := by decide +kernel
theorem dX5_sortOf__19 : decode cX5_sortOf_ 19 = .ok (.aload_n 0, 1) := by decide +kernel
theorem dX5_sortOf__20 : decode cX5_sortOf_ 20 = .ok (.getfield 33, 3) := by decide +kernel
theorem dX5_sortOf__23 : decode cX5_sortOf_ 23 = .ok (.iconst 3, 1) := by decide +kernel
theorem dX5_sortOf__24 : decode cX5_sortOf_ 24 = .ok (.iload_n 1, 1) := by decide +kernel
theorem dX5_sortOf__25 : decode cX5_sortOf_ 25 = .ok (.imul, 1) := by decide +kernel
theorem dX5_sortOf__26 : decode cX5_sortOf_ 26 = .ok (.iconst 2, 1) := by decide +kernel
theorem dX5_sortOf__27 : decode cX5_sortOf_ 27 = .ok (.iadd, 1) := by decide +kernel
theorem dX5_sortOf__28 : decode cX5_sortOf_ 28 = .ok (.iaload, 1) := by decide +kernel
theorem dX5_sortOf__29 : decode cX5_sortOf_ 29 = .ok (.ifCond .le 7, 3) := by decide +kernel
theorem dX5_sortOf__32 : decode cX5_sortOf_ 32 = .ok (.iconst 1, 1) := by decide +kernel
theorem dX5_sortOf__33 : decode cX5_sortOf_ 33 = .ok (.goto 4, 3) := by decide +kernel
theorem dX5_sortOf__36 : decode cX5_sortOf_ 36 = .ok (.iconst 0, 1) := by decide +kernel
theorem dX5_sortOf__37 : decode cX5_sortOf_ 37 = .ok (.istore_n 3, 1) := by decide +kernel
theorem dX5_sortOf__38 : decode cX5_sortOf_ 38 = .ok (.aload_n 0, 1) := by decide +kernel
theorem dX5_sortOf__39 : decode cX5_sortOf_ 39 = .ok (.getfield 33, 3) := by decide +kernel
theorem dX5_sortOf__42 : decode cX5_sortOf_ 42 = .ok (.iconst 3, 1) := by decide +kernel
theorem dX5_sortOf__43 : decode cX5_sortOf_ 43 = .ok (.iload_n 1, 1) := by decide +kernel
theorem dX5_sortOf__44 : decode cX5_sortOf_ 44 = .ok (.imul, 1) := by decide +kernel
theorem dX5_sortOf__45 : decode cX5_sortOf_ 45 = .ok (.iaload, 1) := by decide +kernel
theorem dX5_sortOf__46 : decode cX5_sortOf_ 46 = .ok (.ifCond .gt 11, 3) := by decide +kernel
theorem dX5_sortOf__49 : decode cX5_sortOf_ 49 = .ok (.iload_n 2, 1) := by decide +kernel
theorem dX5_sortOf__50 : decode cX5_sortOf_ 50 = .ok (.ifCond .eq 11, 3) := by decide +kernel
theorem dX5_sortOf__53 : decode cX5_sortOf_ 53 = .ok (.iload_n 3, 1) := by decide +kernel
theorem dX5_sortOf__54 : decode cX5_sortOf_ 54 = .ok (.ifCond .eq 7, 3) := by decide +kernel
theorem dX5_sortOf__57 : decode cX5_sortOf_ 57 = .ok (.iconst 3, 1) := by decide +kernel
theorem dX5_sortOf__58 : decode cX5_sortOf_ 58 = .ok (.goto 20, 3) := by decide +kernel
theorem dX5_sortOf__61 : decode cX5_sortOf_ 61 = .ok (.iload_n 2, 1) := by decide +kernel
theorem dX5_sortOf__62 : decode cX5_sortOf_ 62 = .ok (.ifCond .eq 7, 3) := by decide +kernel
theorem dX5_sortOf__65 : decode cX5_sortOf_ 65 = .ok (.iconst 1, 1) := by decide +kernel
theorem dX5_sortOf__66 : decode cX5_sortOf_ 66 = .ok (.goto 12, 3) := by decide +kernel
theorem dX5_sortOf__69 : decode cX5_sortOf_ 69 = .ok (.iload_n 3, 1) := by decide +kernel
theorem dX5_sortOf__70 : decode cX5_sortOf_ 70 = .ok (.ifCond .eq 7, 3) := by decide +kernel
theorem dX5_sortOf__73 : decode cX5_sortOf_ 73 = .ok (.iconst 2, 1) := by decide +kernel
theorem dX5_sortOf__74 : decode cX5_sortOf_ 74 = .ok (.goto 4, 3) := by decide +kernel
theorem dX5_sortOf__77 : decode cX5_sortOf_ 77 = .ok (.iconst 0, 1) := by decide +kernel
theorem dX5_sortOf__78 : decode cX5_sortOf_ 78 = .ok (.ireturn, 1) := by decide +kernel
theorem dX5_sort_0 : decode cX5_sort 0 = .ok (.aload_n 0, 1) := by decide +kernel
theorem dX5_sort_1 : decode cX5_sort 1 = .ok (.iconst 0, 1) := by decide +kernel
theorem dX5_sort_2 : decode cX5_sort 2 = .ok (.putfield 54, 3) := by decide +kernel
theorem dX5_sort_5 : decode cX5_sort 5 = .ok (.iload_n 1, 1) := by decide +kernel
theorem dX5_sort_6 : decode cX5_sort 6 = .ok (.invokestatic 136, 3) := by decide +kernel
theorem dX5_sort_9 : decode cX5_sort 9 = .ok (.ifCond .ne 8, 3) := by decide +kernel
theorem dX5_sort_12 : decode cX5_sort 12 = .ok (.bipush (-3), 2) := by decide +kernel
theorem dX5_sort_14 : decode cX5_sort 14 = .ok (.goto 23, 3) := by decide +kernel
theorem dX5_sort_17 : decode cX5_sort 17 = .ok (.aload_n 0, 1) := by decide +kernel
theorem dX5_sort_18 : decode cX5_sort 18 = .ok (.getfield 27, 3) := by decide +kernel
theorem dX5_sort_21 : decode cX5_sort 21 = .ok (.iload_n 1, 1) := by decide +kernel
theorem dX5_sort_22 : decode cX5_sort 22 = .ok (.iaload, 1) := by decide +kernel
theorem dX5_sort_23 : decode cX5_sort 23 = .ok (.iconst (-1), 1) := by decide +kernel
theorem dX5_sort_24 : decode cX5_sort 24 = .ok (.if_icmp .ne 8, 3) := by decide +kernel
theorem dX5_sort_27 : decode cX5_sort 27 = .ok (.bipush (-11), 2) := by decide +kernel
theorem dX5_sort_29 : decode cX5_sort 29 = .ok (.goto 8, 3) := by decide +kernel
theorem dX5_sort_32 : decode cX5_sort 32 = .ok (.aload_n 0, 1) := by decide +kernel
theorem dX5_sort_33 : decode cX5_sort 33 = .ok (.iload_n 1, 1) := by decide +kernel
theorem dX5_sort_34 : decode cX5_sort 34 = .ok (.invokevirtual 229, 3) := by decide +kernel
theorem dX5_sort_37 : decode cX5_sort 37 = .ok (.ireturn, 1) := by decide +kernel
theorem dX5_seen_0 : decode cX5_seen 0 = .ok (.aload_n 0, 1) := by decide +kernel
theorem dX5_seen_1 : decode cX5_seen 1 = .ok (.iconst 0, 1) := by decide +kernel
theorem dX5_seen_2 : decode cX5_seen 2 = .ok (.putfield 54, 3) := by decide +kernel
theorem dX5_seen_5 : decode cX5_seen 5 = .ok (.iload_n 1, 1) := by decide +kernel
theorem dX5_seen_6 : decode cX5_seen 6 = .ok (.invokestatic 136, 3) := by decide +kernel
theorem dX5_seen_9 : decode cX5_seen 9 = .ok (.ifCond .eq 15, 3) := by decide +kernel
theorem dX5_seen_12 : decode cX5_seen 12 = .ok (.iload_n 2, 1) := by decide +kernel
theorem dX5_seen_13 : decode cX5_seen 13 = .ok (.i2l, 1) := by decide +kernel
theorem dX5_seen_14 : decode cX5_seen 14 = .ok (.lconst 0, 1) := by decide +kernel
theorem dX5_seen_15 : decode cX5_seen 15 = .ok (.ldc2_w 139, 3) := by decide +kernel
theorem dX5_seen_18 : decode cX5_seen 18 = .ok (.invokestatic 60, 3) := by decide +kernel
theorem dX5_seen_21 : decode cX5_seen 21 = .ok (.ifCond .ne 6, 3) := by decide +kernel
theorem dX5_seen_24 : decode cX5_seen 24 = .ok (.bipush (-3), 2) := by decide +kernel
theorem dX5_seen_26 : decode cX5_seen 26 = .ok (.ireturn, 1) := by decide +kernel
theorem dX5_seen_27 : decode cX5_seen 27 = .ok (.aload_n 0, 1) := by decide +kernel
theorem dX5_seen_28 : decode cX5_seen 28 = .ok (.getfield 27, 3) := by decide +kernel
theorem dX5_seen_31 : decode cX5_seen 31 = .ok (.iload_n 1, 1) := by decide +kernel
theorem dX5_seen_32 : decode cX5_seen 32 = .ok (.iaload, 1) := by decide +kernel
theorem dX5_seen_33 : decode cX5_seen 33 = .ok (.iconst (-1), 1) := by decide +kernel
theorem dX5_seen_34 : decode cX5_seen 34 = .ok (.if_icmp .ne 8, 3) := by decide +kernel
theorem dX5_seen_37 : decode cX5_seen 37 = .ok (.bipush (-11), 2) := by decide +kernel
theorem dX5_seen_39 : decode cX5_seen 39 = .ok (.goto 13, 3) := by decide +kernel
theorem dX5_seen_42 : decode cX5_seen 42 = .ok (.aload_n 0, 1) := by decide +kernel
theorem dX5_seen_43 : decode cX5_seen 43 = .ok (.getfield 33, 3) := by decide +kernel
theorem dX5_seen_46 : decode cX5_seen 46 = .ok (.iconst 3, 1) := by decide +kernel
theorem dX5_seen_47 : decode cX5_seen 47 = .ok (.iload_n 1, 1) := by decide +kernel
theorem dX5_seen_48 : decode cX5_seen 48 = .ok (.imul, 1) := by decide +kernel
theorem dX5_seen_49 : decode cX5_seen 49 = .ok (.iload_n 2, 1) := by decide +kernel
theorem dX5_seen_50 : decode cX5_seen 50 = .ok (.iadd, 1) := by decide +kernel
theorem dX5_seen_51 : decode cX5_seen 51 = .ok (.iaload, 1) := by decide +kernel
theorem dX5_seen_52 : decode cX5_seen 52 = .ok (.ireturn, 1) := by decide +kernel
theorem dX5_take_0 : decode cX5_take 0 = .ok (.aload_n 0, 1) := by decide +kernel
theorem dX5_take_1 : decode cX5_take 1 = .ok (.aload_n 0, 1) := by decide +kernel
theorem dX5_take_2 : decode cX5_take 2 = .ok (.getfield 30, 3) := by decide +kernel
theorem dX5_take_5 : decode cX5_take 5 = .ok (.sipush 152, 3) := by decide +kernel
theorem dX5_take_8 : decode cX5_take 8 = .ok (.iload_n 1, 1) := by decide +kernel
theorem dX5_take_9 : decode cX5_take 9 = .ok (.imul, 1) := by decide +kernel
theorem dX5_take_10 : decode cX5_take 10 = .ok (.sipush 152, 3) := by decide +kernel
theorem dX5_take_13 : decode cX5_take 13 = .ok (.iadd, 1) := by decide +kernel
theorem dX5_take_14 : decode cX5_take 14 = .ok (.iconst 1, 1) := by decide +kernel
theorem dX5_take_15 : decode cX5_take 15 = .ok (.isub, 1) := by decide +kernel
theorem dX5_take_16 : decode cX5_take 16 = .ok (.iaload, 1) := by decide +kernel
theorem dX5_take_17 : decode cX5_take 17 = .ok (.ifCond .ge 7, 3) := by decide +kernel
theorem dX5_take_20 : decode cX5_take 20 = .ok (.iconst 1, 1) := by decide +kernel
theorem dX5_take_21 : decode cX5_take 21 = .ok (.goto 4, 3) := by decide +kernel
theorem dX5_take_24 : decode cX5_take 24 = .ok (.iconst 0, 1) := by decide +kernel
theorem dX5_take_25 : decode cX5_take 25 = .ok (.putfield 231, 3) := by decide +kernel
theorem dX5_take_28 : decode cX5_take 28 = .ok (.aload_n 0, 1) := by decide +kernel
theorem dX5_take_29 : decode cX5_take 29 = .ok (.iconst 0, 1) := by decide +kernel
theorem dX5_take_30 : decode cX5_take 30 = .ok (.putfield 234, 3) := by decide +kernel
theorem dX5_take_33 : decode cX5_take 33 = .ok (.aload_n 0, 1) := by decide +kernel
theorem dX5_take_34 : decode cX5_take 34 = .ok (.getfield 231, 3) := by decide +kernel
theorem dX5_take_37 : decode cX5_take 37 = .ok (.ifCond .eq 7, 3) := by decide +kernel
theorem dX5_take_40 : decode cX5_take 40 = .ok (.lconst 1, 1) := by decide +kernel
theorem dX5_take_41 : decode cX5_take 41 = .ok (.goto 4, 3) := by decide +kernel
theorem dX5_take_44 : decode cX5_take 44 = .ok (.lconst 0, 1) := by decide +kernel
theorem dX5_take_45 : decode cX5_take 45 = .ok (.lstore_n 2, 1) := by decide +kernel
theorem dX5_take_46 : decode cX5_take 46 = .ok (.iconst 0, 1) := by decide +kernel
theorem dX5_take_47 : decode cX5_take 47 = .ok (.istore 4, 2) := by decide +kernel
theorem dX5_take_49 : decode cX5_take 49 = .ok (.iload 4, 2) := by decide +kernel
theorem dX5_take_51 : decode cX5_take 51 = .ok (.sipush 152, 3) := by decide +kernel
theorem dX5_take_54 : decode cX5_take 54 = .ok (.if_icmp .ge 65, 3) := by decide +kernel
theorem dX5_take_57 : decode cX5_take 57 = .ok (.aload_n 0, 1) := by decide +kernel
theorem dX5_take_58 : decode cX5_take 58 = .ok (.getfield 30, 3) := by decide +kernel
theorem dX5_take_61 : decode cX5_take 61 = .ok (.sipush 152, 3) := by decide +kernel
theorem dX5_take_64 : decode cX5_take 64 = .ok (.iload_n 1, 1) := by decide +kernel
theorem dX5_take_65 : decode cX5_take 65 = .ok (.imul, 1) := by decide +kernel
theorem dX5_take_66 : decode cX5_take 66 = .ok (.iload 4, 2) := by decide +kernel
theorem dX5_take_68 : decode cX5_take 68 = .ok (.iadd, 1) := by decide +kernel
theorem dX5_take_69 : decode cX5_take 69 = .ok (.iaload, 1) := by decide +kernel
theorem dX5_take_70 : decode cX5_take 70 = .ok (.istore 5, 2) := by decide +kernel
theorem dX5_take_72 : decode cX5_take 72 = .ok (.aload_n 0, 1) := by decide +kernel
theorem dX5_take_73 : decode cX5_take 73 = .ok (.getfield 231, 3) := by decide +kernel
theorem dX5_take_76 : decode cX5_take 76 = .ok (.ifCond .eq 10, 3) := by decide +kernel
theorem dX5_take_79 : decode cX5_take 79 = .ok (.iload 5, 2) := by decide +kernel
theorem dX5_take_81 : decode cX5_take 81 = .ok (.iconst (-1), 1) := by decide +kernel
theorem dX5_take_82 : decode cX5_take 82 = .ok (.ixor, 1) := by decide +kernel
theorem dX5_take_83 : decode cX5_take 83 = .ok (.goto 5, 3) := by decide +kernel
theorem dX5_take_86 : decode cX5_take 86 = .ok (.iload 5, 2) := by decide +kernel
theorem dX5_take_88 : decode cX5_take 88 = .ok (.i2l, 1) := by decide +kernel
theorem dX5_take_89 : decode cX5_take 89 = .ok (.ldc2_w 150, 3) := by decide +kernel
theorem dX5_take_92 : decode cX5_take 92 = .ok (.land, 1) := by decide +kernel
theorem dX5_take_93 : decode cX5_take 93 = .ok (.lload_n 2, 1) := by decide +kernel
theorem dX5_take_94 : decode cX5_take 94 = .ok (.ladd, 1) := by decide +kernel
theorem dX5_take_95 : decode cX5_take 95 = .ok (.lstore 6, 2) := by decide +kernel
theorem dX5_take_97 : decode cX5_take 97 = .ok (.aload_n 0, 1) := by decide +kernel
theorem dX5_take_98 : decode cX5_take 98 = .ok (.getfield 48, 3) := by decide +kernel
theorem dX5_take_101 : decode cX5_take 101 = .ok (.iload 4, 2) := by decide +kernel
theorem dX5_take_103 : decode cX5_take 103 = .ok (.lload 6, 2) := by decide +kernel
theorem dX5_take_105 : decode cX5_take 105 = .ok (.l2i, 1) := by decide +kernel
theorem dX5_take_106 : decode cX5_take 106 = .ok (.iastore, 1) := by decide +kernel
theorem dX5_take_107 : decode cX5_take 107 = .ok (.lload 6, 2) := by decide +kernel
theorem dX5_take_109 : decode cX5_take 109 = .ok (.bipush 32, 2) := by decide +kernel
theorem dX5_take_111 : decode cX5_take 111 = .ok (.lushr, 1) := by decide +kernel
theorem dX5_take_112 : decode cX5_take 112 = .ok (.lstore_n 2, 1) := by decide +kernel
theorem dX5_take_113 : decode cX5_take 113 = .ok (.iinc 4 1, 3) := by decide +kernel
theorem dX5_take_116 : decode cX5_take 116 = .ok (.goto (-67), 3) := by decide +kernel
theorem dX5_take_119 : decode cX5_take 119 = .ok (.return_, 1) := by decide +kernel
theorem dX5_highest_0 : decode cX5_highest 0 = .ok (.sipush 4863, 3) := by decide +kernel
theorem dX5_highest_3 : decode cX5_highest 3 = .ok (.istore_n 1, 1) := by decide +kernel
theorem dX5_highest_4 : decode cX5_highest 4 = .ok (.iload_n 1, 1) := by decide +kernel
theorem dX5_highest_5 : decode cX5_highest 5 = .ok (.ifCond .lt 20, 3) := by decide +kernel
theorem dX5_highest_8 : decode cX5_highest 8 = .ok (.aload_n 0, 1) := by decide +kernel
theorem dX5_highest_9 : decode cX5_highest 9 = .ok (.iload_n 1, 1) := by decide +kernel
theorem dX5_highest_10 : decode cX5_highest 10 = .ok (.invokevirtual 237, 3) := by decide +kernel
theorem dX5_highest_13 : decode cX5_highest 13 = .ok (.iconst 1, 1) := by decide +kernel
theorem dX5_highest_14 : decode cX5_highest 14 = .ok (.if_icmp .ne 5, 3) := by decide +kernel
theorem dX5_highest_17 : decode cX5_highest 17 = .ok (.iload_n 1, 1) := by decide +kernel
theorem dX5_highest_18 : decode cX5_highest 18 = .ok (.ireturn, 1) := by decide +kernel
theorem dX5_highest_19 : decode cX5_highest 19 = .ok (.iinc 1 (-1), 3) := by decide +kernel
theorem dX5_highest_22 : decode cX5_highest 22 = .ok (.goto (-18), 3) := by decide +kernel
theorem dX5_highest_25 : decode cX5_highest 25 = .ok (.iconst (-1), 1) := by decide +kernel
theorem dX5_highest_26 : decode cX5_highest 26 = .ok (.ireturn, 1) := by decide +kernel
theorem dX5_bitAt_0 : decode cX5_bitAt 0 = .ok (.iload_n 1, 1) := by decide +kernel
theorem dX5_bitAt_1 : decode cX5_bitAt 1 = .ok (.ifCond .lt 10, 3) := by decide +kernel
theorem dX5_bitAt_4 : decode cX5_bitAt 4 = .ok (.iload_n 1, 1) := by decide +kernel
theorem dX5_bitAt_5 : decode cX5_bitAt 5 = .ok (.sipush 4864, 3) := by decide +kernel
theorem dX5_bitAt_8 : decode cX5_bitAt 8 = .ok (.if_icmp .lt 7, 3) := by decide +kernel
theorem dX5_bitAt_11 : decode cX5_bitAt 11 = .ok (.iconst 0, 1) := by decide +kernel
theorem dX5_bitAt_12 : decode cX5_bitAt 12 = .ok (.goto 19, 3) := by decide +kernel
theorem dX5_bitAt_15 : decode cX5_bitAt 15 = .ok (.aload_n 0, 1) := by decide +kernel
theorem dX5_bitAt_16 : decode cX5_bitAt 16 = .ok (.getfield 48, 3) := by decide +kernel
theorem dX5_bitAt_19 : decode cX5_bitAt 19 = .ok (.iload_n 1, 1) := by decide +kernel
theorem dX5_bitAt_20 : decode cX5_bitAt 20 = .ok (.bipush 32, 2) := by decide +kernel
theorem dX5_bitAt_22 : decode cX5_bitAt 22 = .ok (.idiv, 1) := by decide +kernel
theorem dX5_bitAt_23 : decode cX5_bitAt 23 = .ok (.iaload, 1) := by decide +kernel
theorem dX5_bitAt_24 : decode cX5_bitAt 24 = .ok (.iload_n 1, 1) := by decide +kernel
theorem dX5_bitAt_25 : decode cX5_bitAt 25 = .ok (.bipush 32, 2) := by decide +kernel
theorem dX5_bitAt_27 : decode cX5_bitAt 27 = .ok (.irem, 1) := by decide +kernel
theorem dX5_bitAt_28 : decode cX5_bitAt 28 = .ok (.ishr, 1) := by decide +kernel
theorem dX5_bitAt_29 : decode cX5_bitAt 29 = .ok (.iconst 1, 1) := by decide +kernel
theorem dX5_bitAt_30 : decode cX5_bitAt 30 = .ok (.iand, 1) := by decide +kernel
theorem dX5_bitAt_31 : decode cX5_bitAt 31 = .ok (.ireturn, 1) := by decide +kernel
theorem dX5_rounded_0 : decode cX5_rounded 0 = .ok (.aload_n 0, 1) := by decide +kernel
theorem dX5_rounded_1 : decode cX5_rounded 1 = .ok (.invokevirtual 240, 3) := by decide +kernel
theorem dX5_rounded_4 : decode cX5_rounded 4 = .ok (.istore 5, 2) := by decide +kernel
theorem dX5_rounded_6 : decode cX5_rounded 6 = .ok (.iload 5, 2) := by decide +kernel
theorem dX5_rounded_8 : decode cX5_rounded 8 = .ok (.iconst (-1), 1) := by decide +kernel
theorem dX5_rounded_9 : decode cX5_rounded 9 = .ok (.if_icmp .ne 12, 3) := by decide +kernel
theorem dX5_rounded_12 : decode cX5_rounded 12 = .ok (.aload_n 0, 1) := by decide +kernel
theorem dX5_rounded_13 : decode cX5_rounded 13 = .ok (.getfield 234, 3) := by decide +kernel
theorem dX5_rounded_16 : decode cX5_rounded 16 = .ok (.ifCond .ne 5, 3) := by decide +kernel
theorem dX5_rounded_19 : decode cX5_rounded 19 = .ok (.dconst 0, 1) := by decide +kernel
theorem dX5_rounded_20 : decode cX5_rounded 20 = .ok (.dreturn, 1) := by decide +kernel
theorem dX5_rounded_21 : decode cX5_rounded 21 = .ok (.iload 5, 2) := by decide +kernel
theorem dX5_rounded_23 : decode cX5_rounded 23 = .ok (.iload_n 2, 1) := by decide +kernel
theorem dX5_rounded_24 : decode cX5_rounded 24 = .ok (.isub, 1) := by decide +kernel
theorem dX5_rounded_25 : decode cX5_rounded 25 = .ok (.iconst 1, 1) := by decide +kernel
theorem dX5_rounded_26 : decode cX5_rounded 26 = .ok (.iadd, 1) := by decide +kernel
theorem dX5_rounded_27 : decode cX5_rounded 27 = .ok (.iload_n 3, 1) := by decide +kernel
theorem dX5_rounded_28 : decode cX5_rounded 28 = .ok (.sipush 2148, 3) := by decide +kernel
theorem dX5_rounded_31 : decode cX5_rounded 31 = .ok (.iadd, 1) := by decide +kernel
theorem dX5_rounded_32 : decode cX5_rounded 32 = .ok (.if_icmp .le 12, 3) := by decide +kernel
theorem dX5_rounded_35 : decode cX5_rounded 35 = .ok (.iload 5, 2) := by decide +kernel
theorem dX5_rounded_37 : decode cX5_rounded 37 = .ok (.iload_n 2, 1) := by decide +kernel
theorem dX5_rounded_38 : decode cX5_rounded 38 = .ok (.isub, 1) := by decide +kernel
theorem dX5_rounded_39 : decode cX5_rounded 39 = .ok (.iconst 1, 1) := by decide +kernel
theorem dX5_rounded_40 : decode cX5_rounded 40 = .ok (.iadd, 1) := by decide +kernel
theorem dX5_rounded_41 : decode cX5_rounded 41 = .ok (.goto 8, 3) := by decide +kernel
theorem dX5_rounded_44 : decode cX5_rounded 44 = .ok (.iload_n 3, 1) := by decide +kernel
theorem dX5_rounded_45 : decode cX5_rounded 45 = .ok (.sipush 2148, 3) := by decide +kernel
theorem dX5_rounded_48 : decode cX5_rounded 48 = .ok (.iadd, 1) := by decide +kernel
theorem dX5_rounded_49 : decode cX5_rounded 49 = .ok (.istore 6, 2) := by decide +kernel
theorem dX5_rounded_51 : decode cX5_rounded 51 = .ok (.lconst 0, 1) := by decide +kernel
theorem dX5_rounded_52 : decode cX5_rounded 52 = .ok (.lstore 7, 2) := by decide +kernel
theorem dX5_rounded_54 : decode cX5_rounded 54 = .ok (.iload 5, 2) := by decide +kernel
theorem dX5_rounded_56 : decode cX5_rounded 56 = .ok (.istore 9, 2) := by decide +kernel
theorem dX5_rounded_58 : decode cX5_rounded 58 = .ok (.iload 9, 2) := by decide +kernel
theorem dX5_rounded_60 : decode cX5_rounded 60 = .ok (.iload 6, 2) := by decide +kernel
theorem dX5_rounded_62 : decode cX5_rounded 62 = .ok (.if_icmp .lt 25, 3) := by decide +kernel
theorem dX5_rounded_65 : decode cX5_rounded 65 = .ok (.ldc2_w 139, 3) := by decide +kernel
theorem dX5_rounded_68 : decode cX5_rounded 68 = .ok (.lload 7, 2) := by decide +kernel
theorem dX5_rounded_70 : decode cX5_rounded 70 = .ok (.lmul, 1) := by decide +kernel
theorem dX5_rounded_71 : decode cX5_rounded 71 = .ok (.aload_n 0, 1) := by decide +kernel
theorem dX5_rounded_72 : decode cX5_rounded 72 = .ok (.iload 9, 2) := by decide +kernel
theorem dX5_rounded_74 : decode cX5_rounded 74 = .ok (.invokevirtual 237, 3) := by decide +kernel
theorem dX5_rounded_77 : decode cX5_rounded 77 = .ok (.i2l, 1) := by decide +kernel
theorem dX5_rounded_78 : decode cX5_rounded 78 = .ok (.ladd, 1) := by decide +kernel
theorem dX5_rounded_79 : decode cX5_rounded 79 = .ok (.lstore 7, 2) := by decide +kernel
theorem dX5_rounded_81 : decode cX5_rounded 81 = .ok (.iinc 9 (-1), 3) := by decide +kernel
theorem dX5_rounded_84 : decode cX5_rounded 84 = .ok (.goto (-26), 3) := by decide +kernel
theorem dX5_rounded_87 : decode cX5_rounded 87 = .ok (.aload_n 0, 1) := by decide +kernel
theorem dX5_rounded_88 : decode cX5_rounded 88 = .ok (.iload 6, 2) := by decide +kernel
theorem dX5_rounded_90 : decode cX5_rounded 90 = .ok (.iconst 1, 1) := by decide +kernel
theorem dX5_rounded_91 : decode cX5_rounded 91 = .ok (.isub, 1) := by decide +kernel
theorem dX5_rounded_92 : decode cX5_rounded 92 = .ok (.invokevirtual 237, 3) := by decide +kernel
theorem dX5_rounded_95 : decode cX5_rounded 95 = .ok (.iconst 1, 1) := by decide +kernel
theorem dX5_rounded_96 : decode cX5_rounded 96 = .ok (.if_icmp .ne 7, 3) := by decide +kernel
theorem dX5_rounded_99 : decode cX5_rounded 99 = .ok (.iconst 1, 1) := by decide +kernel
theorem dX5_rounded_100 : decode cX5_rounded 100 = .ok (.goto 4, 3) := by decide +kernel
theorem dX5_rounded_103 : decode cX5_rounded 103 = .ok (.iconst 0, 1) := by decide +kernel
theorem dX5_rounded_104 : decode cX5_rounded 104 = .ok (.istore 9, 2) := by decide +kernel
theorem dX5_rounded_106 : decode cX5_rounded 106 = .ok (.aload_n 0, 1) := by decide +kernel
theorem dX5_rounded_107 : decode cX5_rounded 107 = .ok (.getfield 234, 3) := by decide +kernel
theorem dX5_rounded_110 : decode cX5_rounded 110 = .ok (.istore 10, 2) := by decide +kernel
theorem dX5_rounded_112 : decode cX5_rounded 112 = .ok (.iconst 0, 1) := by decide +kernel
theorem dX5_rounded_113 : decode cX5_rounded 113 = .ok (.istore 11, 2) := by decide +kernel
theorem dX5_rounded_115 : decode cX5_rounded 115 = .ok (.iload 11, 2) := by decide +kernel
theorem dX5_rounded_117 : decode cX5_rounded 117 = .ok (.iload 6, 2) := by decide +kernel
theorem dX5_rounded_119 : decode cX5_rounded 119 = .ok (.iconst 1, 1) := by decide +kernel
theorem dX5_rounded_120 : decode cX5_rounded 120 = .ok (.isub, 1) := by decide +kernel
theorem dX5_rounded_121 : decode cX5_rounded 121 = .ok (.if_icmp .ge 31, 3) := by decide +kernel
theorem dX5_rounded_124 : decode cX5_rounded 124 = .ok (.iload 10, 2) := by decide +kernel
theorem dX5_rounded_126 : decode cX5_rounded 126 = .ok (.ifCond .ne 26, 3) := by decide +kernel
theorem dX5_rounded_129 : decode cX5_rounded 129 = .ok (.aload_n 0, 1) := by decide +kernel
theorem dX5_rounded_130 : decode cX5_rounded 130 = .ok (.iload 11, 2) := by decide +kernel
theorem dX5_rounded_132 : decode cX5_rounded 132 = .ok (.invokevirtual 237, 3) := by decide +kernel
theorem dX5_rounded_135 : decode cX5_rounded 135 = .ok (.iconst 1, 1) := by decide +kernel
theorem dX5_rounded_136 : decode cX5_rounded 136 = .ok (.if_icmp .ne 7, 3) := by decide +kernel
theorem dX5_rounded_139 : decode cX5_rounded 139 = .ok (.iconst 1, 1) := by decide +kernel
theorem dX5_rounded_140 : decode cX5_rounded 140 = .ok (.goto 4, 3) := by decide +kernel
theorem dX5_rounded_143 : decode cX5_rounded 143 = .ok (.iconst 0, 1) := by decide +kernel
theorem dX5_rounded_144 : decode cX5_rounded 144 = .ok (.istore 10, 2) := by decide +kernel
theorem dX5_rounded_146 : decode cX5_rounded 146 = .ok (.iinc 11 1, 3) := by decide +kernel
theorem dX5_rounded_149 : decode cX5_rounded 149 = .ok (.goto (-34), 3) := by decide +kernel
theorem dX5_rounded_152 : decode cX5_rounded 152 = .ok (.iload_n 1, 1) := by decide +kernel
theorem dX5_rounded_153 : decode cX5_rounded 153 = .ok (.iconst 2, 1) := by decide +kernel
theorem dX5_rounded_154 : decode cX5_rounded 154 = .ok (.if_icmp .ne 10, 3) := by decide +kernel
theorem dX5_rounded_157 : decode cX5_rounded 157 = .ok (.aload_n 0, 1) := by decide +kernel
theorem dX5_rounded_158 : decode cX5_rounded 158 = .ok (.getfield 231, 3) := by decide +kernel
theorem dX5_rounded_161 : decode cX5_rounded 161 = .ok (.ifCond .eq 15, 3) := by decide +kernel
theorem dX5_rounded_164 : decode cX5_rounded 164 = .ok (.iload_n 1, 1) := by decide +kernel
theorem dX5_rounded_165 : decode cX5_rounded 165 = .ok (.iconst 3, 1) := by decide +kernel
theorem dX5_rounded_166 : decode cX5_rounded 166 = .ok (.if_icmp .ne 14, 3) := by decide +kernel
theorem dX5_rounded_169 : decode cX5_rounded 169 = .ok (.aload_n 0, 1) := by decide +kernel
theorem dX5_rounded_170 : decode cX5_rounded 170 = .ok (.getfield 231, 3) := by decide +kernel
theorem dX5_rounded_173 : decode cX5_rounded 173 = .ok (.ifCond .eq 7, 3) := by decide +kernel
theorem dX5_rounded_176 : decode cX5_rounded 176 = .ok (.iconst 1, 1) := by decide +kernel
theorem dX5_rounded_177 : decode cX5_rounded 177 = .ok (.goto 4, 3) := by decide +kernel
theorem dX5_rounded_180 : decode cX5_rounded 180 = .ok (.iconst 0, 1) := by decide +kernel
theorem dX5_rounded_181 : decode cX5_rounded 181 = .ok (.istore 11, 2) := by decide +kernel
theorem dX5_rounded_183 : decode cX5_rounded 183 = .ok (.iload_n 1, 1) := by decide +kernel
theorem dX5_rounded_184 : decode cX5_rounded 184 = .ok (.ifCond .ne 30, 3) := by decide +kernel
theorem dX5_rounded_187 : decode cX5_rounded 187 = .ok (.iload 9, 2) := by decide +kernel
theorem dX5_rounded_189 : decode cX5_rounded 189 = .ok (.ifCond .eq 21, 3) := by decide +kernel
theorem dX5_rounded_192 : decode cX5_rounded 192 = .ok (.iload 10, 2) := by decide +kernel
theorem dX5_rounded_194 : decode cX5_rounded 194 = .ok (.ifCond .ne 12, 3) := by decide +kernel
theorem dX5_rounded_197 : decode cX5_rounded 197 = .ok (.lload 7, 2) := by decide +kernel
theorem dX5_rounded_199 : decode cX5_rounded 199 = .ok (.lconst 1, 1) := by decide +kernel
theorem dX5_rounded_200 : decode cX5_rounded 200 = .ok (.land, 1) := by decide +kernel
theorem dX5_rounded_201 : decode cX5_rounded 201 = .ok (.lconst 1, 1) := by decide +kernel
theorem dX5_rounded_202 : decode cX5_rounded 202 = .ok (.lcmp, 1) := by decide +kernel
theorem dX5_rounded_203 : decode cX5_rounded 203 = .ok (.ifCond .ne 7, 3) := by decide +kernel
theorem dX5_rounded_206 : decode cX5_rounded 206 = .ok (.iconst 1, 1) := by decide +kernel
theorem dX5_rounded_207 : decode cX5_rounded 207 = .ok (.goto 27, 3) := by decide +kernel
theorem dX5_rounded_210 : decode cX5_rounded 210 = .ok (.iconst 0, 1) := by decide +kernel
theorem dX5_rounded_211 : decode cX5_rounded 211 = .ok (.goto 23, 3) := by decide +kernel
theorem dX5_rounded_214 : decode cX5_rounded 214 = .ok (.iload 11, 2) := by decide +kernel
theorem dX5_rounded_216 : decode cX5_rounded 216 = .ok (.ifCond .eq 17, 3) := by decide +kernel
theorem dX5_rounded_219 : decode cX5_rounded 219 = .ok (.iload 9, 2) := by decide +kernel
theorem dX5_rounded_221 : decode cX5_rounded 221 = .ok (.ifCond .ne 8, 3) := by decide +kernel
theorem dX5_rounded_224 : decode cX5_rounded 224 = .ok (.iload 10, 2) := by decide +kernel
theorem dX5_rounded_226 : decode cX5_rounded 226 = .ok (.ifCond .eq 7, 3) := by decide +kernel
theorem dX5_rounded_229 : decode cX5_rounded 229 = .ok (.iconst 1, 1) := by decide +kernel
theorem dX5_rounded_230 : decode cX5_rounded 230 = .ok (.goto 4, 3) := by decide +kernel
theorem dX5_rounded_233 : decode cX5_rounded 233 = .ok (.iconst 0, 1) := by decide +kernel
theorem dX5_rounded_234 : decode cX5_rounded 234 = .ok (.istore 12, 2) := by decide +kernel
theorem dX5_rounded_236 : decode cX5_rounded 236 = .ok (.iload 5, 2) := by decide +kernel
theorem dX5_rounded_238 : decode cX5_rounded 238 = .ok (.iload 4, 2) := by decide +kernel
theorem dX5_rounded_240 : decode cX5_rounded 240 = .ok (.sipush 2148, 3) := by decide +kernel
theorem dX5_rounded_243 : decode cX5_rounded 243 = .ok (.iadd, 1) := by decide +kernel
theorem dX5_rounded_244 : decode cX5_rounded 244 = .ok (.if_icmp .lt 7, 3) := by decide +kernel
theorem dX5_rounded_247 : decode cX5_rounded 247 = .ok (.iconst 1, 1) := by decide +kernel
theorem dX5_rounded_248 : decode cX5_rounded 248 = .ok (.goto 4, 3) := by decide +kernel
theorem dX5_rounded_251 : decode cX5_rounded 251 = .ok (.iconst 0, 1) := by decide +kernel
theorem dX5_rounded_252 : decode cX5_rounded 252 = .ok (.istore 13, 2) := by decide +kernel
theorem dX5_rounded_254 : decode cX5_rounded 254 = .ok (.lload 7, 2) := by decide +kernel
theorem dX5_rounded_256 : decode cX5_rounded 256 = .ok (.iload 12, 2) := by decide +kernel
theorem dX5_rounded_258 : decode cX5_rounded 258 = .ok (.ifCond .eq 7, 3) := by decide +kernel
theorem dX5_rounded_261 : decode cX5_rounded 261 = .ok (.lconst 1, 1) := by decide +kernel
theorem dX5_rounded_262 : decode cX5_rounded 262 = .ok (.goto 4, 3) := by decide +kernel
theorem dX5_rounded_265 : decode cX5_rounded 265 = .ok (.lconst 0, 1) := by decide +kernel
theorem dX5_rounded_266 : decode cX5_rounded 266 = .ok (.ladd, 1) := by decide +kernel
theorem dX5_rounded_267 : decode cX5_rounded 267 = .ok (.lstore 7, 2) := by decide +kernel
theorem dX5_rounded_269 : decode cX5_rounded 269 = .ok (.lconst 1, 1) := by decide +kernel
theorem dX5_rounded_270 : decode cX5_rounded 270 = .ok (.iload_n 2, 1) := by decide +kernel
theorem dX5_rounded_271 : decode cX5_rounded 271 = .ok (.lshl, 1) := by decide +kernel
theorem dX5_rounded_272 : decode cX5_rounded 272 = .ok (.lconst 1, 1) := by decide +kernel
theorem dX5_rounded_273 : decode cX5_rounded 273 = .ok (.lsub, 1) := by decide +kernel
theorem dX5_rounded_274 : decode cX5_rounded 274 = .ok (.iload 4, 2) := by decide +kernel
theorem dX5_rounded_276 : decode cX5_rounded 276 = .ok (.iload_n 2, 1) := by decide +kernel
theorem dX5_rounded_277 : decode cX5_rounded 277 = .ok (.isub, 1) := by decide +kernel
theorem dX5_rounded_278 : decode cX5_rounded 278 = .ok (.invokestatic 89, 3) := by decide +kernel
theorem dX5_rounded_281 : decode cX5_rounded 281 = .ok (.dstore 14, 2) := by decide +kernel
theorem dX5_rounded_283 : decode cX5_rounded 283 = .ok (.dconst 0, 1) := by decide +kernel
theorem dX5_rounded_284 : decode cX5_rounded 284 = .ok (.dstore 16, 2) := by decide +kernel
theorem dX5_rounded_286 : decode cX5_rounded 286 = .ok (.iload 13, 2) := by decide +kernel
theorem dX5_rounded_288 : decode cX5_rounded 288 = .ok (.ifCond .eq 25, 3) := by decide +kernel
theorem dX5_rounded_291 : decode cX5_rounded 291 = .ok (.iload_n 1, 1) := by decide +kernel
theorem dX5_rounded_292 : decode cX5_rounded 292 = .ok (.ifCond .eq 8, 3) := by decide +kernel
theorem dX5_rounded_295 : decode cX5_rounded 295 = .ok (.iload 11, 2) := by decide +kernel
theorem dX5_rounded_297 : decode cX5_rounded 297 = .ok (.ifCond .eq 9, 3) := by decide +kernel
theorem dX5_rounded_300 : decode cX5_rounded 300 = .ok (.ldc2_w 122, 3) := by decide +kernel
theorem dX5_rounded_303 : decode cX5_rounded 303 = .ok (.goto 5, 3) := by decide +kernel
theorem dX5_rounded_306 : decode cX5_rounded 306 = .ok (.dload 14, 2) := by decide +kernel
theorem dX5_rounded_308 : decode cX5_rounded 308 = .ok (.dstore 16, 2) := by decide +kernel
theorem dX5_rounded_310 : decode cX5_rounded 310 = .ok (.goto 46, 3) := by decide +kernel
theorem dX5_rounded_313 : decode cX5_rounded 313 = .ok (.lload 7, 2) := by decide +kernel
theorem dX5_rounded_315 : decode cX5_rounded 315 = .ok (.lconst 1, 1) := by decide +kernel
theorem dX5_rounded_316 : decode cX5_rounded 316 = .ok (.iload_n 2, 1) := by decide +kernel
theorem dX5_rounded_317 : decode cX5_rounded 317 = .ok (.lshl, 1) := by decide +kernel
theorem dX5_rounded_318 : decode cX5_rounded 318 = .ok (.lcmp, 1) := by decide +kernel
theorem dX5_rounded_319 : decode cX5_rounded 319 = .ok (.ifCond .ne 24, 3) := by decide +kernel
theorem dX5_rounded_322 : decode cX5_rounded 322 = .ok (.iload 6, 2) := by decide +kernel
theorem dX5_rounded_324 : decode cX5_rounded 324 = .ok (.sipush 2148, 3) := by decide +kernel
theorem dX5_rounded_327 : decode cX5_rounded 327 = .ok (.isub, 1) := by decide +kernel
theorem dX5_rounded_328 : decode cX5_rounded 328 = .ok (.iload_n 2, 1) := by decide +kernel
theorem dX5_rounded_329 : decode cX5_rounded 329 = .ok (.iadd, 1) := by decide +kernel
theorem dX5_rounded_330 : decode cX5_rounded 330 = .ok (.iload 4, 2) := by decide +kernel
theorem dX5_rounded_332 : decode cX5_rounded 332 = .ok (.if_icmp .ne 11, 3) := by decide +kernel
theorem dX5_rounded_335 : decode cX5_rounded 335 = .ok (.ldc2_w 122, 3) := by decide +kernel
theorem dX5_rounded_338 : decode cX5_rounded 338 = .ok (.dstore 16, 2) := by decide +kernel
theorem dX5_rounded_340 : decode cX5_rounded 340 = .ok (.goto 16, 3) := by decide +kernel
theorem dX5_rounded_343 : decode cX5_rounded 343 = .ok (.lload 7, 2) := by decide +kernel
theorem dX5_rounded_345 : decode cX5_rounded 345 = .ok (.iload 6, 2) := by decide +kernel
theorem dX5_rounded_347 : decode cX5_rounded 347 = .ok (.sipush 2148, 3) := by decide +kernel
theorem dX5_rounded_350 : decode cX5_rounded 350 = .ok (.isub, 1) := by decide +kernel
theorem dX5_rounded_351 : decode cX5_rounded 351 = .ok (.invokestatic 89, 3) := by decide +kernel
theorem dX5_rounded_354 : decode cX5_rounded 354 = .ok (.dstore 16, 2) := by decide +kernel
theorem dX5_rounded_356 : decode cX5_rounded 356 = .ok (.dload 16, 2) := by decide +kernel
theorem dX5_rounded_358 : decode cX5_rounded 358 = .ok (.dconst 0, 1) := by decide +kernel
theorem dX5_rounded_359 : decode cX5_rounded 359 = .ok (.dcmp .l, 1) := by decide +kernel
theorem dX5_rounded_360 : decode cX5_rounded 360 = .ok (.ifCond .ne 7, 3) := by decide +kernel
theorem dX5_rounded_363 : decode cX5_rounded 363 = .ok (.dconst 0, 1) := by decide +kernel
theorem dX5_rounded_364 : decode cX5_rounded 364 = .ok (.goto 18, 3) := by decide +kernel
theorem dX5_rounded_367 : decode cX5_rounded 367 = .ok (.aload_n 0, 1) := by decide +kernel
theorem dX5_rounded_368 : decode cX5_rounded 368 = .ok (.getfield 231, 3) := by decide +kernel
theorem dX5_rounded_371 : decode cX5_rounded 371 = .ok (.ifCond .eq 9, 3) := by decide +kernel
theorem dX5_rounded_374 : decode cX5_rounded 374 = .ok (.dload 16, 2) := by decide +kernel
theorem dX5_rounded_376 : decode cX5_rounded 376 = .ok (.dneg, 1) := by decide +kernel
theorem dX5_rounded_377 : decode cX5_rounded 377 = .ok (.goto 5, 3) := by decide +kernel
theorem dX5_rounded_380 : decode cX5_rounded 380 = .ok (.dload 16, 2) := by decide +kernel
theorem dX5_rounded_382 : decode cX5_rounded 382 = .ok (.dreturn, 1) := by decide +kernel
theorem dX5_endlessBy_0 : decode cX5_endlessBy 0 = .ok (.iload_n 1, 1) := by decide +kernel
theorem dX5_endlessBy_1 : decode cX5_endlessBy 1 = .ok (.iconst 1, 1) := by decide +kernel
theorem dX5_endlessBy_2 : decode cX5_endlessBy 2 = .ok (.if_icmp .ne 9, 3) := by decide +kernel
theorem dX5_endlessBy_5 : decode cX5_endlessBy 5 = .ok (.ldc2_w 122, 3) := by decide +kernel
theorem dX5_endlessBy_8 : decode cX5_endlessBy 8 = .ok (.goto 15, 3) := by decide +kernel
theorem dX5_endlessBy_11 : decode cX5_endlessBy 11 = .ok (.iload_n 1, 1) := by decide +kernel
theorem dX5_endlessBy_12 : decode cX5_endlessBy 12 = .ok (.iconst 2, 1) := by decide +kernel
theorem dX5_endlessBy_13 : decode cX5_endlessBy 13 = .ok (.if_icmp .ne 9, 3) := by decide +kernel
theorem dX5_endlessBy_16 : decode cX5_endlessBy 16 = .ok (.ldc2_w 124, 3) := by decide +kernel
theorem dX5_endlessBy_19 : decode cX5_endlessBy 19 = .ok (.goto 4, 3) := by decide +kernel
theorem dX5_endlessBy_22 : decode cX5_endlessBy 22 = .ok (.dconst 0, 1) := by decide +kernel
theorem dX5_endlessBy_23 : decode cX5_endlessBy 23 = .ok (.dreturn, 1) := by decide +kernel
theorem dX5_tell_0 : decode cX5_tell 0 = .ok (.aload_n 0, 1) := by decide +kernel
theorem dX5_tell_1 : decode cX5_tell 1 = .ok (.iconst 0, 1) := by decide +kernel
theorem dX5_tell_2 : decode cX5_tell 2 = .ok (.putfield 54, 3) := by decide +kernel
theorem dX5_tell_5 : decode cX5_tell 5 = .ok (.iload_n 1, 1) := by decide +kernel
theorem dX5_tell_6 : decode cX5_tell 6 = .ok (.invokestatic 136, 3) := by decide +kernel
theorem dX5_tell_9 : decode cX5_tell 9 = .ok (.ifCond .eq 25, 3) := by decide +kernel
theorem dX5_tell_12 : decode cX5_tell 12 = .ok (.iload_n 2, 1) := by decide +kernel
theorem dX5_tell_13 : decode cX5_tell 13 = .ok (.i2l, 1) := by decide +kernel
theorem dX5_tell_14 : decode cX5_tell 14 = .ok (.lconst 0, 1) := by decide +kernel
theorem dX5_tell_15 : decode cX5_tell 15 = .ok (.ldc2_w 110, 3) := by decide +kernel
theorem dX5_tell_18 : decode cX5_tell 18 = .ok (.invokestatic 60, 3) := by decide +kernel
theorem dX5_tell_21 : decode cX5_tell 21 = .ok (.ifCond .eq 13, 3) := by decide +kernel
theorem dX5_tell_24 : decode cX5_tell 24 = .ok (.aload_n 0, 1) := by decide +kernel
theorem dX5_tell_25 : decode cX5_tell 25 = .ok (.getfield 27, 3) := by decide +kernel
theorem dX5_tell_28 : decode cX5_tell 28 = .ok (.iload_n 1, 1) := by decide +kernel
theorem dX5_tell_29 : decode cX5_tell 29 = .ok (.iaload, 1) := by decide +kernel
theorem dX5_tell_30 : decode cX5_tell 30 = .ok (.iconst (-1), 1) := by decide +kernel
theorem dX5_tell_31 : decode cX5_tell 31 = .ok (.if_icmp .ne 5, 3) := by decide +kernel
theorem dX5_tell_34 : decode cX5_tell 34 = .ok (.dconst 0, 1) := by decide +kernel
theorem dX5_tell_35 : decode cX5_tell 35 = .ok (.dreturn, 1) := by decide +kernel
theorem dX5_tell_36 : decode cX5_tell 36 = .ok (.aload_n 0, 1) := by decide +kernel
theorem dX5_tell_37 : decode cX5_tell 37 = .ok (.iload_n 1, 1) := by decide +kernel
theorem dX5_tell_38 : decode cX5_tell 38 = .ok (.invokevirtual 229, 3) := by decide +kernel
theorem dX5_tell_41 : decode cX5_tell 41 = .ok (.istore 4, 2) := by decide +kernel
theorem dX5_tell_43 : decode cX5_tell 43 = .ok (.iload 4, 2) := by decide +kernel
theorem dX5_tell_45 : decode cX5_tell 45 = .ok (.ifCond .eq 10, 3) := by decide +kernel
theorem dX5_tell_48 : decode cX5_tell 48 = .ok (.aload_n 0, 1) := by decide +kernel
theorem dX5_tell_49 : decode cX5_tell 49 = .ok (.iload 4, 2) := by decide +kernel
theorem dX5_tell_51 : decode cX5_tell 51 = .ok (.invokevirtual 244, 3) := by decide +kernel
theorem dX5_tell_54 : decode cX5_tell 54 = .ok (.dreturn, 1) := by decide +kernel
theorem dX5_tell_55 : decode cX5_tell 55 = .ok (.aload_n 0, 1) := by decide +kernel
theorem dX5_tell_56 : decode cX5_tell 56 = .ok (.iload_n 1, 1) := by decide +kernel
theorem dX5_tell_57 : decode cX5_tell 57 = .ok (.invokevirtual 248, 3) := by decide +kernel
theorem dX5_tell_60 : decode cX5_tell 60 = .ok (.iload_n 3, 1) := by decide +kernel
theorem dX5_tell_61 : decode cX5_tell 61 = .ok (.ifCond .eq 19, 3) := by decide +kernel
theorem dX5_tell_64 : decode cX5_tell 64 = .ok (.aload_n 0, 1) := by decide +kernel
theorem dX5_tell_65 : decode cX5_tell 65 = .ok (.iload_n 2, 1) := by decide +kernel
theorem dX5_tell_66 : decode cX5_tell 66 = .ok (.bipush 24, 2) := by decide +kernel
theorem dX5_tell_68 : decode cX5_tell 68 = .ok (.sipush (-149), 3) := by decide +kernel
theorem dX5_tell_71 : decode cX5_tell 71 = .ok (.sipush 128, 3) := by decide +kernel
theorem dX5_tell_74 : decode cX5_tell 74 = .ok (.invokevirtual 251, 3) := by decide +kernel
theorem dX5_tell_77 : decode cX5_tell 77 = .ok (.goto 16, 3) := by decide +kernel
theorem dX5_tell_80 : decode cX5_tell 80 = .ok (.aload_n 0, 1) := by decide +kernel
theorem dX5_tell_81 : decode cX5_tell 81 = .ok (.iload_n 2, 1) := by decide +kernel
theorem dX5_tell_82 : decode cX5_tell 82 = .ok (.bipush 53, 2) := by decide +kernel
theorem dX5_tell_84 : decode cX5_tell 84 = .ok (.sipush (-1074), 3) := by decide +kernel
theorem dX5_tell_87 : decode cX5_tell 87 = .ok (.sipush 1024, 3) := by decide +kernel
theorem dX5_tell_90 : decode cX5_tell 90 = .ok (.invokevirtual 251, 3) := by decide +kernel
theorem dX5_tell_93 : decode cX5_tell 93 = .ok (.dreturn, 1) := by decide +kernel
theorem dX5_mean_0 : decode cX5_mean 0 = .ok (.aload_n 0, 1) := by decide +kernel
theorem dX5_mean_1 : decode cX5_mean 1 = .ok (.iconst 0, 1) := by decide +kernel
theorem dX5_mean_2 : decode cX5_mean 2 = .ok (.putfield 54, 3) := by decide +kernel
theorem dX5_mean_5 : decode cX5_mean 5 = .ok (.iload_n 1, 1) := by decide +kernel
theorem dX5_mean_6 : decode cX5_mean 6 = .ok (.invokestatic 136, 3) := by decide +kernel
theorem dX5_mean_9 : decode cX5_mean 9 = .ok (.ifCond .eq 37, 3) := by decide +kernel
theorem dX5_mean_12 : decode cX5_mean 12 = .ok (.iload_n 3, 1) := by decide +kernel
theorem dX5_mean_13 : decode cX5_mean 13 = .ok (.i2l, 1) := by decide +kernel
theorem dX5_mean_14 : decode cX5_mean 14 = .ok (.lconst 0, 1) := by decide +kernel
theorem dX5_mean_15 : decode cX5_mean 15 = .ok (.ldc2_w 110, 3) := by decide +kernel
theorem dX5_mean_18 : decode cX5_mean 18 = .ok (.invokestatic 60, 3) := by decide +kernel
theorem dX5_mean_21 : decode cX5_mean 21 = .ok (.ifCond .eq 25, 3) := by decide +kernel
theorem dX5_mean_24 : decode cX5_mean 24 = .ok (.aload_n 0, 1) := by decide +kernel
theorem dX5_mean_25 : decode cX5_mean 25 = .ok (.getfield 27, 3) := by decide +kernel
theorem dX5_mean_28 : decode cX5_mean 28 = .ok (.iload_n 1, 1) := by decide +kernel
theorem dX5_mean_29 : decode cX5_mean 29 = .ok (.iaload, 1) := by decide +kernel
theorem dX5_mean_30 : decode cX5_mean 30 = .ok (.iconst (-1), 1) := by decide +kernel
theorem dX5_mean_31 : decode cX5_mean 31 = .ok (.if_icmp .eq 15, 3) := by decide +kernel
theorem dX5_mean_34 : decode cX5_mean 34 = .ok (.iload_n 2, 1) := by decide +kernel
theorem dX5_mean_35 : decode cX5_mean 35 = .ok (.i2l, 1) := by decide +kernel
theorem dX5_mean_36 : decode cX5_mean 36 = .ok (.lconst 1, 1) := by decide +kernel
theorem dX5_mean_37 : decode cX5_mean 37 = .ok (.ldc2_w 255, 3) := by decide +kernel
theorem dX5_mean_40 : decode cX5_mean 40 = .ok (.invokestatic 60, 3) := by decide +kernel
theorem dX5_mean_43 : decode cX5_mean 43 = .ok (.ifCond .ne 5, 3) := by decide +kernel
theorem dX5_mean_46 : decode cX5_mean 46 = .ok (.dconst 0, 1) := by decide +kernel
theorem dX5_mean_47 : decode cX5_mean 47 = .ok (.dreturn, 1) := by decide +kernel
theorem dX5_mean_48 : decode cX5_mean 48 = .ok (.aload_n 0, 1) := by decide +kernel
theorem dX5_mean_49 : decode cX5_mean 49 = .ok (.iload_n 1, 1) := by decide +kernel
theorem dX5_mean_50 : decode cX5_mean 50 = .ok (.invokevirtual 229, 3) := by decide +kernel
theorem dX5_mean_53 : decode cX5_mean 53 = .ok (.istore 4, 2) := by decide +kernel
theorem dX5_mean_55 : decode cX5_mean 55 = .ok (.iload 4, 2) := by decide +kernel
theorem dX5_mean_57 : decode cX5_mean 57 = .ok (.ifCond .eq 10, 3) := by decide +kernel
theorem dX5_mean_60 : decode cX5_mean 60 = .ok (.aload_n 0, 1) := by decide +kernel
theorem dX5_mean_61 : decode cX5_mean 61 = .ok (.iload 4, 2) := by decide +kernel
theorem dX5_mean_63 : decode cX5_mean 63 = .ok (.invokevirtual 244, 3) := by decide +kernel
theorem dX5_mean_66 : decode cX5_mean 66 = .ok (.dreturn, 1) := by decide +kernel
theorem dX5_mean_67 : decode cX5_mean 67 = .ok (.aload_n 0, 1) := by decide +kernel
theorem dX5_mean_68 : decode cX5_mean 68 = .ok (.iload_n 1, 1) := by decide +kernel
theorem dX5_mean_69 : decode cX5_mean 69 = .ok (.invokevirtual 248, 3) := by decide +kernel
theorem dX5_mean_72 : decode cX5_mean 72 = .ok (.lconst 0, 1) := by decide +kernel
theorem dX5_mean_73 : decode cX5_mean 73 = .ok (.lstore 5, 2) := by decide +kernel
theorem dX5_mean_75 : decode cX5_mean 75 = .ok (.sipush 151, 3) := by decide +kernel
theorem dX5_mean_78 : decode cX5_mean 78 = .ok (.istore 7, 2) := by decide +kernel
theorem dX5_mean_80 : decode cX5_mean 80 = .ok (.iload 7, 2) := by decide +kernel
theorem dX5_mean_82 : decode cX5_mean 82 = .ok (.ifCond .lt 49, 3) := by decide +kernel
theorem dX5_mean_85 : decode cX5_mean 85 = .ok (.lload 5, 2) := by decide +kernel
theorem dX5_mean_87 : decode cX5_mean 87 = .ok (.bipush 32, 2) := by decide +kernel
theorem dX5_mean_89 : decode cX5_mean 89 = .ok (.lshl, 1) := by decide +kernel
theorem dX5_mean_90 : decode cX5_mean 90 = .ok (.aload_n 0, 1) := by decide +kernel
theorem dX5_mean_91 : decode cX5_mean 91 = .ok (.getfield 48, 3) := by decide +kernel
theorem dX5_mean_94 : decode cX5_mean 94 = .ok (.iload 7, 2) := by decide +kernel
theorem dX5_mean_96 : decode cX5_mean 96 = .ok (.iaload, 1) := by decide +kernel
theorem dX5_mean_97 : decode cX5_mean 97 = .ok (.i2l, 1) := by decide +kernel
theorem dX5_mean_98 : decode cX5_mean 98 = .ok (.ldc2_w 150, 3) := by decide +kernel
theorem dX5_mean_101 : decode cX5_mean 101 = .ok (.land, 1) := by decide +kernel
theorem dX5_mean_102 : decode cX5_mean 102 = .ok (.lor, 1) := by decide +kernel
theorem dX5_mean_103 : decode cX5_mean 103 = .ok (.lstore 8, 2) := by decide +kernel
theorem dX5_mean_105 : decode cX5_mean 105 = .ok (.aload_n 0, 1) := by decide +kernel
theorem dX5_mean_106 : decode cX5_mean 106 = .ok (.getfield 48, 3) := by decide +kernel
theorem dX5_mean_109 : decode cX5_mean 109 = .ok (.iload 7, 2) := by decide +kernel
theorem dX5_mean_111 : decode cX5_mean 111 = .ok (.lload 8, 2) := by decide +kernel
theorem dX5_mean_113 : decode cX5_mean 113 = .ok (.iload_n 2, 1) := by decide +kernel
theorem dX5_mean_114 : decode cX5_mean 114 = .ok (.i2l, 1) := by decide +kernel
theorem dX5_mean_115 : decode cX5_mean 115 = .ok (.ldiv, 1) := by decide +kernel
theorem dX5_mean_116 : decode cX5_mean 116 = .ok (.l2i, 1) := by decide +kernel
theorem dX5_mean_117 : decode cX5_mean 117 = .ok (.iastore, 1) := by decide +kernel
theorem dX5_mean_118 : decode cX5_mean 118 = .ok (.lload 8, 2) := by decide +kernel
theorem dX5_mean_120 : decode cX5_mean 120 = .ok (.iload_n 2, 1) := by decide +kernel
theorem dX5_mean_121 : decode cX5_mean 121 = .ok (.i2l, 1) := by decide +kernel
theorem dX5_mean_122 : decode cX5_mean 122 = .ok (.lrem, 1) := by decide +kernel
theorem dX5_mean_123 : decode cX5_mean 123 = .ok (.lstore 5, 2) := by decide +kernel
theorem dX5_mean_125 : decode cX5_mean 125 = .ok (.iinc 7 (-1), 3) := by decide +kernel
theorem dX5_mean_128 : decode cX5_mean 128 = .ok (.goto (-48), 3) := by decide +kernel
theorem dX5_mean_131 : decode cX5_mean 131 = .ok (.aload_n 0, 1) := by decide +kernel
theorem dX5_mean_132 : decode cX5_mean 132 = .ok (.lload 5, 2) := by decide +kernel
theorem dX5_mean_134 : decode cX5_mean 134 = .ok (.lconst 0, 1) := by decide +kernel
theorem dX5_mean_135 : decode cX5_mean 135 = .ok (.lcmp, 1) := by decide +kernel
theorem dX5_mean_136 : decode cX5_mean 136 = .ok (.ifCond .eq 7, 3) := by decide +kernel
theorem dX5_mean_139 : decode cX5_mean 139 = .ok (.iconst 1, 1) := by decide +kernel
theorem dX5_mean_140 : decode cX5_mean 140 = .ok (.goto 4, 3) := by decide +kernel
theorem dX5_mean_143 : decode cX5_mean 143 = .ok (.iconst 0, 1) := by decide +kernel
theorem dX5_mean_144 : decode cX5_mean 144 = .ok (.putfield 234, 3) := by decide +kernel
theorem dX5_mean_147 : decode cX5_mean 147 = .ok (.aload_n 0, 1) := by decide +kernel
theorem dX5_mean_148 : decode cX5_mean 148 = .ok (.iload_n 3, 1) := by decide +kernel
theorem dX5_mean_149 : decode cX5_mean 149 = .ok (.bipush 53, 2) := by decide +kernel
theorem dX5_mean_151 : decode cX5_mean 151 = .ok (.sipush (-1074), 3) := by decide +kernel
theorem dX5_mean_154 : decode cX5_mean 154 = .ok (.sipush 1024, 3) := by decide +kernel
theorem dX5_mean_157 : decode cX5_mean 157 = .ok (.invokevirtual 251, 3) := by decide +kernel
theorem dX5_mean_160 : decode cX5_mean 160 = .ok (.dreturn, 1) := by decide +kernel
theorem dX5_compareSquare_0 : decode cX5_compareSquare 0 = .ok (.lload_n 1, 1) := by decide +kernel
theorem dX5_compareSquare_1 : decode cX5_compareSquare 1 = .ok (.bipush 52, 2) := by decide +kernel
theorem dX5_compareSquare_3 : decode cX5_compareSquare 3 = .ok (.lshr, 1) := by decide +kernel
theorem dX5_compareSquare_4 : decode cX5_compareSquare 4 = .ok (.l2i, 1) := by decide +kernel
theorem dX5_compareSquare_5 : decode cX5_compareSquare 5 = .ok (.istore_n 3, 1) := by decide +kernel
theorem dX5_compareSquare_6 : decode cX5_compareSquare 6 = .ok (.lload_n 1, 1) := by decide +kernel
theorem dX5_compareSquare_7 : decode cX5_compareSquare 7 = .ok (.ldc2_w 257, 3) := by decide +kernel
theorem dX5_compareSquare_10 : decode cX5_compareSquare 10 = .ok (.land, 1) := by decide +kernel
theorem dX5_compareSquare_11 : decode cX5_compareSquare 11 = .ok (.iload_n 3, 1) := by decide +kernel
theorem dX5_compareSquare_12 : decode cX5_compareSquare 12 = .ok (.ifCond .le 9, 3) := by decide +kernel
theorem dX5_compareSquare_15 : decode cX5_compareSquare 15 = .ok (.ldc2_w 259, 3) := by decide +kernel
theorem dX5_compareSquare_18 : decode cX5_compareSquare 18 = .ok (.goto 4, 3) := by decide +kernel
theorem dX5_compareSquare_21 : decode cX5_compareSquare 21 = .ok (.lconst 0, 1) := by decide +kernel
theorem dX5_compareSquare_22 : decode cX5_compareSquare 22 = .ok (.lor, 1) := by decide +kernel
theorem dX5_compareSquare_23 : decode cX5_compareSquare 23 = .ok (.lstore 4, 2) := by decide +kernel
theorem dX5_compareSquare_25 : decode cX5_compareSquare 25 = .ok (.iconst 2, 1) := by decide +kernel
theorem dX5_compareSquare_26 : decode cX5_compareSquare 26 = .ok (.iload_n 3, 1) := by decide +kernel
theorem dX5_compareSquare_27 : decode cX5_compareSquare 27 = .ok (.ifCond .le 11, 3) := by decide +kernel
theorem dX5_compareSquare_30 : decode cX5_compareSquare 30 = .ok (.iload_n 3, 1) := by decide +kernel
theorem dX5_compareSquare_31 : decode cX5_compareSquare 31 = .ok (.sipush 1075, 3) := by decide +kernel
theorem dX5_compareSquare_34 : decode cX5_compareSquare 34 = .ok (.isub, 1) := by decide +kernel
theorem dX5_compareSquare_35 : decode cX5_compareSquare 35 = .ok (.goto 6, 3) := by decide +kernel
theorem dX5_compareSquare_38 : decode cX5_compareSquare 38 = .ok (.sipush (-1074), 3) := by decide +kernel
theorem dX5_compareSquare_41 : decode cX5_compareSquare 41 = .ok (.imul, 1) := by decide +kernel
theorem dX5_compareSquare_42 : decode cX5_compareSquare 42 = .ok (.sipush 2148, 3) := by decide +kernel
theorem dX5_compareSquare_45 : decode cX5_compareSquare 45 = .ok (.iadd, 1) := by decide +kernel
theorem dX5_compareSquare_46 : decode cX5_compareSquare 46 = .ok (.istore 6, 2) := by decide +kernel
theorem dX5_compareSquare_48 : decode cX5_compareSquare 48 = .ok (.lload 4, 2) := by decide +kernel
theorem dX5_compareSquare_50 : decode cX5_compareSquare 50 = .ok (.lload 4, 2) := by decide +kernel
theorem dX5_compareSquare_52 : decode cX5_compareSquare 52 = .ok (.invokestatic 200, 3) := by decide +kernel
theorem dX5_compareSquare_55 : decode cX5_compareSquare 55 = .ok (.lstore 7, 2) := by decide +kernel
theorem dX5_compareSquare_57 : decode cX5_compareSquare 57 = .ok (.lload 4, 2) := by decide +kernel
theorem dX5_compareSquare_59 : decode cX5_compareSquare 59 = .ok (.lload 4, 2) := by decide +kernel
theorem dX5_compareSquare_61 : decode cX5_compareSquare 61 = .ok (.lmul, 1) := by decide +kernel
theorem dX5_compareSquare_62 : decode cX5_compareSquare 62 = .ok (.lstore 9, 2) := by decide +kernel
theorem dX5_compareSquare_64 : decode cX5_compareSquare 64 = .ok (.sipush 151, 3) := by decide +kernel
theorem dX5_compareSquare_67 : decode cX5_compareSquare 67 = .ok (.istore 11, 2) := by decide +kernel
theorem dX5_compareSquare_69 : decode cX5_compareSquare 69 = .ok (.iload 11, 2) := by decide +kernel
theorem dX5_compareSquare_71 : decode cX5_compareSquare 71 = .ok (.ifCond .lt 104, 3) := by decide +kernel
theorem dX5_compareSquare_74 : decode cX5_compareSquare 74 = .ok (.iconst 0, 1) := by decide +kernel
theorem dX5_compareSquare_75 : decode cX5_compareSquare 75 = .ok (.istore 12, 2) := by decide +kernel
theorem dX5_compareSquare_77 : decode cX5_compareSquare 77 = .ok (.bipush 31, 2) := by decide +kernel
theorem dX5_compareSquare_79 : decode cX5_compareSquare 79 = .ok (.istore 13, 2) := by decide +kernel
theorem dX5_compareSquare_81 : decode cX5_compareSquare 81 = .ok (.iload 13, 2) := by decide +kernel
theorem dX5_compareSquare_83 : decode cX5_compareSquare 83 = .ok (.ifCond .lt 77, 3) := by decide +kernel
theorem dX5_compareSquare_86 : decode cX5_compareSquare 86 = .ok (.bipush 32, 2) := by decide +kernel
theorem dX5_compareSquare_88 : decode cX5_compareSquare 88 = .ok (.iload 11, 2) := by decide +kernel
theorem dX5_compareSquare_90 : decode cX5_compareSquare 90 = .ok (.imul, 1) := by decide +kernel
theorem dX5_compareSquare_91 : decode cX5_compareSquare 91 = .ok (.iload 13, 2) := by decide +kernel
theorem dX5_compareSquare_93 : decode cX5_compareSquare 93 = .ok (.iadd, 1) := by decide +kernel
theorem dX5_compareSquare_94 : decode cX5_compareSquare 94 = .ok (.iload 6, 2) := by decide +kernel
theorem dX5_compareSquare_96 : decode cX5_compareSquare 96 = .ok (.isub, 1) := by decide +kernel
theorem dX5_compareSquare_97 : decode cX5_compareSquare 97 = .ok (.istore 14, 2) := by decide +kernel
theorem dX5_compareSquare_99 : decode cX5_compareSquare 99 = .ok (.iload 14, 2) := by decide +kernel
theorem dX5_compareSquare_101 : decode cX5_compareSquare 101 = .ok (.ifCond .lt 10, 3) := by decide +kernel
theorem dX5_compareSquare_104 : decode cX5_compareSquare 104 = .ok (.iload 14, 2) := by decide +kernel
theorem dX5_compareSquare_106 : decode cX5_compareSquare 106 = .ok (.bipush 127, 2) := by decide +kernel
theorem dX5_compareSquare_108 : decode cX5_compareSquare 108 = .ok (.if_icmp .le 7, 3) := by decide +kernel
theorem dX5_compareSquare_111 : decode cX5_compareSquare 111 = .ok (.lconst 0, 1) := by decide +kernel
theorem dX5_compareSquare_112 : decode cX5_compareSquare 112 = .ok (.goto 30, 3) := by decide +kernel
theorem dX5_compareSquare_115 : decode cX5_compareSquare 115 = .ok (.iload 14, 2) := by decide +kernel
theorem dX5_compareSquare_117 : decode cX5_compareSquare 117 = .ok (.bipush 64, 2) := by decide +kernel
theorem dX5_compareSquare_119 : decode cX5_compareSquare 119 = .ok (.if_icmp .ge 13, 3) := by decide +kernel
theorem dX5_compareSquare_122 : decode cX5_compareSquare 122 = .ok (.lload 9, 2) := by decide +kernel
theorem dX5_compareSquare_124 : decode cX5_compareSquare 124 = .ok (.iload 14, 2) := by decide +kernel
theorem dX5_compareSquare_126 : decode cX5_compareSquare 126 = .ok (.lushr, 1) := by decide +kernel
theorem dX5_compareSquare_127 : decode cX5_compareSquare 127 = .ok (.lconst 1, 1) := by decide +kernel
theorem dX5_compareSquare_128 : decode cX5_compareSquare 128 = .ok (.land, 1) := by decide +kernel
theorem dX5_compareSquare_129 : decode cX5_compareSquare 129 = .ok (.goto 13, 3) := by decide +kernel
theorem dX5_compareSquare_132 : decode cX5_compareSquare 132 = .ok (.lload 7, 2) := by decide +kernel
theorem dX5_compareSquare_134 : decode cX5_compareSquare 134 = .ok (.iload 14, 2) := by decide +kernel
theorem dX5_compareSquare_136 : decode cX5_compareSquare 136 = .ok (.bipush 64, 2) := by decide +kernel
theorem dX5_compareSquare_138 : decode cX5_compareSquare 138 = .ok (.isub, 1) := by decide +kernel
theorem dX5_compareSquare_139 : decode cX5_compareSquare 139 = .ok (.lushr, 1) := by decide +kernel
theorem dX5_compareSquare_140 : decode cX5_compareSquare 140 = .ok (.lconst 1, 1) := by decide +kernel
theorem dX5_compareSquare_141 : decode cX5_compareSquare 141 = .ok (.land, 1) := by decide +kernel
theorem dX5_compareSquare_142 : decode cX5_compareSquare 142 = .ok (.lstore 15, 2) := by decide +kernel
theorem dX5_compareSquare_144 : decode cX5_compareSquare 144 = .ok (.iload 12, 2) := by decide +kernel
theorem dX5_compareSquare_146 : decode cX5_compareSquare 146 = .ok (.iconst 1, 1) := by decide +kernel
theorem dX5_compareSquare_147 : decode cX5_compareSquare 147 = .ok (.ishl, 1) := by decide +kernel
theorem dX5_compareSquare_148 : decode cX5_compareSquare 148 = .ok (.lload 15, 2) := by decide +kernel
theorem dX5_compareSquare_150 : decode cX5_compareSquare 150 = .ok (.l2i, 1) := by decide +kernel
theorem dX5_compareSquare_151 : decode cX5_compareSquare 151 = .ok (.ior, 1) := by decide +kernel
theorem dX5_compareSquare_152 : decode cX5_compareSquare 152 = .ok (.istore 12, 2) := by decide +kernel
theorem dX5_compareSquare_154 : decode cX5_compareSquare 154 = .ok (.iinc 13 (-1), 3) := by decide +kernel
theorem dX5_compareSquare_157 : decode cX5_compareSquare 157 = .ok (.goto (-76), 3) := by decide +kernel
theorem dX5_compareSquare_160 : decode cX5_compareSquare 160 = .ok (.aload_n 0, 1) := by decide +kernel
theorem dX5_compareSquare_161 : decode cX5_compareSquare 161 = .ok (.getfield 51, 3) := by decide +kernel
theorem dX5_compareSquare_164 : decode cX5_compareSquare 164 = .ok (.iload 11, 2) := by decide +kernel
theorem dX5_compareSquare_166 : decode cX5_compareSquare 166 = .ok (.iload 12, 2) := by decide +kernel
theorem dX5_compareSquare_168 : decode cX5_compareSquare 168 = .ok (.iastore, 1) := by decide +kernel
theorem dX5_compareSquare_169 : decode cX5_compareSquare 169 = .ok (.iinc 11 (-1), 3) := by decide +kernel
theorem dX5_compareSquare_172 : decode cX5_compareSquare 172 = .ok (.goto (-103), 3) := by decide +kernel
theorem dX5_compareSquare_175 : decode cX5_compareSquare 175 = .ok (.sipush 151, 3) := by decide +kernel
theorem dX5_compareSquare_178 : decode cX5_compareSquare 178 = .ok (.istore 11, 2) := by decide +kernel
theorem dX5_compareSquare_180 : decode cX5_compareSquare 180 = .ok (.iload 11, 2) := by decide +kernel
theorem dX5_compareSquare_182 : decode cX5_compareSquare 182 = .ok (.ifCond .lt 60, 3) := by decide +kernel
theorem dX5_compareSquare_185 : decode cX5_compareSquare 185 = .ok (.aload_n 0, 1) := by decide +kernel
theorem dX5_compareSquare_186 : decode cX5_compareSquare 186 = .ok (.getfield 51, 3) := by decide +kernel
theorem dX5_compareSquare_189 : decode cX5_compareSquare 189 = .ok (.iload 11, 2) := by decide +kernel
theorem dX5_compareSquare_191 : decode cX5_compareSquare 191 = .ok (.iaload, 1) := by decide +kernel
theorem dX5_compareSquare_192 : decode cX5_compareSquare 192 = .ok (.aload_n 0, 1) := by decide +kernel
theorem dX5_compareSquare_193 : decode cX5_compareSquare 193 = .ok (.getfield 48, 3) := by decide +kernel
theorem dX5_compareSquare_196 : decode cX5_compareSquare 196 = .ok (.iload 11, 2) := by decide +kernel
theorem dX5_compareSquare_198 : decode cX5_compareSquare 198 = .ok (.iaload, 1) := by decide +kernel
theorem dX5_compareSquare_199 : decode cX5_compareSquare 199 = .ok (.if_icmp .eq 37, 3) := by decide +kernel
theorem dX5_compareSquare_202 : decode cX5_compareSquare 202 = .ok (.aload_n 0, 1) := by decide +kernel
theorem dX5_compareSquare_203 : decode cX5_compareSquare 203 = .ok (.getfield 51, 3) := by decide +kernel
theorem dX5_compareSquare_206 : decode cX5_compareSquare 206 = .ok (.iload 11, 2) := by decide +kernel
theorem dX5_compareSquare_208 : decode cX5_compareSquare 208 = .ok (.iaload, 1) := by decide +kernel
theorem dX5_compareSquare_209 : decode cX5_compareSquare 209 = .ok (.i2l, 1) := by decide +kernel
theorem dX5_compareSquare_210 : decode cX5_compareSquare 210 = .ok (.ldc2_w 150, 3) := by decide +kernel
theorem dX5_compareSquare_213 : decode cX5_compareSquare 213 = .ok (.land, 1) := by decide +kernel
theorem dX5_compareSquare_214 : decode cX5_compareSquare 214 = .ok (.aload_n 0, 1) := by decide +kernel
theorem dX5_compareSquare_215 : decode cX5_compareSquare 215 = .ok (.getfield 48, 3) := by decide +kernel
theorem dX5_compareSquare_218 : decode cX5_compareSquare 218 = .ok (.iload 11, 2) := by decide +kernel
theorem dX5_compareSquare_220 : decode cX5_compareSquare 220 = .ok (.iaload, 1) := by decide +kernel
theorem dX5_compareSquare_221 : decode cX5_compareSquare 221 = .ok (.i2l, 1) := by decide +kernel
theorem dX5_compareSquare_222 : decode cX5_compareSquare 222 = .ok (.ldc2_w 150, 3) := by decide +kernel
theorem dX5_compareSquare_225 : decode cX5_compareSquare 225 = .ok (.land, 1) := by decide +kernel
theorem dX5_compareSquare_226 : decode cX5_compareSquare 226 = .ok (.lcmp, 1) := by decide +kernel
theorem dX5_compareSquare_227 : decode cX5_compareSquare 227 = .ok (.ifCond .ge 7, 3) := by decide +kernel
theorem dX5_compareSquare_230 : decode cX5_compareSquare 230 = .ok (.iconst (-1), 1) := by decide +kernel
theorem dX5_compareSquare_231 : decode cX5_compareSquare 231 = .ok (.goto 4, 3) := by decide +kernel
theorem dX5_compareSquare_234 : decode cX5_compareSquare 234 = .ok (.iconst 1, 1) := by decide +kernel
theorem dX5_compareSquare_235 : decode cX5_compareSquare 235 = .ok (.ireturn, 1) := by decide +kernel
theorem dX5_compareSquare_236 : decode cX5_compareSquare 236 = .ok (.iinc 11 (-1), 3) := by decide +kernel
theorem dX5_compareSquare_239 : decode cX5_compareSquare 239 = .ok (.goto (-59), 3) := by decide +kernel
theorem dX5_compareSquare_242 : decode cX5_compareSquare 242 = .ok (.iconst 0, 1) := by decide +kernel
theorem dX5_compareSquare_243 : decode cX5_compareSquare 243 = .ok (.ireturn, 1) := by decide +kernel
theorem dX5_doubleOf_0 : decode cX5_doubleOf 0 = .ok (.lload_n 1, 1) := by decide +kernel
theorem dX5_doubleOf_1 : decode cX5_doubleOf 1 = .ok (.bipush 52, 2) := by decide +kernel
theorem dX5_doubleOf_3 : decode cX5_doubleOf 3 = .ok (.lshr, 1) := by decide +kernel
theorem dX5_doubleOf_4 : decode cX5_doubleOf 4 = .ok (.l2i, 1) := by decide +kernel
theorem dX5_doubleOf_5 : decode cX5_doubleOf 5 = .ok (.istore_n 3, 1) := by decide +kernel
theorem dX5_doubleOf_6 : decode cX5_doubleOf 6 = .ok (.lload_n 1, 1) := by decide +kernel
theorem dX5_doubleOf_7 : decode cX5_doubleOf 7 = .ok (.ldc2_w 257, 3) := by decide +kernel
theorem dX5_doubleOf_10 : decode cX5_doubleOf 10 = .ok (.land, 1) := by decide +kernel
theorem dX5_doubleOf_11 : decode cX5_doubleOf 11 = .ok (.lstore 4, 2) := by decide +kernel
theorem dX5_doubleOf_13 : decode cX5_doubleOf 13 = .ok (.iload_n 3, 1) := by decide +kernel
theorem dX5_doubleOf_14 : decode cX5_doubleOf 14 = .ok (.ifCond .ne 14, 3) := by decide +kernel
theorem dX5_doubleOf_17 : decode cX5_doubleOf 17 = .ok (.lload 4, 2) := by decide +kernel
theorem dX5_doubleOf_19 : decode cX5_doubleOf 19 = .ok (.sipush (-1074), 3) := by decide +kernel
theorem dX5_doubleOf_22 : decode cX5_doubleOf 22 = .ok (.invokestatic 89, 3) := by decide +kernel
theorem dX5_doubleOf_25 : decode cX5_doubleOf 25 = .ok (.goto 17, 3) := by decide +kernel
theorem dX5_doubleOf_28 : decode cX5_doubleOf 28 = .ok (.lload 4, 2) := by decide +kernel
theorem dX5_doubleOf_30 : decode cX5_doubleOf 30 = .ok (.ldc2_w 259, 3) := by decide +kernel
theorem dX5_doubleOf_33 : decode cX5_doubleOf 33 = .ok (.ladd, 1) := by decide +kernel
theorem dX5_doubleOf_34 : decode cX5_doubleOf 34 = .ok (.iload_n 3, 1) := by decide +kernel
theorem dX5_doubleOf_35 : decode cX5_doubleOf 35 = .ok (.sipush 1075, 3) := by decide +kernel
theorem dX5_doubleOf_38 : decode cX5_doubleOf 38 = .ok (.isub, 1) := by decide +kernel
theorem dX5_doubleOf_39 : decode cX5_doubleOf 39 = .ok (.invokestatic 89, 3) := by decide +kernel
theorem dX5_doubleOf_42 : decode cX5_doubleOf 42 = .ok (.dreturn, 1) := by decide +kernel
theorem dX5_length_0 : decode cX5_length 0 = .ok (.aload_n 0, 1) := by decide +kernel
theorem dX5_length_1 : decode cX5_length 1 = .ok (.iconst 0, 1) := by decide +kernel
theorem dX5_length_2 : decode cX5_length 2 = .ok (.putfield 54, 3) := by decide +kernel
theorem dX5_length_5 : decode cX5_length 5 = .ok (.iload_n 1, 1) := by decide +kernel
theorem dX5_length_6 : decode cX5_length 6 = .ok (.invokestatic 136, 3) := by decide +kernel
theorem dX5_length_9 : decode cX5_length 9 = .ok (.ifCond .eq 22, 3) := by decide +kernel
theorem dX5_length_12 : decode cX5_length 12 = .ok (.aload_n 0, 1) := by decide +kernel
theorem dX5_length_13 : decode cX5_length 13 = .ok (.getfield 27, 3) := by decide +kernel
theorem dX5_length_16 : decode cX5_length 16 = .ok (.iload_n 1, 1) := by decide +kernel
theorem dX5_length_17 : decode cX5_length 17 = .ok (.iaload, 1) := by decide +kernel
theorem dX5_length_18 : decode cX5_length 18 = .ok (.iconst (-1), 1) := by decide +kernel
theorem dX5_length_19 : decode cX5_length 19 = .ok (.if_icmp .eq 12, 3) := by decide +kernel
theorem dX5_length_22 : decode cX5_length 22 = .ok (.aload_n 0, 1) := by decide +kernel
theorem dX5_length_23 : decode cX5_length 23 = .ok (.getfield 27, 3) := by decide +kernel
theorem dX5_length_26 : decode cX5_length 26 = .ok (.iload_n 1, 1) := by decide +kernel
theorem dX5_length_27 : decode cX5_length 27 = .ok (.iaload, 1) := by decide +kernel
theorem dX5_length_28 : decode cX5_length 28 = .ok (.ifCond .ne 5, 3) := by decide +kernel
theorem dX5_length_31 : decode cX5_length 31 = .ok (.dconst 0, 1) := by decide +kernel
theorem dX5_length_32 : decode cX5_length 32 = .ok (.dreturn, 1) := by decide +kernel
theorem dX5_length_33 : decode cX5_length 33 = .ok (.aload_n 0, 1) := by decide +kernel
theorem dX5_length_34 : decode cX5_length 34 = .ok (.iload_n 1, 1) := by decide +kernel
theorem dX5_length_35 : decode cX5_length 35 = .ok (.invokevirtual 229, 3) := by decide +kernel
theorem dX5_length_38 : decode cX5_length 38 = .ok (.istore_n 3, 1) := by decide +kernel
theorem dX5_length_39 : decode cX5_length 39 = .ok (.iload_n 3, 1) := by decide +kernel
theorem dX5_length_40 : decode cX5_length 40 = .ok (.ifCond .eq 16, 3) := by decide +kernel
theorem dX5_length_43 : decode cX5_length 43 = .ok (.iload_n 3, 1) := by decide +kernel
theorem dX5_length_44 : decode cX5_length 44 = .ok (.iconst 1, 1) := by decide +kernel
theorem dX5_length_45 : decode cX5_length 45 = .ok (.if_icmp .ne 9, 3) := by decide +kernel
theorem dX5_length_48 : decode cX5_length 48 = .ok (.ldc2_w 122, 3) := by decide +kernel
theorem dX5_length_51 : decode cX5_length 51 = .ok (.goto 4, 3) := by decide +kernel
theorem dX5_length_54 : decode cX5_length 54 = .ok (.dconst 0, 1) := by decide +kernel
theorem dX5_length_55 : decode cX5_length 55 = .ok (.dreturn, 1) := by decide +kernel
theorem dX5_length_56 : decode cX5_length 56 = .ok (.aload_n 0, 1) := by decide +kernel
theorem dX5_length_57 : decode cX5_length 57 = .ok (.iload_n 1, 1) := by decide +kernel
theorem dX5_length_58 : decode cX5_length 58 = .ok (.invokevirtual 248, 3) := by decide +kernel
theorem dX5_length_61 : decode cX5_length 61 = .ok (.aload_n 0, 1) := by decide +kernel
theorem dX5_length_62 : decode cX5_length 62 = .ok (.getfield 231, 3) := by decide +kernel
theorem dX5_length_65 : decode cX5_length 65 = .ok (.ifCond .eq 5, 3) := by decide +kernel
theorem dX5_length_68 : decode cX5_length 68 = .ok (.dconst 0, 1) := by decide +kernel
theorem dX5_length_69 : decode cX5_length 69 = .ok (.dreturn, 1) := by decide +kernel
theorem dX5_length_70 : decode cX5_length 70 = .ok (.ldc2_w 261, 3) := by decide +kernel
theorem dX5_length_73 : decode cX5_length 73 = .ok (.lstore 4, 2) := by decide +kernel
theorem dX5_length_75 : decode cX5_length 75 = .ok (.lconst 0, 1) := by decide +kernel
theorem dX5_length_76 : decode cX5_length 76 = .ok (.lstore 6, 2) := by decide +kernel
theorem dX5_length_78 : decode cX5_length 78 = .ok (.lload 4, 2) := by decide +kernel
theorem dX5_length_80 : decode cX5_length 80 = .ok (.lstore 8, 2) := by decide +kernel
theorem dX5_length_82 : decode cX5_length 82 = .ok (.lload 6, 2) := by decide +kernel
theorem dX5_length_84 : decode cX5_length 84 = .ok (.lload 8, 2) := by decide +kernel
theorem dX5_length_86 : decode cX5_length 86 = .ok (.lcmp, 1) := by decide +kernel
theorem dX5_length_87 : decode cX5_length 87 = .ok (.ifCond .ge 44, 3) := by decide +kernel
theorem dX5_length_90 : decode cX5_length 90 = .ok (.lload 6, 2) := by decide +kernel
theorem dX5_length_92 : decode cX5_length 92 = .ok (.lload 8, 2) := by decide +kernel
theorem dX5_length_94 : decode cX5_length 94 = .ok (.lload 6, 2) := by decide +kernel
theorem dX5_length_96 : decode cX5_length 96 = .ok (.lsub, 1) := by decide +kernel
theorem dX5_length_97 : decode cX5_length 97 = .ok (.lconst 1, 1) := by decide +kernel
theorem dX5_length_98 : decode cX5_length 98 = .ok (.ladd, 1) := by decide +kernel
theorem dX5_length_99 : decode cX5_length 99 = .ok (.ldc2_w 139, 3) := by decide +kernel
theorem dX5_length_102 : decode cX5_length 102 = .ok (.ldiv, 1) := by decide +kernel
theorem dX5_length_103 : decode cX5_length 103 = .ok (.ladd, 1) := by decide +kernel
theorem dX5_length_104 : decode cX5_length 104 = .ok (.lstore 10, 2) := by decide +kernel
theorem dX5_length_106 : decode cX5_length 106 = .ok (.aload_n 0, 1) := by decide +kernel
theorem dX5_length_107 : decode cX5_length 107 = .ok (.lload 10, 2) := by decide +kernel
theorem dX5_length_109 : decode cX5_length 109 = .ok (.invokevirtual 263, 3) := by decide +kernel
theorem dX5_length_112 : decode cX5_length 112 = .ok (.ifCond .gt 10, 3) := by decide +kernel
theorem dX5_length_115 : decode cX5_length 115 = .ok (.lload 10, 2) := by decide +kernel
theorem dX5_length_117 : decode cX5_length 117 = .ok (.lstore 6, 2) := by decide +kernel
theorem dX5_length_119 : decode cX5_length 119 = .ok (.goto 9, 3) := by decide +kernel
theorem dX5_length_122 : decode cX5_length 122 = .ok (.lload 10, 2) := by decide +kernel
theorem dX5_length_124 : decode cX5_length 124 = .ok (.lconst 1, 1) := by decide +kernel
theorem dX5_length_125 : decode cX5_length 125 = .ok (.lsub, 1) := by decide +kernel
theorem dX5_length_126 : decode cX5_length 126 = .ok (.lstore 8, 2) := by decide +kernel
theorem dX5_length_128 : decode cX5_length 128 = .ok (.goto (-46), 3) := by decide +kernel
theorem dX5_length_131 : decode cX5_length 131 = .ok (.iload_n 2, 1) := by decide +kernel
theorem dX5_length_132 : decode cX5_length 132 = .ok (.ifCond .eq 12, 3) := by decide +kernel
theorem dX5_length_135 : decode cX5_length 135 = .ok (.aload_n 0, 1) := by decide +kernel
theorem dX5_length_136 : decode cX5_length 136 = .ok (.lload 6, 2) := by decide +kernel
theorem dX5_length_138 : decode cX5_length 138 = .ok (.invokevirtual 263, 3) := by decide +kernel
theorem dX5_length_141 : decode cX5_length 141 = .ok (.ifCond .ne 10, 3) := by decide +kernel
theorem dX5_length_144 : decode cX5_length 144 = .ok (.aload_n 0, 1) := by decide +kernel
theorem dX5_length_145 : decode cX5_length 145 = .ok (.lload 6, 2) := by decide +kernel
theorem dX5_length_147 : decode cX5_length 147 = .ok (.invokevirtual 267, 3) := by decide +kernel
theorem dX5_length_150 : decode cX5_length 150 = .ok (.dreturn, 1) := by decide +kernel
theorem dX5_length_151 : decode cX5_length 151 = .ok (.lload 6, 2) := by decide +kernel
theorem dX5_length_153 : decode cX5_length 153 = .ok (.lload 4, 2) := by decide +kernel
theorem dX5_length_155 : decode cX5_length 155 = .ok (.lcmp, 1) := by decide +kernel
theorem dX5_length_156 : decode cX5_length 156 = .ok (.ifCond .ne 9, 3) := by decide +kernel
theorem dX5_length_159 : decode cX5_length 159 = .ok (.ldc2_w 122, 3) := by decide +kernel
theorem dX5_length_162 : decode cX5_length 162 = .ok (.goto 11, 3) := by decide +kernel
theorem dX5_length_165 : decode cX5_length 165 = .ok (.aload_n 0, 1) := by decide +kernel
theorem dX5_length_166 : decode cX5_length 166 = .ok (.lload 6, 2) := by decide +kernel
theorem dX5_length_168 : decode cX5_length 168 = .ok (.lconst 1, 1) := by decide +kernel
theorem dX5_length_169 : decode cX5_length 169 = .ok (.ladd, 1) := by decide +kernel
theorem dX5_length_170 : decode cX5_length 170 = .ok (.invokevirtual 267, 3) := by decide +kernel
theorem dX5_length_173 : decode cX5_length 173 = .ok (.dreturn, 1) := by decide +kernel
theorem dX5_sign_0 : decode cX5_sign 0 = .ok (.aload_n 0, 1) := by decide +kernel
theorem dX5_sign_1 : decode cX5_sign 1 = .ok (.iconst 0, 1) := by decide +kernel
theorem dX5_sign_2 : decode cX5_sign 2 = .ok (.putfield 54, 3) := by decide +kernel
theorem dX5_sign_5 : decode cX5_sign 5 = .ok (.iload_n 1, 1) := by decide +kernel
theorem dX5_sign_6 : decode cX5_sign 6 = .ok (.invokestatic 136, 3) := by decide +kernel
theorem dX5_sign_9 : decode cX5_sign 9 = .ok (.ifCond .ne 6, 3) := by decide +kernel
theorem dX5_sign_12 : decode cX5_sign 12 = .ok (.bipush (-3), 2) := by decide +kernel
theorem dX5_sign_14 : decode cX5_sign 14 = .ok (.ireturn, 1) := by decide +kernel
theorem dX5_sign_15 : decode cX5_sign 15 = .ok (.aload_n 0, 1) := by decide +kernel
theorem dX5_sign_16 : decode cX5_sign 16 = .ok (.getfield 27, 3) := by decide +kernel
theorem dX5_sign_19 : decode cX5_sign 19 = .ok (.iload_n 1, 1) := by decide +kernel
theorem dX5_sign_20 : decode cX5_sign 20 = .ok (.iaload, 1) := by decide +kernel
theorem dX5_sign_21 : decode cX5_sign 21 = .ok (.iconst (-1), 1) := by decide +kernel
theorem dX5_sign_22 : decode cX5_sign 22 = .ok (.if_icmp .ne 6, 3) := by decide +kernel
theorem dX5_sign_25 : decode cX5_sign 25 = .ok (.bipush (-11), 2) := by decide +kernel
theorem dX5_sign_27 : decode cX5_sign 27 = .ok (.ireturn, 1) := by decide +kernel
theorem dX5_sign_28 : decode cX5_sign 28 = .ok (.aload_n 0, 1) := by decide +kernel
theorem dX5_sign_29 : decode cX5_sign 29 = .ok (.iload_n 1, 1) := by decide +kernel
theorem dX5_sign_30 : decode cX5_sign 30 = .ok (.invokevirtual 248, 3) := by decide +kernel
theorem dX5_sign_33 : decode cX5_sign 33 = .ok (.aload_n 0, 1) := by decide +kernel
theorem dX5_sign_34 : decode cX5_sign 34 = .ok (.invokevirtual 240, 3) := by decide +kernel
theorem dX5_sign_37 : decode cX5_sign 37 = .ok (.iconst (-1), 1) := by decide +kernel
theorem dX5_sign_38 : decode cX5_sign 38 = .ok (.if_icmp .ne 7, 3) := by decide +kernel
theorem dX5_sign_41 : decode cX5_sign 41 = .ok (.iconst 0, 1) := by decide +kernel
theorem dX5_sign_42 : decode cX5_sign 42 = .ok (.goto 15, 3) := by decide +kernel
theorem dX5_sign_45 : decode cX5_sign 45 = .ok (.aload_n 0, 1) := by decide +kernel
theorem dX5_sign_46 : decode cX5_sign 46 = .ok (.getfield 231, 3) := by decide +kernel
theorem dX5_sign_49 : decode cX5_sign 49 = .ok (.ifCond .eq 7, 3) := by decide +kernel
theorem dX5_sign_52 : decode cX5_sign 52 = .ok (.iconst 2, 1) := by decide +kernel
theorem dX5_sign_53 : decode cX5_sign 53 = .ok (.goto 4, 3) := by decide +kernel
theorem dX5_sign_56 : decode cX5_sign 56 = .ok (.iconst 1, 1) := by decide +kernel
theorem dX5_sign_57 : decode cX5_sign 57 = .ok (.ireturn, 1) := by decide +kernel
theorem dX5_high_0 : decode cX5_high 0 = .ok (.aload_n 0, 1) := by decide +kernel
theorem dX5_high_1 : decode cX5_high 1 = .ok (.iconst 0, 1) := by decide +kernel
theorem dX5_high_2 : decode cX5_high 2 = .ok (.putfield 54, 3) := by decide +kernel
theorem dX5_high_5 : decode cX5_high 5 = .ok (.iload_n 1, 1) := by decide +kernel
theorem dX5_high_6 : decode cX5_high 6 = .ok (.invokestatic 136, 3) := by decide +kernel
theorem dX5_high_9 : decode cX5_high 9 = .ok (.ifCond .ne 7, 3) := by decide +kernel
theorem dX5_high_12 : decode cX5_high 12 = .ok (.sipush (-10002), 3) := by decide +kernel
theorem dX5_high_15 : decode cX5_high 15 = .ok (.ireturn, 1) := by decide +kernel
theorem dX5_high_16 : decode cX5_high 16 = .ok (.aload_n 0, 1) := by decide +kernel
theorem dX5_high_17 : decode cX5_high 17 = .ok (.getfield 27, 3) := by decide +kernel
theorem dX5_high_20 : decode cX5_high 20 = .ok (.iload_n 1, 1) := by decide +kernel
theorem dX5_high_21 : decode cX5_high 21 = .ok (.iaload, 1) := by decide +kernel
theorem dX5_high_22 : decode cX5_high 22 = .ok (.iconst (-1), 1) := by decide +kernel
theorem dX5_high_23 : decode cX5_high 23 = .ok (.if_icmp .ne 7, 3) := by decide +kernel
theorem dX5_high_26 : decode cX5_high 26 = .ok (.sipush (-10010), 3) := by decide +kernel
theorem dX5_high_29 : decode cX5_high 29 = .ok (.ireturn, 1) := by decide +kernel
theorem dX5_high_30 : decode cX5_high 30 = .ok (.aload_n 0, 1) := by decide +kernel
theorem dX5_high_31 : decode cX5_high 31 = .ok (.iload_n 1, 1) := by decide +kernel
theorem dX5_high_32 : decode cX5_high 32 = .ok (.invokevirtual 248, 3) := by decide +kernel
theorem dX5_high_35 : decode cX5_high 35 = .ok (.aload_n 0, 1) := by decide +kernel
theorem dX5_high_36 : decode cX5_high 36 = .ok (.invokevirtual 240, 3) := by decide +kernel
theorem dX5_high_39 : decode cX5_high 39 = .ok (.istore_n 2, 1) := by decide +kernel
theorem dX5_high_40 : decode cX5_high 40 = .ok (.iload_n 2, 1) := by decide +kernel
theorem dX5_high_41 : decode cX5_high 41 = .ok (.iconst (-1), 1) := by decide +kernel
theorem dX5_high_42 : decode cX5_high 42 = .ok (.if_icmp .ne 9, 3) := by decide +kernel
theorem dX5_high_45 : decode cX5_high 45 = .ok (.sipush (-10000), 3) := by decide +kernel
theorem dX5_high_48 : decode cX5_high 48 = .ok (.goto 8, 3) := by decide +kernel
theorem dX5_high_51 : decode cX5_high 51 = .ok (.iload_n 2, 1) := by decide +kernel
theorem dX5_high_52 : decode cX5_high 52 = .ok (.sipush 2148, 3) := by decide +kernel
theorem dX5_high_55 : decode cX5_high 55 = .ok (.isub, 1) := by decide +kernel
theorem dX5_high_56 : decode cX5_high 56 = .ok (.ireturn, 1) := by decide +kernel
theorem dX5_bit_0 : decode cX5_bit 0 = .ok (.aload_n 0, 1) := by decide +kernel
theorem dX5_bit_1 : decode cX5_bit 1 = .ok (.iconst 0, 1) := by decide +kernel
theorem dX5_bit_2 : decode cX5_bit 2 = .ok (.putfield 54, 3) := by decide +kernel
theorem dX5_bit_5 : decode cX5_bit 5 = .ok (.iload_n 1, 1) := by decide +kernel
theorem dX5_bit_6 : decode cX5_bit 6 = .ok (.invokestatic 136, 3) := by decide +kernel
theorem dX5_bit_9 : decode cX5_bit 9 = .ok (.ifCond .eq 17, 3) := by decide +kernel
theorem dX5_bit_12 : decode cX5_bit 12 = .ok (.iload_n 2, 1) := by decide +kernel
theorem dX5_bit_13 : decode cX5_bit 13 = .ok (.i2l, 1) := by decide +kernel
theorem dX5_bit_14 : decode cX5_bit 14 = .ok (.ldc2_w 271, 3) := by decide +kernel
theorem dX5_bit_17 : decode cX5_bit 17 = .ok (.ldc2_w 273, 3) := by decide +kernel
theorem dX5_bit_20 : decode cX5_bit 20 = .ok (.invokestatic 60, 3) := by decide +kernel
theorem dX5_bit_23 : decode cX5_bit 23 = .ok (.ifCond .ne 6, 3) := by decide +kernel
theorem dX5_bit_26 : decode cX5_bit 26 = .ok (.bipush (-3), 2) := by decide +kernel
theorem dX5_bit_28 : decode cX5_bit 28 = .ok (.ireturn, 1) := by decide +kernel
theorem dX5_bit_29 : decode cX5_bit 29 = .ok (.aload_n 0, 1) := by decide +kernel
theorem dX5_bit_30 : decode cX5_bit 30 = .ok (.getfield 27, 3) := by decide +kernel
theorem dX5_bit_33 : decode cX5_bit 33 = .ok (.iload_n 1, 1) := by decide +kernel
theorem dX5_bit_34 : decode cX5_bit 34 = .ok (.iaload, 1) := by decide +kernel
theorem dX5_bit_35 : decode cX5_bit 35 = .ok (.iconst (-1), 1) := by decide +kernel
theorem dX5_bit_36 : decode cX5_bit 36 = .ok (.if_icmp .ne 6, 3) := by decide +kernel
theorem dX5_bit_39 : decode cX5_bit 39 = .ok (.bipush (-11), 2) := by decide +kernel
theorem dX5_bit_41 : decode cX5_bit 41 = .ok (.ireturn, 1) := by decide +kernel
theorem dX5_bit_42 : decode cX5_bit 42 = .ok (.aload_n 0, 1) := by decide +kernel
theorem dX5_bit_43 : decode cX5_bit 43 = .ok (.iload_n 1, 1) := by decide +kernel
theorem dX5_bit_44 : decode cX5_bit 44 = .ok (.invokevirtual 248, 3) := by decide +kernel
theorem dX5_bit_47 : decode cX5_bit 47 = .ok (.aload_n 0, 1) := by decide +kernel
theorem dX5_bit_48 : decode cX5_bit 48 = .ok (.iload_n 2, 1) := by decide +kernel
theorem dX5_bit_49 : decode cX5_bit 49 = .ok (.sipush 2148, 3) := by decide +kernel
theorem dX5_bit_52 : decode cX5_bit 52 = .ok (.iadd, 1) := by decide +kernel
theorem dX5_bit_53 : decode cX5_bit 53 = .ok (.invokevirtual 237, 3) := by decide +kernel
theorem dX5_bit_56 : decode cX5_bit 56 = .ok (.ireturn, 1) := by decide +kernel
theorem dX5_order_0 : decode cX5_order 0 = .ok (.aload_n 0, 1) := by decide +kernel
theorem dX5_order_1 : decode cX5_order 1 = .ok (.iconst 0, 1) := by decide +kernel
theorem dX5_order_2 : decode cX5_order 2 = .ok (.putfield 54, 3) := by decide +kernel
theorem dX5_order_5 : decode cX5_order 5 = .ok (.iload_n 1, 1) := by decide +kernel
theorem dX5_order_6 : decode cX5_order 6 = .ok (.invokestatic 136, 3) := by decide +kernel
theorem dX5_order_9 : decode cX5_order 9 = .ok (.ifCond .eq 10, 3) := by decide +kernel
theorem dX5_order_12 : decode cX5_order 12 = .ok (.iload_n 2, 1) := by decide +kernel
theorem dX5_order_13 : decode cX5_order 13 = .ok (.invokestatic 136, 3) := by decide +kernel
theorem dX5_order_16 : decode cX5_order 16 = .ok (.ifCond .ne 6, 3) := by decide +kernel
theorem dX5_order_19 : decode cX5_order 19 = .ok (.bipush (-3), 2) := by decide +kernel
theorem dX5_order_21 : decode cX5_order 21 = .ok (.ireturn, 1) := by decide +kernel
theorem dX5_order_22 : decode cX5_order 22 = .ok (.aload_n 0, 1) := by decide +kernel
theorem dX5_order_23 : decode cX5_order 23 = .ok (.getfield 27, 3) := by decide +kernel
theorem dX5_order_26 : decode cX5_order 26 = .ok (.iload_n 1, 1) := by decide +kernel
theorem dX5_order_27 : decode cX5_order 27 = .ok (.iaload, 1) := by decide +kernel
theorem dX5_order_28 : decode cX5_order 28 = .ok (.iconst (-1), 1) := by decide +kernel
theorem dX5_order_29 : decode cX5_order 29 = .ok (.if_icmp .eq 13, 3) := by decide +kernel
theorem dX5_order_32 : decode cX5_order 32 = .ok (.aload_n 0, 1) := by decide +kernel
theorem dX5_order_33 : decode cX5_order 33 = .ok (.getfield 27, 3) := by decide +kernel
theorem dX5_order_36 : decode cX5_order 36 = .ok (.iload_n 2, 1) := by decide +kernel
theorem dX5_order_37 : decode cX5_order 37 = .ok (.iaload, 1) := by decide +kernel
theorem dX5_order_38 : decode cX5_order 38 = .ok (.iconst (-1), 1) := by decide +kernel
theorem dX5_order_39 : decode cX5_order 39 = .ok (.if_icmp .ne 6, 3) := by decide +kernel
theorem dX5_order_42 : decode cX5_order 42 = .ok (.bipush (-11), 2) := by decide +kernel
theorem dX5_order_44 : decode cX5_order 44 = .ok (.ireturn, 1) := by decide +kernel
theorem dX5_order_45 : decode cX5_order 45 = .ok (.sipush 152, 3) := by decide +kernel
theorem dX5_order_48 : decode cX5_order 48 = .ok (.iload_n 1, 1) := by decide +kernel
theorem dX5_order_49 : decode cX5_order 49 = .ok (.imul, 1) := by decide +kernel
theorem dX5_order_50 : decode cX5_order 50 = .ok (.sipush 152, 3) := by decide +kernel
theorem dX5_order_53 : decode cX5_order 53 = .ok (.iadd, 1) := by decide +kernel
theorem dX5_order_54 : decode cX5_order 54 = .ok (.iconst 1, 1) := by decide +kernel
theorem dX5_order_55 : decode cX5_order 55 = .ok (.isub, 1) := by decide +kernel
theorem dX5_order_56 : decode cX5_order 56 = .ok (.istore_n 3, 1) := by decide +kernel
theorem dX5_order_57 : decode cX5_order 57 = .ok (.sipush 152, 3) := by decide +kernel
theorem dX5_order_60 : decode cX5_order 60 = .ok (.iload_n 2, 1) := by decide +kernel
theorem dX5_order_61 : decode cX5_order 61 = .ok (.imul, 1) := by decide +kernel
theorem dX5_order_62 : decode cX5_order 62 = .ok (.sipush 152, 3) := by decide +kernel
theorem dX5_order_65 : decode cX5_order 65 = .ok (.iadd, 1) := by decide +kernel
theorem dX5_order_66 : decode cX5_order 66 = .ok (.iconst 1, 1) := by decide +kernel
theorem dX5_order_67 : decode cX5_order 67 = .ok (.isub, 1) := by decide +kernel
theorem dX5_order_68 : decode cX5_order 68 = .ok (.istore 4, 2) := by decide +kernel
theorem dX5_order_70 : decode cX5_order 70 = .ok (.aload_n 0, 1) := by decide +kernel
theorem dX5_order_71 : decode cX5_order 71 = .ok (.getfield 30, 3) := by decide +kernel
theorem dX5_order_74 : decode cX5_order 74 = .ok (.iload_n 3, 1) := by decide +kernel
theorem dX5_order_75 : decode cX5_order 75 = .ok (.iaload, 1) := by decide +kernel
theorem dX5_order_76 : decode cX5_order 76 = .ok (.aload_n 0, 1) := by decide +kernel
theorem dX5_order_77 : decode cX5_order 77 = .ok (.getfield 30, 3) := by decide +kernel
theorem dX5_order_80 : decode cX5_order 80 = .ok (.iload 4, 2) := by decide +kernel
theorem dX5_order_82 : decode cX5_order 82 = .ok (.iaload, 1) := by decide +kernel
theorem dX5_order_83 : decode cX5_order 83 = .ok (.if_icmp .eq 25, 3) := by decide +kernel
theorem dX5_order_86 : decode cX5_order 86 = .ok (.aload_n 0, 1) := by decide +kernel
theorem dX5_order_87 : decode cX5_order 87 = .ok (.getfield 30, 3) := by decide +kernel
theorem dX5_order_90 : decode cX5_order 90 = .ok (.iload_n 3, 1) := by decide +kernel
theorem dX5_order_91 : decode cX5_order 91 = .ok (.iaload, 1) := by decide +kernel
theorem dX5_order_92 : decode cX5_order 92 = .ok (.aload_n 0, 1) := by decide +kernel
theorem dX5_order_93 : decode cX5_order 93 = .ok (.getfield 30, 3) := by decide +kernel
theorem dX5_order_96 : decode cX5_order 96 = .ok (.iload 4, 2) := by decide +kernel
theorem dX5_order_98 : decode cX5_order 98 = .ok (.iaload, 1) := by decide +kernel
theorem dX5_order_99 : decode cX5_order 99 = .ok (.if_icmp .ge 7, 3) := by decide +kernel
theorem dX5_order_102 : decode cX5_order 102 = .ok (.iconst 2, 1) := by decide +kernel
theorem dX5_order_103 : decode cX5_order 103 = .ok (.goto 4, 3) := by decide +kernel
theorem dX5_order_106 : decode cX5_order 106 = .ok (.iconst 3, 1) := by decide +kernel
theorem dX5_order_107 : decode cX5_order 107 = .ok (.ireturn, 1) := by decide +kernel
theorem dX5_order_108 : decode cX5_order 108 = .ok (.iconst 1, 1) := by decide +kernel
theorem dX5_order_109 : decode cX5_order 109 = .ok (.istore 5, 2) := by decide +kernel
theorem dX5_order_111 : decode cX5_order 111 = .ok (.iload 5, 2) := by decide +kernel
theorem dX5_order_113 : decode cX5_order 113 = .ok (.sipush 152, 3) := by decide +kernel
theorem dX5_order_116 : decode cX5_order 116 = .ok (.if_icmp .ge 70, 3) := by decide +kernel
theorem dX5_order_119 : decode cX5_order 119 = .ok (.aload_n 0, 1) := by decide +kernel
theorem dX5_order_120 : decode cX5_order 120 = .ok (.getfield 30, 3) := by decide +kernel
theorem dX5_order_123 : decode cX5_order 123 = .ok (.iload_n 3, 1) := by decide +kernel
theorem dX5_order_124 : decode cX5_order 124 = .ok (.iload 5, 2) := by decide +kernel
theorem dX5_order_126 : decode cX5_order 126 = .ok (.isub, 1) := by decide +kernel
theorem dX5_order_127 : decode cX5_order 127 = .ok (.iaload, 1) := by decide +kernel
