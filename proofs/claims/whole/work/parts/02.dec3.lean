theorem dX8_heaviest_12 : decode cX8_heaviest 12 = .ok (.bipush 7, 2) := by decide +kernel
theorem dX8_heaviest_14 : decode cX8_heaviest 14 = .ok (.idiv, 1) := by decide +kernel
theorem dX8_heaviest_15 : decode cX8_heaviest 15 = .ok (.iload_n 2, 1) := by decide +kernel
theorem dX8_heaviest_16 : decode cX8_heaviest 16 = .ok (.bipush 7, 2) := by decide +kernel
theorem dX8_heaviest_18 : decode cX8_heaviest 18 = .ok (.irem, 1) := by decide +kernel
theorem dX8_heaviest_19 : decode cX8_heaviest 19 = .ok (.if_icmp .ge 25, 3) := by decide +kernel
theorem dX8_heaviest_22 : decode cX8_heaviest 22 = .ok (.aload_n 0, 1) := by decide +kernel
theorem dX8_heaviest_23 : decode cX8_heaviest 23 = .ok (.getfield 68, 3) := by decide +kernel
theorem dX8_heaviest_26 : decode cX8_heaviest 26 = .ok (.iload_n 2, 1) := by decide +kernel
theorem dX8_heaviest_27 : decode cX8_heaviest 27 = .ok (.baload, 1) := by decide +kernel
theorem dX8_heaviest_28 : decode cX8_heaviest 28 = .ok (.ifCond .ne 16, 3) := by decide +kernel
theorem dX8_heaviest_31 : decode cX8_heaviest 31 = .ok (.aload_n 0, 1) := by decide +kernel
theorem dX8_heaviest_32 : decode cX8_heaviest 32 = .ok (.getfield 62, 3) := by decide +kernel
theorem dX8_heaviest_35 : decode cX8_heaviest 35 = .ok (.iload_n 2, 1) := by decide +kernel
theorem dX8_heaviest_36 : decode cX8_heaviest 36 = .ok (.iaload, 1) := by decide +kernel
theorem dX8_heaviest_37 : decode cX8_heaviest 37 = .ok (.ifCond .le 7, 3) := by decide +kernel
theorem dX8_heaviest_40 : decode cX8_heaviest 40 = .ok (.iconst 1, 1) := by decide +kernel
theorem dX8_heaviest_41 : decode cX8_heaviest 41 = .ok (.goto 4, 3) := by decide +kernel
theorem dX8_heaviest_44 : decode cX8_heaviest 44 = .ok (.iconst 0, 1) := by decide +kernel
theorem dX8_heaviest_45 : decode cX8_heaviest 45 = .ok (.istore_n 3, 1) := by decide +kernel
theorem dX8_heaviest_46 : decode cX8_heaviest 46 = .ok (.iload_n 3, 1) := by decide +kernel
theorem dX8_heaviest_47 : decode cX8_heaviest 47 = .ok (.ifCond .eq 26, 3) := by decide +kernel
theorem dX8_heaviest_50 : decode cX8_heaviest 50 = .ok (.iload_n 1, 1) := by decide +kernel
theorem dX8_heaviest_51 : decode cX8_heaviest 51 = .ok (.ifCond .lt 18, 3) := by decide +kernel
theorem dX8_heaviest_54 : decode cX8_heaviest 54 = .ok (.aload_n 0, 1) := by decide +kernel
theorem dX8_heaviest_55 : decode cX8_heaviest 55 = .ok (.getfield 62, 3) := by decide +kernel
theorem dX8_heaviest_58 : decode cX8_heaviest 58 = .ok (.iload_n 2, 1) := by decide +kernel
theorem dX8_heaviest_59 : decode cX8_heaviest 59 = .ok (.iaload, 1) := by decide +kernel
theorem dX8_heaviest_60 : decode cX8_heaviest 60 = .ok (.aload_n 0, 1) := by decide +kernel
theorem dX8_heaviest_61 : decode cX8_heaviest 61 = .ok (.getfield 62, 3) := by decide +kernel
theorem dX8_heaviest_64 : decode cX8_heaviest 64 = .ok (.iload_n 1, 1) := by decide +kernel
theorem dX8_heaviest_65 : decode cX8_heaviest 65 = .ok (.iaload, 1) := by decide +kernel
theorem dX8_heaviest_66 : decode cX8_heaviest 66 = .ok (.if_icmp .le 7, 3) := by decide +kernel
theorem dX8_heaviest_69 : decode cX8_heaviest 69 = .ok (.iload_n 2, 1) := by decide +kernel
theorem dX8_heaviest_70 : decode cX8_heaviest 70 = .ok (.goto 4, 3) := by decide +kernel
theorem dX8_heaviest_73 : decode cX8_heaviest 73 = .ok (.iload_n 1, 1) := by decide +kernel
theorem dX8_heaviest_74 : decode cX8_heaviest 74 = .ok (.istore_n 1, 1) := by decide +kernel
theorem dX8_heaviest_75 : decode cX8_heaviest 75 = .ok (.iinc 2 1, 3) := by decide +kernel
theorem dX8_heaviest_78 : decode cX8_heaviest 78 = .ok (.goto (-73), 3) := by decide +kernel
theorem dX8_heaviest_81 : decode cX8_heaviest 81 = .ok (.iload_n 1, 1) := by decide +kernel
theorem dX8_heaviest_82 : decode cX8_heaviest 82 = .ok (.ireturn, 1) := by decide +kernel
theorem dX8_layTaken_0 : decode cX8_layTaken 0 = .ok (.aload_n 0, 1) := by decide +kernel
theorem dX8_layTaken_1 : decode cX8_layTaken 1 = .ok (.invokevirtual 181, 3) := by decide +kernel
theorem dX8_layTaken_4 : decode cX8_layTaken 4 = .ok (.aload_n 0, 1) := by decide +kernel
theorem dX8_layTaken_5 : decode cX8_layTaken 5 = .ok (.iconst 0, 1) := by decide +kernel
theorem dX8_layTaken_6 : decode cX8_layTaken 6 = .ok (.putfield 184, 3) := by decide +kernel
theorem dX8_layTaken_9 : decode cX8_layTaken 9 = .ok (.iconst 0, 1) := by decide +kernel
theorem dX8_layTaken_10 : decode cX8_layTaken 10 = .ok (.istore_n 1, 1) := by decide +kernel
theorem dX8_layTaken_11 : decode cX8_layTaken 11 = .ok (.iload_n 1, 1) := by decide +kernel
theorem dX8_layTaken_12 : decode cX8_layTaken 12 = .ok (.bipush 49, 2) := by decide +kernel
theorem dX8_layTaken_14 : decode cX8_layTaken 14 = .ok (.if_icmp .ge 23, 3) := by decide +kernel
theorem dX8_layTaken_17 : decode cX8_layTaken 17 = .ok (.aload_n 0, 1) := by decide +kernel
theorem dX8_layTaken_18 : decode cX8_layTaken 18 = .ok (.getfield 65, 3) := by decide +kernel
theorem dX8_layTaken_21 : decode cX8_layTaken 21 = .ok (.iload_n 1, 1) := by decide +kernel
theorem dX8_layTaken_22 : decode cX8_layTaken 22 = .ok (.iconst 0, 1) := by decide +kernel
theorem dX8_layTaken_23 : decode cX8_layTaken 23 = .ok (.bastore, 1) := by decide +kernel
theorem dX8_layTaken_24 : decode cX8_layTaken 24 = .ok (.aload_n 0, 1) := by decide +kernel
theorem dX8_layTaken_25 : decode cX8_layTaken 25 = .ok (.getfield 68, 3) := by decide +kernel
theorem dX8_layTaken_28 : decode cX8_layTaken 28 = .ok (.iload_n 1, 1) := by decide +kernel
theorem dX8_layTaken_29 : decode cX8_layTaken 29 = .ok (.iconst 0, 1) := by decide +kernel
theorem dX8_layTaken_30 : decode cX8_layTaken 30 = .ok (.bastore, 1) := by decide +kernel
theorem dX8_layTaken_31 : decode cX8_layTaken 31 = .ok (.iinc 1 1, 3) := by decide +kernel
theorem dX8_layTaken_34 : decode cX8_layTaken 34 = .ok (.goto (-23), 3) := by decide +kernel
theorem dX8_layTaken_37 : decode cX8_layTaken 37 = .ok (.iconst 0, 1) := by decide +kernel
theorem dX8_layTaken_38 : decode cX8_layTaken 38 = .ok (.istore_n 1, 1) := by decide +kernel
theorem dX8_layTaken_39 : decode cX8_layTaken 39 = .ok (.iload_n 1, 1) := by decide +kernel
theorem dX8_layTaken_40 : decode cX8_layTaken 40 = .ok (.bipush 7, 2) := by decide +kernel
theorem dX8_layTaken_42 : decode cX8_layTaken 42 = .ok (.if_icmp .ge 23, 3) := by decide +kernel
theorem dX8_layTaken_45 : decode cX8_layTaken 45 = .ok (.aload_n 0, 1) := by decide +kernel
theorem dX8_layTaken_46 : decode cX8_layTaken 46 = .ok (.getfield 71, 3) := by decide +kernel
theorem dX8_layTaken_49 : decode cX8_layTaken 49 = .ok (.iload_n 1, 1) := by decide +kernel
theorem dX8_layTaken_50 : decode cX8_layTaken 50 = .ok (.iconst 0, 1) := by decide +kernel
theorem dX8_layTaken_51 : decode cX8_layTaken 51 = .ok (.iastore, 1) := by decide +kernel
theorem dX8_layTaken_52 : decode cX8_layTaken 52 = .ok (.aload_n 0, 1) := by decide +kernel
theorem dX8_layTaken_53 : decode cX8_layTaken 53 = .ok (.getfield 74, 3) := by decide +kernel
theorem dX8_layTaken_56 : decode cX8_layTaken 56 = .ok (.iload_n 1, 1) := by decide +kernel
theorem dX8_layTaken_57 : decode cX8_layTaken 57 = .ok (.iload_n 1, 1) := by decide +kernel
theorem dX8_layTaken_58 : decode cX8_layTaken 58 = .ok (.iastore, 1) := by decide +kernel
theorem dX8_layTaken_59 : decode cX8_layTaken 59 = .ok (.iinc 1 1, 3) := by decide +kernel
theorem dX8_layTaken_62 : decode cX8_layTaken 62 = .ok (.goto (-23), 3) := by decide +kernel
theorem dX8_layTaken_65 : decode cX8_layTaken 65 = .ok (.aload_n 0, 1) := by decide +kernel
theorem dX8_layTaken_66 : decode cX8_layTaken 66 = .ok (.invokevirtual 187, 3) := by decide +kernel
theorem dX8_layTaken_69 : decode cX8_layTaken 69 = .ok (.istore_n 1, 1) := by decide +kernel
theorem dX8_layTaken_70 : decode cX8_layTaken 70 = .ok (.iload_n 1, 1) := by decide +kernel
theorem dX8_layTaken_71 : decode cX8_layTaken 71 = .ok (.ifCond .lt 159, 3) := by decide +kernel
theorem dX8_layTaken_74 : decode cX8_layTaken 74 = .ok (.aload_n 0, 1) := by decide +kernel
theorem dX8_layTaken_75 : decode cX8_layTaken 75 = .ok (.getfield 68, 3) := by decide +kernel
theorem dX8_layTaken_78 : decode cX8_layTaken 78 = .ok (.iload_n 1, 1) := by decide +kernel
theorem dX8_layTaken_79 : decode cX8_layTaken 79 = .ok (.iconst 1, 1) := by decide +kernel
theorem dX8_layTaken_80 : decode cX8_layTaken 80 = .ok (.bastore, 1) := by decide +kernel
theorem dX8_layTaken_81 : decode cX8_layTaken 81 = .ok (.iload_n 1, 1) := by decide +kernel
theorem dX8_layTaken_82 : decode cX8_layTaken 82 = .ok (.bipush 7, 2) := by decide +kernel
theorem dX8_layTaken_84 : decode cX8_layTaken 84 = .ok (.idiv, 1) := by decide +kernel
theorem dX8_layTaken_85 : decode cX8_layTaken 85 = .ok (.istore_n 2, 1) := by decide +kernel
theorem dX8_layTaken_86 : decode cX8_layTaken 86 = .ok (.iload_n 1, 1) := by decide +kernel
theorem dX8_layTaken_87 : decode cX8_layTaken 87 = .ok (.bipush 7, 2) := by decide +kernel
theorem dX8_layTaken_89 : decode cX8_layTaken 89 = .ok (.irem, 1) := by decide +kernel
theorem dX8_layTaken_90 : decode cX8_layTaken 90 = .ok (.istore_n 3, 1) := by decide +kernel
theorem dX8_layTaken_91 : decode cX8_layTaken 91 = .ok (.aload_n 0, 1) := by decide +kernel
theorem dX8_layTaken_92 : decode cX8_layTaken 92 = .ok (.getfield 71, 3) := by decide +kernel
theorem dX8_layTaken_95 : decode cX8_layTaken 95 = .ok (.iload_n 2, 1) := by decide +kernel
theorem dX8_layTaken_96 : decode cX8_layTaken 96 = .ok (.iaload, 1) := by decide +kernel
theorem dX8_layTaken_97 : decode cX8_layTaken 97 = .ok (.iconst 2, 1) := by decide +kernel
theorem dX8_layTaken_98 : decode cX8_layTaken 98 = .ok (.if_icmp .ge 124, 3) := by decide +kernel
theorem dX8_layTaken_101 : decode cX8_layTaken 101 = .ok (.aload_n 0, 1) := by decide +kernel
theorem dX8_layTaken_102 : decode cX8_layTaken 102 = .ok (.getfield 71, 3) := by decide +kernel
theorem dX8_layTaken_105 : decode cX8_layTaken 105 = .ok (.iload_n 3, 1) := by decide +kernel
theorem dX8_layTaken_106 : decode cX8_layTaken 106 = .ok (.iaload, 1) := by decide +kernel
theorem dX8_layTaken_107 : decode cX8_layTaken 107 = .ok (.iconst 2, 1) := by decide +kernel
theorem dX8_layTaken_108 : decode cX8_layTaken 108 = .ok (.if_icmp .ge 114, 3) := by decide +kernel
theorem dX8_layTaken_111 : decode cX8_layTaken 111 = .ok (.aload_n 0, 1) := by decide +kernel
theorem dX8_layTaken_112 : decode cX8_layTaken 112 = .ok (.getfield 74, 3) := by decide +kernel
theorem dX8_layTaken_115 : decode cX8_layTaken 115 = .ok (.iload_n 2, 1) := by decide +kernel
theorem dX8_layTaken_116 : decode cX8_layTaken 116 = .ok (.iaload, 1) := by decide +kernel
theorem dX8_layTaken_117 : decode cX8_layTaken 117 = .ok (.aload_n 0, 1) := by decide +kernel
theorem dX8_layTaken_118 : decode cX8_layTaken 118 = .ok (.getfield 74, 3) := by decide +kernel
theorem dX8_layTaken_121 : decode cX8_layTaken 121 = .ok (.iload_n 3, 1) := by decide +kernel
theorem dX8_layTaken_122 : decode cX8_layTaken 122 = .ok (.iaload, 1) := by decide +kernel
theorem dX8_layTaken_123 : decode cX8_layTaken 123 = .ok (.if_icmp .eq 99, 3) := by decide +kernel
theorem dX8_layTaken_126 : decode cX8_layTaken 126 = .ok (.aload_n 0, 1) := by decide +kernel
theorem dX8_layTaken_127 : decode cX8_layTaken 127 = .ok (.getfield 65, 3) := by decide +kernel
theorem dX8_layTaken_130 : decode cX8_layTaken 130 = .ok (.iload_n 1, 1) := by decide +kernel
theorem dX8_layTaken_131 : decode cX8_layTaken 131 = .ok (.iconst 1, 1) := by decide +kernel
theorem dX8_layTaken_132 : decode cX8_layTaken 132 = .ok (.bastore, 1) := by decide +kernel
theorem dX8_layTaken_133 : decode cX8_layTaken 133 = .ok (.aload_n 0, 1) := by decide +kernel
theorem dX8_layTaken_134 : decode cX8_layTaken 134 = .ok (.dup, 1) := by decide +kernel
theorem dX8_layTaken_135 : decode cX8_layTaken 135 = .ok (.getfield 184, 3) := by decide +kernel
theorem dX8_layTaken_138 : decode cX8_layTaken 138 = .ok (.iconst 1, 1) := by decide +kernel
theorem dX8_layTaken_139 : decode cX8_layTaken 139 = .ok (.iadd, 1) := by decide +kernel
theorem dX8_layTaken_140 : decode cX8_layTaken 140 = .ok (.putfield 184, 3) := by decide +kernel
theorem dX8_layTaken_143 : decode cX8_layTaken 143 = .ok (.aload_n 0, 1) := by decide +kernel
theorem dX8_layTaken_144 : decode cX8_layTaken 144 = .ok (.getfield 71, 3) := by decide +kernel
theorem dX8_layTaken_147 : decode cX8_layTaken 147 = .ok (.iload_n 2, 1) := by decide +kernel
theorem dX8_layTaken_148 : decode cX8_layTaken 148 = .ok (.dup2, 1) := by decide +kernel
theorem dX8_layTaken_149 : decode cX8_layTaken 149 = .ok (.iaload, 1) := by decide +kernel
theorem dX8_layTaken_150 : decode cX8_layTaken 150 = .ok (.iconst 1, 1) := by decide +kernel
theorem dX8_layTaken_151 : decode cX8_layTaken 151 = .ok (.iadd, 1) := by decide +kernel
theorem dX8_layTaken_152 : decode cX8_layTaken 152 = .ok (.iastore, 1) := by decide +kernel
theorem dX8_layTaken_153 : decode cX8_layTaken 153 = .ok (.aload_n 0, 1) := by decide +kernel
theorem dX8_layTaken_154 : decode cX8_layTaken 154 = .ok (.getfield 71, 3) := by decide +kernel
theorem dX8_layTaken_157 : decode cX8_layTaken 157 = .ok (.iload_n 3, 1) := by decide +kernel
theorem dX8_layTaken_158 : decode cX8_layTaken 158 = .ok (.dup2, 1) := by decide +kernel
theorem dX8_layTaken_159 : decode cX8_layTaken 159 = .ok (.iaload, 1) := by decide +kernel
theorem dX8_layTaken_160 : decode cX8_layTaken 160 = .ok (.iconst 1, 1) := by decide +kernel
theorem dX8_layTaken_161 : decode cX8_layTaken 161 = .ok (.iadd, 1) := by decide +kernel
theorem dX8_layTaken_162 : decode cX8_layTaken 162 = .ok (.iastore, 1) := by decide +kernel
theorem dX8_layTaken_163 : decode cX8_layTaken 163 = .ok (.aload_n 0, 1) := by decide +kernel
theorem dX8_layTaken_164 : decode cX8_layTaken 164 = .ok (.getfield 74, 3) := by decide +kernel
theorem dX8_layTaken_167 : decode cX8_layTaken 167 = .ok (.iload_n 3, 1) := by decide +kernel
theorem dX8_layTaken_168 : decode cX8_layTaken 168 = .ok (.iaload, 1) := by decide +kernel
theorem dX8_layTaken_169 : decode cX8_layTaken 169 = .ok (.istore 4, 2) := by decide +kernel
theorem dX8_layTaken_171 : decode cX8_layTaken 171 = .ok (.iconst 0, 1) := by decide +kernel
theorem dX8_layTaken_172 : decode cX8_layTaken 172 = .ok (.istore 5, 2) := by decide +kernel
theorem dX8_layTaken_174 : decode cX8_layTaken 174 = .ok (.iload 5, 2) := by decide +kernel
theorem dX8_layTaken_176 : decode cX8_layTaken 176 = .ok (.bipush 7, 2) := by decide +kernel
theorem dX8_layTaken_178 : decode cX8_layTaken 178 = .ok (.if_icmp .ge 44, 3) := by decide +kernel
theorem dX8_layTaken_181 : decode cX8_layTaken 181 = .ok (.aload_n 0, 1) := by decide +kernel
theorem dX8_layTaken_182 : decode cX8_layTaken 182 = .ok (.getfield 74, 3) := by decide +kernel
theorem dX8_layTaken_185 : decode cX8_layTaken 185 = .ok (.iload 5, 2) := by decide +kernel
theorem dX8_layTaken_187 : decode cX8_layTaken 187 = .ok (.aload_n 0, 1) := by decide +kernel
theorem dX8_layTaken_188 : decode cX8_layTaken 188 = .ok (.getfield 74, 3) := by decide +kernel
theorem dX8_layTaken_191 : decode cX8_layTaken 191 = .ok (.iload 5, 2) := by decide +kernel
theorem dX8_layTaken_193 : decode cX8_layTaken 193 = .ok (.iaload, 1) := by decide +kernel
theorem dX8_layTaken_194 : decode cX8_layTaken 194 = .ok (.iload 4, 2) := by decide +kernel
theorem dX8_layTaken_196 : decode cX8_layTaken 196 = .ok (.if_icmp .ne 12, 3) := by decide +kernel
theorem dX8_layTaken_199 : decode cX8_layTaken 199 = .ok (.aload_n 0, 1) := by decide +kernel
theorem dX8_layTaken_200 : decode cX8_layTaken 200 = .ok (.getfield 74, 3) := by decide +kernel
theorem dX8_layTaken_203 : decode cX8_layTaken 203 = .ok (.iload_n 2, 1) := by decide +kernel
theorem dX8_layTaken_204 : decode cX8_layTaken 204 = .ok (.iaload, 1) := by decide +kernel
theorem dX8_layTaken_205 : decode cX8_layTaken 205 = .ok (.goto 10, 3) := by decide +kernel
theorem dX8_layTaken_208 : decode cX8_layTaken 208 = .ok (.aload_n 0, 1) := by decide +kernel
theorem dX8_layTaken_209 : decode cX8_layTaken 209 = .ok (.getfield 74, 3) := by decide +kernel
theorem dX8_layTaken_212 : decode cX8_layTaken 212 = .ok (.iload 5, 2) := by decide +kernel
theorem dX8_layTaken_214 : decode cX8_layTaken 214 = .ok (.iaload, 1) := by decide +kernel
theorem dX8_layTaken_215 : decode cX8_layTaken 215 = .ok (.iastore, 1) := by decide +kernel
theorem dX8_layTaken_216 : decode cX8_layTaken 216 = .ok (.iinc 5 1, 3) := by decide +kernel
theorem dX8_layTaken_219 : decode cX8_layTaken 219 = .ok (.goto (-45), 3) := by decide +kernel
theorem dX8_layTaken_222 : decode cX8_layTaken 222 = .ok (.aload_n 0, 1) := by decide +kernel
theorem dX8_layTaken_223 : decode cX8_layTaken 223 = .ok (.invokevirtual 187, 3) := by decide +kernel
theorem dX8_layTaken_226 : decode cX8_layTaken 226 = .ok (.istore_n 1, 1) := by decide +kernel
theorem dX8_layTaken_227 : decode cX8_layTaken 227 = .ok (.goto (-157), 3) := by decide +kernel
theorem dX8_layTaken_230 : decode cX8_layTaken 230 = .ok (.return_, 1) := by decide +kernel
theorem dX8_taken_0 : decode cX8_taken 0 = .ok (.iload_n 1, 1) := by decide +kernel
theorem dX8_taken_1 : decode cX8_taken 1 = .ok (.invokestatic 91, 3) := by decide +kernel
theorem dX8_taken_4 : decode cX8_taken 4 = .ok (.ifCond .eq 10, 3) := by decide +kernel
theorem dX8_taken_7 : decode cX8_taken 7 = .ok (.iload_n 2, 1) := by decide +kernel
theorem dX8_taken_8 : decode cX8_taken 8 = .ok (.invokestatic 91, 3) := by decide +kernel
theorem dX8_taken_11 : decode cX8_taken 11 = .ok (.ifCond .ne 5, 3) := by decide +kernel
theorem dX8_taken_14 : decode cX8_taken 14 = .ok (.iconst (-1), 1) := by decide +kernel
theorem dX8_taken_15 : decode cX8_taken 15 = .ok (.ireturn, 1) := by decide +kernel
theorem dX8_taken_16 : decode cX8_taken 16 = .ok (.aload_n 0, 1) := by decide +kernel
theorem dX8_taken_17 : decode cX8_taken 17 = .ok (.invokevirtual 190, 3) := by decide +kernel
theorem dX8_taken_20 : decode cX8_taken 20 = .ok (.aload_n 0, 1) := by decide +kernel
theorem dX8_taken_21 : decode cX8_taken 21 = .ok (.getfield 65, 3) := by decide +kernel
theorem dX8_taken_24 : decode cX8_taken 24 = .ok (.bipush 7, 2) := by decide +kernel
theorem dX8_taken_26 : decode cX8_taken 26 = .ok (.iload_n 1, 1) := by decide +kernel
theorem dX8_taken_27 : decode cX8_taken 27 = .ok (.imul, 1) := by decide +kernel
theorem dX8_taken_28 : decode cX8_taken 28 = .ok (.iload_n 2, 1) := by decide +kernel
theorem dX8_taken_29 : decode cX8_taken 29 = .ok (.iadd, 1) := by decide +kernel
theorem dX8_taken_30 : decode cX8_taken 30 = .ok (.baload, 1) := by decide +kernel
theorem dX8_taken_31 : decode cX8_taken 31 = .ok (.ifCond .ne 17, 3) := by decide +kernel
theorem dX8_taken_34 : decode cX8_taken 34 = .ok (.aload_n 0, 1) := by decide +kernel
theorem dX8_taken_35 : decode cX8_taken 35 = .ok (.getfield 65, 3) := by decide +kernel
theorem dX8_taken_38 : decode cX8_taken 38 = .ok (.bipush 7, 2) := by decide +kernel
theorem dX8_taken_40 : decode cX8_taken 40 = .ok (.iload_n 2, 1) := by decide +kernel
theorem dX8_taken_41 : decode cX8_taken 41 = .ok (.imul, 1) := by decide +kernel
theorem dX8_taken_42 : decode cX8_taken 42 = .ok (.iload_n 1, 1) := by decide +kernel
theorem dX8_taken_43 : decode cX8_taken 43 = .ok (.iadd, 1) := by decide +kernel
theorem dX8_taken_44 : decode cX8_taken 44 = .ok (.baload, 1) := by decide +kernel
theorem dX8_taken_45 : decode cX8_taken 45 = .ok (.ifCond .eq 7, 3) := by decide +kernel
theorem dX8_taken_48 : decode cX8_taken 48 = .ok (.iconst 1, 1) := by decide +kernel
theorem dX8_taken_49 : decode cX8_taken 49 = .ok (.goto 4, 3) := by decide +kernel
theorem dX8_taken_52 : decode cX8_taken 52 = .ok (.iconst 0, 1) := by decide +kernel
theorem dX8_taken_53 : decode cX8_taken 53 = .ok (.ireturn, 1) := by decide +kernel
theorem dX8_greedyCost_0 : decode cX8_greedyCost 0 = .ok (.aload_n 0, 1) := by decide +kernel
theorem dX8_greedyCost_1 : decode cX8_greedyCost 1 = .ok (.invokevirtual 190, 3) := by decide +kernel
theorem dX8_greedyCost_4 : decode cX8_greedyCost 4 = .ok (.aload_n 0, 1) := by decide +kernel
theorem dX8_greedyCost_5 : decode cX8_greedyCost 5 = .ok (.invokevirtual 142, 3) := by decide +kernel
theorem dX8_greedyCost_8 : decode cX8_greedyCost 8 = .ok (.ifCond .eq 7, 3) := by decide +kernel
theorem dX8_greedyCost_11 : decode cX8_greedyCost 11 = .ok (.iconst 1, 1) := by decide +kernel
theorem dX8_greedyCost_12 : decode cX8_greedyCost 12 = .ok (.goto 4, 3) := by decide +kernel
theorem dX8_greedyCost_15 : decode cX8_greedyCost 15 = .ok (.iconst 0, 1) := by decide +kernel
theorem dX8_greedyCost_16 : decode cX8_greedyCost 16 = .ok (.istore_n 1, 1) := by decide +kernel
theorem dX8_greedyCost_17 : decode cX8_greedyCost 17 = .ok (.iconst 0, 1) := by decide +kernel
theorem dX8_greedyCost_18 : decode cX8_greedyCost 18 = .ok (.istore_n 2, 1) := by decide +kernel
theorem dX8_greedyCost_19 : decode cX8_greedyCost 19 = .ok (.iload_n 2, 1) := by decide +kernel
theorem dX8_greedyCost_20 : decode cX8_greedyCost 20 = .ok (.bipush 49, 2) := by decide +kernel
theorem dX8_greedyCost_22 : decode cX8_greedyCost 22 = .ok (.if_icmp .ge 42, 3) := by decide +kernel
theorem dX8_greedyCost_25 : decode cX8_greedyCost 25 = .ok (.iload_n 1, 1) := by decide +kernel
theorem dX8_greedyCost_26 : decode cX8_greedyCost 26 = .ok (.iload_n 2, 1) := by decide +kernel
theorem dX8_greedyCost_27 : decode cX8_greedyCost 27 = .ok (.bipush 7, 2) := by decide +kernel
theorem dX8_greedyCost_29 : decode cX8_greedyCost 29 = .ok (.idiv, 1) := by decide +kernel
theorem dX8_greedyCost_30 : decode cX8_greedyCost 30 = .ok (.iload_n 2, 1) := by decide +kernel
theorem dX8_greedyCost_31 : decode cX8_greedyCost 31 = .ok (.bipush 7, 2) := by decide +kernel
theorem dX8_greedyCost_33 : decode cX8_greedyCost 33 = .ok (.irem, 1) := by decide +kernel
theorem dX8_greedyCost_34 : decode cX8_greedyCost 34 = .ok (.if_icmp .ge 21, 3) := by decide +kernel
theorem dX8_greedyCost_37 : decode cX8_greedyCost 37 = .ok (.aload_n 0, 1) := by decide +kernel
theorem dX8_greedyCost_38 : decode cX8_greedyCost 38 = .ok (.getfield 65, 3) := by decide +kernel
theorem dX8_greedyCost_41 : decode cX8_greedyCost 41 = .ok (.iload_n 2, 1) := by decide +kernel
theorem dX8_greedyCost_42 : decode cX8_greedyCost 42 = .ok (.baload, 1) := by decide +kernel
theorem dX8_greedyCost_43 : decode cX8_greedyCost 43 = .ok (.ifCond .ne 12, 3) := by decide +kernel
theorem dX8_greedyCost_46 : decode cX8_greedyCost 46 = .ok (.aload_n 0, 1) := by decide +kernel
theorem dX8_greedyCost_47 : decode cX8_greedyCost 47 = .ok (.getfield 62, 3) := by decide +kernel
theorem dX8_greedyCost_50 : decode cX8_greedyCost 50 = .ok (.iload_n 2, 1) := by decide +kernel
theorem dX8_greedyCost_51 : decode cX8_greedyCost 51 = .ok (.iaload, 1) := by decide +kernel
theorem dX8_greedyCost_52 : decode cX8_greedyCost 52 = .ok (.goto 4, 3) := by decide +kernel
theorem dX8_greedyCost_55 : decode cX8_greedyCost 55 = .ok (.iconst 0, 1) := by decide +kernel
theorem dX8_greedyCost_56 : decode cX8_greedyCost 56 = .ok (.iadd, 1) := by decide +kernel
theorem dX8_greedyCost_57 : decode cX8_greedyCost 57 = .ok (.istore_n 1, 1) := by decide +kernel
theorem dX8_greedyCost_58 : decode cX8_greedyCost 58 = .ok (.iinc 2 1, 3) := by decide +kernel
theorem dX8_greedyCost_61 : decode cX8_greedyCost 61 = .ok (.goto (-42), 3) := by decide +kernel
theorem dX8_greedyCost_64 : decode cX8_greedyCost 64 = .ok (.iload_n 1, 1) := by decide +kernel
theorem dX8_greedyCost_65 : decode cX8_greedyCost 65 = .ok (.ireturn, 1) := by decide +kernel
theorem dX8_bound_0 : decode cX8_bound 0 = .ok (.aload_n 0, 1) := by decide +kernel
theorem dX8_bound_1 : decode cX8_bound 1 = .ok (.invokevirtual 181, 3) := by decide +kernel
theorem dX8_bound_4 : decode cX8_bound 4 = .ok (.aload_n 0, 1) := by decide +kernel
theorem dX8_bound_5 : decode cX8_bound 5 = .ok (.invokevirtual 142, 3) := by decide +kernel
theorem dX8_bound_8 : decode cX8_bound 8 = .ok (.invokestatic 153, 3) := by decide +kernel
theorem dX8_bound_11 : decode cX8_bound 11 = .ok (.istore_n 1, 1) := by decide +kernel
theorem dX8_bound_12 : decode cX8_bound 12 = .ok (.iload_n 1, 1) := by decide +kernel
theorem dX8_bound_13 : decode cX8_bound 13 = .ok (.ifCond .le 7, 3) := by decide +kernel
theorem dX8_bound_16 : decode cX8_bound 16 = .ok (.iconst 1, 1) := by decide +kernel
theorem dX8_bound_17 : decode cX8_bound 17 = .ok (.goto 4, 3) := by decide +kernel
theorem dX8_bound_20 : decode cX8_bound 20 = .ok (.iconst 0, 1) := by decide +kernel
theorem dX8_bound_21 : decode cX8_bound 21 = .ok (.istore_n 2, 1) := by decide +kernel
theorem dX8_bound_22 : decode cX8_bound 22 = .ok (.iconst 0, 1) := by decide +kernel
theorem dX8_bound_23 : decode cX8_bound 23 = .ok (.istore_n 3, 1) := by decide +kernel
theorem dX8_bound_24 : decode cX8_bound 24 = .ok (.iload_n 3, 1) := by decide +kernel
theorem dX8_bound_25 : decode cX8_bound 25 = .ok (.bipush 49, 2) := by decide +kernel
theorem dX8_bound_27 : decode cX8_bound 27 = .ok (.if_icmp .ge 40, 3) := by decide +kernel
theorem dX8_bound_30 : decode cX8_bound 30 = .ok (.aload_n 0, 1) := by decide +kernel
theorem dX8_bound_31 : decode cX8_bound 31 = .ok (.getfield 68, 3) := by decide +kernel
theorem dX8_bound_34 : decode cX8_bound 34 = .ok (.iload_n 3, 1) := by decide +kernel
theorem dX8_bound_35 : decode cX8_bound 35 = .ok (.iconst 0, 1) := by decide +kernel
theorem dX8_bound_36 : decode cX8_bound 36 = .ok (.bastore, 1) := by decide +kernel
theorem dX8_bound_37 : decode cX8_bound 37 = .ok (.iload_n 2, 1) := by decide +kernel
theorem dX8_bound_38 : decode cX8_bound 38 = .ok (.iload_n 3, 1) := by decide +kernel
theorem dX8_bound_39 : decode cX8_bound 39 = .ok (.bipush 7, 2) := by decide +kernel
theorem dX8_bound_41 : decode cX8_bound 41 = .ok (.idiv, 1) := by decide +kernel
theorem dX8_bound_42 : decode cX8_bound 42 = .ok (.iload_n 3, 1) := by decide +kernel
theorem dX8_bound_43 : decode cX8_bound 43 = .ok (.bipush 7, 2) := by decide +kernel
theorem dX8_bound_45 : decode cX8_bound 45 = .ok (.irem, 1) := by decide +kernel
theorem dX8_bound_46 : decode cX8_bound 46 = .ok (.if_icmp .ge 12, 3) := by decide +kernel
theorem dX8_bound_49 : decode cX8_bound 49 = .ok (.aload_n 0, 1) := by decide +kernel
theorem dX8_bound_50 : decode cX8_bound 50 = .ok (.getfield 62, 3) := by decide +kernel
theorem dX8_bound_53 : decode cX8_bound 53 = .ok (.iload_n 3, 1) := by decide +kernel
theorem dX8_bound_54 : decode cX8_bound 54 = .ok (.iaload, 1) := by decide +kernel
theorem dX8_bound_55 : decode cX8_bound 55 = .ok (.goto 4, 3) := by decide +kernel
theorem dX8_bound_58 : decode cX8_bound 58 = .ok (.iconst 0, 1) := by decide +kernel
theorem dX8_bound_59 : decode cX8_bound 59 = .ok (.iadd, 1) := by decide +kernel
theorem dX8_bound_60 : decode cX8_bound 60 = .ok (.istore_n 2, 1) := by decide +kernel
theorem dX8_bound_61 : decode cX8_bound 61 = .ok (.iinc 3 1, 3) := by decide +kernel
theorem dX8_bound_64 : decode cX8_bound 64 = .ok (.goto (-40), 3) := by decide +kernel
theorem dX8_bound_67 : decode cX8_bound 67 = .ok (.iconst 1, 1) := by decide +kernel
theorem dX8_bound_68 : decode cX8_bound 68 = .ok (.istore_n 3, 1) := by decide +kernel
theorem dX8_bound_69 : decode cX8_bound 69 = .ok (.iload_n 3, 1) := by decide +kernel
theorem dX8_bound_70 : decode cX8_bound 70 = .ok (.iload_n 1, 1) := by decide +kernel
theorem dX8_bound_71 : decode cX8_bound 71 = .ok (.if_icmp .ge 38, 3) := by decide +kernel
theorem dX8_bound_74 : decode cX8_bound 74 = .ok (.aload_n 0, 1) := by decide +kernel
theorem dX8_bound_75 : decode cX8_bound 75 = .ok (.invokevirtual 187, 3) := by decide +kernel
theorem dX8_bound_78 : decode cX8_bound 78 = .ok (.istore 4, 2) := by decide +kernel
theorem dX8_bound_80 : decode cX8_bound 80 = .ok (.iload 4, 2) := by decide +kernel
theorem dX8_bound_82 : decode cX8_bound 82 = .ok (.ifCond .lt 21, 3) := by decide +kernel
theorem dX8_bound_85 : decode cX8_bound 85 = .ok (.aload_n 0, 1) := by decide +kernel
theorem dX8_bound_86 : decode cX8_bound 86 = .ok (.getfield 68, 3) := by decide +kernel
theorem dX8_bound_89 : decode cX8_bound 89 = .ok (.iload 4, 2) := by decide +kernel
theorem dX8_bound_91 : decode cX8_bound 91 = .ok (.iconst 1, 1) := by decide +kernel
theorem dX8_bound_92 : decode cX8_bound 92 = .ok (.bastore, 1) := by decide +kernel
theorem dX8_bound_93 : decode cX8_bound 93 = .ok (.iload_n 2, 1) := by decide +kernel
theorem dX8_bound_94 : decode cX8_bound 94 = .ok (.aload_n 0, 1) := by decide +kernel
theorem dX8_bound_95 : decode cX8_bound 95 = .ok (.getfield 62, 3) := by decide +kernel
theorem dX8_bound_98 : decode cX8_bound 98 = .ok (.iload 4, 2) := by decide +kernel
theorem dX8_bound_100 : decode cX8_bound 100 = .ok (.iaload, 1) := by decide +kernel
theorem dX8_bound_101 : decode cX8_bound 101 = .ok (.isub, 1) := by decide +kernel
theorem dX8_bound_102 : decode cX8_bound 102 = .ok (.istore_n 2, 1) := by decide +kernel
theorem dX8_bound_103 : decode cX8_bound 103 = .ok (.iinc 3 1, 3) := by decide +kernel
theorem dX8_bound_106 : decode cX8_bound 106 = .ok (.goto (-37), 3) := by decide +kernel
theorem dX8_bound_109 : decode cX8_bound 109 = .ok (.iload_n 2, 1) := by decide +kernel
theorem dX8_bound_110 : decode cX8_bound 110 = .ok (.ireturn, 1) := by decide +kernel
theorem dX8_exchange_0 : decode cX8_exchange 0 = .ok (.iload_n 1, 1) := by decide +kernel
theorem dX8_exchange_1 : decode cX8_exchange 1 = .ok (.invokestatic 91, 3) := by decide +kernel
theorem dX8_exchange_4 : decode cX8_exchange 4 = .ok (.ifCond .eq 10, 3) := by decide +kernel
theorem dX8_exchange_7 : decode cX8_exchange 7 = .ok (.iload_n 2, 1) := by decide +kernel
theorem dX8_exchange_8 : decode cX8_exchange 8 = .ok (.invokestatic 91, 3) := by decide +kernel
theorem dX8_exchange_11 : decode cX8_exchange 11 = .ok (.ifCond .ne 5, 3) := by decide +kernel
theorem dX8_exchange_14 : decode cX8_exchange 14 = .ok (.iconst (-1), 1) := by decide +kernel
theorem dX8_exchange_15 : decode cX8_exchange 15 = .ok (.ireturn, 1) := by decide +kernel
theorem dX8_exchange_16 : decode cX8_exchange 16 = .ok (.aload_n 0, 1) := by decide +kernel
theorem dX8_exchange_17 : decode cX8_exchange 17 = .ok (.getfield 25, 3) := by decide +kernel
theorem dX8_exchange_20 : decode cX8_exchange 20 = .ok (.iload_n 1, 1) := by decide +kernel
theorem dX8_exchange_21 : decode cX8_exchange 21 = .ok (.iaload, 1) := by decide +kernel
theorem dX8_exchange_22 : decode cX8_exchange 22 = .ok (.istore_n 3, 1) := by decide +kernel
theorem dX8_exchange_23 : decode cX8_exchange 23 = .ok (.aload_n 0, 1) := by decide +kernel
theorem dX8_exchange_24 : decode cX8_exchange 24 = .ok (.getfield 25, 3) := by decide +kernel
theorem dX8_exchange_27 : decode cX8_exchange 27 = .ok (.iload_n 1, 1) := by decide +kernel
theorem dX8_exchange_28 : decode cX8_exchange 28 = .ok (.aload_n 0, 1) := by decide +kernel
theorem dX8_exchange_29 : decode cX8_exchange 29 = .ok (.getfield 25, 3) := by decide +kernel
theorem dX8_exchange_32 : decode cX8_exchange 32 = .ok (.iload_n 2, 1) := by decide +kernel
theorem dX8_exchange_33 : decode cX8_exchange 33 = .ok (.iaload, 1) := by decide +kernel
theorem dX8_exchange_34 : decode cX8_exchange 34 = .ok (.iastore, 1) := by decide +kernel
theorem dX8_exchange_35 : decode cX8_exchange 35 = .ok (.aload_n 0, 1) := by decide +kernel
theorem dX8_exchange_36 : decode cX8_exchange 36 = .ok (.getfield 25, 3) := by decide +kernel
theorem dX8_exchange_39 : decode cX8_exchange 39 = .ok (.iload_n 2, 1) := by decide +kernel
theorem dX8_exchange_40 : decode cX8_exchange 40 = .ok (.iload_n 3, 1) := by decide +kernel
theorem dX8_exchange_41 : decode cX8_exchange 41 = .ok (.iastore, 1) := by decide +kernel
theorem dX8_exchange_42 : decode cX8_exchange 42 = .ok (.aload_n 0, 1) := by decide +kernel
theorem dX8_exchange_43 : decode cX8_exchange 43 = .ok (.getfield 25, 3) := by decide +kernel
theorem dX8_exchange_46 : decode cX8_exchange 46 = .ok (.iload_n 1, 1) := by decide +kernel
theorem dX8_exchange_47 : decode cX8_exchange 47 = .ok (.iaload, 1) := by decide +kernel
theorem dX8_exchange_48 : decode cX8_exchange 48 = .ok (.ireturn, 1) := by decide +kernel
theorem dX8_hand_0 : decode cX8_hand 0 = .ok (.iload_n 1, 1) := by decide +kernel
theorem dX8_hand_1 : decode cX8_hand 1 = .ok (.iconst 0, 1) := by decide +kernel
theorem dX8_hand_2 : decode cX8_hand 2 = .ok (.iconst 1, 1) := by decide +kernel
theorem dX8_hand_3 : decode cX8_hand 3 = .ok (.invokestatic 83, 3) := by decide +kernel
theorem dX8_hand_6 : decode cX8_hand 6 = .ok (.ifCond .ne 6, 3) := by decide +kernel
theorem dX8_hand_9 : decode cX8_hand 9 = .ok (.bipush (-2), 2) := by decide +kernel
theorem dX8_hand_11 : decode cX8_hand 11 = .ok (.ireturn, 1) := by decide +kernel
theorem dX8_hand_12 : decode cX8_hand 12 = .ok (.iconst 0, 1) := by decide +kernel
theorem dX8_hand_13 : decode cX8_hand 13 = .ok (.istore_n 2, 1) := by decide +kernel
theorem dX8_hand_14 : decode cX8_hand 14 = .ok (.iload_n 2, 1) := by decide +kernel
theorem dX8_hand_15 : decode cX8_hand 15 = .ok (.bipush 7, 2) := by decide +kernel
theorem dX8_hand_17 : decode cX8_hand 17 = .ok (.if_icmp .ge 21, 3) := by decide +kernel
theorem dX8_hand_20 : decode cX8_hand 20 = .ok (.aload_n 0, 1) := by decide +kernel
theorem dX8_hand_21 : decode cX8_hand 21 = .ok (.getfield 38, 3) := by decide +kernel
theorem dX8_hand_24 : decode cX8_hand 24 = .ok (.iload_n 2, 1) := by decide +kernel
theorem dX8_hand_25 : decode cX8_hand 25 = .ok (.aload_n 0, 1) := by decide +kernel
theorem dX8_hand_26 : decode cX8_hand 26 = .ok (.getfield 25, 3) := by decide +kernel
theorem dX8_hand_29 : decode cX8_hand 29 = .ok (.iload_n 2, 1) := by decide +kernel
theorem dX8_hand_30 : decode cX8_hand 30 = .ok (.iaload, 1) := by decide +kernel
theorem dX8_hand_31 : decode cX8_hand 31 = .ok (.iastore, 1) := by decide +kernel
theorem dX8_hand_32 : decode cX8_hand 32 = .ok (.iinc 2 1, 3) := by decide +kernel
theorem dX8_hand_35 : decode cX8_hand 35 = .ok (.goto (-21), 3) := by decide +kernel
theorem dX8_hand_38 : decode cX8_hand 38 = .ok (.aload_n 0, 1) := by decide +kernel
theorem dX8_hand_39 : decode cX8_hand 39 = .ok (.bipush 127, 2) := by decide +kernel
theorem dX8_hand_41 : decode cX8_hand 41 = .ok (.iload_n 1, 1) := by decide +kernel
theorem dX8_hand_42 : decode cX8_hand 42 = .ok (.invokevirtual 131, 3) := by decide +kernel
theorem dX8_hand_45 : decode cX8_hand 45 = .ok (.ireturn, 1) := by decide +kernel
theorem dX8_count_0 : decode cX8_count 0 = .ok (.iload_n 1, 1) := by decide +kernel
theorem dX8_count_1 : decode cX8_count 1 = .ok (.tableswitch 108 0 6 #[43, 48, 54, 59, 64, 73, 78], 43) := by decide +kernel
theorem dX8_count_44 : decode cX8_count 44 = .ok (.aload_n 0, 1) := by decide +kernel
theorem dX8_count_45 : decode cX8_count 45 = .ok (.getfield 87, 3) := by decide +kernel
theorem dX8_count_48 : decode cX8_count 48 = .ok (.ireturn, 1) := by decide +kernel
theorem dX8_count_49 : decode cX8_count 49 = .ok (.aload_n 0, 1) := by decide +kernel
theorem dX8_count_50 : decode cX8_count 50 = .ok (.iconst 0, 1) := by decide +kernel
theorem dX8_count_51 : decode cX8_count 51 = .ok (.invokevirtual 111, 3) := by decide +kernel
theorem dX8_count_54 : decode cX8_count 54 = .ok (.ireturn, 1) := by decide +kernel
theorem dX8_count_55 : decode cX8_count 55 = .ok (.aload_n 0, 1) := by decide +kernel
theorem dX8_count_56 : decode cX8_count 56 = .ok (.invokevirtual 142, 3) := by decide +kernel
theorem dX8_count_59 : decode cX8_count 59 = .ok (.ireturn, 1) := by decide +kernel
theorem dX8_count_60 : decode cX8_count 60 = .ok (.aload_n 0, 1) := by decide +kernel
theorem dX8_count_61 : decode cX8_count 61 = .ok (.invokevirtual 193, 3) := by decide +kernel
theorem dX8_count_64 : decode cX8_count 64 = .ok (.ireturn, 1) := by decide +kernel
theorem dX8_count_65 : decode cX8_count 65 = .ok (.aload_n 0, 1) := by decide +kernel
theorem dX8_count_66 : decode cX8_count 66 = .ok (.invokevirtual 190, 3) := by decide +kernel
theorem dX8_count_69 : decode cX8_count 69 = .ok (.aload_n 0, 1) := by decide +kernel
theorem dX8_count_70 : decode cX8_count 70 = .ok (.getfield 184, 3) := by decide +kernel
theorem dX8_count_73 : decode cX8_count 73 = .ok (.ireturn, 1) := by decide +kernel
theorem dX8_count_74 : decode cX8_count 74 = .ok (.aload_n 0, 1) := by decide +kernel
theorem dX8_count_75 : decode cX8_count 75 = .ok (.invokevirtual 196, 3) := by decide +kernel
theorem dX8_count_78 : decode cX8_count 78 = .ok (.ireturn, 1) := by decide +kernel
theorem dX8_count_79 : decode cX8_count 79 = .ok (.aload_n 0, 1) := by decide +kernel
theorem dX8_count_80 : decode cX8_count 80 = .ok (.getfield 80, 3) := by decide +kernel
theorem dX8_count_83 : decode cX8_count 83 = .ok (.iconst 0, 1) := by decide +kernel
theorem dX8_count_84 : decode cX8_count 84 = .ok (.baload, 1) := by decide +kernel
theorem dX8_count_85 : decode cX8_count 85 = .ok (.ifCond .eq 7, 3) := by decide +kernel
theorem dX8_count_88 : decode cX8_count 88 = .ok (.iconst 1, 1) := by decide +kernel
theorem dX8_count_89 : decode cX8_count 89 = .ok (.goto 4, 3) := by decide +kernel
theorem dX8_count_92 : decode cX8_count 92 = .ok (.iconst 0, 1) := by decide +kernel
theorem dX8_count_93 : decode cX8_count 93 = .ok (.aload_n 0, 1) := by decide +kernel
theorem dX8_count_94 : decode cX8_count 94 = .ok (.getfield 80, 3) := by decide +kernel
theorem dX8_count_97 : decode cX8_count 97 = .ok (.iconst 1, 1) := by decide +kernel
theorem dX8_count_98 : decode cX8_count 98 = .ok (.baload, 1) := by decide +kernel
theorem dX8_count_99 : decode cX8_count 99 = .ok (.ifCond .eq 7, 3) := by decide +kernel
theorem dX8_count_102 : decode cX8_count 102 = .ok (.iconst 2, 1) := by decide +kernel
theorem dX8_count_103 : decode cX8_count 103 = .ok (.goto 4, 3) := by decide +kernel
theorem dX8_count_106 : decode cX8_count 106 = .ok (.iconst 0, 1) := by decide +kernel
theorem dX8_count_107 : decode cX8_count 107 = .ok (.iadd, 1) := by decide +kernel
theorem dX8_count_108 : decode cX8_count 108 = .ok (.ireturn, 1) := by decide +kernel
theorem dX8_count_109 : decode cX8_count 109 = .ok (.iload_n 1, 1) := by decide +kernel
theorem dX8_count_110 : decode cX8_count 110 = .ok (.bipush 10, 2) := by decide +kernel
theorem dX8_count_112 : decode cX8_count 112 = .ok (.bipush 16, 2) := by decide +kernel
theorem dX8_count_114 : decode cX8_count 114 = .ok (.invokestatic 83, 3) := by decide +kernel
theorem dX8_count_117 : decode cX8_count 117 = .ok (.ifCond .eq 15, 3) := by decide +kernel
theorem dX8_count_120 : decode cX8_count 120 = .ok (.aload_n 0, 1) := by decide +kernel
theorem dX8_count_121 : decode cX8_count 121 = .ok (.getfield 25, 3) := by decide +kernel
theorem dX8_count_124 : decode cX8_count 124 = .ok (.iload_n 1, 1) := by decide +kernel
theorem dX8_count_125 : decode cX8_count 125 = .ok (.bipush 10, 2) := by decide +kernel
theorem dX8_count_127 : decode cX8_count 127 = .ok (.isub, 1) := by decide +kernel
theorem dX8_count_128 : decode cX8_count 128 = .ok (.iaload, 1) := by decide +kernel
theorem dX8_count_129 : decode cX8_count 129 = .ok (.goto 5, 3) := by decide +kernel
theorem dX8_count_132 : decode cX8_count 132 = .ok (.bipush (-2), 2) := by decide +kernel
theorem dX8_count_134 : decode cX8_count 134 = .ok (.ireturn, 1) := by decide +kernel
theorem dX8_image_0 : decode cX8_image 0 = .ok (.iload_n 1, 1) := by decide +kernel
theorem dX8_image_1 : decode cX8_image 1 = .ok (.iconst 0, 1) := by decide +kernel
theorem dX8_image_2 : decode cX8_image 2 = .ok (.iconst 1, 1) := by decide +kernel
theorem dX8_image_3 : decode cX8_image 3 = .ok (.invokestatic 83, 3) := by decide +kernel
theorem dX8_image_6 : decode cX8_image 6 = .ok (.ifCond .ne 6, 3) := by decide +kernel
theorem dX8_image_9 : decode cX8_image 9 = .ok (.bipush (-2), 2) := by decide +kernel
theorem dX8_image_11 : decode cX8_image 11 = .ok (.ireturn, 1) := by decide +kernel
theorem dX8_image_12 : decode cX8_image 12 = .ok (.bipush 62, 2) := by decide +kernel
theorem dX8_image_14 : decode cX8_image 14 = .ok (.iload_n 1, 1) := by decide +kernel
theorem dX8_image_15 : decode cX8_image 15 = .ok (.imul, 1) := by decide +kernel
theorem dX8_image_16 : decode cX8_image 16 = .ok (.istore_n 2, 1) := by decide +kernel
theorem dX8_image_17 : decode cX8_image 17 = .ok (.iconst 0, 1) := by decide +kernel
theorem dX8_image_18 : decode cX8_image 18 = .ok (.istore_n 3, 1) := by decide +kernel
theorem dX8_image_19 : decode cX8_image 19 = .ok (.iload_n 3, 1) := by decide +kernel
theorem dX8_image_20 : decode cX8_image 20 = .ok (.aload_n 0, 1) := by decide +kernel
theorem dX8_image_21 : decode cX8_image 21 = .ok (.getfield 87, 3) := by decide +kernel
theorem dX8_image_24 : decode cX8_image 24 = .ok (.if_icmp .ge 79, 3) := by decide +kernel
theorem dX8_image_27 : decode cX8_image 27 = .ok (.aload_n 0, 1) := by decide +kernel
theorem dX8_image_28 : decode cX8_image 28 = .ok (.getfield 77, 3) := by decide +kernel
theorem dX8_image_31 : decode cX8_image 31 = .ok (.iload_n 2, 1) := by decide +kernel
theorem dX8_image_32 : decode cX8_image 32 = .ok (.iconst 4, 1) := by decide +kernel
theorem dX8_image_33 : decode cX8_image 33 = .ok (.iload_n 3, 1) := by decide +kernel
theorem dX8_image_34 : decode cX8_image 34 = .ok (.imul, 1) := by decide +kernel
theorem dX8_image_35 : decode cX8_image 35 = .ok (.iadd, 1) := by decide +kernel
theorem dX8_image_36 : decode cX8_image 36 = .ok (.aload_n 0, 1) := by decide +kernel
theorem dX8_image_37 : decode cX8_image 37 = .ok (.getfield 7, 3) := by decide +kernel
theorem dX8_image_40 : decode cX8_image 40 = .ok (.iload_n 3, 1) := by decide +kernel
theorem dX8_image_41 : decode cX8_image 41 = .ok (.iaload, 1) := by decide +kernel
theorem dX8_image_42 : decode cX8_image 42 = .ok (.iastore, 1) := by decide +kernel
theorem dX8_image_43 : decode cX8_image 43 = .ok (.aload_n 0, 1) := by decide +kernel
theorem dX8_image_44 : decode cX8_image 44 = .ok (.getfield 77, 3) := by decide +kernel
theorem dX8_image_47 : decode cX8_image 47 = .ok (.iload_n 2, 1) := by decide +kernel
theorem dX8_image_48 : decode cX8_image 48 = .ok (.iconst 4, 1) := by decide +kernel
theorem dX8_image_49 : decode cX8_image 49 = .ok (.iload_n 3, 1) := by decide +kernel
theorem dX8_image_50 : decode cX8_image 50 = .ok (.imul, 1) := by decide +kernel
theorem dX8_image_51 : decode cX8_image 51 = .ok (.iadd, 1) := by decide +kernel
theorem dX8_image_52 : decode cX8_image 52 = .ok (.iconst 1, 1) := by decide +kernel
theorem dX8_image_53 : decode cX8_image 53 = .ok (.iadd, 1) := by decide +kernel
theorem dX8_image_54 : decode cX8_image 54 = .ok (.aload_n 0, 1) := by decide +kernel
theorem dX8_image_55 : decode cX8_image 55 = .ok (.getfield 13, 3) := by decide +kernel
theorem dX8_image_58 : decode cX8_image 58 = .ok (.iload_n 3, 1) := by decide +kernel
theorem dX8_image_59 : decode cX8_image 59 = .ok (.iaload, 1) := by decide +kernel
theorem dX8_image_60 : decode cX8_image 60 = .ok (.iastore, 1) := by decide +kernel
theorem dX8_image_61 : decode cX8_image 61 = .ok (.aload_n 0, 1) := by decide +kernel
theorem dX8_image_62 : decode cX8_image 62 = .ok (.getfield 77, 3) := by decide +kernel
theorem dX8_image_65 : decode cX8_image 65 = .ok (.iload_n 2, 1) := by decide +kernel
theorem dX8_image_66 : decode cX8_image 66 = .ok (.iconst 4, 1) := by decide +kernel
theorem dX8_image_67 : decode cX8_image 67 = .ok (.iload_n 3, 1) := by decide +kernel
theorem dX8_image_68 : decode cX8_image 68 = .ok (.imul, 1) := by decide +kernel
theorem dX8_image_69 : decode cX8_image 69 = .ok (.iadd, 1) := by decide +kernel
theorem dX8_image_70 : decode cX8_image 70 = .ok (.iconst 2, 1) := by decide +kernel
theorem dX8_image_71 : decode cX8_image 71 = .ok (.iadd, 1) := by decide +kernel
theorem dX8_image_72 : decode cX8_image 72 = .ok (.aload_n 0, 1) := by decide +kernel
theorem dX8_image_73 : decode cX8_image 73 = .ok (.getfield 16, 3) := by decide +kernel
theorem dX8_image_76 : decode cX8_image 76 = .ok (.iload_n 3, 1) := by decide +kernel
theorem dX8_image_77 : decode cX8_image 77 = .ok (.iaload, 1) := by decide +kernel
theorem dX8_image_78 : decode cX8_image 78 = .ok (.iastore, 1) := by decide +kernel
theorem dX8_image_79 : decode cX8_image 79 = .ok (.aload_n 0, 1) := by decide +kernel
theorem dX8_image_80 : decode cX8_image 80 = .ok (.getfield 77, 3) := by decide +kernel
theorem dX8_image_83 : decode cX8_image 83 = .ok (.iload_n 2, 1) := by decide +kernel
theorem dX8_image_84 : decode cX8_image 84 = .ok (.iconst 4, 1) := by decide +kernel
theorem dX8_image_85 : decode cX8_image 85 = .ok (.iload_n 3, 1) := by decide +kernel
theorem dX8_image_86 : decode cX8_image 86 = .ok (.imul, 1) := by decide +kernel
theorem dX8_image_87 : decode cX8_image 87 = .ok (.iadd, 1) := by decide +kernel
theorem dX8_image_88 : decode cX8_image 88 = .ok (.iconst 3, 1) := by decide +kernel
theorem dX8_image_89 : decode cX8_image 89 = .ok (.iadd, 1) := by decide +kernel
theorem dX8_image_90 : decode cX8_image 90 = .ok (.aload_n 0, 1) := by decide +kernel
theorem dX8_image_91 : decode cX8_image 91 = .ok (.getfield 19, 3) := by decide +kernel
theorem dX8_image_94 : decode cX8_image 94 = .ok (.iload_n 3, 1) := by decide +kernel
theorem dX8_image_95 : decode cX8_image 95 = .ok (.iaload, 1) := by decide +kernel
theorem dX8_image_96 : decode cX8_image 96 = .ok (.iastore, 1) := by decide +kernel
theorem dX8_image_97 : decode cX8_image 97 = .ok (.iinc 3 1, 3) := by decide +kernel
theorem dX8_image_100 : decode cX8_image 100 = .ok (.goto (-81), 3) := by decide +kernel
theorem dX8_image_103 : decode cX8_image 103 = .ok (.iconst 0, 1) := by decide +kernel
theorem dX8_image_104 : decode cX8_image 104 = .ok (.istore_n 3, 1) := by decide +kernel
theorem dX8_image_105 : decode cX8_image 105 = .ok (.iload_n 3, 1) := by decide +kernel
theorem dX8_image_106 : decode cX8_image 106 = .ok (.bipush 7, 2) := by decide +kernel
theorem dX8_image_108 : decode cX8_image 108 = .ok (.if_icmp .ge 68, 3) := by decide +kernel
theorem dX8_image_111 : decode cX8_image 111 = .ok (.aload_n 0, 1) := by decide +kernel
theorem dX8_image_112 : decode cX8_image 112 = .ok (.getfield 77, 3) := by decide +kernel
theorem dX8_image_115 : decode cX8_image 115 = .ok (.iload_n 2, 1) := by decide +kernel
theorem dX8_image_116 : decode cX8_image 116 = .ok (.bipush 40, 2) := by decide +kernel
theorem dX8_image_118 : decode cX8_image 118 = .ok (.iadd, 1) := by decide +kernel
theorem dX8_image_119 : decode cX8_image 119 = .ok (.iload_n 3, 1) := by decide +kernel
theorem dX8_image_120 : decode cX8_image 120 = .ok (.iadd, 1) := by decide +kernel
theorem dX8_image_121 : decode cX8_image 121 = .ok (.aload_n 0, 1) := by decide +kernel
theorem dX8_image_122 : decode cX8_image 122 = .ok (.getfield 22, 3) := by decide +kernel
theorem dX8_image_125 : decode cX8_image 125 = .ok (.iload_n 3, 1) := by decide +kernel
theorem dX8_image_126 : decode cX8_image 126 = .ok (.iaload, 1) := by decide +kernel
theorem dX8_image_127 : decode cX8_image 127 = .ok (.iastore, 1) := by decide +kernel
theorem dX8_image_128 : decode cX8_image 128 = .ok (.aload_n 0, 1) := by decide +kernel
theorem dX8_image_129 : decode cX8_image 129 = .ok (.getfield 77, 3) := by decide +kernel
theorem dX8_image_132 : decode cX8_image 132 = .ok (.iload_n 2, 1) := by decide +kernel
theorem dX8_image_133 : decode cX8_image 133 = .ok (.bipush 47, 2) := by decide +kernel
theorem dX8_image_135 : decode cX8_image 135 = .ok (.iadd, 1) := by decide +kernel
theorem dX8_image_136 : decode cX8_image 136 = .ok (.iload_n 3, 1) := by decide +kernel
theorem dX8_image_137 : decode cX8_image 137 = .ok (.iadd, 1) := by decide +kernel
theorem dX8_image_138 : decode cX8_image 138 = .ok (.aload_n 0, 1) := by decide +kernel
theorem dX8_image_139 : decode cX8_image 139 = .ok (.getfield 25, 3) := by decide +kernel
theorem dX8_image_142 : decode cX8_image 142 = .ok (.iload_n 3, 1) := by decide +kernel
theorem dX8_image_143 : decode cX8_image 143 = .ok (.iaload, 1) := by decide +kernel
theorem dX8_image_144 : decode cX8_image 144 = .ok (.iastore, 1) := by decide +kernel
theorem dX8_image_145 : decode cX8_image 145 = .ok (.aload_n 0, 1) := by decide +kernel
theorem dX8_image_146 : decode cX8_image 146 = .ok (.getfield 77, 3) := by decide +kernel
theorem dX8_image_149 : decode cX8_image 149 = .ok (.iload_n 2, 1) := by decide +kernel
theorem dX8_image_150 : decode cX8_image 150 = .ok (.bipush 54, 2) := by decide +kernel
theorem dX8_image_152 : decode cX8_image 152 = .ok (.iadd, 1) := by decide +kernel
theorem dX8_image_153 : decode cX8_image 153 = .ok (.iload_n 3, 1) := by decide +kernel
theorem dX8_image_154 : decode cX8_image 154 = .ok (.iadd, 1) := by decide +kernel
theorem dX8_image_155 : decode cX8_image 155 = .ok (.aload_n 0, 1) := by decide +kernel
theorem dX8_image_156 : decode cX8_image 156 = .ok (.getfield 28, 3) := by decide +kernel
theorem dX8_image_159 : decode cX8_image 159 = .ok (.iload_n 3, 1) := by decide +kernel
theorem dX8_image_160 : decode cX8_image 160 = .ok (.baload, 1) := by decide +kernel
theorem dX8_image_161 : decode cX8_image 161 = .ok (.ifCond .eq 7, 3) := by decide +kernel
theorem dX8_image_164 : decode cX8_image 164 = .ok (.iconst 1, 1) := by decide +kernel
theorem dX8_image_165 : decode cX8_image 165 = .ok (.goto 4, 3) := by decide +kernel
theorem dX8_image_168 : decode cX8_image 168 = .ok (.iconst 0, 1) := by decide +kernel
theorem dX8_image_169 : decode cX8_image 169 = .ok (.iastore, 1) := by decide +kernel
theorem dX8_image_170 : decode cX8_image 170 = .ok (.iinc 3 1, 3) := by decide +kernel
theorem dX8_image_173 : decode cX8_image 173 = .ok (.goto (-68), 3) := by decide +kernel
theorem dX8_image_176 : decode cX8_image 176 = .ok (.aload_n 0, 1) := by decide +kernel
theorem dX8_image_177 : decode cX8_image 177 = .ok (.getfield 77, 3) := by decide +kernel
theorem dX8_image_180 : decode cX8_image 180 = .ok (.iload_n 2, 1) := by decide +kernel
theorem dX8_image_181 : decode cX8_image 181 = .ok (.bipush 61, 2) := by decide +kernel
theorem dX8_image_183 : decode cX8_image 183 = .ok (.iadd, 1) := by decide +kernel
theorem dX8_image_184 : decode cX8_image 184 = .ok (.aload_n 0, 1) := by decide +kernel
theorem dX8_image_185 : decode cX8_image 185 = .ok (.getfield 87, 3) := by decide +kernel
theorem dX8_image_188 : decode cX8_image 188 = .ok (.iastore, 1) := by decide +kernel
theorem dX8_image_189 : decode cX8_image 189 = .ok (.aload_n 0, 1) := by decide +kernel
theorem dX8_image_190 : decode cX8_image 190 = .ok (.getfield 80, 3) := by decide +kernel
theorem dX8_image_193 : decode cX8_image 193 = .ok (.iload_n 1, 1) := by decide +kernel
theorem dX8_image_194 : decode cX8_image 194 = .ok (.iconst 1, 1) := by decide +kernel
theorem dX8_image_195 : decode cX8_image 195 = .ok (.bastore, 1) := by decide +kernel
theorem dX8_image_196 : decode cX8_image 196 = .ok (.iconst 1, 1) := by decide +kernel
theorem dX8_image_197 : decode cX8_image 197 = .ok (.ireturn, 1) := by decide +kernel
theorem dX8_restore_0 : decode cX8_restore 0 = .ok (.iload_n 1, 1) := by decide +kernel
theorem dX8_restore_1 : decode cX8_restore 1 = .ok (.iconst 0, 1) := by decide +kernel
theorem dX8_restore_2 : decode cX8_restore 2 = .ok (.iconst 1, 1) := by decide +kernel
theorem dX8_restore_3 : decode cX8_restore 3 = .ok (.invokestatic 83, 3) := by decide +kernel
theorem dX8_restore_6 : decode cX8_restore 6 = .ok (.ifCond .ne 6, 3) := by decide +kernel
theorem dX8_restore_9 : decode cX8_restore 9 = .ok (.bipush (-2), 2) := by decide +kernel
theorem dX8_restore_11 : decode cX8_restore 11 = .ok (.ireturn, 1) := by decide +kernel
theorem dX8_restore_12 : decode cX8_restore 12 = .ok (.aload_n 0, 1) := by decide +kernel
theorem dX8_restore_13 : decode cX8_restore 13 = .ok (.getfield 80, 3) := by decide +kernel
theorem dX8_restore_16 : decode cX8_restore 16 = .ok (.iload_n 1, 1) := by decide +kernel
theorem dX8_restore_17 : decode cX8_restore 17 = .ok (.baload, 1) := by decide +kernel
theorem dX8_restore_18 : decode cX8_restore 18 = .ok (.ifCond .ne 6, 3) := by decide +kernel
theorem dX8_restore_21 : decode cX8_restore 21 = .ok (.bipush (-3), 2) := by decide +kernel
theorem dX8_restore_23 : decode cX8_restore 23 = .ok (.ireturn, 1) := by decide +kernel
theorem dX8_restore_24 : decode cX8_restore 24 = .ok (.bipush 62, 2) := by decide +kernel
theorem dX8_restore_26 : decode cX8_restore 26 = .ok (.iload_n 1, 1) := by decide +kernel
theorem dX8_restore_27 : decode cX8_restore 27 = .ok (.imul, 1) := by decide +kernel
theorem dX8_restore_28 : decode cX8_restore 28 = .ok (.istore_n 2, 1) := by decide +kernel
theorem dX8_restore_29 : decode cX8_restore 29 = .ok (.aload_n 0, 1) := by decide +kernel
theorem dX8_restore_30 : decode cX8_restore 30 = .ok (.aload_n 0, 1) := by decide +kernel
theorem dX8_restore_31 : decode cX8_restore 31 = .ok (.getfield 77, 3) := by decide +kernel
theorem dX8_restore_34 : decode cX8_restore 34 = .ok (.iload_n 2, 1) := by decide +kernel
theorem dX8_restore_35 : decode cX8_restore 35 = .ok (.bipush 61, 2) := by decide +kernel
theorem dX8_restore_37 : decode cX8_restore 37 = .ok (.iadd, 1) := by decide +kernel
theorem dX8_restore_38 : decode cX8_restore 38 = .ok (.iaload, 1) := by decide +kernel
theorem dX8_restore_39 : decode cX8_restore 39 = .ok (.putfield 87, 3) := by decide +kernel
theorem dX8_restore_42 : decode cX8_restore 42 = .ok (.iconst 0, 1) := by decide +kernel
theorem dX8_restore_43 : decode cX8_restore 43 = .ok (.istore_n 3, 1) := by decide +kernel
theorem dX8_restore_44 : decode cX8_restore 44 = .ok (.iload_n 3, 1) := by decide +kernel
theorem dX8_restore_45 : decode cX8_restore 45 = .ok (.aload_n 0, 1) := by decide +kernel
theorem dX8_restore_46 : decode cX8_restore 46 = .ok (.getfield 87, 3) := by decide +kernel
theorem dX8_restore_49 : decode cX8_restore 49 = .ok (.if_icmp .ge 79, 3) := by decide +kernel
theorem dX8_restore_52 : decode cX8_restore 52 = .ok (.aload_n 0, 1) := by decide +kernel
theorem dX8_restore_53 : decode cX8_restore 53 = .ok (.getfield 7, 3) := by decide +kernel
theorem dX8_restore_56 : decode cX8_restore 56 = .ok (.iload_n 3, 1) := by decide +kernel
theorem dX8_restore_57 : decode cX8_restore 57 = .ok (.aload_n 0, 1) := by decide +kernel
theorem dX8_restore_58 : decode cX8_restore 58 = .ok (.getfield 77, 3) := by decide +kernel
theorem dX8_restore_61 : decode cX8_restore 61 = .ok (.iload_n 2, 1) := by decide +kernel
theorem dX8_restore_62 : decode cX8_restore 62 = .ok (.iconst 4, 1) := by decide +kernel
theorem dX8_restore_63 : decode cX8_restore 63 = .ok (.iload_n 3, 1) := by decide +kernel
theorem dX8_restore_64 : decode cX8_restore 64 = .ok (.imul, 1) := by decide +kernel
theorem dX8_restore_65 : decode cX8_restore 65 = .ok (.iadd, 1) := by decide +kernel
theorem dX8_restore_66 : decode cX8_restore 66 = .ok (.iaload, 1) := by decide +kernel
theorem dX8_restore_67 : decode cX8_restore 67 = .ok (.iastore, 1) := by decide +kernel
theorem dX8_restore_68 : decode cX8_restore 68 = .ok (.aload_n 0, 1) := by decide +kernel
theorem dX8_restore_69 : decode cX8_restore 69 = .ok (.getfield 13, 3) := by decide +kernel
theorem dX8_restore_72 : decode cX8_restore 72 = .ok (.iload_n 3, 1) := by decide +kernel
theorem dX8_restore_73 : decode cX8_restore 73 = .ok (.aload_n 0, 1) := by decide +kernel
theorem dX8_restore_74 : decode cX8_restore 74 = .ok (.getfield 77, 3) := by decide +kernel
theorem dX8_restore_77 : decode cX8_restore 77 = .ok (.iload_n 2, 1) := by decide +kernel
theorem dX8_restore_78 : decode cX8_restore 78 = .ok (.iconst 4, 1) := by decide +kernel
theorem dX8_restore_79 : decode cX8_restore 79 = .ok (.iload_n 3, 1) := by decide +kernel
theorem dX8_restore_80 : decode cX8_restore 80 = .ok (.imul, 1) := by decide +kernel
theorem dX8_restore_81 : decode cX8_restore 81 = .ok (.iadd, 1) := by decide +kernel
theorem dX8_restore_82 : decode cX8_restore 82 = .ok (.iconst 1, 1) := by decide +kernel
theorem dX8_restore_83 : decode cX8_restore 83 = .ok (.iadd, 1) := by decide +kernel
theorem dX8_restore_84 : decode cX8_restore 84 = .ok (.iaload, 1) := by decide +kernel
theorem dX8_restore_85 : decode cX8_restore 85 = .ok (.iastore, 1) := by decide +kernel
theorem dX8_restore_86 : decode cX8_restore 86 = .ok (.aload_n 0, 1) := by decide +kernel
theorem dX8_restore_87 : decode cX8_restore 87 = .ok (.getfield 16, 3) := by decide +kernel
theorem dX8_restore_90 : decode cX8_restore 90 = .ok (.iload_n 3, 1) := by decide +kernel
theorem dX8_restore_91 : decode cX8_restore 91 = .ok (.aload_n 0, 1) := by decide +kernel
theorem dX8_restore_92 : decode cX8_restore 92 = .ok (.getfield 77, 3) := by decide +kernel
theorem dX8_restore_95 : decode cX8_restore 95 = .ok (.iload_n 2, 1) := by decide +kernel
theorem dX8_restore_96 : decode cX8_restore 96 = .ok (.iconst 4, 1) := by decide +kernel
theorem dX8_restore_97 : decode cX8_restore 97 = .ok (.iload_n 3, 1) := by decide +kernel
theorem dX8_restore_98 : decode cX8_restore 98 = .ok (.imul, 1) := by decide +kernel
theorem dX8_restore_99 : decode cX8_restore 99 = .ok (.iadd, 1) := by decide +kernel
theorem dX8_restore_100 : decode cX8_restore 100 = .ok (.iconst 2, 1) := by decide +kernel
theorem dX8_restore_101 : decode cX8_restore 101 = .ok (.iadd, 1) := by decide +kernel
theorem dX8_restore_102 : decode cX8_restore 102 = .ok (.iaload, 1) := by decide +kernel
theorem dX8_restore_103 : decode cX8_restore 103 = .ok (.iastore, 1) := by decide +kernel
theorem dX8_restore_104 : decode cX8_restore 104 = .ok (.aload_n 0, 1) := by decide +kernel
theorem dX8_restore_105 : decode cX8_restore 105 = .ok (.getfield 19, 3) := by decide +kernel
theorem dX8_restore_108 : decode cX8_restore 108 = .ok (.iload_n 3, 1) := by decide +kernel
theorem dX8_restore_109 : decode cX8_restore 109 = .ok (.aload_n 0, 1) := by decide +kernel
theorem dX8_restore_110 : decode cX8_restore 110 = .ok (.getfield 77, 3) := by decide +kernel
theorem dX8_restore_113 : decode cX8_restore 113 = .ok (.iload_n 2, 1) := by decide +kernel
theorem dX8_restore_114 : decode cX8_restore 114 = .ok (.iconst 4, 1) := by decide +kernel
theorem dX8_restore_115 : decode cX8_restore 115 = .ok (.iload_n 3, 1) := by decide +kernel
theorem dX8_restore_116 : decode cX8_restore 116 = .ok (.imul, 1) := by decide +kernel
theorem dX8_restore_117 : decode cX8_restore 117 = .ok (.iadd, 1) := by decide +kernel
theorem dX8_restore_118 : decode cX8_restore 118 = .ok (.iconst 3, 1) := by decide +kernel
theorem dX8_restore_119 : decode cX8_restore 119 = .ok (.iadd, 1) := by decide +kernel
theorem dX8_restore_120 : decode cX8_restore 120 = .ok (.iaload, 1) := by decide +kernel
theorem dX8_restore_121 : decode cX8_restore 121 = .ok (.iastore, 1) := by decide +kernel
theorem dX8_restore_122 : decode cX8_restore 122 = .ok (.iinc 3 1, 3) := by decide +kernel
theorem dX8_restore_125 : decode cX8_restore 125 = .ok (.goto (-81), 3) := by decide +kernel
theorem dX8_restore_128 : decode cX8_restore 128 = .ok (.iconst 0, 1) := by decide +kernel
theorem dX8_restore_129 : decode cX8_restore 129 = .ok (.istore_n 3, 1) := by decide +kernel
theorem dX8_restore_130 : decode cX8_restore 130 = .ok (.iload_n 3, 1) := by decide +kernel
theorem dX8_restore_131 : decode cX8_restore 131 = .ok (.bipush 7, 2) := by decide +kernel
theorem dX8_restore_133 : decode cX8_restore 133 = .ok (.if_icmp .ge 69, 3) := by decide +kernel
theorem dX8_restore_136 : decode cX8_restore 136 = .ok (.aload_n 0, 1) := by decide +kernel
theorem dX8_restore_137 : decode cX8_restore 137 = .ok (.getfield 22, 3) := by decide +kernel
theorem dX8_restore_140 : decode cX8_restore 140 = .ok (.iload_n 3, 1) := by decide +kernel
theorem dX8_restore_141 : decode cX8_restore 141 = .ok (.aload_n 0, 1) := by decide +kernel
theorem dX8_restore_142 : decode cX8_restore 142 = .ok (.getfield 77, 3) := by decide +kernel
theorem dX8_restore_145 : decode cX8_restore 145 = .ok (.iload_n 2, 1) := by decide +kernel
theorem dX8_restore_146 : decode cX8_restore 146 = .ok (.bipush 40, 2) := by decide +kernel
theorem dX8_restore_148 : decode cX8_restore 148 = .ok (.iadd, 1) := by decide +kernel
theorem dX8_restore_149 : decode cX8_restore 149 = .ok (.iload_n 3, 1) := by decide +kernel
theorem dX8_restore_150 : decode cX8_restore 150 = .ok (.iadd, 1) := by decide +kernel
theorem dX8_restore_151 : decode cX8_restore 151 = .ok (.iaload, 1) := by decide +kernel
theorem dX8_restore_152 : decode cX8_restore 152 = .ok (.iastore, 1) := by decide +kernel
theorem dX8_restore_153 : decode cX8_restore 153 = .ok (.aload_n 0, 1) := by decide +kernel
theorem dX8_restore_154 : decode cX8_restore 154 = .ok (.getfield 25, 3) := by decide +kernel
theorem dX8_restore_157 : decode cX8_restore 157 = .ok (.iload_n 3, 1) := by decide +kernel
theorem dX8_restore_158 : decode cX8_restore 158 = .ok (.aload_n 0, 1) := by decide +kernel
theorem dX8_restore_159 : decode cX8_restore 159 = .ok (.getfield 77, 3) := by decide +kernel
theorem dX8_restore_162 : decode cX8_restore 162 = .ok (.iload_n 2, 1) := by decide +kernel
theorem dX8_restore_163 : decode cX8_restore 163 = .ok (.bipush 47, 2) := by decide +kernel
theorem dX8_restore_165 : decode cX8_restore 165 = .ok (.iadd, 1) := by decide +kernel
theorem dX8_restore_166 : decode cX8_restore 166 = .ok (.iload_n 3, 1) := by decide +kernel
theorem dX8_restore_167 : decode cX8_restore 167 = .ok (.iadd, 1) := by decide +kernel
theorem dX8_restore_168 : decode cX8_restore 168 = .ok (.iaload, 1) := by decide +kernel
theorem dX8_restore_169 : decode cX8_restore 169 = .ok (.iastore, 1) := by decide +kernel
theorem dX8_restore_170 : decode cX8_restore 170 = .ok (.aload_n 0, 1) := by decide +kernel
theorem dX8_restore_171 : decode cX8_restore 171 = .ok (.getfield 28, 3) := by decide +kernel
theorem dX8_restore_174 : decode cX8_restore 174 = .ok (.iload_n 3, 1) := by decide +kernel
theorem dX8_restore_175 : decode cX8_restore 175 = .ok (.aload_n 0, 1) := by decide +kernel
theorem dX8_restore_176 : decode cX8_restore 176 = .ok (.getfield 77, 3) := by decide +kernel
theorem dX8_restore_179 : decode cX8_restore 179 = .ok (.iload_n 2, 1) := by decide +kernel
theorem dX8_restore_180 : decode cX8_restore 180 = .ok (.bipush 54, 2) := by decide +kernel
theorem dX8_restore_182 : decode cX8_restore 182 = .ok (.iadd, 1) := by decide +kernel
theorem dX8_restore_183 : decode cX8_restore 183 = .ok (.iload_n 3, 1) := by decide +kernel
theorem dX8_restore_184 : decode cX8_restore 184 = .ok (.iadd, 1) := by decide +kernel
theorem dX8_restore_185 : decode cX8_restore 185 = .ok (.iaload, 1) := by decide +kernel
theorem dX8_restore_186 : decode cX8_restore 186 = .ok (.iconst 1, 1) := by decide +kernel
theorem dX8_restore_187 : decode cX8_restore 187 = .ok (.if_icmp .ne 7, 3) := by decide +kernel
theorem dX8_restore_190 : decode cX8_restore 190 = .ok (.iconst 1, 1) := by decide +kernel
theorem dX8_restore_191 : decode cX8_restore 191 = .ok (.goto 4, 3) := by decide +kernel
theorem dX8_restore_194 : decode cX8_restore 194 = .ok (.iconst 0, 1) := by decide +kernel
theorem dX8_restore_195 : decode cX8_restore 195 = .ok (.bastore, 1) := by decide +kernel
theorem dX8_restore_196 : decode cX8_restore 196 = .ok (.iinc 3 1, 3) := by decide +kernel
theorem dX8_restore_199 : decode cX8_restore 199 = .ok (.goto (-69), 3) := by decide +kernel
theorem dX8_restore_202 : decode cX8_restore 202 = .ok (.aload_n 0, 1) := by decide +kernel
theorem dX8_restore_203 : decode cX8_restore 203 = .ok (.invokevirtual 95, 3) := by decide +kernel
theorem dX8_restore_206 : decode cX8_restore 206 = .ok (.iconst 1, 1) := by decide +kernel
theorem dX8_restore_207 : decode cX8_restore 207 = .ok (.ireturn, 1) := by decide +kernel
theorem dJ6_bitCount_0f7a4_0 : decode cJ6_bitCount_0f7a4 0 = .ok (.iload_n 0, 1) := by decide +kernel
theorem dJ6_bitCount_0f7a4_1 : decode cJ6_bitCount_0f7a4 1 = .ok (.iload_n 0, 1) := by decide +kernel
theorem dJ6_bitCount_0f7a4_2 : decode cJ6_bitCount_0f7a4 2 = .ok (.iconst 1, 1) := by decide +kernel
theorem dJ6_bitCount_0f7a4_3 : decode cJ6_bitCount_0f7a4 3 = .ok (.iushr, 1) := by decide +kernel
theorem dJ6_bitCount_0f7a4_4 : decode cJ6_bitCount_0f7a4 4 = .ok (.ldc_w 265, 3) := by decide +kernel
theorem dJ6_bitCount_0f7a4_7 : decode cJ6_bitCount_0f7a4 7 = .ok (.iand, 1) := by decide +kernel
theorem dJ6_bitCount_0f7a4_8 : decode cJ6_bitCount_0f7a4 8 = .ok (.isub, 1) := by decide +kernel
theorem dJ6_bitCount_0f7a4_9 : decode cJ6_bitCount_0f7a4 9 = .ok (.istore_n 0, 1) := by decide +kernel
theorem dJ6_bitCount_0f7a4_10 : decode cJ6_bitCount_0f7a4 10 = .ok (.iload_n 0, 1) := by decide +kernel
theorem dJ6_bitCount_0f7a4_11 : decode cJ6_bitCount_0f7a4 11 = .ok (.ldc_w 266, 3) := by decide +kernel
theorem dJ6_bitCount_0f7a4_14 : decode cJ6_bitCount_0f7a4 14 = .ok (.iand, 1) := by decide +kernel
theorem dJ6_bitCount_0f7a4_15 : decode cJ6_bitCount_0f7a4 15 = .ok (.iload_n 0, 1) := by decide +kernel
theorem dJ6_bitCount_0f7a4_16 : decode cJ6_bitCount_0f7a4 16 = .ok (.iconst 2, 1) := by decide +kernel
theorem dJ6_bitCount_0f7a4_17 : decode cJ6_bitCount_0f7a4 17 = .ok (.iushr, 1) := by decide +kernel
theorem dJ6_bitCount_0f7a4_18 : decode cJ6_bitCount_0f7a4 18 = .ok (.ldc_w 266, 3) := by decide +kernel
theorem dJ6_bitCount_0f7a4_21 : decode cJ6_bitCount_0f7a4 21 = .ok (.iand, 1) := by decide +kernel
theorem dJ6_bitCount_0f7a4_22 : decode cJ6_bitCount_0f7a4 22 = .ok (.iadd, 1) := by decide +kernel
theorem dJ6_bitCount_0f7a4_23 : decode cJ6_bitCount_0f7a4 23 = .ok (.istore_n 0, 1) := by decide +kernel
theorem dJ6_bitCount_0f7a4_24 : decode cJ6_bitCount_0f7a4 24 = .ok (.iload_n 0, 1) := by decide +kernel
theorem dJ6_bitCount_0f7a4_25 : decode cJ6_bitCount_0f7a4 25 = .ok (.iload_n 0, 1) := by decide +kernel
theorem dJ6_bitCount_0f7a4_26 : decode cJ6_bitCount_0f7a4 26 = .ok (.iconst 4, 1) := by decide +kernel
theorem dJ6_bitCount_0f7a4_27 : decode cJ6_bitCount_0f7a4 27 = .ok (.iushr, 1) := by decide +kernel
theorem dJ6_bitCount_0f7a4_28 : decode cJ6_bitCount_0f7a4 28 = .ok (.iadd, 1) := by decide +kernel
theorem dJ6_bitCount_0f7a4_29 : decode cJ6_bitCount_0f7a4 29 = .ok (.ldc_w 267, 3) := by decide +kernel
theorem dJ6_bitCount_0f7a4_32 : decode cJ6_bitCount_0f7a4 32 = .ok (.iand, 1) := by decide +kernel
theorem dJ6_bitCount_0f7a4_33 : decode cJ6_bitCount_0f7a4 33 = .ok (.istore_n 0, 1) := by decide +kernel
theorem dJ6_bitCount_0f7a4_34 : decode cJ6_bitCount_0f7a4 34 = .ok (.iload_n 0, 1) := by decide +kernel
theorem dJ6_bitCount_0f7a4_35 : decode cJ6_bitCount_0f7a4 35 = .ok (.iload_n 0, 1) := by decide +kernel
theorem dJ6_bitCount_0f7a4_36 : decode cJ6_bitCount_0f7a4 36 = .ok (.bipush 8, 2) := by decide +kernel
theorem dJ6_bitCount_0f7a4_38 : decode cJ6_bitCount_0f7a4 38 = .ok (.iushr, 1) := by decide +kernel
theorem dJ6_bitCount_0f7a4_39 : decode cJ6_bitCount_0f7a4 39 = .ok (.iadd, 1) := by decide +kernel
theorem dJ6_bitCount_0f7a4_40 : decode cJ6_bitCount_0f7a4 40 = .ok (.istore_n 0, 1) := by decide +kernel
theorem dJ6_bitCount_0f7a4_41 : decode cJ6_bitCount_0f7a4 41 = .ok (.iload_n 0, 1) := by decide +kernel
theorem dJ6_bitCount_0f7a4_42 : decode cJ6_bitCount_0f7a4 42 = .ok (.iload_n 0, 1) := by decide +kernel
theorem dJ6_bitCount_0f7a4_43 : decode cJ6_bitCount_0f7a4 43 = .ok (.bipush 16, 2) := by decide +kernel
theorem dJ6_bitCount_0f7a4_45 : decode cJ6_bitCount_0f7a4 45 = .ok (.iushr, 1) := by decide +kernel
theorem dJ6_bitCount_0f7a4_46 : decode cJ6_bitCount_0f7a4 46 = .ok (.iadd, 1) := by decide +kernel
theorem dJ6_bitCount_0f7a4_47 : decode cJ6_bitCount_0f7a4 47 = .ok (.istore_n 0, 1) := by decide +kernel
theorem dJ6_bitCount_0f7a4_48 : decode cJ6_bitCount_0f7a4 48 = .ok (.iload_n 0, 1) := by decide +kernel
theorem dJ6_bitCount_0f7a4_49 : decode cJ6_bitCount_0f7a4 49 = .ok (.bipush 63, 2) := by decide +kernel
theorem dJ6_bitCount_0f7a4_51 : decode cJ6_bitCount_0f7a4 51 = .ok (.iand, 1) := by decide +kernel
theorem dJ6_bitCount_0f7a4_52 : decode cJ6_bitCount_0f7a4 52 = .ok (.ireturn, 1) := by decide +kernel
theorem dJ9_abs_0f7a4_0 : decode cJ9_abs_0f7a4 0 = .ok (.iload_n 0, 1) := by decide +kernel
theorem dJ9_abs_0f7a4_1 : decode cJ9_abs_0f7a4 1 = .ok (.ifCond .ge 8, 3) := by decide +kernel
theorem dJ9_abs_0f7a4_4 : decode cJ9_abs_0f7a4 4 = .ok (.iload_n 0, 1) := by decide +kernel
theorem dJ9_abs_0f7a4_5 : decode cJ9_abs_0f7a4 5 = .ok (.ineg, 1) := by decide +kernel
theorem dJ9_abs_0f7a4_6 : decode cJ9_abs_0f7a4 6 = .ok (.goto 4, 3) := by decide +kernel
theorem dJ9_abs_0f7a4_9 : decode cJ9_abs_0f7a4 9 = .ok (.iload_n 0, 1) := by decide +kernel
theorem dJ9_abs_0f7a4_10 : decode cJ9_abs_0f7a4 10 = .ok (.ireturn, 1) := by decide +kernel
theorem dJ9_max_7cf53_0 : decode cJ9_max_7cf53 0 = .ok (.iload_n 0, 1) := by decide +kernel
theorem dJ9_max_7cf53_1 : decode cJ9_max_7cf53 1 = .ok (.iload_n 1, 1) := by decide +kernel
theorem dJ9_max_7cf53_2 : decode cJ9_max_7cf53 2 = .ok (.if_icmp .lt 7, 3) := by decide +kernel
theorem dJ9_max_7cf53_5 : decode cJ9_max_7cf53 5 = .ok (.iload_n 0, 1) := by decide +kernel
theorem dJ9_max_7cf53_6 : decode cJ9_max_7cf53 6 = .ok (.goto 4, 3) := by decide +kernel
theorem dJ9_max_7cf53_9 : decode cJ9_max_7cf53 9 = .ok (.iload_n 1, 1) := by decide +kernel
theorem dJ9_max_7cf53_10 : decode cJ9_max_7cf53 10 = .ok (.ireturn, 1) := by decide +kernel
theorem dJ9_min_7cf53_0 : decode cJ9_min_7cf53 0 = .ok (.iload_n 0, 1) := by decide +kernel
theorem dJ9_min_7cf53_1 : decode cJ9_min_7cf53 1 = .ok (.iload_n 1, 1) := by decide +kernel
theorem dJ9_min_7cf53_2 : decode cJ9_min_7cf53 2 = .ok (.if_icmp .gt 7, 3) := by decide +kernel
theorem dJ9_min_7cf53_5 : decode cJ9_min_7cf53 5 = .ok (.iload_n 0, 1) := by decide +kernel
theorem dJ9_min_7cf53_6 : decode cJ9_min_7cf53 6 = .ok (.goto 4, 3) := by decide +kernel
theorem dJ9_min_7cf53_9 : decode cJ9_min_7cf53 9 = .ok (.iload_n 1, 1) := by decide +kernel
theorem dJ9_min_7cf53_10 : decode cJ9_min_7cf53 10 = .ok (.ireturn, 1) := by decide +kernel
theorem dJ7_fill_53178_0 : decode cJ7_fill_53178 0 = .ok (.iconst 0, 1) := by decide +kernel
theorem dJ7_fill_53178_1 : decode cJ7_fill_53178 1 = .ok (.istore_n 2, 1) := by decide +kernel
theorem dJ7_fill_53178_2 : decode cJ7_fill_53178 2 = .ok (.aload_n 0, 1) := by decide +kernel
theorem dJ7_fill_53178_3 : decode cJ7_fill_53178 3 = .ok (.arraylength, 1) := by decide +kernel
theorem dJ7_fill_53178_4 : decode cJ7_fill_53178 4 = .ok (.istore_n 3, 1) := by decide +kernel
theorem dJ7_fill_53178_5 : decode cJ7_fill_53178 5 = .ok (.iload_n 2, 1) := by decide +kernel
theorem dJ7_fill_53178_6 : decode cJ7_fill_53178 6 = .ok (.iload_n 3, 1) := by decide +kernel
theorem dJ7_fill_53178_7 : decode cJ7_fill_53178 7 = .ok (.if_icmp .ge 13, 3) := by decide +kernel
theorem dJ7_fill_53178_10 : decode cJ7_fill_53178 10 = .ok (.aload_n 0, 1) := by decide +kernel
theorem dJ7_fill_53178_11 : decode cJ7_fill_53178 11 = .ok (.iload_n 2, 1) := by decide +kernel
theorem dJ7_fill_53178_12 : decode cJ7_fill_53178 12 = .ok (.iload_n 1, 1) := by decide +kernel
theorem dJ7_fill_53178_13 : decode cJ7_fill_53178 13 = .ok (.iastore, 1) := by decide +kernel
theorem dJ7_fill_53178_14 : decode cJ7_fill_53178 14 = .ok (.iinc 2 1, 3) := by decide +kernel
theorem dJ7_fill_53178_17 : decode cJ7_fill_53178 17 = .ok (.goto (-12), 3) := by decide +kernel
theorem dJ7_fill_53178_20 : decode cJ7_fill_53178 20 = .ok (.return_, 1) := by decide +kernel
theorem dL_law_0 : decode cL_law 0 = .ok (.new 7, 3) := by decide +kernel
theorem dL_law_3 : decode cL_law 3 = .ok (.dup, 1) := by decide +kernel
theorem dL_law_4 : decode cL_law 4 = .ok (.invokespecial 9, 3) := by decide +kernel
theorem dL_law_7 : decode cL_law 7 = .ok (.astore_n 1, 1) := by decide +kernel
theorem dL_law_8 : decode cL_law 8 = .ok (.new 10, 3) := by decide +kernel
theorem dL_law_11 : decode cL_law 11 = .ok (.dup, 1) := by decide +kernel
theorem dL_law_12 : decode cL_law 12 = .ok (.invokespecial 12, 3) := by decide +kernel
theorem dL_law_15 : decode cL_law 15 = .ok (.astore_n 2, 1) := by decide +kernel
theorem dL_law_16 : decode cL_law 16 = .ok (.iconst 0, 1) := by decide +kernel
theorem dL_law_17 : decode cL_law 17 = .ok (.istore_n 3, 1) := by decide +kernel
theorem dL_law_18 : decode cL_law 18 = .ok (.iload_n 3, 1) := by decide +kernel
theorem dL_law_19 : decode cL_law 19 = .ok (.aload_n 0, 1) := by decide +kernel
theorem dL_law_20 : decode cL_law 20 = .ok (.arraylength, 1) := by decide +kernel
theorem dL_law_21 : decode cL_law 21 = .ok (.iconst 5, 1) := by decide +kernel
theorem dL_law_22 : decode cL_law 22 = .ok (.isub, 1) := by decide +kernel
theorem dL_law_23 : decode cL_law 23 = .ok (.if_icmp .gt 725, 3) := by decide +kernel
theorem dL_law_26 : decode cL_law 26 = .ok (.aload_n 0, 1) := by decide +kernel
theorem dL_law_27 : decode cL_law 27 = .ok (.iload_n 3, 1) := by decide +kernel
theorem dL_law_28 : decode cL_law 28 = .ok (.iaload, 1) := by decide +kernel
theorem dL_law_29 : decode cL_law 29 = .ok (.bipush 31, 2) := by decide +kernel
theorem dL_law_31 : decode cL_law 31 = .ok (.iand, 1) := by decide +kernel
theorem dL_law_32 : decode cL_law 32 = .ok (.tableswitch 710 0 18 #[92, 145, 168, 191, 224, 257, 290, 314, 337, 380, 433, 486, 519, 552, 585, 618, 641, 664, 687], 92) := by decide +kernel
theorem dL_law_124 : decode cL_law 124 = .ok (.aload_n 1, 1) := by decide +kernel
theorem dL_law_125 : decode cL_law 125 = .ok (.aload_n 0, 1) := by decide +kernel
theorem dL_law_126 : decode cL_law 126 = .ok (.iload_n 3, 1) := by decide +kernel
theorem dL_law_127 : decode cL_law 127 = .ok (.iconst 1, 1) := by decide +kernel
theorem dL_law_128 : decode cL_law 128 = .ok (.iadd, 1) := by decide +kernel
theorem dL_law_129 : decode cL_law 129 = .ok (.iaload, 1) := by decide +kernel
theorem dL_law_130 : decode cL_law 130 = .ok (.aload_n 0, 1) := by decide +kernel
theorem dL_law_131 : decode cL_law 131 = .ok (.iload_n 3, 1) := by decide +kernel
theorem dL_law_132 : decode cL_law 132 = .ok (.iconst 2, 1) := by decide +kernel
theorem dL_law_133 : decode cL_law 133 = .ok (.iadd, 1) := by decide +kernel
theorem dL_law_134 : decode cL_law 134 = .ok (.iaload, 1) := by decide +kernel
theorem dL_law_135 : decode cL_law 135 = .ok (.aload_n 0, 1) := by decide +kernel
theorem dL_law_136 : decode cL_law 136 = .ok (.iload_n 3, 1) := by decide +kernel
theorem dL_law_137 : decode cL_law 137 = .ok (.iconst 3, 1) := by decide +kernel
theorem dL_law_138 : decode cL_law 138 = .ok (.iadd, 1) := by decide +kernel
theorem dL_law_139 : decode cL_law 139 = .ok (.iaload, 1) := by decide +kernel
theorem dL_law_140 : decode cL_law 140 = .ok (.aload_n 0, 1) := by decide +kernel
theorem dL_law_141 : decode cL_law 141 = .ok (.iload_n 3, 1) := by decide +kernel
theorem dL_law_142 : decode cL_law 142 = .ok (.iconst 4, 1) := by decide +kernel
theorem dL_law_143 : decode cL_law 143 = .ok (.iadd, 1) := by decide +kernel
theorem dL_law_144 : decode cL_law 144 = .ok (.iaload, 1) := by decide +kernel
theorem dL_law_145 : decode cL_law 145 = .ok (.invokevirtual 13, 3) := by decide +kernel
theorem dL_law_148 : decode cL_law 148 = .ok (.aload_n 2, 1) := by decide +kernel
theorem dL_law_149 : decode cL_law 149 = .ok (.aload_n 0, 1) := by decide +kernel
theorem dL_law_150 : decode cL_law 150 = .ok (.iload_n 3, 1) := by decide +kernel
theorem dL_law_151 : decode cL_law 151 = .ok (.iconst 1, 1) := by decide +kernel
theorem dL_law_152 : decode cL_law 152 = .ok (.iadd, 1) := by decide +kernel
theorem dL_law_153 : decode cL_law 153 = .ok (.iaload, 1) := by decide +kernel
theorem dL_law_154 : decode cL_law 154 = .ok (.aload_n 0, 1) := by decide +kernel
theorem dL_law_155 : decode cL_law 155 = .ok (.iload_n 3, 1) := by decide +kernel
theorem dL_law_156 : decode cL_law 156 = .ok (.iconst 2, 1) := by decide +kernel
theorem dL_law_157 : decode cL_law 157 = .ok (.iadd, 1) := by decide +kernel
theorem dL_law_158 : decode cL_law 158 = .ok (.iaload, 1) := by decide +kernel
theorem dL_law_159 : decode cL_law 159 = .ok (.aload_n 0, 1) := by decide +kernel
theorem dL_law_160 : decode cL_law 160 = .ok (.iload_n 3, 1) := by decide +kernel
theorem dL_law_161 : decode cL_law 161 = .ok (.iconst 3, 1) := by decide +kernel
theorem dL_law_162 : decode cL_law 162 = .ok (.iadd, 1) := by decide +kernel
theorem dL_law_163 : decode cL_law 163 = .ok (.iaload, 1) := by decide +kernel
theorem dL_law_164 : decode cL_law 164 = .ok (.aload_n 0, 1) := by decide +kernel
theorem dL_law_165 : decode cL_law 165 = .ok (.iload_n 3, 1) := by decide +kernel
theorem dL_law_166 : decode cL_law 166 = .ok (.iconst 4, 1) := by decide +kernel
theorem dL_law_167 : decode cL_law 167 = .ok (.iadd, 1) := by decide +kernel
theorem dL_law_168 : decode cL_law 168 = .ok (.iaload, 1) := by decide +kernel
theorem dL_law_169 : decode cL_law 169 = .ok (.invokevirtual 17, 3) := by decide +kernel
theorem dL_law_172 : decode cL_law 172 = .ok (.if_icmp .eq 570, 3) := by decide +kernel
theorem dL_law_175 : decode cL_law 175 = .ok (.iconst 0, 1) := by decide +kernel
theorem dL_law_176 : decode cL_law 176 = .ok (.ireturn, 1) := by decide +kernel
theorem dL_law_177 : decode cL_law 177 = .ok (.aload_n 1, 1) := by decide +kernel
theorem dL_law_178 : decode cL_law 178 = .ok (.aload_n 0, 1) := by decide +kernel
theorem dL_law_179 : decode cL_law 179 = .ok (.iload_n 3, 1) := by decide +kernel
theorem dL_law_180 : decode cL_law 180 = .ok (.iconst 1, 1) := by decide +kernel
theorem dL_law_181 : decode cL_law 181 = .ok (.iadd, 1) := by decide +kernel
theorem dL_law_182 : decode cL_law 182 = .ok (.iaload, 1) := by decide +kernel
theorem dL_law_183 : decode cL_law 183 = .ok (.invokevirtual 18, 3) := by decide +kernel
theorem dL_law_186 : decode cL_law 186 = .ok (.aload_n 2, 1) := by decide +kernel
theorem dL_law_187 : decode cL_law 187 = .ok (.aload_n 0, 1) := by decide +kernel
theorem dL_law_188 : decode cL_law 188 = .ok (.iload_n 3, 1) := by decide +kernel
theorem dL_law_189 : decode cL_law 189 = .ok (.iconst 1, 1) := by decide +kernel
theorem dL_law_190 : decode cL_law 190 = .ok (.iadd, 1) := by decide +kernel
theorem dL_law_191 : decode cL_law 191 = .ok (.iaload, 1) := by decide +kernel
theorem dL_law_192 : decode cL_law 192 = .ok (.invokevirtual 22, 3) := by decide +kernel
theorem dL_law_195 : decode cL_law 195 = .ok (.if_icmp .eq 547, 3) := by decide +kernel
theorem dL_law_198 : decode cL_law 198 = .ok (.iconst 0, 1) := by decide +kernel
theorem dL_law_199 : decode cL_law 199 = .ok (.ireturn, 1) := by decide +kernel
theorem dL_law_200 : decode cL_law 200 = .ok (.aload_n 1, 1) := by decide +kernel
theorem dL_law_201 : decode cL_law 201 = .ok (.aload_n 0, 1) := by decide +kernel
theorem dL_law_202 : decode cL_law 202 = .ok (.iload_n 3, 1) := by decide +kernel
theorem dL_law_203 : decode cL_law 203 = .ok (.iconst 1, 1) := by decide +kernel
theorem dL_law_204 : decode cL_law 204 = .ok (.iadd, 1) := by decide +kernel
theorem dL_law_205 : decode cL_law 205 = .ok (.iaload, 1) := by decide +kernel
theorem dL_law_206 : decode cL_law 206 = .ok (.invokevirtual 23, 3) := by decide +kernel
theorem dL_law_209 : decode cL_law 209 = .ok (.aload_n 2, 1) := by decide +kernel
theorem dL_law_210 : decode cL_law 210 = .ok (.aload_n 0, 1) := by decide +kernel
theorem dL_law_211 : decode cL_law 211 = .ok (.iload_n 3, 1) := by decide +kernel
theorem dL_law_212 : decode cL_law 212 = .ok (.iconst 1, 1) := by decide +kernel
theorem dL_law_213 : decode cL_law 213 = .ok (.iadd, 1) := by decide +kernel
theorem dL_law_214 : decode cL_law 214 = .ok (.iaload, 1) := by decide +kernel
theorem dL_law_215 : decode cL_law 215 = .ok (.invokevirtual 26, 3) := by decide +kernel
theorem dL_law_218 : decode cL_law 218 = .ok (.if_icmp .eq 524, 3) := by decide +kernel
theorem dL_law_221 : decode cL_law 221 = .ok (.iconst 0, 1) := by decide +kernel
theorem dL_law_222 : decode cL_law 222 = .ok (.ireturn, 1) := by decide +kernel
theorem dL_law_223 : decode cL_law 223 = .ok (.aload_n 1, 1) := by decide +kernel
theorem dL_law_224 : decode cL_law 224 = .ok (.aload_n 0, 1) := by decide +kernel
theorem dL_law_225 : decode cL_law 225 = .ok (.iload_n 3, 1) := by decide +kernel
theorem dL_law_226 : decode cL_law 226 = .ok (.iconst 1, 1) := by decide +kernel
theorem dL_law_227 : decode cL_law 227 = .ok (.iadd, 1) := by decide +kernel
theorem dL_law_228 : decode cL_law 228 = .ok (.iaload, 1) := by decide +kernel
theorem dL_law_229 : decode cL_law 229 = .ok (.aload_n 0, 1) := by decide +kernel
theorem dL_law_230 : decode cL_law 230 = .ok (.iload_n 3, 1) := by decide +kernel
theorem dL_law_231 : decode cL_law 231 = .ok (.iconst 2, 1) := by decide +kernel
theorem dL_law_232 : decode cL_law 232 = .ok (.iadd, 1) := by decide +kernel
theorem dL_law_233 : decode cL_law 233 = .ok (.iaload, 1) := by decide +kernel
theorem dL_law_234 : decode cL_law 234 = .ok (.invokevirtual 27, 3) := by decide +kernel
theorem dL_law_237 : decode cL_law 237 = .ok (.aload_n 2, 1) := by decide +kernel
theorem dL_law_238 : decode cL_law 238 = .ok (.aload_n 0, 1) := by decide +kernel
theorem dL_law_239 : decode cL_law 239 = .ok (.iload_n 3, 1) := by decide +kernel
theorem dL_law_240 : decode cL_law 240 = .ok (.iconst 1, 1) := by decide +kernel
theorem dL_law_241 : decode cL_law 241 = .ok (.iadd, 1) := by decide +kernel
theorem dL_law_242 : decode cL_law 242 = .ok (.iaload, 1) := by decide +kernel
theorem dL_law_243 : decode cL_law 243 = .ok (.aload_n 0, 1) := by decide +kernel
theorem dL_law_244 : decode cL_law 244 = .ok (.iload_n 3, 1) := by decide +kernel
theorem dL_law_245 : decode cL_law 245 = .ok (.iconst 2, 1) := by decide +kernel
theorem dL_law_246 : decode cL_law 246 = .ok (.iadd, 1) := by decide +kernel
theorem dL_law_247 : decode cL_law 247 = .ok (.iaload, 1) := by decide +kernel
theorem dL_law_248 : decode cL_law 248 = .ok (.invokevirtual 31, 3) := by decide +kernel
theorem dL_law_251 : decode cL_law 251 = .ok (.if_icmp .eq 491, 3) := by decide +kernel
theorem dL_law_254 : decode cL_law 254 = .ok (.iconst 0, 1) := by decide +kernel
theorem dL_law_255 : decode cL_law 255 = .ok (.ireturn, 1) := by decide +kernel
theorem dL_law_256 : decode cL_law 256 = .ok (.aload_n 1, 1) := by decide +kernel
theorem dL_law_257 : decode cL_law 257 = .ok (.aload_n 0, 1) := by decide +kernel
theorem dL_law_258 : decode cL_law 258 = .ok (.iload_n 3, 1) := by decide +kernel
theorem dL_law_259 : decode cL_law 259 = .ok (.iconst 1, 1) := by decide +kernel
theorem dL_law_260 : decode cL_law 260 = .ok (.iadd, 1) := by decide +kernel
theorem dL_law_261 : decode cL_law 261 = .ok (.iaload, 1) := by decide +kernel
theorem dL_law_262 : decode cL_law 262 = .ok (.aload_n 0, 1) := by decide +kernel
theorem dL_law_263 : decode cL_law 263 = .ok (.iload_n 3, 1) := by decide +kernel
theorem dL_law_264 : decode cL_law 264 = .ok (.iconst 2, 1) := by decide +kernel
theorem dL_law_265 : decode cL_law 265 = .ok (.iadd, 1) := by decide +kernel
theorem dL_law_266 : decode cL_law 266 = .ok (.iaload, 1) := by decide +kernel
theorem dL_law_267 : decode cL_law 267 = .ok (.invokevirtual 32, 3) := by decide +kernel
theorem dL_law_270 : decode cL_law 270 = .ok (.aload_n 2, 1) := by decide +kernel
theorem dL_law_271 : decode cL_law 271 = .ok (.aload_n 0, 1) := by decide +kernel
theorem dL_law_272 : decode cL_law 272 = .ok (.iload_n 3, 1) := by decide +kernel
theorem dL_law_273 : decode cL_law 273 = .ok (.iconst 1, 1) := by decide +kernel
theorem dL_law_274 : decode cL_law 274 = .ok (.iadd, 1) := by decide +kernel
theorem dL_law_275 : decode cL_law 275 = .ok (.iaload, 1) := by decide +kernel
theorem dL_law_276 : decode cL_law 276 = .ok (.aload_n 0, 1) := by decide +kernel
theorem dL_law_277 : decode cL_law 277 = .ok (.iload_n 3, 1) := by decide +kernel
theorem dL_law_278 : decode cL_law 278 = .ok (.iconst 2, 1) := by decide +kernel
theorem dL_law_279 : decode cL_law 279 = .ok (.iadd, 1) := by decide +kernel
theorem dL_law_280 : decode cL_law 280 = .ok (.iaload, 1) := by decide +kernel
theorem dL_law_281 : decode cL_law 281 = .ok (.invokevirtual 35, 3) := by decide +kernel
theorem dL_law_284 : decode cL_law 284 = .ok (.if_icmp .eq 458, 3) := by decide +kernel
theorem dL_law_287 : decode cL_law 287 = .ok (.iconst 0, 1) := by decide +kernel
theorem dL_law_288 : decode cL_law 288 = .ok (.ireturn, 1) := by decide +kernel
theorem dL_law_289 : decode cL_law 289 = .ok (.aload_n 1, 1) := by decide +kernel
theorem dL_law_290 : decode cL_law 290 = .ok (.aload_n 0, 1) := by decide +kernel
theorem dL_law_291 : decode cL_law 291 = .ok (.iload_n 3, 1) := by decide +kernel
theorem dL_law_292 : decode cL_law 292 = .ok (.iconst 1, 1) := by decide +kernel
theorem dL_law_293 : decode cL_law 293 = .ok (.iadd, 1) := by decide +kernel
theorem dL_law_294 : decode cL_law 294 = .ok (.iaload, 1) := by decide +kernel
theorem dL_law_295 : decode cL_law 295 = .ok (.aload_n 0, 1) := by decide +kernel
theorem dL_law_296 : decode cL_law 296 = .ok (.iload_n 3, 1) := by decide +kernel
theorem dL_law_297 : decode cL_law 297 = .ok (.iconst 2, 1) := by decide +kernel
theorem dL_law_298 : decode cL_law 298 = .ok (.iadd, 1) := by decide +kernel
theorem dL_law_299 : decode cL_law 299 = .ok (.iaload, 1) := by decide +kernel
theorem dL_law_300 : decode cL_law 300 = .ok (.invokevirtual 36, 3) := by decide +kernel
theorem dL_law_303 : decode cL_law 303 = .ok (.aload_n 2, 1) := by decide +kernel
theorem dL_law_304 : decode cL_law 304 = .ok (.aload_n 0, 1) := by decide +kernel
theorem dL_law_305 : decode cL_law 305 = .ok (.iload_n 3, 1) := by decide +kernel
theorem dL_law_306 : decode cL_law 306 = .ok (.iconst 1, 1) := by decide +kernel
theorem dL_law_307 : decode cL_law 307 = .ok (.iadd, 1) := by decide +kernel
theorem dL_law_308 : decode cL_law 308 = .ok (.iaload, 1) := by decide +kernel
theorem dL_law_309 : decode cL_law 309 = .ok (.aload_n 0, 1) := by decide +kernel
theorem dL_law_310 : decode cL_law 310 = .ok (.iload_n 3, 1) := by decide +kernel
theorem dL_law_311 : decode cL_law 311 = .ok (.iconst 2, 1) := by decide +kernel
theorem dL_law_312 : decode cL_law 312 = .ok (.iadd, 1) := by decide +kernel
theorem dL_law_313 : decode cL_law 313 = .ok (.iaload, 1) := by decide +kernel
theorem dL_law_314 : decode cL_law 314 = .ok (.invokevirtual 39, 3) := by decide +kernel
theorem dL_law_317 : decode cL_law 317 = .ok (.if_icmp .eq 425, 3) := by decide +kernel
theorem dL_law_320 : decode cL_law 320 = .ok (.iconst 0, 1) := by decide +kernel
theorem dL_law_321 : decode cL_law 321 = .ok (.ireturn, 1) := by decide +kernel
theorem dL_law_322 : decode cL_law 322 = .ok (.aload_n 1, 1) := by decide +kernel
theorem dL_law_323 : decode cL_law 323 = .ok (.aload_n 0, 1) := by decide +kernel
theorem dL_law_324 : decode cL_law 324 = .ok (.iload_n 3, 1) := by decide +kernel
theorem dL_law_325 : decode cL_law 325 = .ok (.iconst 1, 1) := by decide +kernel
theorem dL_law_326 : decode cL_law 326 = .ok (.iadd, 1) := by decide +kernel
theorem dL_law_327 : decode cL_law 327 = .ok (.iaload, 1) := by decide +kernel
theorem dL_law_328 : decode cL_law 328 = .ok (.invokevirtual 40, 3) := by decide +kernel
theorem dL_law_331 : decode cL_law 331 = .ok (.aload_n 2, 1) := by decide +kernel
theorem dL_law_332 : decode cL_law 332 = .ok (.aload_n 0, 1) := by decide +kernel
theorem dL_law_333 : decode cL_law 333 = .ok (.iload_n 3, 1) := by decide +kernel
theorem dL_law_334 : decode cL_law 334 = .ok (.iconst 1, 1) := by decide +kernel
theorem dL_law_335 : decode cL_law 335 = .ok (.iadd, 1) := by decide +kernel
theorem dL_law_336 : decode cL_law 336 = .ok (.iaload, 1) := by decide +kernel
theorem dL_law_337 : decode cL_law 337 = .ok (.invokevirtual 44, 3) := by decide +kernel
theorem dL_law_340 : decode cL_law 340 = .ok (.lcmp, 1) := by decide +kernel
theorem dL_law_341 : decode cL_law 341 = .ok (.ifCond .eq 401, 3) := by decide +kernel
theorem dL_law_344 : decode cL_law 344 = .ok (.iconst 0, 1) := by decide +kernel
theorem dL_law_345 : decode cL_law 345 = .ok (.ireturn, 1) := by decide +kernel
theorem dL_law_346 : decode cL_law 346 = .ok (.aload_n 1, 1) := by decide +kernel
theorem dL_law_347 : decode cL_law 347 = .ok (.aload_n 0, 1) := by decide +kernel
theorem dL_law_348 : decode cL_law 348 = .ok (.iload_n 3, 1) := by decide +kernel
theorem dL_law_349 : decode cL_law 349 = .ok (.iconst 1, 1) := by decide +kernel
theorem dL_law_350 : decode cL_law 350 = .ok (.iadd, 1) := by decide +kernel
theorem dL_law_351 : decode cL_law 351 = .ok (.iaload, 1) := by decide +kernel
theorem dL_law_352 : decode cL_law 352 = .ok (.invokevirtual 45, 3) := by decide +kernel
theorem dL_law_355 : decode cL_law 355 = .ok (.aload_n 2, 1) := by decide +kernel
theorem dL_law_356 : decode cL_law 356 = .ok (.aload_n 0, 1) := by decide +kernel
theorem dL_law_357 : decode cL_law 357 = .ok (.iload_n 3, 1) := by decide +kernel
theorem dL_law_358 : decode cL_law 358 = .ok (.iconst 1, 1) := by decide +kernel
theorem dL_law_359 : decode cL_law 359 = .ok (.iadd, 1) := by decide +kernel
theorem dL_law_360 : decode cL_law 360 = .ok (.iaload, 1) := by decide +kernel
theorem dL_law_361 : decode cL_law 361 = .ok (.invokevirtual 48, 3) := by decide +kernel
theorem dL_law_364 : decode cL_law 364 = .ok (.if_icmp .eq 378, 3) := by decide +kernel
theorem dL_law_367 : decode cL_law 367 = .ok (.iconst 0, 1) := by decide +kernel
theorem dL_law_368 : decode cL_law 368 = .ok (.ireturn, 1) := by decide +kernel
theorem dL_law_369 : decode cL_law 369 = .ok (.aload_n 1, 1) := by decide +kernel
theorem dL_law_370 : decode cL_law 370 = .ok (.aload_n 0, 1) := by decide +kernel
theorem dL_law_371 : decode cL_law 371 = .ok (.iload_n 3, 1) := by decide +kernel
theorem dL_law_372 : decode cL_law 372 = .ok (.iconst 1, 1) := by decide +kernel
theorem dL_law_373 : decode cL_law 373 = .ok (.iadd, 1) := by decide +kernel
theorem dL_law_374 : decode cL_law 374 = .ok (.iaload, 1) := by decide +kernel
theorem dL_law_375 : decode cL_law 375 = .ok (.aload_n 0, 1) := by decide +kernel
theorem dL_law_376 : decode cL_law 376 = .ok (.iload_n 3, 1) := by decide +kernel
theorem dL_law_377 : decode cL_law 377 = .ok (.iconst 2, 1) := by decide +kernel
theorem dL_law_378 : decode cL_law 378 = .ok (.iadd, 1) := by decide +kernel
theorem dL_law_379 : decode cL_law 379 = .ok (.iaload, 1) := by decide +kernel
theorem dL_law_380 : decode cL_law 380 = .ok (.aload_n 0, 1) := by decide +kernel
theorem dL_law_381 : decode cL_law 381 = .ok (.iload_n 3, 1) := by decide +kernel
theorem dL_law_382 : decode cL_law 382 = .ok (.iconst 3, 1) := by decide +kernel
theorem dL_law_383 : decode cL_law 383 = .ok (.iadd, 1) := by decide +kernel
theorem dL_law_384 : decode cL_law 384 = .ok (.iaload, 1) := by decide +kernel
theorem dL_law_385 : decode cL_law 385 = .ok (.invokevirtual 49, 3) := by decide +kernel
theorem dL_law_388 : decode cL_law 388 = .ok (.aload_n 2, 1) := by decide +kernel
theorem dL_law_389 : decode cL_law 389 = .ok (.aload_n 0, 1) := by decide +kernel
theorem dL_law_390 : decode cL_law 390 = .ok (.iload_n 3, 1) := by decide +kernel
theorem dL_law_391 : decode cL_law 391 = .ok (.iconst 1, 1) := by decide +kernel
theorem dL_law_392 : decode cL_law 392 = .ok (.iadd, 1) := by decide +kernel
theorem dL_law_393 : decode cL_law 393 = .ok (.iaload, 1) := by decide +kernel
theorem dL_law_394 : decode cL_law 394 = .ok (.aload_n 0, 1) := by decide +kernel
theorem dL_law_395 : decode cL_law 395 = .ok (.iload_n 3, 1) := by decide +kernel
theorem dL_law_396 : decode cL_law 396 = .ok (.iconst 2, 1) := by decide +kernel
theorem dL_law_397 : decode cL_law 397 = .ok (.iadd, 1) := by decide +kernel
theorem dL_law_398 : decode cL_law 398 = .ok (.iaload, 1) := by decide +kernel
theorem dL_law_399 : decode cL_law 399 = .ok (.aload_n 0, 1) := by decide +kernel
theorem dL_law_400 : decode cL_law 400 = .ok (.iload_n 3, 1) := by decide +kernel
theorem dL_law_401 : decode cL_law 401 = .ok (.iconst 3, 1) := by decide +kernel
theorem dL_law_402 : decode cL_law 402 = .ok (.iadd, 1) := by decide +kernel
theorem dL_law_403 : decode cL_law 403 = .ok (.iaload, 1) := by decide +kernel
theorem dL_law_404 : decode cL_law 404 = .ok (.invokevirtual 53, 3) := by decide +kernel
theorem dL_law_407 : decode cL_law 407 = .ok (.if_icmp .eq 335, 3) := by decide +kernel
theorem dL_law_410 : decode cL_law 410 = .ok (.iconst 0, 1) := by decide +kernel
theorem dL_law_411 : decode cL_law 411 = .ok (.ireturn, 1) := by decide +kernel
theorem dL_law_412 : decode cL_law 412 = .ok (.aload_n 1, 1) := by decide +kernel
theorem dL_law_413 : decode cL_law 413 = .ok (.aload_n 0, 1) := by decide +kernel
theorem dL_law_414 : decode cL_law 414 = .ok (.iload_n 3, 1) := by decide +kernel
theorem dL_law_415 : decode cL_law 415 = .ok (.iconst 1, 1) := by decide +kernel
theorem dL_law_416 : decode cL_law 416 = .ok (.iadd, 1) := by decide +kernel
theorem dL_law_417 : decode cL_law 417 = .ok (.iaload, 1) := by decide +kernel
theorem dL_law_418 : decode cL_law 418 = .ok (.aload_n 0, 1) := by decide +kernel
theorem dL_law_419 : decode cL_law 419 = .ok (.iload_n 3, 1) := by decide +kernel
theorem dL_law_420 : decode cL_law 420 = .ok (.iconst 2, 1) := by decide +kernel
theorem dL_law_421 : decode cL_law 421 = .ok (.iadd, 1) := by decide +kernel
theorem dL_law_422 : decode cL_law 422 = .ok (.iaload, 1) := by decide +kernel
theorem dL_law_423 : decode cL_law 423 = .ok (.aload_n 0, 1) := by decide +kernel
theorem dL_law_424 : decode cL_law 424 = .ok (.iload_n 3, 1) := by decide +kernel
theorem dL_law_425 : decode cL_law 425 = .ok (.iconst 3, 1) := by decide +kernel
theorem dL_law_426 : decode cL_law 426 = .ok (.iadd, 1) := by decide +kernel
theorem dL_law_427 : decode cL_law 427 = .ok (.iaload, 1) := by decide +kernel
theorem dL_law_428 : decode cL_law 428 = .ok (.aload_n 0, 1) := by decide +kernel
theorem dL_law_429 : decode cL_law 429 = .ok (.iload_n 3, 1) := by decide +kernel
theorem dL_law_430 : decode cL_law 430 = .ok (.iconst 4, 1) := by decide +kernel
theorem dL_law_431 : decode cL_law 431 = .ok (.iadd, 1) := by decide +kernel
theorem dL_law_432 : decode cL_law 432 = .ok (.iaload, 1) := by decide +kernel
theorem dL_law_433 : decode cL_law 433 = .ok (.invokevirtual 54, 3) := by decide +kernel
theorem dL_law_436 : decode cL_law 436 = .ok (.aload_n 2, 1) := by decide +kernel
theorem dL_law_437 : decode cL_law 437 = .ok (.aload_n 0, 1) := by decide +kernel
theorem dL_law_438 : decode cL_law 438 = .ok (.iload_n 3, 1) := by decide +kernel
theorem dL_law_439 : decode cL_law 439 = .ok (.iconst 1, 1) := by decide +kernel
theorem dL_law_440 : decode cL_law 440 = .ok (.iadd, 1) := by decide +kernel
theorem dL_law_441 : decode cL_law 441 = .ok (.iaload, 1) := by decide +kernel
theorem dL_law_442 : decode cL_law 442 = .ok (.aload_n 0, 1) := by decide +kernel
theorem dL_law_443 : decode cL_law 443 = .ok (.iload_n 3, 1) := by decide +kernel
theorem dL_law_444 : decode cL_law 444 = .ok (.iconst 2, 1) := by decide +kernel
theorem dL_law_445 : decode cL_law 445 = .ok (.iadd, 1) := by decide +kernel
theorem dL_law_446 : decode cL_law 446 = .ok (.iaload, 1) := by decide +kernel
theorem dL_law_447 : decode cL_law 447 = .ok (.aload_n 0, 1) := by decide +kernel
theorem dL_law_448 : decode cL_law 448 = .ok (.iload_n 3, 1) := by decide +kernel
theorem dL_law_449 : decode cL_law 449 = .ok (.iconst 3, 1) := by decide +kernel
theorem dL_law_450 : decode cL_law 450 = .ok (.iadd, 1) := by decide +kernel
theorem dL_law_451 : decode cL_law 451 = .ok (.iaload, 1) := by decide +kernel
theorem dL_law_452 : decode cL_law 452 = .ok (.aload_n 0, 1) := by decide +kernel
theorem dL_law_453 : decode cL_law 453 = .ok (.iload_n 3, 1) := by decide +kernel
theorem dL_law_454 : decode cL_law 454 = .ok (.iconst 4, 1) := by decide +kernel
theorem dL_law_455 : decode cL_law 455 = .ok (.iadd, 1) := by decide +kernel
theorem dL_law_456 : decode cL_law 456 = .ok (.iaload, 1) := by decide +kernel
theorem dL_law_457 : decode cL_law 457 = .ok (.invokevirtual 57, 3) := by decide +kernel
theorem dL_law_460 : decode cL_law 460 = .ok (.if_icmp .eq 282, 3) := by decide +kernel
theorem dL_law_463 : decode cL_law 463 = .ok (.iconst 0, 1) := by decide +kernel
theorem dL_law_464 : decode cL_law 464 = .ok (.ireturn, 1) := by decide +kernel
theorem dL_law_465 : decode cL_law 465 = .ok (.aload_n 1, 1) := by decide +kernel
theorem dL_law_466 : decode cL_law 466 = .ok (.aload_n 0, 1) := by decide +kernel
theorem dL_law_467 : decode cL_law 467 = .ok (.iload_n 3, 1) := by decide +kernel
theorem dL_law_468 : decode cL_law 468 = .ok (.iconst 1, 1) := by decide +kernel
theorem dL_law_469 : decode cL_law 469 = .ok (.iadd, 1) := by decide +kernel
theorem dL_law_470 : decode cL_law 470 = .ok (.iaload, 1) := by decide +kernel
theorem dL_law_471 : decode cL_law 471 = .ok (.aload_n 0, 1) := by decide +kernel
theorem dL_law_472 : decode cL_law 472 = .ok (.iload_n 3, 1) := by decide +kernel
theorem dL_law_473 : decode cL_law 473 = .ok (.iconst 2, 1) := by decide +kernel
theorem dL_law_474 : decode cL_law 474 = .ok (.iadd, 1) := by decide +kernel
theorem dL_law_475 : decode cL_law 475 = .ok (.iaload, 1) := by decide +kernel
theorem dL_law_476 : decode cL_law 476 = .ok (.aload_n 0, 1) := by decide +kernel
theorem dL_law_477 : decode cL_law 477 = .ok (.iload_n 3, 1) := by decide +kernel
theorem dL_law_478 : decode cL_law 478 = .ok (.iconst 3, 1) := by decide +kernel
theorem dL_law_479 : decode cL_law 479 = .ok (.iadd, 1) := by decide +kernel
theorem dL_law_480 : decode cL_law 480 = .ok (.iaload, 1) := by decide +kernel
theorem dL_law_481 : decode cL_law 481 = .ok (.aload_n 0, 1) := by decide +kernel
theorem dL_law_482 : decode cL_law 482 = .ok (.iload_n 3, 1) := by decide +kernel
theorem dL_law_483 : decode cL_law 483 = .ok (.iconst 4, 1) := by decide +kernel
theorem dL_law_484 : decode cL_law 484 = .ok (.iadd, 1) := by decide +kernel
theorem dL_law_485 : decode cL_law 485 = .ok (.iaload, 1) := by decide +kernel
theorem dL_law_486 : decode cL_law 486 = .ok (.invokevirtual 58, 3) := by decide +kernel
theorem dL_law_489 : decode cL_law 489 = .ok (.aload_n 2, 1) := by decide +kernel
theorem dL_law_490 : decode cL_law 490 = .ok (.aload_n 0, 1) := by decide +kernel
theorem dL_law_491 : decode cL_law 491 = .ok (.iload_n 3, 1) := by decide +kernel
theorem dL_law_492 : decode cL_law 492 = .ok (.iconst 1, 1) := by decide +kernel
theorem dL_law_493 : decode cL_law 493 = .ok (.iadd, 1) := by decide +kernel
theorem dL_law_494 : decode cL_law 494 = .ok (.iaload, 1) := by decide +kernel
theorem dL_law_495 : decode cL_law 495 = .ok (.aload_n 0, 1) := by decide +kernel
theorem dL_law_496 : decode cL_law 496 = .ok (.iload_n 3, 1) := by decide +kernel
theorem dL_law_497 : decode cL_law 497 = .ok (.iconst 2, 1) := by decide +kernel
theorem dL_law_498 : decode cL_law 498 = .ok (.iadd, 1) := by decide +kernel
theorem dL_law_499 : decode cL_law 499 = .ok (.iaload, 1) := by decide +kernel
theorem dL_law_500 : decode cL_law 500 = .ok (.aload_n 0, 1) := by decide +kernel
theorem dL_law_501 : decode cL_law 501 = .ok (.iload_n 3, 1) := by decide +kernel
theorem dL_law_502 : decode cL_law 502 = .ok (.iconst 3, 1) := by decide +kernel
theorem dL_law_503 : decode cL_law 503 = .ok (.iadd, 1) := by decide +kernel
theorem dL_law_504 : decode cL_law 504 = .ok (.iaload, 1) := by decide +kernel
theorem dL_law_505 : decode cL_law 505 = .ok (.aload_n 0, 1) := by decide +kernel
theorem dL_law_506 : decode cL_law 506 = .ok (.iload_n 3, 1) := by decide +kernel
theorem dL_law_507 : decode cL_law 507 = .ok (.iconst 4, 1) := by decide +kernel
theorem dL_law_508 : decode cL_law 508 = .ok (.iadd, 1) := by decide +kernel
theorem dL_law_509 : decode cL_law 509 = .ok (.iaload, 1) := by decide +kernel
theorem dL_law_510 : decode cL_law 510 = .ok (.invokevirtual 61, 3) := by decide +kernel
theorem dL_law_513 : decode cL_law 513 = .ok (.if_icmp .eq 229, 3) := by decide +kernel
theorem dL_law_516 : decode cL_law 516 = .ok (.iconst 0, 1) := by decide +kernel
theorem dL_law_517 : decode cL_law 517 = .ok (.ireturn, 1) := by decide +kernel
theorem dL_law_518 : decode cL_law 518 = .ok (.aload_n 1, 1) := by decide +kernel
theorem dL_law_519 : decode cL_law 519 = .ok (.aload_n 0, 1) := by decide +kernel
theorem dL_law_520 : decode cL_law 520 = .ok (.iload_n 3, 1) := by decide +kernel
theorem dL_law_521 : decode cL_law 521 = .ok (.iconst 1, 1) := by decide +kernel
theorem dL_law_522 : decode cL_law 522 = .ok (.iadd, 1) := by decide +kernel
theorem dL_law_523 : decode cL_law 523 = .ok (.iaload, 1) := by decide +kernel
theorem dL_law_524 : decode cL_law 524 = .ok (.aload_n 0, 1) := by decide +kernel
theorem dL_law_525 : decode cL_law 525 = .ok (.iload_n 3, 1) := by decide +kernel
theorem dL_law_526 : decode cL_law 526 = .ok (.iconst 2, 1) := by decide +kernel
theorem dL_law_527 : decode cL_law 527 = .ok (.iadd, 1) := by decide +kernel
theorem dL_law_528 : decode cL_law 528 = .ok (.iaload, 1) := by decide +kernel
theorem dL_law_529 : decode cL_law 529 = .ok (.invokevirtual 62, 3) := by decide +kernel
theorem dL_law_532 : decode cL_law 532 = .ok (.aload_n 2, 1) := by decide +kernel
theorem dL_law_533 : decode cL_law 533 = .ok (.aload_n 0, 1) := by decide +kernel
theorem dL_law_534 : decode cL_law 534 = .ok (.iload_n 3, 1) := by decide +kernel
theorem dL_law_535 : decode cL_law 535 = .ok (.iconst 1, 1) := by decide +kernel
theorem dL_law_536 : decode cL_law 536 = .ok (.iadd, 1) := by decide +kernel
theorem dL_law_537 : decode cL_law 537 = .ok (.iaload, 1) := by decide +kernel
theorem dL_law_538 : decode cL_law 538 = .ok (.aload_n 0, 1) := by decide +kernel
theorem dL_law_539 : decode cL_law 539 = .ok (.iload_n 3, 1) := by decide +kernel
theorem dL_law_540 : decode cL_law 540 = .ok (.iconst 2, 1) := by decide +kernel
theorem dL_law_541 : decode cL_law 541 = .ok (.iadd, 1) := by decide +kernel
theorem dL_law_542 : decode cL_law 542 = .ok (.iaload, 1) := by decide +kernel
theorem dL_law_543 : decode cL_law 543 = .ok (.invokevirtual 65, 3) := by decide +kernel
theorem dL_law_546 : decode cL_law 546 = .ok (.if_icmp .eq 196, 3) := by decide +kernel
theorem dL_law_549 : decode cL_law 549 = .ok (.iconst 0, 1) := by decide +kernel
theorem dL_law_550 : decode cL_law 550 = .ok (.ireturn, 1) := by decide +kernel
theorem dL_law_551 : decode cL_law 551 = .ok (.aload_n 1, 1) := by decide +kernel
theorem dL_law_552 : decode cL_law 552 = .ok (.aload_n 0, 1) := by decide +kernel
theorem dL_law_553 : decode cL_law 553 = .ok (.iload_n 3, 1) := by decide +kernel
theorem dL_law_554 : decode cL_law 554 = .ok (.iconst 1, 1) := by decide +kernel
theorem dL_law_555 : decode cL_law 555 = .ok (.iadd, 1) := by decide +kernel
theorem dL_law_556 : decode cL_law 556 = .ok (.iaload, 1) := by decide +kernel
theorem dL_law_557 : decode cL_law 557 = .ok (.aload_n 0, 1) := by decide +kernel
theorem dL_law_558 : decode cL_law 558 = .ok (.iload_n 3, 1) := by decide +kernel
theorem dL_law_559 : decode cL_law 559 = .ok (.iconst 2, 1) := by decide +kernel
theorem dL_law_560 : decode cL_law 560 = .ok (.iadd, 1) := by decide +kernel
theorem dL_law_561 : decode cL_law 561 = .ok (.iaload, 1) := by decide +kernel
theorem dL_law_562 : decode cL_law 562 = .ok (.invokevirtual 66, 3) := by decide +kernel
theorem dL_law_565 : decode cL_law 565 = .ok (.aload_n 2, 1) := by decide +kernel
theorem dL_law_566 : decode cL_law 566 = .ok (.aload_n 0, 1) := by decide +kernel
theorem dL_law_567 : decode cL_law 567 = .ok (.iload_n 3, 1) := by decide +kernel
theorem dL_law_568 : decode cL_law 568 = .ok (.iconst 1, 1) := by decide +kernel
theorem dL_law_569 : decode cL_law 569 = .ok (.iadd, 1) := by decide +kernel
theorem dL_law_570 : decode cL_law 570 = .ok (.iaload, 1) := by decide +kernel
theorem dL_law_571 : decode cL_law 571 = .ok (.aload_n 0, 1) := by decide +kernel
theorem dL_law_572 : decode cL_law 572 = .ok (.iload_n 3, 1) := by decide +kernel
theorem dL_law_573 : decode cL_law 573 = .ok (.iconst 2, 1) := by decide +kernel
theorem dL_law_574 : decode cL_law 574 = .ok (.iadd, 1) := by decide +kernel
theorem dL_law_575 : decode cL_law 575 = .ok (.iaload, 1) := by decide +kernel
theorem dL_law_576 : decode cL_law 576 = .ok (.invokevirtual 69, 3) := by decide +kernel
theorem dL_law_579 : decode cL_law 579 = .ok (.if_icmp .eq 163, 3) := by decide +kernel
theorem dL_law_582 : decode cL_law 582 = .ok (.iconst 0, 1) := by decide +kernel
theorem dL_law_583 : decode cL_law 583 = .ok (.ireturn, 1) := by decide +kernel
theorem dL_law_584 : decode cL_law 584 = .ok (.aload_n 1, 1) := by decide +kernel
theorem dL_law_585 : decode cL_law 585 = .ok (.aload_n 0, 1) := by decide +kernel
theorem dL_law_586 : decode cL_law 586 = .ok (.iload_n 3, 1) := by decide +kernel
theorem dL_law_587 : decode cL_law 587 = .ok (.iconst 1, 1) := by decide +kernel
theorem dL_law_588 : decode cL_law 588 = .ok (.iadd, 1) := by decide +kernel
theorem dL_law_589 : decode cL_law 589 = .ok (.iaload, 1) := by decide +kernel
theorem dL_law_590 : decode cL_law 590 = .ok (.aload_n 0, 1) := by decide +kernel
theorem dL_law_591 : decode cL_law 591 = .ok (.iload_n 3, 1) := by decide +kernel
theorem dL_law_592 : decode cL_law 592 = .ok (.iconst 2, 1) := by decide +kernel
theorem dL_law_593 : decode cL_law 593 = .ok (.iadd, 1) := by decide +kernel
theorem dL_law_594 : decode cL_law 594 = .ok (.iaload, 1) := by decide +kernel
theorem dL_law_595 : decode cL_law 595 = .ok (.invokevirtual 70, 3) := by decide +kernel
theorem dL_law_598 : decode cL_law 598 = .ok (.aload_n 2, 1) := by decide +kernel
theorem dL_law_599 : decode cL_law 599 = .ok (.aload_n 0, 1) := by decide +kernel
theorem dL_law_600 : decode cL_law 600 = .ok (.iload_n 3, 1) := by decide +kernel
theorem dL_law_601 : decode cL_law 601 = .ok (.iconst 1, 1) := by decide +kernel
theorem dL_law_602 : decode cL_law 602 = .ok (.iadd, 1) := by decide +kernel
theorem dL_law_603 : decode cL_law 603 = .ok (.iaload, 1) := by decide +kernel
theorem dL_law_604 : decode cL_law 604 = .ok (.aload_n 0, 1) := by decide +kernel
theorem dL_law_605 : decode cL_law 605 = .ok (.iload_n 3, 1) := by decide +kernel
theorem dL_law_606 : decode cL_law 606 = .ok (.iconst 2, 1) := by decide +kernel
theorem dL_law_607 : decode cL_law 607 = .ok (.iadd, 1) := by decide +kernel
theorem dL_law_608 : decode cL_law 608 = .ok (.iaload, 1) := by decide +kernel
theorem dL_law_609 : decode cL_law 609 = .ok (.invokevirtual 73, 3) := by decide +kernel
theorem dL_law_612 : decode cL_law 612 = .ok (.if_icmp .eq 130, 3) := by decide +kernel
theorem dL_law_615 : decode cL_law 615 = .ok (.iconst 0, 1) := by decide +kernel
theorem dL_law_616 : decode cL_law 616 = .ok (.ireturn, 1) := by decide +kernel
theorem dL_law_617 : decode cL_law 617 = .ok (.aload_n 1, 1) := by decide +kernel
theorem dL_law_618 : decode cL_law 618 = .ok (.aload_n 0, 1) := by decide +kernel
theorem dL_law_619 : decode cL_law 619 = .ok (.iload_n 3, 1) := by decide +kernel
theorem dL_law_620 : decode cL_law 620 = .ok (.iconst 1, 1) := by decide +kernel
theorem dL_law_621 : decode cL_law 621 = .ok (.iadd, 1) := by decide +kernel
theorem dL_law_622 : decode cL_law 622 = .ok (.iaload, 1) := by decide +kernel
theorem dL_law_623 : decode cL_law 623 = .ok (.aload_n 0, 1) := by decide +kernel
theorem dL_law_624 : decode cL_law 624 = .ok (.iload_n 3, 1) := by decide +kernel
theorem dL_law_625 : decode cL_law 625 = .ok (.iconst 2, 1) := by decide +kernel
theorem dL_law_626 : decode cL_law 626 = .ok (.iadd, 1) := by decide +kernel
theorem dL_law_627 : decode cL_law 627 = .ok (.iaload, 1) := by decide +kernel
theorem dL_law_628 : decode cL_law 628 = .ok (.invokevirtual 74, 3) := by decide +kernel
theorem dL_law_631 : decode cL_law 631 = .ok (.aload_n 2, 1) := by decide +kernel
theorem dL_law_632 : decode cL_law 632 = .ok (.aload_n 0, 1) := by decide +kernel
theorem dL_law_633 : decode cL_law 633 = .ok (.iload_n 3, 1) := by decide +kernel
theorem dL_law_634 : decode cL_law 634 = .ok (.iconst 1, 1) := by decide +kernel
theorem dL_law_635 : decode cL_law 635 = .ok (.iadd, 1) := by decide +kernel
theorem dL_law_636 : decode cL_law 636 = .ok (.iaload, 1) := by decide +kernel
theorem dL_law_637 : decode cL_law 637 = .ok (.aload_n 0, 1) := by decide +kernel
theorem dL_law_638 : decode cL_law 638 = .ok (.iload_n 3, 1) := by decide +kernel
theorem dL_law_639 : decode cL_law 639 = .ok (.iconst 2, 1) := by decide +kernel
theorem dL_law_640 : decode cL_law 640 = .ok (.iadd, 1) := by decide +kernel
theorem dL_law_641 : decode cL_law 641 = .ok (.iaload, 1) := by decide +kernel
theorem dL_law_642 : decode cL_law 642 = .ok (.invokevirtual 77, 3) := by decide +kernel
theorem dL_law_645 : decode cL_law 645 = .ok (.if_icmp .eq 97, 3) := by decide +kernel
theorem dL_law_648 : decode cL_law 648 = .ok (.iconst 0, 1) := by decide +kernel
theorem dL_law_649 : decode cL_law 649 = .ok (.ireturn, 1) := by decide +kernel
theorem dL_law_650 : decode cL_law 650 = .ok (.aload_n 1, 1) := by decide +kernel
theorem dL_law_651 : decode cL_law 651 = .ok (.aload_n 0, 1) := by decide +kernel
theorem dL_law_652 : decode cL_law 652 = .ok (.iload_n 3, 1) := by decide +kernel
theorem dL_law_653 : decode cL_law 653 = .ok (.iconst 1, 1) := by decide +kernel
theorem dL_law_654 : decode cL_law 654 = .ok (.iadd, 1) := by decide +kernel
theorem dL_law_655 : decode cL_law 655 = .ok (.iaload, 1) := by decide +kernel
theorem dL_law_656 : decode cL_law 656 = .ok (.invokevirtual 78, 3) := by decide +kernel
theorem dL_law_659 : decode cL_law 659 = .ok (.aload_n 2, 1) := by decide +kernel
theorem dL_law_660 : decode cL_law 660 = .ok (.aload_n 0, 1) := by decide +kernel
theorem dL_law_661 : decode cL_law 661 = .ok (.iload_n 3, 1) := by decide +kernel
theorem dL_law_662 : decode cL_law 662 = .ok (.iconst 1, 1) := by decide +kernel
theorem dL_law_663 : decode cL_law 663 = .ok (.iadd, 1) := by decide +kernel
theorem dL_law_664 : decode cL_law 664 = .ok (.iaload, 1) := by decide +kernel
theorem dL_law_665 : decode cL_law 665 = .ok (.invokevirtual 81, 3) := by decide +kernel
theorem dL_law_668 : decode cL_law 668 = .ok (.if_icmp .eq 74, 3) := by decide +kernel
theorem dL_law_671 : decode cL_law 671 = .ok (.iconst 0, 1) := by decide +kernel
theorem dL_law_672 : decode cL_law 672 = .ok (.ireturn, 1) := by decide +kernel
theorem dL_law_673 : decode cL_law 673 = .ok (.aload_n 1, 1) := by decide +kernel
theorem dL_law_674 : decode cL_law 674 = .ok (.aload_n 0, 1) := by decide +kernel
theorem dL_law_675 : decode cL_law 675 = .ok (.iload_n 3, 1) := by decide +kernel
theorem dL_law_676 : decode cL_law 676 = .ok (.iconst 1, 1) := by decide +kernel
theorem dL_law_677 : decode cL_law 677 = .ok (.iadd, 1) := by decide +kernel
theorem dL_law_678 : decode cL_law 678 = .ok (.iaload, 1) := by decide +kernel
theorem dL_law_679 : decode cL_law 679 = .ok (.invokevirtual 82, 3) := by decide +kernel
theorem dL_law_682 : decode cL_law 682 = .ok (.aload_n 2, 1) := by decide +kernel
theorem dL_law_683 : decode cL_law 683 = .ok (.aload_n 0, 1) := by decide +kernel
theorem dL_law_684 : decode cL_law 684 = .ok (.iload_n 3, 1) := by decide +kernel
theorem dL_law_685 : decode cL_law 685 = .ok (.iconst 1, 1) := by decide +kernel
theorem dL_law_686 : decode cL_law 686 = .ok (.iadd, 1) := by decide +kernel
theorem dL_law_687 : decode cL_law 687 = .ok (.iaload, 1) := by decide +kernel
theorem dL_law_688 : decode cL_law 688 = .ok (.invokevirtual 85, 3) := by decide +kernel
theorem dL_law_691 : decode cL_law 691 = .ok (.if_icmp .eq 51, 3) := by decide +kernel
theorem dL_law_694 : decode cL_law 694 = .ok (.iconst 0, 1) := by decide +kernel
theorem dL_law_695 : decode cL_law 695 = .ok (.ireturn, 1) := by decide +kernel
theorem dL_law_696 : decode cL_law 696 = .ok (.aload_n 1, 1) := by decide +kernel
theorem dL_law_697 : decode cL_law 697 = .ok (.aload_n 0, 1) := by decide +kernel
theorem dL_law_698 : decode cL_law 698 = .ok (.iload_n 3, 1) := by decide +kernel
theorem dL_law_699 : decode cL_law 699 = .ok (.iconst 1, 1) := by decide +kernel
theorem dL_law_700 : decode cL_law 700 = .ok (.iadd, 1) := by decide +kernel
theorem dL_law_701 : decode cL_law 701 = .ok (.iaload, 1) := by decide +kernel
theorem dL_law_702 : decode cL_law 702 = .ok (.invokevirtual 86, 3) := by decide +kernel
theorem dL_law_705 : decode cL_law 705 = .ok (.aload_n 2, 1) := by decide +kernel
theorem dL_law_706 : decode cL_law 706 = .ok (.aload_n 0, 1) := by decide +kernel
theorem dL_law_707 : decode cL_law 707 = .ok (.iload_n 3, 1) := by decide +kernel
theorem dL_law_708 : decode cL_law 708 = .ok (.iconst 1, 1) := by decide +kernel
theorem dL_law_709 : decode cL_law 709 = .ok (.iadd, 1) := by decide +kernel
theorem dL_law_710 : decode cL_law 710 = .ok (.iaload, 1) := by decide +kernel
theorem dL_law_711 : decode cL_law 711 = .ok (.invokevirtual 89, 3) := by decide +kernel
theorem dL_law_714 : decode cL_law 714 = .ok (.if_icmp .eq 28, 3) := by decide +kernel
theorem dL_law_717 : decode cL_law 717 = .ok (.iconst 0, 1) := by decide +kernel
theorem dL_law_718 : decode cL_law 718 = .ok (.ireturn, 1) := by decide +kernel
theorem dL_law_719 : decode cL_law 719 = .ok (.aload_n 1, 1) := by decide +kernel
theorem dL_law_720 : decode cL_law 720 = .ok (.aload_n 0, 1) := by decide +kernel
theorem dL_law_721 : decode cL_law 721 = .ok (.iload_n 3, 1) := by decide +kernel
theorem dL_law_722 : decode cL_law 722 = .ok (.iconst 1, 1) := by decide +kernel
theorem dL_law_723 : decode cL_law 723 = .ok (.iadd, 1) := by decide +kernel
theorem dL_law_724 : decode cL_law 724 = .ok (.iaload, 1) := by decide +kernel
theorem dL_law_725 : decode cL_law 725 = .ok (.invokevirtual 90, 3) := by decide +kernel
theorem dL_law_728 : decode cL_law 728 = .ok (.aload_n 2, 1) := by decide +kernel
theorem dL_law_729 : decode cL_law 729 = .ok (.aload_n 0, 1) := by decide +kernel
theorem dL_law_730 : decode cL_law 730 = .ok (.iload_n 3, 1) := by decide +kernel
theorem dL_law_731 : decode cL_law 731 = .ok (.iconst 1, 1) := by decide +kernel
theorem dL_law_732 : decode cL_law 732 = .ok (.iadd, 1) := by decide +kernel
theorem dL_law_733 : decode cL_law 733 = .ok (.iaload, 1) := by decide +kernel
theorem dL_law_734 : decode cL_law 734 = .ok (.invokevirtual 93, 3) := by decide +kernel
theorem dL_law_737 : decode cL_law 737 = .ok (.if_icmp .eq 5, 3) := by decide +kernel
theorem dL_law_740 : decode cL_law 740 = .ok (.iconst 0, 1) := by decide +kernel
theorem dL_law_741 : decode cL_law 741 = .ok (.ireturn, 1) := by decide +kernel
theorem dL_law_742 : decode cL_law 742 = .ok (.iinc 3 5, 3) := by decide +kernel
theorem dL_law_745 : decode cL_law 745 = .ok (.goto (-727), 3) := by decide +kernel
theorem dL_law_748 : decode cL_law 748 = .ok (.iconst 1, 1) := by decide +kernel
theorem dL_law_749 : decode cL_law 749 = .ok (.ireturn, 1) := by decide +kernel
